theorem z_M_behind_246_ok{d w : Nat} (N : Nat) (hd : 4 ≤ d) (hw : 93 ≤ w) (A : zA) : zG (z_M_behind_246 N A) zPI d w 164 246 [some (.inr (.inr (some 226))), none, none, none, none] [] A := by
  unfold z_M_behind_246
  refine js_aload (pc1 := 247) rfl rfl rfl ?_
  refine js_cV (pc1 := 250) (as := [(.inr (.inr (some 226)))]) (S0 := []) (m := 1) (L0 := [some (.inr (.inr (some 226)))]) rfl rfl rfl rfl rfl rfl rfl rfl (zrc_o rfl rfl) (by omega) (by omega) (z_M_whole_ok N (by omega) (by omega) A) (fun A1 _ => ?_)
  refine js_iconst (pc1 := 251) rfl rfl ?_
  exact je_I rfl (zfit0 _ rfl) rfl (zlit rfl)
theorem z_M_behind_131_ok{d w : Nat} (N : Nat) (hd : 4 ≤ d) (hw : 93 ≤ w) (s0 : Int) (hs0 : zrg s0) (A : zA) : zG (z_M_behind_131 N s0 A) zPI d w 164 131 [some (.inr (.inr (some 226))), none, none, none, none] [(.inl s0)] A := by
  unfold z_M_behind_131
  refine js_istore (pc1 := 132) (L1 := [some (.inr (.inr (some 226))), none, none, some (.inl s0), none]) rfl rfl rfl rfl ?_
  refine js_aload (pc1 := 133) rfl rfl rfl ?_
  refine js_gi (pc1 := 136) (j := 19) rfl rfl rfl rfl ?_
  refine ju_ne (pc1 := 139) (t1 := 141) (zi_rg _ _ _) rfl rfl rfl (fun c1 => ?_) (fun c1 => ?_)
  · refine js_iconst (pc1 := 140) rfl rfl ?_
    exact je_I rfl (zfit0 _ rfl) rfl (zlit rfl)
  · refine js_iload (pc1 := 142) rfl rfl rfl ?_
    refine ju_eq (pc1 := 145) (t1 := 160) hs0 rfl rfl rfl (fun c2 => ?_) (fun c2 => ?_)
    · refine js_aload (pc1 := 161) rfl rfl rfl ?_
      refine js_iconst (pc1 := 162) rfl rfl ?_
      refine jt_pbl (pc1 := 165) (j := 16) rfl rfl rfl rfl rfl (Or.inr rfl) (fun A3 => ?_)
      refine js_iconst (pc1 := 166) rfl rfl ?_
      exact je_I rfl (zfit0 _ rfl) rfl (zlit rfl)
    · refine js_aload (pc1 := 146) rfl rfl rfl ?_
      refine js_gfr (pc1 := 149) (j := 22) (r := 235) rfl rfl rfl rfl rfl ?_
      refine js_aload (pc1 := 150) rfl rfl rfl ?_
      refine js_gi (pc1 := 153) (j := 19) rfl rfl rfl rfl ?_
      refine js_iconst (pc1 := 154) rfl rfl ?_
      refine js_isub (pc1 := 155) rfl rfl ?_
      refine jt_ald (pc1 := 156) rfl rfl rfl rfl rfl (fun v4 hv4 => ?_)
      refine js_iload (pc1 := 157) rfl rfl rfl ?_
      refine jt_eq (pc1 := 160) (t1 := 167) hv4 hs0 rfl rfl rfl (fun c5 => ?_) (fun c5 => ?_)
      · refine js_aload (pc1 := 168) rfl rfl rfl ?_
        refine js_dupR (pc1 := 169) rfl rfl ?_
        refine js_gi (pc1 := 172) (j := 19) rfl rfl rfl rfl ?_
        refine js_iconst (pc1 := 173) rfl rfl ?_
        refine js_isub (pc1 := 174) rfl rfl ?_
        refine jt_pi (pc1 := 177) (j := 19) rfl rfl rfl rfl rfl (fun A6 => ?_)
        refine js_aload (pc1 := 178) rfl rfl rfl ?_
        refine js_dupR (pc1 := 179) rfl rfl ?_
        refine js_gi (pc1 := 182) (j := 21) rfl rfl rfl rfl ?_
        refine js_iconst (pc1 := 183) rfl rfl ?_
        refine js_isub (pc1 := 184) rfl rfl ?_
        refine jt_pi (pc1 := 187) (j := 21) rfl rfl rfl rfl rfl (fun A7 => ?_)
        refine js_aload (pc1 := 188) rfl rfl rfl ?_
        refine js_dupR (pc1 := 189) rfl rfl ?_
        refine js_gi (pc1 := 192) (j := 13) rfl rfl rfl rfl ?_
        refine js_iconst (pc1 := 193) rfl rfl ?_
        refine js_iadd (pc1 := 194) rfl rfl ?_
        refine jt_pi (pc1 := 197) (j := 13) rfl rfl rfl rfl rfl (fun A8 => ?_)
        refine js_iload (pc1 := 198) rfl rfl rfl ?_
        refine js_iconst (pc1 := 199) rfl rfl ?_
        refine jt_ne (pc1 := 202) (t1 := 246) hs0 (zlit rfl) rfl rfl rfl (fun c9 => ?_) (fun c9 => ?_)
        · refine js_aload (pc1 := 203) rfl rfl rfl ?_
          refine js_cI (pc1 := 206) (as := [(.inr (.inr (some 226)))]) (S0 := []) (m := 1) (L0 := [some (.inr (.inr (some 226)))]) rfl rfl rfl rfl rfl rfl rfl rfl (zrc_o rfl rfl) (by omega) (by omega) (z_M_fresh_ok N (by omega) (by omega) A8) (fun v10 A11 _ hv10 => ?_)
          refine js_istore (pc1 := 208) (L1 := [some (.inr (.inr (some 226))), none, none, some (.inl s0), some (.inl v10)]) rfl rfl rfl rfl ?_
          refine js_aload (pc1 := 209) rfl rfl rfl ?_
          refine js_iconst (pc1 := 210) rfl rfl ?_
          refine js_aload (pc1 := 211) rfl rfl rfl ?_
          refine js_gi (pc1 := 214) (j := 14) rfl rfl rfl rfl ?_
          refine js_iconst (pc1 := 215) rfl rfl ?_
          refine js_iload (pc1 := 217) rfl rfl rfl ?_
          refine js_aload (pc1 := 218) rfl rfl rfl ?_
          refine js_gfr (pc1 := 221) (j := 23) (r := 236) rfl rfl rfl rfl rfl ?_
          refine js_aload (pc1 := 222) rfl rfl rfl ?_
          refine js_gi (pc1 := 225) (j := 20) rfl rfl rfl rfl ?_
          refine js_iconst (pc1 := 226) rfl rfl ?_
          refine js_isub (pc1 := 227) rfl rfl ?_
          refine jt_ald (pc1 := 228) rfl rfl rfl rfl rfl (fun v12 hv12 => ?_)
          refine js_iconst (pc1 := 229) rfl rfl ?_
          refine js_iconst (pc1 := 230) rfl rfl ?_
          refine js_cV (pc1 := 233) (as := [(.inr (.inr (some 226))), (.inl 1), (.inl (zi A11 226 14)), (.inl 3), (.inl v10), (.inl v12), (.inl 0), (.inl 0)]) (S0 := []) (m := 9) (L0 := [some (.inr (.inr (some 226))), some (.inl 1), some (.inl (zi A11 226 14)), some (.inl 3), some (.inl v10), some (.inl v12), some (.inl 0), some (.inl 0), none]) rfl rfl rfl rfl rfl rfl rfl rfl (zrc_o rfl rfl) (by omega) (by omega) (z_M_emit_ok N (by omega) (by omega) 1 (zlit rfl) (zi A11 226 14) (zi_rg _ _ _) 3 (zlit rfl) v10 hv10 v12 hv12 0 (zlit rfl) 0 (zlit rfl) A11) (fun A13 _ => ?_)
          refine js_aload (pc1 := 234) rfl rfl rfl ?_
          refine js_gfr (pc1 := 237) (j := 23) (r := 236) rfl rfl rfl rfl rfl ?_
          refine js_aload (pc1 := 238) rfl rfl rfl ?_
          refine js_gi (pc1 := 241) (j := 20) rfl rfl rfl rfl ?_
          refine js_iconst (pc1 := 242) rfl rfl ?_
          refine js_isub (pc1 := 243) rfl rfl ?_
          refine js_iload (pc1 := 245) rfl rfl rfl ?_
          refine jt_ias (pc1 := 246) rfl rfl rfl rfl (fun A14 => ?_)
          exact zG_to (L := [some (.inr (.inr (some 226))), none, none, none, none]) (S := []) ⟨rfl, trivial⟩ (rfl) (z_M_behind_246_ok N hd hw A14)
        · exact zG_to (L := [some (.inr (.inr (some 226))), none, none, none, none]) (S := []) ⟨rfl, trivial⟩ (rfl) (z_M_behind_246_ok N hd hw A8)
      · refine js_aload (pc1 := 161) rfl rfl rfl ?_
        refine js_iconst (pc1 := 162) rfl rfl ?_
        refine jt_pbl (pc1 := 165) (j := 16) rfl rfl rfl rfl rfl (Or.inr rfl) (fun A15 => ?_)
        refine js_iconst (pc1 := 166) rfl rfl ?_
        exact je_I rfl (zfit0 _ rfl) rfl (zlit rfl)
theorem z_M_behind_ok{d w : Nat} (N : Nat) (hd : 4 ≤ d) (hw : 93 ≤ w) (A : zA) : zG (z_M_behind N A) zPI d w 164 0 [some (.inr (.inr (some 226))), none, none, none, none] [] A := by
  unfold z_M_behind
  refine js_aload (pc1 := 1) rfl rfl rfl ?_
  refine js_cP (pc1 := 4) (as := [(.inr (.inr (some 226)))]) (S0 := []) (m := 1) (L0 := [some (.inr (.inr (some 226)))]) rfl rfl rfl rfl rfl rfl rfl rfl (zrc_o rfl rfl) (by omega) (by omega) (z_M_look_ok N (by omega) (by omega) A) (fun v1 _ hv1 => ?_)
  refine js_istore (pc1 := 5) (L1 := [some (.inr (.inr (some 226))), some (.inl v1), none, none, none]) rfl rfl rfl rfl ?_
  refine js_iload (pc1 := 6) rfl rfl rfl ?_
  refine js_cP (pc1 := 9) (as := [(.inl v1)]) (S0 := []) (m := 1) (L0 := [some (.inl v1)]) rfl rfl rfl rfl rfl rfl rfl rfl (zrc_s rfl) (by omega) (by omega) (z_M_operatorOf_ok N (by omega) (by omega) v1 hv1 A) (fun v2 _ hv2 => ?_)
  refine js_istore (pc1 := 10) (L1 := [some (.inr (.inr (some 226))), some (.inl v1), some (.inl v2), none, none]) rfl rfl rfl rfl ?_
  refine js_iload (pc1 := 11) rfl rfl rfl ?_
  refine ju_lt (pc1 := 14) (t1 := 105) hv2 rfl rfl rfl (fun c3 => ?_) (fun c3 => ?_)
  · refine js_aload (pc1 := 106) rfl rfl rfl ?_
    refine js_iconst (pc1 := 107) rfl rfl ?_
    refine js_cV (pc1 := 110) (as := [(.inr (.inr (some 226))), (.inl 1)]) (S0 := []) (m := 2) (L0 := [some (.inr (.inr (some 226))), some (.inl 1)]) rfl rfl rfl rfl rfl rfl rfl rfl (zrc_o rfl rfl) (by omega) (by omega) (z_M_reduce_ok N (by omega) (by omega) 1 (zlit rfl) A) (fun A4 _ => ?_)
    refine js_iload (pc1 := 111) rfl rfl rfl ?_
    refine js_iconst (pc1 := 113) rfl rfl ?_
    refine jt_ne (pc1 := 116) (t1 := 120) hv1 (zlit rfl) rfl rfl rfl (fun c5 => ?_) (fun c5 => ?_)
    · refine js_iconst (pc1 := 117) rfl rfl ?_
      refine js_goto (t1 := 131) rfl rfl ?_
      exact zG_to (L := [some (.inr (.inr (some 226))), none, none, none, none]) (S := [(.inl 1)]) ⟨rfl, trivial⟩ (rfl) (z_M_behind_131_ok N hd hw 1 (zlit rfl) A4)
    · refine js_iload (pc1 := 121) rfl rfl rfl ?_
      refine js_iconst (pc1 := 123) rfl rfl ?_
      refine jt_ne (pc1 := 126) (t1 := 130) hv1 (zlit rfl) rfl rfl rfl (fun c6 => ?_) (fun c6 => ?_)
      · refine js_iconst (pc1 := 127) rfl rfl ?_
        refine js_goto (t1 := 131) rfl rfl ?_
        exact zG_to (L := [some (.inr (.inr (some 226))), none, none, none, none]) (S := [(.inl 2)]) ⟨rfl, trivial⟩ (rfl) (z_M_behind_131_ok N hd hw 2 (zlit rfl) A4)
      · refine js_iconst (pc1 := 131) rfl rfl ?_
        exact zG_to (L := [some (.inr (.inr (some 226))), none, none, none, none]) (S := [(.inl 0)]) ⟨rfl, trivial⟩ (rfl) (z_M_behind_131_ok N hd hw 0 (zlit rfl) A4)
  · refine js_aload (pc1 := 15) rfl rfl rfl ?_
    refine js_iload (pc1 := 16) rfl rfl rfl ?_
    refine js_cP (pc1 := 19) (as := [(.inl v2)]) (S0 := [(.inr (.inr (some 226)))]) (m := 1) (L0 := [some (.inl v2)]) rfl rfl rfl rfl rfl rfl rfl rfl (zrc_s rfl) (by omega) (by omega) (z_M_strength_ok N (by omega) (by omega) v2 hv2 A) (fun v7 _ hv7 => ?_)
    refine js_iconst (pc1 := 20) rfl rfl ?_
    refine jt_ne (pc1 := 23) (t1 := 27) hv7 (zlit rfl) rfl rfl rfl (fun c8 => ?_) (fun c8 => ?_)
    · refine js_iconst (pc1 := 24) rfl rfl ?_
      refine js_goto (t1 := 31) rfl rfl ?_
      exact zG_to (L := [some (.inr (.inr (some 226))), none, some (.inl v2), none, none]) (S := [(.inl 2), (.inr (.inr (some 226)))]) ⟨rfl, ⟨rfl, trivial⟩⟩ (rfl) (z_M_behind_31_ok N hd hw v2 hv2 2 (zlit rfl) A)
    · refine js_iload (pc1 := 28) rfl rfl rfl ?_
      refine js_cP (pc1 := 31) (as := [(.inl v2)]) (S0 := [(.inr (.inr (some 226)))]) (m := 1) (L0 := [some (.inl v2)]) rfl rfl rfl rfl rfl rfl rfl rfl (zrc_s rfl) (by omega) (by omega) (z_M_strength_ok N (by omega) (by omega) v2 hv2 A) (fun v9 _ hv9 => ?_)
      exact zG_to (L := [some (.inr (.inr (some 226))), none, some (.inl v2), none, none]) (S := [(.inl v9), (.inr (.inr (some 226)))]) ⟨rfl, ⟨rfl, trivial⟩⟩ (rfl) (z_M_behind_31_ok N hd hw v2 hv2 v9 hv9 A)
theorem z_M_expression_56_ok{d w : Nat} {r19 : Int → Int → zA → Option (Int × zA)} (hr19 : ∀ (x1 : Int) (hx1 : zrg x1) (x2 : Int) (hx2 : zrg x2) (A : zA), zG (r19 x1 x2 A) zPI d w 136 19 [some (.inr (.inr (some 226))), some (.inl x1), some (.inl x2), none] [] A) (N : Nat) (hd : 5 ≤ d) (hw : 117 ≤ w) (x3 : Int) (hx3 : zrg x3) (s0 : Int) (hs0 : zrg s0) (A : zA) : zG (z_M_expression_56 r19 N x3 s0 A) zPI d w 136 56 [some (.inr (.inr (some 226))), none, none, some (.inl x3)] [(.inl s0)] A := by
  unfold z_M_expression_56
  refine js_istore (pc1 := 57) (L1 := [some (.inr (.inr (some 226))), some (.inl s0), none, some (.inl x3)]) rfl rfl rfl rfl ?_
  refine js_iload (pc1 := 58) rfl rfl rfl ?_
  refine js_iconst (pc1 := 59) rfl rfl ?_
  refine jt_eq (pc1 := 62) (t1 := 66) hx3 (zlit rfl) rfl rfl rfl (fun c1 => ?_) (fun c1 => ?_)
  · refine js_iconst (pc1 := 67) rfl rfl ?_
    refine js_istore (pc1 := 68) (L1 := [some (.inr (.inr (some 226))), some (.inl s0), some (.inl 0), some (.inl x3)]) rfl rfl rfl rfl ?_
    refine js_goto (t1 := 19) rfl rfl ?_
    exact zG_to (L := [some (.inr (.inr (some 226))), some (.inl s0), some (.inl 0), none]) (S := []) ⟨rfl, ⟨rfl, ⟨rfl, trivial⟩⟩⟩ (rfl) (hr19 s0 hs0 0 (zlit rfl) A)
  · refine js_iconst (pc1 := 63) rfl rfl ?_
    refine js_goto (t1 := 67) rfl rfl ?_
    refine js_istore (pc1 := 68) (L1 := [some (.inr (.inr (some 226))), some (.inl s0), some (.inl 1), some (.inl x3)]) rfl rfl rfl rfl ?_
    refine js_goto (t1 := 19) rfl rfl ?_
    exact zG_to (L := [some (.inr (.inr (some 226))), some (.inl s0), some (.inl 1), none]) (S := []) ⟨rfl, ⟨rfl, ⟨rfl, trivial⟩⟩⟩ (rfl) (hr19 s0 hs0 1 (zlit rfl) A)
theorem z_M_expression_71_ok{d w : Nat} (N : Nat) (hd : 5 ≤ d) (hw : 117 ≤ w) (A : zA) : zG (z_M_expression_71 N A) zPI d w 136 71 [some (.inr (.inr (some 226))), none, none, none] [] A := by
  unfold z_M_expression_71
  refine js_aload (pc1 := 72) rfl rfl rfl ?_
  refine js_gi (pc1 := 75) (j := 16) rfl rfl rfl rfl ?_
  refine ju_eq (pc1 := 78) (t1 := 82) (zi_rg _ _ _) rfl rfl rfl (fun c1 => ?_) (fun c1 => ?_)
  · refine js_aload (pc1 := 83) rfl rfl rfl ?_
    refine js_gfr (pc1 := 86) (j := 23) (r := 236) rfl rfl rfl rfl rfl ?_
    refine js_iconst (pc1 := 87) rfl rfl ?_
    refine jt_ald (pc1 := 88) rfl rfl rfl rfl rfl (fun v2 hv2 => ?_)
    exact je_I rfl (zfit0 _ rfl) rfl hv2
  · refine js_iconst (pc1 := 79) rfl rfl ?_
    refine js_goto (t1 := 88) rfl rfl ?_
    exact je_I rfl (zfit0 _ rfl) rfl (zlit rfl)
theorem z_M_expression_19_bok{d w : Nat} {r19 : Int → Int → zA → Option (Int × zA)} (hr19 : ∀ (x1 : Int) (hx1 : zrg x1) (x2 : Int) (hx2 : zrg x2) (A : zA), zG (r19 x1 x2 A) zPI d w 136 19 [some (.inr (.inr (some 226))), some (.inl x1), some (.inl x2), none] [] A) (N : Nat) (hd : 5 ≤ d) (hw : 117 ≤ w) (x1 : Int) (hx1 : zrg x1) (x2 : Int) (hx2 : zrg x2) (A : zA) : zG (z_M_expression_19_b r19 N x1 x2 A) zPI d w 136 19 [some (.inr (.inr (some 226))), some (.inl x1), some (.inl x2), none] [] A := by
  unfold z_M_expression_19_b
  refine js_iload (pc1 := 20) rfl rfl rfl ?_
  refine ju_eq (pc1 := 23) (t1 := 71) hx2 rfl rfl rfl (fun c1 => ?_) (fun c1 => ?_)
  · exact zG_to (L := [some (.inr (.inr (some 226))), none, none, none]) (S := []) ⟨rfl, trivial⟩ (rfl) (z_M_expression_71_ok N hd hw A)
  · refine js_aload (pc1 := 24) rfl rfl rfl ?_
    refine js_gi (pc1 := 27) (j := 16) rfl rfl rfl rfl ?_
    refine ju_ne (pc1 := 30) (t1 := 71) (zi_rg _ _ _) rfl rfl rfl (fun c2 => ?_) (fun c2 => ?_)
    · refine js_iload (pc1 := 31) rfl rfl rfl ?_
      refine ju_eq (pc1 := 34) (t1 := 42) hx1 rfl rfl rfl (fun c3 => ?_) (fun c3 => ?_)
      · refine js_aload (pc1 := 43) rfl rfl rfl ?_
        refine js_cI (pc1 := 46) (as := [(.inr (.inr (some 226)))]) (S0 := []) (m := 5) (L0 := [some (.inr (.inr (some 226))), none, none, none, none]) rfl rfl rfl rfl rfl rfl rfl rfl (zrc_o rfl rfl) (by omega) (by omega) (z_M_behind_ok N (by omega) (by omega) A) (fun v4 A5 _ hv4 => ?_)
        refine js_istore (pc1 := 47) (L1 := [some (.inr (.inr (some 226))), some (.inl x1), some (.inl x2), some (.inl v4)]) rfl rfl rfl rfl ?_
        refine js_iload (pc1 := 48) rfl rfl rfl ?_
        refine ju_ne (pc1 := 51) (t1 := 55) hv4 rfl rfl rfl (fun c6 => ?_) (fun c6 => ?_)
        · refine js_iconst (pc1 := 52) rfl rfl ?_
          refine js_goto (t1 := 56) rfl rfl ?_
          exact zG_to (L := [some (.inr (.inr (some 226))), none, none, some (.inl v4)]) (S := [(.inl 1)]) ⟨rfl, ⟨rfl, trivial⟩⟩ (rfl) (z_M_expression_56_ok hr19 N hd hw v4 hv4 1 (zlit rfl) A5)
        · refine js_iconst (pc1 := 56) rfl rfl ?_
          exact zG_to (L := [some (.inr (.inr (some 226))), none, none, some (.inl v4)]) (S := [(.inl 0)]) ⟨rfl, ⟨rfl, trivial⟩⟩ (rfl) (z_M_expression_56_ok hr19 N hd hw v4 hv4 0 (zlit rfl) A5)
      · refine js_aload (pc1 := 35) rfl rfl rfl ?_
        refine js_cI (pc1 := 38) (as := [(.inr (.inr (some 226)))]) (S0 := []) (m := 4) (L0 := [some (.inr (.inr (some 226))), none, none, none]) rfl rfl rfl rfl rfl rfl rfl rfl (zrc_o rfl rfl) (by omega) (by omega) (z_M_factor_ok N (by omega) (by omega) A) (fun v7 A8 _ hv7 => ?_)
        refine js_istore (pc1 := 39) (L1 := [some (.inr (.inr (some 226))), some (.inl v7), some (.inl x2), none]) rfl rfl rfl rfl ?_
        refine js_goto (t1 := 19) rfl rfl ?_
        exact hr19 v7 hv7 x2 hx2 A8
    · exact zG_to (L := [some (.inr (.inr (some 226))), none, none, none]) (S := []) ⟨rfl, trivial⟩ (rfl) (z_M_expression_71_ok N hd hw A)
theorem z_M_expression_19_lok{d w : Nat} (N : Nat) (hd : 5 ≤ d) (hw : 117 ≤ w) (n : Nat) : ∀ (x1 : Int) (hx1 : zrg x1) (x2 : Int) (hx2 : zrg x2) (A : zA), zG (z_M_expression_19_l N n x1 x2 A) zPI d w 136 19 [some (.inr (.inr (some 226))), some (.inl x1), some (.inl x2), none] [] A := by
  induction n with
  | zero => intros; exact zG_none
  | succ n ih =>
    intro x1 hx1 x2 hx2 A
    exact z_M_expression_19_bok ih N hd hw x1 hx1 x2 hx2 A
theorem z_M_expression_19_ok{d w : Nat} (N : Nat) (hd : 5 ≤ d) (hw : 117 ≤ w) (x1 : Int) (hx1 : zrg x1) (x2 : Int) (hx2 : zrg x2) (A : zA) : zG (z_M_expression_19 N x1 x2 A) zPI d w 136 19 [some (.inr (.inr (some 226))), some (.inl x1), some (.inl x2), none] [] A := z_M_expression_19_lok N hd hw N x1 hx1 x2 hx2 A
theorem z_M_expression_ok{d w : Nat} (N : Nat) (hd : 5 ≤ d) (hw : 117 ≤ w) (A : zA) : zG (z_M_expression N A) zPI d w 136 0 [some (.inr (.inr (some 226))), none, none, none] [] A := by
  unfold z_M_expression
  refine js_aload (pc1 := 1) rfl rfl rfl ?_
  refine js_iconst (pc1 := 2) rfl rfl ?_
  refine jt_pi (pc1 := 5) (j := 19) rfl rfl rfl rfl rfl (fun A1 => ?_)
  refine js_aload (pc1 := 6) rfl rfl rfl ?_
  refine js_iconst (pc1 := 7) rfl rfl ?_
  refine jt_pi (pc1 := 10) (j := 20) rfl rfl rfl rfl rfl (fun A2 => ?_)
  refine js_aload (pc1 := 11) rfl rfl rfl ?_
  refine js_iconst (pc1 := 12) rfl rfl ?_
  refine jt_pi (pc1 := 15) (j := 21) rfl rfl rfl rfl rfl (fun A3 => ?_)
  refine js_iconst (pc1 := 16) rfl rfl ?_
  refine js_istore (pc1 := 17) (L1 := [some (.inr (.inr (some 226))), some (.inl 1), none, none]) rfl rfl rfl rfl ?_
  refine js_iconst (pc1 := 18) rfl rfl ?_
  refine js_istore (pc1 := 19) (L1 := [some (.inr (.inr (some 226))), some (.inl 1), some (.inl 1), none]) rfl rfl rfl rfl ?_
  exact z_M_expression_19_ok N hd hw 1 (zlit rfl) 1 (zlit rfl) A3
theorem z_M_nested_138_ok{d w : Nat} (N : Nat) (hd : 6 ≤ d) (hw : 140 ≤ w) (x1 : Int) (hx1 : zrg x1) (s0 : Int) (hs0 : zrg s0) (A : zA) : zG (z_M_nested_138 N x1 s0 A) zPV d w 137 138 [some (.inr (.inr (some 226))), some (.inl x1), none] [(.inl s0)] A := by
  unfold z_M_nested_138
  refine js_istore (pc1 := 139) (L1 := [some (.inr (.inr (some 226))), some (.inl x1), some (.inl s0)]) rfl rfl rfl rfl ?_
  refine js_aload (pc1 := 140) rfl rfl rfl ?_
  refine js_iconst (pc1 := 141) rfl rfl ?_
  refine js_aload (pc1 := 142) rfl rfl rfl ?_
  refine js_gi (pc1 := 145) (j := 14) rfl rfl rfl rfl ?_
  refine js_iconst (pc1 := 147) rfl rfl ?_
  refine js_iload (pc1 := 148) rfl rfl rfl ?_
  refine js_iload (pc1 := 149) rfl rfl rfl ?_
  refine js_iconst (pc1 := 151) rfl rfl ?_
  refine js_isub (pc1 := 152) rfl rfl ?_
  refine js_iconst (pc1 := 153) rfl rfl ?_
  refine js_iconst (pc1 := 154) rfl rfl ?_
  refine js_cV (pc1 := 157) (as := [(.inr (.inr (some 226))), (.inl 1), (.inl (zi A 226 14)), (.inl 7), (.inl s0), (.inl (x1 - 80)), (.inl 0), (.inl 0)]) (S0 := []) (m := 9) (L0 := [some (.inr (.inr (some 226))), some (.inl 1), some (.inl (zi A 226 14)), some (.inl 7), some (.inl s0), some (.inl (x1 - 80)), some (.inl 0), some (.inl 0), none]) rfl rfl rfl rfl rfl rfl rfl rfl (zrc_o rfl rfl) (by omega) (by omega) (zG_to (L := [some (.inr (.inr (some 226))), some (.inl 1), some (.inl (zi A 226 14)), some (.inl 7), some (.inl s0), some (.inl (zw (x1 - 80))), some (.inl 0), some (.inl 0), none]) (S := []) ⟨rfl, ⟨rfl, ⟨rfl, ⟨rfl, ⟨rfl, ⟨zval_w (x1 - 80), ⟨rfl, ⟨rfl, trivial⟩⟩⟩⟩⟩⟩⟩⟩ rfl (z_M_emit_ok N (by omega) (by omega) 1 (zlit rfl) (zi A 226 14) (zi_rg _ _ _) 7 (zlit rfl) s0 hs0 (zw (x1 - 80)) (zw_rg (x1 - 80)) 0 (zlit rfl) 0 (zlit rfl) A)) (fun A1 _ => ?_)
  refine js_aload (pc1 := 158) rfl rfl rfl ?_
  refine js_iconst (pc1 := 160) rfl rfl ?_
  refine js_cV (pc1 := 163) (as := [(.inr (.inr (some 226))), (.inl 41)]) (S0 := []) (m := 2) (L0 := [some (.inr (.inr (some 226))), some (.inl 41)]) rfl rfl rfl rfl rfl rfl rfl rfl (zrc_o rfl rfl) (by omega) (by omega) (z_M_need_ok N (by omega) (by omega) 41 (zlit rfl) A1) (fun A2 _ => ?_)
  refine js_aload (pc1 := 164) rfl rfl rfl ?_
  refine js_iconst (pc1 := 166) rfl rfl ?_
  refine js_cV (pc1 := 169) (as := [(.inr (.inr (some 226))), (.inl 59)]) (S0 := []) (m := 2) (L0 := [some (.inr (.inr (some 226))), some (.inl 59)]) rfl rfl rfl rfl rfl rfl rfl rfl (zrc_o rfl rfl) (by omega) (by omega) (z_M_need_ok N (by omega) (by omega) 59 (zlit rfl) A2) (fun A3 _ => ?_)
  refine js_goto (t1 := 177) rfl rfl ?_
  exact je_V rfl
theorem z_M_nested_114_ok{d w : Nat} (N : Nat) (hd : 6 ≤ d) (hw : 140 ≤ w) (x1 : Int) (hx1 : zrg x1) (s0 : Int) (hs0 : zrg s0) (s1 : Int) (hs1 : zrg s1) (A : zA) : zG (z_M_nested_114 N x1 s0 s1 A) zPV d w 137 114 [some (.inr (.inr (some 226))), some (.inl x1), none] [(.inl s1), (.inl s0)] A := by
  unfold z_M_nested_114
  refine jt_ge (pc1 := 117) (t1 := 172) hs0 hs1 rfl rfl rfl (fun c1 => ?_) (fun c1 => ?_)
  · refine js_aload (pc1 := 118) rfl rfl rfl ?_
    refine js_iconst (pc1 := 120) rfl rfl ?_
    refine js_cV (pc1 := 123) (as := [(.inr (.inr (some 226))), (.inl 40)]) (S0 := []) (m := 2) (L0 := [some (.inr (.inr (some 226))), some (.inl 40)]) rfl rfl rfl rfl rfl rfl rfl rfl (zrc_o rfl rfl) (by omega) (by omega) (z_M_need_ok N (by omega) (by omega) 40 (zlit rfl) A) (fun A2 _ => ?_)
    refine js_aload (pc1 := 124) rfl rfl rfl ?_
    refine js_gi (pc1 := 127) (j := 16) rfl rfl rfl rfl ?_
    refine ju_eq (pc1 := 130) (t1 := 134) (zi_rg _ _ _) rfl rfl rfl (fun c3 => ?_) (fun c3 => ?_)
    · refine js_aload (pc1 := 135) rfl rfl rfl ?_
      refine js_cI (pc1 := 138) (as := [(.inr (.inr (some 226)))]) (S0 := []) (m := 4) (L0 := [some (.inr (.inr (some 226))), none, none, none]) rfl rfl rfl rfl rfl rfl rfl rfl (zrc_o rfl rfl) (by omega) (by omega) (z_M_expression_ok N (by omega) (by omega) A2) (fun v4 A5 _ hv4 => ?_)
      exact z_M_nested_138_ok N hd hw x1 hx1 v4 hv4 A5
    · refine js_iconst (pc1 := 131) rfl rfl ?_
      refine js_goto (t1 := 138) rfl rfl ?_
      exact z_M_nested_138_ok N hd hw x1 hx1 0 (zlit rfl) A2
  · refine js_aload (pc1 := 173) rfl rfl rfl ?_
    refine js_iconst (pc1 := 174) rfl rfl ?_
    refine jt_pbl (pc1 := 177) (j := 16) rfl rfl rfl rfl rfl (Or.inr rfl) (fun A6 => ?_)
    exact je_V rfl
theorem z_M_nested_ok{d w : Nat} (N : Nat) (hd : 6 ≤ d) (hw : 140 ≤ w) (x1 : Int) (hx1 : zrg x1) (A : zA) : zG (z_M_nested N x1 A) zPV d w 137 0 [some (.inr (.inr (some 226))), some (.inl x1), none] [] A := by
  unfold z_M_nested
  refine js_iload (pc1 := 1) rfl rfl rfl ?_
  refine js_iconst (pc1 := 3) rfl rfl ?_
  refine jt_ne (pc1 := 6) (t1 := 32) hx1 (zlit rfl) rfl rfl rfl (fun c1 => ?_) (fun c1 => ?_)
  · refine js_aload (pc1 := 7) rfl rfl rfl ?_
    refine js_iconst (pc1 := 8) rfl rfl ?_
    refine js_aload (pc1 := 9) rfl rfl rfl ?_
    refine js_gi (pc1 := 12) (j := 14) rfl rfl rfl rfl ?_
    refine js_iconst (pc1 := 14) rfl rfl ?_
    refine js_aload (pc1 := 15) rfl rfl rfl ?_
    refine js_cI (pc1 := 18) (as := [(.inr (.inr (some 226)))]) (S0 := [(.inl 8), (.inl (zi A 226 14)), (.inl 1), (.inr (.inr (some 226)))]) (m := 4) (L0 := [some (.inr (.inr (some 226))), none, none, none]) rfl rfl rfl rfl rfl rfl rfl rfl (zrc_o rfl rfl) (by omega) (by omega) (z_M_expression_ok N (by omega) (by omega) A) (fun v2 A3 _ hv2 => ?_)
    refine js_iconst (pc1 := 19) rfl rfl ?_
    refine js_iconst (pc1 := 20) rfl rfl ?_
    refine js_iconst (pc1 := 21) rfl rfl ?_
    refine js_cV (pc1 := 24) (as := [(.inr (.inr (some 226))), (.inl 1), (.inl (zi A 226 14)), (.inl 8), (.inl v2), (.inl 0), (.inl 0), (.inl 0)]) (S0 := []) (m := 9) (L0 := [some (.inr (.inr (some 226))), some (.inl 1), some (.inl (zi A 226 14)), some (.inl 8), some (.inl v2), some (.inl 0), some (.inl 0), some (.inl 0), none]) rfl rfl rfl rfl rfl rfl rfl rfl (zrc_o rfl rfl) (by omega) (by omega) (z_M_emit_ok N (by omega) (by omega) 1 (zlit rfl) (zi A 226 14) (zi_rg _ _ _) 8 (zlit rfl) v2 hv2 0 (zlit rfl) 0 (zlit rfl) 0 (zlit rfl) A3) (fun A4 _ => ?_)
    refine js_aload (pc1 := 25) rfl rfl rfl ?_
    refine js_iconst (pc1 := 26) rfl rfl ?_
    refine js_cV (pc1 := 29) (as := [(.inr (.inr (some 226))), (.inl 1)]) (S0 := []) (m := 2) (L0 := [some (.inr (.inr (some 226))), some (.inl 1)]) rfl rfl rfl rfl rfl rfl rfl rfl (zrc_o rfl rfl) (by omega) (by omega) (z_M_enter_ok N (by omega) (by omega) 1 (zlit rfl) A4) (fun A5 _ => ?_)
    refine js_goto (t1 := 177) rfl rfl ?_
    exact je_V rfl
  · refine js_iload (pc1 := 33) rfl rfl rfl ?_
    refine js_iconst (pc1 := 35) rfl rfl ?_
    refine jt_ne (pc1 := 38) (t1 := 79) hx1 (zlit rfl) rfl rfl rfl (fun c6 => ?_) (fun c6 => ?_)
    · refine js_aload (pc1 := 39) rfl rfl rfl ?_
      refine js_iconst (pc1 := 40) rfl rfl ?_
      refine js_aload (pc1 := 41) rfl rfl rfl ?_
      refine js_gi (pc1 := 44) (j := 14) rfl rfl rfl rfl ?_
      refine js_iconst (pc1 := 46) rfl rfl ?_
      refine js_iconst (pc1 := 47) rfl rfl ?_
      refine js_iconst (pc1 := 48) rfl rfl ?_
      refine js_iconst (pc1 := 49) rfl rfl ?_
      refine js_iconst (pc1 := 50) rfl rfl ?_
      refine js_cV (pc1 := 53) (as := [(.inr (.inr (some 226))), (.inl 1), (.inl (zi A 226 14)), (.inl 10), (.inl 0), (.inl 0), (.inl 0), (.inl 0)]) (S0 := []) (m := 9) (L0 := [some (.inr (.inr (some 226))), some (.inl 1), some (.inl (zi A 226 14)), some (.inl 10), some (.inl 0), some (.inl 0), some (.inl 0), some (.inl 0), none]) rfl rfl rfl rfl rfl rfl rfl rfl (zrc_o rfl rfl) (by omega) (by omega) (z_M_emit_ok N (by omega) (by omega) 1 (zlit rfl) (zi A 226 14) (zi_rg _ _ _) 10 (zlit rfl) 0 (zlit rfl) 0 (zlit rfl) 0 (zlit rfl) 0 (zlit rfl) A) (fun A7 _ => ?_)
      refine js_aload (pc1 := 54) rfl rfl rfl ?_
      refine js_iconst (pc1 := 55) rfl rfl ?_
      refine js_aload (pc1 := 56) rfl rfl rfl ?_
      refine js_gi (pc1 := 59) (j := 14) rfl rfl rfl rfl ?_
      refine js_iconst (pc1 := 61) rfl rfl ?_
      refine js_aload (pc1 := 62) rfl rfl rfl ?_
      refine js_cI (pc1 := 65) (as := [(.inr (.inr (some 226)))]) (S0 := [(.inl 11), (.inl (zi A7 226 14)), (.inl 1), (.inr (.inr (some 226)))]) (m := 4) (L0 := [some (.inr (.inr (some 226))), none, none, none]) rfl rfl rfl rfl rfl rfl rfl rfl (zrc_o rfl rfl) (by omega) (by omega) (z_M_expression_ok N (by omega) (by omega) A7) (fun v8 A9 _ hv8 => ?_)
      refine js_iconst (pc1 := 66) rfl rfl ?_
      refine js_iconst (pc1 := 67) rfl rfl ?_
      refine js_iconst (pc1 := 68) rfl rfl ?_
      refine js_cV (pc1 := 71) (as := [(.inr (.inr (some 226))), (.inl 1), (.inl (zi A7 226 14)), (.inl 11), (.inl v8), (.inl 0), (.inl 0), (.inl 0)]) (S0 := []) (m := 9) (L0 := [some (.inr (.inr (some 226))), some (.inl 1), some (.inl (zi A7 226 14)), some (.inl 11), some (.inl v8), some (.inl 0), some (.inl 0), some (.inl 0), none]) rfl rfl rfl rfl rfl rfl rfl rfl (zrc_o rfl rfl) (by omega) (by omega) (z_M_emit_ok N (by omega) (by omega) 1 (zlit rfl) (zi A7 226 14) (zi_rg _ _ _) 11 (zlit rfl) v8 hv8 0 (zlit rfl) 0 (zlit rfl) 0 (zlit rfl) A9) (fun A10 _ => ?_)
      refine js_aload (pc1 := 72) rfl rfl rfl ?_
      refine js_iconst (pc1 := 73) rfl rfl ?_
      refine js_cV (pc1 := 76) (as := [(.inr (.inr (some 226))), (.inl 3)]) (S0 := []) (m := 2) (L0 := [some (.inr (.inr (some 226))), some (.inl 3)]) rfl rfl rfl rfl rfl rfl rfl rfl (zrc_o rfl rfl) (by omega) (by omega) (z_M_enter_ok N (by omega) (by omega) 3 (zlit rfl) A10) (fun A11 _ => ?_)
      refine js_goto (t1 := 177) rfl rfl ?_
      exact je_V rfl
    · refine js_iload (pc1 := 80) rfl rfl rfl ?_
      refine js_iconst (pc1 := 82) rfl rfl ?_
      refine jt_lt (pc1 := 85) (t1 := 172) hx1 (zlit rfl) rfl rfl rfl (fun c12 => ?_) (fun c12 => ?_)
      · refine js_aload (pc1 := 173) rfl rfl rfl ?_
        refine js_iconst (pc1 := 174) rfl rfl ?_
        refine jt_pbl (pc1 := 177) (j := 16) rfl rfl rfl rfl rfl (Or.inr rfl) (fun A13 => ?_)
        exact je_V rfl
      · refine js_iload (pc1 := 86) rfl rfl rfl ?_
        refine js_iconst (pc1 := 88) rfl rfl ?_
        refine jt_gt (pc1 := 91) (t1 := 172) hx1 (zlit rfl) rfl rfl rfl (fun c14 => ?_) (fun c14 => ?_)
        · refine js_aload (pc1 := 173) rfl rfl rfl ?_
          refine js_iconst (pc1 := 174) rfl rfl ?_
          refine jt_pbl (pc1 := 177) (j := 16) rfl rfl rfl rfl rfl (Or.inr rfl) (fun A15 => ?_)
          exact je_V rfl
        · refine js_iload (pc1 := 92) rfl rfl rfl ?_
          refine js_iconst (pc1 := 94) rfl rfl ?_
          refine js_isub (pc1 := 95) rfl rfl ?_
          refine js_aload (pc1 := 96) rfl rfl rfl ?_
          refine js_gi (pc1 := 99) (j := 14) rfl rfl rfl rfl ?_
          refine js_iconst (pc1 := 100) rfl rfl ?_
          refine jt_ne (pc1 := 103) (t1 := 110) (zi_rg _ _ _) (zlit rfl) rfl rfl rfl (fun c16 => ?_) (fun c16 => ?_)
          · refine js_aload (pc1 := 104) rfl rfl rfl ?_
            refine js_gi (pc1 := 107) (j := 15) rfl rfl rfl rfl ?_
            refine js_goto (t1 := 114) rfl rfl ?_
            exact zG_to (L := [some (.inr (.inr (some 226))), some (.inl x1), none]) (S := [(.inl (zi A 226 15)), (.inl (zw (x1 - 80)))]) ⟨rfl, ⟨rfl, trivial⟩⟩ (by simp only [zS, List.map_cons, List.map_nil, zval_w]) (z_M_nested_114_ok N hd hw x1 hx1 (zw (x1 - 80)) (zw_rg (x1 - 80)) (zi A 226 15) (zi_rg _ _ _) A)
          · refine js_aload (pc1 := 111) rfl rfl rfl ?_
            refine js_gi (pc1 := 114) (j := 14) rfl rfl rfl rfl ?_
            exact zG_to (L := [some (.inr (.inr (some 226))), some (.inl x1), none]) (S := [(.inl (zi A 226 14)), (.inl (zw (x1 - 80)))]) ⟨rfl, ⟨rfl, trivial⟩⟩ (by simp only [zS, List.map_cons, List.map_nil, zval_w]) (z_M_nested_114_ok N hd hw x1 hx1 (zw (x1 - 80)) (zw_rg (x1 - 80)) (zi A 226 14) (zi_rg _ _ _) A)
theorem z_M_statement_104_ok{d w : Nat} (N : Nat) (hd : 7 ≤ d) (hw : 162 ≤ w) (x2 : Int) (hx2 : zrg x2) (s0 : Int) (hs0 : zrg s0) (A : zA) : zG (z_M_statement_104 N x2 s0 A) zPV d w 83 104 [some (.inr (.inr (some 226))), none, some (.inl x2), none] [(.inl s0)] A := by
  unfold z_M_statement_104
  refine js_istore (pc1 := 105) (L1 := [some (.inr (.inr (some 226))), none, some (.inl x2), some (.inl s0)]) rfl rfl rfl rfl ?_
  refine js_aload (pc1 := 106) rfl rfl rfl ?_
  refine js_iconst (pc1 := 107) rfl rfl ?_
  refine js_aload (pc1 := 108) rfl rfl rfl ?_
  refine js_gi (pc1 := 111) (j := 14) rfl rfl rfl rfl ?_
  refine js_iconst (pc1 := 112) rfl rfl ?_
  refine js_iload (pc1 := 113) rfl rfl rfl ?_
  refine js_iload (pc1 := 114) rfl rfl rfl ?_
  refine js_iconst (pc1 := 115) rfl rfl ?_
  refine js_iconst (pc1 := 116) rfl rfl ?_
  refine js_cV (pc1 := 119) (as := [(.inr (.inr (some 226))), (.inl 1), (.inl (zi A 226 14)), (.inl 4), (.inl x2), (.inl s0), (.inl 0), (.inl 0)]) (S0 := []) (m := 9) (L0 := [some (.inr (.inr (some 226))), some (.inl 1), some (.inl (zi A 226 14)), some (.inl 4), some (.inl x2), some (.inl s0), some (.inl 0), some (.inl 0), none]) rfl rfl rfl rfl rfl rfl rfl rfl (zrc_o rfl rfl) (by omega) (by omega) (z_M_emit_ok N (by omega) (by omega) 1 (zlit rfl) (zi A 226 14) (zi_rg _ _ _) 4 (zlit rfl) x2 hx2 s0 hs0 0 (zlit rfl) 0 (zlit rfl) A) (fun A1 _ => ?_)
  refine js_aload (pc1 := 120) rfl rfl rfl ?_
  refine js_iconst (pc1 := 122) rfl rfl ?_
  refine js_cV (pc1 := 125) (as := [(.inr (.inr (some 226))), (.inl 59)]) (S0 := []) (m := 2) (L0 := [some (.inr (.inr (some 226))), some (.inl 59)]) rfl rfl rfl rfl rfl rfl rfl rfl (zrc_o rfl rfl) (by omega) (by omega) (z_M_need_ok N (by omega) (by omega) 59 (zlit rfl) A1) (fun A2 _ => ?_)
  refine js_goto (t1 := 227) rfl rfl ?_
  exact je_V rfl
theorem z_M_statement_183_ok{d w : Nat} (N : Nat) (hd : 7 ≤ d) (hw : 162 ≤ w) (A : zA) : zG (z_M_statement_183 N A) zPV d w 83 183 [some (.inr (.inr (some 226))), none, none, none] [] A := by
  unfold z_M_statement_183
  refine js_aload (pc1 := 184) rfl rfl rfl ?_
  refine js_iconst (pc1 := 185) rfl rfl ?_
  refine js_aload (pc1 := 186) rfl rfl rfl ?_
  refine js_gi (pc1 := 189) (j := 14) rfl rfl rfl rfl ?_
  refine js_iconst (pc1 := 190) rfl rfl ?_
  refine js_aload (pc1 := 191) rfl rfl rfl ?_
  refine js_cP (pc1 := 194) (as := [(.inr (.inr (some 226)))]) (S0 := [(.inl 5), (.inl (zi A 226 14)), (.inl 1), (.inr (.inr (some 226)))]) (m := 1) (L0 := [some (.inr (.inr (some 226)))]) rfl rfl rfl rfl rfl rfl rfl rfl (zrc_o rfl rfl) (by omega) (by omega) (z_M_look_ok N (by omega) (by omega) A) (fun v1 _ hv1 => ?_)
  refine js_iconst (pc1 := 196) rfl rfl ?_
  refine js_isub (pc1 := 197) rfl rfl ?_
  refine js_iconst (pc1 := 198) rfl rfl ?_
  refine js_iconst (pc1 := 199) rfl rfl ?_
  refine js_iconst (pc1 := 200) rfl rfl ?_
  refine js_cV (pc1 := 203) (as := [(.inr (.inr (some 226))), (.inl 1), (.inl (zi A 226 14)), (.inl 5), (.inl (v1 - 97)), (.inl 0), (.inl 0), (.inl 0)]) (S0 := []) (m := 9) (L0 := [some (.inr (.inr (some 226))), some (.inl 1), some (.inl (zi A 226 14)), some (.inl 5), some (.inl (v1 - 97)), some (.inl 0), some (.inl 0), some (.inl 0), none]) rfl rfl rfl rfl rfl rfl rfl rfl (zrc_o rfl rfl) (by omega) (by omega) (zG_to (L := [some (.inr (.inr (some 226))), some (.inl 1), some (.inl (zi A 226 14)), some (.inl 5), some (.inl (zw (v1 - 97))), some (.inl 0), some (.inl 0), some (.inl 0), none]) (S := []) ⟨rfl, ⟨rfl, ⟨rfl, ⟨rfl, ⟨zval_w (v1 - 97), ⟨rfl, ⟨rfl, ⟨rfl, trivial⟩⟩⟩⟩⟩⟩⟩⟩ rfl (z_M_emit_ok N (by omega) (by omega) 1 (zlit rfl) (zi A 226 14) (zi_rg _ _ _) 5 (zlit rfl) (zw (v1 - 97)) (zw_rg (v1 - 97)) 0 (zlit rfl) 0 (zlit rfl) 0 (zlit rfl) A)) (fun A2 _ => ?_)
  refine js_aload (pc1 := 204) rfl rfl rfl ?_
  refine js_dupR (pc1 := 205) rfl rfl ?_
  refine js_gi (pc1 := 208) (j := 13) rfl rfl rfl rfl ?_
  refine js_iconst (pc1 := 209) rfl rfl ?_
  refine js_iadd (pc1 := 210) rfl rfl ?_
  refine jt_pi (pc1 := 213) (j := 13) rfl rfl rfl rfl rfl (fun A3 => ?_)
  refine js_aload (pc1 := 214) rfl rfl rfl ?_
  refine js_iconst (pc1 := 216) rfl rfl ?_
  refine js_cV (pc1 := 219) (as := [(.inr (.inr (some 226))), (.inl 59)]) (S0 := []) (m := 2) (L0 := [some (.inr (.inr (some 226))), some (.inl 59)]) rfl rfl rfl rfl rfl rfl rfl rfl (zrc_o rfl rfl) (by omega) (by omega) (z_M_need_ok N (by omega) (by omega) 59 (zlit rfl) A3) (fun A4 _ => ?_)
  refine js_goto (t1 := 227) rfl rfl ?_
  exact je_V rfl
theorem z_M_statement_ok{d w : Nat} (N : Nat) (hd : 7 ≤ d) (hw : 162 ≤ w) (A : zA) : zG (z_M_statement N A) zPV d w 83 0 [some (.inr (.inr (some 226))), none, none, none] [] A := by
  unfold z_M_statement
  refine js_aload (pc1 := 1) rfl rfl rfl ?_
  refine js_cP (pc1 := 4) (as := [(.inr (.inr (some 226)))]) (S0 := []) (m := 1) (L0 := [some (.inr (.inr (some 226)))]) rfl rfl rfl rfl rfl rfl rfl rfl (zrc_o rfl rfl) (by omega) (by omega) (z_M_look_ok N (by omega) (by omega) A) (fun v1 _ hv1 => ?_)
  refine js_istore (pc1 := 5) (L1 := [some (.inr (.inr (some 226))), some (.inl v1), none, none]) rfl rfl rfl rfl ?_
  refine js_aload (pc1 := 6) rfl rfl rfl ?_
  refine js_dupR (pc1 := 7) rfl rfl ?_
  refine js_gi (pc1 := 10) (j := 13) rfl rfl rfl rfl ?_
  refine js_iconst (pc1 := 11) rfl rfl ?_
  refine js_iadd (pc1 := 12) rfl rfl ?_
  refine jt_pi (pc1 := 15) (j := 13) rfl rfl rfl rfl rfl (fun A2 => ?_)
  refine js_aload (pc1 := 16) rfl rfl rfl ?_
  refine js_iload (pc1 := 17) rfl rfl rfl ?_
  refine js_cP (pc1 := 20) (as := [(.inr (.inr (some 226))), (.inl v1)]) (S0 := []) (m := 2) (L0 := [some (.inr (.inr (some 226))), some (.inl v1)]) rfl rfl rfl rfl rfl rfl rfl rfl (zrc_o rfl rfl) (by omega) (by omega) (z_M_isVariable_ok N (by omega) (by omega) v1 hv1 A2) (fun v3 _ hv3 => ?_)
  refine ju_eq (pc1 := 23) (t1 := 60) hv3 rfl rfl rfl (fun c4 => ?_) (fun c4 => ?_)
  · refine js_iload (pc1 := 61) rfl rfl rfl ?_
    refine js_iconst (pc1 := 63) rfl rfl ?_
    refine jt_ne (pc1 := 66) (t1 := 128) hv1 (zlit rfl) rfl rfl rfl (fun c5 => ?_) (fun c5 => ?_)
    · refine js_aload (pc1 := 67) rfl rfl rfl ?_
      refine js_iconst (pc1 := 69) rfl rfl ?_
      refine js_cV (pc1 := 72) (as := [(.inr (.inr (some 226))), (.inl 91)]) (S0 := []) (m := 2) (L0 := [some (.inr (.inr (some 226))), some (.inl 91)]) rfl rfl rfl rfl rfl rfl rfl rfl (zrc_o rfl rfl) (by omega) (by omega) (z_M_need_ok N (by omega) (by omega) 91 (zlit rfl) A2) (fun A6 _ => ?_)
      refine js_aload (pc1 := 73) rfl rfl rfl ?_
      refine js_cI (pc1 := 76) (as := [(.inr (.inr (some 226)))]) (S0 := []) (m := 4) (L0 := [some (.inr (.inr (some 226))), none, none, none]) rfl rfl rfl rfl rfl rfl rfl rfl (zrc_o rfl rfl) (by omega) (by omega) (z_M_expression_ok N (by omega) (by omega) A6) (fun v7 A8 _ hv7 => ?_)
      refine js_istore (pc1 := 77) (L1 := [some (.inr (.inr (some 226))), some (.inl v1), some (.inl v7), none]) rfl rfl rfl rfl ?_
      refine js_aload (pc1 := 78) rfl rfl rfl ?_
      refine js_iconst (pc1 := 80) rfl rfl ?_
      refine js_cV (pc1 := 83) (as := [(.inr (.inr (some 226))), (.inl 93)]) (S0 := []) (m := 2) (L0 := [some (.inr (.inr (some 226))), some (.inl 93)]) rfl rfl rfl rfl rfl rfl rfl rfl (zrc_o rfl rfl) (by omega) (by omega) (z_M_need_ok N (by omega) (by omega) 93 (zlit rfl) A8) (fun A9 _ => ?_)
      refine js_aload (pc1 := 84) rfl rfl rfl ?_
      refine js_iconst (pc1 := 86) rfl rfl ?_
      refine js_cV (pc1 := 89) (as := [(.inr (.inr (some 226))), (.inl 61)]) (S0 := []) (m := 2) (L0 := [some (.inr (.inr (some 226))), some (.inl 61)]) rfl rfl rfl rfl rfl rfl rfl rfl (zrc_o rfl rfl) (by omega) (by omega) (z_M_need_ok N (by omega) (by omega) 61 (zlit rfl) A9) (fun A10 _ => ?_)
      refine js_aload (pc1 := 90) rfl rfl rfl ?_
      refine js_gi (pc1 := 93) (j := 16) rfl rfl rfl rfl ?_
      refine ju_eq (pc1 := 96) (t1 := 100) (zi_rg _ _ _) rfl rfl rfl (fun c11 => ?_) (fun c11 => ?_)
      · refine js_aload (pc1 := 101) rfl rfl rfl ?_
        refine js_cI (pc1 := 104) (as := [(.inr (.inr (some 226)))]) (S0 := []) (m := 4) (L0 := [some (.inr (.inr (some 226))), none, none, none]) rfl rfl rfl rfl rfl rfl rfl rfl (zrc_o rfl rfl) (by omega) (by omega) (z_M_expression_ok N (by omega) (by omega) A10) (fun v12 A13 _ hv12 => ?_)
        exact zG_to (L := [some (.inr (.inr (some 226))), none, some (.inl v7), none]) (S := [(.inl v12)]) ⟨rfl, ⟨rfl, trivial⟩⟩ (rfl) (z_M_statement_104_ok N hd hw v7 hv7 v12 hv12 A13)
      · refine js_iconst (pc1 := 97) rfl rfl ?_
        refine js_goto (t1 := 104) rfl rfl ?_
        exact zG_to (L := [some (.inr (.inr (some 226))), none, some (.inl v7), none]) (S := [(.inl 0)]) ⟨rfl, ⟨rfl, trivial⟩⟩ (rfl) (z_M_statement_104_ok N hd hw v7 hv7 0 (zlit rfl) A10)
    · refine js_iload (pc1 := 129) rfl rfl rfl ?_
      refine js_iconst (pc1 := 131) rfl rfl ?_
      refine jt_ne (pc1 := 134) (t1 := 161) hv1 (zlit rfl) rfl rfl rfl (fun c14 => ?_) (fun c14 => ?_)
      · refine js_aload (pc1 := 135) rfl rfl rfl ?_
        refine js_iconst (pc1 := 136) rfl rfl ?_
        refine js_aload (pc1 := 137) rfl rfl rfl ?_
        refine js_gi (pc1 := 140) (j := 14) rfl rfl rfl rfl ?_
        refine js_iconst (pc1 := 142) rfl rfl ?_
        refine js_aload (pc1 := 143) rfl rfl rfl ?_
        refine js_cI (pc1 := 146) (as := [(.inr (.inr (some 226)))]) (S0 := [(.inl 6), (.inl (zi A2 226 14)), (.inl 1), (.inr (.inr (some 226)))]) (m := 4) (L0 := [some (.inr (.inr (some 226))), none, none, none]) rfl rfl rfl rfl rfl rfl rfl rfl (zrc_o rfl rfl) (by omega) (by omega) (z_M_expression_ok N (by omega) (by omega) A2) (fun v15 A16 _ hv15 => ?_)
        refine js_iconst (pc1 := 147) rfl rfl ?_
        refine js_iconst (pc1 := 148) rfl rfl ?_
        refine js_iconst (pc1 := 149) rfl rfl ?_
        refine js_cV (pc1 := 152) (as := [(.inr (.inr (some 226))), (.inl 1), (.inl (zi A2 226 14)), (.inl 6), (.inl v15), (.inl 0), (.inl 0), (.inl 0)]) (S0 := []) (m := 9) (L0 := [some (.inr (.inr (some 226))), some (.inl 1), some (.inl (zi A2 226 14)), some (.inl 6), some (.inl v15), some (.inl 0), some (.inl 0), some (.inl 0), none]) rfl rfl rfl rfl rfl rfl rfl rfl (zrc_o rfl rfl) (by omega) (by omega) (z_M_emit_ok N (by omega) (by omega) 1 (zlit rfl) (zi A2 226 14) (zi_rg _ _ _) 6 (zlit rfl) v15 hv15 0 (zlit rfl) 0 (zlit rfl) 0 (zlit rfl) A16) (fun A17 _ => ?_)
        refine js_aload (pc1 := 153) rfl rfl rfl ?_
        refine js_iconst (pc1 := 155) rfl rfl ?_
        refine js_cV (pc1 := 158) (as := [(.inr (.inr (some 226))), (.inl 59)]) (S0 := []) (m := 2) (L0 := [some (.inr (.inr (some 226))), some (.inl 59)]) rfl rfl rfl rfl rfl rfl rfl rfl (zrc_o rfl rfl) (by omega) (by omega) (z_M_need_ok N (by omega) (by omega) 59 (zlit rfl) A17) (fun A18 _ => ?_)
        refine js_goto (t1 := 227) rfl rfl ?_
        exact je_V rfl
      · refine js_iload (pc1 := 162) rfl rfl rfl ?_
        refine js_iconst (pc1 := 164) rfl rfl ?_
        refine jt_ne (pc1 := 167) (t1 := 222) hv1 (zlit rfl) rfl rfl rfl (fun c19 => ?_) (fun c19 => ?_)
        · refine js_aload (pc1 := 168) rfl rfl rfl ?_
          refine js_aload (pc1 := 169) rfl rfl rfl ?_
          refine js_cP (pc1 := 172) (as := [(.inr (.inr (some 226)))]) (S0 := [(.inr (.inr (some 226)))]) (m := 1) (L0 := [some (.inr (.inr (some 226)))]) rfl rfl rfl rfl rfl rfl rfl rfl (zrc_o rfl rfl) (by omega) (by omega) (z_M_look_ok N (by omega) (by omega) A2) (fun v20 _ hv20 => ?_)
          refine js_cP (pc1 := 175) (as := [(.inr (.inr (some 226))), (.inl v20)]) (S0 := []) (m := 2) (L0 := [some (.inr (.inr (some 226))), some (.inl v20)]) rfl rfl rfl rfl rfl rfl rfl rfl (zrc_o rfl rfl) (by omega) (by omega) (z_M_isVariable_ok N (by omega) (by omega) v20 hv20 A2) (fun v21 _ hv21 => ?_)
          refine ju_ne (pc1 := 178) (t1 := 183) hv21 rfl rfl rfl (fun c22 => ?_) (fun c22 => ?_)
          · refine js_aload (pc1 := 179) rfl rfl rfl ?_
            refine js_iconst (pc1 := 180) rfl rfl ?_
            refine jt_pbl (pc1 := 183) (j := 16) rfl rfl rfl rfl rfl (Or.inr rfl) (fun A23 => ?_)
            exact zG_to (L := [some (.inr (.inr (some 226))), none, none, none]) (S := []) ⟨rfl, trivial⟩ (rfl) (z_M_statement_183_ok N hd hw A23)
          · exact zG_to (L := [some (.inr (.inr (some 226))), none, none, none]) (S := []) ⟨rfl, trivial⟩ (rfl) (z_M_statement_183_ok N hd hw A2)
        · refine js_aload (pc1 := 223) rfl rfl rfl ?_
          refine js_iload (pc1 := 224) rfl rfl rfl ?_
          refine js_cV (pc1 := 227) (as := [(.inr (.inr (some 226))), (.inl v1)]) (S0 := []) (m := 3) (L0 := [some (.inr (.inr (some 226))), some (.inl v1), none]) rfl rfl rfl rfl rfl rfl rfl rfl (zrc_o rfl rfl) (by omega) (by omega) (z_M_nested_ok N (by omega) (by omega) v1 hv1 A2) (fun A24 _ => ?_)
          exact je_V rfl
  · refine js_aload (pc1 := 24) rfl rfl rfl ?_
    refine js_iconst (pc1 := 26) rfl rfl ?_
    refine js_cV (pc1 := 29) (as := [(.inr (.inr (some 226))), (.inl 61)]) (S0 := []) (m := 2) (L0 := [some (.inr (.inr (some 226))), some (.inl 61)]) rfl rfl rfl rfl rfl rfl rfl rfl (zrc_o rfl rfl) (by omega) (by omega) (z_M_need_ok N (by omega) (by omega) 61 (zlit rfl) A2) (fun A25 _ => ?_)
    refine js_aload (pc1 := 30) rfl rfl rfl ?_
    refine js_cI (pc1 := 33) (as := [(.inr (.inr (some 226)))]) (S0 := []) (m := 4) (L0 := [some (.inr (.inr (some 226))), none, none, none]) rfl rfl rfl rfl rfl rfl rfl rfl (zrc_o rfl rfl) (by omega) (by omega) (z_M_expression_ok N (by omega) (by omega) A25) (fun v26 A27 _ hv26 => ?_)
    refine js_istore (pc1 := 34) (L1 := [some (.inr (.inr (some 226))), some (.inl v1), some (.inl v26), none]) rfl rfl rfl rfl ?_
    refine js_aload (pc1 := 35) rfl rfl rfl ?_
    refine js_iconst (pc1 := 36) rfl rfl ?_
    refine js_aload (pc1 := 37) rfl rfl rfl ?_
    refine js_gi (pc1 := 40) (j := 14) rfl rfl rfl rfl ?_
    refine js_iconst (pc1 := 41) rfl rfl ?_
    refine js_iload (pc1 := 42) rfl rfl rfl ?_
    refine js_iconst (pc1 := 44) rfl rfl ?_
    refine js_isub (pc1 := 45) rfl rfl ?_
    refine js_iload (pc1 := 46) rfl rfl rfl ?_
    refine js_iconst (pc1 := 47) rfl rfl ?_
    refine js_iconst (pc1 := 48) rfl rfl ?_
    refine js_cV (pc1 := 51) (as := [(.inr (.inr (some 226))), (.inl 1), (.inl (zi A27 226 14)), (.inl 1), (.inl (v1 - 97)), (.inl v26), (.inl 0), (.inl 0)]) (S0 := []) (m := 9) (L0 := [some (.inr (.inr (some 226))), some (.inl 1), some (.inl (zi A27 226 14)), some (.inl 1), some (.inl (v1 - 97)), some (.inl v26), some (.inl 0), some (.inl 0), none]) rfl rfl rfl rfl rfl rfl rfl rfl (zrc_o rfl rfl) (by omega) (by omega) (zG_to (L := [some (.inr (.inr (some 226))), some (.inl 1), some (.inl (zi A27 226 14)), some (.inl 1), some (.inl (zw (v1 - 97))), some (.inl v26), some (.inl 0), some (.inl 0), none]) (S := []) ⟨rfl, ⟨rfl, ⟨rfl, ⟨rfl, ⟨zval_w (v1 - 97), ⟨rfl, ⟨rfl, ⟨rfl, trivial⟩⟩⟩⟩⟩⟩⟩⟩ rfl (z_M_emit_ok N (by omega) (by omega) 1 (zlit rfl) (zi A27 226 14) (zi_rg _ _ _) 1 (zlit rfl) (zw (v1 - 97)) (zw_rg (v1 - 97)) v26 hv26 0 (zlit rfl) 0 (zlit rfl) A27)) (fun A28 _ => ?_)
    refine js_aload (pc1 := 52) rfl rfl rfl ?_
    refine js_iconst (pc1 := 54) rfl rfl ?_
    refine js_cV (pc1 := 57) (as := [(.inr (.inr (some 226))), (.inl 59)]) (S0 := []) (m := 2) (L0 := [some (.inr (.inr (some 226))), some (.inl 59)]) rfl rfl rfl rfl rfl rfl rfl rfl (zrc_o rfl rfl) (by omega) (by omega) (z_M_need_ok N (by omega) (by omega) 59 (zlit rfl) A28) (fun A29 _ => ?_)
    refine js_goto (t1 := 227) rfl rfl ?_
    exact je_V rfl
theorem z_M_parse_208_ok{d w : Nat} {r63 : Int → zA → Option zA} (hr63 : ∀ (x1 : Int) (hx1 : zrg x1) (A : zA), zG (r63 x1 A) zPV d w 43 63 [some (.inr (.inr (some 226))), some (.inl x1)] [] A) (N : Nat) (hd : 8 ≤ d) (hw : 185 ≤ w) (s0 : Int) (hs0 : zrg s0) (A : zA) : zG (z_M_parse_208 r63 N s0 A) zPV d w 43 208 [some (.inr (.inr (some 226))), none] [(.inl s0)] A := by
  unfold z_M_parse_208
  refine js_istore (pc1 := 209) (L1 := [some (.inr (.inr (some 226))), some (.inl s0)]) rfl rfl rfl rfl ?_
  refine js_aload (pc1 := 210) rfl rfl rfl ?_
  refine js_cV (pc1 := 213) (as := [(.inr (.inr (some 226)))]) (S0 := []) (m := 4) (L0 := [some (.inr (.inr (some 226))), none, none, none]) rfl rfl rfl rfl rfl rfl rfl rfl (zrc_o rfl rfl) (by omega) (by omega) (z_M_statement_ok N (by omega) (by omega) A) (fun A1 _ => ?_)
  refine js_goto (t1 := 63) rfl rfl ?_
  exact hr63 s0 hs0 A1
theorem z_M_parse_192_ok{d w : Nat} {r63 : Int → zA → Option zA} (hr63 : ∀ (x1 : Int) (hx1 : zrg x1) (A : zA), zG (r63 x1 A) zPV d w 43 63 [some (.inr (.inr (some 226))), some (.inl x1)] [] A) (N : Nat) (hd : 8 ≤ d) (hw : 185 ≤ w) (x1 : Int) (hx1 : zrg x1) (A : zA) : zG (z_M_parse_192 r63 N x1 A) zPV d w 43 192 [some (.inr (.inr (some 226))), some (.inl x1)] [] A := by
  unfold z_M_parse_192
  refine js_iload (pc1 := 193) rfl rfl rfl ?_
  refine ju_ne (pc1 := 196) (t1 := 203) hx1 rfl rfl rfl (fun c1 => ?_) (fun c1 => ?_)
  · refine js_aload (pc1 := 197) rfl rfl rfl ?_
    refine js_gi (pc1 := 200) (j := 17) rfl rfl rfl rfl ?_
    refine ju_ne (pc1 := 203) (t1 := 207) (zi_rg _ _ _) rfl rfl rfl (fun c2 => ?_) (fun c2 => ?_)
    · refine js_iconst (pc1 := 204) rfl rfl ?_
      refine js_goto (t1 := 208) rfl rfl ?_
      exact zG_to (L := [some (.inr (.inr (some 226))), none]) (S := [(.inl 1)]) ⟨rfl, trivial⟩ (rfl) (z_M_parse_208_ok hr63 N hd hw 1 (zlit rfl) A)
    · refine js_iconst (pc1 := 208) rfl rfl ?_
      exact zG_to (L := [some (.inr (.inr (some 226))), none]) (S := [(.inl 0)]) ⟨rfl, trivial⟩ (rfl) (z_M_parse_208_ok hr63 N hd hw 0 (zlit rfl) A)
  · refine js_iconst (pc1 := 204) rfl rfl ?_
    refine js_goto (t1 := 208) rfl rfl ?_
    exact zG_to (L := [some (.inr (.inr (some 226))), none]) (S := [(.inl 1)]) ⟨rfl, trivial⟩ (rfl) (z_M_parse_208_ok hr63 N hd hw 1 (zlit rfl) A)
theorem z_M_parse_104_ok{d w : Nat} {r63 : Int → zA → Option zA} (hr63 : ∀ (x1 : Int) (hx1 : zrg x1) (A : zA), zG (r63 x1 A) zPV d w 43 63 [some (.inr (.inr (some 226))), some (.inl x1)] [] A) (N : Nat) (hd : 8 ≤ d) (hw : 185 ≤ w) (x1 : Int) (hx1 : zrg x1) (A : zA) : zG (z_M_parse_104 r63 N x1 A) zPV d w 43 104 [some (.inr (.inr (some 226))), some (.inl x1)] [] A := by
  unfold z_M_parse_104
  refine js_iload (pc1 := 105) rfl rfl rfl ?_
  refine ju_ne (pc1 := 108) (t1 := 192) hx1 rfl rfl rfl (fun c1 => ?_) (fun c1 => ?_)
  · refine js_aload (pc1 := 109) rfl rfl rfl ?_
    refine js_gi (pc1 := 112) (j := 17) rfl rfl rfl rfl ?_
    refine ju_ne (pc1 := 115) (t1 := 192) (zi_rg _ _ _) rfl rfl rfl (fun c2 => ?_) (fun c2 => ?_)
    · refine js_aload (pc1 := 116) rfl rfl rfl ?_
      refine js_gi (pc1 := 119) (j := 15) rfl rfl rfl rfl ?_
      refine js_iconst (pc1 := 120) rfl rfl ?_
      refine jt_ge (pc1 := 123) (t1 := 192) (zi_rg _ _ _) (zlit rfl) rfl rfl rfl (fun c3 => ?_) (fun c3 => ?_)
      · refine js_aload (pc1 := 124) rfl rfl rfl ?_
        refine js_cP (pc1 := 127) (as := [(.inr (.inr (some 226)))]) (S0 := []) (m := 1) (L0 := [some (.inr (.inr (some 226)))]) rfl rfl rfl rfl rfl rfl rfl rfl (zrc_o rfl rfl) (by omega) (by omega) (z_M_look_ok N (by omega) (by omega) A) (fun v4 _ hv4 => ?_)
        refine js_iconst (pc1 := 129) rfl rfl ?_
        refine js_aload (pc1 := 130) rfl rfl rfl ?_
        refine js_gi (pc1 := 133) (j := 15) rfl rfl rfl rfl ?_
        refine js_iadd (pc1 := 134) rfl rfl ?_
        refine zG_w1 ?_
        refine jt_ne (pc1 := 137) (t1 := 192) hv4 (zw_rg (80 + (zi A 226 15))) rfl rfl rfl (fun c5 => ?_) (fun c5 => ?_)
        · refine js_aload (pc1 := 138) rfl rfl rfl ?_
          refine js_gi (pc1 := 141) (j := 13) rfl rfl rfl rfl ?_
          refine js_iconst (pc1 := 142) rfl rfl ?_
          refine js_iadd (pc1 := 143) rfl rfl ?_
          refine js_aload (pc1 := 144) rfl rfl rfl ?_
          refine js_gi (pc1 := 147) (j := 1) rfl rfl rfl rfl ?_
          refine zG_w2 ?_
          refine jt_ge (pc1 := 150) (t1 := 192) (zw_rg ((zi A 226 13) + 1)) (zi_rg _ _ _) rfl rfl rfl (fun c6 => ?_) (fun c6 => ?_)
          · refine js_aload (pc1 := 151) rfl rfl rfl ?_
            refine js_gfr (pc1 := 154) (j := 2) (r := 227) rfl rfl rfl rfl rfl ?_
            refine js_aload (pc1 := 155) rfl rfl rfl ?_
            refine js_gi (pc1 := 158) (j := 13) rfl rfl rfl rfl ?_
            refine js_iconst (pc1 := 159) rfl rfl ?_
            refine js_iadd (pc1 := 160) rfl rfl ?_
            refine jt_ald (pc1 := 161) rfl rfl rfl rfl rfl (fun v7 hv7 => ?_)
            refine js_iconst (pc1 := 163) rfl rfl ?_
            refine jt_ne (pc1 := 166) (t1 := 192) hv7 (zlit rfl) rfl rfl rfl (fun c8 => ?_) (fun c8 => ?_)
            · refine js_aload (pc1 := 167) rfl rfl rfl ?_
              refine js_aload (pc1 := 168) rfl rfl rfl ?_
              refine js_gi (pc1 := 171) (j := 15) rfl rfl rfl rfl ?_
              refine jt_pi (pc1 := 174) (j := 14) rfl rfl rfl rfl rfl (fun A9 => ?_)
              refine js_aload (pc1 := 175) rfl rfl rfl ?_
              refine js_dupR (pc1 := 176) rfl rfl ?_
              refine js_gi (pc1 := 179) (j := 13) rfl rfl rfl rfl ?_
              refine js_iconst (pc1 := 180) rfl rfl ?_
              refine js_iadd (pc1 := 181) rfl rfl ?_
              refine jt_pi (pc1 := 184) (j := 13) rfl rfl rfl rfl rfl (fun A10 => ?_)
              refine js_aload (pc1 := 185) rfl rfl rfl ?_
              refine js_iconst (pc1 := 186) rfl rfl ?_
              refine js_cV (pc1 := 189) (as := [(.inr (.inr (some 226))), (.inl 4)]) (S0 := []) (m := 2) (L0 := [some (.inr (.inr (some 226))), some (.inl 4)]) rfl rfl rfl rfl rfl rfl rfl rfl (zrc_o rfl rfl) (by omega) (by omega) (z_M_enter_ok N (by omega) (by omega) 4 (zlit rfl) A10) (fun A11 _ => ?_)
              refine js_goto (t1 := 63) rfl rfl ?_
              exact hr63 x1 hx1 A11
            · exact z_M_parse_192_ok hr63 N hd hw x1 hx1 A
          · exact z_M_parse_192_ok hr63 N hd hw x1 hx1 A
        · exact z_M_parse_192_ok hr63 N hd hw x1 hx1 A
      · exact z_M_parse_192_ok hr63 N hd hw x1 hx1 A
    · exact z_M_parse_192_ok hr63 N hd hw x1 hx1 A
  · exact z_M_parse_192_ok hr63 N hd hw x1 hx1 A
theorem z_M_parse_216_ok{d w : Nat} (N : Nat) (hd : 8 ≤ d) (hw : 185 ≤ w) (A : zA) : zG (z_M_parse_216 N A) zPV d w 43 216 [some (.inr (.inr (some 226))), none] [] A := by
  unfold z_M_parse_216
  refine js_aload (pc1 := 217) rfl rfl rfl ?_
  refine js_aload (pc1 := 218) rfl rfl rfl ?_
  refine js_gi (pc1 := 221) (j := 16) rfl rfl rfl rfl ?_
  refine ju_ne (pc1 := 224) (t1 := 231) (zi_rg _ _ _) rfl rfl rfl (fun c1 => ?_) (fun c1 => ?_)
  · refine js_aload (pc1 := 225) rfl rfl rfl ?_
    refine js_gi (pc1 := 228) (j := 17) rfl rfl rfl rfl ?_
    refine ju_le (pc1 := 231) (t1 := 235) (zi_rg _ _ _) rfl rfl rfl (fun c2 => ?_) (fun c2 => ?_)
    · refine js_iconst (pc1 := 232) rfl rfl ?_
      refine js_goto (t1 := 236) rfl rfl ?_
      refine jt_pbl (pc1 := 239) (j := 16) rfl rfl rfl rfl rfl (Or.inr rfl) (fun A3 => ?_)
      exact je_V rfl
    · refine js_iconst (pc1 := 236) rfl rfl ?_
      refine jt_pbl (pc1 := 239) (j := 16) rfl rfl rfl rfl rfl (Or.inl rfl) (fun A4 => ?_)
      exact je_V rfl
  · refine js_iconst (pc1 := 232) rfl rfl ?_
    refine js_goto (t1 := 236) rfl rfl ?_
    refine jt_pbl (pc1 := 239) (j := 16) rfl rfl rfl rfl rfl (Or.inr rfl) (fun A5 => ?_)
    exact je_V rfl
theorem z_M_parse_63_bok{d w : Nat} {r63 : Int → zA → Option zA} (hr63 : ∀ (x1 : Int) (hx1 : zrg x1) (A : zA), zG (r63 x1 A) zPV d w 43 63 [some (.inr (.inr (some 226))), some (.inl x1)] [] A) (N : Nat) (hd : 8 ≤ d) (hw : 185 ≤ w) (x1 : Int) (hx1 : zrg x1) (A : zA) : zG (z_M_parse_63_b r63 N x1 A) zPV d w 43 63 [some (.inr (.inr (some 226))), some (.inl x1)] [] A := by
  unfold z_M_parse_63_b
  refine js_aload (pc1 := 64) rfl rfl rfl ?_
  refine js_gi (pc1 := 67) (j := 16) rfl rfl rfl rfl ?_
  refine ju_ne (pc1 := 70) (t1 := 216) (zi_rg _ _ _) rfl rfl rfl (fun c1 => ?_) (fun c1 => ?_)
  · refine js_aload (pc1 := 71) rfl rfl rfl ?_
    refine js_gi (pc1 := 74) (j := 13) rfl rfl rfl rfl ?_
    refine js_aload (pc1 := 75) rfl rfl rfl ?_
    refine js_gi (pc1 := 78) (j := 1) rfl rfl rfl rfl ?_
    refine jt_ge (pc1 := 81) (t1 := 216) (zi_rg _ _ _) (zi_rg _ _ _) rfl rfl rfl (fun c2 => ?_) (fun c2 => ?_)
    · refine js_aload (pc1 := 82) rfl rfl rfl ?_
      refine js_gi (pc1 := 85) (j := 17) rfl rfl rfl rfl ?_
      refine ju_le (pc1 := 88) (t1 := 104) (zi_rg _ _ _) rfl rfl rfl (fun c3 => ?_) (fun c3 => ?_)
      · refine js_aload (pc1 := 89) rfl rfl rfl ?_
        refine js_cP (pc1 := 92) (as := [(.inr (.inr (some 226)))]) (S0 := []) (m := 1) (L0 := [some (.inr (.inr (some 226)))]) rfl rfl rfl rfl rfl rfl rfl rfl (zrc_o rfl rfl) (by omega) (by omega) (z_M_look_ok N (by omega) (by omega) A) (fun v4 _ hv4 => ?_)
        refine js_iconst (pc1 := 94) rfl rfl ?_
        refine jt_ne (pc1 := 97) (t1 := 104) hv4 (zlit rfl) rfl rfl rfl (fun c5 => ?_) (fun c5 => ?_)
        · refine js_aload (pc1 := 98) rfl rfl rfl ?_
          refine js_cV (pc1 := 101) (as := [(.inr (.inr (some 226)))]) (S0 := []) (m := 2) (L0 := [some (.inr (.inr (some 226))), none]) rfl rfl rfl rfl rfl rfl rfl rfl (zrc_o rfl rfl) (by omega) (by omega) (z_M_leave_ok N (by omega) (by omega) A) (fun A6 _ => ?_)
          refine js_goto (t1 := 63) rfl rfl ?_
          exact hr63 x1 hx1 A6
        · exact z_M_parse_104_ok hr63 N hd hw x1 hx1 A
      · exact z_M_parse_104_ok hr63 N hd hw x1 hx1 A
    · exact zG_to (L := [some (.inr (.inr (some 226))), none]) (S := []) ⟨rfl, trivial⟩ (rfl) (z_M_parse_216_ok N hd hw A)
  · exact zG_to (L := [some (.inr (.inr (some 226))), none]) (S := []) ⟨rfl, trivial⟩ (rfl) (z_M_parse_216_ok N hd hw A)
theorem z_M_parse_63_lok{d w : Nat} (N : Nat) (hd : 8 ≤ d) (hw : 185 ≤ w) (n : Nat) : ∀ (x1 : Int) (hx1 : zrg x1) (A : zA), zG (z_M_parse_63_l N n x1 A) zPV d w 43 63 [some (.inr (.inr (some 226))), some (.inl x1)] [] A := by
  induction n with
  | zero => intros; exact zG_none
  | succ n ih =>
    intro x1 hx1 A
    exact z_M_parse_63_bok ih N hd hw x1 hx1 A
theorem z_M_parse_63_ok{d w : Nat} (N : Nat) (hd : 8 ≤ d) (hw : 185 ≤ w) (x1 : Int) (hx1 : zrg x1) (A : zA) : zG (z_M_parse_63 N x1 A) zPV d w 43 63 [some (.inr (.inr (some 226))), some (.inl x1)] [] A := z_M_parse_63_lok N hd hw N x1 hx1 A
theorem z_M_parse_36_ok{d w : Nat} (N : Nat) (hd : 8 ≤ d) (hw : 185 ≤ w) (A : zA) : zG (z_M_parse_36 N A) zPV d w 43 36 [some (.inr (.inr (some 226))), none] [] A := by
  unfold z_M_parse_36
  refine js_aload (pc1 := 37) rfl rfl rfl ?_
  refine js_iconst (pc1 := 38) rfl rfl ?_
  refine jt_pi (pc1 := 41) (j := 13) rfl rfl rfl rfl rfl (fun A1 => ?_)
  refine js_aload (pc1 := 42) rfl rfl rfl ?_
  refine js_iconst (pc1 := 43) rfl rfl ?_
  refine jt_pi (pc1 := 46) (j := 14) rfl rfl rfl rfl rfl (fun A2 => ?_)
  refine js_aload (pc1 := 47) rfl rfl rfl ?_
  refine js_iconst (pc1 := 48) rfl rfl ?_
  refine jt_pi (pc1 := 51) (j := 15) rfl rfl rfl rfl rfl (fun A3 => ?_)
  refine js_aload (pc1 := 52) rfl rfl rfl ?_
  refine js_iconst (pc1 := 53) rfl rfl ?_
  refine jt_pbl (pc1 := 56) (j := 16) rfl rfl rfl rfl rfl (Or.inl rfl) (fun A4 => ?_)
  refine js_aload (pc1 := 57) rfl rfl rfl ?_
  refine js_iconst (pc1 := 58) rfl rfl ?_
  refine jt_pi (pc1 := 61) (j := 17) rfl rfl rfl rfl rfl (fun A5 => ?_)
  refine js_iconst (pc1 := 62) rfl rfl ?_
  refine js_istore (pc1 := 63) (L1 := [some (.inr (.inr (some 226))), some (.inl 0)]) rfl rfl rfl rfl ?_
  exact z_M_parse_63_ok N hd hw 0 (zlit rfl) A5
theorem z_M_parse_2_bok{d w : Nat} {r2 : Int → zA → Option zA} (hr2 : ∀ (x1 : Int) (hx1 : zrg x1) (A : zA), zG (r2 x1 A) zPV d w 43 2 [some (.inr (.inr (some 226))), some (.inl x1)] [] A) (N : Nat) (hd : 8 ≤ d) (hw : 185 ≤ w) (x1 : Int) (hx1 : zrg x1) (A : zA) : zG (z_M_parse_2_b r2 N x1 A) zPV d w 43 2 [some (.inr (.inr (some 226))), some (.inl x1)] [] A := by
  unfold z_M_parse_2_b
  refine js_iload (pc1 := 3) rfl rfl rfl ?_
  refine js_iconst (pc1 := 4) rfl rfl ?_
  refine jt_ge (pc1 := 7) (t1 := 36) hx1 (zlit rfl) rfl rfl rfl (fun c1 => ?_) (fun c1 => ?_)
  · refine js_aload (pc1 := 8) rfl rfl rfl ?_
    refine js_gfr (pc1 := 11) (j := 4) (r := 229) rfl rfl rfl rfl rfl ?_
    refine js_iconst (pc1 := 12) rfl rfl ?_
    refine js_iload (pc1 := 13) rfl rfl rfl ?_
    refine js_cP (pc1 := 16) (as := [(.inl 1), (.inl x1)]) (S0 := [(.inr (.inr (some 229)))]) (m := 2) (L0 := [some (.inl 1), some (.inl x1)]) rfl rfl rfl rfl rfl rfl rfl rfl (zrc_s rfl) (by omega) (by omega) (z_M_row_ok N (by omega) (by omega) 1 (zlit rfl) x1 hx1 A) (fun v2 _ hv2 => ?_)
    refine js_iconst (pc1 := 17) rfl rfl ?_
    refine jt_ias (pc1 := 18) rfl rfl rfl rfl (fun A3 => ?_)
    refine js_aload (pc1 := 19) rfl rfl rfl ?_
    refine js_gfr (pc1 := 22) (j := 5) (r := 230) rfl rfl rfl rfl rfl ?_
    refine js_iconst (pc1 := 23) rfl rfl ?_
    refine js_iload (pc1 := 24) rfl rfl rfl ?_
    refine js_cP (pc1 := 27) (as := [(.inl 1), (.inl x1)]) (S0 := [(.inr (.inr (some 230)))]) (m := 2) (L0 := [some (.inl 1), some (.inl x1)]) rfl rfl rfl rfl rfl rfl rfl rfl (zrc_s rfl) (by omega) (by omega) (z_M_row_ok N (by omega) (by omega) 1 (zlit rfl) x1 hx1 A3) (fun v4 _ hv4 => ?_)
    refine js_iconst (pc1 := 29) rfl rfl ?_
    refine jt_ias (pc1 := 30) rfl rfl rfl rfl (fun A5 => ?_)
    refine js_iinc (pc1 := 33) (L1 := [some (.inr (.inr (some 226))), some (.inl (x1 + 1))]) rfl rfl rfl rfl ?_
    refine js_goto (t1 := 2) rfl rfl ?_
    exact zG_to (L := [some (.inr (.inr (some 226))), some (.inl (zw (x1 + 1)))]) (S := []) ⟨rfl, ⟨zval_w (x1 + 1), trivial⟩⟩ (rfl) (hr2 (zw (x1 + 1)) (zw_rg (x1 + 1)) A5)
  · exact zG_to (L := [some (.inr (.inr (some 226))), none]) (S := []) ⟨rfl, trivial⟩ (rfl) (z_M_parse_36_ok N hd hw A)
theorem z_M_parse_2_lok{d w : Nat} (N : Nat) (hd : 8 ≤ d) (hw : 185 ≤ w) (n : Nat) : ∀ (x1 : Int) (hx1 : zrg x1) (A : zA), zG (z_M_parse_2_l N n x1 A) zPV d w 43 2 [some (.inr (.inr (some 226))), some (.inl x1)] [] A := by
  induction n with
  | zero => intros; exact zG_none
  | succ n ih =>
    intro x1 hx1 A
    exact z_M_parse_2_bok ih N hd hw x1 hx1 A
theorem z_M_parse_2_ok{d w : Nat} (N : Nat) (hd : 8 ≤ d) (hw : 185 ≤ w) (x1 : Int) (hx1 : zrg x1) (A : zA) : zG (z_M_parse_2 N x1 A) zPV d w 43 2 [some (.inr (.inr (some 226))), some (.inl x1)] [] A := z_M_parse_2_lok N hd hw N x1 hx1 A
theorem z_M_parse_ok{d w : Nat} (N : Nat) (hd : 8 ≤ d) (hw : 185 ≤ w) (A : zA) : zG (z_M_parse N A) zPV d w 43 0 [some (.inr (.inr (some 226))), none] [] A := by
  unfold z_M_parse
  refine js_iconst (pc1 := 1) rfl rfl ?_
  refine js_istore (pc1 := 2) (L1 := [some (.inr (.inr (some 226))), some (.inl 0)]) rfl rfl rfl rfl ?_
  exact z_M_parse_2_ok N hd hw 0 (zlit rfl) A
theorem z_M_fail_ok{d w : Nat} (N : Nat) (hd : 0 ≤ d) (hw : 0 ≤ w) (x1 : Int) (hx1 : zrg x1) (A : zA) : zG (z_M_fail N x1 A) zPI d w 44 0 [some (.inr (.inr (some 226))), some (.inl x1)] [] A := by
  unfold z_M_fail
  refine js_aload (pc1 := 1) rfl rfl rfl ?_
  refine js_iload (pc1 := 2) rfl rfl rfl ?_
  refine jt_pi (pc1 := 5) (j := 0) rfl rfl rfl rfl rfl (fun A1 => ?_)
  refine js_iconst (pc1 := 6) rfl rfl ?_
  exact je_I rfl (zfit0 _ rfl) rfl (zlit rfl)
theorem z_M_field_ok{d w : Nat} (N : Nat) (hd : 1 ≤ d) (hw : 22 ≤ w) (x1 : Int) (hx1 : zrg x1) (x2 : Int) (hx2 : zrg x2) (x3 : Int) (hx3 : zrg x3) (x4 : Int) (hx4 : zrg x4) (A : zA) : zG (z_M_field N x1 x2 x3 x4 A) (zPp A) d w 58 0 [some (.inr (.inr (some 226))), some (.inl x1), some (.inl x2), some (.inl x3), some (.inl x4)] [] A := by
  unfold z_M_field
  refine js_aload (pc1 := 1) rfl rfl rfl ?_
  refine js_gfr (pc1 := 4) (j := 3) (r := 228) rfl rfl rfl rfl rfl ?_
  refine js_iload (pc1 := 5) rfl rfl rfl ?_
  refine js_iload (pc1 := 6) rfl rfl rfl ?_
  refine js_iload (pc1 := 7) rfl rfl rfl ?_
  refine js_cP (pc1 := 10) (as := [(.inl x1), (.inl x2), (.inl x3)]) (S0 := [(.inr (.inr (some 228)))]) (m := 3) (L0 := [some (.inl x1), some (.inl x2), some (.inl x3)]) rfl rfl rfl rfl rfl rfl rfl rfl (zrc_s rfl) (by omega) (by omega) (z_M_place_ok N (by omega) (by omega) x1 hx1 x2 hx2 x3 hx3 A) (fun v1 _ hv1 => ?_)
  refine js_iload (pc1 := 12) rfl rfl rfl ?_
  refine js_iadd (pc1 := 13) rfl rfl ?_
  refine jt_ald (pc1 := 14) rfl rfl rfl rfl rfl (fun v2 hv2 => ?_)
  exact je_P rfl (zfit0 _ rfl) rfl hv2
theorem z_M_total_237_14_bok{d w : Nat} {r14 : Int → Int → Int → zA → Option Int} (hr14 : ∀ (x1 : Int) (hx1 : zrg x1) (x3 : Int) (hx3 : zrg x3) (x4 : Int) (hx4 : zrg x4) (A : zA), zG (r14 x1 x3 x4 A) (zPp A) d w 45 14 [some (.inr (.inr (some 226))), some (.inl x1), some (.inr (.inr (some 237))), some (.inl x3), some (.inl x4)] [] A) (N : Nat) (hd : 2 ≤ d) (hw : 46 ≤ w) (x1 : Int) (hx1 : zrg x1) (x3 : Int) (hx3 : zrg x3) (x4 : Int) (hx4 : zrg x4) (A : zA) : zG (z_M_total_237_14_b r14 N x1 x3 x4 A) (zPp A) d w 45 14 [some (.inr (.inr (some 226))), some (.inl x1), some (.inr (.inr (some 237))), some (.inl x3), some (.inl x4)] [] A := by
  unfold z_M_total_237_14_b
  refine js_iload (pc1 := 16) rfl rfl rfl ?_
  refine js_aload (pc1 := 17) rfl rfl rfl ?_
  refine js_gfr (pc1 := 20) (j := 4) (r := 229) rfl rfl rfl rfl rfl ?_
  refine js_iconst (pc1 := 21) rfl rfl ?_
  refine js_iload (pc1 := 22) rfl rfl rfl ?_
  refine js_cP (pc1 := 25) (as := [(.inl 1), (.inl x1)]) (S0 := [(.inr (.inr (some 229))), (.inl x4)]) (m := 2) (L0 := [some (.inl 1), some (.inl x1)]) rfl rfl rfl rfl rfl rfl rfl rfl (zrc_s rfl) (by omega) (by omega) (z_M_row_ok N (by omega) (by omega) 1 (zlit rfl) x1 hx1 A) (fun v1 _ hv1 => ?_)
  refine jt_ald (pc1 := 26) rfl rfl rfl rfl rfl (fun v2 hv2 => ?_)
  refine jt_ge (pc1 := 29) (t1 := 67) hx4 hv2 rfl rfl rfl (fun c3 => ?_) (fun c3 => ?_)
  · refine js_iload (pc1 := 30) rfl rfl rfl ?_
    refine js_aload (pc1 := 31) rfl rfl rfl ?_
    refine js_iconst (pc1 := 32) rfl rfl ?_
    refine js_iload (pc1 := 33) rfl rfl rfl ?_
    refine js_iload (pc1 := 35) rfl rfl rfl ?_
    refine js_iconst (pc1 := 36) rfl rfl ?_
    refine js_cP (pc1 := 39) (as := [(.inr (.inr (some 226))), (.inl 1), (.inl x1), (.inl x4), (.inl 0)]) (S0 := [(.inl x3)]) (m := 5) (L0 := [some (.inr (.inr (some 226))), some (.inl 1), some (.inl x1), some (.inl x4), some (.inl 0)]) rfl rfl rfl rfl rfl rfl rfl rfl (zrc_o rfl rfl) (by omega) (by omega) (z_M_field_ok N (by omega) (by omega) 1 (zlit rfl) x1 hx1 x4 hx4 0 (zlit rfl) A) (fun v4 _ hv4 => ?_)
    refine js_iconst (pc1 := 41) rfl rfl ?_
    refine jt_ne (pc1 := 44) (t1 := 58) hv4 (zlit rfl) rfl rfl rfl (fun c5 => ?_) (fun c5 => ?_)
    · refine js_aload (pc1 := 45) rfl rfl rfl ?_
      refine js_aload (pc1 := 46) rfl rfl rfl ?_
      refine js_iconst (pc1 := 47) rfl rfl ?_
      refine js_iload (pc1 := 48) rfl rfl rfl ?_
      refine js_iload (pc1 := 50) rfl rfl rfl ?_
      refine js_iconst (pc1 := 51) rfl rfl ?_
      refine js_cP (pc1 := 54) (as := [(.inr (.inr (some 226))), (.inl 1), (.inl x1), (.inl x4), (.inl 2)]) (S0 := [(.inr (.inr (some 237))), (.inl x3)]) (m := 5) (L0 := [some (.inr (.inr (some 226))), some (.inl 1), some (.inl x1), some (.inl x4), some (.inl 2)]) rfl rfl rfl rfl rfl rfl rfl rfl (zrc_o rfl rfl) (by omega) (by omega) (z_M_field_ok N (by omega) (by omega) 1 (zlit rfl) x1 hx1 x4 hx4 2 (zlit rfl) A) (fun v6 _ hv6 => ?_)
      refine jt_ald (pc1 := 55) rfl rfl rfl rfl rfl (fun v7 hv7 => ?_)
      refine js_goto (t1 := 59) rfl rfl ?_
      refine js_iadd (pc1 := 60) rfl rfl ?_
      refine zG_w1 ?_
      refine js_istore (pc1 := 61) (L1 := [some (.inr (.inr (some 226))), some (.inl x1), some (.inr (.inr (some 237))), some (.inl (zw (x3 + v7))), some (.inl x4)]) rfl rfl rfl rfl ?_
      refine js_iinc (pc1 := 64) (L1 := [some (.inr (.inr (some 226))), some (.inl x1), some (.inr (.inr (some 237))), some (.inl (zw (x3 + v7))), some (.inl (x4 + 1))]) rfl rfl rfl rfl ?_
      refine js_goto (t1 := 14) rfl rfl ?_
      exact zG_to (L := [some (.inr (.inr (some 226))), some (.inl x1), some (.inr (.inr (some 237))), some (.inl (zw (x3 + v7))), some (.inl (zw (x4 + 1)))]) (S := []) ⟨rfl, ⟨rfl, ⟨rfl, ⟨rfl, ⟨zval_w (x4 + 1), trivial⟩⟩⟩⟩⟩ (rfl) (hr14 x1 hx1 (zw (x3 + v7)) (zw_rg (x3 + v7)) (zw (x4 + 1)) (zw_rg (x4 + 1)) A)
    · refine js_iconst (pc1 := 59) rfl rfl ?_
      refine js_iadd (pc1 := 60) rfl rfl ?_
      refine zG_w1 ?_
      refine js_istore (pc1 := 61) (L1 := [some (.inr (.inr (some 226))), some (.inl x1), some (.inr (.inr (some 237))), some (.inl (zw (x3 + 0))), some (.inl x4)]) rfl rfl rfl rfl ?_
      refine js_iinc (pc1 := 64) (L1 := [some (.inr (.inr (some 226))), some (.inl x1), some (.inr (.inr (some 237))), some (.inl (zw (x3 + 0))), some (.inl (x4 + 1))]) rfl rfl rfl rfl ?_
      refine js_goto (t1 := 14) rfl rfl ?_
      exact zG_to (L := [some (.inr (.inr (some 226))), some (.inl x1), some (.inr (.inr (some 237))), some (.inl (zw (x3 + 0))), some (.inl (zw (x4 + 1)))]) (S := []) ⟨rfl, ⟨rfl, ⟨rfl, ⟨rfl, ⟨zval_w (x4 + 1), trivial⟩⟩⟩⟩⟩ (rfl) (hr14 x1 hx1 (zw (x3 + 0)) (zw_rg (x3 + 0)) (zw (x4 + 1)) (zw_rg (x4 + 1)) A)
  · refine js_iload (pc1 := 68) rfl rfl rfl ?_
    exact je_P rfl (zfit0 _ rfl) rfl hx3
theorem z_M_total_237_14_lok{d w : Nat} (N : Nat) (hd : 2 ≤ d) (hw : 46 ≤ w) (n : Nat) : ∀ (x1 : Int) (hx1 : zrg x1) (x3 : Int) (hx3 : zrg x3) (x4 : Int) (hx4 : zrg x4) (A : zA), zG (z_M_total_237_14_l N n x1 x3 x4 A) (zPp A) d w 45 14 [some (.inr (.inr (some 226))), some (.inl x1), some (.inr (.inr (some 237))), some (.inl x3), some (.inl x4)] [] A := by
  induction n with
  | zero => intros; exact zG_none
  | succ n ih =>
    intro x1 hx1 x3 hx3 x4 hx4 A
    exact z_M_total_237_14_bok ih N hd hw x1 hx1 x3 hx3 x4 hx4 A
theorem z_M_total_237_14_ok{d w : Nat} (N : Nat) (hd : 2 ≤ d) (hw : 46 ≤ w) (x1 : Int) (hx1 : zrg x1) (x3 : Int) (hx3 : zrg x3) (x4 : Int) (hx4 : zrg x4) (A : zA) : zG (z_M_total_237_14 N x1 x3 x4 A) (zPp A) d w 45 14 [some (.inr (.inr (some 226))), some (.inl x1), some (.inr (.inr (some 237))), some (.inl x3), some (.inl x4)] [] A := z_M_total_237_14_lok N hd hw N x1 hx1 x3 hx3 x4 hx4 A
theorem z_M_total_237_ok{d w : Nat} (N : Nat) (hd : 2 ≤ d) (hw : 46 ≤ w) (x1 : Int) (hx1 : zrg x1) (A : zA) : zG (z_M_total_237 N x1 A) (zPp A) d w 45 0 [some (.inr (.inr (some 226))), some (.inl x1), some (.inr (.inr (some 237))), none, none] [] A := by
  unfold z_M_total_237
  refine js_aload (pc1 := 1) rfl rfl rfl ?_
  refine js_gfr (pc1 := 4) (j := 4) (r := 229) rfl rfl rfl rfl rfl ?_
  refine js_iconst (pc1 := 5) rfl rfl ?_
  refine js_iload (pc1 := 6) rfl rfl rfl ?_
  refine js_cP (pc1 := 9) (as := [(.inl 1), (.inl x1)]) (S0 := [(.inr (.inr (some 229)))]) (m := 2) (L0 := [some (.inl 1), some (.inl x1)]) rfl rfl rfl rfl rfl rfl rfl rfl (zrc_s rfl) (by omega) (by omega) (z_M_row_ok N (by omega) (by omega) 1 (zlit rfl) x1 hx1 A) (fun v1 _ hv1 => ?_)
  refine jt_ald (pc1 := 10) rfl rfl rfl rfl rfl (fun v2 hv2 => ?_)
  refine js_istore (pc1 := 11) (L1 := [some (.inr (.inr (some 226))), some (.inl x1), some (.inr (.inr (some 237))), some (.inl v2), none]) rfl rfl rfl rfl ?_
  refine js_iconst (pc1 := 12) rfl rfl ?_
  refine js_istore (pc1 := 14) (L1 := [some (.inr (.inr (some 226))), some (.inl x1), some (.inr (.inr (some 237))), some (.inl v2), some (.inl 0)]) rfl rfl rfl rfl ?_
  exact z_M_total_237_14_ok N hd hw x1 hx1 v2 hv2 0 (zlit rfl) A
theorem z_M_nest_133_ok{d w : Nat} {r10 : Int → Int → Int → Int → Int → zA → Option (Int × zA)} (hr10 : ∀ (x1 : Int) (hx1 : zrg x1) (x2 : Int) (hx2 : zrg x2) (x3 : Int) (hx3 : zrg x3) (x4 : Int) (hx4 : zrg x4) (x5 : Int) (hx5 : zrg x5) (A : zA), zG (r10 x1 x2 x3 x4 x5 A) zPI d w 46 10 [some (.inr (.inr (some 226))), some (.inl x1), some (.inl x2), some (.inl x3), some (.inl x4), some (.inl x5), none, none] [] A) (N : Nat) (hd : 2 ≤ d) (hw : 46 ≤ w) (x1 : Int) (hx1 : zrg x1) (x2 : Int) (hx2 : zrg x2) (x3 : Int) (hx3 : zrg x3) (x4 : Int) (hx4 : zrg x4) (x5 : Int) (hx5 : zrg x5) (s0 : Int) (hs0 : zrg s0) (s1 : Int) (hs1 : zrg s1) (A : zA) : zG (z_M_nest_133 r10 N x1 x2 x3 x4 x5 s0 s1 A) zPI d w 46 133 [some (.inr (.inr (some 226))), some (.inl x1), some (.inl x2), some (.inl x3), some (.inl x4), some (.inl x5), none, none] [(.inl s1), (.inl s0)] A := by
  unfold z_M_nest_133
  refine js_iadd (pc1 := 134) rfl rfl ?_
  refine zG_w1 ?_
  refine js_istore (pc1 := 136) (L1 := [some (.inr (.inr (some 226))), some (.inl x1), some (.inl x2), some (.inl x3), some (.inl x4), some (.inl x5), none, some (.inl (zw (s0 + s1)))]) rfl rfl rfl rfl ?_
  refine js_iload (pc1 := 138) rfl rfl rfl ?_
  refine js_iload (pc1 := 139) rfl rfl rfl ?_
  refine jt_le (pc1 := 142) (t1 := 147) (zw_rg (s0 + s1)) hx2 rfl rfl rfl (fun c1 => ?_) (fun c1 => ?_)
  · refine js_iload (pc1 := 144) rfl rfl rfl ?_
    refine js_goto (t1 := 148) rfl rfl ?_
    refine js_istore (pc1 := 149) (L1 := [some (.inr (.inr (some 226))), some (.inl x1), some (.inl (zw (s0 + s1))), some (.inl x3), some (.inl x4), some (.inl x5), none, some (.inl (zw (s0 + s1)))]) rfl rfl rfl rfl ?_
    refine js_iinc (pc1 := 152) (L1 := [some (.inr (.inr (some 226))), some (.inl x1), some (.inl (zw (s0 + s1))), some (.inl x3), some (.inl x4), some (.inl (x5 + 1)), none, some (.inl (zw (s0 + s1)))]) rfl rfl rfl rfl ?_
    refine js_goto (t1 := 10) rfl rfl ?_
    exact zG_to (L := [some (.inr (.inr (some 226))), some (.inl x1), some (.inl (zw (s0 + s1))), some (.inl x3), some (.inl x4), some (.inl (zw (x5 + 1))), none, none]) (S := []) ⟨rfl, ⟨rfl, ⟨rfl, ⟨rfl, ⟨rfl, ⟨zval_w (x5 + 1), trivial⟩⟩⟩⟩⟩⟩ (rfl) (hr10 x1 hx1 (zw (s0 + s1)) (zw_rg (s0 + s1)) x3 hx3 x4 hx4 (zw (x5 + 1)) (zw_rg (x5 + 1)) A)
  · refine js_iload (pc1 := 148) rfl rfl rfl ?_
    refine js_istore (pc1 := 149) (L1 := [some (.inr (.inr (some 226))), some (.inl x1), some (.inl x2), some (.inl x3), some (.inl x4), some (.inl x5), none, some (.inl (zw (s0 + s1)))]) rfl rfl rfl rfl ?_
    refine js_iinc (pc1 := 152) (L1 := [some (.inr (.inr (some 226))), some (.inl x1), some (.inl x2), some (.inl x3), some (.inl x4), some (.inl (x5 + 1)), none, some (.inl (zw (s0 + s1)))]) rfl rfl rfl rfl ?_
    refine js_goto (t1 := 10) rfl rfl ?_
    exact zG_to (L := [some (.inr (.inr (some 226))), some (.inl x1), some (.inl x2), some (.inl x3), some (.inl x4), some (.inl (zw (x5 + 1))), none, none]) (S := []) ⟨rfl, ⟨rfl, ⟨rfl, ⟨rfl, ⟨rfl, ⟨zval_w (x5 + 1), trivial⟩⟩⟩⟩⟩⟩ (rfl) (hr10 x1 hx1 x2 hx2 x3 hx3 x4 hx4 (zw (x5 + 1)) (zw_rg (x5 + 1)) A)
theorem z_M_nest_107_ok{d w : Nat} {r10 : Int → Int → Int → Int → Int → zA → Option (Int × zA)} (hr10 : ∀ (x1 : Int) (hx1 : zrg x1) (x2 : Int) (hx2 : zrg x2) (x3 : Int) (hx3 : zrg x3) (x4 : Int) (hx4 : zrg x4) (x5 : Int) (hx5 : zrg x5) (A : zA), zG (r10 x1 x2 x3 x4 x5 A) zPI d w 46 10 [some (.inr (.inr (some 226))), some (.inl x1), some (.inl x2), some (.inl x3), some (.inl x4), some (.inl x5), none, none] [] A) (N : Nat) (hd : 2 ≤ d) (hw : 46 ≤ w) (x1 : Int) (hx1 : zrg x1) (x2 : Int) (hx2 : zrg x2) (x3 : Int) (hx3 : zrg x3) (x4 : Int) (hx4 : zrg x4) (x5 : Int) (hx5 : zrg x5) (x6 : Int) (hx6 : zrg x6) (A : zA) : zG (z_M_nest_107 r10 N x1 x2 x3 x4 x5 x6 A) zPI d w 46 107 [some (.inr (.inr (some 226))), some (.inl x1), some (.inl x2), some (.inl x3), some (.inl x4), some (.inl x5), some (.inl x6), none] [] A := by
  unfold z_M_nest_107
  refine js_iload (pc1 := 108) rfl rfl rfl ?_
  refine js_iload (pc1 := 110) rfl rfl rfl ?_
  refine js_iconst (pc1 := 112) rfl rfl ?_
  refine jt_ne (pc1 := 115) (t1 := 132) hx6 (zlit rfl) rfl rfl rfl (fun c1 => ?_) (fun c1 => ?_)
  · refine js_aload (pc1 := 116) rfl rfl rfl ?_
    refine js_gfr (pc1 := 119) (j := 25) (r := 238) rfl rfl rfl rfl rfl ?_
    refine js_aload (pc1 := 120) rfl rfl rfl ?_
    refine js_iconst (pc1 := 121) rfl rfl ?_
    refine js_iload (pc1 := 122) rfl rfl rfl ?_
    refine js_iload (pc1 := 124) rfl rfl rfl ?_
    refine js_iconst (pc1 := 125) rfl rfl ?_
    refine js_cP (pc1 := 128) (as := [(.inr (.inr (some 226))), (.inl 1), (.inl x1), (.inl x5), (.inl 2)]) (S0 := [(.inr (.inr (some 238))), (.inl x3)]) (m := 5) (L0 := [some (.inr (.inr (some 226))), some (.inl 1), some (.inl x1), some (.inl x5), some (.inl 2)]) rfl rfl rfl rfl rfl rfl rfl rfl (zrc_o rfl rfl) (by omega) (by omega) (z_M_field_ok N (by omega) (by omega) 1 (zlit rfl) x1 hx1 x5 hx5 2 (zlit rfl) A) (fun v2 _ hv2 => ?_)
    refine jt_ald (pc1 := 129) rfl rfl rfl rfl rfl (fun v3 hv3 => ?_)
    refine js_goto (t1 := 133) rfl rfl ?_
    exact zG_to (L := [some (.inr (.inr (some 226))), some (.inl x1), some (.inl x2), some (.inl x3), some (.inl x4), some (.inl x5), none, none]) (S := [(.inl v3), (.inl x3)]) ⟨rfl, ⟨rfl, ⟨rfl, ⟨rfl, ⟨rfl, ⟨rfl, trivial⟩⟩⟩⟩⟩⟩ (rfl) (z_M_nest_133_ok hr10 N hd hw x1 hx1 x2 hx2 x3 hx3 x4 hx4 x5 hx5 x3 hx3 v3 hv3 A)
  · refine js_iconst (pc1 := 133) rfl rfl ?_
    exact zG_to (L := [some (.inr (.inr (some 226))), some (.inl x1), some (.inl x2), some (.inl x3), some (.inl x4), some (.inl x5), none, none]) (S := [(.inl 0), (.inl x3)]) ⟨rfl, ⟨rfl, ⟨rfl, ⟨rfl, ⟨rfl, ⟨rfl, trivial⟩⟩⟩⟩⟩⟩ (rfl) (z_M_nest_133_ok hr10 N hd hw x1 hx1 x2 hx2 x3 hx3 x4 hx4 x5 hx5 x3 hx3 0 (zlit rfl) A)
theorem z_M_nest_75_ok{d w : Nat} {r10 : Int → Int → Int → Int → Int → zA → Option (Int × zA)} (hr10 : ∀ (x1 : Int) (hx1 : zrg x1) (x2 : Int) (hx2 : zrg x2) (x3 : Int) (hx3 : zrg x3) (x4 : Int) (hx4 : zrg x4) (x5 : Int) (hx5 : zrg x5) (A : zA), zG (r10 x1 x2 x3 x4 x5 A) zPI d w 46 10 [some (.inr (.inr (some 226))), some (.inl x1), some (.inl x2), some (.inl x3), some (.inl x4), some (.inl x5), none, none] [] A) (N : Nat) (hd : 2 ≤ d) (hw : 46 ≤ w) (x1 : Int) (hx1 : zrg x1) (x2 : Int) (hx2 : zrg x2) (x4 : Int) (hx4 : zrg x4) (x5 : Int) (hx5 : zrg x5) (x6 : Int) (hx6 : zrg x6) (s0 : Int) (hs0 : zrg s0) (s1 : Int) (hs1 : zrg s1) (A : zA) : zG (z_M_nest_75 r10 N x1 x2 x4 x5 x6 s0 s1 A) zPI d w 46 75 [some (.inr (.inr (some 226))), some (.inl x1), some (.inl x2), none, some (.inl x4), some (.inl x5), some (.inl x6), none] [(.inl s1), (.inl s0)] A := by
  unfold z_M_nest_75
  refine js_iadd (pc1 := 76) rfl rfl ?_
  refine zG_w1 ?_
  refine js_istore (pc1 := 77) (L1 := [some (.inr (.inr (some 226))), some (.inl x1), some (.inl x2), some (.inl (zw (s0 + s1))), some (.inl x4), some (.inl x5), some (.inl x6), none]) rfl rfl rfl rfl ?_
  refine js_iload (pc1 := 79) rfl rfl rfl ?_
  refine js_iconst (pc1 := 81) rfl rfl ?_
  refine jt_ne (pc1 := 84) (t1 := 107) hx6 (zlit rfl) rfl rfl rfl (fun c1 => ?_) (fun c1 => ?_)
  · refine js_iinc (pc1 := 87) (L1 := [some (.inr (.inr (some 226))), some (.inl x1), some (.inl x2), some (.inl (zw (s0 + s1))), some (.inl (x4 + (-1))), some (.inl x5), some (.inl x6), none]) rfl rfl rfl rfl ?_
    refine js_iload (pc1 := 88) rfl rfl rfl ?_
    refine js_aload (pc1 := 89) rfl rfl rfl ?_
    refine js_gfr (pc1 := 92) (j := 12) (r := 233) rfl rfl rfl rfl rfl ?_
    refine js_iload (pc1 := 94) rfl rfl rfl ?_
    refine jt_ald (pc1 := 95) rfl rfl rfl rfl rfl (fun v2 hv2 => ?_)
    refine js_iconst (pc1 := 97) rfl rfl ?_
    refine jt_ne (pc1 := 100) (t1 := 104) hv2 (zlit rfl) rfl rfl rfl (fun c3 => ?_) (fun c3 => ?_)
    · refine js_iconst (pc1 := 101) rfl rfl ?_
      refine js_goto (t1 := 105) rfl rfl ?_
      refine js_isub (pc1 := 106) rfl rfl ?_
      refine zG_w1 ?_
      refine js_istore (pc1 := 107) (L1 := [some (.inr (.inr (some 226))), some (.inl x1), some (.inl x2), some (.inl (zw ((zw (s0 + s1)) - 1))), some (.inl (x4 + (-1))), some (.inl x5), some (.inl x6), none]) rfl rfl rfl rfl ?_
      exact zG_to (L := [some (.inr (.inr (some 226))), some (.inl x1), some (.inl x2), some (.inl (zw ((zw (s0 + s1)) - 1))), some (.inl (zw (x4 + (-1)))), some (.inl x5), some (.inl x6), none]) (S := []) ⟨rfl, ⟨rfl, ⟨rfl, ⟨rfl, ⟨zval_w (x4 + (-1)), ⟨rfl, ⟨rfl, trivial⟩⟩⟩⟩⟩⟩⟩ (rfl) (z_M_nest_107_ok hr10 N hd hw x1 hx1 x2 hx2 (zw ((zw (s0 + s1)) - 1)) (zw_rg ((zw (s0 + s1)) - 1)) (zw (x4 + (-1))) (zw_rg (x4 + (-1))) x5 hx5 x6 hx6 A)
    · refine js_iconst (pc1 := 105) rfl rfl ?_
      refine js_isub (pc1 := 106) rfl rfl ?_
      refine zG_w1 ?_
      refine js_istore (pc1 := 107) (L1 := [some (.inr (.inr (some 226))), some (.inl x1), some (.inl x2), some (.inl (zw ((zw (s0 + s1)) - 0))), some (.inl (x4 + (-1))), some (.inl x5), some (.inl x6), none]) rfl rfl rfl rfl ?_
      exact zG_to (L := [some (.inr (.inr (some 226))), some (.inl x1), some (.inl x2), some (.inl (zw ((zw (s0 + s1)) - 0))), some (.inl (zw (x4 + (-1)))), some (.inl x5), some (.inl x6), none]) (S := []) ⟨rfl, ⟨rfl, ⟨rfl, ⟨rfl, ⟨zval_w (x4 + (-1)), ⟨rfl, ⟨rfl, trivial⟩⟩⟩⟩⟩⟩⟩ (rfl) (z_M_nest_107_ok hr10 N hd hw x1 hx1 x2 hx2 (zw ((zw (s0 + s1)) - 0)) (zw_rg ((zw (s0 + s1)) - 0)) (zw (x4 + (-1))) (zw_rg (x4 + (-1))) x5 hx5 x6 hx6 A)
  · exact z_M_nest_107_ok hr10 N hd hw x1 hx1 x2 hx2 (zw (s0 + s1)) (zw_rg (s0 + s1)) x4 hx4 x5 hx5 x6 hx6 A
theorem z_M_nest_50_ok{d w : Nat} {r10 : Int → Int → Int → Int → Int → zA → Option (Int × zA)} (hr10 : ∀ (x1 : Int) (hx1 : zrg x1) (x2 : Int) (hx2 : zrg x2) (x3 : Int) (hx3 : zrg x3) (x4 : Int) (hx4 : zrg x4) (x5 : Int) (hx5 : zrg x5) (A : zA), zG (r10 x1 x2 x3 x4 x5 A) zPI d w 46 10 [some (.inr (.inr (some 226))), some (.inl x1), some (.inl x2), some (.inl x3), some (.inl x4), some (.inl x5), none, none] [] A) (N : Nat) (hd : 2 ≤ d) (hw : 46 ≤ w) (x1 : Int) (hx1 : zrg x1) (x2 : Int) (hx2 : zrg x2) (x3 : Int) (hx3 : zrg x3) (x4 : Int) (hx4 : zrg x4) (x5 : Int) (hx5 : zrg x5) (x6 : Int) (hx6 : zrg x6) (A : zA) : zG (z_M_nest_50 r10 N x1 x2 x3 x4 x5 x6 A) zPI d w 46 50 [some (.inr (.inr (some 226))), some (.inl x1), some (.inl x2), some (.inl x3), some (.inl x4), some (.inl x5), some (.inl x6), none] [] A := by
  unfold z_M_nest_50
  refine js_aload (pc1 := 51) rfl rfl rfl ?_
  refine js_gfr (pc1 := 54) (j := 12) (r := 233) rfl rfl rfl rfl rfl ?_
  refine js_iload (pc1 := 56) rfl rfl rfl ?_
  refine js_iload (pc1 := 58) rfl rfl rfl ?_
  refine jt_ias (pc1 := 59) rfl rfl rfl rfl (fun A1 => ?_)
  refine js_iinc (pc1 := 62) (L1 := [some (.inr (.inr (some 226))), some (.inl x1), some (.inl x2), some (.inl x3), some (.inl (x4 + 1)), some (.inl x5), some (.inl x6), none]) rfl rfl rfl rfl ?_
  refine js_iload (pc1 := 63) rfl rfl rfl ?_
  refine js_iload (pc1 := 65) rfl rfl rfl ?_
  refine js_iconst (pc1 := 67) rfl rfl ?_
  refine jt_ne (pc1 := 70) (t1 := 74) hx6 (zlit rfl) rfl rfl rfl (fun c2 => ?_) (fun c2 => ?_)
  · refine js_iconst (pc1 := 71) rfl rfl ?_
    refine js_goto (t1 := 75) rfl rfl ?_
    exact zG_to (L := [some (.inr (.inr (some 226))), some (.inl x1), some (.inl x2), none, some (.inl (zw (x4 + 1))), some (.inl x5), some (.inl x6), none]) (S := [(.inl 1), (.inl x3)]) ⟨rfl, ⟨rfl, ⟨rfl, ⟨zval_w (x4 + 1), ⟨rfl, ⟨rfl, trivial⟩⟩⟩⟩⟩⟩ (rfl) (z_M_nest_75_ok hr10 N hd hw x1 hx1 x2 hx2 (zw (x4 + 1)) (zw_rg (x4 + 1)) x5 hx5 x6 hx6 x3 hx3 1 (zlit rfl) A1)
  · refine js_iconst (pc1 := 75) rfl rfl ?_
    exact zG_to (L := [some (.inr (.inr (some 226))), some (.inl x1), some (.inl x2), none, some (.inl (zw (x4 + 1))), some (.inl x5), some (.inl x6), none]) (S := [(.inl 0), (.inl x3)]) ⟨rfl, ⟨rfl, ⟨rfl, ⟨zval_w (x4 + 1), ⟨rfl, ⟨rfl, trivial⟩⟩⟩⟩⟩⟩ (rfl) (z_M_nest_75_ok hr10 N hd hw x1 hx1 x2 hx2 (zw (x4 + 1)) (zw_rg (x4 + 1)) x5 hx5 x6 hx6 x3 hx3 0 (zlit rfl) A1)
theorem z_M_nest_10_bok{d w : Nat} {r10 : Int → Int → Int → Int → Int → zA → Option (Int × zA)} (hr10 : ∀ (x1 : Int) (hx1 : zrg x1) (x2 : Int) (hx2 : zrg x2) (x3 : Int) (hx3 : zrg x3) (x4 : Int) (hx4 : zrg x4) (x5 : Int) (hx5 : zrg x5) (A : zA), zG (r10 x1 x2 x3 x4 x5 A) zPI d w 46 10 [some (.inr (.inr (some 226))), some (.inl x1), some (.inl x2), some (.inl x3), some (.inl x4), some (.inl x5), none, none] [] A) (N : Nat) (hd : 2 ≤ d) (hw : 46 ≤ w) (x1 : Int) (hx1 : zrg x1) (x2 : Int) (hx2 : zrg x2) (x3 : Int) (hx3 : zrg x3) (x4 : Int) (hx4 : zrg x4) (x5 : Int) (hx5 : zrg x5) (A : zA) : zG (z_M_nest_10_b r10 N x1 x2 x3 x4 x5 A) zPI d w 46 10 [some (.inr (.inr (some 226))), some (.inl x1), some (.inl x2), some (.inl x3), some (.inl x4), some (.inl x5), none, none] [] A := by
  unfold z_M_nest_10_b
  refine js_iload (pc1 := 12) rfl rfl rfl ?_
  refine js_aload (pc1 := 13) rfl rfl rfl ?_
  refine js_gfr (pc1 := 16) (j := 4) (r := 229) rfl rfl rfl rfl rfl ?_
  refine js_iconst (pc1 := 17) rfl rfl ?_
  refine js_iload (pc1 := 18) rfl rfl rfl ?_
  refine js_cP (pc1 := 21) (as := [(.inl 1), (.inl x1)]) (S0 := [(.inr (.inr (some 229))), (.inl x5)]) (m := 2) (L0 := [some (.inl 1), some (.inl x1)]) rfl rfl rfl rfl rfl rfl rfl rfl (zrc_s rfl) (by omega) (by omega) (z_M_row_ok N (by omega) (by omega) 1 (zlit rfl) x1 hx1 A) (fun v1 _ hv1 => ?_)
  refine jt_ald (pc1 := 22) rfl rfl rfl rfl rfl (fun v2 hv2 => ?_)
  refine jt_ge (pc1 := 25) (t1 := 155) hx5 hv2 rfl rfl rfl (fun c3 => ?_) (fun c3 => ?_)
  · refine js_aload (pc1 := 26) rfl rfl rfl ?_
    refine js_iconst (pc1 := 27) rfl rfl ?_
    refine js_iload (pc1 := 28) rfl rfl rfl ?_
    refine js_iload (pc1 := 30) rfl rfl rfl ?_
    refine js_iconst (pc1 := 31) rfl rfl ?_
    refine js_cP (pc1 := 34) (as := [(.inr (.inr (some 226))), (.inl 1), (.inl x1), (.inl x5), (.inl 0)]) (S0 := []) (m := 5) (L0 := [some (.inr (.inr (some 226))), some (.inl 1), some (.inl x1), some (.inl x5), some (.inl 0)]) rfl rfl rfl rfl rfl rfl rfl rfl (zrc_o rfl rfl) (by omega) (by omega) (z_M_field_ok N (by omega) (by omega) 1 (zlit rfl) x1 hx1 x5 hx5 0 (zlit rfl) A) (fun v4 _ hv4 => ?_)
    refine js_istore (pc1 := 36) (L1 := [some (.inr (.inr (some 226))), some (.inl x1), some (.inl x2), some (.inl x3), some (.inl x4), some (.inl x5), some (.inl v4), none]) rfl rfl rfl rfl ?_
    refine js_iload (pc1 := 38) rfl rfl rfl ?_
    refine js_iconst (pc1 := 40) rfl rfl ?_
    refine jt_eq (pc1 := 43) (t1 := 50) hv4 (zlit rfl) rfl rfl rfl (fun c5 => ?_) (fun c5 => ?_)
    · exact z_M_nest_50_ok hr10 N hd hw x1 hx1 x2 hx2 x3 hx3 x4 hx4 x5 hx5 v4 hv4 A
    · refine js_iload (pc1 := 45) rfl rfl rfl ?_
      refine js_iconst (pc1 := 47) rfl rfl ?_
      refine jt_ne (pc1 := 50) (t1 := 62) hv4 (zlit rfl) rfl rfl rfl (fun c6 => ?_) (fun c6 => ?_)
      · exact z_M_nest_50_ok hr10 N hd hw x1 hx1 x2 hx2 x3 hx3 x4 hx4 x5 hx5 v4 hv4 A
      · refine js_iload (pc1 := 63) rfl rfl rfl ?_
        refine js_iload (pc1 := 65) rfl rfl rfl ?_
        refine js_iconst (pc1 := 67) rfl rfl ?_
        refine jt_ne (pc1 := 70) (t1 := 74) hv4 (zlit rfl) rfl rfl rfl (fun c7 => ?_) (fun c7 => ?_)
        · refine js_iconst (pc1 := 71) rfl rfl ?_
          refine js_goto (t1 := 75) rfl rfl ?_
          exact zG_to (L := [some (.inr (.inr (some 226))), some (.inl x1), some (.inl x2), none, some (.inl x4), some (.inl x5), some (.inl v4), none]) (S := [(.inl 1), (.inl x3)]) ⟨rfl, ⟨rfl, ⟨rfl, ⟨rfl, ⟨rfl, ⟨rfl, trivial⟩⟩⟩⟩⟩⟩ (rfl) (z_M_nest_75_ok hr10 N hd hw x1 hx1 x2 hx2 x4 hx4 x5 hx5 v4 hv4 x3 hx3 1 (zlit rfl) A)
        · refine js_iconst (pc1 := 75) rfl rfl ?_
          exact zG_to (L := [some (.inr (.inr (some 226))), some (.inl x1), some (.inl x2), none, some (.inl x4), some (.inl x5), some (.inl v4), none]) (S := [(.inl 0), (.inl x3)]) ⟨rfl, ⟨rfl, ⟨rfl, ⟨rfl, ⟨rfl, ⟨rfl, trivial⟩⟩⟩⟩⟩⟩ (rfl) (z_M_nest_75_ok hr10 N hd hw x1 hx1 x2 hx2 x4 hx4 x5 hx5 v4 hv4 x3 hx3 0 (zlit rfl) A)
  · refine js_iload (pc1 := 156) rfl rfl rfl ?_
    exact je_I rfl (zfit0 _ rfl) rfl hx2
theorem z_M_nest_10_lok{d w : Nat} (N : Nat) (hd : 2 ≤ d) (hw : 46 ≤ w) (n : Nat) : ∀ (x1 : Int) (hx1 : zrg x1) (x2 : Int) (hx2 : zrg x2) (x3 : Int) (hx3 : zrg x3) (x4 : Int) (hx4 : zrg x4) (x5 : Int) (hx5 : zrg x5) (A : zA), zG (z_M_nest_10_l N n x1 x2 x3 x4 x5 A) zPI d w 46 10 [some (.inr (.inr (some 226))), some (.inl x1), some (.inl x2), some (.inl x3), some (.inl x4), some (.inl x5), none, none] [] A := by
  induction n with
  | zero => intros; exact zG_none
  | succ n ih =>
    intro x1 hx1 x2 hx2 x3 hx3 x4 hx4 x5 hx5 A
    exact z_M_nest_10_bok ih N hd hw x1 hx1 x2 hx2 x3 hx3 x4 hx4 x5 hx5 A
theorem z_M_nest_10_ok{d w : Nat} (N : Nat) (hd : 2 ≤ d) (hw : 46 ≤ w) (x1 : Int) (hx1 : zrg x1) (x2 : Int) (hx2 : zrg x2) (x3 : Int) (hx3 : zrg x3) (x4 : Int) (hx4 : zrg x4) (x5 : Int) (hx5 : zrg x5) (A : zA) : zG (z_M_nest_10 N x1 x2 x3 x4 x5 A) zPI d w 46 10 [some (.inr (.inr (some 226))), some (.inl x1), some (.inl x2), some (.inl x3), some (.inl x4), some (.inl x5), none, none] [] A := z_M_nest_10_lok N hd hw N x1 hx1 x2 hx2 x3 hx3 x4 hx4 x5 hx5 A
theorem z_M_nest_ok{d w : Nat} (N : Nat) (hd : 2 ≤ d) (hw : 46 ≤ w) (x1 : Int) (hx1 : zrg x1) (A : zA) : zG (z_M_nest N x1 A) zPI d w 46 0 [some (.inr (.inr (some 226))), some (.inl x1), none, none, none, none, none, none] [] A := by
  unfold z_M_nest
  refine js_iconst (pc1 := 1) rfl rfl ?_
  refine js_istore (pc1 := 2) (L1 := [some (.inr (.inr (some 226))), some (.inl x1), some (.inl 0), none, none, none, none, none]) rfl rfl rfl rfl ?_
  refine js_iconst (pc1 := 3) rfl rfl ?_
  refine js_istore (pc1 := 4) (L1 := [some (.inr (.inr (some 226))), some (.inl x1), some (.inl 0), some (.inl 0), none, none, none, none]) rfl rfl rfl rfl ?_
  refine js_iconst (pc1 := 5) rfl rfl ?_
  refine js_istore (pc1 := 7) (L1 := [some (.inr (.inr (some 226))), some (.inl x1), some (.inl 0), some (.inl 0), some (.inl 0), none, none, none]) rfl rfl rfl rfl ?_
  refine js_iconst (pc1 := 8) rfl rfl ?_
  refine js_istore (pc1 := 10) (L1 := [some (.inr (.inr (some 226))), some (.inl x1), some (.inl 0), some (.inl 0), some (.inl 0), some (.inl 0), none, none]) rfl rfl rfl rfl ?_
  exact z_M_nest_10_ok N hd hw x1 hx1 0 (zlit rfl) 0 (zlit rfl) 0 (zlit rfl) 0 (zlit rfl) A
theorem z_M_copyItem_2_bok{d w : Nat} {r2 : Int → Int → Int → zA → Option zA} (hr2 : ∀ (x1 : Int) (hx1 : zrg x1) (x2 : Int) (hx2 : zrg x2) (x3 : Int) (hx3 : zrg x3) (A : zA), zG (r2 x1 x2 x3 A) zPV d w 62 2 [some (.inr (.inr (some 226))), some (.inl x1), some (.inl x2), some (.inl x3)] [] A) (N : Nat) (hd : 0 ≤ d) (hw : 0 ≤ w) (x1 : Int) (hx1 : zrg x1) (x2 : Int) (hx2 : zrg x2) (x3 : Int) (hx3 : zrg x3) (A : zA) : zG (z_M_copyItem_2_b r2 N x1 x2 x3 A) zPV d w 62 2 [some (.inr (.inr (some 226))), some (.inl x1), some (.inl x2), some (.inl x3)] [] A := by
  unfold z_M_copyItem_2_b
  refine js_iload (pc1 := 3) rfl rfl rfl ?_
  refine js_iconst (pc1 := 4) rfl rfl ?_
  refine jt_ge (pc1 := 7) (t1 := 29) hx3 (zlit rfl) rfl rfl rfl (fun c1 => ?_) (fun c1 => ?_)
  · refine js_aload (pc1 := 8) rfl rfl rfl ?_
    refine js_gfr (pc1 := 11) (j := 3) (r := 228) rfl rfl rfl rfl rfl ?_
    refine js_iload (pc1 := 12) rfl rfl rfl ?_
    refine js_iload (pc1 := 13) rfl rfl rfl ?_
    refine js_iadd (pc1 := 14) rfl rfl ?_
    refine js_aload (pc1 := 15) rfl rfl rfl ?_
    refine js_gfr (pc1 := 18) (j := 3) (r := 228) rfl rfl rfl rfl rfl ?_
    refine js_iload (pc1 := 19) rfl rfl rfl ?_
    refine js_iload (pc1 := 20) rfl rfl rfl ?_
    refine js_iadd (pc1 := 21) rfl rfl ?_
    refine jt_ald (pc1 := 22) rfl rfl rfl rfl rfl (fun v2 hv2 => ?_)
    refine jt_ias (pc1 := 23) rfl rfl rfl rfl (fun A3 => ?_)
    refine js_iinc (pc1 := 26) (L1 := [some (.inr (.inr (some 226))), some (.inl x1), some (.inl x2), some (.inl (x3 + 1))]) rfl rfl rfl rfl ?_
    refine js_goto (t1 := 2) rfl rfl ?_
    exact zG_to (L := [some (.inr (.inr (some 226))), some (.inl x1), some (.inl x2), some (.inl (zw (x3 + 1)))]) (S := []) ⟨rfl, ⟨rfl, ⟨rfl, ⟨zval_w (x3 + 1), trivial⟩⟩⟩⟩ (rfl) (hr2 x1 hx1 x2 hx2 (zw (x3 + 1)) (zw_rg (x3 + 1)) A3)
  · exact je_V rfl
theorem z_M_copyItem_2_lok{d w : Nat} (N : Nat) (hd : 0 ≤ d) (hw : 0 ≤ w) (n : Nat) : ∀ (x1 : Int) (hx1 : zrg x1) (x2 : Int) (hx2 : zrg x2) (x3 : Int) (hx3 : zrg x3) (A : zA), zG (z_M_copyItem_2_l N n x1 x2 x3 A) zPV d w 62 2 [some (.inr (.inr (some 226))), some (.inl x1), some (.inl x2), some (.inl x3)] [] A := by
  induction n with
  | zero => intros; exact zG_none
  | succ n ih =>
    intro x1 hx1 x2 hx2 x3 hx3 A
    exact z_M_copyItem_2_bok ih N hd hw x1 hx1 x2 hx2 x3 hx3 A
theorem z_M_copyItem_2_ok{d w : Nat} (N : Nat) (hd : 0 ≤ d) (hw : 0 ≤ w) (x1 : Int) (hx1 : zrg x1) (x2 : Int) (hx2 : zrg x2) (x3 : Int) (hx3 : zrg x3) (A : zA) : zG (z_M_copyItem_2 N x1 x2 x3 A) zPV d w 62 2 [some (.inr (.inr (some 226))), some (.inl x1), some (.inl x2), some (.inl x3)] [] A := z_M_copyItem_2_lok N hd hw N x1 hx1 x2 hx2 x3 hx3 A
theorem z_M_copyItem_ok{d w : Nat} (N : Nat) (hd : 0 ≤ d) (hw : 0 ≤ w) (x1 : Int) (hx1 : zrg x1) (x2 : Int) (hx2 : zrg x2) (A : zA) : zG (z_M_copyItem N x1 x2 A) zPV d w 62 0 [some (.inr (.inr (some 226))), some (.inl x1), some (.inl x2), none] [] A := by
  unfold z_M_copyItem
  refine js_iconst (pc1 := 1) rfl rfl ?_
  refine js_istore (pc1 := 2) (L1 := [some (.inr (.inr (some 226))), some (.inl x1), some (.inl x2), some (.inl 0)]) rfl rfl rfl rfl ?_
  exact z_M_copyItem_2_ok N hd hw x1 hx1 x2 hx2 0 (zlit rfl) A
theorem z_M_copyPart_43_bok{d w : Nat} {r43 : Int → Int → Int → Int → zA → Option zA} (hr43 : ∀ (x1 : Int) (hx1 : zrg x1) (x2 : Int) (hx2 : zrg x2) (x3 : Int) (hx3 : zrg x3) (x4 : Int) (hx4 : zrg x4) (A : zA), zG (r43 x1 x2 x3 x4 A) zPV d w 84 43 [some (.inr (.inr (some 226))), some (.inl x1), some (.inl x2), some (.inl x3), some (.inl x4)] [] A) (N : Nat) (hd : 1 ≤ d) (hw : 23 ≤ w) (x1 : Int) (hx1 : zrg x1) (x2 : Int) (hx2 : zrg x2) (x3 : Int) (hx3 : zrg x3) (x4 : Int) (hx4 : zrg x4) (A : zA) : zG (z_M_copyPart_43_b r43 N x1 x2 x3 x4 A) zPV d w 84 43 [some (.inr (.inr (some 226))), some (.inl x1), some (.inl x2), some (.inl x3), some (.inl x4)] [] A := by
  unfold z_M_copyPart_43_b
  refine js_iload (pc1 := 45) rfl rfl rfl ?_
  refine js_aload (pc1 := 46) rfl rfl rfl ?_
  refine js_gfr (pc1 := 49) (j := 4) (r := 229) rfl rfl rfl rfl rfl ?_
  refine js_iload (pc1 := 50) rfl rfl rfl ?_
  refine js_iload (pc1 := 51) rfl rfl rfl ?_
  refine js_cP (pc1 := 54) (as := [(.inl x1), (.inl x3)]) (S0 := [(.inr (.inr (some 229))), (.inl x4)]) (m := 2) (L0 := [some (.inl x1), some (.inl x3)]) rfl rfl rfl rfl rfl rfl rfl rfl (zrc_s rfl) (by omega) (by omega) (z_M_row_ok N (by omega) (by omega) x1 hx1 x3 hx3 A) (fun v1 _ hv1 => ?_)
  refine jt_ald (pc1 := 55) rfl rfl rfl rfl rfl (fun v2 hv2 => ?_)
  refine jt_ge (pc1 := 58) (t1 := 82) hx4 hv2 rfl rfl rfl (fun c3 => ?_) (fun c3 => ?_)
  · refine js_aload (pc1 := 59) rfl rfl rfl ?_
    refine js_iload (pc1 := 60) rfl rfl rfl ?_
    refine js_iload (pc1 := 61) rfl rfl rfl ?_
    refine js_iload (pc1 := 63) rfl rfl rfl ?_
    refine js_cP (pc1 := 66) (as := [(.inl x1), (.inl x3), (.inl x4)]) (S0 := [(.inr (.inr (some 226)))]) (m := 3) (L0 := [some (.inl x1), some (.inl x3), some (.inl x4)]) rfl rfl rfl rfl rfl rfl rfl rfl (zrc_s rfl) (by omega) (by omega) (z_M_place_ok N (by omega) (by omega) x1 hx1 x3 hx3 x4 hx4 A) (fun v4 _ hv4 => ?_)
    refine js_iload (pc1 := 67) rfl rfl rfl ?_
    refine js_iload (pc1 := 68) rfl rfl rfl ?_
    refine js_iload (pc1 := 70) rfl rfl rfl ?_
    refine js_cP (pc1 := 73) (as := [(.inl x2), (.inl x3), (.inl x4)]) (S0 := [(.inl v4), (.inr (.inr (some 226)))]) (m := 3) (L0 := [some (.inl x2), some (.inl x3), some (.inl x4)]) rfl rfl rfl rfl rfl rfl rfl rfl (zrc_s rfl) (by omega) (by omega) (z_M_place_ok N (by omega) (by omega) x2 hx2 x3 hx3 x4 hx4 A) (fun v5 _ hv5 => ?_)
    refine js_cV (pc1 := 76) (as := [(.inr (.inr (some 226))), (.inl v4), (.inl v5)]) (S0 := []) (m := 4) (L0 := [some (.inr (.inr (some 226))), some (.inl v4), some (.inl v5), none]) rfl rfl rfl rfl rfl rfl rfl rfl (zrc_o rfl rfl) (by omega) (by omega) (z_M_copyItem_ok N (by omega) (by omega) v4 hv4 v5 hv5 A) (fun A6 _ => ?_)
    refine js_iinc (pc1 := 79) (L1 := [some (.inr (.inr (some 226))), some (.inl x1), some (.inl x2), some (.inl x3), some (.inl (x4 + 1))]) rfl rfl rfl rfl ?_
    refine js_goto (t1 := 43) rfl rfl ?_
    exact zG_to (L := [some (.inr (.inr (some 226))), some (.inl x1), some (.inl x2), some (.inl x3), some (.inl (zw (x4 + 1)))]) (S := []) ⟨rfl, ⟨rfl, ⟨rfl, ⟨rfl, ⟨zval_w (x4 + 1), trivial⟩⟩⟩⟩⟩ (rfl) (hr43 x1 hx1 x2 hx2 x3 hx3 (zw (x4 + 1)) (zw_rg (x4 + 1)) A6)
  · exact je_V rfl
