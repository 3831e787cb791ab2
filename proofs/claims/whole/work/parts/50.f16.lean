theorem z_M_item_31_ok{d w : Nat} (N : Nat) (hd : 2 ≤ d) (hw : 46 ≤ w) (A : zA) : zG (z_M_item_31 N A) zPI d w 19 31 [some (.inr (.inr (some 226))), none, none, none, none] [] A := by
  unfold z_M_item_31
  refine js_aload (pc1 := 32) rfl rfl rfl ?_
  refine js_iconst (pc1 := 33) rfl rfl ?_
  refine js_cI (pc1 := 36) (as := [(.inr (.inr (some 226))), (.inl 1)]) (S0 := []) (m := 2) (L0 := [some (.inr (.inr (some 226))), some (.inl 1)]) rfl rfl rfl rfl rfl rfl rfl rfl (zrc_o rfl rfl) (by omega) (by omega) (z_M_fail_ok N (by omega) (by omega) 1 (zlit rfl) A) (fun v1 A2 _ hv1 => ?_)
  exact je_I rfl (zfit0 _ rfl) rfl hv1
theorem z_M_item_60_ok{d w : Nat} (N : Nat) (hd : 2 ≤ d) (hw : 46 ≤ w) (A : zA) : zG (z_M_item_60 N A) zPI d w 19 60 [some (.inr (.inr (some 226))), none, none, none, none] [] A := by
  unfold z_M_item_60
  refine js_aload (pc1 := 61) rfl rfl rfl ?_
  refine js_iconst (pc1 := 62) rfl rfl ?_
  refine js_cI (pc1 := 65) (as := [(.inr (.inr (some 226))), (.inl 1)]) (S0 := []) (m := 2) (L0 := [some (.inr (.inr (some 226))), some (.inl 1)]) rfl rfl rfl rfl rfl rfl rfl rfl (zrc_o rfl rfl) (by omega) (by omega) (z_M_fail_ok N (by omega) (by omega) 1 (zlit rfl) A) (fun v1 A2 _ hv1 => ?_)
  exact je_I rfl (zfit0 _ rfl) rfl hv1
theorem z_M_item_ok{d w : Nat} (N : Nat) (hd : 2 ≤ d) (hw : 46 ≤ w) (x1 : Int) (hx1 : zrg x1) (x2 : Int) (hx2 : zrg x2) (x3 : Int) (hx3 : zrg x3) (A : zA) : zG (z_M_item N x1 x2 x3 A) zPI d w 19 0 [some (.inr (.inr (some 226))), some (.inl x1), some (.inl x2), some (.inl x3), none] [] A := by
  unfold z_M_item
  refine js_aload (pc1 := 1) rfl rfl rfl ?_
  refine js_iconst (pc1 := 2) rfl rfl ?_
  refine jt_pi (pc1 := 5) (j := 0) rfl rfl rfl rfl rfl (fun A1 => ?_)
  refine js_aload (pc1 := 6) rfl rfl rfl ?_
  refine js_iload (pc1 := 7) rfl rfl rfl ?_
  refine js_cP (pc1 := 10) (as := [(.inr (.inr (some 226))), (.inl x1)]) (S0 := []) (m := 2) (L0 := [some (.inr (.inr (some 226))), some (.inl x1)]) rfl rfl rfl rfl rfl rfl rfl rfl (zrc_o rfl rfl) (by omega) (by omega) (z_M_isThere_ok N (by omega) (by omega) x1 hx1 A1) (fun v2 _ hv2 => ?_)
  refine ju_eq (pc1 := 13) (t1 := 31) hv2 rfl rfl rfl (fun c3 => ?_) (fun c3 => ?_)
  · exact zG_to (L := [some (.inr (.inr (some 226))), none, none, none, none]) (S := []) ⟨rfl, trivial⟩ (rfl) (z_M_item_31_ok N hd hw A1)
  · refine js_iload (pc1 := 14) rfl rfl rfl ?_
    refine ju_lt (pc1 := 17) (t1 := 31) hx2 rfl rfl rfl (fun c4 => ?_) (fun c4 => ?_)
    · exact zG_to (L := [some (.inr (.inr (some 226))), none, none, none, none]) (S := []) ⟨rfl, trivial⟩ (rfl) (z_M_item_31_ok N hd hw A1)
    · refine js_iload (pc1 := 18) rfl rfl rfl ?_
      refine js_aload (pc1 := 19) rfl rfl rfl ?_
      refine js_gfr (pc1 := 22) (j := 4) (r := 229) rfl rfl rfl rfl rfl ?_
      refine js_iconst (pc1 := 23) rfl rfl ?_
      refine js_iload (pc1 := 24) rfl rfl rfl ?_
      refine js_cP (pc1 := 27) (as := [(.inl 0), (.inl x1)]) (S0 := [(.inr (.inr (some 229))), (.inl x2)]) (m := 2) (L0 := [some (.inl 0), some (.inl x1)]) rfl rfl rfl rfl rfl rfl rfl rfl (zrc_s rfl) (by omega) (by omega) (z_M_row_ok N (by omega) (by omega) 0 (zlit rfl) x1 hx1 A1) (fun v5 _ hv5 => ?_)
      refine jt_ald (pc1 := 28) rfl rfl rfl rfl rfl (fun v6 hv6 => ?_)
      refine jt_lt (pc1 := 31) (t1 := 37) hx2 hv6 rfl rfl rfl (fun c7 => ?_) (fun c7 => ?_)
      · refine js_aload (pc1 := 38) rfl rfl rfl ?_
        refine js_iconst (pc1 := 39) rfl rfl ?_
        refine js_iload (pc1 := 40) rfl rfl rfl ?_
        refine js_iload (pc1 := 41) rfl rfl rfl ?_
        refine js_iconst (pc1 := 42) rfl rfl ?_
        refine js_cP (pc1 := 45) (as := [(.inr (.inr (some 226))), (.inl 0), (.inl x1), (.inl x2), (.inl 0)]) (S0 := []) (m := 5) (L0 := [some (.inr (.inr (some 226))), some (.inl 0), some (.inl x1), some (.inl x2), some (.inl 0)]) rfl rfl rfl rfl rfl rfl rfl rfl (zrc_o rfl rfl) (by omega) (by omega) (z_M_field_ok N (by omega) (by omega) 0 (zlit rfl) x1 hx1 x2 hx2 0 (zlit rfl) A1) (fun v8 _ hv8 => ?_)
        refine js_istore (pc1 := 47) (L1 := [some (.inr (.inr (some 226))), some (.inl x1), some (.inl x2), some (.inl x3), some (.inl v8)]) rfl rfl rfl rfl ?_
        refine js_iload (pc1 := 48) rfl rfl rfl ?_
        refine ju_lt (pc1 := 51) (t1 := 60) hx3 rfl rfl rfl (fun c9 => ?_) (fun c9 => ?_)
        · exact zG_to (L := [some (.inr (.inr (some 226))), none, none, none, none]) (S := []) ⟨rfl, trivial⟩ (rfl) (z_M_item_60_ok N hd hw A1)
        · refine js_iload (pc1 := 52) rfl rfl rfl ?_
          refine js_iload (pc1 := 54) rfl rfl rfl ?_
          refine js_cP (pc1 := 57) (as := [(.inl v8)]) (S0 := [(.inl x3)]) (m := 1) (L0 := [some (.inl v8)]) rfl rfl rfl rfl rfl rfl rfl rfl (zrc_s rfl) (by omega) (by omega) (z_M_numbersOf_ok N (by omega) (by omega) v8 hv8 A1) (fun v10 _ hv10 => ?_)
          refine jt_le (pc1 := 60) (t1 := 66) hx3 hv10 rfl rfl rfl (fun c11 => ?_) (fun c11 => ?_)
          · exact zG_to (L := [some (.inr (.inr (some 226))), none, none, none, none]) (S := []) ⟨rfl, trivial⟩ (rfl) (z_M_item_60_ok N hd hw A1)
          · refine js_aload (pc1 := 67) rfl rfl rfl ?_
            refine js_iconst (pc1 := 68) rfl rfl ?_
            refine js_iload (pc1 := 69) rfl rfl rfl ?_
            refine js_iload (pc1 := 70) rfl rfl rfl ?_
            refine js_iload (pc1 := 71) rfl rfl rfl ?_
            refine js_cP (pc1 := 74) (as := [(.inr (.inr (some 226))), (.inl 0), (.inl x1), (.inl x2), (.inl x3)]) (S0 := []) (m := 5) (L0 := [some (.inr (.inr (some 226))), some (.inl 0), some (.inl x1), some (.inl x2), some (.inl x3)]) rfl rfl rfl rfl rfl rfl rfl rfl (zrc_o rfl rfl) (by omega) (by omega) (z_M_field_ok N (by omega) (by omega) 0 (zlit rfl) x1 hx1 x2 hx2 x3 hx3 A1) (fun v12 _ hv12 => ?_)
            exact je_I rfl (zfit0 _ rfl) rfl hv12
      · exact zG_to (L := [some (.inr (.inr (some 226))), none, none, none, none]) (S := []) ⟨rfl, trivial⟩ (rfl) (z_M_item_31_ok N hd hw A1)
theorem z_Cd_add_46_ok{d w : Nat} (N : Nat) (hd : 2 ≤ d) (hw : 86 ≤ w) (x1 : Int) (hx1 : zrg x1) (x2 : Int) (hx2 : zrg x2) (A : zA) : zG (z_Cd_add_46 N x1 x2 A) zPV d w 156 46 [some (.inr (.inr (some 209))), some (.inl x1), some (.inl x2)] [] A := by
  unfold z_Cd_add_46
  refine js_aload (pc1 := 47) rfl rfl rfl ?_
  refine js_gi (pc1 := 50) (j := 2) rfl rfl rfl rfl ?_
  refine js_iconst (pc1 := 53) rfl rfl ?_
  refine jt_ge (pc1 := 56) (t1 := 86) (zi_rg _ _ _) (zlit rfl) rfl rfl rfl (fun c1 => ?_) (fun c1 => ?_)
  · refine js_aload (pc1 := 57) rfl rfl rfl ?_
    refine jt_gr (pc1 := 60) (j := 0) rfl rfl rfl rfl (fun p2 => ?_)
    refine js_aload (pc1 := 61) rfl rfl rfl ?_
    refine js_gi (pc1 := 64) (j := 2) rfl rfl rfl rfl ?_
    refine js_iload (pc1 := 65) rfl rfl rfl ?_
    refine jt_iasD (pc1 := 66) rfl rfl (fun A3 => ?_)
    refine js_aload (pc1 := 67) rfl rfl rfl ?_
    refine jt_gr (pc1 := 70) (j := 1) rfl rfl rfl rfl (fun p4 => ?_)
    refine js_aload (pc1 := 71) rfl rfl rfl ?_
    refine js_gi (pc1 := 74) (j := 2) rfl rfl rfl rfl ?_
    refine js_iload (pc1 := 75) rfl rfl rfl ?_
    refine jt_iasD (pc1 := 76) rfl rfl (fun A5 => ?_)
    refine js_aload (pc1 := 77) rfl rfl rfl ?_
    refine js_dupR (pc1 := 78) rfl rfl ?_
    refine js_gi (pc1 := 81) (j := 2) rfl rfl rfl rfl ?_
    refine js_iconst (pc1 := 82) rfl rfl ?_
    refine js_iadd (pc1 := 83) rfl rfl ?_
    refine jt_pi (pc1 := 86) (j := 2) rfl rfl rfl rfl rfl (fun A6 => ?_)
    exact je_V rfl
  · exact je_V rfl
theorem z_Cd_add_ok{d w : Nat} (N : Nat) (hd : 2 ≤ d) (hw : 86 ≤ w) (x1 : Int) (hx1 : zrg x1) (x2 : Int) (hx2 : zrg x2) (A : zA) : zG (z_Cd_add N x1 x2 A) zPV d w 156 0 [some (.inr (.inr (some 209))), some (.inl x1), some (.inl x2)] [] A := by
  unfold z_Cd_add
  refine js_aload (pc1 := 1) rfl rfl rfl ?_
  refine js_gi (pc1 := 4) (j := 2) rfl rfl rfl rfl ?_
  refine js_aload (pc1 := 5) rfl rfl rfl ?_
  refine jt_gr (pc1 := 8) (j := 0) rfl rfl rfl rfl (fun p1 => ?_)
  refine js_lenD (pc1 := 9) rfl rfl (fun v2 hv2 => ?_)
  refine jt_ne (pc1 := 12) (t1 := 46) (zi_rg _ _ _) hv2 rfl rfl rfl (fun c3 => ?_) (fun c3 => ?_)
  · refine js_aload (pc1 := 13) rfl rfl rfl ?_
    refine js_aload (pc1 := 14) rfl rfl rfl ?_
    refine jt_gr (pc1 := 17) (j := 0) rfl rfl rfl rfl (fun p4 => ?_)
    refine js_iconst (pc1 := 18) rfl rfl ?_
    refine js_aload (pc1 := 19) rfl rfl rfl ?_
    refine js_gi (pc1 := 22) (j := 2) rfl rfl rfl rfl ?_
    refine js_imul (pc1 := 23) rfl rfl ?_
    refine js_cR (pc1 := 26) (as := [(.inr (.inr (some p4))), (.inl (2 * (zi A 209 2)))]) (S0 := [(.inr (.inr (some 209)))]) (m := 3) (L0 := [some (.inr (.inr (some p4))), some (.inl (2 * (zi A 209 2))), none]) rfl rfl rfl rfl rfl rfl rfl rfl (zrc_s rfl) (by omega) (by omega) (zG_to (L := [some (.inr (.inr (some p4))), some (.inl (zw (2 * (zi A 209 2)))), none]) (S := []) ⟨rfl, ⟨zval_w (2 * (zi A 209 2)), trivial⟩⟩ rfl (z_Ar_copyOf_ok N (by omega) (by omega) p4 (zw (2 * (zi A 209 2))) (zw_rg (2 * (zi A 209 2))) A)) (fun p5 A6 _ => ?_)
    refine jt_pr (pc1 := 29) (j := 0) rfl rfl rfl rfl rfl rfl (fun A7 => ?_)
    refine js_aload (pc1 := 30) rfl rfl rfl ?_
    refine js_aload (pc1 := 31) rfl rfl rfl ?_
    refine jt_gr (pc1 := 34) (j := 1) rfl rfl rfl rfl (fun p8 => ?_)
    refine js_iconst (pc1 := 35) rfl rfl ?_
    refine js_aload (pc1 := 36) rfl rfl rfl ?_
    refine js_gi (pc1 := 39) (j := 2) rfl rfl rfl rfl ?_
    refine js_imul (pc1 := 40) rfl rfl ?_
    refine js_cR (pc1 := 43) (as := [(.inr (.inr (some p8))), (.inl (2 * (zi A7 209 2)))]) (S0 := [(.inr (.inr (some 209)))]) (m := 3) (L0 := [some (.inr (.inr (some p8))), some (.inl (2 * (zi A7 209 2))), none]) rfl rfl rfl rfl rfl rfl rfl rfl (zrc_s rfl) (by omega) (by omega) (zG_to (L := [some (.inr (.inr (some p8))), some (.inl (zw (2 * (zi A7 209 2)))), none]) (S := []) ⟨rfl, ⟨zval_w (2 * (zi A7 209 2)), trivial⟩⟩ rfl (z_Ar_copyOf_ok N (by omega) (by omega) p8 (zw (2 * (zi A7 209 2))) (zw_rg (2 * (zi A7 209 2))) A7)) (fun p9 A10 _ => ?_)
    refine jt_pr (pc1 := 46) (j := 1) rfl rfl rfl rfl rfl rfl (fun A11 => ?_)
    exact z_Cd_add_46_ok N hd hw x1 hx1 x2 hx2 A11
  · exact z_Cd_add_46_ok N hd hw x1 hx1 x2 hx2 A
theorem z_Cd_addPlain_173_ok{d w : Nat} (N : Nat) (hd : 3 ≤ d) (hw : 108 ≤ w) (x1 : Nat) (hx1 : zsh x1 = some (false, 3, 4)) (x2 : Int) (hx2 : zrg x2) (A : zA) : zG (z_Cd_addPlain_173 N x1 x2 A) zPV d w 214 173 [some (.inr (.inr (some 209))), some (.inr (.inr (some x1))), some (.inl x2), none, none] [] A := by
  unfold z_Cd_addPlain_173
  refine js_aload (pc1 := 174) rfl rfl rfl ?_
  refine js_iload (pc1 := 175) rfl rfl rfl ?_
  refine js_cP (pc1 := 178) (as := [(.inr (.inr (some x1))), (.inl x2)]) (S0 := []) (m := 3) (L0 := [some (.inr (.inr (some x1))), some (.inl x2), none]) rfl rfl rfl rfl rfl rfl rfl rfl (zrc_o rfl hx1) (by omega) (by omega) (z_Pt_written_ok N (by omega) (by omega) x1 hx1 x2 hx2 A) (fun v1 _ hv1 => ?_)
  refine ju_lt (pc1 := 181) (t1 := 192) hv1 rfl rfl rfl (fun c2 => ?_) (fun c2 => ?_)
  · exact je_V rfl
  · refine js_aload (pc1 := 182) rfl rfl rfl ?_
    refine js_iconst (pc1 := 183) rfl rfl ?_
    refine js_aload (pc1 := 184) rfl rfl rfl ?_
    refine js_iload (pc1 := 185) rfl rfl rfl ?_
    refine js_iconst (pc1 := 186) rfl rfl ?_
    refine js_cP (pc1 := 189) (as := [(.inr (.inr (some x1))), (.inl x2), (.inl 0)]) (S0 := [(.inl 2), (.inr (.inr (some 209)))]) (m := 4) (L0 := [some (.inr (.inr (some x1))), some (.inl x2), some (.inl 0), none]) rfl rfl rfl rfl rfl rfl rfl rfl (zrc_o rfl hx1) (by omega) (by omega) (z_Pt_number_ok N (by omega) (by omega) x1 hx1 x2 hx2 0 (zlit rfl) A) (fun v3 _ hv3 => ?_)
    refine js_cV (pc1 := 192) (as := [(.inr (.inr (some 209))), (.inl 2), (.inl v3)]) (S0 := []) (m := 3) (L0 := [some (.inr (.inr (some 209))), some (.inl 2), some (.inl v3)]) rfl rfl rfl rfl rfl rfl rfl rfl (zrc_o rfl rfl) (by omega) (by omega) (z_Cd_add_ok N (by omega) (by omega) 2 (zlit rfl) v3 hv3 A) (fun A4 _ => ?_)
    exact je_V rfl
theorem z_Cd_addPlain_42_ok{d w : Nat} (N : Nat) (hd : 3 ≤ d) (hw : 108 ≤ w) (x1 : Nat) (hx1 : zsh x1 = some (false, 3, 4)) (x2 : Int) (hx2 : zrg x2) (x3 : Int) (hx3 : zrg x3) (A : zA) : zG (z_Cd_addPlain_42 N x1 x2 x3 A) zPV d w 214 42 [some (.inr (.inr (some 209))), some (.inr (.inr (some x1))), some (.inl x2), some (.inl x3), none] [] A := by
  unfold z_Cd_addPlain_42
  refine js_iload (pc1 := 43) rfl rfl rfl ?_
  refine zG_ite (fun c3 => ?_) (fun c3 => ?_)
  · refine js_tsw (t1 := 88) rfl c3 (zlit rfl) (by decide) ?_
    refine js_aload (pc1 := 89) rfl rfl rfl ?_
    refine js_iconst (pc1 := 90) rfl rfl ?_
    refine js_aload (pc1 := 91) rfl rfl rfl ?_
    refine js_iload (pc1 := 92) rfl rfl rfl ?_
    refine js_iconst (pc1 := 93) rfl rfl ?_
    refine js_cP (pc1 := 96) (as := [(.inr (.inr (some x1))), (.inl x2), (.inl 1)]) (S0 := [(.inl 0), (.inr (.inr (some 209)))]) (m := 4) (L0 := [some (.inr (.inr (some x1))), some (.inl x2), some (.inl 1), none]) rfl rfl rfl rfl rfl rfl rfl rfl (zrc_o rfl hx1) (by omega) (by omega) (z_Pt_number_ok N (by omega) (by omega) x1 hx1 x2 hx2 1 (zlit rfl) A) (fun v1 _ hv1 => ?_)
    refine js_cV (pc1 := 99) (as := [(.inr (.inr (some 209))), (.inl 0), (.inl v1)]) (S0 := []) (m := 3) (L0 := [some (.inr (.inr (some 209))), some (.inl 0), some (.inl v1)]) rfl rfl rfl rfl rfl rfl rfl rfl (zrc_o rfl rfl) (by omega) (by omega) (z_Cd_add_ok N (by omega) (by omega) 0 (zlit rfl) v1 hv1 A) (fun A2 _ => ?_)
    refine js_goto (t1 := 173) rfl rfl ?_
    exact zG_to (L := [some (.inr (.inr (some 209))), some (.inr (.inr (some x1))), some (.inl x2), none, none]) (S := []) ⟨rfl, ⟨rfl, ⟨rfl, trivial⟩⟩⟩ (rfl) (z_Cd_addPlain_173_ok N hd hw x1 hx1 x2 hx2 A2)
  refine zG_ite (fun c6 => ?_) (fun c6 => ?_)
  · refine js_tsw (t1 := 102) rfl c6 (zlit rfl) (by decide) ?_
    refine js_aload (pc1 := 103) rfl rfl rfl ?_
    refine js_iconst (pc1 := 104) rfl rfl ?_
    refine js_aload (pc1 := 105) rfl rfl rfl ?_
    refine js_iload (pc1 := 106) rfl rfl rfl ?_
    refine js_iconst (pc1 := 107) rfl rfl ?_
    refine js_cP (pc1 := 110) (as := [(.inr (.inr (some x1))), (.inl x2), (.inl 3)]) (S0 := [(.inl 3), (.inr (.inr (some 209)))]) (m := 4) (L0 := [some (.inr (.inr (some x1))), some (.inl x2), some (.inl 3), none]) rfl rfl rfl rfl rfl rfl rfl rfl (zrc_o rfl hx1) (by omega) (by omega) (z_Pt_number_ok N (by omega) (by omega) x1 hx1 x2 hx2 3 (zlit rfl) A) (fun v4 _ hv4 => ?_)
    refine js_iadd (pc1 := 111) rfl rfl ?_
    refine js_iconst (pc1 := 112) rfl rfl ?_
    refine js_cV (pc1 := 115) (as := [(.inr (.inr (some 209))), (.inl (3 + v4)), (.inl 0)]) (S0 := []) (m := 3) (L0 := [some (.inr (.inr (some 209))), some (.inl (3 + v4)), some (.inl 0)]) rfl rfl rfl rfl rfl rfl rfl rfl (zrc_o rfl rfl) (by omega) (by omega) (zG_to (L := [some (.inr (.inr (some 209))), some (.inl (zw (3 + v4))), some (.inl 0)]) (S := []) ⟨rfl, ⟨zval_w (3 + v4), ⟨rfl, trivial⟩⟩⟩ rfl (z_Cd_add_ok N (by omega) (by omega) (zw (3 + v4)) (zw_rg (3 + v4)) 0 (zlit rfl) A)) (fun A5 _ => ?_)
    refine js_goto (t1 := 173) rfl rfl ?_
    exact zG_to (L := [some (.inr (.inr (some 209))), some (.inr (.inr (some x1))), some (.inl x2), none, none]) (S := []) ⟨rfl, ⟨rfl, ⟨rfl, trivial⟩⟩⟩ (rfl) (z_Cd_addPlain_173_ok N hd hw x1 hx1 x2 hx2 A5)
  refine zG_ite (fun c8 => ?_) (fun c8 => ?_)
  · refine js_tsw (t1 := 118) rfl c8 (zlit rfl) (by decide) ?_
    refine js_aload (pc1 := 119) rfl rfl rfl ?_
    refine js_iconst (pc1 := 121) rfl rfl ?_
    refine js_iconst (pc1 := 122) rfl rfl ?_
    refine js_cV (pc1 := 125) (as := [(.inr (.inr (some 209))), (.inl 9), (.inl 0)]) (S0 := []) (m := 3) (L0 := [some (.inr (.inr (some 209))), some (.inl 9), some (.inl 0)]) rfl rfl rfl rfl rfl rfl rfl rfl (zrc_o rfl rfl) (by omega) (by omega) (z_Cd_add_ok N (by omega) (by omega) 9 (zlit rfl) 0 (zlit rfl) A) (fun A7 _ => ?_)
    refine js_goto (t1 := 173) rfl rfl ?_
    exact zG_to (L := [some (.inr (.inr (some 209))), some (.inr (.inr (some x1))), some (.inl x2), none, none]) (S := []) ⟨rfl, ⟨rfl, ⟨rfl, trivial⟩⟩⟩ (rfl) (z_Cd_addPlain_173_ok N hd hw x1 hx1 x2 hx2 A7)
  refine zG_ite (fun c10 => ?_) (fun c10 => ?_)
  · refine js_tsw (t1 := 128) rfl c10 (zlit rfl) (by decide) ?_
    refine js_aload (pc1 := 129) rfl rfl rfl ?_
    refine js_iconst (pc1 := 131) rfl rfl ?_
    refine js_iconst (pc1 := 132) rfl rfl ?_
    refine js_cV (pc1 := 135) (as := [(.inr (.inr (some 209))), (.inl 10), (.inl 0)]) (S0 := []) (m := 3) (L0 := [some (.inr (.inr (some 209))), some (.inl 10), some (.inl 0)]) rfl rfl rfl rfl rfl rfl rfl rfl (zrc_o rfl rfl) (by omega) (by omega) (z_Cd_add_ok N (by omega) (by omega) 10 (zlit rfl) 0 (zlit rfl) A) (fun A9 _ => ?_)
    refine js_goto (t1 := 173) rfl rfl ?_
    exact zG_to (L := [some (.inr (.inr (some 209))), some (.inr (.inr (some x1))), some (.inl x2), none, none]) (S := []) ⟨rfl, ⟨rfl, ⟨rfl, trivial⟩⟩⟩ (rfl) (z_Cd_addPlain_173_ok N hd hw x1 hx1 x2 hx2 A9)
  refine zG_ite (fun c12 => ?_) (fun c12 => ?_)
  · refine js_tsw (t1 := 138) rfl c12 (zlit rfl) (by decide) ?_
    refine js_aload (pc1 := 139) rfl rfl rfl ?_
    refine js_iconst (pc1 := 141) rfl rfl ?_
    refine js_iconst (pc1 := 142) rfl rfl ?_
    refine js_cV (pc1 := 145) (as := [(.inr (.inr (some 209))), (.inl 11), (.inl 0)]) (S0 := []) (m := 3) (L0 := [some (.inr (.inr (some 209))), some (.inl 11), some (.inl 0)]) rfl rfl rfl rfl rfl rfl rfl rfl (zrc_o rfl rfl) (by omega) (by omega) (z_Cd_add_ok N (by omega) (by omega) 11 (zlit rfl) 0 (zlit rfl) A) (fun A11 _ => ?_)
    refine js_goto (t1 := 173) rfl rfl ?_
    exact zG_to (L := [some (.inr (.inr (some 209))), some (.inr (.inr (some x1))), some (.inl x2), none, none]) (S := []) ⟨rfl, ⟨rfl, ⟨rfl, trivial⟩⟩⟩ (rfl) (z_Cd_addPlain_173_ok N hd hw x1 hx1 x2 hx2 A11)
  refine zG_ite (fun c14 => ?_) (fun c14 => ?_)
  · refine js_tsw (t1 := 148) rfl c14 (zlit rfl) (by decide) ?_
    refine js_aload (pc1 := 149) rfl rfl rfl ?_
    refine js_iconst (pc1 := 151) rfl rfl ?_
    refine js_iconst (pc1 := 152) rfl rfl ?_
    refine js_cV (pc1 := 155) (as := [(.inr (.inr (some 209))), (.inl 12), (.inl 0)]) (S0 := []) (m := 3) (L0 := [some (.inr (.inr (some 209))), some (.inl 12), some (.inl 0)]) rfl rfl rfl rfl rfl rfl rfl rfl (zrc_o rfl rfl) (by omega) (by omega) (z_Cd_add_ok N (by omega) (by omega) 12 (zlit rfl) 0 (zlit rfl) A) (fun A13 _ => ?_)
    refine js_goto (t1 := 173) rfl rfl ?_
    exact zG_to (L := [some (.inr (.inr (some 209))), some (.inr (.inr (some x1))), some (.inl x2), none, none]) (S := []) ⟨rfl, ⟨rfl, ⟨rfl, trivial⟩⟩⟩ (rfl) (z_Cd_addPlain_173_ok N hd hw x1 hx1 x2 hx2 A13)
  refine zG_ite (fun c17 => ?_) (fun c17 => ?_)
  · refine js_tsw (t1 := 158) rfl c17 (zlit rfl) (by decide) ?_
    refine js_aload (pc1 := 159) rfl rfl rfl ?_
    refine js_iconst (pc1 := 161) rfl rfl ?_
    refine js_aload (pc1 := 162) rfl rfl rfl ?_
    refine js_iload (pc1 := 163) rfl rfl rfl ?_
    refine js_iconst (pc1 := 164) rfl rfl ?_
    refine js_cP (pc1 := 167) (as := [(.inr (.inr (some x1))), (.inl x2), (.inl 1)]) (S0 := [(.inl 15), (.inr (.inr (some 209)))]) (m := 4) (L0 := [some (.inr (.inr (some x1))), some (.inl x2), some (.inl 1), none]) rfl rfl rfl rfl rfl rfl rfl rfl (zrc_o rfl hx1) (by omega) (by omega) (z_Pt_number_ok N (by omega) (by omega) x1 hx1 x2 hx2 1 (zlit rfl) A) (fun v15 _ hv15 => ?_)
    refine js_cV (pc1 := 170) (as := [(.inr (.inr (some 209))), (.inl 15), (.inl v15)]) (S0 := []) (m := 3) (L0 := [some (.inr (.inr (some 209))), some (.inl 15), some (.inl v15)]) rfl rfl rfl rfl rfl rfl rfl rfl (zrc_o rfl rfl) (by omega) (by omega) (z_Cd_add_ok N (by omega) (by omega) 15 (zlit rfl) v15 hv15 A) (fun A16 _ => ?_)
    refine js_goto (t1 := 173) rfl rfl ?_
    exact zG_to (L := [some (.inr (.inr (some 209))), some (.inr (.inr (some x1))), some (.inl x2), none, none]) (S := []) ⟨rfl, ⟨rfl, ⟨rfl, trivial⟩⟩⟩ (rfl) (z_Cd_addPlain_173_ok N hd hw x1 hx1 x2 hx2 A16)
  rcases Decidable.em (x3 = 1) with c18 | c18
  · refine js_tsw (t1 := 173) rfl c18 (zlit rfl) (by decide) ?_
    exact zG_to (L := [some (.inr (.inr (some 209))), some (.inr (.inr (some x1))), some (.inl x2), none, none]) (S := []) ⟨rfl, ⟨rfl, ⟨rfl, trivial⟩⟩⟩ (rfl) (z_Cd_addPlain_173_ok N hd hw x1 hx1 x2 hx2 A)
  refine js_tswd (t1 := 173) rfl hx3 (by omega) rfl ?_
  exact zG_to (L := [some (.inr (.inr (some 209))), some (.inr (.inr (some x1))), some (.inl x2), none, none]) (S := []) ⟨rfl, ⟨rfl, ⟨rfl, trivial⟩⟩⟩ (rfl) (z_Cd_addPlain_173_ok N hd hw x1 hx1 x2 hx2 A)
theorem z_Cd_addPlain_9_bok{d w : Nat} {r9 : Nat → Int → Int → Int → zA → Option zA} (hr9 : ∀ (x1 : Nat) (hx1 : zsh x1 = some (false, 3, 4)) (x2 : Int) (hx2 : zrg x2) (x3 : Int) (hx3 : zrg x3) (x4 : Int) (hx4 : zrg x4) (A : zA), zG (r9 x1 x2 x3 x4 A) zPV d w 214 9 [some (.inr (.inr (some 209))), some (.inr (.inr (some x1))), some (.inl x2), some (.inl x3), some (.inl x4)] [] A) (N : Nat) (hd : 3 ≤ d) (hw : 108 ≤ w) (x1 : Nat) (hx1 : zsh x1 = some (false, 3, 4)) (x2 : Int) (hx2 : zrg x2) (x3 : Int) (hx3 : zrg x3) (x4 : Int) (hx4 : zrg x4) (A : zA) : zG (z_Cd_addPlain_9_b r9 N x1 x2 x3 x4 A) zPV d w 214 9 [some (.inr (.inr (some 209))), some (.inr (.inr (some x1))), some (.inl x2), some (.inl x3), some (.inl x4)] [] A := by
  unfold z_Cd_addPlain_9_b
  refine js_iload (pc1 := 11) rfl rfl rfl ?_
  refine js_aload (pc1 := 12) rfl rfl rfl ?_
  refine js_iload (pc1 := 13) rfl rfl rfl ?_
  refine js_cP (pc1 := 16) (as := [(.inr (.inr (some x1))), (.inl x2)]) (S0 := [(.inl x4)]) (m := 2) (L0 := [some (.inr (.inr (some x1))), some (.inl x2)]) rfl rfl rfl rfl rfl rfl rfl rfl (zrc_o rfl hx1) (by omega) (by omega) (z_Pt_reads_ok N (by omega) (by omega) x1 hx1 x2 hx2 A) (fun v1 _ hv1 => ?_)
  refine jt_ge (pc1 := 19) (t1 := 42) hx4 hv1 rfl rfl rfl (fun c2 => ?_) (fun c2 => ?_)
  · refine js_aload (pc1 := 20) rfl rfl rfl ?_
    refine js_iconst (pc1 := 21) rfl rfl ?_
    refine js_aload (pc1 := 22) rfl rfl rfl ?_
    refine js_iload (pc1 := 23) rfl rfl rfl ?_
    refine js_aload (pc1 := 24) rfl rfl rfl ?_
    refine js_iload (pc1 := 25) rfl rfl rfl ?_
    refine js_iload (pc1 := 27) rfl rfl rfl ?_
    refine js_cP (pc1 := 30) (as := [(.inr (.inr (some x1))), (.inl x2), (.inl x4)]) (S0 := [(.inl x2), (.inr (.inr (some x1))), (.inl 1), (.inr (.inr (some 209)))]) (m := 3) (L0 := [some (.inr (.inr (some x1))), some (.inl x2), some (.inl x4)]) rfl rfl rfl rfl rfl rfl rfl rfl (zrc_o rfl hx1) (by omega) (by omega) (z_Pt_readNumber_ok N (by omega) (by omega) x1 hx1 x2 hx2 x4 hx4 A) (fun v3 _ hv3 => ?_)
    refine js_cP (pc1 := 33) (as := [(.inr (.inr (some x1))), (.inl x2), (.inl v3)]) (S0 := [(.inl 1), (.inr (.inr (some 209)))]) (m := 4) (L0 := [some (.inr (.inr (some x1))), some (.inl x2), some (.inl v3), none]) rfl rfl rfl rfl rfl rfl rfl rfl (zrc_o rfl hx1) (by omega) (by omega) (z_Pt_number_ok N (by omega) (by omega) x1 hx1 x2 hx2 v3 hv3 A) (fun v4 _ hv4 => ?_)
    refine js_cV (pc1 := 36) (as := [(.inr (.inr (some 209))), (.inl 1), (.inl v4)]) (S0 := []) (m := 3) (L0 := [some (.inr (.inr (some 209))), some (.inl 1), some (.inl v4)]) rfl rfl rfl rfl rfl rfl rfl rfl (zrc_o rfl rfl) (by omega) (by omega) (z_Cd_add_ok N (by omega) (by omega) 1 (zlit rfl) v4 hv4 A) (fun A5 _ => ?_)
    refine js_iinc (pc1 := 39) (L1 := [some (.inr (.inr (some 209))), some (.inr (.inr (some x1))), some (.inl x2), some (.inl x3), some (.inl (x4 + 1))]) rfl rfl rfl rfl ?_
    refine js_goto (t1 := 9) rfl rfl ?_
    exact zG_to (L := [some (.inr (.inr (some 209))), some (.inr (.inr (some x1))), some (.inl x2), some (.inl x3), some (.inl (zw (x4 + 1)))]) (S := []) ⟨rfl, ⟨rfl, ⟨rfl, ⟨rfl, ⟨zval_w (x4 + 1), trivial⟩⟩⟩⟩⟩ (rfl) (hr9 x1 hx1 x2 hx2 x3 hx3 (zw (x4 + 1)) (zw_rg (x4 + 1)) A5)
  · exact zG_to (L := [some (.inr (.inr (some 209))), some (.inr (.inr (some x1))), some (.inl x2), some (.inl x3), none]) (S := []) ⟨rfl, ⟨rfl, ⟨rfl, ⟨rfl, trivial⟩⟩⟩⟩ (rfl) (z_Cd_addPlain_42_ok N hd hw x1 hx1 x2 hx2 x3 hx3 A)
theorem z_Cd_addPlain_9_lok{d w : Nat} (N : Nat) (hd : 3 ≤ d) (hw : 108 ≤ w) (n : Nat) : ∀ (x1 : Nat) (hx1 : zsh x1 = some (false, 3, 4)) (x2 : Int) (hx2 : zrg x2) (x3 : Int) (hx3 : zrg x3) (x4 : Int) (hx4 : zrg x4) (A : zA), zG (z_Cd_addPlain_9_l N n x1 x2 x3 x4 A) zPV d w 214 9 [some (.inr (.inr (some 209))), some (.inr (.inr (some x1))), some (.inl x2), some (.inl x3), some (.inl x4)] [] A := by
  induction n with
  | zero => intros; exact zG_none
  | succ n ih =>
    intro x1 hx1 x2 hx2 x3 hx3 x4 hx4 A
    exact z_Cd_addPlain_9_bok ih N hd hw x1 hx1 x2 hx2 x3 hx3 x4 hx4 A
theorem z_Cd_addPlain_9_ok{d w : Nat} (N : Nat) (hd : 3 ≤ d) (hw : 108 ≤ w) (x1 : Nat) (hx1 : zsh x1 = some (false, 3, 4)) (x2 : Int) (hx2 : zrg x2) (x3 : Int) (hx3 : zrg x3) (x4 : Int) (hx4 : zrg x4) (A : zA) : zG (z_Cd_addPlain_9 N x1 x2 x3 x4 A) zPV d w 214 9 [some (.inr (.inr (some 209))), some (.inr (.inr (some x1))), some (.inl x2), some (.inl x3), some (.inl x4)] [] A := z_Cd_addPlain_9_lok N hd hw N x1 hx1 x2 hx2 x3 hx3 x4 hx4 A
theorem z_Cd_addPlain_ok{d w : Nat} (N : Nat) (hd : 3 ≤ d) (hw : 108 ≤ w) (x1 : Nat) (hx1 : zsh x1 = some (false, 3, 4)) (x2 : Int) (hx2 : zrg x2) (A : zA) : zG (z_Cd_addPlain N x1 x2 A) zPV d w 214 0 [some (.inr (.inr (some 209))), some (.inr (.inr (some x1))), some (.inl x2), none, none] [] A := by
  unfold z_Cd_addPlain
  refine js_aload (pc1 := 1) rfl rfl rfl ?_
  refine js_iload (pc1 := 2) rfl rfl rfl ?_
  refine js_cP (pc1 := 5) (as := [(.inr (.inr (some x1))), (.inl x2)]) (S0 := []) (m := 2) (L0 := [some (.inr (.inr (some x1))), some (.inl x2)]) rfl rfl rfl rfl rfl rfl rfl rfl (zrc_o rfl hx1) (by omega) (by omega) (z_Pt_kind_ok N (by omega) (by omega) x1 hx1 x2 hx2 A) (fun v1 _ hv1 => ?_)
  refine js_istore (pc1 := 6) (L1 := [some (.inr (.inr (some 209))), some (.inr (.inr (some x1))), some (.inl x2), some (.inl v1), none]) rfl rfl rfl rfl ?_
  refine js_iconst (pc1 := 7) rfl rfl ?_
  refine js_istore (pc1 := 9) (L1 := [some (.inr (.inr (some 209))), some (.inr (.inr (some x1))), some (.inl x2), some (.inl v1), some (.inl 0)]) rfl rfl rfl rfl ?_
  exact z_Cd_addPlain_9_ok N hd hw x1 hx1 x2 hx2 v1 hv1 0 (zlit rfl) A
theorem z_Cd_await_ok{d w : Nat} (N : Nat) (hd : 0 ≤ d) (hw : 0 ≤ w) (x1 : Int) (hx1 : zrg x1) (A : zA) : zG (z_Cd_await N x1 A) zPV d w 270 0 [some (.inr (.inr (some 209))), some (.inl x1)] [] A := by
  unfold z_Cd_await
  refine js_iload (pc1 := 1) rfl rfl rfl ?_
  refine ju_lt (pc1 := 4) (t1 := 23) hx1 rfl rfl rfl (fun c1 => ?_) (fun c1 => ?_)
  · exact je_V rfl
  · refine js_iload (pc1 := 5) rfl rfl rfl ?_
    refine js_aload (pc1 := 6) rfl rfl rfl ?_
    refine js_gfr (pc1 := 9) (j := 3) (r := 212) rfl rfl rfl rfl rfl ?_
    refine js_len (pc1 := 10) rfl rfl rfl ?_
    refine jt_ge (pc1 := 13) (t1 := 23) hx1 (zlit rfl) rfl rfl rfl (fun c2 => ?_) (fun c2 => ?_)
    · refine js_aload (pc1 := 14) rfl rfl rfl ?_
      refine js_gfr (pc1 := 17) (j := 3) (r := 212) rfl rfl rfl rfl rfl ?_
      refine js_iload (pc1 := 18) rfl rfl rfl ?_
      refine js_aload (pc1 := 19) rfl rfl rfl ?_
      refine js_gi (pc1 := 22) (j := 2) rfl rfl rfl rfl ?_
      refine jt_ias (pc1 := 23) rfl rfl rfl rfl (fun A3 => ?_)
      exact je_V rfl
    · exact je_V rfl
theorem z_Cd_lead_ok{d w : Nat} (N : Nat) (hd : 0 ≤ d) (hw : 0 ≤ w) (x1 : Int) (hx1 : zrg x1) (A : zA) : zG (z_Cd_lead N x1 A) zPV d w 271 0 [some (.inr (.inr (some 209))), some (.inl x1)] [] A := by
  unfold z_Cd_lead
  refine js_iload (pc1 := 1) rfl rfl rfl ?_
  refine ju_lt (pc1 := 4) (t1 := 22) hx1 rfl rfl rfl (fun c1 => ?_) (fun c1 => ?_)
  · exact je_V rfl
  · refine js_iload (pc1 := 5) rfl rfl rfl ?_
    refine js_aload (pc1 := 6) rfl rfl rfl ?_
    refine js_gi (pc1 := 9) (j := 2) rfl rfl rfl rfl ?_
    refine jt_ge (pc1 := 12) (t1 := 22) hx1 (zi_rg _ _ _) rfl rfl rfl (fun c2 => ?_) (fun c2 => ?_)
    · refine js_aload (pc1 := 13) rfl rfl rfl ?_
      refine jt_gr (pc1 := 16) (j := 1) rfl rfl rfl rfl (fun p3 => ?_)
      refine js_iload (pc1 := 17) rfl rfl rfl ?_
      refine js_aload (pc1 := 18) rfl rfl rfl ?_
      refine js_gi (pc1 := 21) (j := 2) rfl rfl rfl rfl ?_
      refine jt_iasD (pc1 := 22) rfl rfl (fun A4 => ?_)
      exact je_V rfl
    · exact je_V rfl
theorem z_Cd_addTurn_125_ok{d w : Nat} (N : Nat) (hd : 3 ≤ d) (hw : 108 ≤ w) (x2 : Int) (hx2 : zrg x2) (A : zA) : zG (z_Cd_addTurn_125 N x2 A) zPV d w 215 125 [some (.inr (.inr (some 209))), none, some (.inl x2), none, none] [] A := by
  unfold z_Cd_addTurn_125
  refine js_aload (pc1 := 126) rfl rfl rfl ?_
  refine js_aload (pc1 := 127) rfl rfl rfl ?_
  refine js_gfr (pc1 := 130) (j := 3) (r := 212) rfl rfl rfl rfl rfl ?_
  refine js_iload (pc1 := 131) rfl rfl rfl ?_
  refine jt_ald (pc1 := 132) rfl rfl rfl rfl rfl (fun v1 hv1 => ?_)
  refine js_cV (pc1 := 135) (as := [(.inr (.inr (some 209))), (.inl v1)]) (S0 := []) (m := 2) (L0 := [some (.inr (.inr (some 209))), some (.inl v1)]) rfl rfl rfl rfl rfl rfl rfl rfl (zrc_o rfl rfl) (by omega) (by omega) (z_Cd_lead_ok N (by omega) (by omega) v1 hv1 A) (fun A2 _ => ?_)
  exact je_V rfl
theorem z_Cd_addTurn_ok{d w : Nat} (N : Nat) (hd : 3 ≤ d) (hw : 108 ≤ w) (x1 : Nat) (hx1 : zsh x1 = some (false, 3, 4)) (x2 : Int) (hx2 : zrg x2) (A : zA) : zG (z_Cd_addTurn N x1 x2 A) zPV d w 215 0 [some (.inr (.inr (some 209))), some (.inr (.inr (some x1))), some (.inl x2), none, none] [] A := by
  unfold z_Cd_addTurn
  refine js_aload (pc1 := 1) rfl rfl rfl ?_
  refine js_iload (pc1 := 2) rfl rfl rfl ?_
  refine js_cP (pc1 := 5) (as := [(.inr (.inr (some x1))), (.inl x2)]) (S0 := []) (m := 2) (L0 := [some (.inr (.inr (some x1))), some (.inl x2)]) rfl rfl rfl rfl rfl rfl rfl rfl (zrc_o rfl hx1) (by omega) (by omega) (z_Pt_mate_ok N (by omega) (by omega) x1 hx1 x2 hx2 A) (fun v1 _ hv1 => ?_)
  refine js_istore (pc1 := 6) (L1 := [some (.inr (.inr (some 209))), some (.inr (.inr (some x1))), some (.inl x2), some (.inl v1), none]) rfl rfl rfl rfl ?_
  refine js_aload (pc1 := 7) rfl rfl rfl ?_
  refine js_iload (pc1 := 8) rfl rfl rfl ?_
  refine js_cP (pc1 := 11) (as := [(.inr (.inr (some x1))), (.inl x2)]) (S0 := []) (m := 2) (L0 := [some (.inr (.inr (some x1))), some (.inl x2)]) rfl rfl rfl rfl rfl rfl rfl rfl (zrc_o rfl hx1) (by omega) (by omega) (z_Pt_kind_ok N (by omega) (by omega) x1 hx1 x2 hx2 A) (fun v2 _ hv2 => ?_)
  refine zG_ite (fun c7 => ?_) (fun c7 => ?_)
  · refine js_tsw (t1 := 40) rfl c7 (zlit rfl) (by decide) ?_
    refine js_aload (pc1 := 41) rfl rfl rfl ?_
    refine js_iconst (pc1 := 42) rfl rfl ?_
    refine js_aload (pc1 := 43) rfl rfl rfl ?_
    refine js_iload (pc1 := 44) rfl rfl rfl ?_
    refine js_iconst (pc1 := 45) rfl rfl ?_
    refine js_cP (pc1 := 48) (as := [(.inr (.inr (some x1))), (.inl x2), (.inl 0)]) (S0 := [(.inl 1), (.inr (.inr (some 209)))]) (m := 4) (L0 := [some (.inr (.inr (some x1))), some (.inl x2), some (.inl 0), none]) rfl rfl rfl rfl rfl rfl rfl rfl (zrc_o rfl hx1) (by omega) (by omega) (z_Pt_number_ok N (by omega) (by omega) x1 hx1 x2 hx2 0 (zlit rfl) A) (fun v3 _ hv3 => ?_)
    refine js_cV (pc1 := 51) (as := [(.inr (.inr (some 209))), (.inl 1), (.inl v3)]) (S0 := []) (m := 3) (L0 := [some (.inr (.inr (some 209))), some (.inl 1), some (.inl v3)]) rfl rfl rfl rfl rfl rfl rfl rfl (zrc_o rfl rfl) (by omega) (by omega) (z_Cd_add_ok N (by omega) (by omega) 1 (zlit rfl) v3 hv3 A) (fun A4 _ => ?_)
    refine js_aload (pc1 := 52) rfl rfl rfl ?_
    refine js_iload (pc1 := 53) rfl rfl rfl ?_
    refine js_cV (pc1 := 56) (as := [(.inr (.inr (some 209))), (.inl v1)]) (S0 := []) (m := 2) (L0 := [some (.inr (.inr (some 209))), some (.inl v1)]) rfl rfl rfl rfl rfl rfl rfl rfl (zrc_o rfl rfl) (by omega) (by omega) (z_Cd_await_ok N (by omega) (by omega) v1 hv1 A4) (fun A5 _ => ?_)
    refine js_aload (pc1 := 57) rfl rfl rfl ?_
    refine js_iconst (pc1 := 59) rfl rfl ?_
    refine js_iconst (pc1 := 60) rfl rfl ?_
    refine js_cV (pc1 := 63) (as := [(.inr (.inr (some 209))), (.inl 13), (.inl 0)]) (S0 := []) (m := 3) (L0 := [some (.inr (.inr (some 209))), some (.inl 13), some (.inl 0)]) rfl rfl rfl rfl rfl rfl rfl rfl (zrc_o rfl rfl) (by omega) (by omega) (z_Cd_add_ok N (by omega) (by omega) 13 (zlit rfl) 0 (zlit rfl) A5) (fun A6 _ => ?_)
    refine js_goto (t1 := 135) rfl rfl ?_
    exact je_V rfl
  refine zG_ite (fun c12 => ?_) (fun c12 => ?_)
  · refine js_tsw (t1 := 66) rfl c12 (zlit rfl) (by decide) ?_
    refine js_aload (pc1 := 67) rfl rfl rfl ?_
    refine js_gfr (pc1 := 70) (j := 3) (r := 212) rfl rfl rfl rfl rfl ?_
    refine js_iload (pc1 := 71) rfl rfl rfl ?_
    refine jt_ald (pc1 := 72) rfl rfl rfl rfl rfl (fun v8 hv8 => ?_)
    refine js_istore (pc1 := 74) (L1 := [some (.inr (.inr (some 209))), some (.inr (.inr (some x1))), some (.inl x2), some (.inl v1), some (.inl v8)]) rfl rfl rfl rfl ?_
    refine js_aload (pc1 := 75) rfl rfl rfl ?_
    refine js_iload (pc1 := 76) rfl rfl rfl ?_
    refine js_cV (pc1 := 79) (as := [(.inr (.inr (some 209))), (.inl v1)]) (S0 := []) (m := 2) (L0 := [some (.inr (.inr (some 209))), some (.inl v1)]) rfl rfl rfl rfl rfl rfl rfl rfl (zrc_o rfl rfl) (by omega) (by omega) (z_Cd_await_ok N (by omega) (by omega) v1 hv1 A) (fun A9 _ => ?_)
    refine js_aload (pc1 := 80) rfl rfl rfl ?_
    refine js_iconst (pc1 := 82) rfl rfl ?_
    refine js_iconst (pc1 := 83) rfl rfl ?_
    refine js_cV (pc1 := 86) (as := [(.inr (.inr (some 209))), (.inl 14), (.inl 0)]) (S0 := []) (m := 3) (L0 := [some (.inr (.inr (some 209))), some (.inl 14), some (.inl 0)]) rfl rfl rfl rfl rfl rfl rfl rfl (zrc_o rfl rfl) (by omega) (by omega) (z_Cd_add_ok N (by omega) (by omega) 14 (zlit rfl) 0 (zlit rfl) A9) (fun A10 _ => ?_)
    refine js_aload (pc1 := 87) rfl rfl rfl ?_
    refine js_iload (pc1 := 89) rfl rfl rfl ?_
    refine js_cV (pc1 := 92) (as := [(.inr (.inr (some 209))), (.inl v8)]) (S0 := []) (m := 2) (L0 := [some (.inr (.inr (some 209))), some (.inl v8)]) rfl rfl rfl rfl rfl rfl rfl rfl (zrc_o rfl rfl) (by omega) (by omega) (z_Cd_lead_ok N (by omega) (by omega) v8 hv8 A10) (fun A11 _ => ?_)
    refine js_goto (t1 := 135) rfl rfl ?_
    exact je_V rfl
  refine zG_ite (fun c14 => ?_) (fun c14 => ?_)
  · refine js_tsw (t1 := 95) rfl c14 (zlit rfl) (by decide) ?_
    refine js_aload (pc1 := 96) rfl rfl rfl ?_
    refine js_iload (pc1 := 97) rfl rfl rfl ?_
    refine js_cV (pc1 := 100) (as := [(.inr (.inr (some 209))), (.inl x2)]) (S0 := []) (m := 2) (L0 := [some (.inr (.inr (some 209))), some (.inl x2)]) rfl rfl rfl rfl rfl rfl rfl rfl (zrc_o rfl rfl) (by omega) (by omega) (z_Cd_await_ok N (by omega) (by omega) x2 hx2 A) (fun A13 _ => ?_)
    refine js_goto (t1 := 135) rfl rfl ?_
    exact je_V rfl
  refine zG_ite (fun c19 => ?_) (fun c19 => ?_)
  · refine js_tsw (t1 := 40) rfl c19 (zlit rfl) (by decide) ?_
    refine js_aload (pc1 := 41) rfl rfl rfl ?_
    refine js_iconst (pc1 := 42) rfl rfl ?_
    refine js_aload (pc1 := 43) rfl rfl rfl ?_
    refine js_iload (pc1 := 44) rfl rfl rfl ?_
    refine js_iconst (pc1 := 45) rfl rfl ?_
    refine js_cP (pc1 := 48) (as := [(.inr (.inr (some x1))), (.inl x2), (.inl 0)]) (S0 := [(.inl 1), (.inr (.inr (some 209)))]) (m := 4) (L0 := [some (.inr (.inr (some x1))), some (.inl x2), some (.inl 0), none]) rfl rfl rfl rfl rfl rfl rfl rfl (zrc_o rfl hx1) (by omega) (by omega) (z_Pt_number_ok N (by omega) (by omega) x1 hx1 x2 hx2 0 (zlit rfl) A) (fun v15 _ hv15 => ?_)
    refine js_cV (pc1 := 51) (as := [(.inr (.inr (some 209))), (.inl 1), (.inl v15)]) (S0 := []) (m := 3) (L0 := [some (.inr (.inr (some 209))), some (.inl 1), some (.inl v15)]) rfl rfl rfl rfl rfl rfl rfl rfl (zrc_o rfl rfl) (by omega) (by omega) (z_Cd_add_ok N (by omega) (by omega) 1 (zlit rfl) v15 hv15 A) (fun A16 _ => ?_)
    refine js_aload (pc1 := 52) rfl rfl rfl ?_
    refine js_iload (pc1 := 53) rfl rfl rfl ?_
    refine js_cV (pc1 := 56) (as := [(.inr (.inr (some 209))), (.inl v1)]) (S0 := []) (m := 2) (L0 := [some (.inr (.inr (some 209))), some (.inl v1)]) rfl rfl rfl rfl rfl rfl rfl rfl (zrc_o rfl rfl) (by omega) (by omega) (z_Cd_await_ok N (by omega) (by omega) v1 hv1 A16) (fun A17 _ => ?_)
    refine js_aload (pc1 := 57) rfl rfl rfl ?_
    refine js_iconst (pc1 := 59) rfl rfl ?_
    refine js_iconst (pc1 := 60) rfl rfl ?_
    refine js_cV (pc1 := 63) (as := [(.inr (.inr (some 209))), (.inl 13), (.inl 0)]) (S0 := []) (m := 3) (L0 := [some (.inr (.inr (some 209))), some (.inl 13), some (.inl 0)]) rfl rfl rfl rfl rfl rfl rfl rfl (zrc_o rfl rfl) (by omega) (by omega) (z_Cd_add_ok N (by omega) (by omega) 13 (zlit rfl) 0 (zlit rfl) A17) (fun A18 _ => ?_)
    refine js_goto (t1 := 135) rfl rfl ?_
    exact je_V rfl
  refine js_tswd (t1 := 103) rfl hv2 (by omega) rfl ?_
  refine js_aload (pc1 := 104) rfl rfl rfl ?_
  refine js_iload (pc1 := 105) rfl rfl rfl ?_
  refine js_cP (pc1 := 108) (as := [(.inr (.inr (some x1))), (.inl v1)]) (S0 := []) (m := 2) (L0 := [some (.inr (.inr (some x1))), some (.inl v1)]) rfl rfl rfl rfl rfl rfl rfl rfl (zrc_o rfl hx1) (by omega) (by omega) (z_Pt_kind_ok N (by omega) (by omega) x1 hx1 v1 hv1 A) (fun v20 _ hv20 => ?_)
  refine js_iconst (pc1 := 110) rfl rfl ?_
  refine jt_ne (pc1 := 113) (t1 := 125) hv20 (zlit rfl) rfl rfl rfl (fun c21 => ?_) (fun c21 => ?_)
  · refine js_aload (pc1 := 114) rfl rfl rfl ?_
    refine js_iconst (pc1 := 116) rfl rfl ?_
    refine js_aload (pc1 := 117) rfl rfl rfl ?_
    refine js_gfr (pc1 := 120) (j := 3) (r := 212) rfl rfl rfl rfl rfl ?_
    refine js_iload (pc1 := 121) rfl rfl rfl ?_
    refine jt_ald (pc1 := 122) rfl rfl rfl rfl rfl (fun v22 hv22 => ?_)
    refine js_cV (pc1 := 125) (as := [(.inr (.inr (some 209))), (.inl 14), (.inl v22)]) (S0 := []) (m := 3) (L0 := [some (.inr (.inr (some 209))), some (.inl 14), some (.inl v22)]) rfl rfl rfl rfl rfl rfl rfl rfl (zrc_o rfl rfl) (by omega) (by omega) (z_Cd_add_ok N (by omega) (by omega) 14 (zlit rfl) v22 hv22 A) (fun A23 _ => ?_)
    exact zG_to (L := [some (.inr (.inr (some 209))), none, some (.inl x2), none, none]) (S := []) ⟨rfl, ⟨rfl, trivial⟩⟩ (rfl) (z_Cd_addTurn_125_ok N hd hw x2 hx2 A23)
  · exact zG_to (L := [some (.inr (.inr (some 209))), none, some (.inl x2), none, none]) (S := []) ⟨rfl, ⟨rfl, trivial⟩⟩ (rfl) (z_Cd_addTurn_125_ok N hd hw x2 hx2 A)
theorem z_Cd_addItems_2_bok{d w : Nat} {r2 : Nat → Int → zA → Option zA} (hr2 : ∀ (x1 : Nat) (hx1 : zsh x1 = some (false, 3, 4)) (x2 : Int) (hx2 : zrg x2) (A : zA), zG (r2 x1 x2 A) zPV d w 155 2 [some (.inr (.inr (some 209))), some (.inr (.inr (some x1))), some (.inl x2)] [] A) (N : Nat) (hd : 4 ≤ d) (hw : 132 ≤ w) (x1 : Nat) (hx1 : zsh x1 = some (false, 3, 4)) (x2 : Int) (hx2 : zrg x2) (A : zA) : zG (z_Cd_addItems_2_b r2 N x1 x2 A) zPV d w 155 2 [some (.inr (.inr (some 209))), some (.inr (.inr (some x1))), some (.inl x2)] [] A := by
  unfold z_Cd_addItems_2_b
  refine js_iload (pc1 := 3) rfl rfl rfl ?_
  refine js_aload (pc1 := 4) rfl rfl rfl ?_
  refine js_gi (pc1 := 7) (j := 2) rfl rfl hx1 rfl ?_
  refine jt_ge (pc1 := 10) (t1 := 41) hx2 (zi_rg _ _ _) rfl rfl rfl (fun c1 => ?_) (fun c1 => ?_)
  · refine js_aload (pc1 := 11) rfl rfl rfl ?_
    refine js_iload (pc1 := 12) rfl rfl rfl ?_
    refine js_cP (pc1 := 15) (as := [(.inr (.inr (some x1))), (.inl x2)]) (S0 := []) (m := 2) (L0 := [some (.inr (.inr (some x1))), some (.inl x2)]) rfl rfl rfl rfl rfl rfl rfl rfl (zrc_o rfl hx1) (by omega) (by omega) (z_Pt_kind_ok N (by omega) (by omega) x1 hx1 x2 hx2 A) (fun v2 _ hv2 => ?_)
    refine js_iconst (pc1 := 17) rfl rfl ?_
    refine jt_ge (pc1 := 20) (t1 := 29) hv2 (zlit rfl) rfl rfl rfl (fun c3 => ?_) (fun c3 => ?_)
    · refine js_aload (pc1 := 21) rfl rfl rfl ?_
      refine js_aload (pc1 := 22) rfl rfl rfl ?_
      refine js_iload (pc1 := 23) rfl rfl rfl ?_
      refine js_cV (pc1 := 26) (as := [(.inr (.inr (some 209))), (.inr (.inr (some x1))), (.inl x2)]) (S0 := []) (m := 5) (L0 := [some (.inr (.inr (some 209))), some (.inr (.inr (some x1))), some (.inl x2), none, none]) rfl rfl rfl rfl rfl rfl rfl rfl (zrc_o rfl rfl) (by omega) (by omega) (z_Cd_addPlain_ok N (by omega) (by omega) x1 hx1 x2 hx2 A) (fun A4 _ => ?_)
      refine js_goto (t1 := 35) rfl rfl ?_
      refine js_iinc (pc1 := 38) (L1 := [some (.inr (.inr (some 209))), some (.inr (.inr (some x1))), some (.inl (x2 + 1))]) rfl rfl rfl rfl ?_
      refine js_goto (t1 := 2) rfl rfl ?_
      exact zG_to (L := [some (.inr (.inr (some 209))), some (.inr (.inr (some x1))), some (.inl (zw (x2 + 1)))]) (S := []) ⟨rfl, ⟨rfl, ⟨zval_w (x2 + 1), trivial⟩⟩⟩ (rfl) (hr2 x1 hx1 (zw (x2 + 1)) (zw_rg (x2 + 1)) A4)
    · refine js_aload (pc1 := 30) rfl rfl rfl ?_
      refine js_aload (pc1 := 31) rfl rfl rfl ?_
      refine js_iload (pc1 := 32) rfl rfl rfl ?_
      refine js_cV (pc1 := 35) (as := [(.inr (.inr (some 209))), (.inr (.inr (some x1))), (.inl x2)]) (S0 := []) (m := 5) (L0 := [some (.inr (.inr (some 209))), some (.inr (.inr (some x1))), some (.inl x2), none, none]) rfl rfl rfl rfl rfl rfl rfl rfl (zrc_o rfl rfl) (by omega) (by omega) (z_Cd_addTurn_ok N (by omega) (by omega) x1 hx1 x2 hx2 A) (fun A5 _ => ?_)
      refine js_iinc (pc1 := 38) (L1 := [some (.inr (.inr (some 209))), some (.inr (.inr (some x1))), some (.inl (x2 + 1))]) rfl rfl rfl rfl ?_
      refine js_goto (t1 := 2) rfl rfl ?_
      exact zG_to (L := [some (.inr (.inr (some 209))), some (.inr (.inr (some x1))), some (.inl (zw (x2 + 1)))]) (S := []) ⟨rfl, ⟨rfl, ⟨zval_w (x2 + 1), trivial⟩⟩⟩ (rfl) (hr2 x1 hx1 (zw (x2 + 1)) (zw_rg (x2 + 1)) A5)
  · exact je_V rfl
theorem z_Cd_addItems_2_lok{d w : Nat} (N : Nat) (hd : 4 ≤ d) (hw : 132 ≤ w) (n : Nat) : ∀ (x1 : Nat) (hx1 : zsh x1 = some (false, 3, 4)) (x2 : Int) (hx2 : zrg x2) (A : zA), zG (z_Cd_addItems_2_l N n x1 x2 A) zPV d w 155 2 [some (.inr (.inr (some 209))), some (.inr (.inr (some x1))), some (.inl x2)] [] A := by
  induction n with
  | zero => intros; exact zG_none
  | succ n ih =>
    intro x1 hx1 x2 hx2 A
    exact z_Cd_addItems_2_bok ih N hd hw x1 hx1 x2 hx2 A
theorem z_Cd_addItems_2_ok{d w : Nat} (N : Nat) (hd : 4 ≤ d) (hw : 132 ≤ w) (x1 : Nat) (hx1 : zsh x1 = some (false, 3, 4)) (x2 : Int) (hx2 : zrg x2) (A : zA) : zG (z_Cd_addItems_2 N x1 x2 A) zPV d w 155 2 [some (.inr (.inr (some 209))), some (.inr (.inr (some x1))), some (.inl x2)] [] A := z_Cd_addItems_2_lok N hd hw N x1 hx1 x2 hx2 A
theorem z_Cd_addItems_ok{d w : Nat} (N : Nat) (hd : 4 ≤ d) (hw : 132 ≤ w) (x1 : Nat) (hx1 : zsh x1 = some (false, 3, 4)) (A : zA) : zG (z_Cd_addItems N x1 A) zPV d w 155 0 [some (.inr (.inr (some 209))), some (.inr (.inr (some x1))), none] [] A := by
  unfold z_Cd_addItems
  refine js_iconst (pc1 := 1) rfl rfl ?_
  refine js_istore (pc1 := 2) (L1 := [some (.inr (.inr (some 209))), some (.inr (.inr (some x1))), some (.inl 0)]) rfl rfl rfl rfl ?_
  exact z_Cd_addItems_2_ok N hd hw x1 hx1 0 (zlit rfl) A
theorem z_Cd_makeOf_79_bok{d w : Nat} {r79 : Int → zA → Option zA} (hr79 : ∀ (x2 : Int) (hx2 : zrg x2) (A : zA), zG (r79 x2 A) zPV d w 126 79 [some (.inr (.inr (some 209))), none, some (.inl x2), none] [] A) (N : Nat) (hd : 5 ≤ d) (hw : 154 ≤ w) (x2 : Int) (hx2 : zrg x2) (A : zA) : zG (z_Cd_makeOf_79_b r79 N x2 A) zPV d w 126 79 [some (.inr (.inr (some 209))), none, some (.inl x2), none] [] A := by
  unfold z_Cd_makeOf_79_b
  refine js_iload (pc1 := 80) rfl rfl rfl ?_
  refine js_aload (pc1 := 81) rfl rfl rfl ?_
  refine js_gi (pc1 := 84) (j := 2) rfl rfl rfl rfl ?_
  refine jt_ge (pc1 := 87) (t1 := 132) hx2 (zi_rg _ _ _) rfl rfl rfl (fun c1 => ?_) (fun c1 => ?_)
  · refine js_aload (pc1 := 88) rfl rfl rfl ?_
    refine jt_gr (pc1 := 91) (j := 1) rfl rfl rfl rfl (fun p2 => ?_)
    refine js_iload (pc1 := 92) rfl rfl rfl ?_
    refine jt_aldD (pc1 := 93) rfl rfl (fun v3 hv3 => ?_)
    refine js_istore (pc1 := 94) (L1 := [some (.inr (.inr (some 209))), none, some (.inl x2), some (.inl v3)]) rfl rfl rfl rfl ?_
    refine js_aload (pc1 := 95) rfl rfl rfl ?_
    refine jt_gr (pc1 := 98) (j := 0) rfl rfl rfl rfl (fun p4 => ?_)
    refine js_iload (pc1 := 99) rfl rfl rfl ?_
    refine jt_aldD (pc1 := 100) rfl rfl (fun v5 hv5 => ?_)
    refine js_iconst (pc1 := 102) rfl rfl ?_
    refine jt_ne (pc1 := 105) (t1 := 126) hv5 (zlit rfl) rfl rfl rfl (fun c6 => ?_) (fun c6 => ?_)
    · refine js_iload (pc1 := 106) rfl rfl rfl ?_
      refine ju_lt (pc1 := 109) (t1 := 126) hv3 rfl rfl rfl (fun c7 => ?_) (fun c7 => ?_)
      · refine js_iinc (pc1 := 129) (L1 := [some (.inr (.inr (some 209))), none, some (.inl (x2 + 1)), some (.inl v3)]) rfl rfl rfl rfl ?_
        refine js_goto (t1 := 79) rfl rfl ?_
        exact zG_to (L := [some (.inr (.inr (some 209))), none, some (.inl (zw (x2 + 1))), none]) (S := []) ⟨rfl, ⟨zval_w (x2 + 1), trivial⟩⟩ (rfl) (hr79 (zw (x2 + 1)) (zw_rg (x2 + 1)) A)
      · refine js_iload (pc1 := 110) rfl rfl rfl ?_
        refine js_iconst (pc1 := 111) rfl rfl ?_
        refine jt_ge (pc1 := 114) (t1 := 126) hv3 (zlit rfl) rfl rfl rfl (fun c8 => ?_) (fun c8 => ?_)
        · refine js_aload (pc1 := 115) rfl rfl rfl ?_
          refine jt_gr (pc1 := 118) (j := 1) rfl rfl rfl rfl (fun p9 => ?_)
          refine js_iload (pc1 := 119) rfl rfl rfl ?_
          refine js_aload (pc1 := 120) rfl rfl rfl ?_
          refine js_gfr (pc1 := 123) (j := 4) (r := 213) rfl rfl rfl rfl rfl ?_
          refine js_iload (pc1 := 124) rfl rfl rfl ?_
          refine jt_ald (pc1 := 125) rfl rfl rfl rfl rfl (fun v10 hv10 => ?_)
          refine jt_iasD (pc1 := 126) rfl rfl (fun A11 => ?_)
          refine js_iinc (pc1 := 129) (L1 := [some (.inr (.inr (some 209))), none, some (.inl (x2 + 1)), some (.inl v3)]) rfl rfl rfl rfl ?_
          refine js_goto (t1 := 79) rfl rfl ?_
          exact zG_to (L := [some (.inr (.inr (some 209))), none, some (.inl (zw (x2 + 1))), none]) (S := []) ⟨rfl, ⟨zval_w (x2 + 1), trivial⟩⟩ (rfl) (hr79 (zw (x2 + 1)) (zw_rg (x2 + 1)) A11)
        · refine js_iinc (pc1 := 129) (L1 := [some (.inr (.inr (some 209))), none, some (.inl (x2 + 1)), some (.inl v3)]) rfl rfl rfl rfl ?_
          refine js_goto (t1 := 79) rfl rfl ?_
          exact zG_to (L := [some (.inr (.inr (some 209))), none, some (.inl (zw (x2 + 1))), none]) (S := []) ⟨rfl, ⟨zval_w (x2 + 1), trivial⟩⟩ (rfl) (hr79 (zw (x2 + 1)) (zw_rg (x2 + 1)) A)
    · refine js_iinc (pc1 := 129) (L1 := [some (.inr (.inr (some 209))), none, some (.inl (x2 + 1)), some (.inl v3)]) rfl rfl rfl rfl ?_
      refine js_goto (t1 := 79) rfl rfl ?_
      exact zG_to (L := [some (.inr (.inr (some 209))), none, some (.inl (zw (x2 + 1))), none]) (S := []) ⟨rfl, ⟨zval_w (x2 + 1), trivial⟩⟩ (rfl) (hr79 (zw (x2 + 1)) (zw_rg (x2 + 1)) A)
  · exact je_V rfl
theorem z_Cd_makeOf_79_lok{d w : Nat} (N : Nat) (hd : 5 ≤ d) (hw : 154 ≤ w) (n : Nat) : ∀ (x2 : Int) (hx2 : zrg x2) (A : zA), zG (z_Cd_makeOf_79_l N n x2 A) zPV d w 126 79 [some (.inr (.inr (some 209))), none, some (.inl x2), none] [] A := by
  induction n with
  | zero => intros; exact zG_none
  | succ n ih =>
    intro x2 hx2 A
    exact z_Cd_makeOf_79_bok ih N hd hw x2 hx2 A
theorem z_Cd_makeOf_79_ok{d w : Nat} (N : Nat) (hd : 5 ≤ d) (hw : 154 ≤ w) (x2 : Int) (hx2 : zrg x2) (A : zA) : zG (z_Cd_makeOf_79 N x2 A) zPV d w 126 79 [some (.inr (.inr (some 209))), none, some (.inl x2), none] [] A := z_Cd_makeOf_79_lok N hd hw N x2 hx2 A
theorem z_Cd_makeOf_24_bok{d w : Nat} {r24 : Nat → Int → zA → Option zA} (hr24 : ∀ (x1 : Nat) (hx1 : zsh x1 = some (false, 2, 2)) (x2 : Int) (hx2 : zrg x2) (A : zA), zG (r24 x1 x2 A) zPV d w 126 24 [some (.inr (.inr (some 209))), some (.inr (.inr (some x1))), some (.inl x2), none] [] A) (N : Nat) (hd : 5 ≤ d) (hw : 154 ≤ w) (x1 : Nat) (hx1 : zsh x1 = some (false, 2, 2)) (x2 : Int) (hx2 : zrg x2) (A : zA) : zG (z_Cd_makeOf_24_b r24 N x1 x2 A) zPV d w 126 24 [some (.inr (.inr (some 209))), some (.inr (.inr (some x1))), some (.inl x2), none] [] A := by
  unfold z_Cd_makeOf_24_b
  refine js_iload (pc1 := 25) rfl rfl rfl ?_
  refine js_iconst (pc1 := 26) rfl rfl ?_
  refine jt_ge (pc1 := 29) (t1 := 77) hx2 (zlit rfl) rfl rfl rfl (fun c1 => ?_) (fun c1 => ?_)
  · refine js_iload (pc1 := 30) rfl rfl rfl ?_
    refine js_aload (pc1 := 31) rfl rfl rfl ?_
    refine js_gi (pc1 := 34) (j := 1) rfl rfl hx1 rfl ?_
    refine jt_ge (pc1 := 37) (t1 := 77) hx2 (zi_rg _ _ _) rfl rfl rfl (fun c2 => ?_) (fun c2 => ?_)
    · refine js_aload (pc1 := 38) rfl rfl rfl ?_
      refine js_gfr (pc1 := 41) (j := 4) (r := 213) rfl rfl rfl rfl rfl ?_
      refine js_iload (pc1 := 42) rfl rfl rfl ?_
      refine js_aload (pc1 := 43) rfl rfl rfl ?_
      refine js_gi (pc1 := 46) (j := 2) rfl rfl rfl rfl ?_
      refine jt_ias (pc1 := 47) rfl rfl rfl rfl (fun A3 => ?_)
      refine js_aload (pc1 := 48) rfl rfl rfl ?_
      refine js_iconst (pc1 := 49) rfl rfl ?_
      refine js_iconst (pc1 := 51) rfl rfl ?_
      refine js_cV (pc1 := 54) (as := [(.inr (.inr (some 209))), (.inl 2), (.inl 6)]) (S0 := []) (m := 3) (L0 := [some (.inr (.inr (some 209))), some (.inl 2), some (.inl 6)]) rfl rfl rfl rfl rfl rfl rfl rfl (zrc_o rfl rfl) (by omega) (by omega) (z_Cd_add_ok N (by omega) (by omega) 2 (zlit rfl) 6 (zlit rfl) A3) (fun A4 _ => ?_)
      refine js_aload (pc1 := 55) rfl rfl rfl ?_
      refine js_aload (pc1 := 56) rfl rfl rfl ?_
      refine jt_gf (pc1 := 59) (j := 0) rfl rfl hx1 rfl (fun p5 => ?_)
      refine js_iload (pc1 := 60) rfl rfl rfl ?_
      refine jt_aald (pc1 := 61) rfl rfl (fun p6 => ?_)
      refine zG_cs (fun hp6 => ?_)
      refine js_cV (pc1 := 64) (as := [(.inr (.inr (some 209))), (.inr (.inr (some p6)))]) (S0 := []) (m := 3) (L0 := [some (.inr (.inr (some 209))), some (.inr (.inr (some p6))), none]) rfl rfl rfl rfl rfl rfl rfl rfl (zrc_o rfl rfl) (by omega) (by omega) (z_Cd_addItems_ok N (by omega) (by omega) p6 hp6 A4) (fun A7 _ => ?_)
      refine js_aload (pc1 := 65) rfl rfl rfl ?_
      refine js_iconst (pc1 := 67) rfl rfl ?_
      refine js_iconst (pc1 := 68) rfl rfl ?_
      refine js_cV (pc1 := 71) (as := [(.inr (.inr (some 209))), (.inl 16), (.inl 0)]) (S0 := []) (m := 3) (L0 := [some (.inr (.inr (some 209))), some (.inl 16), some (.inl 0)]) rfl rfl rfl rfl rfl rfl rfl rfl (zrc_o rfl rfl) (by omega) (by omega) (z_Cd_add_ok N (by omega) (by omega) 16 (zlit rfl) 0 (zlit rfl) A7) (fun A8 _ => ?_)
      refine js_iinc (pc1 := 74) (L1 := [some (.inr (.inr (some 209))), some (.inr (.inr (some x1))), some (.inl (x2 + 1)), none]) rfl rfl rfl rfl ?_
      refine js_goto (t1 := 24) rfl rfl ?_
      exact zG_to (L := [some (.inr (.inr (some 209))), some (.inr (.inr (some x1))), some (.inl (zw (x2 + 1))), none]) (S := []) ⟨rfl, ⟨rfl, ⟨zval_w (x2 + 1), trivial⟩⟩⟩ (rfl) (hr24 x1 hx1 (zw (x2 + 1)) (zw_rg (x2 + 1)) A8)
    · refine js_iconst (pc1 := 78) rfl rfl ?_
      refine js_istore (pc1 := 79) (L1 := [some (.inr (.inr (some 209))), some (.inr (.inr (some x1))), some (.inl 0), none]) rfl rfl rfl rfl ?_
      exact zG_to (L := [some (.inr (.inr (some 209))), none, some (.inl 0), none]) (S := []) ⟨rfl, ⟨rfl, trivial⟩⟩ (rfl) (z_Cd_makeOf_79_ok N hd hw 0 (zlit rfl) A)
  · refine js_iconst (pc1 := 78) rfl rfl ?_
    refine js_istore (pc1 := 79) (L1 := [some (.inr (.inr (some 209))), some (.inr (.inr (some x1))), some (.inl 0), none]) rfl rfl rfl rfl ?_
    exact zG_to (L := [some (.inr (.inr (some 209))), none, some (.inl 0), none]) (S := []) ⟨rfl, ⟨rfl, trivial⟩⟩ (rfl) (z_Cd_makeOf_79_ok N hd hw 0 (zlit rfl) A)
theorem z_Cd_makeOf_24_lok{d w : Nat} (N : Nat) (hd : 5 ≤ d) (hw : 154 ≤ w) (n : Nat) : ∀ (x1 : Nat) (hx1 : zsh x1 = some (false, 2, 2)) (x2 : Int) (hx2 : zrg x2) (A : zA), zG (z_Cd_makeOf_24_l N n x1 x2 A) zPV d w 126 24 [some (.inr (.inr (some 209))), some (.inr (.inr (some x1))), some (.inl x2), none] [] A := by
  induction n with
  | zero => intros; exact zG_none
  | succ n ih =>
    intro x1 hx1 x2 hx2 A
    exact z_Cd_makeOf_24_bok ih N hd hw x1 hx1 x2 hx2 A
theorem z_Cd_makeOf_24_ok{d w : Nat} (N : Nat) (hd : 5 ≤ d) (hw : 154 ≤ w) (x1 : Nat) (hx1 : zsh x1 = some (false, 2, 2)) (x2 : Int) (hx2 : zrg x2) (A : zA) : zG (z_Cd_makeOf_24 N x1 x2 A) zPV d w 126 24 [some (.inr (.inr (some 209))), some (.inr (.inr (some x1))), some (.inl x2), none] [] A := z_Cd_makeOf_24_lok N hd hw N x1 hx1 x2 hx2 A
theorem z_Cd_makeOf_ok{d w : Nat} (N : Nat) (hd : 5 ≤ d) (hw : 154 ≤ w) (x1 : Nat) (hx1 : zsh x1 = some (false, 2, 2)) (A : zA) : zG (z_Cd_makeOf N x1 A) zPV d w 126 0 [some (.inr (.inr (some 209))), some (.inr (.inr (some x1))), none, none] [] A := by
  unfold z_Cd_makeOf
  refine js_aload (pc1 := 1) rfl rfl rfl ?_
  refine js_iconst (pc1 := 2) rfl rfl ?_
  refine jt_pi (pc1 := 5) (j := 2) rfl rfl rfl rfl rfl (fun A1 => ?_)
  refine js_aload (pc1 := 6) rfl rfl rfl ?_
  refine js_aload (pc1 := 7) rfl rfl rfl ?_
  refine jt_gf (pc1 := 10) (j := 0) rfl rfl hx1 rfl (fun p2 => ?_)
  refine js_iconst (pc1 := 11) rfl rfl ?_
  refine jt_aald (pc1 := 12) rfl rfl (fun p3 => ?_)
  refine zG_cs (fun hp3 => ?_)
  refine js_cV (pc1 := 15) (as := [(.inr (.inr (some 209))), (.inr (.inr (some p3)))]) (S0 := []) (m := 3) (L0 := [some (.inr (.inr (some 209))), some (.inr (.inr (some p3))), none]) rfl rfl rfl rfl rfl rfl rfl rfl (zrc_o rfl rfl) (by omega) (by omega) (z_Cd_addItems_ok N (by omega) (by omega) p3 hp3 A1) (fun A4 _ => ?_)
  refine js_aload (pc1 := 16) rfl rfl rfl ?_
  refine js_iconst (pc1 := 18) rfl rfl ?_
  refine js_iconst (pc1 := 19) rfl rfl ?_
  refine js_cV (pc1 := 22) (as := [(.inr (.inr (some 209))), (.inl 17), (.inl 0)]) (S0 := []) (m := 3) (L0 := [some (.inr (.inr (some 209))), some (.inl 17), some (.inl 0)]) rfl rfl rfl rfl rfl rfl rfl rfl (zrc_o rfl rfl) (by omega) (by omega) (z_Cd_add_ok N (by omega) (by omega) 17 (zlit rfl) 0 (zlit rfl) A4) (fun A5 _ => ?_)
  refine js_iconst (pc1 := 23) rfl rfl ?_
  refine js_istore (pc1 := 24) (L1 := [some (.inr (.inr (some 209))), some (.inr (.inr (some x1))), some (.inl 0), none]) rfl rfl rfl rfl ?_
  exact z_Cd_makeOf_24_ok N hd hw x1 hx1 0 (zlit rfl) A5
theorem z_PC_makeLetters_ok{d w : Nat} (N : Nat) (hd : 6 ≤ d) (hw : 177 ≤ w) (A : zA) : zG (z_PC_makeLetters N A) zPV d w 74 0 [some (.inr (.inr (some 4)))] [] A := by
  unfold z_PC_makeLetters
  refine js_aload (pc1 := 1) rfl rfl rfl ?_
  refine js_gi (pc1 := 4) (j := 9) rfl rfl rfl rfl ?_
  refine ju_ne (pc1 := 7) (t1 := 23) (zi_rg _ _ _) rfl rfl rfl (fun c1 => ?_) (fun c1 => ?_)
  · refine js_aload (pc1 := 8) rfl rfl rfl ?_
    refine js_gfr (pc1 := 11) (j := 8) (r := 209) rfl rfl rfl rfl rfl ?_
    refine js_aload (pc1 := 12) rfl rfl rfl ?_
    refine jt_gr (pc1 := 15) (j := 2) rfl rfl rfl rfl (fun p2 => ?_)
    refine zG_cs (fun hp2 => ?_)
    refine js_cV (pc1 := 18) (as := [(.inr (.inr (some 209))), (.inr (.inr (some p2)))]) (S0 := []) (m := 4) (L0 := [some (.inr (.inr (some 209))), some (.inr (.inr (some p2))), none, none]) rfl rfl rfl rfl rfl rfl rfl rfl (zrc_o rfl rfl) (by omega) (by omega) (z_Cd_makeOf_ok N (by omega) (by omega) p2 hp2 A) (fun A3 _ => ?_)
    refine js_aload (pc1 := 19) rfl rfl rfl ?_
    refine js_iconst (pc1 := 20) rfl rfl ?_
    refine jt_pbl (pc1 := 23) (j := 9) rfl rfl rfl rfl rfl (Or.inr rfl) (fun A4 => ?_)
    exact je_V rfl
  · exact je_V rfl
theorem z_Cd_letterAt_ok{d w : Nat} (N : Nat) (hd : 0 ≤ d) (hw : 0 ≤ w) (x1 : Int) (hx1 : zrg x1) (A : zA) : zG (z_Cd_letterAt N x1 A) (zPp A) d w 118 0 [some (.inr (.inr (some 209))), some (.inl x1)] [] A := by
  unfold z_Cd_letterAt
  refine js_iload (pc1 := 1) rfl rfl rfl ?_
  refine ju_lt (pc1 := 4) (t1 := 21) hx1 rfl rfl rfl (fun c1 => ?_) (fun c1 => ?_)
  · refine js_iconst (pc1 := 23) rfl rfl ?_
    exact je_P rfl (zfit0 _ rfl) rfl (zlit rfl)
  · refine js_iload (pc1 := 5) rfl rfl rfl ?_
    refine js_aload (pc1 := 6) rfl rfl rfl ?_
    refine js_gi (pc1 := 9) (j := 2) rfl rfl rfl rfl ?_
    refine jt_ge (pc1 := 12) (t1 := 21) hx1 (zi_rg _ _ _) rfl rfl rfl (fun c2 => ?_) (fun c2 => ?_)
    · refine js_aload (pc1 := 13) rfl rfl rfl ?_
      refine jt_gr (pc1 := 16) (j := 0) rfl rfl rfl rfl (fun p3 => ?_)
      refine js_iload (pc1 := 17) rfl rfl rfl ?_
      refine jt_aldD (pc1 := 18) rfl rfl (fun v4 hv4 => ?_)
      refine js_goto (t1 := 23) rfl rfl ?_
      exact je_P rfl (zfit0 _ rfl) rfl hv4
    · refine js_iconst (pc1 := 23) rfl rfl ?_
      exact je_P rfl (zfit0 _ rfl) rfl (zlit rfl)
theorem z_Cd_numberAt_ok{d w : Nat} (N : Nat) (hd : 0 ≤ d) (hw : 0 ≤ w) (x1 : Int) (hx1 : zrg x1) (A : zA) : zG (z_Cd_numberAt N x1 A) (zPp A) d w 119 0 [some (.inr (.inr (some 209))), some (.inl x1)] [] A := by
  unfold z_Cd_numberAt
  refine js_iload (pc1 := 1) rfl rfl rfl ?_
  refine ju_lt (pc1 := 4) (t1 := 21) hx1 rfl rfl rfl (fun c1 => ?_) (fun c1 => ?_)
  · refine js_iconst (pc1 := 22) rfl rfl ?_
    exact je_P rfl (zfit0 _ rfl) rfl (zlit rfl)
  · refine js_iload (pc1 := 5) rfl rfl rfl ?_
    refine js_aload (pc1 := 6) rfl rfl rfl ?_
    refine js_gi (pc1 := 9) (j := 2) rfl rfl rfl rfl ?_
    refine jt_ge (pc1 := 12) (t1 := 21) hx1 (zi_rg _ _ _) rfl rfl rfl (fun c2 => ?_) (fun c2 => ?_)
    · refine js_aload (pc1 := 13) rfl rfl rfl ?_
      refine jt_gr (pc1 := 16) (j := 1) rfl rfl rfl rfl (fun p3 => ?_)
      refine js_iload (pc1 := 17) rfl rfl rfl ?_
      refine jt_aldD (pc1 := 18) rfl rfl (fun v4 hv4 => ?_)
      refine js_goto (t1 := 22) rfl rfl ?_
      exact je_P rfl (zfit0 _ rfl) rfl hv4
    · refine js_iconst (pc1 := 22) rfl rfl ?_
      exact je_P rfl (zfit0 _ rfl) rfl (zlit rfl)
theorem z_PC_code_ok{d w : Nat} (N : Nat) (hd : 8 ≤ d) (hw : 10300 ≤ w) (x1 : Int) (hx1 : zrg x1) (x2 : Int) (hx2 : zrg x2) (A : zA) : zG (z_PC_code N x1 x2 A) zPX d w 66 0 [some (.inr (.inr (some 4))), some (.inl x1), some (.inl x2)] [] A := by
  unfold z_PC_code
  refine js_aload (pc1 := 1) rfl rfl rfl ?_
  refine js_cV (pc1 := 4) (as := [(.inr (.inr (some 4)))]) (S0 := []) (m := 1) (L0 := [some (.inr (.inr (some 4)))]) rfl rfl rfl rfl rfl rfl rfl rfl (zrc_o rfl rfl) (by omega) (by omega) (z_PC_makeLetters_ok N (by omega) (by omega) A) (fun A1 _ => ?_)
  refine js_iload (pc1 := 5) rfl rfl rfl ?_
  refine ju_lt (pc1 := 8) (t1 := 28) hx1 rfl rfl rfl (fun c2 => ?_) (fun c2 => ?_)
  · exact je_T rfl rfl (by omega) (by omega)
  · refine js_iload (pc1 := 9) rfl rfl rfl ?_
    refine js_aload (pc1 := 10) rfl rfl rfl ?_
    refine js_gfr (pc1 := 13) (j := 8) (r := 209) rfl rfl rfl rfl rfl ?_
    refine js_gi (pc1 := 16) (j := 2) rfl rfl rfl rfl ?_
    refine jt_ge (pc1 := 19) (t1 := 28) hx1 (zi_rg _ _ _) rfl rfl rfl (fun c3 => ?_) (fun c3 => ?_)
    · refine js_iload (pc1 := 20) rfl rfl rfl ?_
      refine ju_lt (pc1 := 23) (t1 := 28) hx2 rfl rfl rfl (fun c4 => ?_) (fun c4 => ?_)
      · exact je_T rfl rfl (by omega) (by omega)
      · refine js_iload (pc1 := 24) rfl rfl rfl ?_
        refine js_iconst (pc1 := 25) rfl rfl ?_
        refine jt_le (pc1 := 28) (t1 := 38) hx2 (zlit rfl) rfl rfl rfl (fun c5 => ?_) (fun c5 => ?_)
        · exact je_T rfl rfl (by omega) (by omega)
        · refine js_iload (pc1 := 39) rfl rfl rfl ?_
          refine ju_ne (pc1 := 42) (t1 := 53) hx2 rfl rfl rfl (fun c6 => ?_) (fun c6 => ?_)
          · refine js_aload (pc1 := 43) rfl rfl rfl ?_
            refine js_gfr (pc1 := 46) (j := 8) (r := 209) rfl rfl rfl rfl rfl ?_
            refine js_iload (pc1 := 47) rfl rfl rfl ?_
            refine js_cP (pc1 := 50) (as := [(.inr (.inr (some 209))), (.inl x1)]) (S0 := []) (m := 2) (L0 := [some (.inr (.inr (some 209))), some (.inl x1)]) rfl rfl rfl rfl rfl rfl rfl rfl (zrc_o rfl rfl) (by omega) (by omega) (z_Cd_letterAt_ok N (by omega) (by omega) x1 hx1 A1) (fun v7 _ hv7 => ?_)
            refine js_goto (t1 := 61) rfl rfl ?_
            exact je_X rfl (zfit0 _ rfl) rfl hv7
          · refine js_aload (pc1 := 54) rfl rfl rfl ?_
            refine js_gfr (pc1 := 57) (j := 8) (r := 209) rfl rfl rfl rfl rfl ?_
            refine js_iload (pc1 := 58) rfl rfl rfl ?_
            refine js_cP (pc1 := 61) (as := [(.inr (.inr (some 209))), (.inl x1)]) (S0 := []) (m := 2) (L0 := [some (.inr (.inr (some 209))), some (.inl x1)]) rfl rfl rfl rfl rfl rfl rfl rfl (zrc_o rfl rfl) (by omega) (by omega) (z_Cd_numberAt_ok N (by omega) (by omega) x1 hx1 A1) (fun v8 _ hv8 => ?_)
            exact je_X rfl (zfit0 _ rfl) rfl hv8
    · exact je_T rfl rfl (by omega) (by omega)
theorem z_Lw_code_ok{d w : Nat} (N : Nat) (hd : 9 ≤ d) (hw : 10322 ≤ w) (x1 : Int) (hx1 : zrg x1) (x2 : Int) (hx2 : zrg x2) (A : zA) : zG (z_Lw_code N x1 x2 A) zPI d w 20 0 [some (.inr (.inr (some 4))), some (.inl x1), some (.inl x2), some (.inr (.inr (some 295))), none] [] A := by
  unfold z_Lw_code
  refine js_aload (pc1 := 1) rfl rfl rfl ?_
  refine js_iconst (pc1 := 2) rfl rfl ?_
  refine js_aload (pc1 := 3) rfl rfl rfl ?_
  refine js_iload (pc1 := 4) rfl rfl rfl ?_
  refine js_iload (pc1 := 5) rfl rfl rfl ?_
  refine js_cX (pc1 := 8) (as := [(.inr (.inr (some 4))), (.inl x1), (.inl x2)]) (S0 := [(.inl 0), (.inr (.inr (some 295)))]) (m := 3) (L0 := [some (.inr (.inr (some 4))), some (.inl x1), some (.inl x2)]) rfl rfl rfl rfl rfl rfl rfl rfl (zrc_o rfl rfl) (by omega) (by omega) (z_PC_code_ok N (by omega) (by omega) x1 hx1 x2 hx2 A) (fun v1 A2 hv1 => ?_) (fun n5 A4 => ?_)
  · refine js_i2l (pc1 := 9) rfl rfl ?_
    refine jt_las (pc1 := 10) rfl rfl rfl rfl (fun A6 => ?_)
    refine js_goto (t1 := 17) rfl rfl ?_
    refine js_iconst (pc1 := 18) rfl rfl ?_
    exact je_I rfl (zfit0 _ rfl) rfl (zlit rfl)
  · rcases Decidable.em (n5 = 2) with c7 | c7
    · subst c7
      refine Or.inr ⟨13, by decide, fun e3 => ?_⟩
      rw [if_pos rfl]
      refine js_astore (pc1 := 15) (L1 := [some (.inr (.inr (some 4))), some (.inl x1), some (.inl x2), some (.inr (.inr (some 295))), some (.inr (.inr (some e3)))]) rfl rfl rfl rfl ?_
      refine js_iconst (pc1 := 16) rfl rfl ?_
      exact je_I rfl (zfit0 _ rfl) rfl (zlit rfl)
    exact Or.inl (by simp only [if_neg c7])
theorem z_M_lettersOf_ok{d w : Nat} (N : Nat) (hd : 2 ≤ d) (hw : 46 ≤ w) (x1 : Int) (hx1 : zrg x1) (x2 : Int) (hx2 : zrg x2) (A : zA) : zG (z_M_lettersOf N x1 x2 A) (zPp A) d w 152 0 [some (.inr (.inr (some 226))), some (.inl x1), some (.inl x2), none] [] A := by
  unfold z_M_lettersOf
  refine js_aload (pc1 := 1) rfl rfl rfl ?_
  refine js_iconst (pc1 := 2) rfl rfl ?_
  refine js_iload (pc1 := 3) rfl rfl rfl ?_
  refine js_iload (pc1 := 4) rfl rfl rfl ?_
  refine js_iconst (pc1 := 5) rfl rfl ?_
  refine js_cP (pc1 := 8) (as := [(.inr (.inr (some 226))), (.inl 0), (.inl x1), (.inl x2), (.inl 0)]) (S0 := []) (m := 5) (L0 := [some (.inr (.inr (some 226))), some (.inl 0), some (.inl x1), some (.inl x2), some (.inl 0)]) rfl rfl rfl rfl rfl rfl rfl rfl (zrc_o rfl rfl) (by omega) (by omega) (z_M_field_ok N (by omega) (by omega) 0 (zlit rfl) x1 hx1 x2 hx2 0 (zlit rfl) A) (fun v1 _ hv1 => ?_)
  refine js_istore (pc1 := 9) (L1 := [some (.inr (.inr (some 226))), some (.inl x1), some (.inl x2), some (.inl v1)]) rfl rfl rfl rfl ?_
  refine js_iload (pc1 := 10) rfl rfl rfl ?_
  refine js_iconst (pc1 := 11) rfl rfl ?_
  refine jt_ne (pc1 := 14) (t1 := 16) hv1 (zlit rfl) rfl rfl rfl (fun c2 => ?_) (fun c2 => ?_)
  · refine js_iconst (pc1 := 15) rfl rfl ?_
    exact je_P rfl (zfit0 _ rfl) rfl (zlit rfl)
  · refine js_iload (pc1 := 17) rfl rfl rfl ?_
    refine js_iconst (pc1 := 18) rfl rfl ?_
    refine jt_eq (pc1 := 21) (t1 := 26) hv1 (zlit rfl) rfl rfl rfl (fun c3 => ?_) (fun c3 => ?_)
    · refine js_iconst (pc1 := 27) rfl rfl ?_
      exact je_P rfl (zfit0 _ rfl) rfl (zlit rfl)
    · refine js_iload (pc1 := 22) rfl rfl rfl ?_
      refine js_iconst (pc1 := 23) rfl rfl ?_
      refine jt_ne (pc1 := 26) (t1 := 28) hv1 (zlit rfl) rfl rfl rfl (fun c4 => ?_) (fun c4 => ?_)
      · refine js_iconst (pc1 := 27) rfl rfl ?_
        exact je_P rfl (zfit0 _ rfl) rfl (zlit rfl)
      · refine js_iload (pc1 := 29) rfl rfl rfl ?_
        refine js_iconst (pc1 := 31) rfl rfl ?_
        refine jt_ne (pc1 := 34) (t1 := 36) hv1 (zlit rfl) rfl rfl rfl (fun c5 => ?_) (fun c5 => ?_)
        · refine js_iconst (pc1 := 35) rfl rfl ?_
          exact je_P rfl (zfit0 _ rfl) rfl (zlit rfl)
        · refine js_iload (pc1 := 37) rfl rfl rfl ?_
          refine js_iconst (pc1 := 39) rfl rfl ?_
          refine jt_ne (pc1 := 42) (t1 := 44) hv1 (zlit rfl) rfl rfl rfl (fun c6 => ?_) (fun c6 => ?_)
          · refine js_iconst (pc1 := 43) rfl rfl ?_
            exact je_P rfl (zfit0 _ rfl) rfl (zlit rfl)
          · refine js_iload (pc1 := 45) rfl rfl rfl ?_
            refine js_iconst (pc1 := 47) rfl rfl ?_
            refine jt_ne (pc1 := 50) (t1 := 82) hv1 (zlit rfl) rfl rfl rfl (fun c7 => ?_) (fun c7 => ?_)
            · refine js_aload (pc1 := 51) rfl rfl rfl ?_
              refine js_iconst (pc1 := 52) rfl rfl ?_
              refine js_iload (pc1 := 53) rfl rfl rfl ?_
              refine js_aload (pc1 := 54) rfl rfl rfl ?_
              refine js_gfr (pc1 := 57) (j := 9) (r := 231) rfl rfl rfl rfl rfl ?_
              refine js_iconst (pc1 := 60) rfl rfl ?_
              refine js_iload (pc1 := 61) rfl rfl rfl ?_
              refine js_imul (pc1 := 62) rfl rfl ?_
              refine js_iload (pc1 := 63) rfl rfl rfl ?_
              refine js_iadd (pc1 := 64) rfl rfl ?_
              refine jt_ald (pc1 := 65) rfl rfl rfl rfl rfl (fun v8 hv8 => ?_)
              refine js_iconst (pc1 := 66) rfl rfl ?_
              refine js_cP (pc1 := 69) (as := [(.inr (.inr (some 226))), (.inl 0), (.inl x1), (.inl v8), (.inl 0)]) (S0 := []) (m := 5) (L0 := [some (.inr (.inr (some 226))), some (.inl 0), some (.inl x1), some (.inl v8), some (.inl 0)]) rfl rfl rfl rfl rfl rfl rfl rfl (zrc_o rfl rfl) (by omega) (by omega) (z_M_field_ok N (by omega) (by omega) 0 (zlit rfl) x1 hx1 v8 hv8 0 (zlit rfl) A) (fun v9 _ hv9 => ?_)
              refine js_iconst (pc1 := 71) rfl rfl ?_
              refine jt_ne (pc1 := 74) (t1 := 78) hv9 (zlit rfl) rfl rfl rfl (fun c10 => ?_) (fun c10 => ?_)
              · refine js_iconst (pc1 := 75) rfl rfl ?_
                refine js_goto (t1 := 83) rfl rfl ?_
                exact je_P rfl (zfit0 _ rfl) rfl (zlit rfl)
              · refine js_iconst (pc1 := 79) rfl rfl ?_
                refine js_goto (t1 := 83) rfl rfl ?_
                exact je_P rfl (zfit0 _ rfl) rfl (zlit rfl)
            · refine js_iconst (pc1 := 83) rfl rfl ?_
              exact je_P rfl (zfit0 _ rfl) rfl (zlit rfl)
theorem z_M_layPart_20_bok{d w : Nat} {r20 : Int → Int → Int → zA → Option zA} (hr20 : ∀ (x1 : Int) (hx1 : zrg x1) (x2 : Int) (hx2 : zrg x2) (x3 : Int) (hx3 : zrg x3) (A : zA), zG (r20 x1 x2 x3 A) zPV d w 120 20 [some (.inr (.inr (some 226))), some (.inl x1), some (.inl x2), some (.inl x3)] [] A) (N : Nat) (hd : 3 ≤ d) (hw : 69 ≤ w) (x1 : Int) (hx1 : zrg x1) (x2 : Int) (hx2 : zrg x2) (x3 : Int) (hx3 : zrg x3) (A : zA) : zG (z_M_layPart_20_b r20 N x1 x2 x3 A) zPV d w 120 20 [some (.inr (.inr (some 226))), some (.inl x1), some (.inl x2), some (.inl x3)] [] A := by
  unfold z_M_layPart_20_b
  refine js_iload (pc1 := 21) rfl rfl rfl ?_
  refine js_aload (pc1 := 22) rfl rfl rfl ?_
  refine js_gfr (pc1 := 25) (j := 4) (r := 229) rfl rfl rfl rfl rfl ?_
  refine js_iconst (pc1 := 26) rfl rfl ?_
  refine js_iload (pc1 := 27) rfl rfl rfl ?_
  refine js_cP (pc1 := 30) (as := [(.inl 0), (.inl x1)]) (S0 := [(.inr (.inr (some 229))), (.inl x3)]) (m := 2) (L0 := [some (.inl 0), some (.inl x1)]) rfl rfl rfl rfl rfl rfl rfl rfl (zrc_s rfl) (by omega) (by omega) (z_M_row_ok N (by omega) (by omega) 0 (zlit rfl) x1 hx1 A) (fun v1 _ hv1 => ?_)
  refine jt_ald (pc1 := 31) rfl rfl rfl rfl rfl (fun v2 hv2 => ?_)
  refine jt_ge (pc1 := 34) (t1 := 62) hx3 hv2 rfl rfl rfl (fun c3 => ?_) (fun c3 => ?_)
  · refine js_aload (pc1 := 35) rfl rfl rfl ?_
    refine js_gfr (pc1 := 38) (j := 89) (r := 289) rfl rfl rfl rfl rfl ?_
    refine js_iconst (pc1 := 41) rfl rfl ?_
    refine js_iload (pc1 := 42) rfl rfl rfl ?_
    refine js_imul (pc1 := 43) rfl rfl ?_
    refine js_iload (pc1 := 44) rfl rfl rfl ?_
    refine js_iadd (pc1 := 45) rfl rfl ?_
    refine js_iload (pc1 := 46) rfl rfl rfl ?_
    refine jt_ias (pc1 := 47) rfl rfl rfl rfl (fun A4 => ?_)
    refine js_iload (pc1 := 48) rfl rfl rfl ?_
    refine js_aload (pc1 := 49) rfl rfl rfl ?_
    refine js_iload (pc1 := 50) rfl rfl rfl ?_
    refine js_iload (pc1 := 51) rfl rfl rfl ?_
    refine js_cP (pc1 := 54) (as := [(.inr (.inr (some 226))), (.inl x1), (.inl x3)]) (S0 := [(.inl x2)]) (m := 4) (L0 := [some (.inr (.inr (some 226))), some (.inl x1), some (.inl x3), none]) rfl rfl rfl rfl rfl rfl rfl rfl (zrc_o rfl rfl) (by omega) (by omega) (z_M_lettersOf_ok N (by omega) (by omega) x1 hx1 x3 hx3 A4) (fun v5 _ hv5 => ?_)
    refine js_iadd (pc1 := 55) rfl rfl ?_
    refine zG_w1 ?_
    refine js_istore (pc1 := 56) (L1 := [some (.inr (.inr (some 226))), some (.inl x1), some (.inl (zw (x2 + v5))), some (.inl x3)]) rfl rfl rfl rfl ?_
    refine js_iinc (pc1 := 59) (L1 := [some (.inr (.inr (some 226))), some (.inl x1), some (.inl (zw (x2 + v5))), some (.inl (x3 + 1))]) rfl rfl rfl rfl ?_
    refine js_goto (t1 := 20) rfl rfl ?_
    exact zG_to (L := [some (.inr (.inr (some 226))), some (.inl x1), some (.inl (zw (x2 + v5))), some (.inl (zw (x3 + 1)))]) (S := []) ⟨rfl, ⟨rfl, ⟨rfl, ⟨zval_w (x3 + 1), trivial⟩⟩⟩⟩ (rfl) (hr20 x1 hx1 (zw (x2 + v5)) (zw_rg (x2 + v5)) (zw (x3 + 1)) (zw_rg (x3 + 1)) A4)
  · refine js_aload (pc1 := 63) rfl rfl rfl ?_
    refine js_iload (pc1 := 64) rfl rfl rfl ?_
    refine js_iconst (pc1 := 65) rfl rfl ?_
    refine js_iadd (pc1 := 66) rfl rfl ?_
    refine jt_pi (pc1 := 69) (j := 91) rfl rfl rfl rfl rfl (fun A6 => ?_)
    exact je_V rfl
theorem z_M_layPart_20_lok{d w : Nat} (N : Nat) (hd : 3 ≤ d) (hw : 69 ≤ w) (n : Nat) : ∀ (x1 : Int) (hx1 : zrg x1) (x2 : Int) (hx2 : zrg x2) (x3 : Int) (hx3 : zrg x3) (A : zA), zG (z_M_layPart_20_l N n x1 x2 x3 A) zPV d w 120 20 [some (.inr (.inr (some 226))), some (.inl x1), some (.inl x2), some (.inl x3)] [] A := by
  induction n with
  | zero => intros; exact zG_none
  | succ n ih =>
    intro x1 hx1 x2 hx2 x3 hx3 A
    exact z_M_layPart_20_bok ih N hd hw x1 hx1 x2 hx2 x3 hx3 A
theorem z_M_layPart_20_ok{d w : Nat} (N : Nat) (hd : 3 ≤ d) (hw : 69 ≤ w) (x1 : Int) (hx1 : zrg x1) (x2 : Int) (hx2 : zrg x2) (x3 : Int) (hx3 : zrg x3) (A : zA) : zG (z_M_layPart_20 N x1 x2 x3 A) zPV d w 120 20 [some (.inr (.inr (some 226))), some (.inl x1), some (.inl x2), some (.inl x3)] [] A := z_M_layPart_20_lok N hd hw N x1 hx1 x2 hx2 x3 hx3 A
theorem z_M_layPart_ok{d w : Nat} (N : Nat) (hd : 3 ≤ d) (hw : 69 ≤ w) (x1 : Int) (hx1 : zrg x1) (A : zA) : zG (z_M_layPart N x1 A) zPV d w 120 0 [some (.inr (.inr (some 226))), some (.inl x1), none, none] [] A := by
  unfold z_M_layPart
  refine js_aload (pc1 := 1) rfl rfl rfl ?_
  refine js_gfr (pc1 := 4) (j := 90) (r := 290) rfl rfl rfl rfl rfl ?_
  refine js_iload (pc1 := 5) rfl rfl rfl ?_
  refine jt_ald (pc1 := 6) rfl rfl rfl rfl rfl (fun v1 hv1 => ?_)
  refine js_iload (pc1 := 7) rfl rfl rfl ?_
  refine js_iconst (pc1 := 8) rfl rfl ?_
  refine jt_ne (pc1 := 11) (t1 := 15) hx1 (zlit rfl) rfl rfl rfl (fun c2 => ?_) (fun c2 => ?_)
  · refine js_iconst (pc1 := 12) rfl rfl ?_
    refine js_goto (t1 := 16) rfl rfl ?_
    refine js_iadd (pc1 := 17) rfl rfl ?_
    refine zG_w1 ?_
    refine js_istore (pc1 := 18) (L1 := [some (.inr (.inr (some 226))), some (.inl x1), some (.inl (zw (v1 + 0))), none]) rfl rfl rfl rfl ?_
    refine js_iconst (pc1 := 19) rfl rfl ?_
    refine js_istore (pc1 := 20) (L1 := [some (.inr (.inr (some 226))), some (.inl x1), some (.inl (zw (v1 + 0))), some (.inl 0)]) rfl rfl rfl rfl ?_
    exact z_M_layPart_20_ok N hd hw x1 hx1 (zw (v1 + 0)) (zw_rg (v1 + 0)) 0 (zlit rfl) A
  · refine js_iconst (pc1 := 16) rfl rfl ?_
    refine js_iadd (pc1 := 17) rfl rfl ?_
    refine zG_w1 ?_
    refine js_istore (pc1 := 18) (L1 := [some (.inr (.inr (some 226))), some (.inl x1), some (.inl (zw (v1 + 1))), none]) rfl rfl rfl rfl ?_
    refine js_iconst (pc1 := 19) rfl rfl ?_
    refine js_istore (pc1 := 20) (L1 := [some (.inr (.inr (some 226))), some (.inl x1), some (.inl (zw (v1 + 1))), some (.inl 0)]) rfl rfl rfl rfl ?_
    exact z_M_layPart_20_ok N hd hw x1 hx1 (zw (v1 + 1)) (zw_rg (v1 + 1)) 0 (zlit rfl) A
theorem z_M_tell_ok{d w : Nat} (N : Nat) (hd : 0 ≤ d) (hw : 0 ≤ w) (x1 : Int) (hx1 : zrg x1) (x2 : Int) (hx2 : zrg x2) (A : zA) : zG (z_M_tell N x1 x2 A) zPV d w 121 0 [some (.inr (.inr (some 226))), some (.inl x1), some (.inl x2)] [] A := by
  unfold z_M_tell
  refine js_aload (pc1 := 1) rfl rfl rfl ?_
  refine js_gfr (pc1 := 4) (j := 87) (r := 287) rfl rfl rfl rfl rfl ?_
  refine js_aload (pc1 := 5) rfl rfl rfl ?_
  refine js_gi (pc1 := 8) (j := 86) rfl rfl rfl rfl ?_
  refine js_iload (pc1 := 9) rfl rfl rfl ?_
  refine jt_ias (pc1 := 10) rfl rfl rfl rfl (fun A1 => ?_)
  refine js_aload (pc1 := 11) rfl rfl rfl ?_
  refine js_gfr (pc1 := 14) (j := 88) (r := 288) rfl rfl rfl rfl rfl ?_
  refine js_aload (pc1 := 15) rfl rfl rfl ?_
  refine js_gi (pc1 := 18) (j := 86) rfl rfl rfl rfl ?_
  refine js_iload (pc1 := 19) rfl rfl rfl ?_
  refine jt_ias (pc1 := 20) rfl rfl rfl rfl (fun A2 => ?_)
  refine js_aload (pc1 := 21) rfl rfl rfl ?_
  refine js_dupR (pc1 := 22) rfl rfl ?_
  refine js_gi (pc1 := 25) (j := 86) rfl rfl rfl rfl ?_
  refine js_iconst (pc1 := 26) rfl rfl ?_
  refine js_iadd (pc1 := 27) rfl rfl ?_
  refine jt_pi (pc1 := 30) (j := 86) rfl rfl rfl rfl rfl (fun A3 => ?_)
  exact je_V rfl
theorem z_M_itemCode_ok{d w : Nat} (N : Nat) (hd : 2 ≤ d) (hw : 46 ≤ w) (x1 : Int) (hx1 : zrg x1) (x2 : Int) (hx2 : zrg x2) (A : zA) : zG (z_M_itemCode N x1 x2 A) zPV d w 122 0 [some (.inr (.inr (some 226))), some (.inl x1), some (.inl x2), none, none, none, none] [] A := by
  unfold z_M_itemCode
  refine js_aload (pc1 := 1) rfl rfl rfl ?_
  refine js_iconst (pc1 := 2) rfl rfl ?_
  refine js_iload (pc1 := 3) rfl rfl rfl ?_
  refine js_iload (pc1 := 4) rfl rfl rfl ?_
  refine js_iconst (pc1 := 5) rfl rfl ?_
  refine js_cP (pc1 := 8) (as := [(.inr (.inr (some 226))), (.inl 0), (.inl x1), (.inl x2), (.inl 0)]) (S0 := []) (m := 5) (L0 := [some (.inr (.inr (some 226))), some (.inl 0), some (.inl x1), some (.inl x2), some (.inl 0)]) rfl rfl rfl rfl rfl rfl rfl rfl (zrc_o rfl rfl) (by omega) (by omega) (z_M_field_ok N (by omega) (by omega) 0 (zlit rfl) x1 hx1 x2 hx2 0 (zlit rfl) A) (fun v1 _ hv1 => ?_)
  refine js_istore (pc1 := 9) (L1 := [some (.inr (.inr (some 226))), some (.inl x1), some (.inl x2), some (.inl v1), none, none, none]) rfl rfl rfl rfl ?_
  refine js_aload (pc1 := 10) rfl rfl rfl ?_
  refine js_iconst (pc1 := 11) rfl rfl ?_
  refine js_iload (pc1 := 12) rfl rfl rfl ?_
  refine js_iload (pc1 := 13) rfl rfl rfl ?_
  refine js_iconst (pc1 := 14) rfl rfl ?_
  refine js_cP (pc1 := 17) (as := [(.inr (.inr (some 226))), (.inl 0), (.inl x1), (.inl x2), (.inl 1)]) (S0 := []) (m := 5) (L0 := [some (.inr (.inr (some 226))), some (.inl 0), some (.inl x1), some (.inl x2), some (.inl 1)]) rfl rfl rfl rfl rfl rfl rfl rfl (zrc_o rfl rfl) (by omega) (by omega) (z_M_field_ok N (by omega) (by omega) 0 (zlit rfl) x1 hx1 x2 hx2 1 (zlit rfl) A) (fun v2 _ hv2 => ?_)
  refine js_istore (pc1 := 19) (L1 := [some (.inr (.inr (some 226))), some (.inl x1), some (.inl x2), some (.inl v1), some (.inl v2), none, none]) rfl rfl rfl rfl ?_
  refine js_aload (pc1 := 20) rfl rfl rfl ?_
  refine js_iconst (pc1 := 21) rfl rfl ?_
  refine js_iload (pc1 := 22) rfl rfl rfl ?_
  refine js_iload (pc1 := 23) rfl rfl rfl ?_
  refine js_iconst (pc1 := 24) rfl rfl ?_
  refine js_cP (pc1 := 27) (as := [(.inr (.inr (some 226))), (.inl 0), (.inl x1), (.inl x2), (.inl 2)]) (S0 := []) (m := 5) (L0 := [some (.inr (.inr (some 226))), some (.inl 0), some (.inl x1), some (.inl x2), some (.inl 2)]) rfl rfl rfl rfl rfl rfl rfl rfl (zrc_o rfl rfl) (by omega) (by omega) (z_M_field_ok N (by omega) (by omega) 0 (zlit rfl) x1 hx1 x2 hx2 2 (zlit rfl) A) (fun v3 _ hv3 => ?_)
  refine js_istore (pc1 := 29) (L1 := [some (.inr (.inr (some 226))), some (.inl x1), some (.inl x2), some (.inl v1), some (.inl v2), some (.inl v3), none]) rfl rfl rfl rfl ?_
  refine js_aload (pc1 := 30) rfl rfl rfl ?_
  refine js_gfr (pc1 := 33) (j := 9) (r := 231) rfl rfl rfl rfl rfl ?_
  refine js_iconst (pc1 := 36) rfl rfl ?_
  refine js_iload (pc1 := 37) rfl rfl rfl ?_
  refine js_imul (pc1 := 38) rfl rfl ?_
  refine js_iload (pc1 := 39) rfl rfl rfl ?_
  refine js_iadd (pc1 := 40) rfl rfl ?_
  refine jt_ald (pc1 := 41) rfl rfl rfl rfl rfl (fun v4 hv4 => ?_)
  refine js_istore (pc1 := 43) (L1 := [some (.inr (.inr (some 226))), some (.inl x1), some (.inl x2), some (.inl v1), some (.inl v2), some (.inl v3), some (.inl v4)]) rfl rfl rfl rfl ?_
  refine js_iload (pc1 := 44) rfl rfl rfl ?_
  refine zG_ite (fun c7 => ?_) (fun c7 => ?_)
  · refine js_tsw (t1 := 112) rfl c7 (zlit rfl) (by decide) ?_
    refine js_aload (pc1 := 113) rfl rfl rfl ?_
    refine js_iconst (pc1 := 114) rfl rfl ?_
    refine js_iload (pc1 := 116) rfl rfl rfl ?_
    refine js_cV (pc1 := 119) (as := [(.inr (.inr (some 226))), (.inl 0), (.inl v3)]) (S0 := []) (m := 3) (L0 := [some (.inr (.inr (some 226))), some (.inl 0), some (.inl v3)]) rfl rfl rfl rfl rfl rfl rfl rfl (zrc_o rfl rfl) (by omega) (by omega) (z_M_tell_ok N (by omega) (by omega) 0 (zlit rfl) v3 hv3 A) (fun A5 _ => ?_)
    refine js_aload (pc1 := 120) rfl rfl rfl ?_
    refine js_iconst (pc1 := 121) rfl rfl ?_
    refine js_iload (pc1 := 123) rfl rfl rfl ?_
    refine js_cV (pc1 := 126) (as := [(.inr (.inr (some 226))), (.inl 2), (.inl v2)]) (S0 := []) (m := 3) (L0 := [some (.inr (.inr (some 226))), some (.inl 2), some (.inl v2)]) rfl rfl rfl rfl rfl rfl rfl rfl (zrc_o rfl rfl) (by omega) (by omega) (z_M_tell_ok N (by omega) (by omega) 2 (zlit rfl) v2 hv2 A5) (fun A6 _ => ?_)
    refine js_goto (t1 := 385) rfl rfl ?_
    exact je_V rfl
  refine zG_ite (fun c10 => ?_) (fun c10 => ?_)
  · refine js_tsw (t1 := 129) rfl c10 (zlit rfl) (by decide) ?_
    refine js_aload (pc1 := 130) rfl rfl rfl ?_
    refine js_iconst (pc1 := 131) rfl rfl ?_
    refine js_iload (pc1 := 133) rfl rfl rfl ?_
    refine js_cV (pc1 := 136) (as := [(.inr (.inr (some 226))), (.inl 1), (.inl v3)]) (S0 := []) (m := 3) (L0 := [some (.inr (.inr (some 226))), some (.inl 1), some (.inl v3)]) rfl rfl rfl rfl rfl rfl rfl rfl (zrc_o rfl rfl) (by omega) (by omega) (z_M_tell_ok N (by omega) (by omega) 1 (zlit rfl) v3 hv3 A) (fun A8 _ => ?_)
    refine js_aload (pc1 := 137) rfl rfl rfl ?_
    refine js_iconst (pc1 := 138) rfl rfl ?_
    refine js_iload (pc1 := 140) rfl rfl rfl ?_
    refine js_cV (pc1 := 143) (as := [(.inr (.inr (some 226))), (.inl 2), (.inl v2)]) (S0 := []) (m := 3) (L0 := [some (.inr (.inr (some 226))), some (.inl 2), some (.inl v2)]) rfl rfl rfl rfl rfl rfl rfl rfl (zrc_o rfl rfl) (by omega) (by omega) (z_M_tell_ok N (by omega) (by omega) 2 (zlit rfl) v2 hv2 A8) (fun A9 _ => ?_)
    refine js_goto (t1 := 385) rfl rfl ?_
    exact je_V rfl
  refine zG_ite (fun c17 => ?_) (fun c17 => ?_)
  · refine js_tsw (t1 := 146) rfl c17 (zlit rfl) (by decide) ?_
    refine js_aload (pc1 := 147) rfl rfl rfl ?_
    refine js_iconst (pc1 := 148) rfl rfl ?_
    refine js_iload (pc1 := 150) rfl rfl rfl ?_
    refine js_cV (pc1 := 153) (as := [(.inr (.inr (some 226))), (.inl 1), (.inl v3)]) (S0 := []) (m := 3) (L0 := [some (.inr (.inr (some 226))), some (.inl 1), some (.inl v3)]) rfl rfl rfl rfl rfl rfl rfl rfl (zrc_o rfl rfl) (by omega) (by omega) (z_M_tell_ok N (by omega) (by omega) 1 (zlit rfl) v3 hv3 A) (fun A11 _ => ?_)
    refine js_aload (pc1 := 154) rfl rfl rfl ?_
    refine js_iconst (pc1 := 155) rfl rfl ?_
    refine js_aload (pc1 := 156) rfl rfl rfl ?_
    refine js_iconst (pc1 := 157) rfl rfl ?_
    refine js_iload (pc1 := 158) rfl rfl rfl ?_
    refine js_iload (pc1 := 159) rfl rfl rfl ?_
    refine js_iconst (pc1 := 160) rfl rfl ?_
    refine js_cP (pc1 := 163) (as := [(.inr (.inr (some 226))), (.inl 0), (.inl x1), (.inl x2), (.inl 3)]) (S0 := [(.inl 1), (.inr (.inr (some 226)))]) (m := 5) (L0 := [some (.inr (.inr (some 226))), some (.inl 0), some (.inl x1), some (.inl x2), some (.inl 3)]) rfl rfl rfl rfl rfl rfl rfl rfl (zrc_o rfl rfl) (by omega) (by omega) (z_M_field_ok N (by omega) (by omega) 0 (zlit rfl) x1 hx1 x2 hx2 3 (zlit rfl) A11) (fun v12 _ hv12 => ?_)
    refine js_cV (pc1 := 166) (as := [(.inr (.inr (some 226))), (.inl 1), (.inl v12)]) (S0 := []) (m := 3) (L0 := [some (.inr (.inr (some 226))), some (.inl 1), some (.inl v12)]) rfl rfl rfl rfl rfl rfl rfl rfl (zrc_o rfl rfl) (by omega) (by omega) (z_M_tell_ok N (by omega) (by omega) 1 (zlit rfl) v12 hv12 A11) (fun A13 _ => ?_)
    refine js_aload (pc1 := 167) rfl rfl rfl ?_
    refine js_iconst (pc1 := 168) rfl rfl ?_
    refine js_aload (pc1 := 169) rfl rfl rfl ?_
    refine js_iconst (pc1 := 170) rfl rfl ?_
    refine js_iload (pc1 := 171) rfl rfl rfl ?_
    refine js_iload (pc1 := 172) rfl rfl rfl ?_
    refine js_iconst (pc1 := 173) rfl rfl ?_
    refine js_cP (pc1 := 176) (as := [(.inr (.inr (some 226))), (.inl 0), (.inl x1), (.inl x2), (.inl 4)]) (S0 := [(.inl 3), (.inr (.inr (some 226)))]) (m := 5) (L0 := [some (.inr (.inr (some 226))), some (.inl 0), some (.inl x1), some (.inl x2), some (.inl 4)]) rfl rfl rfl rfl rfl rfl rfl rfl (zrc_o rfl rfl) (by omega) (by omega) (z_M_field_ok N (by omega) (by omega) 0 (zlit rfl) x1 hx1 x2 hx2 4 (zlit rfl) A13) (fun v14 _ hv14 => ?_)
    refine js_iadd (pc1 := 177) rfl rfl ?_
    refine js_iconst (pc1 := 178) rfl rfl ?_
    refine js_cV (pc1 := 181) (as := [(.inr (.inr (some 226))), (.inl (3 + v14)), (.inl 0)]) (S0 := []) (m := 3) (L0 := [some (.inr (.inr (some 226))), some (.inl (3 + v14)), some (.inl 0)]) rfl rfl rfl rfl rfl rfl rfl rfl (zrc_o rfl rfl) (by omega) (by omega) (zG_to (L := [some (.inr (.inr (some 226))), some (.inl (zw (3 + v14))), some (.inl 0)]) (S := []) ⟨rfl, ⟨zval_w (3 + v14), ⟨rfl, trivial⟩⟩⟩ rfl (z_M_tell_ok N (by omega) (by omega) (zw (3 + v14)) (zw_rg (3 + v14)) 0 (zlit rfl) A13)) (fun A15 _ => ?_)
    refine js_aload (pc1 := 182) rfl rfl rfl ?_
    refine js_iconst (pc1 := 183) rfl rfl ?_
    refine js_iload (pc1 := 185) rfl rfl rfl ?_
    refine js_cV (pc1 := 188) (as := [(.inr (.inr (some 226))), (.inl 2), (.inl v2)]) (S0 := []) (m := 3) (L0 := [some (.inr (.inr (some 226))), some (.inl 2), some (.inl v2)]) rfl rfl rfl rfl rfl rfl rfl rfl (zrc_o rfl rfl) (by omega) (by omega) (z_M_tell_ok N (by omega) (by omega) 2 (zlit rfl) v2 hv2 A15) (fun A16 _ => ?_)
    refine js_goto (t1 := 385) rfl rfl ?_
    exact je_V rfl
  refine zG_ite (fun c21 => ?_) (fun c21 => ?_)
  · refine js_tsw (t1 := 191) rfl c21 (zlit rfl) (by decide) ?_
    refine js_aload (pc1 := 192) rfl rfl rfl ?_
    refine js_iconst (pc1 := 193) rfl rfl ?_
    refine js_iload (pc1 := 195) rfl rfl rfl ?_
    refine js_cV (pc1 := 198) (as := [(.inr (.inr (some 226))), (.inl 1), (.inl v3)]) (S0 := []) (m := 3) (L0 := [some (.inr (.inr (some 226))), some (.inl 1), some (.inl v3)]) rfl rfl rfl rfl rfl rfl rfl rfl (zrc_o rfl rfl) (by omega) (by omega) (z_M_tell_ok N (by omega) (by omega) 1 (zlit rfl) v3 hv3 A) (fun A18 _ => ?_)
    refine js_aload (pc1 := 199) rfl rfl rfl ?_
    refine js_iconst (pc1 := 201) rfl rfl ?_
    refine js_iconst (pc1 := 202) rfl rfl ?_
    refine js_cV (pc1 := 205) (as := [(.inr (.inr (some 226))), (.inl 9), (.inl 0)]) (S0 := []) (m := 3) (L0 := [some (.inr (.inr (some 226))), some (.inl 9), some (.inl 0)]) rfl rfl rfl rfl rfl rfl rfl rfl (zrc_o rfl rfl) (by omega) (by omega) (z_M_tell_ok N (by omega) (by omega) 9 (zlit rfl) 0 (zlit rfl) A18) (fun A19 _ => ?_)
    refine js_aload (pc1 := 206) rfl rfl rfl ?_
    refine js_iconst (pc1 := 207) rfl rfl ?_
    refine js_iload (pc1 := 209) rfl rfl rfl ?_
    refine js_cV (pc1 := 212) (as := [(.inr (.inr (some 226))), (.inl 2), (.inl v2)]) (S0 := []) (m := 3) (L0 := [some (.inr (.inr (some 226))), some (.inl 2), some (.inl v2)]) rfl rfl rfl rfl rfl rfl rfl rfl (zrc_o rfl rfl) (by omega) (by omega) (z_M_tell_ok N (by omega) (by omega) 2 (zlit rfl) v2 hv2 A19) (fun A20 _ => ?_)
    refine js_goto (t1 := 385) rfl rfl ?_
    exact je_V rfl
  refine zG_ite (fun c25 => ?_) (fun c25 => ?_)
  · refine js_tsw (t1 := 215) rfl c25 (zlit rfl) (by decide) ?_
    refine js_aload (pc1 := 216) rfl rfl rfl ?_
    refine js_iconst (pc1 := 217) rfl rfl ?_
    refine js_iload (pc1 := 219) rfl rfl rfl ?_
    refine js_cV (pc1 := 222) (as := [(.inr (.inr (some 226))), (.inl 1), (.inl v2)]) (S0 := []) (m := 3) (L0 := [some (.inr (.inr (some 226))), some (.inl 1), some (.inl v2)]) rfl rfl rfl rfl rfl rfl rfl rfl (zrc_o rfl rfl) (by omega) (by omega) (z_M_tell_ok N (by omega) (by omega) 1 (zlit rfl) v2 hv2 A) (fun A22 _ => ?_)
    refine js_aload (pc1 := 223) rfl rfl rfl ?_
    refine js_iconst (pc1 := 224) rfl rfl ?_
    refine js_iload (pc1 := 226) rfl rfl rfl ?_
    refine js_cV (pc1 := 229) (as := [(.inr (.inr (some 226))), (.inl 1), (.inl v3)]) (S0 := []) (m := 3) (L0 := [some (.inr (.inr (some 226))), some (.inl 1), some (.inl v3)]) rfl rfl rfl rfl rfl rfl rfl rfl (zrc_o rfl rfl) (by omega) (by omega) (z_M_tell_ok N (by omega) (by omega) 1 (zlit rfl) v3 hv3 A22) (fun A23 _ => ?_)
    refine js_aload (pc1 := 230) rfl rfl rfl ?_
    refine js_iconst (pc1 := 232) rfl rfl ?_
    refine js_iconst (pc1 := 233) rfl rfl ?_
    refine js_cV (pc1 := 236) (as := [(.inr (.inr (some 226))), (.inl 10), (.inl 0)]) (S0 := []) (m := 3) (L0 := [some (.inr (.inr (some 226))), some (.inl 10), some (.inl 0)]) rfl rfl rfl rfl rfl rfl rfl rfl (zrc_o rfl rfl) (by omega) (by omega) (z_M_tell_ok N (by omega) (by omega) 10 (zlit rfl) 0 (zlit rfl) A23) (fun A24 _ => ?_)
    refine js_goto (t1 := 385) rfl rfl ?_
    exact je_V rfl
  refine zG_ite (fun c28 => ?_) (fun c28 => ?_)
  · refine js_tsw (t1 := 239) rfl c28 (zlit rfl) (by decide) ?_
    refine js_aload (pc1 := 240) rfl rfl rfl ?_
    refine js_iconst (pc1 := 242) rfl rfl ?_
    refine js_iconst (pc1 := 243) rfl rfl ?_
    refine js_cV (pc1 := 246) (as := [(.inr (.inr (some 226))), (.inl 11), (.inl 0)]) (S0 := []) (m := 3) (L0 := [some (.inr (.inr (some 226))), some (.inl 11), some (.inl 0)]) rfl rfl rfl rfl rfl rfl rfl rfl (zrc_o rfl rfl) (by omega) (by omega) (z_M_tell_ok N (by omega) (by omega) 11 (zlit rfl) 0 (zlit rfl) A) (fun A26 _ => ?_)
    refine js_aload (pc1 := 247) rfl rfl rfl ?_
    refine js_iconst (pc1 := 248) rfl rfl ?_
    refine js_iload (pc1 := 250) rfl rfl rfl ?_
    refine js_cV (pc1 := 253) (as := [(.inr (.inr (some 226))), (.inl 2), (.inl v2)]) (S0 := []) (m := 3) (L0 := [some (.inr (.inr (some 226))), some (.inl 2), some (.inl v2)]) rfl rfl rfl rfl rfl rfl rfl rfl (zrc_o rfl rfl) (by omega) (by omega) (z_M_tell_ok N (by omega) (by omega) 2 (zlit rfl) v2 hv2 A26) (fun A27 _ => ?_)
    refine js_goto (t1 := 385) rfl rfl ?_
    exact je_V rfl
  refine zG_ite (fun c31 => ?_) (fun c31 => ?_)
  · refine js_tsw (t1 := 256) rfl c31 (zlit rfl) (by decide) ?_
    refine js_aload (pc1 := 257) rfl rfl rfl ?_
    refine js_iconst (pc1 := 258) rfl rfl ?_
    refine js_iload (pc1 := 260) rfl rfl rfl ?_
    refine js_cV (pc1 := 263) (as := [(.inr (.inr (some 226))), (.inl 1), (.inl v2)]) (S0 := []) (m := 3) (L0 := [some (.inr (.inr (some 226))), some (.inl 1), some (.inl v2)]) rfl rfl rfl rfl rfl rfl rfl rfl (zrc_o rfl rfl) (by omega) (by omega) (z_M_tell_ok N (by omega) (by omega) 1 (zlit rfl) v2 hv2 A) (fun A29 _ => ?_)
    refine js_aload (pc1 := 264) rfl rfl rfl ?_
    refine js_iconst (pc1 := 266) rfl rfl ?_
    refine js_iconst (pc1 := 267) rfl rfl ?_
    refine js_cV (pc1 := 270) (as := [(.inr (.inr (some 226))), (.inl 12), (.inl 0)]) (S0 := []) (m := 3) (L0 := [some (.inr (.inr (some 226))), some (.inl 12), some (.inl 0)]) rfl rfl rfl rfl rfl rfl rfl rfl (zrc_o rfl rfl) (by omega) (by omega) (z_M_tell_ok N (by omega) (by omega) 12 (zlit rfl) 0 (zlit rfl) A29) (fun A30 _ => ?_)
    refine js_goto (t1 := 385) rfl rfl ?_
    exact je_V rfl
  refine zG_ite (fun c35 => ?_) (fun c35 => ?_)
  · refine js_tsw (t1 := 273) rfl c35 (zlit rfl) (by decide) ?_
    refine js_aload (pc1 := 274) rfl rfl rfl ?_
    refine js_iconst (pc1 := 275) rfl rfl ?_
    refine js_iload (pc1 := 277) rfl rfl rfl ?_
    refine js_cV (pc1 := 280) (as := [(.inr (.inr (some 226))), (.inl 1), (.inl v2)]) (S0 := []) (m := 3) (L0 := [some (.inr (.inr (some 226))), some (.inl 1), some (.inl v2)]) rfl rfl rfl rfl rfl rfl rfl rfl (zrc_o rfl rfl) (by omega) (by omega) (z_M_tell_ok N (by omega) (by omega) 1 (zlit rfl) v2 hv2 A) (fun A32 _ => ?_)
    refine js_aload (pc1 := 281) rfl rfl rfl ?_
    refine js_iconst (pc1 := 283) rfl rfl ?_
    refine js_aload (pc1 := 284) rfl rfl rfl ?_
    refine js_gfr (pc1 := 287) (j := 90) (r := 290) rfl rfl rfl rfl rfl ?_
    refine js_iload (pc1 := 289) rfl rfl rfl ?_
    refine jt_ald (pc1 := 290) rfl rfl rfl rfl rfl (fun v33 hv33 => ?_)
    refine js_cV (pc1 := 293) (as := [(.inr (.inr (some 226))), (.inl 15), (.inl v33)]) (S0 := []) (m := 3) (L0 := [some (.inr (.inr (some 226))), some (.inl 15), some (.inl v33)]) rfl rfl rfl rfl rfl rfl rfl rfl (zrc_o rfl rfl) (by omega) (by omega) (z_M_tell_ok N (by omega) (by omega) 15 (zlit rfl) v33 hv33 A32) (fun A34 _ => ?_)
    refine js_goto (t1 := 385) rfl rfl ?_
    exact je_V rfl
  refine zG_ite (fun c39 => ?_) (fun c39 => ?_)
  · refine js_tsw (t1 := 296) rfl c39 (zlit rfl) (by decide) ?_
    refine js_aload (pc1 := 297) rfl rfl rfl ?_
    refine js_iconst (pc1 := 298) rfl rfl ?_
    refine js_iload (pc1 := 300) rfl rfl rfl ?_
    refine js_cV (pc1 := 303) (as := [(.inr (.inr (some 226))), (.inl 1), (.inl v2)]) (S0 := []) (m := 3) (L0 := [some (.inr (.inr (some 226))), some (.inl 1), some (.inl v2)]) rfl rfl rfl rfl rfl rfl rfl rfl (zrc_o rfl rfl) (by omega) (by omega) (z_M_tell_ok N (by omega) (by omega) 1 (zlit rfl) v2 hv2 A) (fun A36 _ => ?_)
    refine js_aload (pc1 := 304) rfl rfl rfl ?_
    refine js_iconst (pc1 := 306) rfl rfl ?_
    refine js_aload (pc1 := 307) rfl rfl rfl ?_
    refine js_gfr (pc1 := 310) (j := 89) (r := 289) rfl rfl rfl rfl rfl ?_
    refine js_iconst (pc1 := 313) rfl rfl ?_
    refine js_iload (pc1 := 314) rfl rfl rfl ?_
    refine js_imul (pc1 := 315) rfl rfl ?_
    refine js_iload (pc1 := 317) rfl rfl rfl ?_
    refine js_iadd (pc1 := 318) rfl rfl ?_
    refine jt_ald (pc1 := 319) rfl rfl rfl rfl rfl (fun v37 hv37 => ?_)
    refine js_iconst (pc1 := 320) rfl rfl ?_
    refine js_iadd (pc1 := 321) rfl rfl ?_
    refine js_cV (pc1 := 324) (as := [(.inr (.inr (some 226))), (.inl 13), (.inl (v37 + 1))]) (S0 := []) (m := 3) (L0 := [some (.inr (.inr (some 226))), some (.inl 13), some (.inl (v37 + 1))]) rfl rfl rfl rfl rfl rfl rfl rfl (zrc_o rfl rfl) (by omega) (by omega) (zG_to (L := [some (.inr (.inr (some 226))), some (.inl 13), some (.inl (zw (v37 + 1)))]) (S := []) ⟨rfl, ⟨rfl, ⟨zval_w (v37 + 1), trivial⟩⟩⟩ rfl (z_M_tell_ok N (by omega) (by omega) 13 (zlit rfl) (zw (v37 + 1)) (zw_rg (v37 + 1)) A36)) (fun A38 _ => ?_)
    refine js_goto (t1 := 385) rfl rfl ?_
    exact je_V rfl
  refine zG_ite (fun c42 => ?_) (fun c42 => ?_)
  · refine js_tsw (t1 := 327) rfl c42 (zlit rfl) (by decide) ?_
    refine js_aload (pc1 := 328) rfl rfl rfl ?_
    refine js_iconst (pc1 := 330) rfl rfl ?_
    refine js_aload (pc1 := 331) rfl rfl rfl ?_
    refine js_gfr (pc1 := 334) (j := 89) (r := 289) rfl rfl rfl rfl rfl ?_
    refine js_iconst (pc1 := 337) rfl rfl ?_
    refine js_iload (pc1 := 338) rfl rfl rfl ?_
    refine js_imul (pc1 := 339) rfl rfl ?_
    refine js_iload (pc1 := 341) rfl rfl rfl ?_
    refine js_iadd (pc1 := 342) rfl rfl ?_
    refine jt_ald (pc1 := 343) rfl rfl rfl rfl rfl (fun v40 hv40 => ?_)
    refine js_cV (pc1 := 346) (as := [(.inr (.inr (some 226))), (.inl 14), (.inl v40)]) (S0 := []) (m := 3) (L0 := [some (.inr (.inr (some 226))), some (.inl 14), some (.inl v40)]) rfl rfl rfl rfl rfl rfl rfl rfl (zrc_o rfl rfl) (by omega) (by omega) (z_M_tell_ok N (by omega) (by omega) 14 (zlit rfl) v40 hv40 A) (fun A41 _ => ?_)
    refine js_goto (t1 := 385) rfl rfl ?_
    exact je_V rfl
  refine zG_ite (fun c46 => ?_) (fun c46 => ?_)
  · refine js_tsw (t1 := 296) rfl c46 (zlit rfl) (by decide) ?_
    refine js_aload (pc1 := 297) rfl rfl rfl ?_
    refine js_iconst (pc1 := 298) rfl rfl ?_
    refine js_iload (pc1 := 300) rfl rfl rfl ?_
    refine js_cV (pc1 := 303) (as := [(.inr (.inr (some 226))), (.inl 1), (.inl v2)]) (S0 := []) (m := 3) (L0 := [some (.inr (.inr (some 226))), some (.inl 1), some (.inl v2)]) rfl rfl rfl rfl rfl rfl rfl rfl (zrc_o rfl rfl) (by omega) (by omega) (z_M_tell_ok N (by omega) (by omega) 1 (zlit rfl) v2 hv2 A) (fun A43 _ => ?_)
    refine js_aload (pc1 := 304) rfl rfl rfl ?_
    refine js_iconst (pc1 := 306) rfl rfl ?_
    refine js_aload (pc1 := 307) rfl rfl rfl ?_
    refine js_gfr (pc1 := 310) (j := 89) (r := 289) rfl rfl rfl rfl rfl ?_
    refine js_iconst (pc1 := 313) rfl rfl ?_
    refine js_iload (pc1 := 314) rfl rfl rfl ?_
    refine js_imul (pc1 := 315) rfl rfl ?_
    refine js_iload (pc1 := 317) rfl rfl rfl ?_
    refine js_iadd (pc1 := 318) rfl rfl ?_
    refine jt_ald (pc1 := 319) rfl rfl rfl rfl rfl (fun v44 hv44 => ?_)
    refine js_iconst (pc1 := 320) rfl rfl ?_
    refine js_iadd (pc1 := 321) rfl rfl ?_
    refine js_cV (pc1 := 324) (as := [(.inr (.inr (some 226))), (.inl 13), (.inl (v44 + 1))]) (S0 := []) (m := 3) (L0 := [some (.inr (.inr (some 226))), some (.inl 13), some (.inl (v44 + 1))]) rfl rfl rfl rfl rfl rfl rfl rfl (zrc_o rfl rfl) (by omega) (by omega) (zG_to (L := [some (.inr (.inr (some 226))), some (.inl 13), some (.inl (zw (v44 + 1)))]) (S := []) ⟨rfl, ⟨rfl, ⟨zval_w (v44 + 1), trivial⟩⟩⟩ rfl (z_M_tell_ok N (by omega) (by omega) 13 (zlit rfl) (zw (v44 + 1)) (zw_rg (v44 + 1)) A43)) (fun A45 _ => ?_)
    refine js_goto (t1 := 385) rfl rfl ?_
    exact je_V rfl
  refine zG_ite (fun c51 => ?_) (fun c51 => ?_)
  · refine js_tsw (t1 := 349) rfl c51 (zlit rfl) (by decide) ?_
    refine js_aload (pc1 := 350) rfl rfl rfl ?_
    refine js_iconst (pc1 := 351) rfl rfl ?_
    refine js_iload (pc1 := 352) rfl rfl rfl ?_
    refine js_iload (pc1 := 354) rfl rfl rfl ?_
    refine js_iconst (pc1 := 355) rfl rfl ?_
    refine js_cP (pc1 := 358) (as := [(.inr (.inr (some 226))), (.inl 0), (.inl x1), (.inl v4), (.inl 0)]) (S0 := []) (m := 5) (L0 := [some (.inr (.inr (some 226))), some (.inl 0), some (.inl x1), some (.inl v4), some (.inl 0)]) rfl rfl rfl rfl rfl rfl rfl rfl (zrc_o rfl rfl) (by omega) (by omega) (z_M_field_ok N (by omega) (by omega) 0 (zlit rfl) x1 hx1 v4 hv4 0 (zlit rfl) A) (fun v47 _ hv47 => ?_)
    refine js_iconst (pc1 := 360) rfl rfl ?_
    refine jt_ne (pc1 := 363) (t1 := 385) hv47 (zlit rfl) rfl rfl rfl (fun c48 => ?_) (fun c48 => ?_)
    · refine js_aload (pc1 := 364) rfl rfl rfl ?_
      refine js_iconst (pc1 := 366) rfl rfl ?_
      refine js_aload (pc1 := 367) rfl rfl rfl ?_
      refine js_gfr (pc1 := 370) (j := 89) (r := 289) rfl rfl rfl rfl rfl ?_
      refine js_iconst (pc1 := 373) rfl rfl ?_
      refine js_iload (pc1 := 374) rfl rfl rfl ?_
      refine js_imul (pc1 := 375) rfl rfl ?_
      refine js_iload (pc1 := 377) rfl rfl rfl ?_
      refine js_iadd (pc1 := 378) rfl rfl ?_
      refine jt_ald (pc1 := 379) rfl rfl rfl rfl rfl (fun v49 hv49 => ?_)
      refine js_cV (pc1 := 382) (as := [(.inr (.inr (some 226))), (.inl 14), (.inl v49)]) (S0 := []) (m := 3) (L0 := [some (.inr (.inr (some 226))), some (.inl 14), some (.inl v49)]) rfl rfl rfl rfl rfl rfl rfl rfl (zrc_o rfl rfl) (by omega) (by omega) (z_M_tell_ok N (by omega) (by omega) 14 (zlit rfl) v49 hv49 A) (fun A50 _ => ?_)
      refine js_goto (t1 := 385) rfl rfl ?_
      exact je_V rfl
    · exact je_V rfl
  rcases Decidable.em (v1 = 10) with c52 | c52
  · refine js_tsw (t1 := 385) rfl c52 (zlit rfl) (by decide) ?_
    exact je_V rfl
  refine js_tswd (t1 := 385) rfl hv1 (by omega) rfl ?_
  exact je_V rfl
