theorem z_M_index_28_ok{d w : Nat} (N : Nat) (hd : 2 ≤ d) (hw : 48 ≤ w) (x1 : Int) (hx1 : zrg x1) (x2 : Int) (hx2 : zrg x2) (A : zA) : zG (z_M_index_28 N x1 x2 A) zPV d w 259 28 [some (.inr (.inr (some 226))), some (.inl x1), some (.inl x2)] [] A := by
  unfold z_M_index_28
  refine js_aload (pc1 := 29) rfl rfl rfl ?_
  refine js_iload (pc1 := 30) rfl rfl rfl ?_
  refine js_iconst (pc1 := 31) rfl rfl ?_
  refine js_iload (pc1 := 32) rfl rfl rfl ?_
  refine js_cV (pc1 := 35) (as := [(.inr (.inr (some 226))), (.inl x1), (.inl 4), (.inl x2)]) (S0 := []) (m := 7) (L0 := [some (.inr (.inr (some 226))), some (.inl x1), some (.inl 4), some (.inl x2), none, none, none]) rfl rfl rfl rfl rfl rfl rfl rfl (zrc_o rfl rfl) (by omega) (by omega) (z_M_saysOnce_ok N (by omega) (by omega) x1 hx1 4 (zlit rfl) x2 hx2 A) (fun A1 _ => ?_)
  exact je_V rfl
theorem z_M_index_ok{d w : Nat} (N : Nat) (hd : 2 ≤ d) (hw : 48 ≤ w) (x1 : Int) (hx1 : zrg x1) (x2 : Int) (hx2 : zrg x2) (A : zA) : zG (z_M_index N x1 x2 A) zPV d w 259 0 [some (.inr (.inr (some 226))), some (.inl x1), some (.inl x2)] [] A := by
  unfold z_M_index
  refine js_aload (pc1 := 1) rfl rfl rfl ?_
  refine js_iload (pc1 := 2) rfl rfl rfl ?_
  refine js_cP (pc1 := 5) (as := [(.inr (.inr (some 226))), (.inl x2)]) (S0 := []) (m := 2) (L0 := [some (.inr (.inr (some 226))), some (.inl x2)]) rfl rfl rfl rfl rfl rfl rfl rfl (zrc_o rfl rfl) (by omega) (by omega) (z_M_isNumber_ok N (by omega) (by omega) x2 hx2 A) (fun v1 _ hv1 => ?_)
  refine ju_eq (pc1 := 8) (t1 := 28) hv1 rfl rfl rfl (fun c2 => ?_) (fun c2 => ?_)
  · exact z_M_index_28_ok N hd hw x1 hx1 x2 hx2 A
  · refine js_aload (pc1 := 9) rfl rfl rfl ?_
    refine js_gfr (pc1 := 12) (j := 44) (r := 253) rfl rfl rfl rfl rfl ?_
    refine js_iload (pc1 := 13) rfl rfl rfl ?_
    refine jt_ald (pc1 := 14) rfl rfl rfl rfl rfl (fun v3 hv3 => ?_)
    refine ju_lt (pc1 := 17) (t1 := 28) hv3 rfl rfl rfl (fun c4 => ?_) (fun c4 => ?_)
    · exact z_M_index_28_ok N hd hw x1 hx1 x2 hx2 A
    · refine js_aload (pc1 := 18) rfl rfl rfl ?_
      refine js_gfr (pc1 := 21) (j := 44) (r := 253) rfl rfl rfl rfl rfl ?_
      refine js_iload (pc1 := 22) rfl rfl rfl ?_
      refine jt_ald (pc1 := 23) rfl rfl rfl rfl rfl (fun v5 hv5 => ?_)
      refine js_iconst (pc1 := 25) rfl rfl ?_
      refine jt_le (pc1 := 28) (t1 := 35) hv5 (zlit rfl) rfl rfl rfl (fun c6 => ?_) (fun c6 => ?_)
      · exact z_M_index_28_ok N hd hw x1 hx1 x2 hx2 A
      · exact je_V rfl
theorem z_M_step_ok{d w : Nat} (N : Nat) (hd : 3 ≤ d) (hw : 73 ≤ w) (x1 : Int) (hx1 : zrg x1) (x2 : Int) (hx2 : zrg x2) (x3 : Int) (hx3 : zrg x3) (x4 : Int) (hx4 : zrg x4) (A : zA) : zG (z_M_step N x1 x2 x3 x4 A) zPV d w 194 0 [some (.inr (.inr (some 226))), some (.inl x1), some (.inl x2), some (.inl x3), some (.inl x4), none, none, none] [] A := by
  unfold z_M_step
  refine js_aload (pc1 := 1) rfl rfl rfl ?_
  refine js_iload (pc1 := 2) rfl rfl rfl ?_
  refine js_iload (pc1 := 3) rfl rfl rfl ?_
  refine js_iload (pc1 := 5) rfl rfl rfl ?_
  refine js_iconst (pc1 := 6) rfl rfl ?_
  refine js_cP (pc1 := 9) (as := [(.inr (.inr (some 226))), (.inl x2), (.inl x3), (.inl x4), (.inl 0)]) (S0 := []) (m := 5) (L0 := [some (.inr (.inr (some 226))), some (.inl x2), some (.inl x3), some (.inl x4), some (.inl 0)]) rfl rfl rfl rfl rfl rfl rfl rfl (zrc_o rfl rfl) (by omega) (by omega) (z_M_field_ok N (by omega) (by omega) x2 hx2 x3 hx3 x4 hx4 0 (zlit rfl) A) (fun v1 _ hv1 => ?_)
  refine js_istore (pc1 := 11) (L1 := [some (.inr (.inr (some 226))), some (.inl x1), some (.inl x2), some (.inl x3), some (.inl x4), some (.inl v1), none, none]) rfl rfl rfl rfl ?_
  refine js_aload (pc1 := 12) rfl rfl rfl ?_
  refine js_iload (pc1 := 13) rfl rfl rfl ?_
  refine js_iload (pc1 := 14) rfl rfl rfl ?_
  refine js_iload (pc1 := 16) rfl rfl rfl ?_
  refine js_iconst (pc1 := 17) rfl rfl ?_
  refine js_cP (pc1 := 20) (as := [(.inr (.inr (some 226))), (.inl x2), (.inl x3), (.inl x4), (.inl 1)]) (S0 := []) (m := 5) (L0 := [some (.inr (.inr (some 226))), some (.inl x2), some (.inl x3), some (.inl x4), some (.inl 1)]) rfl rfl rfl rfl rfl rfl rfl rfl (zrc_o rfl rfl) (by omega) (by omega) (z_M_field_ok N (by omega) (by omega) x2 hx2 x3 hx3 x4 hx4 1 (zlit rfl) A) (fun v2 _ hv2 => ?_)
  refine js_istore (pc1 := 22) (L1 := [some (.inr (.inr (some 226))), some (.inl x1), some (.inl x2), some (.inl x3), some (.inl x4), some (.inl v1), some (.inl v2), none]) rfl rfl rfl rfl ?_
  refine js_aload (pc1 := 23) rfl rfl rfl ?_
  refine js_iload (pc1 := 24) rfl rfl rfl ?_
  refine js_iload (pc1 := 25) rfl rfl rfl ?_
  refine js_iload (pc1 := 27) rfl rfl rfl ?_
  refine js_iconst (pc1 := 28) rfl rfl ?_
  refine js_cP (pc1 := 31) (as := [(.inr (.inr (some 226))), (.inl x2), (.inl x3), (.inl x4), (.inl 2)]) (S0 := []) (m := 5) (L0 := [some (.inr (.inr (some 226))), some (.inl x2), some (.inl x3), some (.inl x4), some (.inl 2)]) rfl rfl rfl rfl rfl rfl rfl rfl (zrc_o rfl rfl) (by omega) (by omega) (z_M_field_ok N (by omega) (by omega) x2 hx2 x3 hx3 x4 hx4 2 (zlit rfl) A) (fun v3 _ hv3 => ?_)
  refine js_istore (pc1 := 33) (L1 := [some (.inr (.inr (some 226))), some (.inl x1), some (.inl x2), some (.inl x3), some (.inl x4), some (.inl v1), some (.inl v2), some (.inl v3)]) rfl rfl rfl rfl ?_
  refine js_iload (pc1 := 35) rfl rfl rfl ?_
  refine zG_ite (fun c7 => ?_) (fun c7 => ?_)
  · refine js_tsw (t1 := 72) rfl c7 (zlit rfl) (by decide) ?_
    refine js_aload (pc1 := 73) rfl rfl rfl ?_
    refine js_iload (pc1 := 75) rfl rfl rfl ?_
    refine js_aload (pc1 := 76) rfl rfl rfl ?_
    refine js_iconst (pc1 := 77) rfl rfl ?_
    refine js_iload (pc1 := 79) rfl rfl rfl ?_
    refine js_iconst (pc1 := 80) rfl rfl ?_
    refine js_iconst (pc1 := 81) rfl rfl ?_
    refine js_cI (pc1 := 84) (as := [(.inr (.inr (some 226))), (.inl 0), (.inl v3), (.inl 0), (.inl 0)]) (S0 := [(.inl v2), (.inr (.inr (some 226)))]) (m := 7) (L0 := [some (.inr (.inr (some 226))), some (.inl 0), some (.inl v3), some (.inl 0), some (.inl 0), none, none]) rfl rfl rfl rfl rfl rfl rfl rfl (zrc_o rfl rfl) (by omega) (by omega) (z_M_thing_ok N (by omega) (by omega) 0 (zlit rfl) v3 hv3 0 (zlit rfl) 0 (zlit rfl) A) (fun v4 A5 _ hv4 => ?_)
    refine js_cV (pc1 := 87) (as := [(.inr (.inr (some 226))), (.inl v2), (.inl v4)]) (S0 := []) (m := 3) (L0 := [some (.inr (.inr (some 226))), some (.inl v2), some (.inl v4)]) rfl rfl rfl rfl rfl rfl rfl rfl (zrc_o rfl rfl) (by omega) (by omega) (z_M_set_ok N (by omega) (by omega) v2 hv2 v4 hv4 A5) (fun A6 _ => ?_)
    refine js_goto (t1 := 276) rfl rfl ?_
    exact je_V rfl
  refine zG_ite (fun c10 => ?_) (fun c10 => ?_)
  · refine js_tsw (t1 := 90) rfl c10 (zlit rfl) (by decide) ?_
    refine js_aload (pc1 := 91) rfl rfl rfl ?_
    refine js_iload (pc1 := 93) rfl rfl rfl ?_
    refine js_aload (pc1 := 94) rfl rfl rfl ?_
    refine js_iload (pc1 := 96) rfl rfl rfl ?_
    refine js_cP (pc1 := 99) (as := [(.inr (.inr (some 226))), (.inl v3)]) (S0 := [(.inl v2), (.inr (.inr (some 226)))]) (m := 2) (L0 := [some (.inr (.inr (some 226))), some (.inl v3)]) rfl rfl rfl rfl rfl rfl rfl rfl (zrc_o rfl rfl) (by omega) (by omega) (z_M_get_ok N (by omega) (by omega) v3 hv3 A) (fun v8 _ hv8 => ?_)
    refine js_cV (pc1 := 102) (as := [(.inr (.inr (some 226))), (.inl v2), (.inl v8)]) (S0 := []) (m := 3) (L0 := [some (.inr (.inr (some 226))), some (.inl v2), some (.inl v8)]) rfl rfl rfl rfl rfl rfl rfl rfl (zrc_o rfl rfl) (by omega) (by omega) (z_M_set_ok N (by omega) (by omega) v2 hv2 v8 hv8 A) (fun A9 _ => ?_)
    refine js_goto (t1 := 276) rfl rfl ?_
    exact je_V rfl
  refine zG_ite (fun c18 => ?_) (fun c18 => ?_)
  · refine js_tsw (t1 := 105) rfl c18 (zlit rfl) (by decide) ?_
    refine js_aload (pc1 := 106) rfl rfl rfl ?_
    refine js_iload (pc1 := 108) rfl rfl rfl ?_
    refine js_aload (pc1 := 109) rfl rfl rfl ?_
    refine js_iload (pc1 := 110) rfl rfl rfl ?_
    refine js_aload (pc1 := 111) rfl rfl rfl ?_
    refine js_iload (pc1 := 112) rfl rfl rfl ?_
    refine js_iload (pc1 := 113) rfl rfl rfl ?_
    refine js_iload (pc1 := 115) rfl rfl rfl ?_
    refine js_iconst (pc1 := 116) rfl rfl ?_
    refine js_cP (pc1 := 119) (as := [(.inr (.inr (some 226))), (.inl x2), (.inl x3), (.inl x4), (.inl 4)]) (S0 := [(.inl x1), (.inr (.inr (some 226))), (.inl v2), (.inr (.inr (some 226)))]) (m := 5) (L0 := [some (.inr (.inr (some 226))), some (.inl x2), some (.inl x3), some (.inl x4), some (.inl 4)]) rfl rfl rfl rfl rfl rfl rfl rfl (zrc_o rfl rfl) (by omega) (by omega) (z_M_field_ok N (by omega) (by omega) x2 hx2 x3 hx3 x4 hx4 4 (zlit rfl) A) (fun v11 _ hv11 => ?_)
    refine js_aload (pc1 := 120) rfl rfl rfl ?_
    refine js_iload (pc1 := 122) rfl rfl rfl ?_
    refine js_cP (pc1 := 125) (as := [(.inr (.inr (some 226))), (.inl v3)]) (S0 := [(.inl v11), (.inl x1), (.inr (.inr (some 226))), (.inl v2), (.inr (.inr (some 226)))]) (m := 2) (L0 := [some (.inr (.inr (some 226))), some (.inl v3)]) rfl rfl rfl rfl rfl rfl rfl rfl (zrc_o rfl rfl) (by omega) (by omega) (z_M_get_ok N (by omega) (by omega) v3 hv3 A) (fun v12 _ hv12 => ?_)
    refine js_aload (pc1 := 126) rfl rfl rfl ?_
    refine js_aload (pc1 := 127) rfl rfl rfl ?_
    refine js_iload (pc1 := 128) rfl rfl rfl ?_
    refine js_iload (pc1 := 129) rfl rfl rfl ?_
    refine js_iload (pc1 := 131) rfl rfl rfl ?_
    refine js_iconst (pc1 := 132) rfl rfl ?_
    refine js_cP (pc1 := 135) (as := [(.inr (.inr (some 226))), (.inl x2), (.inl x3), (.inl x4), (.inl 3)]) (S0 := [(.inr (.inr (some 226))), (.inl v12), (.inl v11), (.inl x1), (.inr (.inr (some 226))), (.inl v2), (.inr (.inr (some 226)))]) (m := 5) (L0 := [some (.inr (.inr (some 226))), some (.inl x2), some (.inl x3), some (.inl x4), some (.inl 3)]) rfl rfl rfl rfl rfl rfl rfl rfl (zrc_o rfl rfl) (by omega) (by omega) (z_M_field_ok N (by omega) (by omega) x2 hx2 x3 hx3 x4 hx4 3 (zlit rfl) A) (fun v13 _ hv13 => ?_)
    refine js_cP (pc1 := 138) (as := [(.inr (.inr (some 226))), (.inl v13)]) (S0 := [(.inl v12), (.inl v11), (.inl x1), (.inr (.inr (some 226))), (.inl v2), (.inr (.inr (some 226)))]) (m := 2) (L0 := [some (.inr (.inr (some 226))), some (.inl v13)]) rfl rfl rfl rfl rfl rfl rfl rfl (zrc_o rfl rfl) (by omega) (by omega) (z_M_get_ok N (by omega) (by omega) v13 hv13 A) (fun v14 _ hv14 => ?_)
    refine js_cI (pc1 := 141) (as := [(.inr (.inr (some 226))), (.inl x1), (.inl v11), (.inl v12), (.inl v14)]) (S0 := [(.inl v2), (.inr (.inr (some 226)))]) (m := 6) (L0 := [some (.inr (.inr (some 226))), some (.inl x1), some (.inl v11), some (.inl v12), some (.inl v14), none]) rfl rfl rfl rfl rfl rfl rfl rfl (zrc_o rfl rfl) (by omega) (by omega) (z_M_workOf_ok N (by omega) (by omega) x1 hx1 v11 hv11 v12 hv12 v14 hv14 A) (fun v15 A16 _ hv15 => ?_)
    refine js_cV (pc1 := 144) (as := [(.inr (.inr (some 226))), (.inl v2), (.inl v15)]) (S0 := []) (m := 3) (L0 := [some (.inr (.inr (some 226))), some (.inl v2), some (.inl v15)]) rfl rfl rfl rfl rfl rfl rfl rfl (zrc_o rfl rfl) (by omega) (by omega) (z_M_set_ok N (by omega) (by omega) v2 hv2 v15 hv15 A16) (fun A17 _ => ?_)
    refine js_goto (t1 := 276) rfl rfl ?_
    exact je_V rfl
  refine zG_ite (fun c25 => ?_) (fun c25 => ?_)
  · refine js_tsw (t1 := 147) rfl c25 (zlit rfl) (by decide) ?_
    refine js_aload (pc1 := 148) rfl rfl rfl ?_
    refine js_iload (pc1 := 149) rfl rfl rfl ?_
    refine js_aload (pc1 := 150) rfl rfl rfl ?_
    refine js_iload (pc1 := 152) rfl rfl rfl ?_
    refine js_cP (pc1 := 155) (as := [(.inr (.inr (some 226))), (.inl v3)]) (S0 := [(.inl x1), (.inr (.inr (some 226)))]) (m := 2) (L0 := [some (.inr (.inr (some 226))), some (.inl v3)]) rfl rfl rfl rfl rfl rfl rfl rfl (zrc_o rfl rfl) (by omega) (by omega) (z_M_get_ok N (by omega) (by omega) v3 hv3 A) (fun v19 _ hv19 => ?_)
    refine js_cV (pc1 := 158) (as := [(.inr (.inr (some 226))), (.inl x1), (.inl v19)]) (S0 := []) (m := 3) (L0 := [some (.inr (.inr (some 226))), some (.inl x1), some (.inl v19)]) rfl rfl rfl rfl rfl rfl rfl rfl (zrc_o rfl rfl) (by omega) (by omega) (z_M_index_ok N (by omega) (by omega) x1 hx1 v19 hv19 A) (fun A20 _ => ?_)
    refine js_aload (pc1 := 159) rfl rfl rfl ?_
    refine js_iload (pc1 := 161) rfl rfl rfl ?_
    refine js_aload (pc1 := 162) rfl rfl rfl ?_
    refine js_iconst (pc1 := 163) rfl rfl ?_
    refine js_aload (pc1 := 164) rfl rfl rfl ?_
    refine js_gi (pc1 := 167) (j := 63) rfl rfl rfl rfl ?_
    refine js_aload (pc1 := 168) rfl rfl rfl ?_
    refine js_iload (pc1 := 170) rfl rfl rfl ?_
    refine js_cP (pc1 := 173) (as := [(.inr (.inr (some 226))), (.inl v3)]) (S0 := [(.inl (zi A20 226 63)), (.inl 2), (.inr (.inr (some 226))), (.inl v2), (.inr (.inr (some 226)))]) (m := 2) (L0 := [some (.inr (.inr (some 226))), some (.inl v3)]) rfl rfl rfl rfl rfl rfl rfl rfl (zrc_o rfl rfl) (by omega) (by omega) (z_M_get_ok N (by omega) (by omega) v3 hv3 A20) (fun v21 _ hv21 => ?_)
    refine js_iconst (pc1 := 174) rfl rfl ?_
    refine js_cI (pc1 := 177) (as := [(.inr (.inr (some 226))), (.inl 2), (.inl (zi A20 226 63)), (.inl v21), (.inl 0)]) (S0 := [(.inl v2), (.inr (.inr (some 226)))]) (m := 7) (L0 := [some (.inr (.inr (some 226))), some (.inl 2), some (.inl (zi A20 226 63)), some (.inl v21), some (.inl 0), none, none]) rfl rfl rfl rfl rfl rfl rfl rfl (zrc_o rfl rfl) (by omega) (by omega) (z_M_thing_ok N (by omega) (by omega) 2 (zlit rfl) (zi A20 226 63) (zi_rg _ _ _) v21 hv21 0 (zlit rfl) A20) (fun v22 A23 _ hv22 => ?_)
    refine js_cV (pc1 := 180) (as := [(.inr (.inr (some 226))), (.inl v2), (.inl v22)]) (S0 := []) (m := 3) (L0 := [some (.inr (.inr (some 226))), some (.inl v2), some (.inl v22)]) rfl rfl rfl rfl rfl rfl rfl rfl (zrc_o rfl rfl) (by omega) (by omega) (z_M_set_ok N (by omega) (by omega) v2 hv2 v22 hv22 A23) (fun A24 _ => ?_)
    refine js_goto (t1 := 276) rfl rfl ?_
    exact je_V rfl
  refine zG_ite (fun c33 => ?_) (fun c33 => ?_)
  · refine js_tsw (t1 := 183) rfl c33 (zlit rfl) (by decide) ?_
    refine js_aload (pc1 := 184) rfl rfl rfl ?_
    refine js_iload (pc1 := 185) rfl rfl rfl ?_
    refine js_aload (pc1 := 186) rfl rfl rfl ?_
    refine js_iload (pc1 := 188) rfl rfl rfl ?_
    refine js_cP (pc1 := 191) (as := [(.inr (.inr (some 226))), (.inl v2)]) (S0 := [(.inl x1), (.inr (.inr (some 226)))]) (m := 2) (L0 := [some (.inr (.inr (some 226))), some (.inl v2)]) rfl rfl rfl rfl rfl rfl rfl rfl (zrc_o rfl rfl) (by omega) (by omega) (z_M_get_ok N (by omega) (by omega) v2 hv2 A) (fun v26 _ hv26 => ?_)
    refine js_cV (pc1 := 194) (as := [(.inr (.inr (some 226))), (.inl x1), (.inl v26)]) (S0 := []) (m := 3) (L0 := [some (.inr (.inr (some 226))), some (.inl x1), some (.inl v26)]) rfl rfl rfl rfl rfl rfl rfl rfl (zrc_o rfl rfl) (by omega) (by omega) (z_M_index_ok N (by omega) (by omega) x1 hx1 v26 hv26 A) (fun A27 _ => ?_)
    refine js_aload (pc1 := 195) rfl rfl rfl ?_
    refine js_aload (pc1 := 196) rfl rfl rfl ?_
    refine js_iconst (pc1 := 197) rfl rfl ?_
    refine js_aload (pc1 := 198) rfl rfl rfl ?_
    refine js_gi (pc1 := 201) (j := 63) rfl rfl rfl rfl ?_
    refine js_aload (pc1 := 202) rfl rfl rfl ?_
    refine js_iload (pc1 := 204) rfl rfl rfl ?_
    refine js_cP (pc1 := 207) (as := [(.inr (.inr (some 226))), (.inl v2)]) (S0 := [(.inl (zi A27 226 63)), (.inl 3), (.inr (.inr (some 226))), (.inr (.inr (some 226)))]) (m := 2) (L0 := [some (.inr (.inr (some 226))), some (.inl v2)]) rfl rfl rfl rfl rfl rfl rfl rfl (zrc_o rfl rfl) (by omega) (by omega) (z_M_get_ok N (by omega) (by omega) v2 hv2 A27) (fun v28 _ hv28 => ?_)
    refine js_aload (pc1 := 208) rfl rfl rfl ?_
    refine js_iload (pc1 := 210) rfl rfl rfl ?_
    refine js_cP (pc1 := 213) (as := [(.inr (.inr (some 226))), (.inl v3)]) (S0 := [(.inl v28), (.inl (zi A27 226 63)), (.inl 3), (.inr (.inr (some 226))), (.inr (.inr (some 226)))]) (m := 2) (L0 := [some (.inr (.inr (some 226))), some (.inl v3)]) rfl rfl rfl rfl rfl rfl rfl rfl (zrc_o rfl rfl) (by omega) (by omega) (z_M_get_ok N (by omega) (by omega) v3 hv3 A27) (fun v29 _ hv29 => ?_)
    refine js_cI (pc1 := 216) (as := [(.inr (.inr (some 226))), (.inl 3), (.inl (zi A27 226 63)), (.inl v28), (.inl v29)]) (S0 := [(.inr (.inr (some 226)))]) (m := 7) (L0 := [some (.inr (.inr (some 226))), some (.inl 3), some (.inl (zi A27 226 63)), some (.inl v28), some (.inl v29), none, none]) rfl rfl rfl rfl rfl rfl rfl rfl (zrc_o rfl rfl) (by omega) (by omega) (z_M_thing_ok N (by omega) (by omega) 3 (zlit rfl) (zi A27 226 63) (zi_rg _ _ _) v28 hv28 v29 hv29 A27) (fun v30 A31 _ hv30 => ?_)
    refine jt_pi (pc1 := 219) (j := 63) rfl rfl rfl rfl rfl (fun A32 => ?_)
    refine js_goto (t1 := 276) rfl rfl ?_
    exact je_V rfl
  refine zG_ite (fun c39 => ?_) (fun c39 => ?_)
  · refine js_tsw (t1 := 222) rfl c39 (zlit rfl) (by decide) ?_
    refine js_aload (pc1 := 223) rfl rfl rfl ?_
    refine js_iload (pc1 := 224) rfl rfl rfl ?_
    refine js_iconst (pc1 := 225) rfl rfl ?_
    refine js_cV (pc1 := 228) (as := [(.inr (.inr (some 226))), (.inl x1), (.inl (-1))]) (S0 := []) (m := 3) (L0 := [some (.inr (.inr (some 226))), some (.inl x1), some (.inl (-1))]) rfl rfl rfl rfl rfl rfl rfl rfl (zrc_o rfl rfl) (by omega) (by omega) (z_M_says_ok N (by omega) (by omega) x1 hx1 (-1) (zlit rfl) A) (fun A34 _ => ?_)
    refine js_aload (pc1 := 229) rfl rfl rfl ?_
    refine js_iload (pc1 := 231) rfl rfl rfl ?_
    refine js_aload (pc1 := 232) rfl rfl rfl ?_
    refine js_iconst (pc1 := 233) rfl rfl ?_
    refine js_aload (pc1 := 234) rfl rfl rfl ?_
    refine js_gi (pc1 := 237) (j := 65) rfl rfl rfl rfl ?_
    refine js_iconst (pc1 := 238) rfl rfl ?_
    refine js_iconst (pc1 := 239) rfl rfl ?_
    refine js_cI (pc1 := 242) (as := [(.inr (.inr (some 226))), (.inl 4), (.inl (zi A34 226 65)), (.inl 0), (.inl 0)]) (S0 := [(.inl v2), (.inr (.inr (some 226)))]) (m := 7) (L0 := [some (.inr (.inr (some 226))), some (.inl 4), some (.inl (zi A34 226 65)), some (.inl 0), some (.inl 0), none, none]) rfl rfl rfl rfl rfl rfl rfl rfl (zrc_o rfl rfl) (by omega) (by omega) (z_M_thing_ok N (by omega) (by omega) 4 (zlit rfl) (zi A34 226 65) (zi_rg _ _ _) 0 (zlit rfl) 0 (zlit rfl) A34) (fun v35 A36 _ hv35 => ?_)
    refine js_cV (pc1 := 245) (as := [(.inr (.inr (some 226))), (.inl v2), (.inl v35)]) (S0 := []) (m := 3) (L0 := [some (.inr (.inr (some 226))), some (.inl v2), some (.inl v35)]) rfl rfl rfl rfl rfl rfl rfl rfl (zrc_o rfl rfl) (by omega) (by omega) (z_M_set_ok N (by omega) (by omega) v2 hv2 v35 hv35 A36) (fun A37 _ => ?_)
    refine js_aload (pc1 := 246) rfl rfl rfl ?_
    refine js_dupR (pc1 := 247) rfl rfl ?_
    refine js_gi (pc1 := 250) (j := 65) rfl rfl rfl rfl ?_
    refine js_iconst (pc1 := 251) rfl rfl ?_
    refine js_iadd (pc1 := 252) rfl rfl ?_
    refine jt_pi (pc1 := 255) (j := 65) rfl rfl rfl rfl rfl (fun A38 => ?_)
    refine js_goto (t1 := 276) rfl rfl ?_
    exact je_V rfl
  refine js_tswd (t1 := 258) rfl hv1 (by omega) rfl ?_
  refine js_aload (pc1 := 259) rfl rfl rfl ?_
  refine js_iload (pc1 := 260) rfl rfl rfl ?_
  refine js_iconst (pc1 := 262) rfl rfl ?_
  refine js_cV (pc1 := 265) (as := [(.inr (.inr (some 226))), (.inl x1), (.inl (-2))]) (S0 := []) (m := 3) (L0 := [some (.inr (.inr (some 226))), some (.inl x1), some (.inl (-2))]) rfl rfl rfl rfl rfl rfl rfl rfl (zrc_o rfl rfl) (by omega) (by omega) (z_M_says_ok N (by omega) (by omega) x1 hx1 (-2) (zlit rfl) A) (fun A40 _ => ?_)
  refine js_aload (pc1 := 266) rfl rfl rfl ?_
  refine js_iload (pc1 := 267) rfl rfl rfl ?_
  refine js_aload (pc1 := 268) rfl rfl rfl ?_
  refine js_iload (pc1 := 270) rfl rfl rfl ?_
  refine js_cP (pc1 := 273) (as := [(.inr (.inr (some 226))), (.inl v2)]) (S0 := [(.inl x1), (.inr (.inr (some 226)))]) (m := 2) (L0 := [some (.inr (.inr (some 226))), some (.inl v2)]) rfl rfl rfl rfl rfl rfl rfl rfl (zrc_o rfl rfl) (by omega) (by omega) (z_M_get_ok N (by omega) (by omega) v2 hv2 A40) (fun v41 _ hv41 => ?_)
  refine js_cV (pc1 := 276) (as := [(.inr (.inr (some 226))), (.inl x1), (.inl v41)]) (S0 := []) (m := 3) (L0 := [some (.inr (.inr (some 226))), some (.inl x1), some (.inl v41)]) rfl rfl rfl rfl rfl rfl rfl rfl (zrc_o rfl rfl) (by omega) (by omega) (z_M_says_ok N (by omega) (by omega) x1 hx1 v41 hv41 A40) (fun A42 _ => ?_)
  exact je_V rfl
theorem z_M_enterPart_74_ok{d w : Nat} (N : Nat) (hd : 1 ≤ d) (hw : 26 ≤ w) (x3 : Int) (hx3 : zrg x3) (x4 : Int) (hx4 : zrg x4) (A : zA) : zG (z_M_enterPart_74 N x3 x4 A) zPV d w 196 74 [some (.inr (.inr (some 226))), none, none, some (.inl x3), some (.inl x4), none, none] [] A := by
  unfold z_M_enterPart_74
  refine js_aload (pc1 := 75) rfl rfl rfl ?_
  refine js_gfr (pc1 := 78) (j := 59) (r := 268) rfl rfl rfl rfl rfl ?_
  refine js_iconst (pc1 := 80) rfl rfl ?_
  refine js_aload (pc1 := 81) rfl rfl rfl ?_
  refine js_gi (pc1 := 84) (j := 62) rfl rfl rfl rfl ?_
  refine js_imul (pc1 := 85) rfl rfl ?_
  refine js_iconst (pc1 := 87) rfl rfl ?_
  refine js_iadd (pc1 := 88) rfl rfl ?_
  refine js_iload (pc1 := 90) rfl rfl rfl ?_
  refine jt_ias (pc1 := 91) rfl rfl rfl rfl (fun A1 => ?_)
  refine js_aload (pc1 := 92) rfl rfl rfl ?_
  refine js_gfr (pc1 := 95) (j := 60) (r := 269) rfl rfl rfl rfl rfl ?_
  refine js_aload (pc1 := 96) rfl rfl rfl ?_
  refine js_gi (pc1 := 99) (j := 62) rfl rfl rfl rfl ?_
  refine js_iload (pc1 := 100) rfl rfl rfl ?_
  refine jt_ias (pc1 := 101) rfl rfl rfl rfl (fun A2 => ?_)
  exact je_V rfl
theorem z_M_enterPart_44_bok{d w : Nat} {r44 : Int → Int → Int → Int → zA → Option zA} (hr44 : ∀ (x3 : Int) (hx3 : zrg x3) (x4 : Int) (hx4 : zrg x4) (x5 : Int) (hx5 : zrg x5) (x6 : Int) (hx6 : zrg x6) (A : zA), zG (r44 x3 x4 x5 x6 A) zPV d w 196 44 [some (.inr (.inr (some 226))), none, none, some (.inl x3), some (.inl x4), some (.inl x5), some (.inl x6)] [] A) (N : Nat) (hd : 1 ≤ d) (hw : 26 ≤ w) (x3 : Int) (hx3 : zrg x3) (x4 : Int) (hx4 : zrg x4) (x5 : Int) (hx5 : zrg x5) (x6 : Int) (hx6 : zrg x6) (A : zA) : zG (z_M_enterPart_44_b r44 N x3 x4 x5 x6 A) zPV d w 196 44 [some (.inr (.inr (some 226))), none, none, some (.inl x3), some (.inl x4), some (.inl x5), some (.inl x6)] [] A := by
  unfold z_M_enterPart_44_b
  refine js_iload (pc1 := 46) rfl rfl rfl ?_
  refine js_iconst (pc1 := 48) rfl rfl ?_
  refine jt_ge (pc1 := 51) (t1 := 74) hx6 (zlit rfl) rfl rfl rfl (fun c1 => ?_) (fun c1 => ?_)
  · refine js_aload (pc1 := 52) rfl rfl rfl ?_
    refine js_gfr (pc1 := 55) (j := 59) (r := 268) rfl rfl rfl rfl rfl ?_
    refine js_iconst (pc1 := 57) rfl rfl ?_
    refine js_aload (pc1 := 58) rfl rfl rfl ?_
    refine js_gi (pc1 := 61) (j := 62) rfl rfl rfl rfl ?_
    refine js_imul (pc1 := 62) rfl rfl ?_
    refine js_iload (pc1 := 64) rfl rfl rfl ?_
    refine js_iadd (pc1 := 65) rfl rfl ?_
    refine js_iload (pc1 := 67) rfl rfl rfl ?_
    refine jt_ias (pc1 := 68) rfl rfl rfl rfl (fun A2 => ?_)
    refine js_iinc (pc1 := 71) (L1 := [some (.inr (.inr (some 226))), none, none, some (.inl x3), some (.inl x4), some (.inl x5), some (.inl (x6 + 1))]) rfl rfl rfl rfl ?_
    refine js_goto (t1 := 44) rfl rfl ?_
    exact zG_to (L := [some (.inr (.inr (some 226))), none, none, some (.inl x3), some (.inl x4), some (.inl x5), some (.inl (zw (x6 + 1)))]) (S := []) ⟨rfl, ⟨rfl, ⟨rfl, ⟨rfl, ⟨zval_w (x6 + 1), trivial⟩⟩⟩⟩⟩ (rfl) (hr44 x3 hx3 x4 hx4 x5 hx5 (zw (x6 + 1)) (zw_rg (x6 + 1)) A2)
  · exact zG_to (L := [some (.inr (.inr (some 226))), none, none, some (.inl x3), some (.inl x4), none, none]) (S := []) ⟨rfl, ⟨rfl, ⟨rfl, trivial⟩⟩⟩ (rfl) (z_M_enterPart_74_ok N hd hw x3 hx3 x4 hx4 A)
theorem z_M_enterPart_44_lok{d w : Nat} (N : Nat) (hd : 1 ≤ d) (hw : 26 ≤ w) (n : Nat) : ∀ (x3 : Int) (hx3 : zrg x3) (x4 : Int) (hx4 : zrg x4) (x5 : Int) (hx5 : zrg x5) (x6 : Int) (hx6 : zrg x6) (A : zA), zG (z_M_enterPart_44_l N n x3 x4 x5 x6 A) zPV d w 196 44 [some (.inr (.inr (some 226))), none, none, some (.inl x3), some (.inl x4), some (.inl x5), some (.inl x6)] [] A := by
  induction n with
  | zero => intros; exact zG_none
  | succ n ih =>
    intro x3 hx3 x4 hx4 x5 hx5 x6 hx6 A
    exact z_M_enterPart_44_bok ih N hd hw x3 hx3 x4 hx4 x5 hx5 x6 hx6 A
theorem z_M_enterPart_44_ok{d w : Nat} (N : Nat) (hd : 1 ≤ d) (hw : 26 ≤ w) (x3 : Int) (hx3 : zrg x3) (x4 : Int) (hx4 : zrg x4) (x5 : Int) (hx5 : zrg x5) (x6 : Int) (hx6 : zrg x6) (A : zA) : zG (z_M_enterPart_44 N x3 x4 x5 x6 A) zPV d w 196 44 [some (.inr (.inr (some 226))), none, none, some (.inl x3), some (.inl x4), some (.inl x5), some (.inl x6)] [] A := z_M_enterPart_44_lok N hd hw N x3 hx3 x4 hx4 x5 hx5 x6 hx6 A
theorem z_M_enterPart_ok{d w : Nat} (N : Nat) (hd : 1 ≤ d) (hw : 26 ≤ w) (x1 : Int) (hx1 : zrg x1) (x2 : Int) (hx2 : zrg x2) (x3 : Int) (hx3 : zrg x3) (x4 : Int) (hx4 : zrg x4) (A : zA) : zG (z_M_enterPart N x1 x2 x3 x4 A) zPV d w 196 0 [some (.inr (.inr (some 226))), some (.inl x1), some (.inl x2), some (.inl x3), some (.inl x4), none, none] [] A := by
  unfold z_M_enterPart
  refine js_aload (pc1 := 1) rfl rfl rfl ?_
  refine js_gfr (pc1 := 4) (j := 60) (r := 269) rfl rfl rfl rfl rfl ?_
  refine js_aload (pc1 := 5) rfl rfl rfl ?_
  refine js_gi (pc1 := 8) (j := 62) rfl rfl rfl rfl ?_
  refine js_iload (pc1 := 9) rfl rfl rfl ?_
  refine jt_ias (pc1 := 10) rfl rfl rfl rfl (fun A1 => ?_)
  refine js_aload (pc1 := 11) rfl rfl rfl ?_
  refine js_gfr (pc1 := 14) (j := 61) (r := 270) rfl rfl rfl rfl rfl ?_
  refine js_aload (pc1 := 15) rfl rfl rfl ?_
  refine js_gi (pc1 := 18) (j := 62) rfl rfl rfl rfl ?_
  refine js_iload (pc1 := 19) rfl rfl rfl ?_
  refine jt_ias (pc1 := 20) rfl rfl rfl rfl (fun A2 => ?_)
  refine js_aload (pc1 := 21) rfl rfl rfl ?_
  refine js_dupR (pc1 := 22) rfl rfl ?_
  refine js_gi (pc1 := 25) (j := 62) rfl rfl rfl rfl ?_
  refine js_iconst (pc1 := 26) rfl rfl ?_
  refine js_iadd (pc1 := 27) rfl rfl ?_
  refine jt_pi (pc1 := 30) (j := 62) rfl rfl rfl rfl rfl (fun A3 => ?_)
  refine js_aload (pc1 := 31) rfl rfl rfl ?_
  refine js_iconst (pc1 := 32) rfl rfl ?_
  refine js_iconst (pc1 := 33) rfl rfl ?_
  refine js_iconst (pc1 := 34) rfl rfl ?_
  refine js_iconst (pc1 := 35) rfl rfl ?_
  refine js_cI (pc1 := 38) (as := [(.inr (.inr (some 226))), (.inl 0), (.inl 0), (.inl 0), (.inl 0)]) (S0 := []) (m := 7) (L0 := [some (.inr (.inr (some 226))), some (.inl 0), some (.inl 0), some (.inl 0), some (.inl 0), none, none]) rfl rfl rfl rfl rfl rfl rfl rfl (zrc_o rfl rfl) (by omega) (by omega) (z_M_thing_ok N (by omega) (by omega) 0 (zlit rfl) 0 (zlit rfl) 0 (zlit rfl) 0 (zlit rfl) A3) (fun v4 A5 _ hv4 => ?_)
  refine js_istore (pc1 := 40) (L1 := [some (.inr (.inr (some 226))), some (.inl x1), some (.inl x2), some (.inl x3), some (.inl x4), some (.inl v4), none]) rfl rfl rfl rfl ?_
  refine js_iconst (pc1 := 42) rfl rfl ?_
  refine js_istore (pc1 := 44) (L1 := [some (.inr (.inr (some 226))), some (.inl x1), some (.inl x2), some (.inl x3), some (.inl x4), some (.inl v4), some (.inl 6)]) rfl rfl rfl rfl ?_
  exact zG_to (L := [some (.inr (.inr (some 226))), none, none, some (.inl x3), some (.inl x4), some (.inl v4), some (.inl 6)]) (S := []) ⟨rfl, ⟨rfl, ⟨rfl, ⟨rfl, ⟨rfl, trivial⟩⟩⟩⟩⟩ (rfl) (z_M_enterPart_44_ok N hd hw x3 hx3 x4 hx4 v4 hv4 6 (zlit rfl) A5)
theorem z_M_enterBlock_ok{d w : Nat} (N : Nat) (hd : 0 ≤ d) (hw : 0 ≤ w) (x1 : Int) (hx1 : zrg x1) (A : zA) : zG (z_M_enterBlock N x1 A) zPV d w 261 0 [some (.inr (.inr (some 226))), some (.inl x1)] [] A := by
  unfold z_M_enterBlock
  refine js_aload (pc1 := 1) rfl rfl rfl ?_
  refine js_gfr (pc1 := 4) (j := 67) (r := 271) rfl rfl rfl rfl rfl ?_
  refine js_aload (pc1 := 5) rfl rfl rfl ?_
  refine js_gi (pc1 := 8) (j := 66) rfl rfl rfl rfl ?_
  refine js_iload (pc1 := 9) rfl rfl rfl ?_
  refine jt_ias (pc1 := 10) rfl rfl rfl rfl (fun A1 => ?_)
  refine js_aload (pc1 := 11) rfl rfl rfl ?_
  refine js_gfr (pc1 := 14) (j := 69) (r := 273) rfl rfl rfl rfl rfl ?_
  refine js_aload (pc1 := 15) rfl rfl rfl ?_
  refine js_gi (pc1 := 18) (j := 66) rfl rfl rfl rfl ?_
  refine js_aload (pc1 := 19) rfl rfl rfl ?_
  refine js_gi (pc1 := 22) (j := 81) rfl rfl rfl rfl ?_
  refine jt_ias (pc1 := 23) rfl rfl rfl rfl (fun A2 => ?_)
  refine js_aload (pc1 := 24) rfl rfl rfl ?_
  refine js_dupR (pc1 := 25) rfl rfl ?_
  refine js_gi (pc1 := 28) (j := 66) rfl rfl rfl rfl ?_
  refine js_iconst (pc1 := 29) rfl rfl ?_
  refine js_iadd (pc1 := 30) rfl rfl ?_
  refine jt_pi (pc1 := 33) (j := 66) rfl rfl rfl rfl rfl (fun A3 => ?_)
  exact je_V rfl
theorem z_M_lay_276_2_bok{d w : Nat} {r2 : Int → zA → Option zA} (hr2 : ∀ (x2 : Int) (hx2 : zrg x2) (A : zA), zG (r2 x2 A) zPV d w 202 2 [some (.inr (.inr (some 226))), some (.inr (.inr (some 276))), some (.inl x2)] [] A) (N : Nat) (hd : 1 ≤ d) (hw : 21 ≤ w) (x2 : Int) (hx2 : zrg x2) (A : zA) : zG (z_M_lay_276_2_b r2 N x2 A) zPV d w 202 2 [some (.inr (.inr (some 226))), some (.inr (.inr (some 276))), some (.inl x2)] [] A := by
  unfold z_M_lay_276_2_b
  refine js_iload (pc1 := 3) rfl rfl rfl ?_
  refine js_iconst (pc1 := 5) rfl rfl ?_
  refine jt_ge (pc1 := 8) (t1 := 32) hx2 (zlit rfl) rfl rfl rfl (fun c1 => ?_) (fun c1 => ?_)
  · refine js_aload (pc1 := 9) rfl rfl rfl ?_
    refine js_iconst (pc1 := 11) rfl rfl ?_
    refine js_aload (pc1 := 12) rfl rfl rfl ?_
    refine js_gi (pc1 := 15) (j := 66) rfl rfl rfl rfl ?_
    refine js_iconst (pc1 := 16) rfl rfl ?_
    refine js_isub (pc1 := 17) rfl rfl ?_
    refine js_imul (pc1 := 18) rfl rfl ?_
    refine js_iload (pc1 := 19) rfl rfl rfl ?_
    refine js_iadd (pc1 := 20) rfl rfl ?_
    refine js_aload (pc1 := 21) rfl rfl rfl ?_
    refine js_iload (pc1 := 22) rfl rfl rfl ?_
    refine js_cP (pc1 := 25) (as := [(.inr (.inr (some 226))), (.inl x2)]) (S0 := [(.inl ((61 * ((zi A 226 66) - 1)) + x2)), (.inr (.inr (some 276)))]) (m := 2) (L0 := [some (.inr (.inr (some 226))), some (.inl x2)]) rfl rfl rfl rfl rfl rfl rfl rfl (zrc_o rfl rfl) (by omega) (by omega) (z_M_get_ok N (by omega) (by omega) x2 hx2 A) (fun v2 _ hv2 => ?_)
    refine jt_ias (pc1 := 26) rfl rfl rfl rfl (fun A3 => ?_)
    refine js_iinc (pc1 := 29) (L1 := [some (.inr (.inr (some 226))), some (.inr (.inr (some 276))), some (.inl (x2 + 1))]) rfl rfl rfl rfl ?_
    refine js_goto (t1 := 2) rfl rfl ?_
    exact zG_to (L := [some (.inr (.inr (some 226))), some (.inr (.inr (some 276))), some (.inl (zw (x2 + 1)))]) (S := []) ⟨rfl, ⟨rfl, ⟨zval_w (x2 + 1), trivial⟩⟩⟩ (rfl) (hr2 (zw (x2 + 1)) (zw_rg (x2 + 1)) A3)
  · exact je_V rfl
theorem z_M_lay_276_2_lok{d w : Nat} (N : Nat) (hd : 1 ≤ d) (hw : 21 ≤ w) (n : Nat) : ∀ (x2 : Int) (hx2 : zrg x2) (A : zA), zG (z_M_lay_276_2_l N n x2 A) zPV d w 202 2 [some (.inr (.inr (some 226))), some (.inr (.inr (some 276))), some (.inl x2)] [] A := by
  induction n with
  | zero => intros; exact zG_none
  | succ n ih =>
    intro x2 hx2 A
    exact z_M_lay_276_2_bok ih N hd hw x2 hx2 A
theorem z_M_lay_276_2_ok{d w : Nat} (N : Nat) (hd : 1 ≤ d) (hw : 21 ≤ w) (x2 : Int) (hx2 : zrg x2) (A : zA) : zG (z_M_lay_276_2 N x2 A) zPV d w 202 2 [some (.inr (.inr (some 226))), some (.inr (.inr (some 276))), some (.inl x2)] [] A := z_M_lay_276_2_lok N hd hw N x2 hx2 A
theorem z_M_lay_276_ok{d w : Nat} (N : Nat) (hd : 1 ≤ d) (hw : 21 ≤ w) (A : zA) : zG (z_M_lay_276 N A) zPV d w 202 0 [some (.inr (.inr (some 226))), some (.inr (.inr (some 276))), none] [] A := by
  unfold z_M_lay_276
  refine js_iconst (pc1 := 1) rfl rfl ?_
  refine js_istore (pc1 := 2) (L1 := [some (.inr (.inr (some 226))), some (.inr (.inr (some 276))), some (.inl 0)]) rfl rfl rfl rfl ?_
  exact z_M_lay_276_2_ok N hd hw 0 (zlit rfl) A
theorem z_M_lay_277_2_bok{d w : Nat} {r2 : Int → zA → Option zA} (hr2 : ∀ (x2 : Int) (hx2 : zrg x2) (A : zA), zG (r2 x2 A) zPV d w 202 2 [some (.inr (.inr (some 226))), some (.inr (.inr (some 277))), some (.inl x2)] [] A) (N : Nat) (hd : 1 ≤ d) (hw : 21 ≤ w) (x2 : Int) (hx2 : zrg x2) (A : zA) : zG (z_M_lay_277_2_b r2 N x2 A) zPV d w 202 2 [some (.inr (.inr (some 226))), some (.inr (.inr (some 277))), some (.inl x2)] [] A := by
  unfold z_M_lay_277_2_b
  refine js_iload (pc1 := 3) rfl rfl rfl ?_
  refine js_iconst (pc1 := 5) rfl rfl ?_
  refine jt_ge (pc1 := 8) (t1 := 32) hx2 (zlit rfl) rfl rfl rfl (fun c1 => ?_) (fun c1 => ?_)
  · refine js_aload (pc1 := 9) rfl rfl rfl ?_
    refine js_iconst (pc1 := 11) rfl rfl ?_
    refine js_aload (pc1 := 12) rfl rfl rfl ?_
    refine js_gi (pc1 := 15) (j := 66) rfl rfl rfl rfl ?_
    refine js_iconst (pc1 := 16) rfl rfl ?_
    refine js_isub (pc1 := 17) rfl rfl ?_
    refine js_imul (pc1 := 18) rfl rfl ?_
    refine js_iload (pc1 := 19) rfl rfl rfl ?_
    refine js_iadd (pc1 := 20) rfl rfl ?_
    refine js_aload (pc1 := 21) rfl rfl rfl ?_
    refine js_iload (pc1 := 22) rfl rfl rfl ?_
    refine js_cP (pc1 := 25) (as := [(.inr (.inr (some 226))), (.inl x2)]) (S0 := [(.inl ((61 * ((zi A 226 66) - 1)) + x2)), (.inr (.inr (some 277)))]) (m := 2) (L0 := [some (.inr (.inr (some 226))), some (.inl x2)]) rfl rfl rfl rfl rfl rfl rfl rfl (zrc_o rfl rfl) (by omega) (by omega) (z_M_get_ok N (by omega) (by omega) x2 hx2 A) (fun v2 _ hv2 => ?_)
    refine jt_ias (pc1 := 26) rfl rfl rfl rfl (fun A3 => ?_)
    refine js_iinc (pc1 := 29) (L1 := [some (.inr (.inr (some 226))), some (.inr (.inr (some 277))), some (.inl (x2 + 1))]) rfl rfl rfl rfl ?_
    refine js_goto (t1 := 2) rfl rfl ?_
    exact zG_to (L := [some (.inr (.inr (some 226))), some (.inr (.inr (some 277))), some (.inl (zw (x2 + 1)))]) (S := []) ⟨rfl, ⟨rfl, ⟨zval_w (x2 + 1), trivial⟩⟩⟩ (rfl) (hr2 (zw (x2 + 1)) (zw_rg (x2 + 1)) A3)
  · exact je_V rfl
theorem z_M_lay_277_2_lok{d w : Nat} (N : Nat) (hd : 1 ≤ d) (hw : 21 ≤ w) (n : Nat) : ∀ (x2 : Int) (hx2 : zrg x2) (A : zA), zG (z_M_lay_277_2_l N n x2 A) zPV d w 202 2 [some (.inr (.inr (some 226))), some (.inr (.inr (some 277))), some (.inl x2)] [] A := by
  induction n with
  | zero => intros; exact zG_none
  | succ n ih =>
    intro x2 hx2 A
    exact z_M_lay_277_2_bok ih N hd hw x2 hx2 A
theorem z_M_lay_277_2_ok{d w : Nat} (N : Nat) (hd : 1 ≤ d) (hw : 21 ≤ w) (x2 : Int) (hx2 : zrg x2) (A : zA) : zG (z_M_lay_277_2 N x2 A) zPV d w 202 2 [some (.inr (.inr (some 226))), some (.inr (.inr (some 277))), some (.inl x2)] [] A := z_M_lay_277_2_lok N hd hw N x2 hx2 A
theorem z_M_lay_277_ok{d w : Nat} (N : Nat) (hd : 1 ≤ d) (hw : 21 ≤ w) (A : zA) : zG (z_M_lay_277 N A) zPV d w 202 0 [some (.inr (.inr (some 226))), some (.inr (.inr (some 277))), none] [] A := by
  unfold z_M_lay_277
  refine js_iconst (pc1 := 1) rfl rfl ?_
  refine js_istore (pc1 := 2) (L1 := [some (.inr (.inr (some 226))), some (.inr (.inr (some 277))), some (.inl 0)]) rfl rfl rfl rfl ?_
  exact z_M_lay_277_2_ok N hd hw 0 (zlit rfl) A
theorem z_M_lay_278_2_bok{d w : Nat} {r2 : Int → zA → Option zA} (hr2 : ∀ (x2 : Int) (hx2 : zrg x2) (A : zA), zG (r2 x2 A) zPV d w 202 2 [some (.inr (.inr (some 226))), some (.inr (.inr (some 278))), some (.inl x2)] [] A) (N : Nat) (hd : 1 ≤ d) (hw : 21 ≤ w) (x2 : Int) (hx2 : zrg x2) (A : zA) : zG (z_M_lay_278_2_b r2 N x2 A) zPV d w 202 2 [some (.inr (.inr (some 226))), some (.inr (.inr (some 278))), some (.inl x2)] [] A := by
  unfold z_M_lay_278_2_b
  refine js_iload (pc1 := 3) rfl rfl rfl ?_
  refine js_iconst (pc1 := 5) rfl rfl ?_
  refine jt_ge (pc1 := 8) (t1 := 32) hx2 (zlit rfl) rfl rfl rfl (fun c1 => ?_) (fun c1 => ?_)
  · refine js_aload (pc1 := 9) rfl rfl rfl ?_
    refine js_iconst (pc1 := 11) rfl rfl ?_
    refine js_aload (pc1 := 12) rfl rfl rfl ?_
    refine js_gi (pc1 := 15) (j := 66) rfl rfl rfl rfl ?_
    refine js_iconst (pc1 := 16) rfl rfl ?_
    refine js_isub (pc1 := 17) rfl rfl ?_
    refine js_imul (pc1 := 18) rfl rfl ?_
    refine js_iload (pc1 := 19) rfl rfl rfl ?_
    refine js_iadd (pc1 := 20) rfl rfl ?_
    refine js_aload (pc1 := 21) rfl rfl rfl ?_
    refine js_iload (pc1 := 22) rfl rfl rfl ?_
    refine js_cP (pc1 := 25) (as := [(.inr (.inr (some 226))), (.inl x2)]) (S0 := [(.inl ((61 * ((zi A 226 66) - 1)) + x2)), (.inr (.inr (some 278)))]) (m := 2) (L0 := [some (.inr (.inr (some 226))), some (.inl x2)]) rfl rfl rfl rfl rfl rfl rfl rfl (zrc_o rfl rfl) (by omega) (by omega) (z_M_get_ok N (by omega) (by omega) x2 hx2 A) (fun v2 _ hv2 => ?_)
    refine jt_ias (pc1 := 26) rfl rfl rfl rfl (fun A3 => ?_)
    refine js_iinc (pc1 := 29) (L1 := [some (.inr (.inr (some 226))), some (.inr (.inr (some 278))), some (.inl (x2 + 1))]) rfl rfl rfl rfl ?_
    refine js_goto (t1 := 2) rfl rfl ?_
    exact zG_to (L := [some (.inr (.inr (some 226))), some (.inr (.inr (some 278))), some (.inl (zw (x2 + 1)))]) (S := []) ⟨rfl, ⟨rfl, ⟨zval_w (x2 + 1), trivial⟩⟩⟩ (rfl) (hr2 (zw (x2 + 1)) (zw_rg (x2 + 1)) A3)
  · exact je_V rfl
theorem z_M_lay_278_2_lok{d w : Nat} (N : Nat) (hd : 1 ≤ d) (hw : 21 ≤ w) (n : Nat) : ∀ (x2 : Int) (hx2 : zrg x2) (A : zA), zG (z_M_lay_278_2_l N n x2 A) zPV d w 202 2 [some (.inr (.inr (some 226))), some (.inr (.inr (some 278))), some (.inl x2)] [] A := by
  induction n with
  | zero => intros; exact zG_none
  | succ n ih =>
    intro x2 hx2 A
    exact z_M_lay_278_2_bok ih N hd hw x2 hx2 A
theorem z_M_lay_278_2_ok{d w : Nat} (N : Nat) (hd : 1 ≤ d) (hw : 21 ≤ w) (x2 : Int) (hx2 : zrg x2) (A : zA) : zG (z_M_lay_278_2 N x2 A) zPV d w 202 2 [some (.inr (.inr (some 226))), some (.inr (.inr (some 278))), some (.inl x2)] [] A := z_M_lay_278_2_lok N hd hw N x2 hx2 A
theorem z_M_lay_278_ok{d w : Nat} (N : Nat) (hd : 1 ≤ d) (hw : 21 ≤ w) (A : zA) : zG (z_M_lay_278 N A) zPV d w 202 0 [some (.inr (.inr (some 226))), some (.inr (.inr (some 278))), none] [] A := by
  unfold z_M_lay_278
  refine js_iconst (pc1 := 1) rfl rfl ?_
  refine js_istore (pc1 := 2) (L1 := [some (.inr (.inr (some 226))), some (.inr (.inr (some 278))), some (.inl 0)]) rfl rfl rfl rfl ?_
  exact z_M_lay_278_2_ok N hd hw 0 (zlit rfl) A
theorem z_M_choose_ok{d w : Nat} (N : Nat) (hd : 2 ≤ d) (hw : 43 ≤ w) (x1 : Int) (hx1 : zrg x1) (x2 : Int) (hx2 : zrg x2) (x3 : Int) (hx3 : zrg x3) (x4 : Int) (hx4 : zrg x4) (A : zA) : zG (z_M_choose N x1 x2 x3 x4 A) zPI d w 197 0 [some (.inr (.inr (some 226))), some (.inl x1), some (.inl x2), some (.inl x3), some (.inl x4)] [] A := by
  unfold z_M_choose
  refine js_aload (pc1 := 1) rfl rfl rfl ?_
  refine js_iload (pc1 := 3) rfl rfl rfl ?_
  refine js_cP (pc1 := 6) (as := [(.inr (.inr (some 226))), (.inl x4)]) (S0 := []) (m := 2) (L0 := [some (.inr (.inr (some 226))), some (.inl x4)]) rfl rfl rfl rfl rfl rfl rfl rfl (zrc_o rfl rfl) (by omega) (by omega) (z_M_isNumber_ok N (by omega) (by omega) x4 hx4 A) (fun v1 _ hv1 => ?_)
  refine ju_eq (pc1 := 9) (t1 := 45) hv1 rfl rfl rfl (fun c2 => ?_) (fun c2 => ?_)
  · refine js_aload (pc1 := 46) rfl rfl rfl ?_
    refine js_iload (pc1 := 47) rfl rfl rfl ?_
    refine js_iconst (pc1 := 49) rfl rfl ?_
    refine js_cV (pc1 := 52) (as := [(.inr (.inr (some 226))), (.inl x1), (.inl (-5))]) (S0 := []) (m := 3) (L0 := [some (.inr (.inr (some 226))), some (.inl x1), some (.inl (-5))]) rfl rfl rfl rfl rfl rfl rfl rfl (zrc_o rfl rfl) (by omega) (by omega) (z_M_says_ok N (by omega) (by omega) x1 hx1 (-5) (zlit rfl) A) (fun A3 _ => ?_)
    refine js_aload (pc1 := 53) rfl rfl rfl ?_
    refine js_iload (pc1 := 54) rfl rfl rfl ?_
    refine js_iload (pc1 := 56) rfl rfl rfl ?_
    refine js_cV (pc1 := 59) (as := [(.inr (.inr (some 226))), (.inl x1), (.inl x4)]) (S0 := []) (m := 3) (L0 := [some (.inr (.inr (some 226))), some (.inl x1), some (.inl x4)]) rfl rfl rfl rfl rfl rfl rfl rfl (zrc_o rfl rfl) (by omega) (by omega) (z_M_says_ok N (by omega) (by omega) x1 hx1 x4 hx4 A3) (fun A4 _ => ?_)
    refine js_aload (pc1 := 60) rfl rfl rfl ?_
    refine js_gfr (pc1 := 63) (j := 68) (r := 272) rfl rfl rfl rfl rfl ?_
    refine js_aload (pc1 := 64) rfl rfl rfl ?_
    refine js_gi (pc1 := 67) (j := 66) rfl rfl rfl rfl ?_
    refine js_iload (pc1 := 69) rfl rfl rfl ?_
    refine jt_ias (pc1 := 70) rfl rfl rfl rfl (fun A5 => ?_)
    refine js_aload (pc1 := 71) rfl rfl rfl ?_
    refine js_iconst (pc1 := 72) rfl rfl ?_
    refine js_cV (pc1 := 75) (as := [(.inr (.inr (some 226))), (.inl 1)]) (S0 := []) (m := 2) (L0 := [some (.inr (.inr (some 226))), some (.inl 1)]) rfl rfl rfl rfl rfl rfl rfl rfl (zrc_o rfl rfl) (by omega) (by omega) (z_M_enterBlock_ok N (by omega) (by omega) 1 (zlit rfl) A5) (fun A6 _ => ?_)
    refine js_aload (pc1 := 76) rfl rfl rfl ?_
    refine js_aload (pc1 := 77) rfl rfl rfl ?_
    refine js_gfr (pc1 := 80) (j := 72) (r := 276) rfl rfl rfl rfl rfl ?_
    refine js_cV (pc1 := 83) (as := [(.inr (.inr (some 226))), (.inr (.inr (some 276)))]) (S0 := []) (m := 3) (L0 := [some (.inr (.inr (some 226))), some (.inr (.inr (some 276))), none]) rfl rfl rfl rfl rfl rfl rfl rfl (zrc_o rfl rfl) (by omega) (by omega) (z_M_lay_276_ok N (by omega) (by omega) A6) (fun A7 _ => ?_)
    refine js_iload (pc1 := 84) rfl rfl rfl ?_
    refine js_iconst (pc1 := 85) rfl rfl ?_
    refine js_iadd (pc1 := 86) rfl rfl ?_
    exact je_I rfl (zfit0 _ rfl) (zval_w (x3 + 1)) (zw_rg (x3 + 1))
  · refine js_aload (pc1 := 10) rfl rfl rfl ?_
    refine js_iconst (pc1 := 11) rfl rfl ?_
    refine js_cV (pc1 := 14) (as := [(.inr (.inr (some 226))), (.inl 2)]) (S0 := []) (m := 2) (L0 := [some (.inr (.inr (some 226))), some (.inl 2)]) rfl rfl rfl rfl rfl rfl rfl rfl (zrc_o rfl rfl) (by omega) (by omega) (z_M_enterBlock_ok N (by omega) (by omega) 2 (zlit rfl) A) (fun A8 _ => ?_)
    refine js_aload (pc1 := 15) rfl rfl rfl ?_
    refine js_gfr (pc1 := 18) (j := 44) (r := 253) rfl rfl rfl rfl rfl ?_
    refine js_iload (pc1 := 20) rfl rfl rfl ?_
    refine jt_ald (pc1 := 21) rfl rfl rfl rfl rfl (fun v9 hv9 => ?_)
    refine ju_eq (pc1 := 24) (t1 := 30) hv9 rfl rfl rfl (fun c10 => ?_) (fun c10 => ?_)
    · refine js_aload (pc1 := 31) rfl rfl rfl ?_
      refine js_gfr (pc1 := 34) (j := 9) (r := 231) rfl rfl rfl rfl rfl ?_
      refine js_iconst (pc1 := 37) rfl rfl ?_
      refine js_iload (pc1 := 38) rfl rfl rfl ?_
      refine js_imul (pc1 := 39) rfl rfl ?_
      refine js_iload (pc1 := 40) rfl rfl rfl ?_
      refine js_iadd (pc1 := 41) rfl rfl ?_
      refine jt_ald (pc1 := 42) rfl rfl rfl rfl rfl (fun v11 hv11 => ?_)
      refine js_iconst (pc1 := 43) rfl rfl ?_
      refine js_iadd (pc1 := 44) rfl rfl ?_
      exact je_I rfl (zfit0 _ rfl) (zval_w (v11 + 1)) (zw_rg (v11 + 1))
    · refine js_iload (pc1 := 25) rfl rfl rfl ?_
      refine js_iconst (pc1 := 26) rfl rfl ?_
      refine js_iadd (pc1 := 27) rfl rfl ?_
      refine js_goto (t1 := 44) rfl rfl ?_
      exact je_I rfl (zfit0 _ rfl) (zval_w (x3 + 1)) (zw_rg (x3 + 1))
theorem z_M_takeUp_276_2_bok{d w : Nat} {r2 : Int → zA → Option zA} (hr2 : ∀ (x2 : Int) (hx2 : zrg x2) (A : zA), zG (r2 x2 A) zPV d w 262 2 [some (.inr (.inr (some 226))), some (.inr (.inr (some 276))), some (.inl x2)] [] A) (N : Nat) (hd : 1 ≤ d) (hw : 22 ≤ w) (x2 : Int) (hx2 : zrg x2) (A : zA) : zG (z_M_takeUp_276_2_b r2 N x2 A) zPV d w 262 2 [some (.inr (.inr (some 226))), some (.inr (.inr (some 276))), some (.inl x2)] [] A := by
  unfold z_M_takeUp_276_2_b
  refine js_iload (pc1 := 3) rfl rfl rfl ?_
  refine js_iconst (pc1 := 5) rfl rfl ?_
  refine jt_ge (pc1 := 8) (t1 := 32) hx2 (zlit rfl) rfl rfl rfl (fun c1 => ?_) (fun c1 => ?_)
  · refine js_aload (pc1 := 9) rfl rfl rfl ?_
    refine js_iload (pc1 := 10) rfl rfl rfl ?_
    refine js_aload (pc1 := 11) rfl rfl rfl ?_
    refine js_iconst (pc1 := 13) rfl rfl ?_
    refine js_aload (pc1 := 14) rfl rfl rfl ?_
    refine js_gi (pc1 := 17) (j := 66) rfl rfl rfl rfl ?_
    refine js_iconst (pc1 := 18) rfl rfl ?_
    refine js_isub (pc1 := 19) rfl rfl ?_
    refine js_imul (pc1 := 20) rfl rfl ?_
    refine js_iload (pc1 := 21) rfl rfl rfl ?_
    refine js_iadd (pc1 := 22) rfl rfl ?_
    refine jt_ald (pc1 := 23) rfl rfl rfl rfl rfl (fun v2 hv2 => ?_)
    refine js_cV (pc1 := 26) (as := [(.inr (.inr (some 226))), (.inl x2), (.inl v2)]) (S0 := []) (m := 3) (L0 := [some (.inr (.inr (some 226))), some (.inl x2), some (.inl v2)]) rfl rfl rfl rfl rfl rfl rfl rfl (zrc_o rfl rfl) (by omega) (by omega) (z_M_set_ok N (by omega) (by omega) x2 hx2 v2 hv2 A) (fun A3 _ => ?_)
    refine js_iinc (pc1 := 29) (L1 := [some (.inr (.inr (some 226))), some (.inr (.inr (some 276))), some (.inl (x2 + 1))]) rfl rfl rfl rfl ?_
    refine js_goto (t1 := 2) rfl rfl ?_
    exact zG_to (L := [some (.inr (.inr (some 226))), some (.inr (.inr (some 276))), some (.inl (zw (x2 + 1)))]) (S := []) ⟨rfl, ⟨rfl, ⟨zval_w (x2 + 1), trivial⟩⟩⟩ (rfl) (hr2 (zw (x2 + 1)) (zw_rg (x2 + 1)) A3)
  · exact je_V rfl
theorem z_M_takeUp_276_2_lok{d w : Nat} (N : Nat) (hd : 1 ≤ d) (hw : 22 ≤ w) (n : Nat) : ∀ (x2 : Int) (hx2 : zrg x2) (A : zA), zG (z_M_takeUp_276_2_l N n x2 A) zPV d w 262 2 [some (.inr (.inr (some 226))), some (.inr (.inr (some 276))), some (.inl x2)] [] A := by
  induction n with
  | zero => intros; exact zG_none
  | succ n ih =>
    intro x2 hx2 A
    exact z_M_takeUp_276_2_bok ih N hd hw x2 hx2 A
theorem z_M_takeUp_276_2_ok{d w : Nat} (N : Nat) (hd : 1 ≤ d) (hw : 22 ≤ w) (x2 : Int) (hx2 : zrg x2) (A : zA) : zG (z_M_takeUp_276_2 N x2 A) zPV d w 262 2 [some (.inr (.inr (some 226))), some (.inr (.inr (some 276))), some (.inl x2)] [] A := z_M_takeUp_276_2_lok N hd hw N x2 hx2 A
theorem z_M_takeUp_276_ok{d w : Nat} (N : Nat) (hd : 1 ≤ d) (hw : 22 ≤ w) (A : zA) : zG (z_M_takeUp_276 N A) zPV d w 262 0 [some (.inr (.inr (some 226))), some (.inr (.inr (some 276))), none] [] A := by
  unfold z_M_takeUp_276
  refine js_iconst (pc1 := 1) rfl rfl ?_
  refine js_istore (pc1 := 2) (L1 := [some (.inr (.inr (some 226))), some (.inr (.inr (some 276))), some (.inl 0)]) rfl rfl rfl rfl ?_
  exact z_M_takeUp_276_2_ok N hd hw 0 (zlit rfl) A
theorem z_M_takeUp_278_2_bok{d w : Nat} {r2 : Int → zA → Option zA} (hr2 : ∀ (x2 : Int) (hx2 : zrg x2) (A : zA), zG (r2 x2 A) zPV d w 262 2 [some (.inr (.inr (some 226))), some (.inr (.inr (some 278))), some (.inl x2)] [] A) (N : Nat) (hd : 1 ≤ d) (hw : 22 ≤ w) (x2 : Int) (hx2 : zrg x2) (A : zA) : zG (z_M_takeUp_278_2_b r2 N x2 A) zPV d w 262 2 [some (.inr (.inr (some 226))), some (.inr (.inr (some 278))), some (.inl x2)] [] A := by
  unfold z_M_takeUp_278_2_b
  refine js_iload (pc1 := 3) rfl rfl rfl ?_
  refine js_iconst (pc1 := 5) rfl rfl ?_
  refine jt_ge (pc1 := 8) (t1 := 32) hx2 (zlit rfl) rfl rfl rfl (fun c1 => ?_) (fun c1 => ?_)
  · refine js_aload (pc1 := 9) rfl rfl rfl ?_
    refine js_iload (pc1 := 10) rfl rfl rfl ?_
    refine js_aload (pc1 := 11) rfl rfl rfl ?_
    refine js_iconst (pc1 := 13) rfl rfl ?_
    refine js_aload (pc1 := 14) rfl rfl rfl ?_
    refine js_gi (pc1 := 17) (j := 66) rfl rfl rfl rfl ?_
    refine js_iconst (pc1 := 18) rfl rfl ?_
    refine js_isub (pc1 := 19) rfl rfl ?_
    refine js_imul (pc1 := 20) rfl rfl ?_
    refine js_iload (pc1 := 21) rfl rfl rfl ?_
    refine js_iadd (pc1 := 22) rfl rfl ?_
    refine jt_ald (pc1 := 23) rfl rfl rfl rfl rfl (fun v2 hv2 => ?_)
    refine js_cV (pc1 := 26) (as := [(.inr (.inr (some 226))), (.inl x2), (.inl v2)]) (S0 := []) (m := 3) (L0 := [some (.inr (.inr (some 226))), some (.inl x2), some (.inl v2)]) rfl rfl rfl rfl rfl rfl rfl rfl (zrc_o rfl rfl) (by omega) (by omega) (z_M_set_ok N (by omega) (by omega) x2 hx2 v2 hv2 A) (fun A3 _ => ?_)
    refine js_iinc (pc1 := 29) (L1 := [some (.inr (.inr (some 226))), some (.inr (.inr (some 278))), some (.inl (x2 + 1))]) rfl rfl rfl rfl ?_
    refine js_goto (t1 := 2) rfl rfl ?_
    exact zG_to (L := [some (.inr (.inr (some 226))), some (.inr (.inr (some 278))), some (.inl (zw (x2 + 1)))]) (S := []) ⟨rfl, ⟨rfl, ⟨zval_w (x2 + 1), trivial⟩⟩⟩ (rfl) (hr2 (zw (x2 + 1)) (zw_rg (x2 + 1)) A3)
  · exact je_V rfl
theorem z_M_takeUp_278_2_lok{d w : Nat} (N : Nat) (hd : 1 ≤ d) (hw : 22 ≤ w) (n : Nat) : ∀ (x2 : Int) (hx2 : zrg x2) (A : zA), zG (z_M_takeUp_278_2_l N n x2 A) zPV d w 262 2 [some (.inr (.inr (some 226))), some (.inr (.inr (some 278))), some (.inl x2)] [] A := by
  induction n with
  | zero => intros; exact zG_none
  | succ n ih =>
    intro x2 hx2 A
    exact z_M_takeUp_278_2_bok ih N hd hw x2 hx2 A
theorem z_M_takeUp_278_2_ok{d w : Nat} (N : Nat) (hd : 1 ≤ d) (hw : 22 ≤ w) (x2 : Int) (hx2 : zrg x2) (A : zA) : zG (z_M_takeUp_278_2 N x2 A) zPV d w 262 2 [some (.inr (.inr (some 226))), some (.inr (.inr (some 278))), some (.inl x2)] [] A := z_M_takeUp_278_2_lok N hd hw N x2 hx2 A
theorem z_M_takeUp_278_ok{d w : Nat} (N : Nat) (hd : 1 ≤ d) (hw : 22 ≤ w) (A : zA) : zG (z_M_takeUp_278 N A) zPV d w 262 0 [some (.inr (.inr (some 226))), some (.inr (.inr (some 278))), none] [] A := by
  unfold z_M_takeUp_278
  refine js_iconst (pc1 := 1) rfl rfl ?_
  refine js_istore (pc1 := 2) (L1 := [some (.inr (.inr (some 226))), some (.inr (.inr (some 278))), some (.inl 0)]) rfl rfl rfl rfl ?_
  exact z_M_takeUp_278_2_ok N hd hw 0 (zlit rfl) A
theorem z_M_other_ok{d w : Nat} (N : Nat) (hd : 2 ≤ d) (hw : 44 ≤ w) (x1 : Int) (hx1 : zrg x1) (x2 : Int) (hx2 : zrg x2) (x3 : Int) (hx3 : zrg x3) (A : zA) : zG (z_M_other N x1 x2 x3 A) zPI d w 198 0 [some (.inr (.inr (some 226))), some (.inl x1), some (.inl x2), some (.inl x3)] [] A := by
  unfold z_M_other
  refine js_aload (pc1 := 1) rfl rfl rfl ?_
  refine js_gfr (pc1 := 4) (j := 67) (r := 271) rfl rfl rfl rfl rfl ?_
  refine js_aload (pc1 := 5) rfl rfl rfl ?_
  refine js_gi (pc1 := 8) (j := 66) rfl rfl rfl rfl ?_
  refine js_iconst (pc1 := 9) rfl rfl ?_
  refine js_isub (pc1 := 10) rfl rfl ?_
  refine jt_ald (pc1 := 11) rfl rfl rfl rfl rfl (fun v1 hv1 => ?_)
  refine js_iconst (pc1 := 12) rfl rfl ?_
  refine jt_ne (pc1 := 15) (t1 := 28) hv1 (zlit rfl) rfl rfl rfl (fun c2 => ?_) (fun c2 => ?_)
  · refine js_aload (pc1 := 16) rfl rfl rfl ?_
    refine js_gfr (pc1 := 19) (j := 9) (r := 231) rfl rfl rfl rfl rfl ?_
    refine js_iconst (pc1 := 22) rfl rfl ?_
    refine js_iload (pc1 := 23) rfl rfl rfl ?_
    refine js_imul (pc1 := 24) rfl rfl ?_
    refine js_iload (pc1 := 25) rfl rfl rfl ?_
    refine js_iadd (pc1 := 26) rfl rfl ?_
    refine jt_ald (pc1 := 27) rfl rfl rfl rfl rfl (fun v3 hv3 => ?_)
    exact je_I rfl (zfit0 _ rfl) rfl hv3
  · refine js_aload (pc1 := 29) rfl rfl rfl ?_
    refine js_iload (pc1 := 30) rfl rfl rfl ?_
    refine js_iconst (pc1 := 32) rfl rfl ?_
    refine js_cV (pc1 := 35) (as := [(.inr (.inr (some 226))), (.inl x1), (.inl (-6))]) (S0 := []) (m := 3) (L0 := [some (.inr (.inr (some 226))), some (.inl x1), some (.inl (-6))]) rfl rfl rfl rfl rfl rfl rfl rfl (zrc_o rfl rfl) (by omega) (by omega) (z_M_says_ok N (by omega) (by omega) x1 hx1 (-6) (zlit rfl) A) (fun A4 _ => ?_)
    refine js_aload (pc1 := 36) rfl rfl rfl ?_
    refine js_aload (pc1 := 37) rfl rfl rfl ?_
    refine js_gfr (pc1 := 40) (j := 69) (r := 273) rfl rfl rfl rfl rfl ?_
    refine js_aload (pc1 := 41) rfl rfl rfl ?_
    refine js_gi (pc1 := 44) (j := 66) rfl rfl rfl rfl ?_
    refine js_iconst (pc1 := 45) rfl rfl ?_
    refine js_isub (pc1 := 46) rfl rfl ?_
    refine jt_ald (pc1 := 47) rfl rfl rfl rfl rfl (fun v5 hv5 => ?_)
    refine jt_pi (pc1 := 50) (j := 81) rfl rfl rfl rfl rfl (fun A6 => ?_)
    refine js_aload (pc1 := 51) rfl rfl rfl ?_
    refine js_aload (pc1 := 52) rfl rfl rfl ?_
    refine js_gfr (pc1 := 55) (j := 73) (r := 277) rfl rfl rfl rfl rfl ?_
    refine js_cV (pc1 := 58) (as := [(.inr (.inr (some 226))), (.inr (.inr (some 277)))]) (S0 := []) (m := 3) (L0 := [some (.inr (.inr (some 226))), some (.inr (.inr (some 277))), none]) rfl rfl rfl rfl rfl rfl rfl rfl (zrc_o rfl rfl) (by omega) (by omega) (z_M_lay_277_ok N (by omega) (by omega) A6) (fun A7 _ => ?_)
    refine js_aload (pc1 := 59) rfl rfl rfl ?_
    refine js_aload (pc1 := 60) rfl rfl rfl ?_
    refine js_gfr (pc1 := 63) (j := 72) (r := 276) rfl rfl rfl rfl rfl ?_
    refine js_cV (pc1 := 66) (as := [(.inr (.inr (some 226))), (.inr (.inr (some 276)))]) (S0 := []) (m := 3) (L0 := [some (.inr (.inr (some 226))), some (.inr (.inr (some 276))), none]) rfl rfl rfl rfl rfl rfl rfl rfl (zrc_o rfl rfl) (by omega) (by omega) (z_M_takeUp_276_ok N (by omega) (by omega) A7) (fun A8 _ => ?_)
    refine js_iload (pc1 := 67) rfl rfl rfl ?_
    refine js_iconst (pc1 := 68) rfl rfl ?_
    refine js_iadd (pc1 := 69) rfl rfl ?_
    exact je_I rfl (zfit0 _ rfl) (zval_w (x3 + 1)) (zw_rg (x3 + 1))
theorem z_M_circles_ok{d w : Nat} (N : Nat) (hd : 0 ≤ d) (hw : 0 ≤ w) (x1 : Int) (hx1 : zrg x1) (A : zA) : zG (z_M_circles N x1 A) (zPp A) d w 296 0 [some (.inr (.inr (some 226))), some (.inl x1)] [] A := by
  unfold z_M_circles
  refine js_aload (pc1 := 1) rfl rfl rfl ?_
  refine js_gfr (pc1 := 4) (j := 75) (r := 279) rfl rfl rfl rfl rfl ?_
  refine js_aload (pc1 := 5) rfl rfl rfl ?_
  refine js_gi (pc1 := 8) (j := 66) rfl rfl rfl rfl ?_
  refine js_iconst (pc1 := 9) rfl rfl ?_
  refine js_isub (pc1 := 10) rfl rfl ?_
  refine jt_lald (pc1 := 11) rfl rfl rfl (fun v1 => ?_)
  refine js_iload (pc1 := 12) rfl rfl rfl ?_
  refine js_lshr (pc1 := 13) rfl rfl ?_
  refine js_ldc2 (pc1 := 14) rfl rfl ?_
  refine js_land (pc1 := 15) rfl rfl ?_
  refine js_ldc2 (pc1 := 16) rfl rfl ?_
  refine js_lcmp (pc1 := 17) rfl rfl ?_
  refine ju_ne (pc1 := 20) (t1 := 24) (zt_rg _) rfl rfl rfl (fun c2 => ?_) (fun c2 => ?_)
  · refine js_iconst (pc1 := 21) rfl rfl ?_
    refine js_goto (t1 := 25) rfl rfl ?_
    exact je_P rfl (zfit3 rfl (Or.inr rfl)) rfl (zlit rfl)
  · refine js_iconst (pc1 := 25) rfl rfl ?_
    exact je_P rfl (zfit3 rfl (Or.inl rfl)) rfl (zlit rfl)
theorem z_M_giveBack_0_bok{d w : Nat} {r0 : Int → zA → Option zA} (hr0 : ∀ (x1 : Int) (hx1 : zrg x1) (A : zA), zG (r0 x1 A) zPV d w 297 0 [some (.inr (.inr (some 226))), some (.inl x1)] [] A) (N : Nat) (hd : 0 ≤ d) (hw : 0 ≤ w) (x1 : Int) (hx1 : zrg x1) (A : zA) : zG (z_M_giveBack_0_b r0 N x1 A) zPV d w 297 0 [some (.inr (.inr (some 226))), some (.inl x1)] [] A := by
  unfold z_M_giveBack_0_b
  refine js_aload (pc1 := 1) rfl rfl rfl ?_
  refine js_gi (pc1 := 4) (j := 42) rfl rfl rfl rfl ?_
  refine js_iload (pc1 := 5) rfl rfl rfl ?_
  refine jt_le (pc1 := 8) (t1 := 44) (zi_rg _ _ _) hx1 rfl rfl rfl (fun c1 => ?_) (fun c1 => ?_)
  · refine js_aload (pc1 := 9) rfl rfl rfl ?_
    refine js_dupR (pc1 := 10) rfl rfl ?_
    refine js_gi (pc1 := 13) (j := 42) rfl rfl rfl rfl ?_
    refine js_iconst (pc1 := 14) rfl rfl ?_
    refine js_isub (pc1 := 15) rfl rfl ?_
    refine jt_pi (pc1 := 18) (j := 42) rfl rfl rfl rfl rfl (fun A2 => ?_)
    refine js_aload (pc1 := 19) rfl rfl rfl ?_
    refine js_gfr (pc1 := 22) (j := 49) (r := 258) rfl rfl rfl rfl rfl ?_
    refine js_aload (pc1 := 23) rfl rfl rfl ?_
    refine js_gfr (pc1 := 26) (j := 48) (r := 257) rfl rfl rfl rfl rfl ?_
    refine js_aload (pc1 := 27) rfl rfl rfl ?_
    refine js_gi (pc1 := 30) (j := 42) rfl rfl rfl rfl ?_
    refine jt_ald (pc1 := 31) rfl rfl rfl rfl rfl (fun v3 hv3 => ?_)
    refine js_aload (pc1 := 32) rfl rfl rfl ?_
    refine js_gfr (pc1 := 35) (j := 47) (r := 256) rfl rfl rfl rfl rfl ?_
    refine js_aload (pc1 := 36) rfl rfl rfl ?_
    refine js_gi (pc1 := 39) (j := 42) rfl rfl rfl rfl ?_
    refine jt_ald (pc1 := 40) rfl rfl rfl rfl rfl (fun v4 hv4 => ?_)
    refine jt_ias (pc1 := 41) rfl rfl rfl rfl (fun A5 => ?_)
    refine js_goto (t1 := 0) rfl rfl ?_
    exact hr0 x1 hx1 A5
  · exact je_V rfl
theorem z_M_giveBack_0_lok{d w : Nat} (N : Nat) (hd : 0 ≤ d) (hw : 0 ≤ w) (n : Nat) : ∀ (x1 : Int) (hx1 : zrg x1) (A : zA), zG (z_M_giveBack_0_l N n x1 A) zPV d w 297 0 [some (.inr (.inr (some 226))), some (.inl x1)] [] A := by
  induction n with
  | zero => intros; exact zG_none
  | succ n ih =>
    intro x1 hx1 A
    exact z_M_giveBack_0_bok ih N hd hw x1 hx1 A
theorem z_M_giveBack_0_ok{d w : Nat} (N : Nat) (hd : 0 ≤ d) (hw : 0 ≤ w) (x1 : Int) (hx1 : zrg x1) (A : zA) : zG (z_M_giveBack_0 N x1 A) zPV d w 297 0 [some (.inr (.inr (some 226))), some (.inl x1)] [] A := z_M_giveBack_0_lok N hd hw N x1 hx1 A
theorem z_M_giveBack_ok{d w : Nat} (N : Nat) (hd : 0 ≤ d) (hw : 0 ≤ w) (x1 : Int) (hx1 : zrg x1) (A : zA) : zG (z_M_giveBack N x1 A) zPV d w 297 0 [some (.inr (.inr (some 226))), some (.inl x1)] [] A := by
  unfold z_M_giveBack
  exact z_M_giveBack_0_ok N hd hw x1 hx1 A
theorem z_M_found_71_ok{d w : Nat} (N : Nat) (hd : 1 ≤ d) (hw : 26 ≤ w) (x1 : Int) (hx1 : zrg x1) (x2 : Int) (hx2 : zrg x2) (A : zA) : zG (z_M_found_71 N x1 x2 A) zPI d w 263 71 [some (.inr (.inr (some 226))), some (.inl x1), some (.inl x2), none] [] A := by
  unfold z_M_found_71
  refine js_aload (pc1 := 72) rfl rfl rfl ?_
  refine js_aload (pc1 := 73) rfl rfl rfl ?_
  refine js_gfr (pc1 := 76) (j := 79) (r := 283) rfl rfl rfl rfl rfl ?_
  refine js_iload (pc1 := 77) rfl rfl rfl ?_
  refine jt_ald (pc1 := 78) rfl rfl rfl rfl rfl (fun v1 hv1 => ?_)
  refine js_cV (pc1 := 81) (as := [(.inr (.inr (some 226))), (.inl v1)]) (S0 := []) (m := 2) (L0 := [some (.inr (.inr (some 226))), some (.inl v1)]) rfl rfl rfl rfl rfl rfl rfl rfl (zrc_o rfl rfl) (by omega) (by omega) (z_M_giveBack_ok N (by omega) (by omega) v1 hv1 A) (fun A2 _ => ?_)
  refine js_iload (pc1 := 82) rfl rfl rfl ?_
  exact zG_ite (fun h => je_I rfl (zfit3 rfl h) rfl hx2) (fun _ => zG_none)
theorem z_M_found_11_bok{d w : Nat} {r11 : Int → Int → Int → zA → Option (Int × zA)} (hr11 : ∀ (x1 : Int) (hx1 : zrg x1) (x2 : Int) (hx2 : zrg x2) (x3 : Int) (hx3 : zrg x3) (A : zA), zG (r11 x1 x2 x3 A) zPI d w 263 11 [some (.inr (.inr (some 226))), some (.inl x1), some (.inl x2), some (.inl x3)] [] A) (N : Nat) (hd : 1 ≤ d) (hw : 26 ≤ w) (x1 : Int) (hx1 : zrg x1) (x2 : Int) (hx2 : zrg x2) (x3 : Int) (hx3 : zrg x3) (A : zA) : zG (z_M_found_11_b r11 N x1 x2 x3 A) zPI d w 263 11 [some (.inr (.inr (some 226))), some (.inl x1), some (.inl x2), some (.inl x3)] [] A := by
  unfold z_M_found_11_b
  refine js_iload (pc1 := 12) rfl rfl rfl ?_
  refine js_iconst (pc1 := 14) rfl rfl ?_
  refine jt_ge (pc1 := 17) (t1 := 71) hx3 (zlit rfl) rfl rfl rfl (fun c1 => ?_) (fun c1 => ?_)
  · refine js_aload (pc1 := 18) rfl rfl rfl ?_
    refine js_iload (pc1 := 19) rfl rfl rfl ?_
    refine js_cP (pc1 := 22) (as := [(.inr (.inr (some 226))), (.inl x3)]) (S0 := []) (m := 2) (L0 := [some (.inr (.inr (some 226))), some (.inl x3)]) rfl rfl rfl rfl rfl rfl rfl rfl (zrc_o rfl rfl) (by omega) (by omega) (z_M_circles_ok N (by omega) (by omega) x3 hx3 A) (fun v2 _ hv2 => ?_)
    refine ju_eq (pc1 := 25) (t1 := 65) hv2 rfl rfl rfl (fun c3 => ?_) (fun c3 => ?_)
    · refine js_iinc (pc1 := 68) (L1 := [some (.inr (.inr (some 226))), some (.inl x1), some (.inl x2), some (.inl (x3 + 1))]) rfl rfl rfl rfl ?_
      refine js_goto (t1 := 11) rfl rfl ?_
      exact zG_to (L := [some (.inr (.inr (some 226))), some (.inl x1), some (.inl x2), some (.inl (zw (x3 + 1)))]) (S := []) ⟨rfl, ⟨rfl, ⟨rfl, ⟨zval_w (x3 + 1), trivial⟩⟩⟩⟩ (rfl) (hr11 x1 hx1 x2 hx2 (zw (x3 + 1)) (zw_rg (x3 + 1)) A)
    · refine js_aload (pc1 := 26) rfl rfl rfl ?_
      refine js_iload (pc1 := 27) rfl rfl rfl ?_
      refine js_cP (pc1 := 30) (as := [(.inr (.inr (some 226))), (.inl x3)]) (S0 := []) (m := 2) (L0 := [some (.inr (.inr (some 226))), some (.inl x3)]) rfl rfl rfl rfl rfl rfl rfl rfl (zrc_o rfl rfl) (by omega) (by omega) (z_M_get_ok N (by omega) (by omega) x3 hx3 A) (fun v4 _ hv4 => ?_)
      refine js_aload (pc1 := 31) rfl rfl rfl ?_
      refine js_iconst (pc1 := 33) rfl rfl ?_
      refine js_aload (pc1 := 34) rfl rfl rfl ?_
      refine js_gfr (pc1 := 37) (j := 77) (r := 281) rfl rfl rfl rfl rfl ?_
      refine js_iload (pc1 := 38) rfl rfl rfl ?_
      refine jt_ald (pc1 := 39) rfl rfl rfl rfl rfl (fun v5 hv5 => ?_)
      refine js_iload (pc1 := 40) rfl rfl rfl ?_
      refine js_iconst (pc1 := 41) rfl rfl ?_
      refine js_cI (pc1 := 44) (as := [(.inr (.inr (some 226))), (.inl 6), (.inl v5), (.inl x3), (.inl 0)]) (S0 := [(.inl v4)]) (m := 7) (L0 := [some (.inr (.inr (some 226))), some (.inl 6), some (.inl v5), some (.inl x3), some (.inl 0), none, none]) rfl rfl rfl rfl rfl rfl rfl rfl (zrc_o rfl rfl) (by omega) (by omega) (z_M_thing_ok N (by omega) (by omega) 6 (zlit rfl) v5 hv5 x3 hx3 0 (zlit rfl) A) (fun v6 A7 _ hv6 => ?_)
      refine jt_ne (pc1 := 47) (t1 := 65) hv4 hv6 rfl rfl rfl (fun c8 => ?_) (fun c8 => ?_)
      · refine js_aload (pc1 := 48) rfl rfl rfl ?_
        refine js_gfr (pc1 := 51) (j := 75) (r := 279) rfl rfl rfl rfl rfl ?_
        refine js_iload (pc1 := 52) rfl rfl rfl ?_
        refine js_dup2 (pc1 := 53) rfl rfl ?_
        refine jt_lald (pc1 := 54) rfl rfl rfl (fun v9 => ?_)
        refine js_ldc2 (pc1 := 55) rfl rfl ?_
        refine js_iload (pc1 := 56) rfl rfl rfl ?_
        refine js_lshl (pc1 := 57) rfl rfl ?_
        refine js_ldc2 (pc1 := 60) rfl rfl ?_
        refine js_lxor (pc1 := 61) rfl rfl ?_
        refine js_land (pc1 := 62) rfl rfl ?_
        refine jt_las (pc1 := 63) rfl rfl rfl rfl (fun A10 => ?_)
        refine js_iconst (pc1 := 64) rfl rfl ?_
        refine js_istore (pc1 := 65) (L1 := [some (.inr (.inr (some 226))), some (.inl x1), some (.inl 0), some (.inl x3)]) rfl rfl rfl rfl ?_
        refine js_iinc (pc1 := 68) (L1 := [some (.inr (.inr (some 226))), some (.inl x1), some (.inl 0), some (.inl (x3 + 1))]) rfl rfl rfl rfl ?_
        refine js_goto (t1 := 11) rfl rfl ?_
        exact zG_to (L := [some (.inr (.inr (some 226))), some (.inl x1), some (.inl 0), some (.inl (zw (x3 + 1)))]) (S := []) ⟨rfl, ⟨rfl, ⟨rfl, ⟨zval_w (x3 + 1), trivial⟩⟩⟩⟩ (rfl) (hr11 x1 hx1 0 (zlit rfl) (zw (x3 + 1)) (zw_rg (x3 + 1)) A10)
      · refine js_iinc (pc1 := 68) (L1 := [some (.inr (.inr (some 226))), some (.inl x1), some (.inl x2), some (.inl (x3 + 1))]) rfl rfl rfl rfl ?_
        refine js_goto (t1 := 11) rfl rfl ?_
        exact zG_to (L := [some (.inr (.inr (some 226))), some (.inl x1), some (.inl x2), some (.inl (zw (x3 + 1)))]) (S := []) ⟨rfl, ⟨rfl, ⟨rfl, ⟨zval_w (x3 + 1), trivial⟩⟩⟩⟩ (rfl) (hr11 x1 hx1 x2 hx2 (zw (x3 + 1)) (zw_rg (x3 + 1)) A7)
  · exact zG_to (L := [some (.inr (.inr (some 226))), some (.inl x1), some (.inl x2), none]) (S := []) ⟨rfl, ⟨rfl, ⟨rfl, trivial⟩⟩⟩ (rfl) (z_M_found_71_ok N hd hw x1 hx1 x2 hx2 A)
theorem z_M_found_11_lok{d w : Nat} (N : Nat) (hd : 1 ≤ d) (hw : 26 ≤ w) (n : Nat) : ∀ (x1 : Int) (hx1 : zrg x1) (x2 : Int) (hx2 : zrg x2) (x3 : Int) (hx3 : zrg x3) (A : zA), zG (z_M_found_11_l N n x1 x2 x3 A) zPI d w 263 11 [some (.inr (.inr (some 226))), some (.inl x1), some (.inl x2), some (.inl x3)] [] A := by
  induction n with
  | zero => intros; exact zG_none
  | succ n ih =>
    intro x1 hx1 x2 hx2 x3 hx3 A
    exact z_M_found_11_bok ih N hd hw x1 hx1 x2 hx2 x3 hx3 A
theorem z_M_found_11_ok{d w : Nat} (N : Nat) (hd : 1 ≤ d) (hw : 26 ≤ w) (x1 : Int) (hx1 : zrg x1) (x2 : Int) (hx2 : zrg x2) (x3 : Int) (hx3 : zrg x3) (A : zA) : zG (z_M_found_11 N x1 x2 x3 A) zPI d w 263 11 [some (.inr (.inr (some 226))), some (.inl x1), some (.inl x2), some (.inl x3)] [] A := z_M_found_11_lok N hd hw N x1 hx1 x2 hx2 x3 hx3 A
theorem z_M_found_ok{d w : Nat} (N : Nat) (hd : 1 ≤ d) (hw : 26 ≤ w) (A : zA) : zG (z_M_found N A) zPI d w 263 0 [some (.inr (.inr (some 226))), none, none, none] [] A := by
  unfold z_M_found
  refine js_aload (pc1 := 1) rfl rfl rfl ?_
  refine js_gi (pc1 := 4) (j := 66) rfl rfl rfl rfl ?_
  refine js_iconst (pc1 := 5) rfl rfl ?_
  refine js_isub (pc1 := 6) rfl rfl ?_
  refine zG_w1 ?_
  refine js_istore (pc1 := 7) (L1 := [some (.inr (.inr (some 226))), some (.inl (zw ((zi A 226 66) - 1))), none, none]) rfl rfl rfl rfl ?_
  refine js_iconst (pc1 := 8) rfl rfl ?_
  refine js_istore (pc1 := 9) (L1 := [some (.inr (.inr (some 226))), some (.inl (zw ((zi A 226 66) - 1))), some (.inl 1), none]) rfl rfl rfl rfl ?_
  refine js_iconst (pc1 := 10) rfl rfl ?_
  refine js_istore (pc1 := 11) (L1 := [some (.inr (.inr (some 226))), some (.inl (zw ((zi A 226 66) - 1))), some (.inl 1), some (.inl 0)]) rfl rfl rfl rfl ?_
  exact z_M_found_11_ok N hd hw (zw ((zi A 226 66) - 1)) (zw_rg ((zi A 226 66) - 1)) 1 (zlit rfl) 0 (zlit rfl) A
theorem z_M_turn_37_bok{d w : Nat} {r37 : Int → zA → Option zA} (hr37 : ∀ (x2 : Int) (hx2 : zrg x2) (A : zA), zG (r37 x2 A) zPV d w 265 37 [some (.inr (.inr (some 226))), none, some (.inl x2)] [] A) (N : Nat) (hd : 2 ≤ d) (hw : 44 ≤ w) (x2 : Int) (hx2 : zrg x2) (A : zA) : zG (z_M_turn_37_b r37 N x2 A) zPV d w 265 37 [some (.inr (.inr (some 226))), none, some (.inl x2)] [] A := by
  unfold z_M_turn_37_b
  refine js_iload (pc1 := 38) rfl rfl rfl ?_
  refine js_iconst (pc1 := 40) rfl rfl ?_
  refine jt_ge (pc1 := 43) (t1 := 74) hx2 (zlit rfl) rfl rfl rfl (fun c1 => ?_) (fun c1 => ?_)
  · refine js_aload (pc1 := 44) rfl rfl rfl ?_
    refine js_iload (pc1 := 45) rfl rfl rfl ?_
    refine js_cP (pc1 := 48) (as := [(.inr (.inr (some 226))), (.inl x2)]) (S0 := []) (m := 2) (L0 := [some (.inr (.inr (some 226))), some (.inl x2)]) rfl rfl rfl rfl rfl rfl rfl rfl (zrc_o rfl rfl) (by omega) (by omega) (z_M_circles_ok N (by omega) (by omega) x2 hx2 A) (fun v2 _ hv2 => ?_)
    refine ju_eq (pc1 := 51) (t1 := 68) hv2 rfl rfl rfl (fun c3 => ?_) (fun c3 => ?_)
    · refine js_iinc (pc1 := 71) (L1 := [some (.inr (.inr (some 226))), none, some (.inl (x2 + 1))]) rfl rfl rfl rfl ?_
      refine js_goto (t1 := 37) rfl rfl ?_
      exact zG_to (L := [some (.inr (.inr (some 226))), none, some (.inl (zw (x2 + 1)))]) (S := []) ⟨rfl, ⟨zval_w (x2 + 1), trivial⟩⟩ (rfl) (hr37 (zw (x2 + 1)) (zw_rg (x2 + 1)) A)
    · refine js_aload (pc1 := 52) rfl rfl rfl ?_
      refine js_iload (pc1 := 53) rfl rfl rfl ?_
      refine js_aload (pc1 := 54) rfl rfl rfl ?_
      refine js_iconst (pc1 := 56) rfl rfl ?_
      refine js_aload (pc1 := 57) rfl rfl rfl ?_
      refine js_gi (pc1 := 60) (j := 64) rfl rfl rfl rfl ?_
      refine js_iload (pc1 := 61) rfl rfl rfl ?_
      refine js_iconst (pc1 := 62) rfl rfl ?_
      refine js_cI (pc1 := 65) (as := [(.inr (.inr (some 226))), (.inl 6), (.inl (zi A 226 64)), (.inl x2), (.inl 0)]) (S0 := [(.inl x2), (.inr (.inr (some 226)))]) (m := 7) (L0 := [some (.inr (.inr (some 226))), some (.inl 6), some (.inl (zi A 226 64)), some (.inl x2), some (.inl 0), none, none]) rfl rfl rfl rfl rfl rfl rfl rfl (zrc_o rfl rfl) (by omega) (by omega) (z_M_thing_ok N (by omega) (by omega) 6 (zlit rfl) (zi A 226 64) (zi_rg _ _ _) x2 hx2 0 (zlit rfl) A) (fun v4 A5 _ hv4 => ?_)
      refine js_cV (pc1 := 68) (as := [(.inr (.inr (some 226))), (.inl x2), (.inl v4)]) (S0 := []) (m := 3) (L0 := [some (.inr (.inr (some 226))), some (.inl x2), some (.inl v4)]) rfl rfl rfl rfl rfl rfl rfl rfl (zrc_o rfl rfl) (by omega) (by omega) (z_M_set_ok N (by omega) (by omega) x2 hx2 v4 hv4 A5) (fun A6 _ => ?_)
      refine js_iinc (pc1 := 71) (L1 := [some (.inr (.inr (some 226))), none, some (.inl (x2 + 1))]) rfl rfl rfl rfl ?_
      refine js_goto (t1 := 37) rfl rfl ?_
      exact zG_to (L := [some (.inr (.inr (some 226))), none, some (.inl (zw (x2 + 1)))]) (S := []) ⟨rfl, ⟨zval_w (x2 + 1), trivial⟩⟩ (rfl) (hr37 (zw (x2 + 1)) (zw_rg (x2 + 1)) A6)
  · refine js_aload (pc1 := 75) rfl rfl rfl ?_
    refine js_dupR (pc1 := 76) rfl rfl ?_
    refine js_gi (pc1 := 79) (j := 64) rfl rfl rfl rfl ?_
    refine js_iconst (pc1 := 80) rfl rfl ?_
    refine js_iadd (pc1 := 81) rfl rfl ?_
    refine jt_pi (pc1 := 84) (j := 64) rfl rfl rfl rfl rfl (fun A7 => ?_)
    exact je_V rfl
theorem z_M_turn_37_lok{d w : Nat} (N : Nat) (hd : 2 ≤ d) (hw : 44 ≤ w) (n : Nat) : ∀ (x2 : Int) (hx2 : zrg x2) (A : zA), zG (z_M_turn_37_l N n x2 A) zPV d w 265 37 [some (.inr (.inr (some 226))), none, some (.inl x2)] [] A := by
  induction n with
  | zero => intros; exact zG_none
  | succ n ih =>
    intro x2 hx2 A
    exact z_M_turn_37_bok ih N hd hw x2 hx2 A
theorem z_M_turn_37_ok{d w : Nat} (N : Nat) (hd : 2 ≤ d) (hw : 44 ≤ w) (x2 : Int) (hx2 : zrg x2) (A : zA) : zG (z_M_turn_37 N x2 A) zPV d w 265 37 [some (.inr (.inr (some 226))), none, some (.inl x2)] [] A := z_M_turn_37_lok N hd hw N x2 hx2 A
theorem z_M_turn_ok{d w : Nat} (N : Nat) (hd : 2 ≤ d) (hw : 44 ≤ w) (A : zA) : zG (z_M_turn N A) zPV d w 265 0 [some (.inr (.inr (some 226))), none, none] [] A := by
  unfold z_M_turn
  refine js_aload (pc1 := 1) rfl rfl rfl ?_
  refine js_gi (pc1 := 4) (j := 66) rfl rfl rfl rfl ?_
  refine js_iconst (pc1 := 5) rfl rfl ?_
  refine js_isub (pc1 := 6) rfl rfl ?_
  refine zG_w1 ?_
  refine js_istore (pc1 := 7) (L1 := [some (.inr (.inr (some 226))), some (.inl (zw ((zi A 226 66) - 1))), none]) rfl rfl rfl rfl ?_
  refine js_aload (pc1 := 8) rfl rfl rfl ?_
  refine js_aload (pc1 := 9) rfl rfl rfl ?_
  refine js_gfr (pc1 := 12) (j := 74) (r := 278) rfl rfl rfl rfl rfl ?_
  refine js_cV (pc1 := 15) (as := [(.inr (.inr (some 226))), (.inr (.inr (some 278)))]) (S0 := []) (m := 3) (L0 := [some (.inr (.inr (some 226))), some (.inr (.inr (some 278))), none]) rfl rfl rfl rfl rfl rfl rfl rfl (zrc_o rfl rfl) (by omega) (by omega) (z_M_takeUp_278_ok N (by omega) (by omega) A) (fun A1 _ => ?_)
  refine js_aload (pc1 := 16) rfl rfl rfl ?_
  refine js_aload (pc1 := 17) rfl rfl rfl ?_
  refine js_gfr (pc1 := 20) (j := 77) (r := 281) rfl rfl rfl rfl rfl ?_
  refine js_iload (pc1 := 21) rfl rfl rfl ?_
  refine jt_ald (pc1 := 22) rfl rfl rfl rfl rfl (fun v2 hv2 => ?_)
  refine jt_pi (pc1 := 25) (j := 64) rfl rfl rfl rfl rfl (fun A3 => ?_)
  refine js_aload (pc1 := 26) rfl rfl rfl ?_
  refine js_aload (pc1 := 27) rfl rfl rfl ?_
  refine js_gfr (pc1 := 30) (j := 78) (r := 282) rfl rfl rfl rfl rfl ?_
  refine js_iload (pc1 := 31) rfl rfl rfl ?_
  refine jt_ald (pc1 := 32) rfl rfl rfl rfl rfl (fun v4 hv4 => ?_)
  refine jt_pi (pc1 := 35) (j := 65) rfl rfl rfl rfl rfl (fun A5 => ?_)
  refine js_iconst (pc1 := 36) rfl rfl ?_
  refine js_istore (pc1 := 37) (L1 := [some (.inr (.inr (some 226))), some (.inl (zw ((zi A 226 66) - 1))), some (.inl 0)]) rfl rfl rfl rfl ?_
  exact zG_to (L := [some (.inr (.inr (some 226))), none, some (.inl 0)]) (S := []) ⟨rfl, ⟨rfl, trivial⟩⟩ (rfl) (z_M_turn_37_ok N hd hw 0 (zlit rfl) A5)
theorem z_M_aloud_57_bok{d w : Nat} {r57 : Int → Int → Int → zA → Option zA} (hr57 : ∀ (x1 : Int) (hx1 : zrg x1) (x2 : Int) (hx2 : zrg x2) (x3 : Int) (hx3 : zrg x3) (A : zA), zG (r57 x1 x2 x3 A) zPV d w 264 57 [some (.inr (.inr (some 226))), some (.inl x1), some (.inl x2), some (.inl x3), none] [] A) (N : Nat) (hd : 3 ≤ d) (hw : 66 ≤ w) (x1 : Int) (hx1 : zrg x1) (x2 : Int) (hx2 : zrg x2) (x3 : Int) (hx3 : zrg x3) (A : zA) : zG (z_M_aloud_57_b r57 N x1 x2 x3 A) zPV d w 264 57 [some (.inr (.inr (some 226))), some (.inl x1), some (.inl x2), some (.inl x3), none] [] A := by
  unfold z_M_aloud_57_b
  refine js_iload (pc1 := 58) rfl rfl rfl ?_
  refine js_iconst (pc1 := 60) rfl rfl ?_
  refine jt_ge (pc1 := 63) (t1 := 173) hx3 (zlit rfl) rfl rfl rfl (fun c1 => ?_) (fun c1 => ?_)
  · refine js_aload (pc1 := 64) rfl rfl rfl ?_
    refine js_gi (pc1 := 67) (j := 80) rfl rfl rfl rfl ?_
    refine ju_ne (pc1 := 70) (t1 := 173) (zi_rg _ _ _) rfl rfl rfl (fun c2 => ?_) (fun c2 => ?_)
    · refine js_aload (pc1 := 71) rfl rfl rfl ?_
      refine js_iload (pc1 := 72) rfl rfl rfl ?_
      refine js_cP (pc1 := 75) (as := [(.inr (.inr (some 226))), (.inl x3)]) (S0 := []) (m := 2) (L0 := [some (.inr (.inr (some 226))), some (.inl x3)]) rfl rfl rfl rfl rfl rfl rfl rfl (zrc_o rfl rfl) (by omega) (by omega) (z_M_circles_ok N (by omega) (by omega) x3 hx3 A) (fun v3 _ hv3 => ?_)
      refine ju_ne (pc1 := 78) (t1 := 81) hv3 rfl rfl rfl (fun c4 => ?_) (fun c4 => ?_)
      · refine js_goto (t1 := 167) rfl rfl ?_
        refine js_iinc (pc1 := 170) (L1 := [some (.inr (.inr (some 226))), some (.inl x1), some (.inl x2), some (.inl (x3 + 1)), none]) rfl rfl rfl rfl ?_
        refine js_goto (t1 := 57) rfl rfl ?_
        exact zG_to (L := [some (.inr (.inr (some 226))), some (.inl x1), some (.inl x2), some (.inl (zw (x3 + 1))), none]) (S := []) ⟨rfl, ⟨rfl, ⟨rfl, ⟨zval_w (x3 + 1), trivial⟩⟩⟩⟩ (rfl) (hr57 x1 hx1 x2 hx2 (zw (x3 + 1)) (zw_rg (x3 + 1)) A)
      · refine js_iconst (pc1 := 84) rfl rfl ?_
        refine js_iload (pc1 := 85) rfl rfl rfl ?_
        refine js_imul (pc1 := 86) rfl rfl ?_
        refine js_aload (pc1 := 87) rfl rfl rfl ?_
        refine js_gfr (pc1 := 90) (j := 52) (r := 261) rfl rfl rfl rfl rfl ?_
        refine js_iload (pc1 := 91) rfl rfl rfl ?_
        refine jt_ald (pc1 := 92) rfl rfl rfl rfl rfl (fun v5 hv5 => ?_)
        refine js_iadd (pc1 := 93) rfl rfl ?_
        refine zG_w1 ?_
        refine js_istore (pc1 := 95) (L1 := [some (.inr (.inr (some 226))), some (.inl x1), some (.inl x2), some (.inl x3), some (.inl (zw ((4000 * x1) + v5)))]) rfl rfl rfl rfl ?_
        refine js_aload (pc1 := 96) rfl rfl rfl ?_
        refine js_gfr (pc1 := 99) (j := 53) (r := 262) rfl rfl rfl rfl rfl ?_
        refine js_iload (pc1 := 101) rfl rfl rfl ?_
        refine js_aload (pc1 := 102) rfl rfl rfl ?_
        refine js_iload (pc1 := 103) rfl rfl rfl ?_
        refine js_cP (pc1 := 106) (as := [(.inr (.inr (some 226))), (.inl x3)]) (S0 := [(.inl (zw ((4000 * x1) + v5))), (.inr (.inr (some 262)))]) (m := 2) (L0 := [some (.inr (.inr (some 226))), some (.inl x3)]) rfl rfl rfl rfl rfl rfl rfl rfl (zrc_o rfl rfl) (by omega) (by omega) (z_M_get_ok N (by omega) (by omega) x3 hx3 A) (fun v6 _ hv6 => ?_)
        refine jt_ias (pc1 := 107) rfl rfl rfl rfl (fun A7 => ?_)
        refine js_aload (pc1 := 108) rfl rfl rfl ?_
        refine js_gfr (pc1 := 111) (j := 54) (r := 263) rfl rfl rfl rfl rfl ?_
        refine js_iload (pc1 := 113) rfl rfl rfl ?_
        refine js_iload (pc1 := 114) rfl rfl rfl ?_
        refine jt_ias (pc1 := 115) rfl rfl rfl rfl (fun A8 => ?_)
        refine js_aload (pc1 := 116) rfl rfl rfl ?_
        refine js_gfr (pc1 := 119) (j := 55) (r := 264) rfl rfl rfl rfl rfl ?_
        refine js_iload (pc1 := 121) rfl rfl rfl ?_
        refine js_aload (pc1 := 122) rfl rfl rfl ?_
        refine js_gfr (pc1 := 125) (j := 74) (r := 278) rfl rfl rfl rfl rfl ?_
        refine js_iconst (pc1 := 127) rfl rfl ?_
        refine js_iload (pc1 := 128) rfl rfl rfl ?_
        refine js_imul (pc1 := 129) rfl rfl ?_
        refine js_iload (pc1 := 130) rfl rfl rfl ?_
        refine js_iadd (pc1 := 131) rfl rfl ?_
        refine jt_ald (pc1 := 132) rfl rfl rfl rfl rfl (fun v9 hv9 => ?_)
        refine jt_ias (pc1 := 133) rfl rfl rfl rfl (fun A10 => ?_)
        refine js_aload (pc1 := 134) rfl rfl rfl ?_
        refine js_gfr (pc1 := 137) (j := 57) (r := 266) rfl rfl rfl rfl rfl ?_
        refine js_iconst (pc1 := 140) rfl rfl ?_
        refine js_iload (pc1 := 141) rfl rfl rfl ?_
        refine js_imul (pc1 := 142) rfl rfl ?_
        refine js_aload (pc1 := 143) rfl rfl rfl ?_
        refine js_gfr (pc1 := 146) (j := 53) (r := 262) rfl rfl rfl rfl rfl ?_
        refine js_iload (pc1 := 148) rfl rfl rfl ?_
        refine jt_ald (pc1 := 149) rfl rfl rfl rfl rfl (fun v11 hv11 => ?_)
        refine js_iadd (pc1 := 150) rfl rfl ?_
        refine js_aload (pc1 := 151) rfl rfl rfl ?_
        refine js_gfr (pc1 := 154) (j := 52) (r := 261) rfl rfl rfl rfl rfl ?_
        refine js_iload (pc1 := 155) rfl rfl rfl ?_
        refine jt_ald (pc1 := 156) rfl rfl rfl rfl rfl (fun v12 hv12 => ?_)
        refine jt_ias (pc1 := 157) rfl rfl rfl rfl (fun A13 => ?_)
        refine js_aload (pc1 := 158) rfl rfl rfl ?_
        refine js_gfr (pc1 := 161) (j := 52) (r := 261) rfl rfl rfl rfl rfl ?_
        refine js_iload (pc1 := 162) rfl rfl rfl ?_
        refine js_dup2 (pc1 := 163) rfl rfl ?_
        refine jt_ald (pc1 := 164) rfl rfl rfl rfl rfl (fun v14 hv14 => ?_)
        refine js_iconst (pc1 := 165) rfl rfl ?_
        refine js_iadd (pc1 := 166) rfl rfl ?_
        refine jt_ias (pc1 := 167) rfl rfl rfl rfl (fun A15 => ?_)
        refine js_iinc (pc1 := 170) (L1 := [some (.inr (.inr (some 226))), some (.inl x1), some (.inl x2), some (.inl (x3 + 1)), some (.inl (zw ((4000 * x1) + v5)))]) rfl rfl rfl rfl ?_
        refine js_goto (t1 := 57) rfl rfl ?_
        exact zG_to (L := [some (.inr (.inr (some 226))), some (.inl x1), some (.inl x2), some (.inl (zw (x3 + 1))), none]) (S := []) ⟨rfl, ⟨rfl, ⟨rfl, ⟨zval_w (x3 + 1), trivial⟩⟩⟩⟩ (rfl) (hr57 x1 hx1 x2 hx2 (zw (x3 + 1)) (zw_rg (x3 + 1)) A15)
    · refine js_aload (pc1 := 174) rfl rfl rfl ?_
      refine js_gfr (pc1 := 177) (j := 71) (r := 275) rfl rfl rfl rfl rfl ?_
      refine js_iload (pc1 := 178) rfl rfl rfl ?_
      refine js_aload (pc1 := 179) rfl rfl rfl ?_
      refine js_gfr (pc1 := 182) (j := 52) (r := 261) rfl rfl rfl rfl rfl ?_
      refine js_iload (pc1 := 183) rfl rfl rfl ?_
      refine jt_ald (pc1 := 184) rfl rfl rfl rfl rfl (fun v16 hv16 => ?_)
      refine jt_ias (pc1 := 185) rfl rfl rfl rfl (fun A17 => ?_)
      exact je_V rfl
  · refine js_aload (pc1 := 174) rfl rfl rfl ?_
    refine js_gfr (pc1 := 177) (j := 71) (r := 275) rfl rfl rfl rfl rfl ?_
    refine js_iload (pc1 := 178) rfl rfl rfl ?_
    refine js_aload (pc1 := 179) rfl rfl rfl ?_
    refine js_gfr (pc1 := 182) (j := 52) (r := 261) rfl rfl rfl rfl rfl ?_
    refine js_iload (pc1 := 183) rfl rfl rfl ?_
    refine jt_ald (pc1 := 184) rfl rfl rfl rfl rfl (fun v18 hv18 => ?_)
    refine jt_ias (pc1 := 185) rfl rfl rfl rfl (fun A19 => ?_)
    exact je_V rfl
theorem z_M_aloud_57_lok{d w : Nat} (N : Nat) (hd : 3 ≤ d) (hw : 66 ≤ w) (n : Nat) : ∀ (x1 : Int) (hx1 : zrg x1) (x2 : Int) (hx2 : zrg x2) (x3 : Int) (hx3 : zrg x3) (A : zA), zG (z_M_aloud_57_l N n x1 x2 x3 A) zPV d w 264 57 [some (.inr (.inr (some 226))), some (.inl x1), some (.inl x2), some (.inl x3), none] [] A := by
  induction n with
  | zero => intros; exact zG_none
  | succ n ih =>
    intro x1 hx1 x2 hx2 x3 hx3 A
    exact z_M_aloud_57_bok ih N hd hw x1 hx1 x2 hx2 x3 hx3 A
theorem z_M_aloud_57_ok{d w : Nat} (N : Nat) (hd : 3 ≤ d) (hw : 66 ≤ w) (x1 : Int) (hx1 : zrg x1) (x2 : Int) (hx2 : zrg x2) (x3 : Int) (hx3 : zrg x3) (A : zA) : zG (z_M_aloud_57 N x1 x2 x3 A) zPV d w 264 57 [some (.inr (.inr (some 226))), some (.inl x1), some (.inl x2), some (.inl x3), none] [] A := z_M_aloud_57_lok N hd hw N x1 hx1 x2 hx2 x3 hx3 A
theorem z_M_aloud_ok{d w : Nat} (N : Nat) (hd : 3 ≤ d) (hw : 66 ≤ w) (x1 : Int) (hx1 : zrg x1) (A : zA) : zG (z_M_aloud N x1 A) zPV d w 264 0 [some (.inr (.inr (some 226))), some (.inl x1), none, none, none] [] A := by
  unfold z_M_aloud
  refine js_aload (pc1 := 1) rfl rfl rfl ?_
  refine js_gi (pc1 := 4) (j := 66) rfl rfl rfl rfl ?_
  refine js_iconst (pc1 := 5) rfl rfl ?_
  refine js_isub (pc1 := 6) rfl rfl ?_
  refine zG_w1 ?_
  refine js_istore (pc1 := 7) (L1 := [some (.inr (.inr (some 226))), some (.inl x1), some (.inl (zw ((zi A 226 66) - 1))), none, none]) rfl rfl rfl rfl ?_
  refine js_aload (pc1 := 8) rfl rfl rfl ?_
  refine js_gfr (pc1 := 11) (j := 76) (r := 280) rfl rfl rfl rfl rfl ?_
  refine js_iload (pc1 := 12) rfl rfl rfl ?_
  refine js_iconst (pc1 := 13) rfl rfl ?_
  refine jt_basl (pc1 := 14) rfl rfl rfl rfl (Or.inl rfl) (fun A1 => ?_)
  refine js_aload (pc1 := 15) rfl rfl rfl ?_
  refine js_dupR (pc1 := 16) rfl rfl ?_
  refine js_gi (pc1 := 19) (j := 80) rfl rfl rfl rfl ?_
  refine js_iconst (pc1 := 20) rfl rfl ?_
  refine js_isub (pc1 := 21) rfl rfl ?_
  refine jt_pi (pc1 := 24) (j := 80) rfl rfl rfl rfl rfl (fun A2 => ?_)
  refine js_aload (pc1 := 25) rfl rfl rfl ?_
  refine js_iload (pc1 := 26) rfl rfl rfl ?_
  refine js_iconst (pc1 := 28) rfl rfl ?_
  refine js_cV (pc1 := 31) (as := [(.inr (.inr (some 226))), (.inl x1), (.inl (-7))]) (S0 := []) (m := 3) (L0 := [some (.inr (.inr (some 226))), some (.inl x1), some (.inl (-7))]) rfl rfl rfl rfl rfl rfl rfl rfl (zrc_o rfl rfl) (by omega) (by omega) (z_M_says_ok N (by omega) (by omega) x1 hx1 (-7) (zlit rfl) A2) (fun A3 _ => ?_)
  refine js_aload (pc1 := 32) rfl rfl rfl ?_
  refine js_aload (pc1 := 33) rfl rfl rfl ?_
  refine js_gfr (pc1 := 36) (j := 74) (r := 278) rfl rfl rfl rfl rfl ?_
  refine js_cV (pc1 := 39) (as := [(.inr (.inr (some 226))), (.inr (.inr (some 278)))]) (S0 := []) (m := 3) (L0 := [some (.inr (.inr (some 226))), some (.inr (.inr (some 278))), none]) rfl rfl rfl rfl rfl rfl rfl rfl (zrc_o rfl rfl) (by omega) (by omega) (z_M_takeUp_278_ok N (by omega) (by omega) A3) (fun A4 _ => ?_)
  refine js_aload (pc1 := 40) rfl rfl rfl ?_
  refine js_gfr (pc1 := 43) (j := 70) (r := 274) rfl rfl rfl rfl rfl ?_
  refine js_iload (pc1 := 44) rfl rfl rfl ?_
  refine js_aload (pc1 := 45) rfl rfl rfl ?_
  refine js_gfr (pc1 := 48) (j := 52) (r := 261) rfl rfl rfl rfl rfl ?_
  refine js_iload (pc1 := 49) rfl rfl rfl ?_
  refine jt_ald (pc1 := 50) rfl rfl rfl rfl rfl (fun v5 hv5 => ?_)
  refine jt_ias (pc1 := 51) rfl rfl rfl rfl (fun A6 => ?_)
  refine js_aload (pc1 := 52) rfl rfl rfl ?_
  refine js_cV (pc1 := 55) (as := [(.inr (.inr (some 226)))]) (S0 := []) (m := 3) (L0 := [some (.inr (.inr (some 226))), none, none]) rfl rfl rfl rfl rfl rfl rfl rfl (zrc_o rfl rfl) (by omega) (by omega) (z_M_turn_ok N (by omega) (by omega) A6) (fun A7 _ => ?_)
  refine js_iconst (pc1 := 56) rfl rfl ?_
  refine js_istore (pc1 := 57) (L1 := [some (.inr (.inr (some 226))), some (.inl x1), some (.inl (zw ((zi A 226 66) - 1))), some (.inl 0), none]) rfl rfl rfl rfl ?_
  exact z_M_aloud_57_ok N hd hw x1 hx1 (zw ((zi A 226 66) - 1)) (zw_rg ((zi A 226 66) - 1)) 0 (zlit rfl) A7
theorem z_M_leaves_65_ok{d w : Nat} (N : Nat) (hd : 2 ≤ d) (hw : 44 ≤ w) (A : zA) : zG (z_M_leaves_65 N A) zPV d w 266 65 [some (.inr (.inr (some 226))), none, none, none] [] A := by
  unfold z_M_leaves_65
  refine js_aload (pc1 := 66) rfl rfl rfl ?_
  refine js_aload (pc1 := 67) rfl rfl rfl ?_
  refine js_gfr (pc1 := 70) (j := 72) (r := 276) rfl rfl rfl rfl rfl ?_
  refine js_cV (pc1 := 73) (as := [(.inr (.inr (some 226))), (.inr (.inr (some 276)))]) (S0 := []) (m := 3) (L0 := [some (.inr (.inr (some 226))), some (.inr (.inr (some 276))), none]) rfl rfl rfl rfl rfl rfl rfl rfl (zrc_o rfl rfl) (by omega) (by omega) (z_M_takeUp_276_ok N (by omega) (by omega) A) (fun A1 _ => ?_)
  exact je_V rfl
theorem z_M_leaves_27_bok{d w : Nat} {r27 : Int → Int → Int → zA → Option zA} (hr27 : ∀ (x1 : Int) (hx1 : zrg x1) (x2 : Int) (hx2 : zrg x2) (x3 : Int) (hx3 : zrg x3) (A : zA), zG (r27 x1 x2 x3 A) zPV d w 266 27 [some (.inr (.inr (some 226))), some (.inl x1), some (.inl x2), some (.inl x3)] [] A) (N : Nat) (hd : 2 ≤ d) (hw : 44 ≤ w) (x1 : Int) (hx1 : zrg x1) (x2 : Int) (hx2 : zrg x2) (x3 : Int) (hx3 : zrg x3) (A : zA) : zG (z_M_leaves_27_b r27 N x1 x2 x3 A) zPV d w 266 27 [some (.inr (.inr (some 226))), some (.inl x1), some (.inl x2), some (.inl x3)] [] A := by
  unfold z_M_leaves_27_b
  refine js_iload (pc1 := 28) rfl rfl rfl ?_
  refine js_iconst (pc1 := 31) rfl rfl ?_
  refine js_iload (pc1 := 32) rfl rfl rfl ?_
  refine js_imul (pc1 := 33) rfl rfl ?_
  refine js_aload (pc1 := 34) rfl rfl rfl ?_
  refine js_gfr (pc1 := 37) (j := 71) (r := 275) rfl rfl rfl rfl rfl ?_
  refine js_iload (pc1 := 38) rfl rfl rfl ?_
  refine jt_ald (pc1 := 39) rfl rfl rfl rfl rfl (fun v1 hv1 => ?_)
  refine js_iadd (pc1 := 40) rfl rfl ?_
  refine zG_w1 ?_
  refine jt_ge (pc1 := 43) (t1 := 65) hx3 (zw_rg ((4000 * x1) + v1)) rfl rfl rfl (fun c2 => ?_) (fun c2 => ?_)
  · refine js_aload (pc1 := 44) rfl rfl rfl ?_
    refine js_gfr (pc1 := 47) (j := 56) (r := 265) rfl rfl rfl rfl rfl ?_
    refine js_iload (pc1 := 48) rfl rfl rfl ?_
    refine js_aload (pc1 := 49) rfl rfl rfl ?_
    refine js_aload (pc1 := 50) rfl rfl rfl ?_
    refine js_gfr (pc1 := 53) (j := 54) (r := 263) rfl rfl rfl rfl rfl ?_
    refine js_iload (pc1 := 54) rfl rfl rfl ?_
    refine jt_ald (pc1 := 55) rfl rfl rfl rfl rfl (fun v3 hv3 => ?_)
    refine js_cP (pc1 := 58) (as := [(.inr (.inr (some 226))), (.inl v3)]) (S0 := [(.inl x3), (.inr (.inr (some 265)))]) (m := 2) (L0 := [some (.inr (.inr (some 226))), some (.inl v3)]) rfl rfl rfl rfl rfl rfl rfl rfl (zrc_o rfl rfl) (by omega) (by omega) (z_M_get_ok N (by omega) (by omega) v3 hv3 A) (fun v4 _ hv4 => ?_)
    refine jt_ias (pc1 := 59) rfl rfl rfl rfl (fun A5 => ?_)
    refine js_iinc (pc1 := 62) (L1 := [some (.inr (.inr (some 226))), some (.inl x1), some (.inl x2), some (.inl (x3 + 1))]) rfl rfl rfl rfl ?_
    refine js_goto (t1 := 27) rfl rfl ?_
    exact zG_to (L := [some (.inr (.inr (some 226))), some (.inl x1), some (.inl x2), some (.inl (zw (x3 + 1)))]) (S := []) ⟨rfl, ⟨rfl, ⟨rfl, ⟨zval_w (x3 + 1), trivial⟩⟩⟩⟩ (rfl) (hr27 x1 hx1 x2 hx2 (zw (x3 + 1)) (zw_rg (x3 + 1)) A5)
  · exact zG_to (L := [some (.inr (.inr (some 226))), none, none, none]) (S := []) ⟨rfl, trivial⟩ (rfl) (z_M_leaves_65_ok N hd hw A)
