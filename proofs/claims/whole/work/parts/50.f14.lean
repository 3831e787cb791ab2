theorem z_M_leaves_27_lok{d w : Nat} (N : Nat) (hd : 2 ≤ d) (hw : 44 ≤ w) (n : Nat) : ∀ (x1 : Int) (hx1 : zrg x1) (x2 : Int) (hx2 : zrg x2) (x3 : Int) (hx3 : zrg x3) (A : zA), zG (z_M_leaves_27_l N n x1 x2 x3 A) zPV d w 266 27 [some (.inr (.inr (some 226))), some (.inl x1), some (.inl x2), some (.inl x3)] [] A := by
  induction n with
  | zero => intros; exact zG_none
  | succ n ih =>
    intro x1 hx1 x2 hx2 x3 hx3 A
    exact z_M_leaves_27_bok ih N hd hw x1 hx1 x2 hx2 x3 hx3 A
theorem z_M_leaves_27_ok{d w : Nat} (N : Nat) (hd : 2 ≤ d) (hw : 44 ≤ w) (x1 : Int) (hx1 : zrg x1) (x2 : Int) (hx2 : zrg x2) (x3 : Int) (hx3 : zrg x3) (A : zA) : zG (z_M_leaves_27 N x1 x2 x3 A) zPV d w 266 27 [some (.inr (.inr (some 226))), some (.inl x1), some (.inl x2), some (.inl x3)] [] A := z_M_leaves_27_lok N hd hw N x1 hx1 x2 hx2 x3 hx3 A
theorem z_M_leaves_ok{d w : Nat} (N : Nat) (hd : 2 ≤ d) (hw : 44 ≤ w) (x1 : Int) (hx1 : zrg x1) (A : zA) : zG (z_M_leaves N x1 A) zPV d w 266 0 [some (.inr (.inr (some 226))), some (.inl x1), none, none] [] A := by
  unfold z_M_leaves
  refine js_aload (pc1 := 1) rfl rfl rfl ?_
  refine js_gi (pc1 := 4) (j := 66) rfl rfl rfl rfl ?_
  refine js_iconst (pc1 := 5) rfl rfl ?_
  refine js_isub (pc1 := 6) rfl rfl ?_
  refine zG_w1 ?_
  refine js_istore (pc1 := 7) (L1 := [some (.inr (.inr (some 226))), some (.inl x1), some (.inl (zw ((zi A 226 66) - 1))), none]) rfl rfl rfl rfl ?_
  refine js_aload (pc1 := 8) rfl rfl rfl ?_
  refine js_gi (pc1 := 11) (j := 80) rfl rfl rfl rfl ?_
  refine ju_ne (pc1 := 14) (t1 := 65) (zi_rg _ _ _) rfl rfl rfl (fun c1 => ?_) (fun c1 => ?_)
  · refine js_iconst (pc1 := 17) rfl rfl ?_
    refine js_iload (pc1 := 18) rfl rfl rfl ?_
    refine js_imul (pc1 := 19) rfl rfl ?_
    refine js_aload (pc1 := 20) rfl rfl rfl ?_
    refine js_gfr (pc1 := 23) (j := 70) (r := 274) rfl rfl rfl rfl rfl ?_
    refine js_iload (pc1 := 24) rfl rfl rfl ?_
    refine jt_ald (pc1 := 25) rfl rfl rfl rfl rfl (fun v2 hv2 => ?_)
    refine js_iadd (pc1 := 26) rfl rfl ?_
    refine zG_w1 ?_
    refine js_istore (pc1 := 27) (L1 := [some (.inr (.inr (some 226))), some (.inl x1), some (.inl (zw ((zi A 226 66) - 1))), some (.inl (zw ((4000 * x1) + v2)))]) rfl rfl rfl rfl ?_
    exact z_M_leaves_27_ok N hd hw x1 hx1 (zw ((zi A 226 66) - 1)) (zw_rg ((zi A 226 66) - 1)) (zw ((4000 * x1) + v2)) (zw_rg ((4000 * x1) + v2)) A
  · exact zG_to (L := [some (.inr (.inr (some 226))), none, none, none]) (S := []) ⟨rfl, trivial⟩ (rfl) (z_M_leaves_65_ok N hd hw A)
theorem z_M_ends_48_ok{d w : Nat} (N : Nat) (hd : 4 ≤ d) (hw : 90 ≤ w) (x2 : Int) (hx2 : zrg x2) (x3 : Int) (hx3 : zrg x3) (A : zA) : zG (z_M_ends_48 N x2 x3 A) zPI d w 199 48 [some (.inr (.inr (some 226))), none, some (.inl x2), some (.inl x3), none, none] [] A := by
  unfold z_M_ends_48
  refine js_aload (pc1 := 49) rfl rfl rfl ?_
  refine js_gfr (pc1 := 52) (j := 9) (r := 231) rfl rfl rfl rfl rfl ?_
  refine js_iconst (pc1 := 55) rfl rfl ?_
  refine js_iload (pc1 := 56) rfl rfl rfl ?_
  refine js_imul (pc1 := 57) rfl rfl ?_
  refine js_iload (pc1 := 58) rfl rfl rfl ?_
  refine js_iadd (pc1 := 59) rfl rfl ?_
  refine jt_ald (pc1 := 60) rfl rfl rfl rfl rfl (fun v1 hv1 => ?_)
  refine js_iconst (pc1 := 61) rfl rfl ?_
  refine js_iadd (pc1 := 62) rfl rfl ?_
  exact je_I rfl (zfit0 _ rfl) (zval_w (v1 + 1)) (zw_rg (v1 + 1))
theorem z_M_ends_186_ok{d w : Nat} (N : Nat) (hd : 4 ≤ d) (hw : 90 ≤ w) (x3 : Int) (hx3 : zrg x3) (A : zA) : zG (z_M_ends_186 N x3 A) zPI d w 199 186 [some (.inr (.inr (some 226))), none, none, some (.inl x3), none, none] [] A := by
  unfold z_M_ends_186
  refine js_aload (pc1 := 187) rfl rfl rfl ?_
  refine js_dupR (pc1 := 188) rfl rfl ?_
  refine js_gi (pc1 := 191) (j := 66) rfl rfl rfl rfl ?_
  refine js_iconst (pc1 := 192) rfl rfl ?_
  refine js_isub (pc1 := 193) rfl rfl ?_
  refine jt_pi (pc1 := 196) (j := 66) rfl rfl rfl rfl rfl (fun A1 => ?_)
  refine js_iload (pc1 := 197) rfl rfl rfl ?_
  refine js_iconst (pc1 := 198) rfl rfl ?_
  refine js_iadd (pc1 := 199) rfl rfl ?_
  exact je_I rfl (zfit0 _ rfl) (zval_w (x3 + 1)) (zw_rg (x3 + 1))
theorem z_M_ends_114_bok{d w : Nat} {r114 : Int → Int → Int → zA → Option (Int × zA)} (hr114 : ∀ (x3 : Int) (hx3 : zrg x3) (x4 : Int) (hx4 : zrg x4) (x5 : Int) (hx5 : zrg x5) (A : zA), zG (r114 x3 x4 x5 A) zPI d w 199 114 [some (.inr (.inr (some 226))), none, none, some (.inl x3), some (.inl x4), some (.inl x5)] [] A) (N : Nat) (hd : 4 ≤ d) (hw : 90 ≤ w) (x3 : Int) (hx3 : zrg x3) (x4 : Int) (hx4 : zrg x4) (x5 : Int) (hx5 : zrg x5) (A : zA) : zG (z_M_ends_114_b r114 N x3 x4 x5 A) zPI d w 199 114 [some (.inr (.inr (some 226))), none, none, some (.inl x3), some (.inl x4), some (.inl x5)] [] A := by
  unfold z_M_ends_114_b
  refine js_iload (pc1 := 116) rfl rfl rfl ?_
  refine js_iconst (pc1 := 118) rfl rfl ?_
  refine jt_ge (pc1 := 121) (t1 := 186) hx5 (zlit rfl) rfl rfl rfl (fun c1 => ?_) (fun c1 => ?_)
  · refine js_aload (pc1 := 122) rfl rfl rfl ?_
    refine js_gfr (pc1 := 125) (j := 73) (r := 277) rfl rfl rfl rfl rfl ?_
    refine js_iconst (pc1 := 127) rfl rfl ?_
    refine js_iload (pc1 := 129) rfl rfl rfl ?_
    refine js_imul (pc1 := 130) rfl rfl ?_
    refine js_iload (pc1 := 132) rfl rfl rfl ?_
    refine js_iadd (pc1 := 133) rfl rfl ?_
    refine jt_ald (pc1 := 134) rfl rfl rfl rfl rfl (fun v2 hv2 => ?_)
    refine js_aload (pc1 := 135) rfl rfl rfl ?_
    refine js_iload (pc1 := 137) rfl rfl rfl ?_
    refine js_cP (pc1 := 140) (as := [(.inr (.inr (some 226))), (.inl x5)]) (S0 := [(.inl v2)]) (m := 2) (L0 := [some (.inr (.inr (some 226))), some (.inl x5)]) rfl rfl rfl rfl rfl rfl rfl rfl (zrc_o rfl rfl) (by omega) (by omega) (z_M_get_ok N (by omega) (by omega) x5 hx5 A) (fun v3 _ hv3 => ?_)
    refine jt_eq (pc1 := 143) (t1 := 180) hv2 hv3 rfl rfl rfl (fun c4 => ?_) (fun c4 => ?_)
    · refine js_iinc (pc1 := 183) (L1 := [some (.inr (.inr (some 226))), none, none, some (.inl x3), some (.inl x4), some (.inl (x5 + 1))]) rfl rfl rfl rfl ?_
      refine js_goto (t1 := 114) rfl rfl ?_
      exact zG_to (L := [some (.inr (.inr (some 226))), none, none, some (.inl x3), some (.inl x4), some (.inl (zw (x5 + 1)))]) (S := []) ⟨rfl, ⟨rfl, ⟨rfl, ⟨zval_w (x5 + 1), trivial⟩⟩⟩⟩ (rfl) (hr114 x3 hx3 x4 hx4 (zw (x5 + 1)) (zw_rg (x5 + 1)) A)
    · refine js_aload (pc1 := 144) rfl rfl rfl ?_
      refine js_iload (pc1 := 146) rfl rfl rfl ?_
      refine js_aload (pc1 := 147) rfl rfl rfl ?_
      refine js_iconst (pc1 := 148) rfl rfl ?_
      refine js_aload (pc1 := 149) rfl rfl rfl ?_
      refine js_gfr (pc1 := 152) (j := 68) (r := 272) rfl rfl rfl rfl rfl ?_
      refine js_iload (pc1 := 154) rfl rfl rfl ?_
      refine jt_ald (pc1 := 155) rfl rfl rfl rfl rfl (fun v5 hv5 => ?_)
      refine js_aload (pc1 := 156) rfl rfl rfl ?_
      refine js_gfr (pc1 := 159) (j := 73) (r := 277) rfl rfl rfl rfl rfl ?_
      refine js_iconst (pc1 := 161) rfl rfl ?_
      refine js_iload (pc1 := 163) rfl rfl rfl ?_
      refine js_imul (pc1 := 164) rfl rfl ?_
      refine js_iload (pc1 := 166) rfl rfl rfl ?_
      refine js_iadd (pc1 := 167) rfl rfl ?_
      refine jt_ald (pc1 := 168) rfl rfl rfl rfl rfl (fun v6 hv6 => ?_)
      refine js_aload (pc1 := 169) rfl rfl rfl ?_
      refine js_iload (pc1 := 171) rfl rfl rfl ?_
      refine js_cP (pc1 := 174) (as := [(.inr (.inr (some 226))), (.inl x5)]) (S0 := [(.inl v6), (.inl v5), (.inl 5), (.inr (.inr (some 226))), (.inl x5), (.inr (.inr (some 226)))]) (m := 2) (L0 := [some (.inr (.inr (some 226))), some (.inl x5)]) rfl rfl rfl rfl rfl rfl rfl rfl (zrc_o rfl rfl) (by omega) (by omega) (z_M_get_ok N (by omega) (by omega) x5 hx5 A) (fun v7 _ hv7 => ?_)
      refine js_cI (pc1 := 177) (as := [(.inr (.inr (some 226))), (.inl 5), (.inl v5), (.inl v6), (.inl v7)]) (S0 := [(.inl x5), (.inr (.inr (some 226)))]) (m := 7) (L0 := [some (.inr (.inr (some 226))), some (.inl 5), some (.inl v5), some (.inl v6), some (.inl v7), none, none]) rfl rfl rfl rfl rfl rfl rfl rfl (zrc_o rfl rfl) (by omega) (by omega) (z_M_thing_ok N (by omega) (by omega) 5 (zlit rfl) v5 hv5 v6 hv6 v7 hv7 A) (fun v8 A9 _ hv8 => ?_)
      refine js_cV (pc1 := 180) (as := [(.inr (.inr (some 226))), (.inl x5), (.inl v8)]) (S0 := []) (m := 3) (L0 := [some (.inr (.inr (some 226))), some (.inl x5), some (.inl v8)]) rfl rfl rfl rfl rfl rfl rfl rfl (zrc_o rfl rfl) (by omega) (by omega) (z_M_set_ok N (by omega) (by omega) x5 hx5 v8 hv8 A9) (fun A10 _ => ?_)
      refine js_iinc (pc1 := 183) (L1 := [some (.inr (.inr (some 226))), none, none, some (.inl x3), some (.inl x4), some (.inl (x5 + 1))]) rfl rfl rfl rfl ?_
      refine js_goto (t1 := 114) rfl rfl ?_
      exact zG_to (L := [some (.inr (.inr (some 226))), none, none, some (.inl x3), some (.inl x4), some (.inl (zw (x5 + 1)))]) (S := []) ⟨rfl, ⟨rfl, ⟨rfl, ⟨zval_w (x5 + 1), trivial⟩⟩⟩⟩ (rfl) (hr114 x3 hx3 x4 hx4 (zw (x5 + 1)) (zw_rg (x5 + 1)) A10)
  · exact zG_to (L := [some (.inr (.inr (some 226))), none, none, some (.inl x3), none, none]) (S := []) ⟨rfl, ⟨rfl, trivial⟩⟩ (rfl) (z_M_ends_186_ok N hd hw x3 hx3 A)
theorem z_M_ends_114_lok{d w : Nat} (N : Nat) (hd : 4 ≤ d) (hw : 90 ≤ w) (n : Nat) : ∀ (x3 : Int) (hx3 : zrg x3) (x4 : Int) (hx4 : zrg x4) (x5 : Int) (hx5 : zrg x5) (A : zA), zG (z_M_ends_114_l N n x3 x4 x5 A) zPI d w 199 114 [some (.inr (.inr (some 226))), none, none, some (.inl x3), some (.inl x4), some (.inl x5)] [] A := by
  induction n with
  | zero => intros; exact zG_none
  | succ n ih =>
    intro x3 hx3 x4 hx4 x5 hx5 A
    exact z_M_ends_114_bok ih N hd hw x3 hx3 x4 hx4 x5 hx5 A
theorem z_M_ends_114_ok{d w : Nat} (N : Nat) (hd : 4 ≤ d) (hw : 90 ≤ w) (x3 : Int) (hx3 : zrg x3) (x4 : Int) (hx4 : zrg x4) (x5 : Int) (hx5 : zrg x5) (A : zA) : zG (z_M_ends_114 N x3 x4 x5 A) zPI d w 199 114 [some (.inr (.inr (some 226))), none, none, some (.inl x3), some (.inl x4), some (.inl x5)] [] A := z_M_ends_114_lok N hd hw N x3 hx3 x4 hx4 x5 hx5 A
theorem z_M_ends_63_ok{d w : Nat} (N : Nat) (hd : 4 ≤ d) (hw : 90 ≤ w) (x1 : Int) (hx1 : zrg x1) (x3 : Int) (hx3 : zrg x3) (x4 : Int) (hx4 : zrg x4) (A : zA) : zG (z_M_ends_63 N x1 x3 x4 A) zPI d w 199 63 [some (.inr (.inr (some 226))), some (.inl x1), none, some (.inl x3), some (.inl x4), none] [] A := by
  unfold z_M_ends_63
  refine js_aload (pc1 := 64) rfl rfl rfl ?_
  refine js_gfr (pc1 := 67) (j := 67) (r := 271) rfl rfl rfl rfl rfl ?_
  refine js_iload (pc1 := 69) rfl rfl rfl ?_
  refine jt_ald (pc1 := 70) rfl rfl rfl rfl rfl (fun v1 hv1 => ?_)
  refine js_iconst (pc1 := 71) rfl rfl ?_
  refine jt_eq (pc1 := 74) (t1 := 186) hv1 (zlit rfl) rfl rfl rfl (fun c2 => ?_) (fun c2 => ?_)
  · exact zG_to (L := [some (.inr (.inr (some 226))), none, none, some (.inl x3), none, none]) (S := []) ⟨rfl, ⟨rfl, trivial⟩⟩ (rfl) (z_M_ends_186_ok N hd hw x3 hx3 A)
  · refine js_aload (pc1 := 75) rfl rfl rfl ?_
    refine js_iload (pc1 := 76) rfl rfl rfl ?_
    refine js_iconst (pc1 := 78) rfl rfl ?_
    refine js_cV (pc1 := 81) (as := [(.inr (.inr (some 226))), (.inl x1), (.inl (-9))]) (S0 := []) (m := 3) (L0 := [some (.inr (.inr (some 226))), some (.inl x1), some (.inl (-9))]) rfl rfl rfl rfl rfl rfl rfl rfl (zrc_o rfl rfl) (by omega) (by omega) (z_M_says_ok N (by omega) (by omega) x1 hx1 (-9) (zlit rfl) A) (fun A3 _ => ?_)
    refine js_aload (pc1 := 82) rfl rfl rfl ?_
    refine js_aload (pc1 := 83) rfl rfl rfl ?_
    refine js_gfr (pc1 := 86) (j := 69) (r := 273) rfl rfl rfl rfl rfl ?_
    refine js_iload (pc1 := 88) rfl rfl rfl ?_
    refine jt_ald (pc1 := 89) rfl rfl rfl rfl rfl (fun v4 hv4 => ?_)
    refine jt_pi (pc1 := 92) (j := 81) rfl rfl rfl rfl rfl (fun A5 => ?_)
    refine js_aload (pc1 := 93) rfl rfl rfl ?_
    refine js_gfr (pc1 := 96) (j := 67) (r := 271) rfl rfl rfl rfl rfl ?_
    refine js_iload (pc1 := 98) rfl rfl rfl ?_
    refine jt_ald (pc1 := 99) rfl rfl rfl rfl rfl (fun v6 hv6 => ?_)
    refine js_iconst (pc1 := 100) rfl rfl ?_
    refine jt_ne (pc1 := 103) (t1 := 111) hv6 (zlit rfl) rfl rfl rfl (fun c7 => ?_) (fun c7 => ?_)
    · refine js_aload (pc1 := 104) rfl rfl rfl ?_
      refine js_iload (pc1 := 105) rfl rfl rfl ?_
      refine js_cV (pc1 := 108) (as := [(.inr (.inr (some 226))), (.inl x1)]) (S0 := []) (m := 4) (L0 := [some (.inr (.inr (some 226))), some (.inl x1), none, none]) rfl rfl rfl rfl rfl rfl rfl rfl (zrc_o rfl rfl) (by omega) (by omega) (z_M_leaves_ok N (by omega) (by omega) x1 hx1 A5) (fun A8 _ => ?_)
      refine js_goto (t1 := 186) rfl rfl ?_
      exact zG_to (L := [some (.inr (.inr (some 226))), none, none, some (.inl x3), none, none]) (S := []) ⟨rfl, ⟨rfl, trivial⟩⟩ (rfl) (z_M_ends_186_ok N hd hw x3 hx3 A8)
    · refine js_iconst (pc1 := 112) rfl rfl ?_
      refine js_istore (pc1 := 114) (L1 := [some (.inr (.inr (some 226))), some (.inl x1), none, some (.inl x3), some (.inl x4), some (.inl 0)]) rfl rfl rfl rfl ?_
      exact zG_to (L := [some (.inr (.inr (some 226))), none, none, some (.inl x3), some (.inl x4), some (.inl 0)]) (S := []) ⟨rfl, ⟨rfl, ⟨rfl, ⟨rfl, trivial⟩⟩⟩⟩ (rfl) (z_M_ends_114_ok N hd hw x3 hx3 x4 hx4 0 (zlit rfl) A5)
theorem z_M_ends_ok{d w : Nat} (N : Nat) (hd : 4 ≤ d) (hw : 90 ≤ w) (x1 : Int) (hx1 : zrg x1) (x2 : Int) (hx2 : zrg x2) (x3 : Int) (hx3 : zrg x3) (A : zA) : zG (z_M_ends N x1 x2 x3 A) zPI d w 199 0 [some (.inr (.inr (some 226))), some (.inl x1), some (.inl x2), some (.inl x3), none, none] [] A := by
  unfold z_M_ends
  refine js_aload (pc1 := 1) rfl rfl rfl ?_
  refine js_gi (pc1 := 4) (j := 66) rfl rfl rfl rfl ?_
  refine js_iconst (pc1 := 5) rfl rfl ?_
  refine js_isub (pc1 := 6) rfl rfl ?_
  refine zG_w1 ?_
  refine js_istore (pc1 := 8) (L1 := [some (.inr (.inr (some 226))), some (.inl x1), some (.inl x2), some (.inl x3), some (.inl (zw ((zi A 226 66) - 1))), none]) rfl rfl rfl rfl ?_
  refine js_aload (pc1 := 9) rfl rfl rfl ?_
  refine js_gfr (pc1 := 12) (j := 67) (r := 271) rfl rfl rfl rfl rfl ?_
  refine js_iload (pc1 := 14) rfl rfl rfl ?_
  refine jt_ald (pc1 := 15) rfl rfl rfl rfl rfl (fun v1 hv1 => ?_)
  refine js_iconst (pc1 := 16) rfl rfl ?_
  refine jt_ne (pc1 := 19) (t1 := 63) hv1 (zlit rfl) rfl rfl rfl (fun c2 => ?_) (fun c2 => ?_)
  · refine js_aload (pc1 := 20) rfl rfl rfl ?_
    refine js_gfr (pc1 := 23) (j := 76) (r := 280) rfl rfl rfl rfl rfl ?_
    refine js_iload (pc1 := 25) rfl rfl rfl ?_
    refine jt_ald (pc1 := 26) rfl rfl rfl rfl rfl (fun v3 hv3 => ?_)
    refine ju_eq (pc1 := 29) (t1 := 63) hv3 rfl rfl rfl (fun c4 => ?_) (fun c4 => ?_)
    · exact zG_to (L := [some (.inr (.inr (some 226))), some (.inl x1), none, some (.inl x3), some (.inl (zw ((zi A 226 66) - 1))), none]) (S := []) ⟨rfl, ⟨rfl, ⟨rfl, ⟨rfl, trivial⟩⟩⟩⟩ (rfl) (z_M_ends_63_ok N hd hw x1 hx1 x3 hx3 (zw ((zi A 226 66) - 1)) (zw_rg ((zi A 226 66) - 1)) A)
    · refine js_aload (pc1 := 30) rfl rfl rfl ?_
      refine js_cI (pc1 := 33) (as := [(.inr (.inr (some 226)))]) (S0 := []) (m := 4) (L0 := [some (.inr (.inr (some 226))), none, none, none]) rfl rfl rfl rfl rfl rfl rfl rfl (zrc_o rfl rfl) (by omega) (by omega) (z_M_found_ok N (by omega) (by omega) A) (fun v5 A6 _ hv5 => ?_)
      refine ju_eq (pc1 := 36) (t1 := 44) hv5 rfl rfl rfl (fun c7 => ?_) (fun c7 => ?_)
      · refine js_aload (pc1 := 45) rfl rfl rfl ?_
        refine js_cV (pc1 := 48) (as := [(.inr (.inr (some 226)))]) (S0 := []) (m := 3) (L0 := [some (.inr (.inr (some 226))), none, none]) rfl rfl rfl rfl rfl rfl rfl rfl (zrc_o rfl rfl) (by omega) (by omega) (z_M_turn_ok N (by omega) (by omega) A6) (fun A8 _ => ?_)
        exact zG_to (L := [some (.inr (.inr (some 226))), none, some (.inl x2), some (.inl x3), none, none]) (S := []) ⟨rfl, ⟨rfl, ⟨rfl, trivial⟩⟩⟩ (rfl) (z_M_ends_48_ok N hd hw x2 hx2 x3 hx3 A8)
      · refine js_aload (pc1 := 37) rfl rfl rfl ?_
        refine js_iload (pc1 := 38) rfl rfl rfl ?_
        refine js_cV (pc1 := 41) (as := [(.inr (.inr (some 226))), (.inl x1)]) (S0 := []) (m := 5) (L0 := [some (.inr (.inr (some 226))), some (.inl x1), none, none, none]) rfl rfl rfl rfl rfl rfl rfl rfl (zrc_o rfl rfl) (by omega) (by omega) (z_M_aloud_ok N (by omega) (by omega) x1 hx1 A6) (fun A9 _ => ?_)
        refine js_goto (t1 := 48) rfl rfl ?_
        exact zG_to (L := [some (.inr (.inr (some 226))), none, some (.inl x2), some (.inl x3), none, none]) (S := []) ⟨rfl, ⟨rfl, ⟨rfl, trivial⟩⟩⟩ (rfl) (z_M_ends_48_ok N hd hw x2 hx2 x3 hx3 A9)
  · exact zG_to (L := [some (.inr (.inr (some 226))), some (.inl x1), none, some (.inl x3), some (.inl (zw ((zi A 226 66) - 1))), none]) (S := []) ⟨rfl, ⟨rfl, ⟨rfl, ⟨rfl, trivial⟩⟩⟩⟩ (rfl) (z_M_ends_63_ok N hd hw x1 hx1 x3 hx3 (zw ((zi A 226 66) - 1)) (zw_rg ((zi A 226 66) - 1)) A)
theorem z_M_circling_ok{d w : Nat} (N : Nat) (hd : 3 ≤ d) (hw : 66 ≤ w) (A : zA) : zG (z_M_circling N A) zPV d w 200 0 [some (.inr (.inr (some 226))), none] [] A := by
  unfold z_M_circling
  refine js_aload (pc1 := 1) rfl rfl rfl ?_
  refine js_iconst (pc1 := 2) rfl rfl ?_
  refine js_cV (pc1 := 5) (as := [(.inr (.inr (some 226))), (.inl 3)]) (S0 := []) (m := 2) (L0 := [some (.inr (.inr (some 226))), some (.inl 3)]) rfl rfl rfl rfl rfl rfl rfl rfl (zrc_o rfl rfl) (by omega) (by omega) (z_M_enterBlock_ok N (by omega) (by omega) 3 (zlit rfl) A) (fun A1 _ => ?_)
  refine js_aload (pc1 := 6) rfl rfl rfl ?_
  refine js_gi (pc1 := 9) (j := 66) rfl rfl rfl rfl ?_
  refine js_iconst (pc1 := 10) rfl rfl ?_
  refine js_isub (pc1 := 11) rfl rfl ?_
  refine zG_w1 ?_
  refine js_istore (pc1 := 12) (L1 := [some (.inr (.inr (some 226))), some (.inl (zw ((zi A1 226 66) - 1)))]) rfl rfl rfl rfl ?_
  refine js_aload (pc1 := 13) rfl rfl rfl ?_
  refine js_aload (pc1 := 14) rfl rfl rfl ?_
  refine js_gfr (pc1 := 17) (j := 74) (r := 278) rfl rfl rfl rfl rfl ?_
  refine js_cV (pc1 := 20) (as := [(.inr (.inr (some 226))), (.inr (.inr (some 278)))]) (S0 := []) (m := 3) (L0 := [some (.inr (.inr (some 226))), some (.inr (.inr (some 278))), none]) rfl rfl rfl rfl rfl rfl rfl rfl (zrc_o rfl rfl) (by omega) (by omega) (z_M_lay_278_ok N (by omega) (by omega) A1) (fun A2 _ => ?_)
  refine js_aload (pc1 := 21) rfl rfl rfl ?_
  refine js_gfr (pc1 := 24) (j := 75) (r := 279) rfl rfl rfl rfl rfl ?_
  refine js_iload (pc1 := 25) rfl rfl rfl ?_
  refine js_ldc2 (pc1 := 28) rfl rfl ?_
  refine jt_las (pc1 := 29) rfl rfl rfl rfl (fun A3 => ?_)
  refine js_aload (pc1 := 30) rfl rfl rfl ?_
  refine js_gfr (pc1 := 33) (j := 76) (r := 280) rfl rfl rfl rfl rfl ?_
  refine js_iload (pc1 := 34) rfl rfl rfl ?_
  refine js_iconst (pc1 := 35) rfl rfl ?_
  refine jt_basl (pc1 := 36) rfl rfl rfl rfl (Or.inr rfl) (fun A4 => ?_)
  refine js_aload (pc1 := 37) rfl rfl rfl ?_
  refine js_gfr (pc1 := 40) (j := 77) (r := 281) rfl rfl rfl rfl rfl ?_
  refine js_iload (pc1 := 41) rfl rfl rfl ?_
  refine js_aload (pc1 := 42) rfl rfl rfl ?_
  refine js_gi (pc1 := 45) (j := 64) rfl rfl rfl rfl ?_
  refine jt_ias (pc1 := 46) rfl rfl rfl rfl (fun A5 => ?_)
  refine js_aload (pc1 := 47) rfl rfl rfl ?_
  refine js_gfr (pc1 := 50) (j := 78) (r := 282) rfl rfl rfl rfl rfl ?_
  refine js_iload (pc1 := 51) rfl rfl rfl ?_
  refine js_aload (pc1 := 52) rfl rfl rfl ?_
  refine js_gi (pc1 := 55) (j := 65) rfl rfl rfl rfl ?_
  refine jt_ias (pc1 := 56) rfl rfl rfl rfl (fun A6 => ?_)
  refine js_aload (pc1 := 57) rfl rfl rfl ?_
  refine js_gfr (pc1 := 60) (j := 79) (r := 283) rfl rfl rfl rfl rfl ?_
  refine js_iload (pc1 := 61) rfl rfl rfl ?_
  refine js_aload (pc1 := 62) rfl rfl rfl ?_
  refine js_gi (pc1 := 65) (j := 42) rfl rfl rfl rfl ?_
  refine jt_ias (pc1 := 66) rfl rfl rfl rfl (fun A7 => ?_)
  refine js_aload (pc1 := 67) rfl rfl rfl ?_
  refine js_dupR (pc1 := 68) rfl rfl ?_
  refine js_gi (pc1 := 71) (j := 80) rfl rfl rfl rfl ?_
  refine js_iconst (pc1 := 72) rfl rfl ?_
  refine js_iadd (pc1 := 73) rfl rfl ?_
  refine jt_pi (pc1 := 76) (j := 80) rfl rfl rfl rfl rfl (fun A8 => ?_)
  refine js_aload (pc1 := 77) rfl rfl rfl ?_
  refine js_cV (pc1 := 80) (as := [(.inr (.inr (some 226)))]) (S0 := []) (m := 3) (L0 := [some (.inr (.inr (some 226))), none, none]) rfl rfl rfl rfl rfl rfl rfl rfl (zrc_o rfl rfl) (by omega) (by omega) (z_M_turn_ok N (by omega) (by omega) A8) (fun A9 _ => ?_)
  exact je_V rfl
theorem z_M_walk_145_ok{d w : Nat} {r122 : Int → Int → Int → Int → zA → Option zA} (hr122 : ∀ (x1 : Int) (hx1 : zrg x1) (x2 : Int) (hx2 : zrg x2) (x4 : Int) (hx4 : zrg x4) (x5 : Int) (hx5 : zrg x5) (A : zA), zG (r122 x1 x2 x4 x5 A) zPV d w 148 122 [some (.inr (.inr (some 226))), some (.inl x1), some (.inl x2), none, some (.inl x4), some (.inl x5), none, none] [] A) (N : Nat) (hd : 5 ≤ d) (hw : 115 ≤ w) (x1 : Int) (hx1 : zrg x1) (x2 : Int) (hx2 : zrg x2) (x4 : Int) (hx4 : zrg x4) (x5 : Int) (hx5 : zrg x5) (A : zA) : zG (z_M_walk_145 r122 N x1 x2 x4 x5 A) zPV d w 148 145 [some (.inr (.inr (some 226))), some (.inl x1), some (.inl x2), none, some (.inl x4), some (.inl x5), none, none] [] A := by
  unfold z_M_walk_145
  refine js_iload (pc1 := 147) rfl rfl rfl ?_
  refine js_aload (pc1 := 148) rfl rfl rfl ?_
  refine js_gfr (pc1 := 151) (j := 4) (r := 229) rfl rfl rfl rfl rfl ?_
  refine js_iload (pc1 := 152) rfl rfl rfl ?_
  refine js_iload (pc1 := 154) rfl rfl rfl ?_
  refine js_cP (pc1 := 157) (as := [(.inl x2), (.inl x4)]) (S0 := [(.inr (.inr (some 229))), (.inl x5)]) (m := 2) (L0 := [some (.inl x2), some (.inl x4)]) rfl rfl rfl rfl rfl rfl rfl rfl (zrc_s rfl) (by omega) (by omega) (z_M_row_ok N (by omega) (by omega) x2 hx2 x4 hx4 A) (fun v1 _ hv1 => ?_)
  refine jt_ald (pc1 := 158) rfl rfl rfl rfl rfl (fun v2 hv2 => ?_)
  refine jt_lt (pc1 := 161) (t1 := 196) hx5 hv2 rfl rfl rfl (fun c3 => ?_) (fun c3 => ?_)
  · refine js_aload (pc1 := 197) rfl rfl rfl ?_
    refine js_iload (pc1 := 198) rfl rfl rfl ?_
    refine js_iload (pc1 := 200) rfl rfl rfl ?_
    refine js_iload (pc1 := 202) rfl rfl rfl ?_
    refine js_iconst (pc1 := 203) rfl rfl ?_
    refine js_cP (pc1 := 206) (as := [(.inr (.inr (some 226))), (.inl x2), (.inl x4), (.inl x5), (.inl 0)]) (S0 := []) (m := 5) (L0 := [some (.inr (.inr (some 226))), some (.inl x2), some (.inl x4), some (.inl x5), some (.inl 0)]) rfl rfl rfl rfl rfl rfl rfl rfl (zrc_o rfl rfl) (by omega) (by omega) (z_M_field_ok N (by omega) (by omega) x2 hx2 x4 hx4 x5 hx5 0 (zlit rfl) A) (fun v4 _ hv4 => ?_)
    refine js_istore (pc1 := 208) (L1 := [some (.inr (.inr (some 226))), some (.inl x1), some (.inl x2), none, some (.inl x4), some (.inl x5), some (.inl v4), none]) rfl rfl rfl rfl ?_
    refine js_iload (pc1 := 210) rfl rfl rfl ?_
    refine js_iconst (pc1 := 212) rfl rfl ?_
    refine jt_ge (pc1 := 215) (t1 := 231) hv4 (zlit rfl) rfl rfl rfl (fun c5 => ?_) (fun c5 => ?_)
    · refine js_aload (pc1 := 216) rfl rfl rfl ?_
      refine js_iload (pc1 := 217) rfl rfl rfl ?_
      refine js_iload (pc1 := 218) rfl rfl rfl ?_
      refine js_iload (pc1 := 220) rfl rfl rfl ?_
      refine js_iload (pc1 := 222) rfl rfl rfl ?_
      refine js_cV (pc1 := 225) (as := [(.inr (.inr (some 226))), (.inl x1), (.inl x2), (.inl x4), (.inl x5)]) (S0 := []) (m := 8) (L0 := [some (.inr (.inr (some 226))), some (.inl x1), some (.inl x2), some (.inl x4), some (.inl x5), none, none, none]) rfl rfl rfl rfl rfl rfl rfl rfl (zrc_o rfl rfl) (by omega) (by omega) (z_M_step_ok N (by omega) (by omega) x1 hx1 x2 hx2 x4 hx4 x5 hx5 A) (fun A6 _ => ?_)
      refine js_iinc (pc1 := 228) (L1 := [some (.inr (.inr (some 226))), some (.inl x1), some (.inl x2), none, some (.inl x4), some (.inl (x5 + 1)), some (.inl v4), none]) rfl rfl rfl rfl ?_
      refine js_goto (t1 := 414) rfl rfl ?_
      refine js_goto (t1 := 122) rfl rfl ?_
      exact zG_to (L := [some (.inr (.inr (some 226))), some (.inl x1), some (.inl x2), none, some (.inl x4), some (.inl (zw (x5 + 1))), none, none]) (S := []) ⟨rfl, ⟨rfl, ⟨rfl, ⟨rfl, ⟨zval_w (x5 + 1), trivial⟩⟩⟩⟩⟩ (rfl) (hr122 x1 hx1 x2 hx2 x4 hx4 (zw (x5 + 1)) (zw_rg (x5 + 1)) A6)
    · refine js_iload (pc1 := 233) rfl rfl rfl ?_
      refine js_iconst (pc1 := 235) rfl rfl ?_
      refine jt_ne (pc1 := 238) (t1 := 286) hv4 (zlit rfl) rfl rfl rfl (fun c7 => ?_) (fun c7 => ?_)
      · refine js_aload (pc1 := 239) rfl rfl rfl ?_
        refine js_iload (pc1 := 240) rfl rfl rfl ?_
        refine js_iload (pc1 := 242) rfl rfl rfl ?_
        refine js_iload (pc1 := 244) rfl rfl rfl ?_
        refine js_iconst (pc1 := 245) rfl rfl ?_
        refine js_cP (pc1 := 248) (as := [(.inr (.inr (some 226))), (.inl x2), (.inl x4), (.inl x5), (.inl 2)]) (S0 := []) (m := 5) (L0 := [some (.inr (.inr (some 226))), some (.inl x2), some (.inl x4), some (.inl x5), some (.inl 2)]) rfl rfl rfl rfl rfl rfl rfl rfl (zrc_o rfl rfl) (by omega) (by omega) (z_M_field_ok N (by omega) (by omega) x2 hx2 x4 hx4 x5 hx5 2 (zlit rfl) A) (fun v8 _ hv8 => ?_)
        refine js_istore (pc1 := 250) (L1 := [some (.inr (.inr (some 226))), some (.inl x1), some (.inl x2), none, some (.inl x4), some (.inl x5), some (.inl v4), some (.inl v8)]) rfl rfl rfl rfl ?_
        refine js_aload (pc1 := 251) rfl rfl rfl ?_
        refine js_iload (pc1 := 253) rfl rfl rfl ?_
        refine js_iload (pc1 := 255) rfl rfl rfl ?_
        refine js_iconst (pc1 := 256) rfl rfl ?_
        refine js_iadd (pc1 := 257) rfl rfl ?_
        refine js_iload (pc1 := 259) rfl rfl rfl ?_
        refine js_aload (pc1 := 260) rfl rfl rfl ?_
        refine js_aload (pc1 := 261) rfl rfl rfl ?_
        refine js_iload (pc1 := 262) rfl rfl rfl ?_
        refine js_iload (pc1 := 264) rfl rfl rfl ?_
        refine js_iload (pc1 := 266) rfl rfl rfl ?_
        refine js_iconst (pc1 := 267) rfl rfl ?_
        refine js_cP (pc1 := 270) (as := [(.inr (.inr (some 226))), (.inl x2), (.inl x4), (.inl x5), (.inl 1)]) (S0 := [(.inr (.inr (some 226))), (.inl v8), (.inl (x5 + 1)), (.inl x4), (.inr (.inr (some 226)))]) (m := 5) (L0 := [some (.inr (.inr (some 226))), some (.inl x2), some (.inl x4), some (.inl x5), some (.inl 1)]) rfl rfl rfl rfl rfl rfl rfl rfl (zrc_o rfl rfl) (by omega) (by omega) (z_M_field_ok N (by omega) (by omega) x2 hx2 x4 hx4 x5 hx5 1 (zlit rfl) A) (fun v9 _ hv9 => ?_)
        refine js_cP (pc1 := 273) (as := [(.inr (.inr (some 226))), (.inl v9)]) (S0 := [(.inl v8), (.inl (x5 + 1)), (.inl x4), (.inr (.inr (some 226)))]) (m := 2) (L0 := [some (.inr (.inr (some 226))), some (.inl v9)]) rfl rfl rfl rfl rfl rfl rfl rfl (zrc_o rfl rfl) (by omega) (by omega) (z_M_get_ok N (by omega) (by omega) v9 hv9 A) (fun v10 _ hv10 => ?_)
        refine js_cV (pc1 := 276) (as := [(.inr (.inr (some 226))), (.inl x4), (.inl (x5 + 1)), (.inl v8), (.inl v10)]) (S0 := []) (m := 7) (L0 := [some (.inr (.inr (some 226))), some (.inl x4), some (.inl (x5 + 1)), some (.inl v8), some (.inl v10), none, none]) rfl rfl rfl rfl rfl rfl rfl rfl (zrc_o rfl rfl) (by omega) (by omega) (zG_to (L := [some (.inr (.inr (some 226))), some (.inl x4), some (.inl (zw (x5 + 1))), some (.inl v8), some (.inl v10), none, none]) (S := []) ⟨rfl, ⟨rfl, ⟨zval_w (x5 + 1), ⟨rfl, ⟨rfl, trivial⟩⟩⟩⟩⟩ rfl (z_M_enterPart_ok N (by omega) (by omega) x4 hx4 (zw (x5 + 1)) (zw_rg (x5 + 1)) v8 hv8 v10 hv10 A)) (fun A11 _ => ?_)
        refine js_iload (pc1 := 278) rfl rfl rfl ?_
        refine js_istore (pc1 := 280) (L1 := [some (.inr (.inr (some 226))), some (.inl x1), some (.inl x2), none, some (.inl v8), some (.inl x5), some (.inl v4), some (.inl v8)]) rfl rfl rfl rfl ?_
        refine js_iconst (pc1 := 281) rfl rfl ?_
        refine js_istore (pc1 := 283) (L1 := [some (.inr (.inr (some 226))), some (.inl x1), some (.inl x2), none, some (.inl v8), some (.inl 0), some (.inl v4), some (.inl v8)]) rfl rfl rfl rfl ?_
        refine js_goto (t1 := 414) rfl rfl ?_
        refine js_goto (t1 := 122) rfl rfl ?_
        exact zG_to (L := [some (.inr (.inr (some 226))), some (.inl x1), some (.inl x2), none, some (.inl v8), some (.inl 0), none, none]) (S := []) ⟨rfl, ⟨rfl, ⟨rfl, ⟨rfl, ⟨rfl, trivial⟩⟩⟩⟩⟩ (rfl) (hr122 x1 hx1 x2 hx2 v8 hv8 0 (zlit rfl) A11)
      · refine js_iload (pc1 := 288) rfl rfl rfl ?_
        refine js_iconst (pc1 := 290) rfl rfl ?_
        refine jt_ne (pc1 := 293) (t1 := 321) hv4 (zlit rfl) rfl rfl rfl (fun c12 => ?_) (fun c12 => ?_)
        · refine js_aload (pc1 := 294) rfl rfl rfl ?_
          refine js_iload (pc1 := 295) rfl rfl rfl ?_
          refine js_iload (pc1 := 297) rfl rfl rfl ?_
          refine js_iload (pc1 := 299) rfl rfl rfl ?_
          refine js_aload (pc1 := 300) rfl rfl rfl ?_
          refine js_aload (pc1 := 301) rfl rfl rfl ?_
          refine js_iload (pc1 := 302) rfl rfl rfl ?_
          refine js_iload (pc1 := 304) rfl rfl rfl ?_
          refine js_iload (pc1 := 306) rfl rfl rfl ?_
          refine js_iconst (pc1 := 307) rfl rfl ?_
          refine js_cP (pc1 := 310) (as := [(.inr (.inr (some 226))), (.inl x2), (.inl x4), (.inl x5), (.inl 1)]) (S0 := [(.inr (.inr (some 226))), (.inl x5), (.inl x4), (.inl x1), (.inr (.inr (some 226)))]) (m := 5) (L0 := [some (.inr (.inr (some 226))), some (.inl x2), some (.inl x4), some (.inl x5), some (.inl 1)]) rfl rfl rfl rfl rfl rfl rfl rfl (zrc_o rfl rfl) (by omega) (by omega) (z_M_field_ok N (by omega) (by omega) x2 hx2 x4 hx4 x5 hx5 1 (zlit rfl) A) (fun v13 _ hv13 => ?_)
          refine js_cP (pc1 := 313) (as := [(.inr (.inr (some 226))), (.inl v13)]) (S0 := [(.inl x5), (.inl x4), (.inl x1), (.inr (.inr (some 226)))]) (m := 2) (L0 := [some (.inr (.inr (some 226))), some (.inl v13)]) rfl rfl rfl rfl rfl rfl rfl rfl (zrc_o rfl rfl) (by omega) (by omega) (z_M_get_ok N (by omega) (by omega) v13 hv13 A) (fun v14 _ hv14 => ?_)
          refine js_cI (pc1 := 316) (as := [(.inr (.inr (some 226))), (.inl x1), (.inl x4), (.inl x5), (.inl v14)]) (S0 := []) (m := 5) (L0 := [some (.inr (.inr (some 226))), some (.inl x1), some (.inl x4), some (.inl x5), some (.inl v14)]) rfl rfl rfl rfl rfl rfl rfl rfl (zrc_o rfl rfl) (by omega) (by omega) (z_M_choose_ok N (by omega) (by omega) x1 hx1 x4 hx4 x5 hx5 v14 hv14 A) (fun v15 A16 _ hv15 => ?_)
          refine js_istore (pc1 := 318) (L1 := [some (.inr (.inr (some 226))), some (.inl x1), some (.inl x2), none, some (.inl x4), some (.inl v15), some (.inl v4), none]) rfl rfl rfl rfl ?_
          refine js_goto (t1 := 414) rfl rfl ?_
          refine js_goto (t1 := 122) rfl rfl ?_
          exact zG_to (L := [some (.inr (.inr (some 226))), some (.inl x1), some (.inl x2), none, some (.inl x4), some (.inl v15), none, none]) (S := []) ⟨rfl, ⟨rfl, ⟨rfl, ⟨rfl, ⟨rfl, trivial⟩⟩⟩⟩⟩ (rfl) (hr122 x1 hx1 x2 hx2 x4 hx4 v15 hv15 A16)
        · refine js_iload (pc1 := 323) rfl rfl rfl ?_
          refine js_iconst (pc1 := 325) rfl rfl ?_
          refine jt_ne (pc1 := 328) (t1 := 342) hv4 (zlit rfl) rfl rfl rfl (fun c17 => ?_) (fun c17 => ?_)
          · refine js_aload (pc1 := 329) rfl rfl rfl ?_
            refine js_iload (pc1 := 330) rfl rfl rfl ?_
            refine js_iload (pc1 := 332) rfl rfl rfl ?_
            refine js_iload (pc1 := 334) rfl rfl rfl ?_
            refine js_cI (pc1 := 337) (as := [(.inr (.inr (some 226))), (.inl x1), (.inl x4), (.inl x5)]) (S0 := []) (m := 4) (L0 := [some (.inr (.inr (some 226))), some (.inl x1), some (.inl x4), some (.inl x5)]) rfl rfl rfl rfl rfl rfl rfl rfl (zrc_o rfl rfl) (by omega) (by omega) (z_M_other_ok N (by omega) (by omega) x1 hx1 x4 hx4 x5 hx5 A) (fun v18 A19 _ hv18 => ?_)
            refine js_istore (pc1 := 339) (L1 := [some (.inr (.inr (some 226))), some (.inl x1), some (.inl x2), none, some (.inl x4), some (.inl v18), some (.inl v4), none]) rfl rfl rfl rfl ?_
            refine js_goto (t1 := 414) rfl rfl ?_
            refine js_goto (t1 := 122) rfl rfl ?_
            exact zG_to (L := [some (.inr (.inr (some 226))), some (.inl x1), some (.inl x2), none, some (.inl x4), some (.inl v18), none, none]) (S := []) ⟨rfl, ⟨rfl, ⟨rfl, ⟨rfl, ⟨rfl, trivial⟩⟩⟩⟩⟩ (rfl) (hr122 x1 hx1 x2 hx2 x4 hx4 v18 hv18 A19)
          · refine js_iload (pc1 := 344) rfl rfl rfl ?_
            refine js_iconst (pc1 := 346) rfl rfl ?_
            refine jt_ne (pc1 := 349) (t1 := 363) hv4 (zlit rfl) rfl rfl rfl (fun c20 => ?_) (fun c20 => ?_)
            · refine js_aload (pc1 := 350) rfl rfl rfl ?_
              refine js_iload (pc1 := 351) rfl rfl rfl ?_
              refine js_iload (pc1 := 353) rfl rfl rfl ?_
              refine js_iload (pc1 := 355) rfl rfl rfl ?_
              refine js_cI (pc1 := 358) (as := [(.inr (.inr (some 226))), (.inl x1), (.inl x4), (.inl x5)]) (S0 := []) (m := 6) (L0 := [some (.inr (.inr (some 226))), some (.inl x1), some (.inl x4), some (.inl x5), none, none]) rfl rfl rfl rfl rfl rfl rfl rfl (zrc_o rfl rfl) (by omega) (by omega) (z_M_ends_ok N (by omega) (by omega) x1 hx1 x4 hx4 x5 hx5 A) (fun v21 A22 _ hv21 => ?_)
              refine js_istore (pc1 := 360) (L1 := [some (.inr (.inr (some 226))), some (.inl x1), some (.inl x2), none, some (.inl x4), some (.inl v21), some (.inl v4), none]) rfl rfl rfl rfl ?_
              refine js_goto (t1 := 414) rfl rfl ?_
              refine js_goto (t1 := 122) rfl rfl ?_
              exact zG_to (L := [some (.inr (.inr (some 226))), some (.inl x1), some (.inl x2), none, some (.inl x4), some (.inl v21), none, none]) (S := []) ⟨rfl, ⟨rfl, ⟨rfl, ⟨rfl, ⟨rfl, trivial⟩⟩⟩⟩⟩ (rfl) (hr122 x1 hx1 x2 hx2 x4 hx4 v21 hv21 A22)
            · refine js_iload (pc1 := 365) rfl rfl rfl ?_
              refine js_iconst (pc1 := 367) rfl rfl ?_
              refine jt_ne (pc1 := 370) (t1 := 377) hv4 (zlit rfl) rfl rfl rfl (fun c23 => ?_) (fun c23 => ?_)
              · refine js_aload (pc1 := 371) rfl rfl rfl ?_
                refine js_cV (pc1 := 374) (as := [(.inr (.inr (some 226)))]) (S0 := []) (m := 2) (L0 := [some (.inr (.inr (some 226))), none]) rfl rfl rfl rfl rfl rfl rfl rfl (zrc_o rfl rfl) (by omega) (by omega) (z_M_circling_ok N (by omega) (by omega) A) (fun A24 _ => ?_)
                refine js_goto (t1 := 411) rfl rfl ?_
                refine js_iinc (pc1 := 414) (L1 := [some (.inr (.inr (some 226))), some (.inl x1), some (.inl x2), none, some (.inl x4), some (.inl (x5 + 1)), some (.inl v4), none]) rfl rfl rfl rfl ?_
                refine js_goto (t1 := 122) rfl rfl ?_
                exact zG_to (L := [some (.inr (.inr (some 226))), some (.inl x1), some (.inl x2), none, some (.inl x4), some (.inl (zw (x5 + 1))), none, none]) (S := []) ⟨rfl, ⟨rfl, ⟨rfl, ⟨rfl, ⟨zval_w (x5 + 1), trivial⟩⟩⟩⟩⟩ (rfl) (hr122 x1 hx1 x2 hx2 x4 hx4 (zw (x5 + 1)) (zw_rg (x5 + 1)) A24)
              · refine js_aload (pc1 := 378) rfl rfl rfl ?_
                refine js_iload (pc1 := 379) rfl rfl rfl ?_
                refine js_iconst (pc1 := 381) rfl rfl ?_
                refine js_cV (pc1 := 384) (as := [(.inr (.inr (some 226))), (.inl x1), (.inl (-8))]) (S0 := []) (m := 3) (L0 := [some (.inr (.inr (some 226))), some (.inl x1), some (.inl (-8))]) rfl rfl rfl rfl rfl rfl rfl rfl (zrc_o rfl rfl) (by omega) (by omega) (z_M_says_ok N (by omega) (by omega) x1 hx1 (-8) (zlit rfl) A) (fun A25 _ => ?_)
                refine js_aload (pc1 := 385) rfl rfl rfl ?_
                refine js_iload (pc1 := 386) rfl rfl rfl ?_
                refine js_aload (pc1 := 387) rfl rfl rfl ?_
                refine js_aload (pc1 := 388) rfl rfl rfl ?_
                refine js_iload (pc1 := 389) rfl rfl rfl ?_
                refine js_iload (pc1 := 391) rfl rfl rfl ?_
                refine js_iload (pc1 := 393) rfl rfl rfl ?_
                refine js_iconst (pc1 := 394) rfl rfl ?_
                refine js_cP (pc1 := 397) (as := [(.inr (.inr (some 226))), (.inl x2), (.inl x4), (.inl x5), (.inl 1)]) (S0 := [(.inr (.inr (some 226))), (.inl x1), (.inr (.inr (some 226)))]) (m := 5) (L0 := [some (.inr (.inr (some 226))), some (.inl x2), some (.inl x4), some (.inl x5), some (.inl 1)]) rfl rfl rfl rfl rfl rfl rfl rfl (zrc_o rfl rfl) (by omega) (by omega) (z_M_field_ok N (by omega) (by omega) x2 hx2 x4 hx4 x5 hx5 1 (zlit rfl) A25) (fun v26 _ hv26 => ?_)
                refine js_cP (pc1 := 400) (as := [(.inr (.inr (some 226))), (.inl v26)]) (S0 := [(.inl x1), (.inr (.inr (some 226)))]) (m := 2) (L0 := [some (.inr (.inr (some 226))), some (.inl v26)]) rfl rfl rfl rfl rfl rfl rfl rfl (zrc_o rfl rfl) (by omega) (by omega) (z_M_get_ok N (by omega) (by omega) v26 hv26 A25) (fun v27 _ hv27 => ?_)
                refine js_cV (pc1 := 403) (as := [(.inr (.inr (some 226))), (.inl x1), (.inl v27)]) (S0 := []) (m := 3) (L0 := [some (.inr (.inr (some 226))), some (.inl x1), some (.inl v27)]) rfl rfl rfl rfl rfl rfl rfl rfl (zrc_o rfl rfl) (by omega) (by omega) (z_M_says_ok N (by omega) (by omega) x1 hx1 v27 hv27 A25) (fun A28 _ => ?_)
                refine js_aload (pc1 := 404) rfl rfl rfl ?_
                refine js_aload (pc1 := 405) rfl rfl rfl ?_
                refine js_gfr (pc1 := 408) (j := 72) (r := 276) rfl rfl rfl rfl rfl ?_
                refine js_cV (pc1 := 411) (as := [(.inr (.inr (some 226))), (.inr (.inr (some 276)))]) (S0 := []) (m := 3) (L0 := [some (.inr (.inr (some 226))), some (.inr (.inr (some 276))), none]) rfl rfl rfl rfl rfl rfl rfl rfl (zrc_o rfl rfl) (by omega) (by omega) (z_M_lay_276_ok N (by omega) (by omega) A28) (fun A29 _ => ?_)
                refine js_iinc (pc1 := 414) (L1 := [some (.inr (.inr (some 226))), some (.inl x1), some (.inl x2), none, some (.inl x4), some (.inl (x5 + 1)), some (.inl v4), none]) rfl rfl rfl rfl ?_
                refine js_goto (t1 := 122) rfl rfl ?_
                exact zG_to (L := [some (.inr (.inr (some 226))), some (.inl x1), some (.inl x2), none, some (.inl x4), some (.inl (zw (x5 + 1))), none, none]) (S := []) ⟨rfl, ⟨rfl, ⟨rfl, ⟨rfl, ⟨zval_w (x5 + 1), trivial⟩⟩⟩⟩⟩ (rfl) (hr122 x1 hx1 x2 hx2 x4 hx4 (zw (x5 + 1)) (zw_rg (x5 + 1)) A29)
  · refine js_aload (pc1 := 162) rfl rfl rfl ?_
    refine js_dupR (pc1 := 163) rfl rfl ?_
    refine js_gi (pc1 := 166) (j := 62) rfl rfl rfl rfl ?_
    refine js_iconst (pc1 := 167) rfl rfl ?_
    refine js_isub (pc1 := 168) rfl rfl ?_
    refine jt_pi (pc1 := 171) (j := 62) rfl rfl rfl rfl rfl (fun A30 => ?_)
    refine js_aload (pc1 := 172) rfl rfl rfl ?_
    refine js_gfr (pc1 := 175) (j := 60) (r := 269) rfl rfl rfl rfl rfl ?_
    refine js_aload (pc1 := 176) rfl rfl rfl ?_
    refine js_gi (pc1 := 179) (j := 62) rfl rfl rfl rfl ?_
    refine jt_ald (pc1 := 180) rfl rfl rfl rfl rfl (fun v31 hv31 => ?_)
    refine js_istore (pc1 := 182) (L1 := [some (.inr (.inr (some 226))), some (.inl x1), some (.inl x2), none, some (.inl v31), some (.inl x5), none, none]) rfl rfl rfl rfl ?_
    refine js_aload (pc1 := 183) rfl rfl rfl ?_
    refine js_gfr (pc1 := 186) (j := 61) (r := 270) rfl rfl rfl rfl rfl ?_
    refine js_aload (pc1 := 187) rfl rfl rfl ?_
    refine js_gi (pc1 := 190) (j := 62) rfl rfl rfl rfl ?_
    refine jt_ald (pc1 := 191) rfl rfl rfl rfl rfl (fun v32 hv32 => ?_)
    refine js_istore (pc1 := 193) (L1 := [some (.inr (.inr (some 226))), some (.inl x1), some (.inl x2), none, some (.inl v31), some (.inl v32), none, none]) rfl rfl rfl rfl ?_
    refine js_goto (t1 := 122) rfl rfl ?_
    exact hr122 x1 hx1 x2 hx2 v31 hv31 v32 hv32 A30
theorem z_M_walk_122_bok{d w : Nat} {r122 : Int → Int → Int → Int → zA → Option zA} (hr122 : ∀ (x1 : Int) (hx1 : zrg x1) (x2 : Int) (hx2 : zrg x2) (x4 : Int) (hx4 : zrg x4) (x5 : Int) (hx5 : zrg x5) (A : zA), zG (r122 x1 x2 x4 x5 A) zPV d w 148 122 [some (.inr (.inr (some 226))), some (.inl x1), some (.inl x2), none, some (.inl x4), some (.inl x5), none, none] [] A) (N : Nat) (hd : 5 ≤ d) (hw : 115 ≤ w) (x1 : Int) (hx1 : zrg x1) (x2 : Int) (hx2 : zrg x2) (x4 : Int) (hx4 : zrg x4) (x5 : Int) (hx5 : zrg x5) (A : zA) : zG (z_M_walk_122_b r122 N x1 x2 x4 x5 A) zPV d w 148 122 [some (.inr (.inr (some 226))), some (.inl x1), some (.inl x2), none, some (.inl x4), some (.inl x5), none, none] [] A := by
  unfold z_M_walk_122_b
  refine js_aload (pc1 := 123) rfl rfl rfl ?_
  refine js_gi (pc1 := 126) (j := 62) rfl rfl rfl rfl ?_
  refine ju_gt (pc1 := 129) (t1 := 145) (zi_rg _ _ _) rfl rfl rfl (fun c1 => ?_) (fun c1 => ?_)
  · exact z_M_walk_145_ok hr122 N hd hw x1 hx1 x2 hx2 x4 hx4 x5 hx5 A
  · refine js_iload (pc1 := 131) rfl rfl rfl ?_
    refine js_aload (pc1 := 132) rfl rfl rfl ?_
    refine js_gfr (pc1 := 135) (j := 4) (r := 229) rfl rfl rfl rfl rfl ?_
    refine js_iload (pc1 := 136) rfl rfl rfl ?_
    refine js_iload (pc1 := 138) rfl rfl rfl ?_
    refine js_cP (pc1 := 141) (as := [(.inl x2), (.inl x4)]) (S0 := [(.inr (.inr (some 229))), (.inl x5)]) (m := 2) (L0 := [some (.inl x2), some (.inl x4)]) rfl rfl rfl rfl rfl rfl rfl rfl (zrc_s rfl) (by omega) (by omega) (z_M_row_ok N (by omega) (by omega) x2 hx2 x4 hx4 A) (fun v2 _ hv2 => ?_)
    refine jt_ald (pc1 := 142) rfl rfl rfl rfl rfl (fun v3 hv3 => ?_)
    refine jt_ge (pc1 := 145) (t1 := 417) hx5 hv3 rfl rfl rfl (fun c4 => ?_) (fun c4 => ?_)
    · exact z_M_walk_145_ok hr122 N hd hw x1 hx1 x2 hx2 x4 hx4 x5 hx5 A
    · exact je_V rfl
theorem z_M_walk_122_lok{d w : Nat} (N : Nat) (hd : 5 ≤ d) (hw : 115 ≤ w) (n : Nat) : ∀ (x1 : Int) (hx1 : zrg x1) (x2 : Int) (hx2 : zrg x2) (x4 : Int) (hx4 : zrg x4) (x5 : Int) (hx5 : zrg x5) (A : zA), zG (z_M_walk_122_l N n x1 x2 x4 x5 A) zPV d w 148 122 [some (.inr (.inr (some 226))), some (.inl x1), some (.inl x2), none, some (.inl x4), some (.inl x5), none, none] [] A := by
  induction n with
  | zero => intros; exact zG_none
  | succ n ih =>
    intro x1 hx1 x2 hx2 x4 hx4 x5 hx5 A
    exact z_M_walk_122_bok ih N hd hw x1 hx1 x2 hx2 x4 hx4 x5 hx5 A
theorem z_M_walk_122_ok{d w : Nat} (N : Nat) (hd : 5 ≤ d) (hw : 115 ≤ w) (x1 : Int) (hx1 : zrg x1) (x2 : Int) (hx2 : zrg x2) (x4 : Int) (hx4 : zrg x4) (x5 : Int) (hx5 : zrg x5) (A : zA) : zG (z_M_walk_122 N x1 x2 x4 x5 A) zPV d w 148 122 [some (.inr (.inr (some 226))), some (.inl x1), some (.inl x2), none, some (.inl x4), some (.inl x5), none, none] [] A := z_M_walk_122_lok N hd hw N x1 hx1 x2 hx2 x4 hx4 x5 hx5 A
theorem z_M_walk_96_bok{d w : Nat} {r96 : Int → Int → Int → Int → zA → Option zA} (hr96 : ∀ (x1 : Int) (hx1 : zrg x1) (x2 : Int) (hx2 : zrg x2) (x3 : Int) (hx3 : zrg x3) (x4 : Int) (hx4 : zrg x4) (A : zA), zG (r96 x1 x2 x3 x4 A) zPV d w 148 96 [some (.inr (.inr (some 226))), some (.inl x1), some (.inl x2), some (.inl x3), some (.inl x4), none, none, none] [] A) (N : Nat) (hd : 5 ≤ d) (hw : 115 ≤ w) (x1 : Int) (hx1 : zrg x1) (x2 : Int) (hx2 : zrg x2) (x3 : Int) (hx3 : zrg x3) (x4 : Int) (hx4 : zrg x4) (A : zA) : zG (z_M_walk_96_b r96 N x1 x2 x3 x4 A) zPV d w 148 96 [some (.inr (.inr (some 226))), some (.inl x1), some (.inl x2), some (.inl x3), some (.inl x4), none, none, none] [] A := by
  unfold z_M_walk_96_b
  refine js_iload (pc1 := 98) rfl rfl rfl ?_
  refine js_iconst (pc1 := 100) rfl rfl ?_
  refine jt_ge (pc1 := 103) (t1 := 116) hx4 (zlit rfl) rfl rfl rfl (fun c1 => ?_) (fun c1 => ?_)
  · refine js_aload (pc1 := 104) rfl rfl rfl ?_
    refine js_iload (pc1 := 106) rfl rfl rfl ?_
    refine js_iload (pc1 := 107) rfl rfl rfl ?_
    refine js_cV (pc1 := 110) (as := [(.inr (.inr (some 226))), (.inl x4), (.inl x3)]) (S0 := []) (m := 3) (L0 := [some (.inr (.inr (some 226))), some (.inl x4), some (.inl x3)]) rfl rfl rfl rfl rfl rfl rfl rfl (zrc_o rfl rfl) (by omega) (by omega) (z_M_set_ok N (by omega) (by omega) x4 hx4 x3 hx3 A) (fun A2 _ => ?_)
    refine js_iinc (pc1 := 113) (L1 := [some (.inr (.inr (some 226))), some (.inl x1), some (.inl x2), some (.inl x3), some (.inl (x4 + 1)), none, none, none]) rfl rfl rfl rfl ?_
    refine js_goto (t1 := 96) rfl rfl ?_
    exact zG_to (L := [some (.inr (.inr (some 226))), some (.inl x1), some (.inl x2), some (.inl x3), some (.inl (zw (x4 + 1))), none, none, none]) (S := []) ⟨rfl, ⟨rfl, ⟨rfl, ⟨rfl, ⟨zval_w (x4 + 1), trivial⟩⟩⟩⟩⟩ (rfl) (hr96 x1 hx1 x2 hx2 x3 hx3 (zw (x4 + 1)) (zw_rg (x4 + 1)) A2)
  · refine js_iconst (pc1 := 117) rfl rfl ?_
    refine js_istore (pc1 := 119) (L1 := [some (.inr (.inr (some 226))), some (.inl x1), some (.inl x2), some (.inl x3), some (.inl 3), none, none, none]) rfl rfl rfl rfl ?_
    refine js_iconst (pc1 := 120) rfl rfl ?_
    refine js_istore (pc1 := 122) (L1 := [some (.inr (.inr (some 226))), some (.inl x1), some (.inl x2), some (.inl x3), some (.inl 3), some (.inl 0), none, none]) rfl rfl rfl rfl ?_
    exact zG_to (L := [some (.inr (.inr (some 226))), some (.inl x1), some (.inl x2), none, some (.inl 3), some (.inl 0), none, none]) (S := []) ⟨rfl, ⟨rfl, ⟨rfl, ⟨rfl, ⟨rfl, trivial⟩⟩⟩⟩⟩ (rfl) (z_M_walk_122_ok N hd hw x1 hx1 x2 hx2 3 (zlit rfl) 0 (zlit rfl) A)
theorem z_M_walk_96_lok{d w : Nat} (N : Nat) (hd : 5 ≤ d) (hw : 115 ≤ w) (n : Nat) : ∀ (x1 : Int) (hx1 : zrg x1) (x2 : Int) (hx2 : zrg x2) (x3 : Int) (hx3 : zrg x3) (x4 : Int) (hx4 : zrg x4) (A : zA), zG (z_M_walk_96_l N n x1 x2 x3 x4 A) zPV d w 148 96 [some (.inr (.inr (some 226))), some (.inl x1), some (.inl x2), some (.inl x3), some (.inl x4), none, none, none] [] A := by
  induction n with
  | zero => intros; exact zG_none
  | succ n ih =>
    intro x1 hx1 x2 hx2 x3 hx3 x4 hx4 A
    exact z_M_walk_96_bok ih N hd hw x1 hx1 x2 hx2 x3 hx3 x4 hx4 A
theorem z_M_walk_96_ok{d w : Nat} (N : Nat) (hd : 5 ≤ d) (hw : 115 ≤ w) (x1 : Int) (hx1 : zrg x1) (x2 : Int) (hx2 : zrg x2) (x3 : Int) (hx3 : zrg x3) (x4 : Int) (hx4 : zrg x4) (A : zA) : zG (z_M_walk_96 N x1 x2 x3 x4 A) zPV d w 148 96 [some (.inr (.inr (some 226))), some (.inl x1), some (.inl x2), some (.inl x3), some (.inl x4), none, none, none] [] A := z_M_walk_96_lok N hd hw N x1 hx1 x2 hx2 x3 hx3 x4 hx4 A
theorem z_M_walk_27_ok{d w : Nat} (N : Nat) (hd : 5 ≤ d) (hw : 115 ≤ w) (x1 : Int) (hx1 : zrg x1) (x2 : Int) (hx2 : zrg x2) (A : zA) : zG (z_M_walk_27 N x1 x2 A) zPV d w 148 27 [some (.inr (.inr (some 226))), some (.inl x1), some (.inl x2), none, none, none, none, none] [] A := by
  unfold z_M_walk_27
  refine js_aload (pc1 := 28) rfl rfl rfl ?_
  refine js_gfr (pc1 := 31) (j := 51) (r := 260) rfl rfl rfl rfl rfl ?_
  refine js_iload (pc1 := 32) rfl rfl rfl ?_
  refine js_iconst (pc1 := 33) rfl rfl ?_
  refine jt_ias (pc1 := 34) rfl rfl rfl rfl (fun A1 => ?_)
  refine js_aload (pc1 := 35) rfl rfl rfl ?_
  refine js_gfr (pc1 := 38) (j := 52) (r := 261) rfl rfl rfl rfl rfl ?_
  refine js_iload (pc1 := 39) rfl rfl rfl ?_
  refine js_iconst (pc1 := 40) rfl rfl ?_
  refine jt_ias (pc1 := 41) rfl rfl rfl rfl (fun A2 => ?_)
  refine js_aload (pc1 := 42) rfl rfl rfl ?_
  refine js_iconst (pc1 := 43) rfl rfl ?_
  refine jt_pi (pc1 := 46) (j := 66) rfl rfl rfl rfl rfl (fun A3 => ?_)
  refine js_aload (pc1 := 47) rfl rfl rfl ?_
  refine js_iconst (pc1 := 48) rfl rfl ?_
  refine jt_pi (pc1 := 51) (j := 81) rfl rfl rfl rfl rfl (fun A4 => ?_)
  refine js_aload (pc1 := 52) rfl rfl rfl ?_
  refine js_iconst (pc1 := 53) rfl rfl ?_
  refine jt_pi (pc1 := 56) (j := 64) rfl rfl rfl rfl rfl (fun A5 => ?_)
  refine js_aload (pc1 := 57) rfl rfl rfl ?_
  refine js_iconst (pc1 := 58) rfl rfl ?_
  refine jt_pi (pc1 := 61) (j := 65) rfl rfl rfl rfl rfl (fun A6 => ?_)
  refine js_aload (pc1 := 62) rfl rfl rfl ?_
  refine js_iconst (pc1 := 63) rfl rfl ?_
  refine jt_pi (pc1 := 66) (j := 80) rfl rfl rfl rfl rfl (fun A7 => ?_)
  refine js_aload (pc1 := 67) rfl rfl rfl ?_
  refine js_iconst (pc1 := 68) rfl rfl ?_
  refine jt_pi (pc1 := 71) (j := 62) rfl rfl rfl rfl rfl (fun A8 => ?_)
  refine js_aload (pc1 := 72) rfl rfl rfl ?_
  refine js_aload (pc1 := 73) rfl rfl rfl ?_
  refine js_iconst (pc1 := 75) rfl rfl ?_
  refine js_iconst (pc1 := 76) rfl rfl ?_
  refine js_iconst (pc1 := 77) rfl rfl ?_
  refine js_iconst (pc1 := 78) rfl rfl ?_
  refine js_cI (pc1 := 81) (as := [(.inr (.inr (some 226))), (.inl 7), (.inl 0), (.inl 0), (.inl 0)]) (S0 := [(.inr (.inr (some 226)))]) (m := 7) (L0 := [some (.inr (.inr (some 226))), some (.inl 7), some (.inl 0), some (.inl 0), some (.inl 0), none, none]) rfl rfl rfl rfl rfl rfl rfl rfl (zrc_o rfl rfl) (by omega) (by omega) (z_M_thing_ok N (by omega) (by omega) 7 (zlit rfl) 0 (zlit rfl) 0 (zlit rfl) 0 (zlit rfl) A8) (fun v9 A10 _ hv9 => ?_)
  refine jt_pi (pc1 := 84) (j := 63) rfl rfl rfl rfl rfl (fun A11 => ?_)
  refine js_aload (pc1 := 85) rfl rfl rfl ?_
  refine js_iconst (pc1 := 86) rfl rfl ?_
  refine js_iconst (pc1 := 87) rfl rfl ?_
  refine js_iconst (pc1 := 88) rfl rfl ?_
  refine js_iconst (pc1 := 89) rfl rfl ?_
  refine js_cI (pc1 := 92) (as := [(.inr (.inr (some 226))), (.inl 0), (.inl 0), (.inl 0), (.inl 0)]) (S0 := []) (m := 7) (L0 := [some (.inr (.inr (some 226))), some (.inl 0), some (.inl 0), some (.inl 0), some (.inl 0), none, none]) rfl rfl rfl rfl rfl rfl rfl rfl (zrc_o rfl rfl) (by omega) (by omega) (z_M_thing_ok N (by omega) (by omega) 0 (zlit rfl) 0 (zlit rfl) 0 (zlit rfl) 0 (zlit rfl) A11) (fun v12 A13 _ hv12 => ?_)
  refine js_istore (pc1 := 93) (L1 := [some (.inr (.inr (some 226))), some (.inl x1), some (.inl x2), some (.inl v12), none, none, none, none]) rfl rfl rfl rfl ?_
  refine js_iconst (pc1 := 94) rfl rfl ?_
  refine js_istore (pc1 := 96) (L1 := [some (.inr (.inr (some 226))), some (.inl x1), some (.inl x2), some (.inl v12), some (.inl 0), none, none, none]) rfl rfl rfl rfl ?_
  exact z_M_walk_96_ok N hd hw x1 hx1 x2 hx2 v12 hv12 0 (zlit rfl) A13
theorem z_M_walk_2_bok{d w : Nat} {r2 : Int → Int → Int → zA → Option zA} (hr2 : ∀ (x1 : Int) (hx1 : zrg x1) (x2 : Int) (hx2 : zrg x2) (x3 : Int) (hx3 : zrg x3) (A : zA), zG (r2 x1 x2 x3 A) zPV d w 148 2 [some (.inr (.inr (some 226))), some (.inl x1), some (.inl x2), some (.inl x3), none, none, none, none] [] A) (N : Nat) (hd : 5 ≤ d) (hw : 115 ≤ w) (x1 : Int) (hx1 : zrg x1) (x2 : Int) (hx2 : zrg x2) (x3 : Int) (hx3 : zrg x3) (A : zA) : zG (z_M_walk_2_b r2 N x1 x2 x3 A) zPV d w 148 2 [some (.inr (.inr (some 226))), some (.inl x1), some (.inl x2), some (.inl x3), none, none, none, none] [] A := by
  unfold z_M_walk_2_b
  refine js_iload (pc1 := 3) rfl rfl rfl ?_
  refine js_iconst (pc1 := 4) rfl rfl ?_
  refine jt_ge (pc1 := 7) (t1 := 27) hx3 (zlit rfl) rfl rfl rfl (fun c1 => ?_) (fun c1 => ?_)
  · refine js_aload (pc1 := 8) rfl rfl rfl ?_
    refine js_iload (pc1 := 9) rfl rfl rfl ?_
    refine js_cP (pc1 := 12) (as := [(.inr (.inr (some 226))), (.inl x3)]) (S0 := []) (m := 2) (L0 := [some (.inr (.inr (some 226))), some (.inl x3)]) rfl rfl rfl rfl rfl rfl rfl rfl (zrc_o rfl rfl) (by omega) (by omega) (z_M_isThere_ok N (by omega) (by omega) x3 hx3 A) (fun v2 _ hv2 => ?_)
    refine ju_eq (pc1 := 15) (t1 := 21) hv2 rfl rfl rfl (fun c3 => ?_) (fun c3 => ?_)
    · refine js_iinc (pc1 := 24) (L1 := [some (.inr (.inr (some 226))), some (.inl x1), some (.inl x2), some (.inl (x3 + 1)), none, none, none, none]) rfl rfl rfl rfl ?_
      refine js_goto (t1 := 2) rfl rfl ?_
      exact zG_to (L := [some (.inr (.inr (some 226))), some (.inl x1), some (.inl x2), some (.inl (zw (x3 + 1))), none, none, none, none]) (S := []) ⟨rfl, ⟨rfl, ⟨rfl, ⟨zval_w (x3 + 1), trivial⟩⟩⟩⟩ (rfl) (hr2 x1 hx1 x2 hx2 (zw (x3 + 1)) (zw_rg (x3 + 1)) A)
    · refine js_aload (pc1 := 16) rfl rfl rfl ?_
      refine js_iload (pc1 := 17) rfl rfl rfl ?_
      refine js_iload (pc1 := 18) rfl rfl rfl ?_
      refine js_cV (pc1 := 21) (as := [(.inr (.inr (some 226))), (.inl x2), (.inl x3)]) (S0 := []) (m := 6) (L0 := [some (.inr (.inr (some 226))), some (.inl x2), some (.inl x3), none, none, none]) rfl rfl rfl rfl rfl rfl rfl rfl (zrc_o rfl rfl) (by omega) (by omega) (z_M_match_ok N (by omega) (by omega) x2 hx2 x3 hx3 A) (fun A4 _ => ?_)
      refine js_iinc (pc1 := 24) (L1 := [some (.inr (.inr (some 226))), some (.inl x1), some (.inl x2), some (.inl (x3 + 1)), none, none, none, none]) rfl rfl rfl rfl ?_
      refine js_goto (t1 := 2) rfl rfl ?_
      exact zG_to (L := [some (.inr (.inr (some 226))), some (.inl x1), some (.inl x2), some (.inl (zw (x3 + 1))), none, none, none, none]) (S := []) ⟨rfl, ⟨rfl, ⟨rfl, ⟨zval_w (x3 + 1), trivial⟩⟩⟩⟩ (rfl) (hr2 x1 hx1 x2 hx2 (zw (x3 + 1)) (zw_rg (x3 + 1)) A4)
  · exact zG_to (L := [some (.inr (.inr (some 226))), some (.inl x1), some (.inl x2), none, none, none, none, none]) (S := []) ⟨rfl, ⟨rfl, ⟨rfl, trivial⟩⟩⟩ (rfl) (z_M_walk_27_ok N hd hw x1 hx1 x2 hx2 A)
theorem z_M_walk_2_lok{d w : Nat} (N : Nat) (hd : 5 ≤ d) (hw : 115 ≤ w) (n : Nat) : ∀ (x1 : Int) (hx1 : zrg x1) (x2 : Int) (hx2 : zrg x2) (x3 : Int) (hx3 : zrg x3) (A : zA), zG (z_M_walk_2_l N n x1 x2 x3 A) zPV d w 148 2 [some (.inr (.inr (some 226))), some (.inl x1), some (.inl x2), some (.inl x3), none, none, none, none] [] A := by
  induction n with
  | zero => intros; exact zG_none
  | succ n ih =>
    intro x1 hx1 x2 hx2 x3 hx3 A
    exact z_M_walk_2_bok ih N hd hw x1 hx1 x2 hx2 x3 hx3 A
theorem z_M_walk_2_ok{d w : Nat} (N : Nat) (hd : 5 ≤ d) (hw : 115 ≤ w) (x1 : Int) (hx1 : zrg x1) (x2 : Int) (hx2 : zrg x2) (x3 : Int) (hx3 : zrg x3) (A : zA) : zG (z_M_walk_2 N x1 x2 x3 A) zPV d w 148 2 [some (.inr (.inr (some 226))), some (.inl x1), some (.inl x2), some (.inl x3), none, none, none, none] [] A := z_M_walk_2_lok N hd hw N x1 hx1 x2 hx2 x3 hx3 A
theorem z_M_walk_ok{d w : Nat} (N : Nat) (hd : 5 ≤ d) (hw : 115 ≤ w) (x1 : Int) (hx1 : zrg x1) (x2 : Int) (hx2 : zrg x2) (A : zA) : zG (z_M_walk N x1 x2 A) zPV d w 148 0 [some (.inr (.inr (some 226))), some (.inl x1), some (.inl x2), none, none, none, none, none] [] A := by
  unfold z_M_walk
  refine js_iconst (pc1 := 1) rfl rfl ?_
  refine js_istore (pc1 := 2) (L1 := [some (.inr (.inr (some 226))), some (.inl x1), some (.inl x2), some (.inl 0), none, none, none, none]) rfl rfl rfl rfl ?_
  exact z_M_walk_2_ok N hd hw x1 hx1 x2 hx2 0 (zlit rfl) A
theorem z_M_reach_ok{d w : Nat} (N : Nat) (hd : 0 ≤ d) (hw : 0 ≤ w) (x1 : Int) (hx1 : zrg x1) (A : zA) : zG (z_M_reach N x1 A) zPV d w 149 0 [some (.inr (.inr (some 226))), some (.inl x1)] [] A := by
  unfold z_M_reach
  refine js_aload (pc1 := 1) rfl rfl rfl ?_
  refine js_gfr (pc1 := 4) (j := 84) (r := 285) rfl rfl rfl rfl rfl ?_
  refine js_iload (pc1 := 5) rfl rfl rfl ?_
  refine jt_ald (pc1 := 6) rfl rfl rfl rfl rfl (fun v1 hv1 => ?_)
  refine ju_eq (pc1 := 9) (t1 := 10) hv1 rfl rfl rfl (fun c2 => ?_) (fun c2 => ?_)
  · refine js_aload (pc1 := 11) rfl rfl rfl ?_
    refine js_gfr (pc1 := 14) (j := 84) (r := 285) rfl rfl rfl rfl rfl ?_
    refine js_iload (pc1 := 15) rfl rfl rfl ?_
    refine js_iconst (pc1 := 16) rfl rfl ?_
    refine jt_basl (pc1 := 17) rfl rfl rfl rfl (Or.inr rfl) (fun A3 => ?_)
    refine js_aload (pc1 := 18) rfl rfl rfl ?_
    refine js_gfr (pc1 := 21) (j := 85) (r := 286) rfl rfl rfl rfl rfl ?_
    refine js_aload (pc1 := 22) rfl rfl rfl ?_
    refine js_gi (pc1 := 25) (j := 83) rfl rfl rfl rfl ?_
    refine js_iload (pc1 := 26) rfl rfl rfl ?_
    refine jt_ias (pc1 := 27) rfl rfl rfl rfl (fun A4 => ?_)
    refine js_aload (pc1 := 28) rfl rfl rfl ?_
    refine js_dupR (pc1 := 29) rfl rfl ?_
    refine js_gi (pc1 := 32) (j := 83) rfl rfl rfl rfl ?_
    refine js_iconst (pc1 := 33) rfl rfl ?_
    refine js_iadd (pc1 := 34) rfl rfl ?_
    refine jt_pi (pc1 := 37) (j := 83) rfl rfl rfl rfl rfl (fun A5 => ?_)
    exact je_V rfl
  · exact je_V rfl
theorem z_M_parts_64_ok{d w : Nat} (N : Nat) (hd : 1 ≤ d) (hw : 21 ≤ w) (x1 : Int) (hx1 : zrg x1) (A : zA) : zG (z_M_parts_64 N x1 A) zPI d w 150 64 [some (.inr (.inr (some 226))), some (.inl x1), none, none] [] A := by
  unfold z_M_parts_64
  refine js_aload (pc1 := 65) rfl rfl rfl ?_
  refine js_aload (pc1 := 66) rfl rfl rfl ?_
  refine js_gfr (pc1 := 69) (j := 45) (r := 254) rfl rfl rfl rfl rfl ?_
  refine js_iload (pc1 := 70) rfl rfl rfl ?_
  refine jt_ald (pc1 := 71) rfl rfl rfl rfl rfl (fun v1 hv1 => ?_)
  refine js_cV (pc1 := 74) (as := [(.inr (.inr (some 226))), (.inl v1)]) (S0 := []) (m := 2) (L0 := [some (.inr (.inr (some 226))), some (.inl v1)]) rfl rfl rfl rfl rfl rfl rfl rfl (zrc_o rfl rfl) (by omega) (by omega) (z_M_reach_ok N (by omega) (by omega) v1 hv1 A) (fun A2 _ => ?_)
  refine js_aload (pc1 := 75) rfl rfl rfl ?_
  refine js_gfr (pc1 := 78) (j := 43) (r := 252) rfl rfl rfl rfl rfl ?_
  refine js_iload (pc1 := 79) rfl rfl rfl ?_
  refine jt_ald (pc1 := 80) rfl rfl rfl rfl rfl (fun v3 hv3 => ?_)
  refine js_iconst (pc1 := 81) rfl rfl ?_
  refine jt_eq (pc1 := 84) (t1 := 94) hv3 (zlit rfl) rfl rfl rfl (fun c4 => ?_) (fun c4 => ?_)
  · refine js_iconst (pc1 := 95) rfl rfl ?_
    exact je_I rfl (zfit3 rfl (Or.inr rfl)) rfl (zlit rfl)
  · refine js_aload (pc1 := 85) rfl rfl rfl ?_
    refine js_aload (pc1 := 86) rfl rfl rfl ?_
    refine js_gfr (pc1 := 89) (j := 46) (r := 255) rfl rfl rfl rfl rfl ?_
    refine js_iload (pc1 := 90) rfl rfl rfl ?_
    refine jt_ald (pc1 := 91) rfl rfl rfl rfl rfl (fun v5 hv5 => ?_)
    refine js_cV (pc1 := 94) (as := [(.inr (.inr (some 226))), (.inl v5)]) (S0 := []) (m := 2) (L0 := [some (.inr (.inr (some 226))), some (.inl v5)]) rfl rfl rfl rfl rfl rfl rfl rfl (zrc_o rfl rfl) (by omega) (by omega) (z_M_reach_ok N (by omega) (by omega) v5 hv5 A2) (fun A6 _ => ?_)
    refine js_iconst (pc1 := 95) rfl rfl ?_
    exact je_I rfl (zfit3 rfl (Or.inr rfl)) rfl (zlit rfl)
theorem z_M_parts_ok{d w : Nat} (N : Nat) (hd : 1 ≤ d) (hw : 21 ≤ w) (x1 : Int) (hx1 : zrg x1) (A : zA) : zG (z_M_parts N x1 A) zPI d w 150 0 [some (.inr (.inr (some 226))), some (.inl x1), none, none] [] A := by
  unfold z_M_parts
  refine js_aload (pc1 := 1) rfl rfl rfl ?_
  refine js_gfr (pc1 := 4) (j := 43) (r := 252) rfl rfl rfl rfl rfl ?_
  refine js_iload (pc1 := 5) rfl rfl rfl ?_
  refine jt_ald (pc1 := 6) rfl rfl rfl rfl rfl (fun v1 hv1 => ?_)
  refine zG_ite (fun c6 => ?_) (fun c6 => ?_)
  · refine js_tsw (t1 := 44) rfl c6 (zlit rfl) (by decide) ?_
    refine js_aload (pc1 := 45) rfl rfl rfl ?_
    refine js_gfr (pc1 := 48) (j := 43) (r := 252) rfl rfl rfl rfl rfl ?_
    refine js_iload (pc1 := 49) rfl rfl rfl ?_
    refine jt_ald (pc1 := 50) rfl rfl rfl rfl rfl (fun v2 hv2 => ?_)
    refine js_iconst (pc1 := 51) rfl rfl ?_
    refine jt_eq (pc1 := 54) (t1 := 64) hv2 (zlit rfl) rfl rfl rfl (fun c3 => ?_) (fun c3 => ?_)
    · exact z_M_parts_64_ok N hd hw x1 hx1 A
    · refine js_aload (pc1 := 55) rfl rfl rfl ?_
      refine js_aload (pc1 := 56) rfl rfl rfl ?_
      refine js_gfr (pc1 := 59) (j := 44) (r := 253) rfl rfl rfl rfl rfl ?_
      refine js_iload (pc1 := 60) rfl rfl rfl ?_
      refine jt_ald (pc1 := 61) rfl rfl rfl rfl rfl (fun v4 hv4 => ?_)
      refine js_cV (pc1 := 64) (as := [(.inr (.inr (some 226))), (.inl v4)]) (S0 := []) (m := 2) (L0 := [some (.inr (.inr (some 226))), some (.inl v4)]) rfl rfl rfl rfl rfl rfl rfl rfl (zrc_o rfl rfl) (by omega) (by omega) (z_M_reach_ok N (by omega) (by omega) v4 hv4 A) (fun A5 _ => ?_)
      exact z_M_parts_64_ok N hd hw x1 hx1 A5
  refine zG_ite (fun c11 => ?_) (fun c11 => ?_)
  · refine js_tsw (t1 := 44) rfl c11 (zlit rfl) (by decide) ?_
    refine js_aload (pc1 := 45) rfl rfl rfl ?_
    refine js_gfr (pc1 := 48) (j := 43) (r := 252) rfl rfl rfl rfl rfl ?_
    refine js_iload (pc1 := 49) rfl rfl rfl ?_
    refine jt_ald (pc1 := 50) rfl rfl rfl rfl rfl (fun v7 hv7 => ?_)
    refine js_iconst (pc1 := 51) rfl rfl ?_
    refine jt_eq (pc1 := 54) (t1 := 64) hv7 (zlit rfl) rfl rfl rfl (fun c8 => ?_) (fun c8 => ?_)
    · exact z_M_parts_64_ok N hd hw x1 hx1 A
    · refine js_aload (pc1 := 55) rfl rfl rfl ?_
      refine js_aload (pc1 := 56) rfl rfl rfl ?_
      refine js_gfr (pc1 := 59) (j := 44) (r := 253) rfl rfl rfl rfl rfl ?_
      refine js_iload (pc1 := 60) rfl rfl rfl ?_
      refine jt_ald (pc1 := 61) rfl rfl rfl rfl rfl (fun v9 hv9 => ?_)
      refine js_cV (pc1 := 64) (as := [(.inr (.inr (some 226))), (.inl v9)]) (S0 := []) (m := 2) (L0 := [some (.inr (.inr (some 226))), some (.inl v9)]) rfl rfl rfl rfl rfl rfl rfl rfl (zrc_o rfl rfl) (by omega) (by omega) (z_M_reach_ok N (by omega) (by omega) v9 hv9 A) (fun A10 _ => ?_)
      exact z_M_parts_64_ok N hd hw x1 hx1 A10
  refine zG_ite (fun c16 => ?_) (fun c16 => ?_)
  · refine js_tsw (t1 := 44) rfl c16 (zlit rfl) (by decide) ?_
    refine js_aload (pc1 := 45) rfl rfl rfl ?_
    refine js_gfr (pc1 := 48) (j := 43) (r := 252) rfl rfl rfl rfl rfl ?_
    refine js_iload (pc1 := 49) rfl rfl rfl ?_
    refine jt_ald (pc1 := 50) rfl rfl rfl rfl rfl (fun v12 hv12 => ?_)
    refine js_iconst (pc1 := 51) rfl rfl ?_
    refine jt_eq (pc1 := 54) (t1 := 64) hv12 (zlit rfl) rfl rfl rfl (fun c13 => ?_) (fun c13 => ?_)
    · exact z_M_parts_64_ok N hd hw x1 hx1 A
    · refine js_aload (pc1 := 55) rfl rfl rfl ?_
      refine js_aload (pc1 := 56) rfl rfl rfl ?_
      refine js_gfr (pc1 := 59) (j := 44) (r := 253) rfl rfl rfl rfl rfl ?_
      refine js_iload (pc1 := 60) rfl rfl rfl ?_
      refine jt_ald (pc1 := 61) rfl rfl rfl rfl rfl (fun v14 hv14 => ?_)
      refine js_cV (pc1 := 64) (as := [(.inr (.inr (some 226))), (.inl v14)]) (S0 := []) (m := 2) (L0 := [some (.inr (.inr (some 226))), some (.inl v14)]) rfl rfl rfl rfl rfl rfl rfl rfl (zrc_o rfl rfl) (by omega) (by omega) (z_M_reach_ok N (by omega) (by omega) v14 hv14 A) (fun A15 _ => ?_)
      exact z_M_parts_64_ok N hd hw x1 hx1 A15
  refine zG_ite (fun c21 => ?_) (fun c21 => ?_)
  · refine js_tsw (t1 := 44) rfl c21 (zlit rfl) (by decide) ?_
    refine js_aload (pc1 := 45) rfl rfl rfl ?_
    refine js_gfr (pc1 := 48) (j := 43) (r := 252) rfl rfl rfl rfl rfl ?_
    refine js_iload (pc1 := 49) rfl rfl rfl ?_
    refine jt_ald (pc1 := 50) rfl rfl rfl rfl rfl (fun v17 hv17 => ?_)
    refine js_iconst (pc1 := 51) rfl rfl ?_
    refine jt_eq (pc1 := 54) (t1 := 64) hv17 (zlit rfl) rfl rfl rfl (fun c18 => ?_) (fun c18 => ?_)
    · exact z_M_parts_64_ok N hd hw x1 hx1 A
    · refine js_aload (pc1 := 55) rfl rfl rfl ?_
      refine js_aload (pc1 := 56) rfl rfl rfl ?_
      refine js_gfr (pc1 := 59) (j := 44) (r := 253) rfl rfl rfl rfl rfl ?_
      refine js_iload (pc1 := 60) rfl rfl rfl ?_
      refine jt_ald (pc1 := 61) rfl rfl rfl rfl rfl (fun v19 hv19 => ?_)
      refine js_cV (pc1 := 64) (as := [(.inr (.inr (some 226))), (.inl v19)]) (S0 := []) (m := 2) (L0 := [some (.inr (.inr (some 226))), some (.inl v19)]) rfl rfl rfl rfl rfl rfl rfl rfl (zrc_o rfl rfl) (by omega) (by omega) (z_M_reach_ok N (by omega) (by omega) v19 hv19 A) (fun A20 _ => ?_)
      exact z_M_parts_64_ok N hd hw x1 hx1 A20
  refine zG_ite (fun c34 => ?_) (fun c34 => ?_)
  · refine js_tsw (t1 := 96) rfl c34 (zlit rfl) (by decide) ?_
    refine js_aload (pc1 := 97) rfl rfl rfl ?_
    refine js_gfr (pc1 := 100) (j := 57) (r := 266) rfl rfl rfl rfl rfl ?_
    refine js_iload (pc1 := 101) rfl rfl rfl ?_
    refine jt_ald (pc1 := 102) rfl rfl rfl rfl rfl (fun v22 hv22 => ?_)
    refine js_istore (pc1 := 103) (L1 := [some (.inr (.inr (some 226))), some (.inl x1), some (.inl v22), none]) rfl rfl rfl rfl ?_
    refine js_iconst (pc1 := 106) rfl rfl ?_
    refine js_aload (pc1 := 107) rfl rfl rfl ?_
    refine js_gfr (pc1 := 110) (j := 57) (r := 266) rfl rfl rfl rfl rfl ?_
    refine js_iconst (pc1 := 113) rfl rfl ?_
    refine js_iload (pc1 := 114) rfl rfl rfl ?_
    refine js_iadd (pc1 := 115) rfl rfl ?_
    refine jt_ald (pc1 := 116) rfl rfl rfl rfl rfl (fun v23 hv23 => ?_)
    refine js_iadd (pc1 := 117) rfl rfl ?_
    refine zG_w1 ?_
    refine js_istore (pc1 := 118) (L1 := [some (.inr (.inr (some 226))), some (.inl x1), some (.inl v22), some (.inl (zw (4000 + v23)))]) rfl rfl rfl rfl ?_
    refine js_aload (pc1 := 119) rfl rfl rfl ?_
    refine js_aload (pc1 := 120) rfl rfl rfl ?_
    refine js_gfr (pc1 := 123) (j := 55) (r := 264) rfl rfl rfl rfl rfl ?_
    refine js_iload (pc1 := 124) rfl rfl rfl ?_
    refine jt_ald (pc1 := 125) rfl rfl rfl rfl rfl (fun v24 hv24 => ?_)
    refine js_cV (pc1 := 128) (as := [(.inr (.inr (some 226))), (.inl v24)]) (S0 := []) (m := 2) (L0 := [some (.inr (.inr (some 226))), some (.inl v24)]) rfl rfl rfl rfl rfl rfl rfl rfl (zrc_o rfl rfl) (by omega) (by omega) (z_M_reach_ok N (by omega) (by omega) v24 hv24 A) (fun A25 _ => ?_)
    refine js_aload (pc1 := 129) rfl rfl rfl ?_
    refine js_aload (pc1 := 130) rfl rfl rfl ?_
    refine js_gfr (pc1 := 133) (j := 56) (r := 265) rfl rfl rfl rfl rfl ?_
    refine js_iload (pc1 := 134) rfl rfl rfl ?_
    refine jt_ald (pc1 := 135) rfl rfl rfl rfl rfl (fun v26 hv26 => ?_)
    refine js_cV (pc1 := 138) (as := [(.inr (.inr (some 226))), (.inl v26)]) (S0 := []) (m := 2) (L0 := [some (.inr (.inr (some 226))), some (.inl v26)]) rfl rfl rfl rfl rfl rfl rfl rfl (zrc_o rfl rfl) (by omega) (by omega) (z_M_reach_ok N (by omega) (by omega) v26 hv26 A25) (fun A27 _ => ?_)
    refine js_aload (pc1 := 139) rfl rfl rfl ?_
    refine js_gfr (pc1 := 142) (j := 55) (r := 264) rfl rfl rfl rfl rfl ?_
    refine js_iload (pc1 := 143) rfl rfl rfl ?_
    refine jt_ald (pc1 := 144) rfl rfl rfl rfl rfl (fun v28 hv28 => ?_)
    refine js_aload (pc1 := 145) rfl rfl rfl ?_
    refine js_gfr (pc1 := 148) (j := 55) (r := 264) rfl rfl rfl rfl rfl ?_
    refine js_iload (pc1 := 149) rfl rfl rfl ?_
    refine jt_ald (pc1 := 150) rfl rfl rfl rfl rfl (fun v29 hv29 => ?_)
    refine jt_ne (pc1 := 153) (t1 := 172) hv28 hv29 rfl rfl rfl (fun c30 => ?_) (fun c30 => ?_)
    · refine js_aload (pc1 := 154) rfl rfl rfl ?_
      refine js_gfr (pc1 := 157) (j := 56) (r := 265) rfl rfl rfl rfl rfl ?_
      refine js_iload (pc1 := 158) rfl rfl rfl ?_
      refine jt_ald (pc1 := 159) rfl rfl rfl rfl rfl (fun v31 hv31 => ?_)
      refine js_aload (pc1 := 160) rfl rfl rfl ?_
      refine js_gfr (pc1 := 163) (j := 56) (r := 265) rfl rfl rfl rfl rfl ?_
      refine js_iload (pc1 := 164) rfl rfl rfl ?_
      refine jt_ald (pc1 := 165) rfl rfl rfl rfl rfl (fun v32 hv32 => ?_)
      refine jt_ne (pc1 := 168) (t1 := 172) hv31 hv32 rfl rfl rfl (fun c33 => ?_) (fun c33 => ?_)
      · refine js_iconst (pc1 := 169) rfl rfl ?_
        refine js_goto (t1 := 173) rfl rfl ?_
        exact je_I rfl (zfit3 rfl (Or.inr rfl)) rfl (zlit rfl)
      · refine js_iconst (pc1 := 173) rfl rfl ?_
        exact je_I rfl (zfit3 rfl (Or.inl rfl)) rfl (zlit rfl)
    · refine js_iconst (pc1 := 173) rfl rfl ?_
      exact je_I rfl (zfit3 rfl (Or.inl rfl)) rfl (zlit rfl)
  rcases Decidable.em (v1 = 4) with c35 | c35
  · refine js_tsw (t1 := 174) rfl c35 (zlit rfl) (by decide) ?_
    refine js_iconst (pc1 := 175) rfl rfl ?_
    exact je_I rfl (zfit3 rfl (Or.inr rfl)) rfl (zlit rfl)
  refine js_tswd (t1 := 174) rfl hv1 (by omega) rfl ?_
  refine js_iconst (pc1 := 175) rfl rfl ?_
  exact je_I rfl (zfit3 rfl (Or.inr rfl)) rfl (zlit rfl)
theorem z_M_alike_178_bok{d w : Nat} {r178 : Int → Int → zA → Option (Int × zA)} (hr178 : ∀ (x1 : Int) (hx1 : zrg x1) (x2 : Int) (hx2 : zrg x2) (A : zA), zG (r178 x1 x2 A) zPI d w 108 178 [some (.inr (.inr (some 226))), some (.inl x1), some (.inl x2)] [] A) (N : Nat) (hd : 6 ≤ d) (hw : 142 ≤ w) (x1 : Int) (hx1 : zrg x1) (x2 : Int) (hx2 : zrg x2) (A : zA) : zG (z_M_alike_178_b r178 N x1 x2 A) zPI d w 108 178 [some (.inr (.inr (some 226))), some (.inl x1), some (.inl x2)] [] A := by
  unfold z_M_alike_178_b
  refine js_iload (pc1 := 179) rfl rfl rfl ?_
  refine js_aload (pc1 := 180) rfl rfl rfl ?_
  refine js_gi (pc1 := 183) (j := 83) rfl rfl rfl rfl ?_
  refine jt_ge (pc1 := 186) (t1 := 207) hx2 (zi_rg _ _ _) rfl rfl rfl (fun c1 => ?_) (fun c1 => ?_)
  · refine js_iload (pc1 := 187) rfl rfl rfl ?_
    refine ju_eq (pc1 := 190) (t1 := 207) hx1 rfl rfl rfl (fun c2 => ?_) (fun c2 => ?_)
    · refine js_iload (pc1 := 208) rfl rfl rfl ?_
      exact zG_ite (fun h => je_I rfl (zfit3 rfl h) rfl hx1) (fun _ => zG_none)
    · refine js_aload (pc1 := 191) rfl rfl rfl ?_
      refine js_aload (pc1 := 192) rfl rfl rfl ?_
      refine js_gfr (pc1 := 195) (j := 85) (r := 286) rfl rfl rfl rfl rfl ?_
      refine js_iload (pc1 := 196) rfl rfl rfl ?_
      refine jt_ald (pc1 := 197) rfl rfl rfl rfl rfl (fun v3 hv3 => ?_)
      refine js_cI (pc1 := 200) (as := [(.inr (.inr (some 226))), (.inl v3)]) (S0 := []) (m := 4) (L0 := [some (.inr (.inr (some 226))), some (.inl v3), none, none]) rfl rfl rfl rfl rfl rfl rfl rfl (zrc_o rfl rfl) (by omega) (by omega) (z_M_parts_ok N (by omega) (by omega) v3 hv3 A) (fun v4 A5 _ hv4 => ?_)
      refine js_istore (pc1 := 201) (L1 := [some (.inr (.inr (some 226))), some (.inl v4), some (.inl x2)]) rfl rfl rfl rfl ?_
      refine js_iinc (pc1 := 204) (L1 := [some (.inr (.inr (some 226))), some (.inl v4), some (.inl (x2 + 1))]) rfl rfl rfl rfl ?_
      refine js_goto (t1 := 178) rfl rfl ?_
      exact zG_to (L := [some (.inr (.inr (some 226))), some (.inl v4), some (.inl (zw (x2 + 1)))]) (S := []) ⟨rfl, ⟨rfl, ⟨zval_w (x2 + 1), trivial⟩⟩⟩ (rfl) (hr178 v4 hv4 (zw (x2 + 1)) (zw_rg (x2 + 1)) A5)
  · refine js_iload (pc1 := 208) rfl rfl rfl ?_
    exact zG_ite (fun h => je_I rfl (zfit3 rfl h) rfl hx1) (fun _ => zG_none)
theorem z_M_alike_178_lok{d w : Nat} (N : Nat) (hd : 6 ≤ d) (hw : 142 ≤ w) (n : Nat) : ∀ (x1 : Int) (hx1 : zrg x1) (x2 : Int) (hx2 : zrg x2) (A : zA), zG (z_M_alike_178_l N n x1 x2 A) zPI d w 108 178 [some (.inr (.inr (some 226))), some (.inl x1), some (.inl x2)] [] A := by
  induction n with
  | zero => intros; exact zG_none
  | succ n ih =>
    intro x1 hx1 x2 hx2 A
    exact z_M_alike_178_bok ih N hd hw x1 hx1 x2 hx2 A
theorem z_M_alike_178_ok{d w : Nat} (N : Nat) (hd : 6 ≤ d) (hw : 142 ≤ w) (x1 : Int) (hx1 : zrg x1) (x2 : Int) (hx2 : zrg x2) (A : zA) : zG (z_M_alike_178 N x1 x2 A) zPI d w 108 178 [some (.inr (.inr (some 226))), some (.inl x1), some (.inl x2)] [] A := z_M_alike_178_lok N hd hw N x1 hx1 x2 hx2 A
theorem z_M_alike_137_bok{d w : Nat} {r137 : Int → Int → zA → Option (Int × zA)} (hr137 : ∀ (x1 : Int) (hx1 : zrg x1) (x2 : Int) (hx2 : zrg x2) (A : zA), zG (r137 x1 x2 A) zPI d w 108 137 [some (.inr (.inr (some 226))), some (.inl x1), some (.inl x2)] [] A) (N : Nat) (hd : 6 ≤ d) (hw : 142 ≤ w) (x1 : Int) (hx1 : zrg x1) (x2 : Int) (hx2 : zrg x2) (A : zA) : zG (z_M_alike_137_b r137 N x1 x2 A) zPI d w 108 137 [some (.inr (.inr (some 226))), some (.inl x1), some (.inl x2)] [] A := by
  unfold z_M_alike_137_b
  refine js_iload (pc1 := 138) rfl rfl rfl ?_
  refine js_aload (pc1 := 139) rfl rfl rfl ?_
  refine js_gfr (pc1 := 142) (j := 51) (r := 260) rfl rfl rfl rfl rfl ?_
  refine js_iconst (pc1 := 143) rfl rfl ?_
  refine jt_ald (pc1 := 144) rfl rfl rfl rfl rfl (fun v1 hv1 => ?_)
  refine jt_ge (pc1 := 147) (t1 := 176) hx2 hv1 rfl rfl rfl (fun c2 => ?_) (fun c2 => ?_)
  · refine js_iload (pc1 := 148) rfl rfl rfl ?_
    refine ju_eq (pc1 := 151) (t1 := 176) hx1 rfl rfl rfl (fun c3 => ?_) (fun c3 => ?_)
    · refine js_iconst (pc1 := 177) rfl rfl ?_
      refine js_istore (pc1 := 178) (L1 := [some (.inr (.inr (some 226))), some (.inl x1), some (.inl 0)]) rfl rfl rfl rfl ?_
      exact z_M_alike_178_ok N hd hw x1 hx1 0 (zlit rfl) A
    · refine js_aload (pc1 := 152) rfl rfl rfl ?_
      refine js_gfr (pc1 := 155) (j := 50) (r := 259) rfl rfl rfl rfl rfl ?_
      refine js_iload (pc1 := 156) rfl rfl rfl ?_
      refine jt_ald (pc1 := 157) rfl rfl rfl rfl rfl (fun v4 hv4 => ?_)
      refine ju_lt (pc1 := 160) (t1 := 170) hv4 rfl rfl rfl (fun c5 => ?_) (fun c5 => ?_)
      · refine js_iinc (pc1 := 173) (L1 := [some (.inr (.inr (some 226))), some (.inl x1), some (.inl (x2 + 1))]) rfl rfl rfl rfl ?_
        refine js_goto (t1 := 137) rfl rfl ?_
        exact zG_to (L := [some (.inr (.inr (some 226))), some (.inl x1), some (.inl (zw (x2 + 1)))]) (S := []) ⟨rfl, ⟨rfl, ⟨zval_w (x2 + 1), trivial⟩⟩⟩ (rfl) (hr137 x1 hx1 (zw (x2 + 1)) (zw_rg (x2 + 1)) A)
      · refine js_aload (pc1 := 161) rfl rfl rfl ?_
        refine js_aload (pc1 := 162) rfl rfl rfl ?_
        refine js_gfr (pc1 := 165) (j := 50) (r := 259) rfl rfl rfl rfl rfl ?_
        refine js_iload (pc1 := 166) rfl rfl rfl ?_
        refine jt_ald (pc1 := 167) rfl rfl rfl rfl rfl (fun v6 hv6 => ?_)
        refine js_cV (pc1 := 170) (as := [(.inr (.inr (some 226))), (.inl v6)]) (S0 := []) (m := 2) (L0 := [some (.inr (.inr (some 226))), some (.inl v6)]) rfl rfl rfl rfl rfl rfl rfl rfl (zrc_o rfl rfl) (by omega) (by omega) (z_M_reach_ok N (by omega) (by omega) v6 hv6 A) (fun A7 _ => ?_)
        refine js_iinc (pc1 := 173) (L1 := [some (.inr (.inr (some 226))), some (.inl x1), some (.inl (x2 + 1))]) rfl rfl rfl rfl ?_
        refine js_goto (t1 := 137) rfl rfl ?_
        exact zG_to (L := [some (.inr (.inr (some 226))), some (.inl x1), some (.inl (zw (x2 + 1)))]) (S := []) ⟨rfl, ⟨rfl, ⟨zval_w (x2 + 1), trivial⟩⟩⟩ (rfl) (hr137 x1 hx1 (zw (x2 + 1)) (zw_rg (x2 + 1)) A7)
  · refine js_iconst (pc1 := 177) rfl rfl ?_
    refine js_istore (pc1 := 178) (L1 := [some (.inr (.inr (some 226))), some (.inl x1), some (.inl 0)]) rfl rfl rfl rfl ?_
    exact z_M_alike_178_ok N hd hw x1 hx1 0 (zlit rfl) A
theorem z_M_alike_137_lok{d w : Nat} (N : Nat) (hd : 6 ≤ d) (hw : 142 ≤ w) (n : Nat) : ∀ (x1 : Int) (hx1 : zrg x1) (x2 : Int) (hx2 : zrg x2) (A : zA), zG (z_M_alike_137_l N n x1 x2 A) zPI d w 108 137 [some (.inr (.inr (some 226))), some (.inl x1), some (.inl x2)] [] A := by
  induction n with
  | zero => intros; exact zG_none
  | succ n ih =>
    intro x1 hx1 x2 hx2 A
    exact z_M_alike_137_bok ih N hd hw x1 hx1 x2 hx2 A
theorem z_M_alike_137_ok{d w : Nat} (N : Nat) (hd : 6 ≤ d) (hw : 142 ≤ w) (x1 : Int) (hx1 : zrg x1) (x2 : Int) (hx2 : zrg x2) (A : zA) : zG (z_M_alike_137 N x1 x2 A) zPI d w 108 137 [some (.inr (.inr (some 226))), some (.inl x1), some (.inl x2)] [] A := z_M_alike_137_lok N hd hw N x1 hx1 x2 hx2 A
theorem z_M_alike_109_bok{d w : Nat} {r109 : Int → Int → zA → Option (Int × zA)} (hr109 : ∀ (x1 : Int) (hx1 : zrg x1) (x2 : Int) (hx2 : zrg x2) (A : zA), zG (r109 x1 x2 A) zPI d w 108 109 [some (.inr (.inr (some 226))), some (.inl x1), some (.inl x2)] [] A) (N : Nat) (hd : 6 ≤ d) (hw : 142 ≤ w) (x1 : Int) (hx1 : zrg x1) (x2 : Int) (hx2 : zrg x2) (A : zA) : zG (z_M_alike_109_b r109 N x1 x2 A) zPI d w 108 109 [some (.inr (.inr (some 226))), some (.inl x1), some (.inl x2)] [] A := by
  unfold z_M_alike_109_b
  refine js_iload (pc1 := 110) rfl rfl rfl ?_
  refine js_aload (pc1 := 111) rfl rfl rfl ?_
  refine js_gi (pc1 := 114) (j := 42) rfl rfl rfl rfl ?_
  refine jt_ge (pc1 := 117) (t1 := 130) hx2 (zi_rg _ _ _) rfl rfl rfl (fun c1 => ?_) (fun c1 => ?_)
  · refine js_aload (pc1 := 118) rfl rfl rfl ?_
    refine js_gfr (pc1 := 121) (j := 84) (r := 285) rfl rfl rfl rfl rfl ?_
    refine js_iload (pc1 := 122) rfl rfl rfl ?_
    refine js_iconst (pc1 := 123) rfl rfl ?_
    refine jt_basl (pc1 := 124) rfl rfl rfl rfl (Or.inl rfl) (fun A2 => ?_)
    refine js_iinc (pc1 := 127) (L1 := [some (.inr (.inr (some 226))), some (.inl x1), some (.inl (x2 + 1))]) rfl rfl rfl rfl ?_
    refine js_goto (t1 := 109) rfl rfl ?_
    exact zG_to (L := [some (.inr (.inr (some 226))), some (.inl x1), some (.inl (zw (x2 + 1)))]) (S := []) ⟨rfl, ⟨rfl, ⟨zval_w (x2 + 1), trivial⟩⟩⟩ (rfl) (hr109 x1 hx1 (zw (x2 + 1)) (zw_rg (x2 + 1)) A2)
  · refine js_aload (pc1 := 131) rfl rfl rfl ?_
    refine js_iconst (pc1 := 132) rfl rfl ?_
    refine jt_pi (pc1 := 135) (j := 83) rfl rfl rfl rfl rfl (fun A3 => ?_)
    refine js_iconst (pc1 := 136) rfl rfl ?_
    refine js_istore (pc1 := 137) (L1 := [some (.inr (.inr (some 226))), some (.inl x1), some (.inl 0)]) rfl rfl rfl rfl ?_
    exact z_M_alike_137_ok N hd hw x1 hx1 0 (zlit rfl) A3
theorem z_M_alike_109_lok{d w : Nat} (N : Nat) (hd : 6 ≤ d) (hw : 142 ≤ w) (n : Nat) : ∀ (x1 : Int) (hx1 : zrg x1) (x2 : Int) (hx2 : zrg x2) (A : zA), zG (z_M_alike_109_l N n x1 x2 A) zPI d w 108 109 [some (.inr (.inr (some 226))), some (.inl x1), some (.inl x2)] [] A := by
  induction n with
  | zero => intros; exact zG_none
  | succ n ih =>
    intro x1 hx1 x2 hx2 A
    exact z_M_alike_109_bok ih N hd hw x1 hx1 x2 hx2 A
theorem z_M_alike_109_ok{d w : Nat} (N : Nat) (hd : 6 ≤ d) (hw : 142 ≤ w) (x1 : Int) (hx1 : zrg x1) (x2 : Int) (hx2 : zrg x2) (A : zA) : zG (z_M_alike_109 N x1 x2 A) zPI d w 108 109 [some (.inr (.inr (some 226))), some (.inl x1), some (.inl x2)] [] A := z_M_alike_109_lok N hd hw N x1 hx1 x2 hx2 A
theorem z_M_alike_62_bok{d w : Nat} {r62 : Int → Int → zA → Option (Int × zA)} (hr62 : ∀ (x1 : Int) (hx1 : zrg x1) (x2 : Int) (hx2 : zrg x2) (A : zA), zG (r62 x1 x2 A) zPI d w 108 62 [some (.inr (.inr (some 226))), some (.inl x1), some (.inl x2)] [] A) (N : Nat) (hd : 6 ≤ d) (hw : 142 ≤ w) (x1 : Int) (hx1 : zrg x1) (x2 : Int) (hx2 : zrg x2) (A : zA) : zG (z_M_alike_62_b r62 N x1 x2 A) zPI d w 108 62 [some (.inr (.inr (some 226))), some (.inl x1), some (.inl x2)] [] A := by
  unfold z_M_alike_62_b
  refine js_iload (pc1 := 63) rfl rfl rfl ?_
  refine js_aload (pc1 := 64) rfl rfl rfl ?_
  refine js_gfr (pc1 := 67) (j := 51) (r := 260) rfl rfl rfl rfl rfl ?_
  refine js_iconst (pc1 := 68) rfl rfl ?_
  refine jt_ald (pc1 := 69) rfl rfl rfl rfl rfl (fun v1 hv1 => ?_)
  refine jt_ge (pc1 := 72) (t1 := 107) hx2 hv1 rfl rfl rfl (fun c2 => ?_) (fun c2 => ?_)
  · refine js_iload (pc1 := 73) rfl rfl rfl ?_
    refine ju_eq (pc1 := 76) (t1 := 107) hx1 rfl rfl rfl (fun c3 => ?_) (fun c3 => ?_)
    · refine js_iconst (pc1 := 108) rfl rfl ?_
      refine js_istore (pc1 := 109) (L1 := [some (.inr (.inr (some 226))), some (.inl x1), some (.inl 0)]) rfl rfl rfl rfl ?_
      exact z_M_alike_109_ok N hd hw x1 hx1 0 (zlit rfl) A
    · refine js_aload (pc1 := 77) rfl rfl rfl ?_
      refine js_gfr (pc1 := 80) (j := 50) (r := 259) rfl rfl rfl rfl rfl ?_
      refine js_iload (pc1 := 81) rfl rfl rfl ?_
      refine jt_ald (pc1 := 82) rfl rfl rfl rfl rfl (fun v4 hv4 => ?_)
      refine js_aload (pc1 := 83) rfl rfl rfl ?_
      refine js_gfr (pc1 := 86) (j := 50) (r := 259) rfl rfl rfl rfl rfl ?_
      refine js_iconst (pc1 := 89) rfl rfl ?_
      refine js_iload (pc1 := 90) rfl rfl rfl ?_
      refine js_iadd (pc1 := 91) rfl rfl ?_
      refine jt_ald (pc1 := 92) rfl rfl rfl rfl rfl (fun v5 hv5 => ?_)
      refine jt_ne (pc1 := 95) (t1 := 99) hv4 hv5 rfl rfl rfl (fun c6 => ?_) (fun c6 => ?_)
      · refine js_iconst (pc1 := 96) rfl rfl ?_
        refine js_goto (t1 := 100) rfl rfl ?_
        refine js_istore (pc1 := 101) (L1 := [some (.inr (.inr (some 226))), some (.inl 1), some (.inl x2)]) rfl rfl rfl rfl ?_
        refine js_iinc (pc1 := 104) (L1 := [some (.inr (.inr (some 226))), some (.inl 1), some (.inl (x2 + 1))]) rfl rfl rfl rfl ?_
        refine js_goto (t1 := 62) rfl rfl ?_
        exact zG_to (L := [some (.inr (.inr (some 226))), some (.inl 1), some (.inl (zw (x2 + 1)))]) (S := []) ⟨rfl, ⟨rfl, ⟨zval_w (x2 + 1), trivial⟩⟩⟩ (rfl) (hr62 1 (zlit rfl) (zw (x2 + 1)) (zw_rg (x2 + 1)) A)
      · refine js_iconst (pc1 := 100) rfl rfl ?_
        refine js_istore (pc1 := 101) (L1 := [some (.inr (.inr (some 226))), some (.inl 0), some (.inl x2)]) rfl rfl rfl rfl ?_
        refine js_iinc (pc1 := 104) (L1 := [some (.inr (.inr (some 226))), some (.inl 0), some (.inl (x2 + 1))]) rfl rfl rfl rfl ?_
        refine js_goto (t1 := 62) rfl rfl ?_
        exact zG_to (L := [some (.inr (.inr (some 226))), some (.inl 0), some (.inl (zw (x2 + 1)))]) (S := []) ⟨rfl, ⟨rfl, ⟨zval_w (x2 + 1), trivial⟩⟩⟩ (rfl) (hr62 0 (zlit rfl) (zw (x2 + 1)) (zw_rg (x2 + 1)) A)
  · refine js_iconst (pc1 := 108) rfl rfl ?_
    refine js_istore (pc1 := 109) (L1 := [some (.inr (.inr (some 226))), some (.inl x1), some (.inl 0)]) rfl rfl rfl rfl ?_
    exact z_M_alike_109_ok N hd hw x1 hx1 0 (zlit rfl) A
theorem z_M_alike_62_lok{d w : Nat} (N : Nat) (hd : 6 ≤ d) (hw : 142 ≤ w) (n : Nat) : ∀ (x1 : Int) (hx1 : zrg x1) (x2 : Int) (hx2 : zrg x2) (A : zA), zG (z_M_alike_62_l N n x1 x2 A) zPI d w 108 62 [some (.inr (.inr (some 226))), some (.inl x1), some (.inl x2)] [] A := by
  induction n with
  | zero => intros; exact zG_none
  | succ n ih =>
    intro x1 hx1 x2 hx2 A
    exact z_M_alike_62_bok ih N hd hw x1 hx1 x2 hx2 A
theorem z_M_alike_62_ok{d w : Nat} (N : Nat) (hd : 6 ≤ d) (hw : 142 ≤ w) (x1 : Int) (hx1 : zrg x1) (x2 : Int) (hx2 : zrg x2) (A : zA) : zG (z_M_alike_62 N x1 x2 A) zPI d w 108 62 [some (.inr (.inr (some 226))), some (.inl x1), some (.inl x2)] [] A := z_M_alike_62_lok N hd hw N x1 hx1 x2 hx2 A
theorem z_M_alike_27_ok{d w : Nat} (N : Nat) (hd : 6 ≤ d) (hw : 142 ≤ w) (A : zA) : zG (z_M_alike_27 N A) zPI d w 108 27 [some (.inr (.inr (some 226))), none, none] [] A := by
  unfold z_M_alike_27
  refine js_aload (pc1 := 28) rfl rfl rfl ?_
  refine js_iconst (pc1 := 29) rfl rfl ?_
  refine js_iconst (pc1 := 30) rfl rfl ?_
  refine js_cV (pc1 := 33) (as := [(.inr (.inr (some 226))), (.inl 0), (.inl 0)]) (S0 := []) (m := 8) (L0 := [some (.inr (.inr (some 226))), some (.inl 0), some (.inl 0), none, none, none, none, none]) rfl rfl rfl rfl rfl rfl rfl rfl (zrc_o rfl rfl) (by omega) (by omega) (z_M_walk_ok N (by omega) (by omega) 0 (zlit rfl) 0 (zlit rfl) A) (fun A1 _ => ?_)
  refine js_aload (pc1 := 34) rfl rfl rfl ?_
  refine js_iconst (pc1 := 35) rfl rfl ?_
  refine js_iconst (pc1 := 36) rfl rfl ?_
  refine js_cV (pc1 := 39) (as := [(.inr (.inr (some 226))), (.inl 1), (.inl 1)]) (S0 := []) (m := 8) (L0 := [some (.inr (.inr (some 226))), some (.inl 1), some (.inl 1), none, none, none, none, none]) rfl rfl rfl rfl rfl rfl rfl rfl (zrc_o rfl rfl) (by omega) (by omega) (z_M_walk_ok N (by omega) (by omega) 1 (zlit rfl) 1 (zlit rfl) A1) (fun A2 _ => ?_)
  refine js_aload (pc1 := 40) rfl rfl rfl ?_
  refine js_gfr (pc1 := 43) (j := 51) (r := 260) rfl rfl rfl rfl rfl ?_
  refine js_iconst (pc1 := 44) rfl rfl ?_
  refine jt_ald (pc1 := 45) rfl rfl rfl rfl rfl (fun v3 hv3 => ?_)
  refine js_aload (pc1 := 46) rfl rfl rfl ?_
  refine js_gfr (pc1 := 49) (j := 51) (r := 260) rfl rfl rfl rfl rfl ?_
  refine js_iconst (pc1 := 50) rfl rfl ?_
  refine jt_ald (pc1 := 51) rfl rfl rfl rfl rfl (fun v4 hv4 => ?_)
  refine jt_ne (pc1 := 54) (t1 := 58) hv3 hv4 rfl rfl rfl (fun c5 => ?_) (fun c5 => ?_)
  · refine js_iconst (pc1 := 55) rfl rfl ?_
    refine js_goto (t1 := 59) rfl rfl ?_
    refine js_istore (pc1 := 60) (L1 := [some (.inr (.inr (some 226))), some (.inl 1), none]) rfl rfl rfl rfl ?_
    refine js_iconst (pc1 := 61) rfl rfl ?_
    refine js_istore (pc1 := 62) (L1 := [some (.inr (.inr (some 226))), some (.inl 1), some (.inl 0)]) rfl rfl rfl rfl ?_
    exact z_M_alike_62_ok N hd hw 1 (zlit rfl) 0 (zlit rfl) A2
  · refine js_iconst (pc1 := 59) rfl rfl ?_
    refine js_istore (pc1 := 60) (L1 := [some (.inr (.inr (some 226))), some (.inl 0), none]) rfl rfl rfl rfl ?_
    refine js_iconst (pc1 := 61) rfl rfl ?_
    refine js_istore (pc1 := 62) (L1 := [some (.inr (.inr (some 226))), some (.inl 0), some (.inl 0)]) rfl rfl rfl rfl ?_
    exact z_M_alike_62_ok N hd hw 0 (zlit rfl) 0 (zlit rfl) A2
theorem z_M_alike_7_bok{d w : Nat} {r7 : Int → zA → Option (Int × zA)} (hr7 : ∀ (x1 : Int) (hx1 : zrg x1) (A : zA), zG (r7 x1 A) zPI d w 108 7 [some (.inr (.inr (some 226))), some (.inl x1), none] [] A) (N : Nat) (hd : 6 ≤ d) (hw : 142 ≤ w) (x1 : Int) (hx1 : zrg x1) (A : zA) : zG (z_M_alike_7_b r7 N x1 A) zPI d w 108 7 [some (.inr (.inr (some 226))), some (.inl x1), none] [] A := by
  unfold z_M_alike_7_b
  refine js_iload (pc1 := 8) rfl rfl rfl ?_
  refine js_iconst (pc1 := 11) rfl rfl ?_
  refine jt_ge (pc1 := 14) (t1 := 27) hx1 (zlit rfl) rfl rfl rfl (fun c1 => ?_) (fun c1 => ?_)
  · refine js_aload (pc1 := 15) rfl rfl rfl ?_
    refine js_gfr (pc1 := 18) (j := 49) (r := 258) rfl rfl rfl rfl rfl ?_
    refine js_iload (pc1 := 19) rfl rfl rfl ?_
    refine js_iconst (pc1 := 20) rfl rfl ?_
    refine jt_ias (pc1 := 21) rfl rfl rfl rfl (fun A2 => ?_)
    refine js_iinc (pc1 := 24) (L1 := [some (.inr (.inr (some 226))), some (.inl (x1 + 1)), none]) rfl rfl rfl rfl ?_
    refine js_goto (t1 := 7) rfl rfl ?_
    exact zG_to (L := [some (.inr (.inr (some 226))), some (.inl (zw (x1 + 1))), none]) (S := []) ⟨rfl, ⟨zval_w (x1 + 1), trivial⟩⟩ (rfl) (hr7 (zw (x1 + 1)) (zw_rg (x1 + 1)) A2)
  · exact zG_to (L := [some (.inr (.inr (some 226))), none, none]) (S := []) ⟨rfl, trivial⟩ (rfl) (z_M_alike_27_ok N hd hw A)
theorem z_M_alike_7_lok{d w : Nat} (N : Nat) (hd : 6 ≤ d) (hw : 142 ≤ w) (n : Nat) : ∀ (x1 : Int) (hx1 : zrg x1) (A : zA), zG (z_M_alike_7_l N n x1 A) zPI d w 108 7 [some (.inr (.inr (some 226))), some (.inl x1), none] [] A := by
  induction n with
  | zero => intros; exact zG_none
  | succ n ih =>
    intro x1 hx1 A
    exact z_M_alike_7_bok ih N hd hw x1 hx1 A
theorem z_M_alike_7_ok{d w : Nat} (N : Nat) (hd : 6 ≤ d) (hw : 142 ≤ w) (x1 : Int) (hx1 : zrg x1) (A : zA) : zG (z_M_alike_7 N x1 A) zPI d w 108 7 [some (.inr (.inr (some 226))), some (.inl x1), none] [] A := z_M_alike_7_lok N hd hw N x1 hx1 A
theorem z_M_alike_ok{d w : Nat} (N : Nat) (hd : 6 ≤ d) (hw : 142 ≤ w) (A : zA) : zG (z_M_alike N A) zPI d w 108 0 [some (.inr (.inr (some 226))), none, none] [] A := by
  unfold z_M_alike
  refine js_aload (pc1 := 1) rfl rfl rfl ?_
  refine js_iconst (pc1 := 2) rfl rfl ?_
  refine jt_pi (pc1 := 5) (j := 42) rfl rfl rfl rfl rfl (fun A1 => ?_)
  refine js_iconst (pc1 := 6) rfl rfl ?_
  refine js_istore (pc1 := 7) (L1 := [some (.inr (.inr (some 226))), some (.inl 0), none]) rfl rfl rfl rfl ?_
  exact z_M_alike_7_ok N hd hw 0 (zlit rfl) A1
theorem z_M_settle_29_ok{d w : Nat} (N : Nat) (hd : 7 ≤ d) (hw : 164 ≤ w) (x1 : Int) (hx1 : zrg x1) (s1 : Int) (hs1 : zrg s1) (s2 : Int) (hs2 : zrg s2) (A : zA) : zG (z_M_settle_29 N x1 s1 s2 A) zPI d w 56 29 [some (.inr (.inr (some 226))), some (.inl x1)] [(.inl s2), (.inl s1), (.inr (.inr (some 226)))] A := by
  unfold z_M_settle_29
  refine js_iadd (pc1 := 30) rfl rfl ?_
  refine jt_pi (pc1 := 33) (j := 7) rfl rfl rfl rfl rfl (fun A1 => ?_)
  refine js_aload (pc1 := 34) rfl rfl rfl ?_
  refine js_dupR (pc1 := 35) rfl rfl ?_
  refine js_gi (pc1 := 38) (j := 8) rfl rfl rfl rfl ?_
  refine js_iload (pc1 := 39) rfl rfl rfl ?_
  refine ju_eq (pc1 := 42) (t1 := 46) hx1 rfl rfl rfl (fun c2 => ?_) (fun c2 => ?_)
  · refine js_iconst (pc1 := 47) rfl rfl ?_
    refine js_iadd (pc1 := 48) rfl rfl ?_
    refine jt_pi (pc1 := 51) (j := 8) rfl rfl rfl rfl rfl (fun A3 => ?_)
    refine js_iload (pc1 := 52) rfl rfl rfl ?_
    exact zG_ite (fun h => je_I rfl (zfit3 rfl h) rfl hx1) (fun _ => zG_none)
  · refine js_iconst (pc1 := 43) rfl rfl ?_
    refine js_goto (t1 := 47) rfl rfl ?_
    refine js_iadd (pc1 := 48) rfl rfl ?_
    refine jt_pi (pc1 := 51) (j := 8) rfl rfl rfl rfl rfl (fun A4 => ?_)
    refine js_iload (pc1 := 52) rfl rfl rfl ?_
    exact zG_ite (fun h => je_I rfl (zfit3 rfl h) rfl hx1) (fun _ => zG_none)
