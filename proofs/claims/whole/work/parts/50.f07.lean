theorem z_Mv_putIn_54_ok{d w : Nat} (N : Nat) (hd : 4 ≤ d) (hw : 132 ≤ w) (x0 : Nat) (hx0 : zsh x0 = some (false, 3, 4)) (x1 : Nat) (hx1 : zsh x1 = some (false, 3, 4)) (A : zA) : zG (z_Mv_putIn_54 N x0 x1 A) zPV d w 178 54 [some (.inr (.inr (some x0))), some (.inr (.inr (some x1))), none, none, none] [] A := by
  unfold z_Mv_putIn_54
  refine js_aload (pc1 := 55) rfl rfl rfl ?_
  refine js_dupR (pc1 := 56) rfl rfl ?_
  refine js_gi (pc1 := 59) (j := 3) rfl rfl hx1 rfl ?_
  refine js_aload (pc1 := 60) rfl rfl rfl ?_
  refine js_gi (pc1 := 63) (j := 3) rfl rfl hx0 rfl ?_
  refine js_iconst (pc1 := 65) rfl rfl ?_
  refine js_isub (pc1 := 66) rfl rfl ?_
  refine js_iadd (pc1 := 67) rfl rfl ?_
  refine jt_pi (pc1 := 70) (j := 3) rfl rfl hx1 rfl rfl (fun A1 => ?_)
  exact je_V rfl
theorem z_Mv_putIn_21_bok{d w : Nat} {r21 : Nat → Nat → Int → Int → zA → Option zA} (hr21 : ∀ (x0 : Nat) (hx0 : zsh x0 = some (false, 3, 4)) (x1 : Nat) (hx1 : zsh x1 = some (false, 3, 4)) (x3 : Int) (hx3 : zrg x3) (x4 : Int) (hx4 : zrg x4) (A : zA), zG (r21 x0 x1 x3 x4 A) zPV d w 178 21 [some (.inr (.inr (some x0))), some (.inr (.inr (some x1))), none, some (.inl x3), some (.inl x4)] [] A) (N : Nat) (hd : 4 ≤ d) (hw : 132 ≤ w) (x0 : Nat) (hx0 : zsh x0 = some (false, 3, 4)) (x1 : Nat) (hx1 : zsh x1 = some (false, 3, 4)) (x3 : Int) (hx3 : zrg x3) (x4 : Int) (hx4 : zrg x4) (A : zA) : zG (z_Mv_putIn_21_b r21 N x0 x1 x3 x4 A) zPV d w 178 21 [some (.inr (.inr (some x0))), some (.inr (.inr (some x1))), none, some (.inl x3), some (.inl x4)] [] A := by
  unfold z_Mv_putIn_21_b
  refine js_iload (pc1 := 23) rfl rfl rfl ?_
  refine js_aload (pc1 := 24) rfl rfl rfl ?_
  refine js_gi (pc1 := 27) (j := 2) rfl rfl hx0 rfl ?_
  refine jt_ge (pc1 := 30) (t1 := 54) hx4 (zi_rg _ _ _) rfl rfl rfl (fun c1 => ?_) (fun c1 => ?_)
  · refine js_aload (pc1 := 31) rfl rfl rfl ?_
    refine js_aload (pc1 := 32) rfl rfl rfl ?_
    refine js_iload (pc1 := 34) rfl rfl rfl ?_
    refine js_cV (pc1 := 37) (as := [(.inr (.inr (some x1))), (.inr (.inr (some x0))), (.inl x4)]) (S0 := []) (m := 3) (L0 := [some (.inr (.inr (some x1))), some (.inr (.inr (some x0))), some (.inl x4)]) rfl rfl rfl rfl rfl rfl rfl rfl (zrc_o rfl hx1) (by omega) (by omega) (z_Pt_addCopy_ok N (by omega) (by omega) x1 hx1 x0 hx0 x4 hx4 A) (fun A2 _ => ?_)
    refine js_aload (pc1 := 38) rfl rfl rfl ?_
    refine js_aload (pc1 := 39) rfl rfl rfl ?_
    refine js_gi (pc1 := 42) (j := 2) rfl rfl hx1 rfl ?_
    refine js_iconst (pc1 := 43) rfl rfl ?_
    refine js_isub (pc1 := 44) rfl rfl ?_
    refine js_iload (pc1 := 45) rfl rfl rfl ?_
    refine js_cV (pc1 := 48) (as := [(.inr (.inr (some x1))), (.inl ((zi A2 x1 2) - 1)), (.inl x3)]) (S0 := []) (m := 5) (L0 := [some (.inr (.inr (some x1))), some (.inl ((zi A2 x1 2) - 1)), some (.inl x3), none, none]) rfl rfl rfl rfl rfl rfl rfl rfl (zrc_s rfl) (by omega) (by omega) (zG_to (L := [some (.inr (.inr (some x1))), some (.inl (zw ((zi A2 x1 2) - 1))), some (.inl x3), none, none]) (S := []) ⟨rfl, ⟨zval_w ((zi A2 x1 2) - 1), ⟨rfl, trivial⟩⟩⟩ rfl (z_Mv_shiftRegisters_ok N (by omega) (by omega) x1 hx1 (zw ((zi A2 x1 2) - 1)) (zw_rg ((zi A2 x1 2) - 1)) x3 hx3 A2)) (fun A3 _ => ?_)
    refine js_iinc (pc1 := 51) (L1 := [some (.inr (.inr (some x0))), some (.inr (.inr (some x1))), none, some (.inl x3), some (.inl (x4 + 1))]) rfl rfl rfl rfl ?_
    refine js_goto (t1 := 21) rfl rfl ?_
    exact zG_to (L := [some (.inr (.inr (some x0))), some (.inr (.inr (some x1))), none, some (.inl x3), some (.inl (zw (x4 + 1)))]) (S := []) ⟨rfl, ⟨rfl, ⟨rfl, ⟨zval_w (x4 + 1), trivial⟩⟩⟩⟩ (rfl) (hr21 x0 hx0 x1 hx1 x3 hx3 (zw (x4 + 1)) (zw_rg (x4 + 1)) A3)
  · exact zG_to (L := [some (.inr (.inr (some x0))), some (.inr (.inr (some x1))), none, none, none]) (S := []) ⟨rfl, ⟨rfl, trivial⟩⟩ (rfl) (z_Mv_putIn_54_ok N hd hw x0 hx0 x1 hx1 A)
theorem z_Mv_putIn_21_lok{d w : Nat} (N : Nat) (hd : 4 ≤ d) (hw : 132 ≤ w) (n : Nat) : ∀ (x0 : Nat) (hx0 : zsh x0 = some (false, 3, 4)) (x1 : Nat) (hx1 : zsh x1 = some (false, 3, 4)) (x3 : Int) (hx3 : zrg x3) (x4 : Int) (hx4 : zrg x4) (A : zA), zG (z_Mv_putIn_21_l N n x0 x1 x3 x4 A) zPV d w 178 21 [some (.inr (.inr (some x0))), some (.inr (.inr (some x1))), none, some (.inl x3), some (.inl x4)] [] A := by
  induction n with
  | zero => intros; exact zG_none
  | succ n ih =>
    intro x0 hx0 x1 hx1 x3 hx3 x4 hx4 A
    exact z_Mv_putIn_21_bok ih N hd hw x0 hx0 x1 hx1 x3 hx3 x4 hx4 A
theorem z_Mv_putIn_21_ok{d w : Nat} (N : Nat) (hd : 4 ≤ d) (hw : 132 ≤ w) (x0 : Nat) (hx0 : zsh x0 = some (false, 3, 4)) (x1 : Nat) (hx1 : zsh x1 = some (false, 3, 4)) (x3 : Int) (hx3 : zrg x3) (x4 : Int) (hx4 : zrg x4) (A : zA) : zG (z_Mv_putIn_21 N x0 x1 x3 x4 A) zPV d w 178 21 [some (.inr (.inr (some x0))), some (.inr (.inr (some x1))), none, some (.inl x3), some (.inl x4)] [] A := z_Mv_putIn_21_lok N hd hw N x0 hx0 x1 hx1 x3 hx3 x4 hx4 A
theorem z_Mv_putIn_ok{d w : Nat} (N : Nat) (hd : 4 ≤ d) (hw : 132 ≤ w) (x0 : Nat) (hx0 : zsh x0 = some (false, 3, 4)) (x1 : Nat) (hx1 : zsh x1 = some (false, 3, 4)) (x2 : Int) (hx2 : zrg x2) (A : zA) : zG (z_Mv_putIn N x0 x1 x2 A) zPV d w 178 0 [some (.inr (.inr (some x0))), some (.inr (.inr (some x1))), some (.inl x2), none, none] [] A := by
  unfold z_Mv_putIn
  refine js_aload (pc1 := 1) rfl rfl rfl ?_
  refine js_gi (pc1 := 4) (j := 3) rfl rfl hx1 rfl ?_
  refine js_iconst (pc1 := 6) rfl rfl ?_
  refine js_isub (pc1 := 7) rfl rfl ?_
  refine zG_w1 ?_
  refine js_istore (pc1 := 8) (L1 := [some (.inr (.inr (some x0))), some (.inr (.inr (some x1))), some (.inl x2), some (.inl (zw ((zi A x1 3) - 6))), none]) rfl rfl rfl rfl ?_
  refine js_aload (pc1 := 9) rfl rfl rfl ?_
  refine js_iconst (pc1 := 10) rfl rfl ?_
  refine js_aload (pc1 := 11) rfl rfl rfl ?_
  refine js_gi (pc1 := 14) (j := 3) rfl rfl hx1 rfl ?_
  refine js_iload (pc1 := 15) rfl rfl rfl ?_
  refine js_cV (pc1 := 18) (as := [(.inr (.inr (some x1))), (.inl 1), (.inl (zi A x1 3)), (.inl x2)]) (S0 := []) (m := 5) (L0 := [some (.inr (.inr (some x1))), some (.inl 1), some (.inl (zi A x1 3)), some (.inl x2), none]) rfl rfl rfl rfl rfl rfl rfl rfl (zrc_o rfl hx1) (by omega) (by omega) (z_Pt_add_ok N (by omega) (by omega) x1 hx1 1 (zlit rfl) (zi A x1 3) (zi_rg _ _ _) x2 hx2 A) (fun A1 _ => ?_)
  refine js_iconst (pc1 := 19) rfl rfl ?_
  refine js_istore (pc1 := 21) (L1 := [some (.inr (.inr (some x0))), some (.inr (.inr (some x1))), some (.inl x2), some (.inl (zw ((zi A x1 3) - 6))), some (.inl 0)]) rfl rfl rfl rfl ?_
  exact zG_to (L := [some (.inr (.inr (some x0))), some (.inr (.inr (some x1))), none, some (.inl (zw ((zi A x1 3) - 6))), some (.inl 0)]) (S := []) ⟨rfl, ⟨rfl, ⟨rfl, ⟨rfl, trivial⟩⟩⟩⟩ (rfl) (z_Mv_putIn_21_ok N hd hw x0 hx0 x1 hx1 (zw ((zi A x1 3) - 6)) (zw_rg ((zi A x1 3) - 6)) 0 (zlit rfl) A1)
theorem z_Mv_inline_92_ok{d w : Nat} {r14 : Nat → Nat → Nat → Int → Int → zA → Option (Int × zA)} (hr14 : ∀ (x1 : Nat) (hx1 : zsh x1 = some (false, 3, 4)) (x2 : Nat) (hx2 : zsh x2 = some (false, 3, 4)) (x3 : Nat) (hx3 : zsh x3 = some (false, 2, 2)) (x4 : Int) (hx4 : zrg x4) (x5 : Int) (hx5 : zrg x5) (A : zA), zG (r14 x1 x2 x3 x4 x5 A) zPI d w 142 14 [none, some (.inr (.inr (some x1))), some (.inr (.inr (some x2))), some (.inr (.inr (some x3))), some (.inl x4), some (.inl x5), none] [] A) (N : Nat) (hd : 5 ≤ d) (hw : 156 ≤ w) (x1 : Nat) (hx1 : zsh x1 = some (false, 3, 4)) (x2 : Nat) (hx2 : zsh x2 = some (false, 3, 4)) (x3 : Nat) (hx3 : zsh x3 = some (false, 2, 2)) (x4 : Int) (hx4 : zrg x4) (x5 : Int) (hx5 : zrg x5) (A : zA) : zG (z_Mv_inline_92 r14 N x1 x2 x3 x4 x5 A) zPI d w 142 92 [none, some (.inr (.inr (some x1))), some (.inr (.inr (some x2))), some (.inr (.inr (some x3))), some (.inl x4), some (.inl x5), none] [] A := by
  unfold z_Mv_inline_92
  refine js_aload (pc1 := 93) rfl rfl rfl ?_
  refine js_aload (pc1 := 94) rfl rfl rfl ?_
  refine js_iload (pc1 := 96) rfl rfl rfl ?_
  refine js_cV (pc1 := 99) (as := [(.inr (.inr (some x2))), (.inr (.inr (some x1))), (.inl x5)]) (S0 := []) (m := 3) (L0 := [some (.inr (.inr (some x2))), some (.inr (.inr (some x1))), some (.inl x5)]) rfl rfl rfl rfl rfl rfl rfl rfl (zrc_o rfl hx2) (by omega) (by omega) (z_Pt_addCopy_ok N (by omega) (by omega) x2 hx2 x1 hx1 x5 hx5 A) (fun A1 _ => ?_)
  refine js_iinc (pc1 := 102) (L1 := [none, some (.inr (.inr (some x1))), some (.inr (.inr (some x2))), some (.inr (.inr (some x3))), some (.inl x4), some (.inl (x5 + 1)), none]) rfl rfl rfl rfl ?_
  refine js_goto (t1 := 14) rfl rfl ?_
  exact zG_to (L := [none, some (.inr (.inr (some x1))), some (.inr (.inr (some x2))), some (.inr (.inr (some x3))), some (.inl x4), some (.inl (zw (x5 + 1))), none]) (S := []) ⟨rfl, ⟨rfl, ⟨rfl, ⟨rfl, ⟨zval_w (x5 + 1), trivial⟩⟩⟩⟩⟩ (rfl) (hr14 x1 hx1 x2 hx2 x3 hx3 x4 hx4 (zw (x5 + 1)) (zw_rg (x5 + 1)) A1)
theorem z_Mv_inline_105_ok{d w : Nat} (N : Nat) (hd : 5 ≤ d) (hw : 156 ≤ w) (x2 : Nat) (hx2 : zsh x2 = some (false, 3, 4)) (x4 : Int) (hx4 : zrg x4) (A : zA) : zG (z_Mv_inline_105 N x2 x4 A) zPI d w 142 105 [none, none, some (.inr (.inr (some x2))), none, some (.inl x4), none, none] [] A := by
  unfold z_Mv_inline_105
  refine js_aload (pc1 := 106) rfl rfl rfl ?_
  refine js_cV (pc1 := 109) (as := [(.inr (.inr (some x2)))]) (S0 := []) (m := 6) (L0 := [some (.inr (.inr (some x2))), none, none, none, none, none]) rfl rfl rfl rfl rfl rfl rfl rfl (zrc_o rfl hx2) (by omega) (by omega) (z_Pt_link_ok N (by omega) (by omega) x2 hx2 A) (fun A1 _ => ?_)
  refine js_iload (pc1 := 111) rfl rfl rfl ?_
  exact je_I rfl (zfit0 _ rfl) rfl hx4
theorem z_Mv_inline_14_bok{d w : Nat} {r14 : Nat → Nat → Nat → Int → Int → zA → Option (Int × zA)} (hr14 : ∀ (x1 : Nat) (hx1 : zsh x1 = some (false, 3, 4)) (x2 : Nat) (hx2 : zsh x2 = some (false, 3, 4)) (x3 : Nat) (hx3 : zsh x3 = some (false, 2, 2)) (x4 : Int) (hx4 : zrg x4) (x5 : Int) (hx5 : zrg x5) (A : zA), zG (r14 x1 x2 x3 x4 x5 A) zPI d w 142 14 [none, some (.inr (.inr (some x1))), some (.inr (.inr (some x2))), some (.inr (.inr (some x3))), some (.inl x4), some (.inl x5), none] [] A) (N : Nat) (hd : 5 ≤ d) (hw : 156 ≤ w) (x1 : Nat) (hx1 : zsh x1 = some (false, 3, 4)) (x2 : Nat) (hx2 : zsh x2 = some (false, 3, 4)) (x3 : Nat) (hx3 : zsh x3 = some (false, 2, 2)) (x4 : Int) (hx4 : zrg x4) (x5 : Int) (hx5 : zrg x5) (A : zA) : zG (z_Mv_inline_14_b r14 N x1 x2 x3 x4 x5 A) zPI d w 142 14 [none, some (.inr (.inr (some x1))), some (.inr (.inr (some x2))), some (.inr (.inr (some x3))), some (.inl x4), some (.inl x5), none] [] A := by
  unfold z_Mv_inline_14_b
  refine js_iload (pc1 := 16) rfl rfl rfl ?_
  refine js_aload (pc1 := 17) rfl rfl rfl ?_
  refine js_gi (pc1 := 20) (j := 2) rfl rfl hx1 rfl ?_
  refine jt_ge (pc1 := 23) (t1 := 105) hx5 (zi_rg _ _ _) rfl rfl rfl (fun c1 => ?_) (fun c1 => ?_)
  · refine js_aload (pc1 := 24) rfl rfl rfl ?_
    refine js_iload (pc1 := 26) rfl rfl rfl ?_
    refine js_iconst (pc1 := 27) rfl rfl ?_
    refine js_cP (pc1 := 30) (as := [(.inr (.inr (some x1))), (.inl x5), (.inl 1)]) (S0 := []) (m := 4) (L0 := [some (.inr (.inr (some x1))), some (.inl x5), some (.inl 1), none]) rfl rfl rfl rfl rfl rfl rfl rfl (zrc_o rfl hx1) (by omega) (by omega) (z_Pt_number_ok N (by omega) (by omega) x1 hx1 x5 hx5 1 (zlit rfl) A) (fun v2 _ hv2 => ?_)
    refine js_istore (pc1 := 32) (L1 := [none, some (.inr (.inr (some x1))), some (.inr (.inr (some x2))), some (.inr (.inr (some x3))), some (.inl x4), some (.inl x5), some (.inl v2)]) rfl rfl rfl rfl ?_
    refine js_aload (pc1 := 33) rfl rfl rfl ?_
    refine js_iload (pc1 := 35) rfl rfl rfl ?_
    refine js_cP (pc1 := 38) (as := [(.inr (.inr (some x1))), (.inl x5)]) (S0 := []) (m := 2) (L0 := [some (.inr (.inr (some x1))), some (.inl x5)]) rfl rfl rfl rfl rfl rfl rfl rfl (zrc_o rfl hx1) (by omega) (by omega) (z_Pt_kind_ok N (by omega) (by omega) x1 hx1 x5 hx5 A) (fun v3 _ hv3 => ?_)
    refine js_iconst (pc1 := 40) rfl rfl ?_
    refine jt_ne (pc1 := 43) (t1 := 92) hv3 (zlit rfl) rfl rfl rfl (fun c4 => ?_) (fun c4 => ?_)
    · refine js_iload (pc1 := 45) rfl rfl rfl ?_
      refine ju_lt (pc1 := 48) (t1 := 92) hv2 rfl rfl rfl (fun c5 => ?_) (fun c5 => ?_)
      · exact zG_to (L := [none, some (.inr (.inr (some x1))), some (.inr (.inr (some x2))), some (.inr (.inr (some x3))), some (.inl x4), some (.inl x5), none]) (S := []) ⟨rfl, ⟨rfl, ⟨rfl, ⟨rfl, ⟨rfl, trivial⟩⟩⟩⟩⟩ (rfl) (z_Mv_inline_92_ok hr14 N hd hw x1 hx1 x2 hx2 x3 hx3 x4 hx4 x5 hx5 A)
      · refine js_iload (pc1 := 50) rfl rfl rfl ?_
        refine js_iconst (pc1 := 51) rfl rfl ?_
        refine jt_ge (pc1 := 54) (t1 := 92) hv2 (zlit rfl) rfl rfl rfl (fun c6 => ?_) (fun c6 => ?_)
        · refine js_aload (pc1 := 55) rfl rfl rfl ?_
          refine js_aload (pc1 := 56) rfl rfl rfl ?_
          refine jt_gf (pc1 := 59) (j := 0) rfl rfl hx3 rfl (fun p7 => ?_)
          refine js_iload (pc1 := 61) rfl rfl rfl ?_
          refine jt_aald (pc1 := 62) rfl rfl (fun p8 => ?_)
          refine zG_cs (fun hp8 => ?_)
          refine js_cP (pc1 := 65) (as := [(.inr (.inr (some x2))), (.inr (.inr (some p8)))]) (S0 := []) (m := 2) (L0 := [some (.inr (.inr (some x2))), some (.inr (.inr (some p8)))]) rfl rfl rfl rfl rfl rfl rfl rfl (zrc_s rfl) (by omega) (by omega) (z_Mv_fitsIn_ok N (by omega) (by omega) x2 hx2 p8 hp8 A) (fun v9 _ hv9 => ?_)
          refine ju_eq (pc1 := 68) (t1 := 92) hv9 rfl rfl rfl (fun c10 => ?_) (fun c10 => ?_)
          · exact zG_to (L := [none, some (.inr (.inr (some x1))), some (.inr (.inr (some x2))), some (.inr (.inr (some x3))), some (.inl x4), some (.inl x5), none]) (S := []) ⟨rfl, ⟨rfl, ⟨rfl, ⟨rfl, ⟨rfl, trivial⟩⟩⟩⟩⟩ (rfl) (z_Mv_inline_92_ok hr14 N hd hw x1 hx1 x2 hx2 x3 hx3 x4 hx4 x5 hx5 A)
          · refine js_aload (pc1 := 69) rfl rfl rfl ?_
            refine jt_gf (pc1 := 72) (j := 0) rfl rfl hx3 rfl (fun p11 => ?_)
            refine js_iload (pc1 := 74) rfl rfl rfl ?_
            refine jt_aald (pc1 := 75) rfl rfl (fun p12 => ?_)
            refine zG_cs (fun hp12 => ?_)
            refine js_aload (pc1 := 76) rfl rfl rfl ?_
            refine js_aload (pc1 := 77) rfl rfl rfl ?_
            refine js_iload (pc1 := 79) rfl rfl rfl ?_
            refine js_iconst (pc1 := 80) rfl rfl ?_
            refine js_cP (pc1 := 83) (as := [(.inr (.inr (some x1))), (.inl x5), (.inl 0)]) (S0 := [(.inr (.inr (some x2))), (.inr (.inr (some p12)))]) (m := 4) (L0 := [some (.inr (.inr (some x1))), some (.inl x5), some (.inl 0), none]) rfl rfl rfl rfl rfl rfl rfl rfl (zrc_o rfl hx1) (by omega) (by omega) (z_Pt_number_ok N (by omega) (by omega) x1 hx1 x5 hx5 0 (zlit rfl) A) (fun v13 _ hv13 => ?_)
            refine js_cV (pc1 := 86) (as := [(.inr (.inr (some p12))), (.inr (.inr (some x2))), (.inl v13)]) (S0 := []) (m := 5) (L0 := [some (.inr (.inr (some p12))), some (.inr (.inr (some x2))), some (.inl v13), none, none]) rfl rfl rfl rfl rfl rfl rfl rfl (zrc_s rfl) (by omega) (by omega) (z_Mv_putIn_ok N (by omega) (by omega) p12 hp12 x2 hx2 v13 hv13 A) (fun A14 _ => ?_)
            refine js_iinc (pc1 := 89) (L1 := [none, some (.inr (.inr (some x1))), some (.inr (.inr (some x2))), some (.inr (.inr (some x3))), some (.inl (x4 + 1)), some (.inl x5), some (.inl v2)]) rfl rfl rfl rfl ?_
            refine js_goto (t1 := 99) rfl rfl ?_
            refine js_iinc (pc1 := 102) (L1 := [none, some (.inr (.inr (some x1))), some (.inr (.inr (some x2))), some (.inr (.inr (some x3))), some (.inl (x4 + 1)), some (.inl (x5 + 1)), some (.inl v2)]) rfl rfl rfl rfl ?_
            refine js_goto (t1 := 14) rfl rfl ?_
            exact zG_to (L := [none, some (.inr (.inr (some x1))), some (.inr (.inr (some x2))), some (.inr (.inr (some x3))), some (.inl (zw (x4 + 1))), some (.inl (zw (x5 + 1))), none]) (S := []) ⟨rfl, ⟨rfl, ⟨rfl, ⟨zval_w (x4 + 1), ⟨zval_w (x5 + 1), trivial⟩⟩⟩⟩⟩ (rfl) (hr14 x1 hx1 x2 hx2 x3 hx3 (zw (x4 + 1)) (zw_rg (x4 + 1)) (zw (x5 + 1)) (zw_rg (x5 + 1)) A14)
        · exact zG_to (L := [none, some (.inr (.inr (some x1))), some (.inr (.inr (some x2))), some (.inr (.inr (some x3))), some (.inl x4), some (.inl x5), none]) (S := []) ⟨rfl, ⟨rfl, ⟨rfl, ⟨rfl, ⟨rfl, trivial⟩⟩⟩⟩⟩ (rfl) (z_Mv_inline_92_ok hr14 N hd hw x1 hx1 x2 hx2 x3 hx3 x4 hx4 x5 hx5 A)
    · exact zG_to (L := [none, some (.inr (.inr (some x1))), some (.inr (.inr (some x2))), some (.inr (.inr (some x3))), some (.inl x4), some (.inl x5), none]) (S := []) ⟨rfl, ⟨rfl, ⟨rfl, ⟨rfl, ⟨rfl, trivial⟩⟩⟩⟩⟩ (rfl) (z_Mv_inline_92_ok hr14 N hd hw x1 hx1 x2 hx2 x3 hx3 x4 hx4 x5 hx5 A)
  · exact zG_to (L := [none, none, some (.inr (.inr (some x2))), none, some (.inl x4), none, none]) (S := []) ⟨rfl, ⟨rfl, trivial⟩⟩ (rfl) (z_Mv_inline_105_ok N hd hw x2 hx2 x4 hx4 A)
theorem z_Mv_inline_14_lok{d w : Nat} (N : Nat) (hd : 5 ≤ d) (hw : 156 ≤ w) (n : Nat) : ∀ (x1 : Nat) (hx1 : zsh x1 = some (false, 3, 4)) (x2 : Nat) (hx2 : zsh x2 = some (false, 3, 4)) (x3 : Nat) (hx3 : zsh x3 = some (false, 2, 2)) (x4 : Int) (hx4 : zrg x4) (x5 : Int) (hx5 : zrg x5) (A : zA), zG (z_Mv_inline_14_l N n x1 x2 x3 x4 x5 A) zPI d w 142 14 [none, some (.inr (.inr (some x1))), some (.inr (.inr (some x2))), some (.inr (.inr (some x3))), some (.inl x4), some (.inl x5), none] [] A := by
  induction n with
  | zero => intros; exact zG_none
  | succ n ih =>
    intro x1 hx1 x2 hx2 x3 hx3 x4 hx4 x5 hx5 A
    exact z_Mv_inline_14_bok ih N hd hw x1 hx1 x2 hx2 x3 hx3 x4 hx4 x5 hx5 A
theorem z_Mv_inline_14_ok{d w : Nat} (N : Nat) (hd : 5 ≤ d) (hw : 156 ≤ w) (x1 : Nat) (hx1 : zsh x1 = some (false, 3, 4)) (x2 : Nat) (hx2 : zsh x2 = some (false, 3, 4)) (x3 : Nat) (hx3 : zsh x3 = some (false, 2, 2)) (x4 : Int) (hx4 : zrg x4) (x5 : Int) (hx5 : zrg x5) (A : zA) : zG (z_Mv_inline_14 N x1 x2 x3 x4 x5 A) zPI d w 142 14 [none, some (.inr (.inr (some x1))), some (.inr (.inr (some x2))), some (.inr (.inr (some x3))), some (.inl x4), some (.inl x5), none] [] A := z_Mv_inline_14_lok N hd hw N x1 hx1 x2 hx2 x3 hx3 x4 hx4 x5 hx5 A
theorem z_Mv_inline_ok{d w : Nat} (N : Nat) (hd : 5 ≤ d) (hw : 156 ≤ w) (x1 : Nat) (hx1 : zsh x1 = some (false, 3, 4)) (x2 : Nat) (hx2 : zsh x2 = some (false, 3, 4)) (x3 : Nat) (hx3 : zsh x3 = some (false, 2, 2)) (A : zA) : zG (z_Mv_inline N x1 x2 x3 A) zPI d w 142 0 [some (.inr (.inr (some 107))), some (.inr (.inr (some x1))), some (.inr (.inr (some x2))), some (.inr (.inr (some x3))), none, none, none] [] A := by
  unfold z_Mv_inline
  refine js_iconst (pc1 := 1) rfl rfl ?_
  refine js_istore (pc1 := 3) (L1 := [some (.inr (.inr (some 107))), some (.inr (.inr (some x1))), some (.inr (.inr (some x2))), some (.inr (.inr (some x3))), some (.inl 0), none, none]) rfl rfl rfl rfl ?_
  refine js_aload (pc1 := 4) rfl rfl rfl ?_
  refine js_aload (pc1 := 5) rfl rfl rfl ?_
  refine js_gi (pc1 := 8) (j := 3) rfl rfl hx1 rfl ?_
  refine js_cV (pc1 := 11) (as := [(.inr (.inr (some x2))), (.inl (zi A x1 3))]) (S0 := []) (m := 2) (L0 := [some (.inr (.inr (some x2))), some (.inl (zi A x1 3))]) rfl rfl rfl rfl rfl rfl rfl rfl (zrc_o rfl hx2) (by omega) (by omega) (z_Pt_clear_ok N (by omega) (by omega) x2 hx2 (zi A x1 3) (zi_rg _ _ _) A) (fun A1 _ => ?_)
  refine js_iconst (pc1 := 12) rfl rfl ?_
  refine js_istore (pc1 := 14) (L1 := [some (.inr (.inr (some 107))), some (.inr (.inr (some x1))), some (.inr (.inr (some x2))), some (.inr (.inr (some x3))), some (.inl 0), some (.inl 0), none]) rfl rfl rfl rfl ?_
  exact zG_to (L := [none, some (.inr (.inr (some x1))), some (.inr (.inr (some x2))), some (.inr (.inr (some x3))), some (.inl 0), some (.inl 0), none]) (S := []) ⟨rfl, ⟨rfl, ⟨rfl, ⟨rfl, ⟨rfl, trivial⟩⟩⟩⟩⟩ (rfl) (z_Mv_inline_14_ok N hd hw x1 hx1 x2 hx2 x3 hx3 0 (zlit rfl) 0 (zlit rfl) A1)
theorem z_PC_changesOfPass_69_ok{d w : Nat} (N : Nat) (hd : 7 ≤ d) (hw : 208 ≤ w) (s1 : Nat) (hs1 : zsh s1 = some (false, 3, 4)) (s2 : Nat) (hs2 : zsh s2 = some (false, 3, 4)) (s3 : Int) (hs3 : zrg s3) (A : zA) : zG (z_PC_changesOfPass_69 N s1 s2 s3 A) zPI d w 85 69 [none, none, none, none, none] [(.inl s3), (.inr (.inr (some s2))), (.inr (.inr (some s1))), (.inr (.inr (some 49)))] A := by
  unfold z_PC_changesOfPass_69
  refine js_cI (pc1 := 72) (as := [(.inr (.inr (some 49))), (.inr (.inr (some s1))), (.inr (.inr (some s2))), (.inl s3)]) (S0 := []) (m := 5) (L0 := [some (.inr (.inr (some 49))), some (.inr (.inr (some s1))), some (.inr (.inr (some s2))), some (.inl s3), none]) rfl rfl rfl rfl rfl rfl rfl rfl (zrc_o rfl rfl) (by omega) (by omega) (z_Co_fold_ok N (by omega) (by omega) s1 hs1 s2 hs2 s3 hs3 A) (fun v1 A2 _ hv1 => ?_)
  exact je_I rfl (zfit0 _ rfl) rfl hv1
theorem z_PC_changesOfPass_100_ok{d w : Nat} (N : Nat) (hd : 7 ≤ d) (hw : 208 ≤ w) (s1 : Nat) (hs1 : zsh s1 = some (false, 3, 4)) (s2 : Nat) (hs2 : zsh s2 = some (false, 3, 4)) (s3 : Int) (hs3 : zrg s3) (A : zA) : zG (z_PC_changesOfPass_100 N s1 s2 s3 A) zPI d w 85 100 [none, none, none, none, none] [(.inl s3), (.inr (.inr (some s2))), (.inr (.inr (some s1))), (.inr (.inr (some 107)))] A := by
  unfold z_PC_changesOfPass_100
  refine js_cI (pc1 := 103) (as := [(.inr (.inr (some 107))), (.inr (.inr (some s1))), (.inr (.inr (some s2))), (.inl s3)]) (S0 := []) (m := 5) (L0 := [some (.inr (.inr (some 107))), some (.inr (.inr (some s1))), some (.inr (.inr (some s2))), some (.inl s3), none]) rfl rfl rfl rfl rfl rfl rfl rfl (zrc_o rfl rfl) (by omega) (by omega) (z_Mv_drop_ok N (by omega) (by omega) s1 hs1 s2 hs2 s3 hs3 A) (fun v1 A2 _ hv1 => ?_)
  exact je_I rfl (zfit0 _ rfl) rfl hv1
theorem z_PC_changesOfPass_ok{d w : Nat} (N : Nat) (hd : 7 ≤ d) (hw : 208 ≤ w) (x1 : Int) (hx1 : zrg x1) (x2 : Int) (hx2 : zrg x2) (A : zA) : zG (z_PC_changesOfPass N x1 x2 A) zPI d w 85 0 [some (.inr (.inr (some 4))), some (.inl x1), some (.inl x2), none, none] [] A := by
  unfold z_PC_changesOfPass
  refine js_aload (pc1 := 1) rfl rfl rfl ?_
  refine jt_gr (pc1 := 4) (j := 2) rfl rfl rfl rfl (fun p1 => ?_)
  refine zG_cs (fun hp1 => ?_)
  refine jt_gf (pc1 := 7) (j := 0) rfl rfl hp1 rfl (fun p2 => ?_)
  refine js_iload (pc1 := 8) rfl rfl rfl ?_
  refine jt_aald (pc1 := 9) rfl rfl (fun p3 => ?_)
  refine zG_cs (fun hp3 => ?_)
  refine js_astore (pc1 := 10) (L1 := [some (.inr (.inr (some 4))), some (.inl x1), some (.inl x2), some (.inr (.inr (some p3))), none]) rfl rfl rfl rfl ?_
  refine js_aload (pc1 := 11) rfl rfl rfl ?_
  refine jt_gr (pc1 := 14) (j := 3) rfl rfl rfl rfl (fun p4 => ?_)
  refine zG_cs (fun hp4 => ?_)
  refine jt_gf (pc1 := 17) (j := 0) rfl rfl hp4 rfl (fun p5 => ?_)
  refine js_iload (pc1 := 18) rfl rfl rfl ?_
  refine jt_aald (pc1 := 19) rfl rfl (fun p6 => ?_)
  refine zG_cs (fun hp6 => ?_)
  refine js_astore (pc1 := 21) (L1 := [some (.inr (.inr (some 4))), some (.inl x1), some (.inl x2), some (.inr (.inr (some p3))), some (.inr (.inr (some p6)))]) rfl rfl rfl rfl ?_
  refine js_iload (pc1 := 22) rfl rfl rfl ?_
  refine zG_ite (fun c8 => ?_) (fun c8 => ?_)
  · refine js_tsw (t1 := 52) rfl c8 (zlit rfl) (by decide) ?_
    refine js_aload (pc1 := 53) rfl rfl rfl ?_
    refine js_gfr (pc1 := 56) (j := 4) (r := 49) rfl rfl rfl rfl rfl ?_
    refine js_aload (pc1 := 57) rfl rfl rfl ?_
    refine js_aload (pc1 := 59) rfl rfl rfl ?_
    refine js_iload (pc1 := 60) rfl rfl rfl ?_
    refine js_iconst (pc1 := 61) rfl rfl ?_
    refine jt_ne (pc1 := 64) (t1 := 68) hx2 (zlit rfl) rfl rfl rfl (fun c7 => ?_) (fun c7 => ?_)
    · refine js_iconst (pc1 := 65) rfl rfl ?_
      refine js_goto (t1 := 69) rfl rfl ?_
      exact zG_to (L := [none, none, none, none, none]) (S := [(.inl 1), (.inr (.inr (some p6))), (.inr (.inr (some p3))), (.inr (.inr (some 49)))]) trivial (rfl) (z_PC_changesOfPass_69_ok N hd hw p3 hp3 p6 hp6 1 (zlit rfl) A)
    · refine js_iconst (pc1 := 69) rfl rfl ?_
      exact zG_to (L := [none, none, none, none, none]) (S := [(.inl 0), (.inr (.inr (some p6))), (.inr (.inr (some p3))), (.inr (.inr (some 49)))]) trivial (rfl) (z_PC_changesOfPass_69_ok N hd hw p3 hp3 p6 hp6 0 (zlit rfl) A)
  refine zG_ite (fun c11 => ?_) (fun c11 => ?_)
  · refine js_tsw (t1 := 73) rfl c11 (zlit rfl) (by decide) ?_
    refine js_aload (pc1 := 74) rfl rfl rfl ?_
    refine js_gfr (pc1 := 77) (j := 5) (r := 102) rfl rfl rfl rfl rfl ?_
    refine js_aload (pc1 := 79) rfl rfl rfl ?_
    refine js_cI (pc1 := 82) (as := [(.inr (.inr (some 102))), (.inr (.inr (some p6)))]) (S0 := []) (m := 6) (L0 := [some (.inr (.inr (some 102))), some (.inr (.inr (some p6))), none, none, none, none]) rfl rfl rfl rfl rfl rfl rfl rfl (zrc_o rfl rfl) (by omega) (by omega) (z_Na_share_ok N (by omega) (by omega) p6 hp6 A) (fun v9 A10 _ hv9 => ?_)
    exact je_I rfl (zfit0 _ rfl) rfl hv9
  refine zG_ite (fun c13 => ?_) (fun c13 => ?_)
  · refine js_tsw (t1 := 83) rfl c13 (zlit rfl) (by decide) ?_
    refine js_aload (pc1 := 84) rfl rfl rfl ?_
    refine js_gfr (pc1 := 87) (j := 6) (r := 107) rfl rfl rfl rfl rfl ?_
    refine js_aload (pc1 := 88) rfl rfl rfl ?_
    refine js_aload (pc1 := 90) rfl rfl rfl ?_
    refine js_iload (pc1 := 91) rfl rfl rfl ?_
    refine js_iconst (pc1 := 92) rfl rfl ?_
    refine jt_eq (pc1 := 95) (t1 := 99) hx2 (zlit rfl) rfl rfl rfl (fun c12 => ?_) (fun c12 => ?_)
    · refine js_iconst (pc1 := 100) rfl rfl ?_
      exact zG_to (L := [none, none, none, none, none]) (S := [(.inl 0), (.inr (.inr (some p6))), (.inr (.inr (some p3))), (.inr (.inr (some 107)))]) trivial (rfl) (z_PC_changesOfPass_100_ok N hd hw p3 hp3 p6 hp6 0 (zlit rfl) A)
    · refine js_iconst (pc1 := 96) rfl rfl ?_
      refine js_goto (t1 := 100) rfl rfl ?_
      exact zG_to (L := [none, none, none, none, none]) (S := [(.inl 1), (.inr (.inr (some p6))), (.inr (.inr (some p3))), (.inr (.inr (some 107)))]) trivial (rfl) (z_PC_changesOfPass_100_ok N hd hw p3 hp3 p6 hp6 1 (zlit rfl) A)
  refine zG_ite (fun c16 => ?_) (fun c16 => ?_)
  · refine js_tsw (t1 := 104) rfl c16 (zlit rfl) (by decide) ?_
    refine js_aload (pc1 := 105) rfl rfl rfl ?_
    refine js_gfr (pc1 := 108) (j := 6) (r := 107) rfl rfl rfl rfl rfl ?_
    refine js_aload (pc1 := 110) rfl rfl rfl ?_
    refine js_cI (pc1 := 113) (as := [(.inr (.inr (some 107))), (.inr (.inr (some p6)))]) (S0 := []) (m := 4) (L0 := [some (.inr (.inr (some 107))), some (.inr (.inr (some p6))), none, none]) rfl rfl rfl rfl rfl rfl rfl rfl (zrc_o rfl rfl) (by omega) (by omega) (z_Mv_hoist_ok N (by omega) (by omega) p6 hp6 A) (fun v14 A15 _ hv14 => ?_)
    exact je_I rfl (zfit0 _ rfl) rfl hv14
  refine js_tswd (t1 := 114) rfl hx1 (by omega) rfl ?_
  refine js_aload (pc1 := 115) rfl rfl rfl ?_
  refine js_gfr (pc1 := 118) (j := 6) (r := 107) rfl rfl rfl rfl rfl ?_
  refine js_aload (pc1 := 119) rfl rfl rfl ?_
  refine js_aload (pc1 := 121) rfl rfl rfl ?_
  refine js_aload (pc1 := 122) rfl rfl rfl ?_
  refine jt_gr (pc1 := 125) (j := 3) rfl rfl rfl rfl (fun p17 => ?_)
  refine zG_cs (fun hp17 => ?_)
  refine js_cI (pc1 := 128) (as := [(.inr (.inr (some 107))), (.inr (.inr (some p3))), (.inr (.inr (some p6))), (.inr (.inr (some p17)))]) (S0 := []) (m := 7) (L0 := [some (.inr (.inr (some 107))), some (.inr (.inr (some p3))), some (.inr (.inr (some p6))), some (.inr (.inr (some p17))), none, none, none]) rfl rfl rfl rfl rfl rfl rfl rfl (zrc_o rfl rfl) (by omega) (by omega) (z_Mv_inline_ok N (by omega) (by omega) p3 hp3 p6 hp6 p17 hp17 A) (fun v18 A19 _ hv18 => ?_)
  exact je_I rfl (zfit0 _ rfl) rfl hv18
theorem z_Ta_clear_ok{d w : Nat} (N : Nat) (hd : 0 ≤ d) (hw : 0 ≤ w) (x0 : Nat) (hx0 : zsh x0 = some (false, 9, 5)) (A : zA) : zG (z_Ta_clear N x0 A) zPV d w 180 0 [some (.inr (.inr (some x0)))] [] A := by
  unfold z_Ta_clear
  refine js_aload (pc1 := 1) rfl rfl rfl ?_
  refine js_iconst (pc1 := 2) rfl rfl ?_
  refine jt_pi (pc1 := 5) (j := 2) rfl rfl hx0 rfl rfl (fun A1 => ?_)
  exact je_V rfl
theorem z_Th_isNumber_ok{d w : Nat} (N : Nat) (hd : 0 ≤ d) (hw : 0 ≤ w) (x0 : Nat) (hx0 : zsh x0 = some (false, 6, 5)) (x1 : Int) (hx1 : zrg x1) (A : zA) : zG (z_Th_isNumber N x0 x1 A) (zPp A) d w 284 0 [some (.inr (.inr (some x0))), some (.inl x1)] [] A := by
  unfold z_Th_isNumber
  refine js_iload (pc1 := 1) rfl rfl rfl ?_
  refine ju_lt (pc1 := 4) (t1 := 28) hx1 rfl rfl rfl (fun c1 => ?_) (fun c1 => ?_)
  · refine js_iconst (pc1 := 29) rfl rfl ?_
    exact je_P rfl (zfit3 rfl (Or.inl rfl)) rfl (zlit rfl)
  · refine js_iload (pc1 := 5) rfl rfl rfl ?_
    refine js_aload (pc1 := 6) rfl rfl rfl ?_
    refine js_gi (pc1 := 9) (j := 2) rfl rfl hx0 rfl ?_
    refine jt_ge (pc1 := 12) (t1 := 28) hx1 (zi_rg _ _ _) rfl rfl rfl (fun c2 => ?_) (fun c2 => ?_)
    · refine js_aload (pc1 := 13) rfl rfl rfl ?_
      refine jt_gr (pc1 := 16) (j := 0) rfl rfl hx0 rfl (fun p3 => ?_)
      refine js_iload (pc1 := 17) rfl rfl rfl ?_
      refine js_iconst (pc1 := 19) rfl rfl ?_
      refine js_imul (pc1 := 20) rfl rfl ?_
      refine jt_aldD (pc1 := 21) rfl rfl (fun v4 hv4 => ?_)
      refine ju_ne (pc1 := 24) (t1 := 28) hv4 rfl rfl rfl (fun c5 => ?_) (fun c5 => ?_)
      · refine js_iconst (pc1 := 25) rfl rfl ?_
        refine js_goto (t1 := 29) rfl rfl ?_
        exact je_P rfl (zfit3 rfl (Or.inr rfl)) rfl (zlit rfl)
      · refine js_iconst (pc1 := 29) rfl rfl ?_
        exact je_P rfl (zfit3 rfl (Or.inl rfl)) rfl (zlit rfl)
    · refine js_iconst (pc1 := 29) rfl rfl ?_
      exact je_P rfl (zfit3 rfl (Or.inl rfl)) rfl (zlit rfl)
theorem z_Th_value_ok{d w : Nat} (N : Nat) (hd : 0 ≤ d) (hw : 0 ≤ w) (x0 : Nat) (hx0 : zsh x0 = some (false, 6, 5)) (x1 : Int) (hx1 : zrg x1) (A : zA) : zG (z_Th_value N x0 x1 A) (zPp A) d w 285 0 [some (.inr (.inr (some x0))), some (.inl x1)] [] A := by
  unfold z_Th_value
  refine js_iload (pc1 := 1) rfl rfl rfl ?_
  refine ju_lt (pc1 := 4) (t1 := 26) hx1 rfl rfl rfl (fun c1 => ?_) (fun c1 => ?_)
  · refine js_iconst (pc1 := 27) rfl rfl ?_
    exact je_P rfl (zfit0 _ rfl) rfl (zlit rfl)
  · refine js_iload (pc1 := 5) rfl rfl rfl ?_
    refine js_aload (pc1 := 6) rfl rfl rfl ?_
    refine js_gi (pc1 := 9) (j := 2) rfl rfl hx0 rfl ?_
    refine jt_ge (pc1 := 12) (t1 := 26) hx1 (zi_rg _ _ _) rfl rfl rfl (fun c2 => ?_) (fun c2 => ?_)
    · refine js_aload (pc1 := 13) rfl rfl rfl ?_
      refine jt_gr (pc1 := 16) (j := 0) rfl rfl hx0 rfl (fun p3 => ?_)
      refine js_iload (pc1 := 17) rfl rfl rfl ?_
      refine js_iconst (pc1 := 19) rfl rfl ?_
      refine js_imul (pc1 := 20) rfl rfl ?_
      refine js_iconst (pc1 := 21) rfl rfl ?_
      refine js_iadd (pc1 := 22) rfl rfl ?_
      refine jt_aldD (pc1 := 23) rfl rfl (fun v4 hv4 => ?_)
      refine js_goto (t1 := 27) rfl rfl ?_
      exact je_P rfl (zfit0 _ rfl) rfl hv4
    · refine js_iconst (pc1 := 27) rfl rfl ?_
      exact je_P rfl (zfit0 _ rfl) rfl (zlit rfl)
theorem z_Wk_copyAll_ok{d w : Nat} (N : Nat) (hd : 1 ≤ d) (hw : 64 ≤ w) (x0 : Nat) (x1 : Nat) (A : zA) : zG (z_Wk_copyAll N x0 x1 A) zPV d w 286 0 [some (.inr (.inr (some x0))), some (.inr (.inr (some x1)))] [] A := by
  unfold z_Wk_copyAll
  refine js_aload (pc1 := 1) rfl rfl rfl ?_
  refine js_iconst (pc1 := 2) rfl rfl ?_
  refine js_aload (pc1 := 3) rfl rfl rfl ?_
  refine js_iconst (pc1 := 4) rfl rfl ?_
  refine js_iconst (pc1 := 6) rfl rfl ?_
  refine jt_copy (pc1 := 9) rfl rfl (by omega) (by omega) rfl (fun A1 => ?_)
  exact je_V rfl
theorem z_Ta_say_ok{d w : Nat} (N : Nat) (hd : 0 ≤ d) (hw : 0 ≤ w) (x0 : Nat) (hx0 : zsh x0 = some (false, 9, 5)) (x1 : Int) (hx1 : zrg x1) (x2 : Int) (hx2 : zrg x2) (A : zA) : zG (z_Ta_say N x0 x1 x2 A) zPV d w 301 0 [some (.inr (.inr (some x0))), some (.inl x1), some (.inl x2)] [] A := by
  unfold z_Ta_say
  refine js_aload (pc1 := 1) rfl rfl rfl ?_
  refine js_gi (pc1 := 4) (j := 2) rfl rfl hx0 rfl ?_
  refine js_iconst (pc1 := 7) rfl rfl ?_
  refine jt_ge (pc1 := 10) (t1 := 40) (zi_rg _ _ _) (zlit rfl) rfl rfl rfl (fun c1 => ?_) (fun c1 => ?_)
  · refine js_aload (pc1 := 11) rfl rfl rfl ?_
    refine jt_gf (pc1 := 14) (j := 0) rfl rfl hx0 rfl (fun p2 => ?_)
    refine js_aload (pc1 := 15) rfl rfl rfl ?_
    refine js_gi (pc1 := 18) (j := 2) rfl rfl hx0 rfl ?_
    refine js_iload (pc1 := 19) rfl rfl rfl ?_
    refine jt_iasD (pc1 := 20) rfl rfl (fun A3 => ?_)
    refine js_aload (pc1 := 21) rfl rfl rfl ?_
    refine jt_gf (pc1 := 24) (j := 1) rfl rfl hx0 rfl (fun p4 => ?_)
    refine js_aload (pc1 := 25) rfl rfl rfl ?_
    refine js_gi (pc1 := 28) (j := 2) rfl rfl hx0 rfl ?_
    refine js_iload (pc1 := 29) rfl rfl rfl ?_
    refine jt_iasD (pc1 := 30) rfl rfl (fun A5 => ?_)
    refine js_aload (pc1 := 31) rfl rfl rfl ?_
    refine js_dupR (pc1 := 32) rfl rfl ?_
    refine js_gi (pc1 := 35) (j := 2) rfl rfl hx0 rfl ?_
    refine js_iconst (pc1 := 36) rfl rfl ?_
    refine js_iadd (pc1 := 37) rfl rfl ?_
    refine jt_pi (pc1 := 40) (j := 2) rfl rfl hx0 rfl rfl (fun A6 => ?_)
    exact je_V rfl
  · exact je_V rfl
theorem z_Wk_say_ok{d w : Nat} (N : Nat) (hd : 1 ≤ d) (hw : 22 ≤ w) (x1 : Int) (hx1 : zrg x1) (x2 : Int) (hx2 : zrg x2) (A : zA) : zG (z_Wk_say N x1 x2 A) zPV d w 287 0 [some (.inr (.inr (some 110))), some (.inl x1), some (.inl x2)] [] A := by
  unfold z_Wk_say
  refine js_aload (pc1 := 1) rfl rfl rfl ?_
  refine js_gi (pc1 := 4) (j := 10) rfl rfl rfl rfl ?_
  refine ju_ne (pc1 := 7) (t1 := 16) (zi_rg _ _ _) rfl rfl rfl (fun c1 => ?_) (fun c1 => ?_)
  · refine js_aload (pc1 := 8) rfl rfl rfl ?_
    refine jt_gr (pc1 := 11) (j := 8) rfl rfl rfl rfl (fun p2 => ?_)
    refine zG_cs (fun hp2 => ?_)
    refine js_iload (pc1 := 12) rfl rfl rfl ?_
    refine js_iload (pc1 := 13) rfl rfl rfl ?_
    refine js_cV (pc1 := 16) (as := [(.inr (.inr (some p2))), (.inl x1), (.inl x2)]) (S0 := []) (m := 3) (L0 := [some (.inr (.inr (some p2))), some (.inl x1), some (.inl x2)]) rfl rfl rfl rfl rfl rfl rfl rfl (zrc_o rfl hp2) (by omega) (by omega) (z_Ta_say_ok N (by omega) (by omega) p2 hp2 x1 hx1 x2 hx2 A) (fun A3 _ => ?_)
    exact je_V rfl
  · exact je_V rfl
theorem z_Wk_begin_2_bok{d w : Nat} {r2 : Nat → Nat → Int → zA → Option zA} (hr2 : ∀ (x1 : Nat) (x2 : Nat) (x3 : Int) (hx3 : zrg x3) (A : zA), zG (r2 x1 x2 x3 A) zPV d w 289 2 [some (.inr (.inr (some 110))), some (.inr (.inr (some x1))), some (.inr (.inr (some x2))), some (.inl x3)] [] A) (N : Nat) (hd : 0 ≤ d) (hw : 0 ≤ w) (x1 : Nat) (x2 : Nat) (x3 : Int) (hx3 : zrg x3) (A : zA) : zG (z_Wk_begin_2_b r2 N x1 x2 x3 A) zPV d w 289 2 [some (.inr (.inr (some 110))), some (.inr (.inr (some x1))), some (.inr (.inr (some x2))), some (.inl x3)] [] A := by
  unfold z_Wk_begin_2_b
  refine js_iload (pc1 := 3) rfl rfl rfl ?_
  refine js_iconst (pc1 := 5) rfl rfl ?_
  refine jt_ge (pc1 := 8) (t1 := 36) hx3 (zlit rfl) rfl rfl rfl (fun c1 => ?_) (fun c1 => ?_)
  · refine js_aload (pc1 := 9) rfl rfl rfl ?_
    refine jt_gr (pc1 := 12) (j := 5) rfl rfl rfl rfl (fun p2 => ?_)
    refine js_iload (pc1 := 13) rfl rfl rfl ?_
    refine js_aload (pc1 := 14) rfl rfl rfl ?_
    refine js_iload (pc1 := 15) rfl rfl rfl ?_
    refine jt_aldD (pc1 := 16) rfl rfl (fun v3 hv3 => ?_)
    refine js_iconst (pc1 := 17) rfl rfl ?_
    refine jt_ne (pc1 := 20) (t1 := 26) hv3 (zlit rfl) rfl rfl rfl (fun c4 => ?_) (fun c4 => ?_)
    · refine js_aload (pc1 := 21) rfl rfl rfl ?_
      refine js_iload (pc1 := 22) rfl rfl rfl ?_
      refine jt_aldD (pc1 := 23) rfl rfl (fun v5 hv5 => ?_)
      refine js_goto (t1 := 29) rfl rfl ?_
      refine jt_iasD (pc1 := 30) rfl rfl (fun A6 => ?_)
      refine js_iinc (pc1 := 33) (L1 := [some (.inr (.inr (some 110))), some (.inr (.inr (some x1))), some (.inr (.inr (some x2))), some (.inl (x3 + 1))]) rfl rfl rfl rfl ?_
      refine js_goto (t1 := 2) rfl rfl ?_
      exact zG_to (L := [some (.inr (.inr (some 110))), some (.inr (.inr (some x1))), some (.inr (.inr (some x2))), some (.inl (zw (x3 + 1)))]) (S := []) ⟨rfl, ⟨rfl, ⟨rfl, ⟨zval_w (x3 + 1), trivial⟩⟩⟩⟩ (rfl) (hr2 x1 x2 (zw (x3 + 1)) (zw_rg (x3 + 1)) A6)
    · refine js_aload (pc1 := 27) rfl rfl rfl ?_
      refine js_iload (pc1 := 28) rfl rfl rfl ?_
      refine jt_aldD (pc1 := 29) rfl rfl (fun v7 hv7 => ?_)
      refine jt_iasD (pc1 := 30) rfl rfl (fun A8 => ?_)
      refine js_iinc (pc1 := 33) (L1 := [some (.inr (.inr (some 110))), some (.inr (.inr (some x1))), some (.inr (.inr (some x2))), some (.inl (x3 + 1))]) rfl rfl rfl rfl ?_
      refine js_goto (t1 := 2) rfl rfl ?_
      exact zG_to (L := [some (.inr (.inr (some 110))), some (.inr (.inr (some x1))), some (.inr (.inr (some x2))), some (.inl (zw (x3 + 1)))]) (S := []) ⟨rfl, ⟨rfl, ⟨rfl, ⟨zval_w (x3 + 1), trivial⟩⟩⟩⟩ (rfl) (hr2 x1 x2 (zw (x3 + 1)) (zw_rg (x3 + 1)) A8)
  · exact je_V rfl
theorem z_Wk_begin_2_lok{d w : Nat} (N : Nat) (hd : 0 ≤ d) (hw : 0 ≤ w) (n : Nat) : ∀ (x1 : Nat) (x2 : Nat) (x3 : Int) (hx3 : zrg x3) (A : zA), zG (z_Wk_begin_2_l N n x1 x2 x3 A) zPV d w 289 2 [some (.inr (.inr (some 110))), some (.inr (.inr (some x1))), some (.inr (.inr (some x2))), some (.inl x3)] [] A := by
  induction n with
  | zero => intros; exact zG_none
  | succ n ih =>
    intro x1 x2 x3 hx3 A
    exact z_Wk_begin_2_bok ih N hd hw x1 x2 x3 hx3 A
theorem z_Wk_begin_2_ok{d w : Nat} (N : Nat) (hd : 0 ≤ d) (hw : 0 ≤ w) (x1 : Nat) (x2 : Nat) (x3 : Int) (hx3 : zrg x3) (A : zA) : zG (z_Wk_begin_2 N x1 x2 x3 A) zPV d w 289 2 [some (.inr (.inr (some 110))), some (.inr (.inr (some x1))), some (.inr (.inr (some x2))), some (.inl x3)] [] A := z_Wk_begin_2_lok N hd hw N x1 x2 x3 hx3 A
theorem z_Wk_begin_ok{d w : Nat} (N : Nat) (hd : 0 ≤ d) (hw : 0 ≤ w) (x1 : Nat) (x2 : Nat) (A : zA) : zG (z_Wk_begin N x1 x2 A) zPV d w 289 0 [some (.inr (.inr (some 110))), some (.inr (.inr (some x1))), some (.inr (.inr (some x2))), none] [] A := by
  unfold z_Wk_begin
  refine js_iconst (pc1 := 1) rfl rfl ?_
  refine js_istore (pc1 := 2) (L1 := [some (.inr (.inr (some 110))), some (.inr (.inr (some x1))), some (.inr (.inr (some x2))), some (.inl 0)]) rfl rfl rfl rfl ?_
  exact z_Wk_begin_2_ok N hd hw x1 x2 0 (zlit rfl) A
theorem z_Wk_leaveUnchanged_4_bok{d w : Nat} {r4 : Nat → Int → Int → zA → Option (Int × zA)} (hr4 : ∀ (x1 : Nat) (x2 : Int) (hx2 : zrg x2) (x3 : Int) (hx3 : zrg x3) (A : zA), zG (r4 x1 x2 x3 A) zPI d w 302 4 [some (.inr (.inr (some 110))), some (.inr (.inr (some x1))), some (.inl x2), some (.inl x3)] [] A) (N : Nat) (hd : 0 ≤ d) (hw : 0 ≤ w) (x1 : Nat) (x2 : Int) (hx2 : zrg x2) (x3 : Int) (hx3 : zrg x3) (A : zA) : zG (z_Wk_leaveUnchanged_4_b r4 N x1 x2 x3 A) zPI d w 302 4 [some (.inr (.inr (some 110))), some (.inr (.inr (some x1))), some (.inl x2), some (.inl x3)] [] A := by
  unfold z_Wk_leaveUnchanged_4_b
  refine js_iload (pc1 := 5) rfl rfl rfl ?_
  refine js_iconst (pc1 := 7) rfl rfl ?_
  refine jt_ge (pc1 := 10) (t1 := 41) hx3 (zlit rfl) rfl rfl rfl (fun c1 => ?_) (fun c1 => ?_)
  · refine js_aload (pc1 := 11) rfl rfl rfl ?_
    refine js_iload (pc1 := 12) rfl rfl rfl ?_
    refine jt_aldD (pc1 := 13) rfl rfl (fun v2 hv2 => ?_)
    refine js_iconst (pc1 := 14) rfl rfl ?_
    refine jt_eq (pc1 := 17) (t1 := 35) hv2 (zlit rfl) rfl rfl rfl (fun c3 => ?_) (fun c3 => ?_)
    · refine js_iinc (pc1 := 38) (L1 := [some (.inr (.inr (some 110))), some (.inr (.inr (some x1))), some (.inl x2), some (.inl (x3 + 1))]) rfl rfl rfl rfl ?_
      refine js_goto (t1 := 4) rfl rfl ?_
      exact zG_to (L := [some (.inr (.inr (some 110))), some (.inr (.inr (some x1))), some (.inl x2), some (.inl (zw (x3 + 1)))]) (S := []) ⟨rfl, ⟨rfl, ⟨rfl, ⟨zval_w (x3 + 1), trivial⟩⟩⟩⟩ (rfl) (hr4 x1 x2 hx2 (zw (x3 + 1)) (zw_rg (x3 + 1)) A)
    · refine js_aload (pc1 := 18) rfl rfl rfl ?_
      refine js_iload (pc1 := 19) rfl rfl rfl ?_
      refine jt_aldD (pc1 := 20) rfl rfl (fun v4 hv4 => ?_)
      refine js_aload (pc1 := 21) rfl rfl rfl ?_
      refine jt_gr (pc1 := 24) (j := 5) rfl rfl rfl rfl (fun p5 => ?_)
      refine js_iload (pc1 := 25) rfl rfl rfl ?_
      refine jt_aldD (pc1 := 26) rfl rfl (fun v6 hv6 => ?_)
      refine jt_ne (pc1 := 29) (t1 := 35) hv4 hv6 rfl rfl rfl (fun c7 => ?_) (fun c7 => ?_)
      · refine js_aload (pc1 := 30) rfl rfl rfl ?_
        refine js_iload (pc1 := 31) rfl rfl rfl ?_
        refine js_iconst (pc1 := 32) rfl rfl ?_
        refine jt_iasD (pc1 := 33) rfl rfl (fun A8 => ?_)
        refine js_iconst (pc1 := 34) rfl rfl ?_
        refine js_istore (pc1 := 35) (L1 := [some (.inr (.inr (some 110))), some (.inr (.inr (some x1))), some (.inl 1), some (.inl x3)]) rfl rfl rfl rfl ?_
        refine js_iinc (pc1 := 38) (L1 := [some (.inr (.inr (some 110))), some (.inr (.inr (some x1))), some (.inl 1), some (.inl (x3 + 1))]) rfl rfl rfl rfl ?_
        refine js_goto (t1 := 4) rfl rfl ?_
        exact zG_to (L := [some (.inr (.inr (some 110))), some (.inr (.inr (some x1))), some (.inl 1), some (.inl (zw (x3 + 1)))]) (S := []) ⟨rfl, ⟨rfl, ⟨rfl, ⟨zval_w (x3 + 1), trivial⟩⟩⟩⟩ (rfl) (hr4 x1 1 (zlit rfl) (zw (x3 + 1)) (zw_rg (x3 + 1)) A8)
      · refine js_iinc (pc1 := 38) (L1 := [some (.inr (.inr (some 110))), some (.inr (.inr (some x1))), some (.inl x2), some (.inl (x3 + 1))]) rfl rfl rfl rfl ?_
        refine js_goto (t1 := 4) rfl rfl ?_
        exact zG_to (L := [some (.inr (.inr (some 110))), some (.inr (.inr (some x1))), some (.inl x2), some (.inl (zw (x3 + 1)))]) (S := []) ⟨rfl, ⟨rfl, ⟨rfl, ⟨zval_w (x3 + 1), trivial⟩⟩⟩⟩ (rfl) (hr4 x1 x2 hx2 (zw (x3 + 1)) (zw_rg (x3 + 1)) A)
  · refine js_iload (pc1 := 42) rfl rfl rfl ?_
    exact zG_ite (fun h => je_I rfl (zfit3 rfl h) rfl hx2) (fun _ => zG_none)
theorem z_Wk_leaveUnchanged_4_lok{d w : Nat} (N : Nat) (hd : 0 ≤ d) (hw : 0 ≤ w) (n : Nat) : ∀ (x1 : Nat) (x2 : Int) (hx2 : zrg x2) (x3 : Int) (hx3 : zrg x3) (A : zA), zG (z_Wk_leaveUnchanged_4_l N n x1 x2 x3 A) zPI d w 302 4 [some (.inr (.inr (some 110))), some (.inr (.inr (some x1))), some (.inl x2), some (.inl x3)] [] A := by
  induction n with
  | zero => intros; exact zG_none
  | succ n ih =>
    intro x1 x2 hx2 x3 hx3 A
    exact z_Wk_leaveUnchanged_4_bok ih N hd hw x1 x2 hx2 x3 hx3 A
theorem z_Wk_leaveUnchanged_4_ok{d w : Nat} (N : Nat) (hd : 0 ≤ d) (hw : 0 ≤ w) (x1 : Nat) (x2 : Int) (hx2 : zrg x2) (x3 : Int) (hx3 : zrg x3) (A : zA) : zG (z_Wk_leaveUnchanged_4 N x1 x2 x3 A) zPI d w 302 4 [some (.inr (.inr (some 110))), some (.inr (.inr (some x1))), some (.inl x2), some (.inl x3)] [] A := z_Wk_leaveUnchanged_4_lok N hd hw N x1 x2 hx2 x3 hx3 A
theorem z_Wk_leaveUnchanged_ok{d w : Nat} (N : Nat) (hd : 0 ≤ d) (hw : 0 ≤ w) (x1 : Nat) (A : zA) : zG (z_Wk_leaveUnchanged N x1 A) zPI d w 302 0 [some (.inr (.inr (some 110))), some (.inr (.inr (some x1))), none, none] [] A := by
  unfold z_Wk_leaveUnchanged
  refine js_iconst (pc1 := 1) rfl rfl ?_
  refine js_istore (pc1 := 2) (L1 := [some (.inr (.inr (some 110))), some (.inr (.inr (some x1))), some (.inl 0), none]) rfl rfl rfl rfl ?_
  refine js_iconst (pc1 := 3) rfl rfl ?_
  refine js_istore (pc1 := 4) (L1 := [some (.inr (.inr (some 110))), some (.inr (.inr (some x1))), some (.inl 0), some (.inl 0)]) rfl rfl rfl rfl ?_
  exact z_Wk_leaveUnchanged_4_ok N hd hw x1 0 (zlit rfl) 0 (zlit rfl) A
theorem z_Ta_indexOf_ok{d w : Nat} (N : Nat) (hd : 0 ≤ d) (hw : 0 ≤ w) (x0 : Int) (hx0 : zrg x0) (x1 : Int) (hx1 : zrg x1) (A : zA) : zG (z_Ta_indexOf N x0 x1 A) (zPp A) d w 294 0 [some (.inl x0), some (.inl x1)] [] A := by
  unfold z_Ta_indexOf
  refine js_iload (pc1 := 1) rfl rfl rfl ?_
  refine ju_lt (pc1 := 4) (t1 := 29) hx0 rfl rfl rfl (fun c1 => ?_) (fun c1 => ?_)
  · refine js_iconst (pc1 := 30) rfl rfl ?_
    exact je_P rfl (zfit0 _ rfl) rfl (zlit rfl)
  · refine js_iload (pc1 := 5) rfl rfl rfl ?_
    refine js_iconst (pc1 := 7) rfl rfl ?_
    refine jt_ge (pc1 := 10) (t1 := 29) hx0 (zlit rfl) rfl rfl rfl (fun c2 => ?_) (fun c2 => ?_)
    · refine js_iload (pc1 := 11) rfl rfl rfl ?_
      refine ju_lt (pc1 := 14) (t1 := 29) hx1 rfl rfl rfl (fun c3 => ?_) (fun c3 => ?_)
      · refine js_iconst (pc1 := 30) rfl rfl ?_
        exact je_P rfl (zfit0 _ rfl) rfl (zlit rfl)
      · refine js_iload (pc1 := 15) rfl rfl rfl ?_
        refine js_iconst (pc1 := 17) rfl rfl ?_
        refine jt_ge (pc1 := 20) (t1 := 29) hx1 (zlit rfl) rfl rfl rfl (fun c4 => ?_) (fun c4 => ?_)
        · refine js_iload (pc1 := 21) rfl rfl rfl ?_
          refine js_iconst (pc1 := 23) rfl rfl ?_
          refine js_imul (pc1 := 24) rfl rfl ?_
          refine js_iload (pc1 := 25) rfl rfl rfl ?_
          refine js_iadd (pc1 := 26) rfl rfl ?_
          refine js_goto (t1 := 30) rfl rfl ?_
          exact je_P rfl (zfit0 _ rfl) (zval_w ((x0 * 61) + x1)) (zw_rg ((x0 * 61) + x1))
        · refine js_iconst (pc1 := 30) rfl rfl ?_
          exact je_P rfl (zfit0 _ rfl) rfl (zlit rfl)
    · refine js_iconst (pc1 := 30) rfl rfl ?_
      exact je_P rfl (zfit0 _ rfl) rfl (zlit rfl)
theorem z_Ta_circled_32_ok{d w : Nat} (N : Nat) (hd : 1 ≤ d) (hw : 21 ≤ w) (x0 : Nat) (hx0 : zsh x0 = some (false, 9, 5)) (x1 : Int) (hx1 : zrg x1) (x2 : Int) (hx2 : zrg x2) (x3 : Int) (hx3 : zrg x3) (x4 : Int) (hx4 : zrg x4) (A : zA) : zG (z_Ta_circled_32 N x0 x1 x2 x3 x4 A) zPV d w 303 32 [some (.inr (.inr (some x0))), some (.inl x1), some (.inl x2), some (.inl x3), some (.inl x4), none] [] A := by
  unfold z_Ta_circled_32
  refine js_iload (pc1 := 33) rfl rfl rfl ?_
  refine js_iload (pc1 := 34) rfl rfl rfl ?_
  refine js_cP (pc1 := 37) (as := [(.inl x1), (.inl x2)]) (S0 := []) (m := 2) (L0 := [some (.inl x1), some (.inl x2)]) rfl rfl rfl rfl rfl rfl rfl rfl (zrc_s rfl) (by omega) (by omega) (z_Ta_indexOf_ok N (by omega) (by omega) x1 hx1 x2 hx2 A) (fun v1 _ hv1 => ?_)
  refine js_istore (pc1 := 39) (L1 := [some (.inr (.inr (some x0))), some (.inl x1), some (.inl x2), some (.inl x3), some (.inl x4), some (.inl v1)]) rfl rfl rfl rfl ?_
  refine js_iload (pc1 := 41) rfl rfl rfl ?_
  refine ju_lt (pc1 := 44) (t1 := 61) hv1 rfl rfl rfl (fun c2 => ?_) (fun c2 => ?_)
  · exact je_V rfl
  · refine js_aload (pc1 := 45) rfl rfl rfl ?_
    refine jt_gr (pc1 := 48) (j := 3) rfl rfl hx0 rfl (fun p3 => ?_)
    refine js_iload (pc1 := 50) rfl rfl rfl ?_
    refine js_iload (pc1 := 51) rfl rfl rfl ?_
    refine jt_iasD (pc1 := 52) rfl rfl (fun A4 => ?_)
    refine js_aload (pc1 := 53) rfl rfl rfl ?_
    refine jt_gr (pc1 := 56) (j := 4) rfl rfl hx0 rfl (fun p5 => ?_)
    refine js_iload (pc1 := 58) rfl rfl rfl ?_
    refine js_iload (pc1 := 60) rfl rfl rfl ?_
    refine jt_iasD (pc1 := 61) rfl rfl (fun A6 => ?_)
    exact je_V rfl
theorem z_Ta_circled_ok{d w : Nat} (N : Nat) (hd : 1 ≤ d) (hw : 21 ≤ w) (x0 : Nat) (hx0 : zsh x0 = some (false, 9, 5)) (x1 : Int) (hx1 : zrg x1) (x2 : Int) (hx2 : zrg x2) (x3 : Int) (hx3 : zrg x3) (x4 : Int) (hx4 : zrg x4) (A : zA) : zG (z_Ta_circled N x0 x1 x2 x3 x4 A) zPV d w 303 0 [some (.inr (.inr (some x0))), some (.inl x1), some (.inl x2), some (.inl x3), some (.inl x4), none] [] A := by
  unfold z_Ta_circled
  refine js_aload (pc1 := 1) rfl rfl rfl ?_
  refine js_gro (pc1 := 4) (j := 3) rfl rfl hx0 rfl ?_
  refine js_null (pc1 := 7) (t1 := 14) rfl rfl rfl (fun c1 => ?_) (fun c1 => ?_)
  · refine js_aload (pc1 := 15) rfl rfl rfl ?_
    refine js_iconst (pc1 := 18) rfl rfl ?_
    refine jt_new (pc1 := 20) rfl rfl (fun p2 A3 => ?_)
    refine jt_pr (pc1 := 23) (j := 3) rfl rfl hx0 rfl rfl (zfr_c hx0 rfl) (fun A4 => ?_)
    refine js_aload (pc1 := 24) rfl rfl rfl ?_
    refine js_iconst (pc1 := 27) rfl rfl ?_
    refine jt_new (pc1 := 29) rfl rfl (fun p5 A6 => ?_)
    refine jt_pr (pc1 := 32) (j := 4) rfl rfl hx0 rfl rfl (zfr_c hx0 rfl) (fun A7 => ?_)
    exact z_Ta_circled_32_ok N hd hw x0 hx0 x1 hx1 x2 hx2 x3 hx3 x4 hx4 A7
  · refine js_aload (pc1 := 8) rfl rfl rfl ?_
    refine js_gro (pc1 := 11) (j := 4) rfl rfl hx0 rfl ?_
    refine js_nonnull (pc1 := 14) (t1 := 32) rfl rfl rfl (fun c8 => ?_) (fun c8 => ?_)
    · exact z_Ta_circled_32_ok N hd hw x0 hx0 x1 hx1 x2 hx2 x3 hx3 x4 hx4 A
    · refine js_aload (pc1 := 15) rfl rfl rfl ?_
      refine js_iconst (pc1 := 18) rfl rfl ?_
      refine jt_new (pc1 := 20) rfl rfl (fun p9 A10 => ?_)
      refine jt_pr (pc1 := 23) (j := 3) rfl rfl hx0 rfl rfl (zfr_c hx0 rfl) (fun A11 => ?_)
      refine js_aload (pc1 := 24) rfl rfl rfl ?_
      refine js_iconst (pc1 := 27) rfl rfl ?_
      refine jt_new (pc1 := 29) rfl rfl (fun p12 A13 => ?_)
      refine jt_pr (pc1 := 32) (j := 4) rfl rfl hx0 rfl rfl (zfr_c hx0 rfl) (fun A14 => ?_)
      exact z_Ta_circled_32_ok N hd hw x0 hx0 x1 hx1 x2 hx2 x3 hx3 x4 hx4 A14
theorem z_Wk_tellCircling_3_bok{d w : Nat} {r3 : Int → Nat → Nat → Int → zA → Option zA} (hr3 : ∀ (x1 : Int) (hx1 : zrg x1) (x2 : Nat) (x3 : Nat) (x4 : Int) (hx4 : zrg x4) (A : zA), zG (r3 x1 x2 x3 x4 A) zPV d w 290 3 [some (.inr (.inr (some 110))), some (.inl x1), some (.inr (.inr (some x2))), some (.inr (.inr (some x3))), some (.inl x4)] [] A) (N : Nat) (hd : 2 ≤ d) (hw : 46 ≤ w) (x1 : Int) (hx1 : zrg x1) (x2 : Nat) (x3 : Nat) (x4 : Int) (hx4 : zrg x4) (A : zA) : zG (z_Wk_tellCircling_3_b r3 N x1 x2 x3 x4 A) zPV d w 290 3 [some (.inr (.inr (some 110))), some (.inl x1), some (.inr (.inr (some x2))), some (.inr (.inr (some x3))), some (.inl x4)] [] A := by
  unfold z_Wk_tellCircling_3_b
  refine js_iload (pc1 := 5) rfl rfl rfl ?_
  refine js_iconst (pc1 := 7) rfl rfl ?_
  refine jt_ge (pc1 := 10) (t1 := 45) hx4 (zlit rfl) rfl rfl rfl (fun c1 => ?_) (fun c1 => ?_)
  · refine js_aload (pc1 := 11) rfl rfl rfl ?_
    refine js_iload (pc1 := 13) rfl rfl rfl ?_
    refine jt_aldD (pc1 := 14) rfl rfl (fun v2 hv2 => ?_)
    refine js_iconst (pc1 := 15) rfl rfl ?_
    refine jt_eq (pc1 := 18) (t1 := 39) hv2 (zlit rfl) rfl rfl rfl (fun c3 => ?_) (fun c3 => ?_)
    · refine js_iinc (pc1 := 42) (L1 := [some (.inr (.inr (some 110))), some (.inl x1), some (.inr (.inr (some x2))), some (.inr (.inr (some x3))), some (.inl (x4 + 1))]) rfl rfl rfl rfl ?_
      refine js_goto (t1 := 3) rfl rfl ?_
      exact zG_to (L := [some (.inr (.inr (some 110))), some (.inl x1), some (.inr (.inr (some x2))), some (.inr (.inr (some x3))), some (.inl (zw (x4 + 1)))]) (S := []) ⟨rfl, ⟨rfl, ⟨rfl, ⟨rfl, ⟨zval_w (x4 + 1), trivial⟩⟩⟩⟩⟩ (rfl) (hr3 x1 hx1 x2 x3 (zw (x4 + 1)) (zw_rg (x4 + 1)) A)
    · refine js_aload (pc1 := 19) rfl rfl rfl ?_
      refine jt_gr (pc1 := 22) (j := 8) rfl rfl rfl rfl (fun p4 => ?_)
      refine zG_cs (fun hp4 => ?_)
      refine js_iload (pc1 := 23) rfl rfl rfl ?_
      refine js_iload (pc1 := 25) rfl rfl rfl ?_
      refine js_aload (pc1 := 26) rfl rfl rfl ?_
      refine js_iload (pc1 := 28) rfl rfl rfl ?_
      refine jt_aldD (pc1 := 29) rfl rfl (fun v5 hv5 => ?_)
      refine js_aload (pc1 := 30) rfl rfl rfl ?_
      refine jt_gr (pc1 := 33) (j := 5) rfl rfl rfl rfl (fun p6 => ?_)
      refine js_iload (pc1 := 35) rfl rfl rfl ?_
      refine jt_aldD (pc1 := 36) rfl rfl (fun v7 hv7 => ?_)
      refine js_cV (pc1 := 39) (as := [(.inr (.inr (some p4))), (.inl x1), (.inl x4), (.inl v5), (.inl v7)]) (S0 := []) (m := 6) (L0 := [some (.inr (.inr (some p4))), some (.inl x1), some (.inl x4), some (.inl v5), some (.inl v7), none]) rfl rfl rfl rfl rfl rfl rfl rfl (zrc_o rfl hp4) (by omega) (by omega) (z_Ta_circled_ok N (by omega) (by omega) p4 hp4 x1 hx1 x4 hx4 v5 hv5 v7 hv7 A) (fun A8 _ => ?_)
      refine js_iinc (pc1 := 42) (L1 := [some (.inr (.inr (some 110))), some (.inl x1), some (.inr (.inr (some x2))), some (.inr (.inr (some x3))), some (.inl (x4 + 1))]) rfl rfl rfl rfl ?_
      refine js_goto (t1 := 3) rfl rfl ?_
      exact zG_to (L := [some (.inr (.inr (some 110))), some (.inl x1), some (.inr (.inr (some x2))), some (.inr (.inr (some x3))), some (.inl (zw (x4 + 1)))]) (S := []) ⟨rfl, ⟨rfl, ⟨rfl, ⟨rfl, ⟨zval_w (x4 + 1), trivial⟩⟩⟩⟩⟩ (rfl) (hr3 x1 hx1 x2 x3 (zw (x4 + 1)) (zw_rg (x4 + 1)) A8)
  · exact je_V rfl
theorem z_Wk_tellCircling_3_lok{d w : Nat} (N : Nat) (hd : 2 ≤ d) (hw : 46 ≤ w) (n : Nat) : ∀ (x1 : Int) (hx1 : zrg x1) (x2 : Nat) (x3 : Nat) (x4 : Int) (hx4 : zrg x4) (A : zA), zG (z_Wk_tellCircling_3_l N n x1 x2 x3 x4 A) zPV d w 290 3 [some (.inr (.inr (some 110))), some (.inl x1), some (.inr (.inr (some x2))), some (.inr (.inr (some x3))), some (.inl x4)] [] A := by
  induction n with
  | zero => intros; exact zG_none
  | succ n ih =>
    intro x1 hx1 x2 x3 x4 hx4 A
    exact z_Wk_tellCircling_3_bok ih N hd hw x1 hx1 x2 x3 x4 hx4 A
theorem z_Wk_tellCircling_3_ok{d w : Nat} (N : Nat) (hd : 2 ≤ d) (hw : 46 ≤ w) (x1 : Int) (hx1 : zrg x1) (x2 : Nat) (x3 : Nat) (x4 : Int) (hx4 : zrg x4) (A : zA) : zG (z_Wk_tellCircling_3 N x1 x2 x3 x4 A) zPV d w 290 3 [some (.inr (.inr (some 110))), some (.inl x1), some (.inr (.inr (some x2))), some (.inr (.inr (some x3))), some (.inl x4)] [] A := z_Wk_tellCircling_3_lok N hd hw N x1 hx1 x2 x3 x4 hx4 A
theorem z_Wk_tellCircling_ok{d w : Nat} (N : Nat) (hd : 2 ≤ d) (hw : 46 ≤ w) (x1 : Int) (hx1 : zrg x1) (x2 : Nat) (x3 : Nat) (A : zA) : zG (z_Wk_tellCircling N x1 x2 x3 A) zPV d w 290 0 [some (.inr (.inr (some 110))), some (.inl x1), some (.inr (.inr (some x2))), some (.inr (.inr (some x3))), none] [] A := by
  unfold z_Wk_tellCircling
  refine js_iconst (pc1 := 1) rfl rfl ?_
  refine js_istore (pc1 := 3) (L1 := [some (.inr (.inr (some 110))), some (.inl x1), some (.inr (.inr (some x2))), some (.inr (.inr (some x3))), some (.inl 0)]) rfl rfl rfl rfl ?_
  exact z_Wk_tellCircling_3_ok N hd hw x1 hx1 x2 x3 0 (zlit rfl) A
theorem z_Wk_copyShared_ok{d w : Nat} (N : Nat) (hd : 1 ≤ d) (hw : 64 ≤ w) (x0 : Nat) (x1 : Nat) (A : zA) : zG (z_Wk_copyShared N x0 x1 A) zPV d w 291 0 [some (.inr (.inr (some x0))), some (.inr (.inr (some x1)))] [] A := by
  unfold z_Wk_copyShared
  refine js_aload (pc1 := 1) rfl rfl rfl ?_
  refine js_iconst (pc1 := 2) rfl rfl ?_
  refine js_aload (pc1 := 3) rfl rfl rfl ?_
  refine js_iconst (pc1 := 4) rfl rfl ?_
  refine js_iconst (pc1 := 6) rfl rfl ?_
  refine jt_copy (pc1 := 9) rfl rfl (by omega) (by omega) rfl (fun A1 => ?_)
  refine js_aload (pc1 := 10) rfl rfl rfl ?_
  refine js_iconst (pc1 := 12) rfl rfl ?_
  refine js_aload (pc1 := 13) rfl rfl rfl ?_
  refine js_iconst (pc1 := 15) rfl rfl ?_
  refine jt_aldD (pc1 := 16) rfl rfl (fun v2 hv2 => ?_)
  refine jt_iasD (pc1 := 17) rfl rfl (fun A3 => ?_)
  exact je_V rfl
theorem z_Wk_demand_73_ok{d w : Nat} (N : Nat) (hd : 1 ≤ d) (hw : 22 ≤ w) (x1 : Int) (hx1 : zrg x1) (x2 : Int) (hx2 : zrg x2) (x3 : Int) (hx3 : zrg x3) (x4 : Int) (hx4 : zrg x4) (A : zA) : zG (z_Wk_demand_73 N x1 x2 x3 x4 A) zPV d w 304 73 [some (.inr (.inr (some 110))), some (.inl x1), some (.inl x2), some (.inl x3), some (.inl x4), none] [] A := by
  unfold z_Wk_demand_73
  refine js_iload (pc1 := 75) rfl rfl rfl ?_
  refine ju_ne (pc1 := 78) (t1 := 107) hx4 rfl rfl rfl (fun c1 => ?_) (fun c1 => ?_)
  · refine js_aload (pc1 := 79) rfl rfl rfl ?_
    refine js_gfr (pc1 := 82) (j := 6) (r := 194) rfl rfl rfl rfl rfl ?_
    refine js_aload (pc1 := 83) rfl rfl rfl ?_
    refine js_gi (pc1 := 86) (j := 7) rfl rfl rfl rfl ?_
    refine js_iload (pc1 := 87) rfl rfl rfl ?_
    refine jt_ias (pc1 := 88) rfl rfl rfl rfl (fun A2 => ?_)
    refine js_aload (pc1 := 89) rfl rfl rfl ?_
    refine js_dupR (pc1 := 90) rfl rfl ?_
    refine js_gi (pc1 := 93) (j := 7) rfl rfl rfl rfl ?_
    refine js_iconst (pc1 := 94) rfl rfl ?_
    refine js_iadd (pc1 := 95) rfl rfl ?_
    refine jt_pi (pc1 := 98) (j := 7) rfl rfl rfl rfl rfl (fun A3 => ?_)
    refine js_aload (pc1 := 99) rfl rfl rfl ?_
    refine jt_gr (pc1 := 102) (j := 8) rfl rfl rfl rfl (fun p4 => ?_)
    refine zG_cs (fun hp4 => ?_)
    refine js_iload (pc1 := 103) rfl rfl rfl ?_
    refine js_iload (pc1 := 104) rfl rfl rfl ?_
    refine js_cV (pc1 := 107) (as := [(.inr (.inr (some p4))), (.inl x1), (.inl x2)]) (S0 := []) (m := 3) (L0 := [some (.inr (.inr (some p4))), some (.inl x1), some (.inl x2)]) rfl rfl rfl rfl rfl rfl rfl rfl (zrc_o rfl hp4) (by omega) (by omega) (z_Ta_say_ok N (by omega) (by omega) p4 hp4 x1 hx1 x2 hx2 A3) (fun A5 _ => ?_)
    exact je_V rfl
  · exact je_V rfl
theorem z_Wk_demand_35_bok{d w : Nat} {r35 : Int → Int → Int → Int → Int → zA → Option zA} (hr35 : ∀ (x1 : Int) (hx1 : zrg x1) (x2 : Int) (hx2 : zrg x2) (x3 : Int) (hx3 : zrg x3) (x4 : Int) (hx4 : zrg x4) (x5 : Int) (hx5 : zrg x5) (A : zA), zG (r35 x1 x2 x3 x4 x5 A) zPV d w 304 35 [some (.inr (.inr (some 110))), some (.inl x1), some (.inl x2), some (.inl x3), some (.inl x4), some (.inl x5)] [] A) (N : Nat) (hd : 1 ≤ d) (hw : 22 ≤ w) (x1 : Int) (hx1 : zrg x1) (x2 : Int) (hx2 : zrg x2) (x3 : Int) (hx3 : zrg x3) (x4 : Int) (hx4 : zrg x4) (x5 : Int) (hx5 : zrg x5) (A : zA) : zG (z_Wk_demand_35_b r35 N x1 x2 x3 x4 x5 A) zPV d w 304 35 [some (.inr (.inr (some 110))), some (.inl x1), some (.inl x2), some (.inl x3), some (.inl x4), some (.inl x5)] [] A := by
  unfold z_Wk_demand_35_b
  refine js_iload (pc1 := 37) rfl rfl rfl ?_
  refine js_aload (pc1 := 38) rfl rfl rfl ?_
  refine js_gi (pc1 := 41) (j := 7) rfl rfl rfl rfl ?_
  refine jt_ge (pc1 := 44) (t1 := 73) hx5 (zi_rg _ _ _) rfl rfl rfl (fun c1 => ?_) (fun c1 => ?_)
  · refine js_iload (pc1 := 46) rfl rfl rfl ?_
    refine ju_ne (pc1 := 49) (t1 := 73) hx4 rfl rfl rfl (fun c2 => ?_) (fun c2 => ?_)
    · refine js_aload (pc1 := 50) rfl rfl rfl ?_
      refine js_gfr (pc1 := 53) (j := 6) (r := 194) rfl rfl rfl rfl rfl ?_
      refine js_iload (pc1 := 55) rfl rfl rfl ?_
      refine jt_ald (pc1 := 56) rfl rfl rfl rfl rfl (fun v3 hv3 => ?_)
      refine js_iload (pc1 := 57) rfl rfl rfl ?_
      refine jt_ne (pc1 := 60) (t1 := 64) hv3 hx3 rfl rfl rfl (fun c4 => ?_) (fun c4 => ?_)
      · refine js_iconst (pc1 := 61) rfl rfl ?_
        refine js_goto (t1 := 65) rfl rfl ?_
        refine js_istore (pc1 := 67) (L1 := [some (.inr (.inr (some 110))), some (.inl x1), some (.inl x2), some (.inl x3), some (.inl 1), some (.inl x5)]) rfl rfl rfl rfl ?_
        refine js_iinc (pc1 := 70) (L1 := [some (.inr (.inr (some 110))), some (.inl x1), some (.inl x2), some (.inl x3), some (.inl 1), some (.inl (x5 + 1))]) rfl rfl rfl rfl ?_
        refine js_goto (t1 := 35) rfl rfl ?_
        exact zG_to (L := [some (.inr (.inr (some 110))), some (.inl x1), some (.inl x2), some (.inl x3), some (.inl 1), some (.inl (zw (x5 + 1)))]) (S := []) ⟨rfl, ⟨rfl, ⟨rfl, ⟨rfl, ⟨rfl, ⟨zval_w (x5 + 1), trivial⟩⟩⟩⟩⟩⟩ (rfl) (hr35 x1 hx1 x2 hx2 x3 hx3 1 (zlit rfl) (zw (x5 + 1)) (zw_rg (x5 + 1)) A)
      · refine js_iconst (pc1 := 65) rfl rfl ?_
        refine js_istore (pc1 := 67) (L1 := [some (.inr (.inr (some 110))), some (.inl x1), some (.inl x2), some (.inl x3), some (.inl 0), some (.inl x5)]) rfl rfl rfl rfl ?_
        refine js_iinc (pc1 := 70) (L1 := [some (.inr (.inr (some 110))), some (.inl x1), some (.inl x2), some (.inl x3), some (.inl 0), some (.inl (x5 + 1))]) rfl rfl rfl rfl ?_
        refine js_goto (t1 := 35) rfl rfl ?_
        exact zG_to (L := [some (.inr (.inr (some 110))), some (.inl x1), some (.inl x2), some (.inl x3), some (.inl 0), some (.inl (zw (x5 + 1)))]) (S := []) ⟨rfl, ⟨rfl, ⟨rfl, ⟨rfl, ⟨rfl, ⟨zval_w (x5 + 1), trivial⟩⟩⟩⟩⟩⟩ (rfl) (hr35 x1 hx1 x2 hx2 x3 hx3 0 (zlit rfl) (zw (x5 + 1)) (zw_rg (x5 + 1)) A)
    · exact zG_to (L := [some (.inr (.inr (some 110))), some (.inl x1), some (.inl x2), some (.inl x3), some (.inl x4), none]) (S := []) ⟨rfl, ⟨rfl, ⟨rfl, ⟨rfl, ⟨rfl, trivial⟩⟩⟩⟩⟩ (rfl) (z_Wk_demand_73_ok N hd hw x1 hx1 x2 hx2 x3 hx3 x4 hx4 A)
  · exact zG_to (L := [some (.inr (.inr (some 110))), some (.inl x1), some (.inl x2), some (.inl x3), some (.inl x4), none]) (S := []) ⟨rfl, ⟨rfl, ⟨rfl, ⟨rfl, ⟨rfl, trivial⟩⟩⟩⟩⟩ (rfl) (z_Wk_demand_73_ok N hd hw x1 hx1 x2 hx2 x3 hx3 x4 hx4 A)
theorem z_Wk_demand_35_lok{d w : Nat} (N : Nat) (hd : 1 ≤ d) (hw : 22 ≤ w) (n : Nat) : ∀ (x1 : Int) (hx1 : zrg x1) (x2 : Int) (hx2 : zrg x2) (x3 : Int) (hx3 : zrg x3) (x4 : Int) (hx4 : zrg x4) (x5 : Int) (hx5 : zrg x5) (A : zA), zG (z_Wk_demand_35_l N n x1 x2 x3 x4 x5 A) zPV d w 304 35 [some (.inr (.inr (some 110))), some (.inl x1), some (.inl x2), some (.inl x3), some (.inl x4), some (.inl x5)] [] A := by
  induction n with
  | zero => intros; exact zG_none
  | succ n ih =>
    intro x1 hx1 x2 hx2 x3 hx3 x4 hx4 x5 hx5 A
    exact z_Wk_demand_35_bok ih N hd hw x1 hx1 x2 hx2 x3 hx3 x4 hx4 x5 hx5 A
theorem z_Wk_demand_35_ok{d w : Nat} (N : Nat) (hd : 1 ≤ d) (hw : 22 ≤ w) (x1 : Int) (hx1 : zrg x1) (x2 : Int) (hx2 : zrg x2) (x3 : Int) (hx3 : zrg x3) (x4 : Int) (hx4 : zrg x4) (x5 : Int) (hx5 : zrg x5) (A : zA) : zG (z_Wk_demand_35 N x1 x2 x3 x4 x5 A) zPV d w 304 35 [some (.inr (.inr (some 110))), some (.inl x1), some (.inl x2), some (.inl x3), some (.inl x4), some (.inl x5)] [] A := z_Wk_demand_35_lok N hd hw N x1 hx1 x2 hx2 x3 hx3 x4 hx4 x5 hx5 A
theorem z_Wk_demand_ok{d w : Nat} (N : Nat) (hd : 1 ≤ d) (hw : 22 ≤ w) (x1 : Int) (hx1 : zrg x1) (x2 : Int) (hx2 : zrg x2) (A : zA) : zG (z_Wk_demand N x1 x2 A) zPV d w 304 0 [some (.inr (.inr (some 110))), some (.inl x1), some (.inl x2), none, none, none] [] A := by
  unfold z_Wk_demand
  refine js_iconst (pc1 := 1) rfl rfl ?_
  refine js_iload (pc1 := 2) rfl rfl rfl ?_
  refine js_imul (pc1 := 3) rfl rfl ?_
  refine js_iload (pc1 := 4) rfl rfl rfl ?_
  refine js_iadd (pc1 := 5) rfl rfl ?_
  refine zG_w1 ?_
  refine js_istore (pc1 := 6) (L1 := [some (.inr (.inr (some 110))), some (.inl x1), some (.inl x2), some (.inl (zw ((2 * x2) + x1))), none, none]) rfl rfl rfl rfl ?_
  refine js_aload (pc1 := 7) rfl rfl rfl ?_
  refine js_gi (pc1 := 10) (j := 10) rfl rfl rfl rfl ?_
  refine ju_ne (pc1 := 13) (t1 := 25) (zi_rg _ _ _) rfl rfl rfl (fun c1 => ?_) (fun c1 => ?_)
  · refine js_aload (pc1 := 14) rfl rfl rfl ?_
    refine js_gi (pc1 := 17) (j := 7) rfl rfl rfl rfl ?_
    refine js_aload (pc1 := 18) rfl rfl rfl ?_
    refine js_gfr (pc1 := 21) (j := 6) (r := 194) rfl rfl rfl rfl rfl ?_
    refine js_len (pc1 := 22) rfl rfl rfl ?_
    refine jt_lt (pc1 := 25) (t1 := 29) (zi_rg _ _ _) (zlit rfl) rfl rfl rfl (fun c2 => ?_) (fun c2 => ?_)
    · refine js_iconst (pc1 := 30) rfl rfl ?_
      refine js_istore (pc1 := 32) (L1 := [some (.inr (.inr (some 110))), some (.inl x1), some (.inl x2), some (.inl (zw ((2 * x2) + x1))), some (.inl 0), none]) rfl rfl rfl rfl ?_
      refine js_iconst (pc1 := 33) rfl rfl ?_
      refine js_istore (pc1 := 35) (L1 := [some (.inr (.inr (some 110))), some (.inl x1), some (.inl x2), some (.inl (zw ((2 * x2) + x1))), some (.inl 0), some (.inl 0)]) rfl rfl rfl rfl ?_
      exact z_Wk_demand_35_ok N hd hw x1 hx1 x2 hx2 (zw ((2 * x2) + x1)) (zw_rg ((2 * x2) + x1)) 0 (zlit rfl) 0 (zlit rfl) A
    · refine js_iconst (pc1 := 26) rfl rfl ?_
      refine js_goto (t1 := 30) rfl rfl ?_
      refine js_istore (pc1 := 32) (L1 := [some (.inr (.inr (some 110))), some (.inl x1), some (.inl x2), some (.inl (zw ((2 * x2) + x1))), some (.inl 1), none]) rfl rfl rfl rfl ?_
      refine js_iconst (pc1 := 33) rfl rfl ?_
      refine js_istore (pc1 := 35) (L1 := [some (.inr (.inr (some 110))), some (.inl x1), some (.inl x2), some (.inl (zw ((2 * x2) + x1))), some (.inl 1), some (.inl 0)]) rfl rfl rfl rfl ?_
      exact z_Wk_demand_35_ok N hd hw x1 hx1 x2 hx2 (zw ((2 * x2) + x1)) (zw_rg ((2 * x2) + x1)) 1 (zlit rfl) 0 (zlit rfl) A
  · refine js_iconst (pc1 := 26) rfl rfl ?_
    refine js_goto (t1 := 30) rfl rfl ?_
    refine js_istore (pc1 := 32) (L1 := [some (.inr (.inr (some 110))), some (.inl x1), some (.inl x2), some (.inl (zw ((2 * x2) + x1))), some (.inl 1), none]) rfl rfl rfl rfl ?_
    refine js_iconst (pc1 := 33) rfl rfl ?_
    refine js_istore (pc1 := 35) (L1 := [some (.inr (.inr (some 110))), some (.inl x1), some (.inl x2), some (.inl (zw ((2 * x2) + x1))), some (.inl 1), some (.inl 0)]) rfl rfl rfl rfl ?_
    exact z_Wk_demand_35_ok N hd hw x1 hx1 x2 hx2 (zw ((2 * x2) + x1)) (zw_rg ((2 * x2) + x1)) 1 (zlit rfl) 0 (zlit rfl) A
theorem z_Wk_worked_119_ok{d w : Nat} (N : Nat) (hd : 4 ≤ d) (hw : 137 ≤ w) (x1 : Int) (hx1 : zrg x1) (x2 : Int) (hx2 : zrg x2) (x3 : Int) (hx3 : zrg x3) (A : zA) : zG (z_Wk_worked_119 N x1 x2 x3 A) zPI d w 292 119 [some (.inr (.inr (some 110))), some (.inl x1), some (.inl x2), some (.inl x3), none] [] A := by
  unfold z_Wk_worked_119
  refine js_aload (pc1 := 120) rfl rfl rfl ?_
  refine js_gfr (pc1 := 123) (j := 0) (r := 111) rfl rfl rfl rfl rfl ?_
  refine js_iconst (pc1 := 124) rfl rfl ?_
  refine js_iload (pc1 := 125) rfl rfl rfl ?_
  refine js_iload (pc1 := 126) rfl rfl rfl ?_
  refine js_iload (pc1 := 127) rfl rfl rfl ?_
  refine js_cI (pc1 := 130) (as := [(.inr (.inr (some 111))), (.inl 1), (.inl x1), (.inl x2), (.inl x3)]) (S0 := []) (m := 8) (L0 := [some (.inr (.inr (some 111))), some (.inl 1), some (.inl x1), some (.inl x2), some (.inl x3), none, none, none]) rfl rfl rfl rfl rfl rfl rfl rfl (zrc_o rfl rfl) (by omega) (by omega) (z_Th_make_ok N (by omega) (by omega) 111 rfl 1 (zlit rfl) x1 hx1 x2 hx2 x3 hx3 A) (fun v1 A2 _ hv1 => ?_)
  exact je_I rfl (zfit0 _ rfl) rfl hv1
theorem z_Wk_worked_61_ok{d w : Nat} (N : Nat) (hd : 4 ≤ d) (hw : 137 ≤ w) (x1 : Int) (hx1 : zrg x1) (x2 : Int) (hx2 : zrg x2) (x3 : Int) (hx3 : zrg x3) (x4 : Int) (hx4 : zrg x4) (A : zA) : zG (z_Wk_worked_61 N x1 x2 x3 x4 A) zPI d w 292 61 [some (.inr (.inr (some 110))), some (.inl x1), some (.inl x2), some (.inl x3), some (.inl x4)] [] A := by
  unfold z_Wk_worked_61
  refine js_aload (pc1 := 62) rfl rfl rfl ?_
  refine js_gfr (pc1 := 65) (j := 0) (r := 111) rfl rfl rfl rfl rfl ?_
  refine js_iload (pc1 := 66) rfl rfl rfl ?_
  refine js_cP (pc1 := 69) (as := [(.inr (.inr (some 111))), (.inl x2)]) (S0 := []) (m := 2) (L0 := [some (.inr (.inr (some 111))), some (.inl x2)]) rfl rfl rfl rfl rfl rfl rfl rfl (zrc_o rfl rfl) (by omega) (by omega) (z_Th_isNumber_ok N (by omega) (by omega) 111 rfl x2 hx2 A) (fun v1 _ hv1 => ?_)
  refine ju_eq (pc1 := 72) (t1 := 119) hv1 rfl rfl rfl (fun c2 => ?_) (fun c2 => ?_)
  · exact zG_to (L := [some (.inr (.inr (some 110))), some (.inl x1), some (.inl x2), some (.inl x3), none]) (S := []) ⟨rfl, ⟨rfl, ⟨rfl, ⟨rfl, trivial⟩⟩⟩⟩ (rfl) (z_Wk_worked_119_ok N hd hw x1 hx1 x2 hx2 x3 hx3 A)
  · refine js_aload (pc1 := 73) rfl rfl rfl ?_
    refine js_gfr (pc1 := 76) (j := 0) (r := 111) rfl rfl rfl rfl rfl ?_
    refine js_iload (pc1 := 77) rfl rfl rfl ?_
    refine js_cP (pc1 := 80) (as := [(.inr (.inr (some 111))), (.inl x3)]) (S0 := []) (m := 2) (L0 := [some (.inr (.inr (some 111))), some (.inl x3)]) rfl rfl rfl rfl rfl rfl rfl rfl (zrc_o rfl rfl) (by omega) (by omega) (z_Th_isNumber_ok N (by omega) (by omega) 111 rfl x3 hx3 A) (fun v3 _ hv3 => ?_)
    refine ju_eq (pc1 := 83) (t1 := 119) hv3 rfl rfl rfl (fun c4 => ?_) (fun c4 => ?_)
    · exact zG_to (L := [some (.inr (.inr (some 110))), some (.inl x1), some (.inl x2), some (.inl x3), none]) (S := []) ⟨rfl, ⟨rfl, ⟨rfl, ⟨rfl, trivial⟩⟩⟩⟩ (rfl) (z_Wk_worked_119_ok N hd hw x1 hx1 x2 hx2 x3 hx3 A)
    · refine js_iload (pc1 := 85) rfl rfl rfl ?_
      refine ju_ne (pc1 := 88) (t1 := 119) hx4 rfl rfl rfl (fun c5 => ?_) (fun c5 => ?_)
      · refine js_aload (pc1 := 89) rfl rfl rfl ?_
        refine js_gfr (pc1 := 92) (j := 0) (r := 111) rfl rfl rfl rfl rfl ?_
        refine js_iconst (pc1 := 93) rfl rfl ?_
        refine js_iload (pc1 := 94) rfl rfl rfl ?_
        refine js_aload (pc1 := 95) rfl rfl rfl ?_
        refine js_gfr (pc1 := 98) (j := 0) (r := 111) rfl rfl rfl rfl rfl ?_
        refine js_iload (pc1 := 99) rfl rfl rfl ?_
        refine js_cP (pc1 := 102) (as := [(.inr (.inr (some 111))), (.inl x2)]) (S0 := [(.inl x1), (.inl 0), (.inr (.inr (some 111)))]) (m := 2) (L0 := [some (.inr (.inr (some 111))), some (.inl x2)]) rfl rfl rfl rfl rfl rfl rfl rfl (zrc_o rfl rfl) (by omega) (by omega) (z_Th_value_ok N (by omega) (by omega) 111 rfl x2 hx2 A) (fun v6 _ hv6 => ?_)
        refine js_aload (pc1 := 103) rfl rfl rfl ?_
        refine js_gfr (pc1 := 106) (j := 0) (r := 111) rfl rfl rfl rfl rfl ?_
        refine js_iload (pc1 := 107) rfl rfl rfl ?_
        refine js_cP (pc1 := 110) (as := [(.inr (.inr (some 111))), (.inl x3)]) (S0 := [(.inl v6), (.inl x1), (.inl 0), (.inr (.inr (some 111)))]) (m := 2) (L0 := [some (.inr (.inr (some 111))), some (.inl x3)]) rfl rfl rfl rfl rfl rfl rfl rfl (zrc_o rfl rfl) (by omega) (by omega) (z_Th_value_ok N (by omega) (by omega) 111 rfl x3 hx3 A) (fun v7 _ hv7 => ?_)
        refine js_cP (pc1 := 113) (as := [(.inl x1), (.inl v6), (.inl v7)]) (S0 := [(.inl 0), (.inr (.inr (some 111)))]) (m := 3) (L0 := [some (.inl x1), some (.inl v6), some (.inl v7)]) rfl rfl rfl rfl rfl rfl rfl rfl (zrc_s rfl) (by omega) (by omega) (z_PC_workOf_ok N (by omega) (by omega) x1 hx1 v6 hv6 v7 hv7 A) (fun v8 _ hv8 => ?_)
        refine js_iconst (pc1 := 114) rfl rfl ?_
        refine js_iconst (pc1 := 115) rfl rfl ?_
        refine js_cI (pc1 := 118) (as := [(.inr (.inr (some 111))), (.inl 0), (.inl v8), (.inl 0), (.inl 0)]) (S0 := []) (m := 8) (L0 := [some (.inr (.inr (some 111))), some (.inl 0), some (.inl v8), some (.inl 0), some (.inl 0), none, none, none]) rfl rfl rfl rfl rfl rfl rfl rfl (zrc_o rfl rfl) (by omega) (by omega) (z_Th_make_ok N (by omega) (by omega) 111 rfl 0 (zlit rfl) v8 hv8 0 (zlit rfl) 0 (zlit rfl) A) (fun v9 A10 _ hv9 => ?_)
        exact je_I rfl (zfit0 _ rfl) rfl hv9
      · exact zG_to (L := [some (.inr (.inr (some 110))), some (.inl x1), some (.inl x2), some (.inl x3), none]) (S := []) ⟨rfl, ⟨rfl, ⟨rfl, ⟨rfl, trivial⟩⟩⟩⟩ (rfl) (z_Wk_worked_119_ok N hd hw x1 hx1 x2 hx2 x3 hx3 A)
theorem z_Wk_worked_55_ok{d w : Nat} (N : Nat) (hd : 4 ≤ d) (hw : 137 ≤ w) (x1 : Int) (hx1 : zrg x1) (x2 : Int) (hx2 : zrg x2) (x3 : Int) (hx3 : zrg x3) (x4 : Int) (hx4 : zrg x4) (A : zA) : zG (z_Wk_worked_55 N x1 x2 x3 x4 A) zPI d w 292 55 [some (.inr (.inr (some 110))), some (.inl x1), some (.inl x2), some (.inl x3), some (.inl x4)] [] A := by
  unfold z_Wk_worked_55
  refine js_aload (pc1 := 56) rfl rfl rfl ?_
  refine js_iconst (pc1 := 57) rfl rfl ?_
  refine js_iload (pc1 := 58) rfl rfl rfl ?_
  refine js_cV (pc1 := 61) (as := [(.inr (.inr (some 110))), (.inl 0), (.inl x3)]) (S0 := []) (m := 6) (L0 := [some (.inr (.inr (some 110))), some (.inl 0), some (.inl x3), none, none, none]) rfl rfl rfl rfl rfl rfl rfl rfl (zrc_o rfl rfl) (by omega) (by omega) (z_Wk_demand_ok N (by omega) (by omega) 0 (zlit rfl) x3 hx3 A) (fun A1 _ => ?_)
  exact z_Wk_worked_61_ok N hd hw x1 hx1 x2 hx2 x3 hx3 x4 hx4 A1
theorem z_Wk_worked_32_ok{d w : Nat} (N : Nat) (hd : 4 ≤ d) (hw : 137 ≤ w) (x1 : Int) (hx1 : zrg x1) (x2 : Int) (hx2 : zrg x2) (x3 : Int) (hx3 : zrg x3) (s0 : Int) (hs0 : zrg s0) (A : zA) : zG (z_Wk_worked_32 N x1 x2 x3 s0 A) zPI d w 292 32 [some (.inr (.inr (some 110))), some (.inl x1), some (.inl x2), some (.inl x3), none] [(.inl s0)] A := by
  unfold z_Wk_worked_32
  refine js_istore (pc1 := 34) (L1 := [some (.inr (.inr (some 110))), some (.inl x1), some (.inl x2), some (.inl x3), some (.inl s0)]) rfl rfl rfl rfl ?_
  refine js_iload (pc1 := 35) rfl rfl rfl ?_
  refine js_iconst (pc1 := 36) rfl rfl ?_
  refine jt_ne (pc1 := 39) (t1 := 61) hx1 (zlit rfl) rfl rfl rfl (fun c1 => ?_) (fun c1 => ?_)
  · refine js_iload (pc1 := 41) rfl rfl rfl ?_
    refine ju_ne (pc1 := 44) (t1 := 55) hs0 rfl rfl rfl (fun c2 => ?_) (fun c2 => ?_)
    · refine js_aload (pc1 := 45) rfl rfl rfl ?_
      refine js_gfr (pc1 := 48) (j := 0) (r := 111) rfl rfl rfl rfl rfl ?_
      refine js_iload (pc1 := 49) rfl rfl rfl ?_
      refine js_cP (pc1 := 52) (as := [(.inr (.inr (some 111))), (.inl x3)]) (S0 := []) (m := 2) (L0 := [some (.inr (.inr (some 111))), some (.inl x3)]) rfl rfl rfl rfl rfl rfl rfl rfl (zrc_o rfl rfl) (by omega) (by omega) (z_Th_isNumber_ok N (by omega) (by omega) 111 rfl x3 hx3 A) (fun v3 _ hv3 => ?_)
      refine ju_ne (pc1 := 55) (t1 := 61) hv3 rfl rfl rfl (fun c4 => ?_) (fun c4 => ?_)
      · exact z_Wk_worked_55_ok N hd hw x1 hx1 x2 hx2 x3 hx3 s0 hs0 A
      · exact z_Wk_worked_61_ok N hd hw x1 hx1 x2 hx2 x3 hx3 s0 hs0 A
    · exact z_Wk_worked_55_ok N hd hw x1 hx1 x2 hx2 x3 hx3 s0 hs0 A
  · exact z_Wk_worked_61_ok N hd hw x1 hx1 x2 hx2 x3 hx3 s0 hs0 A
theorem z_Wk_worked_ok{d w : Nat} (N : Nat) (hd : 4 ≤ d) (hw : 137 ≤ w) (x1 : Int) (hx1 : zrg x1) (x2 : Int) (hx2 : zrg x2) (x3 : Int) (hx3 : zrg x3) (A : zA) : zG (z_Wk_worked N x1 x2 x3 A) zPI d w 292 0 [some (.inr (.inr (some 110))), some (.inl x1), some (.inl x2), some (.inl x3), none] [] A := by
  unfold z_Wk_worked
  refine js_iload (pc1 := 1) rfl rfl rfl ?_
  refine js_iconst (pc1 := 2) rfl rfl ?_
  refine jt_ne (pc1 := 5) (t1 := 31) hx1 (zlit rfl) rfl rfl rfl (fun c1 => ?_) (fun c1 => ?_)
  · refine js_aload (pc1 := 6) rfl rfl rfl ?_
    refine js_gfr (pc1 := 9) (j := 0) (r := 111) rfl rfl rfl rfl rfl ?_
    refine js_iload (pc1 := 10) rfl rfl rfl ?_
    refine js_cP (pc1 := 13) (as := [(.inr (.inr (some 111))), (.inl x3)]) (S0 := []) (m := 2) (L0 := [some (.inr (.inr (some 111))), some (.inl x3)]) rfl rfl rfl rfl rfl rfl rfl rfl (zrc_o rfl rfl) (by omega) (by omega) (z_Th_isNumber_ok N (by omega) (by omega) 111 rfl x3 hx3 A) (fun v2 _ hv2 => ?_)
    refine ju_eq (pc1 := 16) (t1 := 31) hv2 rfl rfl rfl (fun c3 => ?_) (fun c3 => ?_)
    · refine js_iconst (pc1 := 32) rfl rfl ?_
      exact z_Wk_worked_32_ok N hd hw x1 hx1 x2 hx2 x3 hx3 0 (zlit rfl) A
    · refine js_aload (pc1 := 17) rfl rfl rfl ?_
      refine js_gfr (pc1 := 20) (j := 0) (r := 111) rfl rfl rfl rfl rfl ?_
      refine js_iload (pc1 := 21) rfl rfl rfl ?_
      refine js_cP (pc1 := 24) (as := [(.inr (.inr (some 111))), (.inl x3)]) (S0 := []) (m := 2) (L0 := [some (.inr (.inr (some 111))), some (.inl x3)]) rfl rfl rfl rfl rfl rfl rfl rfl (zrc_o rfl rfl) (by omega) (by omega) (z_Th_value_ok N (by omega) (by omega) 111 rfl x3 hx3 A) (fun v4 _ hv4 => ?_)
      refine ju_ne (pc1 := 27) (t1 := 31) hv4 rfl rfl rfl (fun c5 => ?_) (fun c5 => ?_)
      · refine js_iconst (pc1 := 28) rfl rfl ?_
        refine js_goto (t1 := 32) rfl rfl ?_
        exact z_Wk_worked_32_ok N hd hw x1 hx1 x2 hx2 x3 hx3 1 (zlit rfl) A
      · refine js_iconst (pc1 := 32) rfl rfl ?_
        exact z_Wk_worked_32_ok N hd hw x1 hx1 x2 hx2 x3 hx3 0 (zlit rfl) A
  · refine js_iconst (pc1 := 32) rfl rfl ?_
    exact z_Wk_worked_32_ok N hd hw x1 hx1 x2 hx2 x3 hx3 0 (zlit rfl) A
theorem z_Wk_demandCell_35_ok{d w : Nat} (N : Nat) (hd : 2 ≤ d) (hw : 47 ≤ w) (x1 : Int) (hx1 : zrg x1) (A : zA) : zG (z_Wk_demandCell_35 N x1 A) zPV d w 293 35 [some (.inr (.inr (some 110))), some (.inl x1)] [] A := by
  unfold z_Wk_demandCell_35
  refine js_aload (pc1 := 36) rfl rfl rfl ?_
  refine js_iconst (pc1 := 37) rfl rfl ?_
  refine js_iload (pc1 := 38) rfl rfl rfl ?_
  refine js_cV (pc1 := 41) (as := [(.inr (.inr (some 110))), (.inl 1), (.inl x1)]) (S0 := []) (m := 6) (L0 := [some (.inr (.inr (some 110))), some (.inl 1), some (.inl x1), none, none, none]) rfl rfl rfl rfl rfl rfl rfl rfl (zrc_o rfl rfl) (by omega) (by omega) (z_Wk_demand_ok N (by omega) (by omega) 1 (zlit rfl) x1 hx1 A) (fun A1 _ => ?_)
  exact je_V rfl
theorem z_Wk_demandCell_ok{d w : Nat} (N : Nat) (hd : 2 ≤ d) (hw : 47 ≤ w) (x1 : Int) (hx1 : zrg x1) (A : zA) : zG (z_Wk_demandCell N x1 A) zPV d w 293 0 [some (.inr (.inr (some 110))), some (.inl x1)] [] A := by
  unfold z_Wk_demandCell
  refine js_aload (pc1 := 1) rfl rfl rfl ?_
  refine js_gfr (pc1 := 4) (j := 0) (r := 111) rfl rfl rfl rfl rfl ?_
  refine js_iload (pc1 := 5) rfl rfl rfl ?_
  refine js_cP (pc1 := 8) (as := [(.inr (.inr (some 111))), (.inl x1)]) (S0 := []) (m := 2) (L0 := [some (.inr (.inr (some 111))), some (.inl x1)]) rfl rfl rfl rfl rfl rfl rfl rfl (zrc_o rfl rfl) (by omega) (by omega) (z_Th_isNumber_ok N (by omega) (by omega) 111 rfl x1 hx1 A) (fun v1 _ hv1 => ?_)
  refine ju_eq (pc1 := 11) (t1 := 35) hv1 rfl rfl rfl (fun c2 => ?_) (fun c2 => ?_)
  · exact z_Wk_demandCell_35_ok N hd hw x1 hx1 A
  · refine js_aload (pc1 := 12) rfl rfl rfl ?_
    refine js_gfr (pc1 := 15) (j := 0) (r := 111) rfl rfl rfl rfl rfl ?_
    refine js_iload (pc1 := 16) rfl rfl rfl ?_
    refine js_cP (pc1 := 19) (as := [(.inr (.inr (some 111))), (.inl x1)]) (S0 := []) (m := 2) (L0 := [some (.inr (.inr (some 111))), some (.inl x1)]) rfl rfl rfl rfl rfl rfl rfl rfl (zrc_o rfl rfl) (by omega) (by omega) (z_Th_value_ok N (by omega) (by omega) 111 rfl x1 hx1 A) (fun v3 _ hv3 => ?_)
    refine ju_lt (pc1 := 22) (t1 := 35) hv3 rfl rfl rfl (fun c4 => ?_) (fun c4 => ?_)
    · exact z_Wk_demandCell_35_ok N hd hw x1 hx1 A
    · refine js_aload (pc1 := 23) rfl rfl rfl ?_
      refine js_gfr (pc1 := 26) (j := 0) (r := 111) rfl rfl rfl rfl rfl ?_
      refine js_iload (pc1 := 27) rfl rfl rfl ?_
      refine js_cP (pc1 := 30) (as := [(.inr (.inr (some 111))), (.inl x1)]) (S0 := []) (m := 2) (L0 := [some (.inr (.inr (some 111))), some (.inl x1)]) rfl rfl rfl rfl rfl rfl rfl rfl (zrc_o rfl rfl) (by omega) (by omega) (z_Th_value_ok N (by omega) (by omega) 111 rfl x1 hx1 A) (fun v5 _ hv5 => ?_)
      refine js_iconst (pc1 := 32) rfl rfl ?_
      refine jt_lt (pc1 := 35) (t1 := 41) hv5 (zlit rfl) rfl rfl rfl (fun c6 => ?_) (fun c6 => ?_)
      · exact je_V rfl
      · exact z_Wk_demandCell_35_ok N hd hw x1 hx1 A
theorem z_Wk_goOverPlain_ok{d w : Nat} (N : Nat) (hd : 5 ≤ d) (hw : 161 ≤ w) (x1 : Nat) (hx1 : zsh x1 = some (false, 3, 4)) (x2 : Int) (hx2 : zrg x2) (A : zA) : zG (z_Wk_goOverPlain N x1 x2 A) zPV d w 254 0 [some (.inr (.inr (some 110))), some (.inr (.inr (some x1))), some (.inl x2), none, none] [] A := by
  unfold z_Wk_goOverPlain
  refine js_aload (pc1 := 1) rfl rfl rfl ?_
  refine js_iload (pc1 := 2) rfl rfl rfl ?_
  refine js_iconst (pc1 := 3) rfl rfl ?_
  refine js_cP (pc1 := 6) (as := [(.inr (.inr (some x1))), (.inl x2), (.inl 0)]) (S0 := []) (m := 5) (L0 := [some (.inr (.inr (some x1))), some (.inl x2), some (.inl 0), none, none]) rfl rfl rfl rfl rfl rfl rfl rfl (zrc_o rfl hx1) (by omega) (by omega) (z_Pt_register_ok N (by omega) (by omega) x1 hx1 x2 hx2 0 (zlit rfl) A) (fun v1 _ hv1 => ?_)
  refine js_istore (pc1 := 7) (L1 := [some (.inr (.inr (some 110))), some (.inr (.inr (some x1))), some (.inl x2), some (.inl v1), none]) rfl rfl rfl rfl ?_
  refine js_aload (pc1 := 8) rfl rfl rfl ?_
  refine js_iload (pc1 := 9) rfl rfl rfl ?_
  refine js_iconst (pc1 := 10) rfl rfl ?_
  refine js_cP (pc1 := 13) (as := [(.inr (.inr (some x1))), (.inl x2), (.inl 1)]) (S0 := []) (m := 5) (L0 := [some (.inr (.inr (some x1))), some (.inl x2), some (.inl 1), none, none]) rfl rfl rfl rfl rfl rfl rfl rfl (zrc_o rfl hx1) (by omega) (by omega) (z_Pt_register_ok N (by omega) (by omega) x1 hx1 x2 hx2 1 (zlit rfl) A) (fun v2 _ hv2 => ?_)
  refine js_istore (pc1 := 15) (L1 := [some (.inr (.inr (some 110))), some (.inr (.inr (some x1))), some (.inl x2), some (.inl v1), some (.inl v2)]) rfl rfl rfl rfl ?_
  refine js_aload (pc1 := 16) rfl rfl rfl ?_
  refine js_iload (pc1 := 17) rfl rfl rfl ?_
  refine js_cP (pc1 := 20) (as := [(.inr (.inr (some x1))), (.inl x2)]) (S0 := []) (m := 2) (L0 := [some (.inr (.inr (some x1))), some (.inl x2)]) rfl rfl rfl rfl rfl rfl rfl rfl (zrc_o rfl hx1) (by omega) (by omega) (z_Pt_kind_ok N (by omega) (by omega) x1 hx1 x2 hx2 A) (fun v3 _ hv3 => ?_)
  refine zG_ite (fun c9 => ?_) (fun c9 => ?_)
  · refine js_tsw (t1 := 64) rfl c9 (zlit rfl) (by decide) ?_
    refine js_aload (pc1 := 65) rfl rfl rfl ?_
    refine jt_gr (pc1 := 68) (j := 5) rfl rfl rfl rfl (fun p4 => ?_)
    refine js_iload (pc1 := 69) rfl rfl rfl ?_
    refine js_aload (pc1 := 70) rfl rfl rfl ?_
    refine js_gfr (pc1 := 73) (j := 0) (r := 111) rfl rfl rfl rfl rfl ?_
    refine js_iconst (pc1 := 74) rfl rfl ?_
    refine js_aload (pc1 := 75) rfl rfl rfl ?_
    refine js_iload (pc1 := 76) rfl rfl rfl ?_
    refine js_iconst (pc1 := 77) rfl rfl ?_
    refine js_cP (pc1 := 80) (as := [(.inr (.inr (some x1))), (.inl x2), (.inl 1)]) (S0 := [(.inl 0), (.inr (.inr (some 111))), (.inl v1), (.inr (.inr (some p4)))]) (m := 4) (L0 := [some (.inr (.inr (some x1))), some (.inl x2), some (.inl 1), none]) rfl rfl rfl rfl rfl rfl rfl rfl (zrc_o rfl hx1) (by omega) (by omega) (z_Pt_number_ok N (by omega) (by omega) x1 hx1 x2 hx2 1 (zlit rfl) A) (fun v5 _ hv5 => ?_)
    refine js_iconst (pc1 := 81) rfl rfl ?_
    refine js_iconst (pc1 := 82) rfl rfl ?_
    refine js_cI (pc1 := 85) (as := [(.inr (.inr (some 111))), (.inl 0), (.inl v5), (.inl 0), (.inl 0)]) (S0 := [(.inl v1), (.inr (.inr (some p4)))]) (m := 8) (L0 := [some (.inr (.inr (some 111))), some (.inl 0), some (.inl v5), some (.inl 0), some (.inl 0), none, none, none]) rfl rfl rfl rfl rfl rfl rfl rfl (zrc_o rfl rfl) (by omega) (by omega) (z_Th_make_ok N (by omega) (by omega) 111 rfl 0 (zlit rfl) v5 hv5 0 (zlit rfl) 0 (zlit rfl) A) (fun v6 A7 _ hv6 => ?_)
    refine jt_iasD (pc1 := 86) rfl rfl (fun A8 => ?_)
    refine js_goto (t1 := 286) rfl rfl ?_
    exact je_V rfl
  refine zG_ite (fun c14 => ?_) (fun c14 => ?_)
  · refine js_tsw (t1 := 89) rfl c14 (zlit rfl) (by decide) ?_
    refine js_aload (pc1 := 90) rfl rfl rfl ?_
    refine jt_gr (pc1 := 93) (j := 5) rfl rfl rfl rfl (fun p10 => ?_)
    refine js_iload (pc1 := 94) rfl rfl rfl ?_
    refine js_aload (pc1 := 95) rfl rfl rfl ?_
    refine jt_gr (pc1 := 98) (j := 5) rfl rfl rfl rfl (fun p11 => ?_)
    refine js_iload (pc1 := 100) rfl rfl rfl ?_
    refine jt_aldD (pc1 := 101) rfl rfl (fun v12 hv12 => ?_)
    refine jt_iasD (pc1 := 102) rfl rfl (fun A13 => ?_)
    refine js_goto (t1 := 286) rfl rfl ?_
    exact je_V rfl
  refine zG_ite (fun c25 => ?_) (fun c25 => ?_)
  · refine js_tsw (t1 := 105) rfl c25 (zlit rfl) (by decide) ?_
    refine js_aload (pc1 := 106) rfl rfl rfl ?_
    refine jt_gr (pc1 := 109) (j := 5) rfl rfl rfl rfl (fun p15 => ?_)
    refine js_iload (pc1 := 110) rfl rfl rfl ?_
    refine js_aload (pc1 := 111) rfl rfl rfl ?_
    refine js_aload (pc1 := 112) rfl rfl rfl ?_
    refine js_iload (pc1 := 113) rfl rfl rfl ?_
    refine js_iconst (pc1 := 114) rfl rfl ?_
    refine js_cP (pc1 := 117) (as := [(.inr (.inr (some x1))), (.inl x2), (.inl 3)]) (S0 := [(.inr (.inr (some 110))), (.inl v1), (.inr (.inr (some p15)))]) (m := 4) (L0 := [some (.inr (.inr (some x1))), some (.inl x2), some (.inl 3), none]) rfl rfl rfl rfl rfl rfl rfl rfl (zrc_o rfl hx1) (by omega) (by omega) (z_Pt_number_ok N (by omega) (by omega) x1 hx1 x2 hx2 3 (zlit rfl) A) (fun v16 _ hv16 => ?_)
    refine js_aload (pc1 := 118) rfl rfl rfl ?_
    refine jt_gr (pc1 := 121) (j := 5) rfl rfl rfl rfl (fun p17 => ?_)
    refine js_iload (pc1 := 123) rfl rfl rfl ?_
    refine jt_aldD (pc1 := 124) rfl rfl (fun v18 hv18 => ?_)
    refine js_aload (pc1 := 125) rfl rfl rfl ?_
    refine jt_gr (pc1 := 128) (j := 5) rfl rfl rfl rfl (fun p19 => ?_)
    refine js_aload (pc1 := 129) rfl rfl rfl ?_
    refine js_iload (pc1 := 130) rfl rfl rfl ?_
    refine js_iconst (pc1 := 131) rfl rfl ?_
    refine js_cP (pc1 := 134) (as := [(.inr (.inr (some x1))), (.inl x2), (.inl 2)]) (S0 := [(.inr (.inr (some p19))), (.inl v18), (.inl v16), (.inr (.inr (some 110))), (.inl v1), (.inr (.inr (some p15)))]) (m := 5) (L0 := [some (.inr (.inr (some x1))), some (.inl x2), some (.inl 2), none, none]) rfl rfl rfl rfl rfl rfl rfl rfl (zrc_o rfl hx1) (by omega) (by omega) (z_Pt_register_ok N (by omega) (by omega) x1 hx1 x2 hx2 2 (zlit rfl) A) (fun v20 _ hv20 => ?_)
    refine jt_aldD (pc1 := 135) rfl rfl (fun v21 hv21 => ?_)
    refine js_cI (pc1 := 138) (as := [(.inr (.inr (some 110))), (.inl v16), (.inl v18), (.inl v21)]) (S0 := [(.inl v1), (.inr (.inr (some p15)))]) (m := 5) (L0 := [some (.inr (.inr (some 110))), some (.inl v16), some (.inl v18), some (.inl v21), none]) rfl rfl rfl rfl rfl rfl rfl rfl (zrc_o rfl rfl) (by omega) (by omega) (z_Wk_worked_ok N (by omega) (by omega) v16 hv16 v18 hv18 v21 hv21 A) (fun v22 A23 _ hv22 => ?_)
    refine jt_iasD (pc1 := 139) rfl rfl (fun A24 => ?_)
    refine js_goto (t1 := 286) rfl rfl ?_
    exact je_V rfl
  refine zG_ite (fun c37 => ?_) (fun c37 => ?_)
  · refine js_tsw (t1 := 142) rfl c37 (zlit rfl) (by decide) ?_
    refine js_aload (pc1 := 143) rfl rfl rfl ?_
    refine js_aload (pc1 := 144) rfl rfl rfl ?_
    refine jt_gr (pc1 := 147) (j := 5) rfl rfl rfl rfl (fun p26 => ?_)
    refine js_iload (pc1 := 149) rfl rfl rfl ?_
    refine jt_aldD (pc1 := 150) rfl rfl (fun v27 hv27 => ?_)
    refine js_cV (pc1 := 153) (as := [(.inr (.inr (some 110))), (.inl v27)]) (S0 := []) (m := 2) (L0 := [some (.inr (.inr (some 110))), some (.inl v27)]) rfl rfl rfl rfl rfl rfl rfl rfl (zrc_o rfl rfl) (by omega) (by omega) (z_Wk_demandCell_ok N (by omega) (by omega) v27 hv27 A) (fun A28 _ => ?_)
    refine js_aload (pc1 := 154) rfl rfl rfl ?_
    refine jt_gr (pc1 := 157) (j := 5) rfl rfl rfl rfl (fun p29 => ?_)
    refine js_iload (pc1 := 158) rfl rfl rfl ?_
    refine js_aload (pc1 := 159) rfl rfl rfl ?_
    refine js_gfr (pc1 := 162) (j := 0) (r := 111) rfl rfl rfl rfl rfl ?_
    refine js_iconst (pc1 := 163) rfl rfl ?_
    refine js_aload (pc1 := 164) rfl rfl rfl ?_
    refine jt_gr (pc1 := 167) (j := 5) rfl rfl rfl rfl (fun p30 => ?_)
    refine js_iconst (pc1 := 169) rfl rfl ?_
    refine jt_aldD (pc1 := 170) rfl rfl (fun v31 hv31 => ?_)
    refine js_aload (pc1 := 171) rfl rfl rfl ?_
    refine jt_gr (pc1 := 174) (j := 5) rfl rfl rfl rfl (fun p32 => ?_)
    refine js_iload (pc1 := 176) rfl rfl rfl ?_
    refine jt_aldD (pc1 := 177) rfl rfl (fun v33 hv33 => ?_)
    refine js_iconst (pc1 := 178) rfl rfl ?_
    refine js_cI (pc1 := 181) (as := [(.inr (.inr (some 111))), (.inl 2), (.inl v31), (.inl v33), (.inl 0)]) (S0 := [(.inl v1), (.inr (.inr (some p29)))]) (m := 8) (L0 := [some (.inr (.inr (some 111))), some (.inl 2), some (.inl v31), some (.inl v33), some (.inl 0), none, none, none]) rfl rfl rfl rfl rfl rfl rfl rfl (zrc_o rfl rfl) (by omega) (by omega) (z_Th_make_ok N (by omega) (by omega) 111 rfl 2 (zlit rfl) v31 hv31 v33 hv33 0 (zlit rfl) A28) (fun v34 A35 _ hv34 => ?_)
    refine jt_iasD (pc1 := 182) rfl rfl (fun A36 => ?_)
    refine js_goto (t1 := 286) rfl rfl ?_
    exact je_V rfl
  refine zG_ite (fun c51 => ?_) (fun c51 => ?_)
  · refine js_tsw (t1 := 185) rfl c51 (zlit rfl) (by decide) ?_
    refine js_aload (pc1 := 186) rfl rfl rfl ?_
    refine js_aload (pc1 := 187) rfl rfl rfl ?_
    refine jt_gr (pc1 := 190) (j := 5) rfl rfl rfl rfl (fun p38 => ?_)
    refine js_iload (pc1 := 191) rfl rfl rfl ?_
    refine jt_aldD (pc1 := 192) rfl rfl (fun v39 hv39 => ?_)
    refine js_cV (pc1 := 195) (as := [(.inr (.inr (some 110))), (.inl v39)]) (S0 := []) (m := 2) (L0 := [some (.inr (.inr (some 110))), some (.inl v39)]) rfl rfl rfl rfl rfl rfl rfl rfl (zrc_o rfl rfl) (by omega) (by omega) (z_Wk_demandCell_ok N (by omega) (by omega) v39 hv39 A) (fun A40 _ => ?_)
    refine js_aload (pc1 := 196) rfl rfl rfl ?_
    refine jt_gr (pc1 := 199) (j := 5) rfl rfl rfl rfl (fun p41 => ?_)
    refine js_iconst (pc1 := 201) rfl rfl ?_
    refine js_aload (pc1 := 202) rfl rfl rfl ?_
    refine js_gfr (pc1 := 205) (j := 0) (r := 111) rfl rfl rfl rfl rfl ?_
    refine js_iconst (pc1 := 206) rfl rfl ?_
    refine js_aload (pc1 := 207) rfl rfl rfl ?_
    refine jt_gr (pc1 := 210) (j := 5) rfl rfl rfl rfl (fun p42 => ?_)
    refine js_iconst (pc1 := 212) rfl rfl ?_
    refine jt_aldD (pc1 := 213) rfl rfl (fun v43 hv43 => ?_)
    refine js_aload (pc1 := 214) rfl rfl rfl ?_
    refine jt_gr (pc1 := 217) (j := 5) rfl rfl rfl rfl (fun p44 => ?_)
    refine js_iload (pc1 := 218) rfl rfl rfl ?_
    refine jt_aldD (pc1 := 219) rfl rfl (fun v45 hv45 => ?_)
    refine js_aload (pc1 := 220) rfl rfl rfl ?_
    refine jt_gr (pc1 := 223) (j := 5) rfl rfl rfl rfl (fun p46 => ?_)
    refine js_iload (pc1 := 225) rfl rfl rfl ?_
    refine jt_aldD (pc1 := 226) rfl rfl (fun v47 hv47 => ?_)
    refine js_cI (pc1 := 229) (as := [(.inr (.inr (some 111))), (.inl 4), (.inl v43), (.inl v45), (.inl v47)]) (S0 := [(.inl 60), (.inr (.inr (some p41)))]) (m := 8) (L0 := [some (.inr (.inr (some 111))), some (.inl 4), some (.inl v43), some (.inl v45), some (.inl v47), none, none, none]) rfl rfl rfl rfl rfl rfl rfl rfl (zrc_o rfl rfl) (by omega) (by omega) (z_Th_make_ok N (by omega) (by omega) 111 rfl 4 (zlit rfl) v43 hv43 v45 hv45 v47 hv47 A40) (fun v48 A49 _ hv48 => ?_)
    refine jt_iasD (pc1 := 230) rfl rfl (fun A50 => ?_)
    refine js_goto (t1 := 286) rfl rfl ?_
    exact je_V rfl
  refine zG_ite (fun c58 => ?_) (fun c58 => ?_)
  · refine js_tsw (t1 := 233) rfl c58 (zlit rfl) (by decide) ?_
    refine js_aload (pc1 := 234) rfl rfl rfl ?_
    refine js_iconst (pc1 := 235) rfl rfl ?_
    refine js_iconst (pc1 := 236) rfl rfl ?_
    refine js_cV (pc1 := 239) (as := [(.inr (.inr (some 110))), (.inl 2), (.inl (-1))]) (S0 := []) (m := 3) (L0 := [some (.inr (.inr (some 110))), some (.inl 2), some (.inl (-1))]) rfl rfl rfl rfl rfl rfl rfl rfl (zrc_o rfl rfl) (by omega) (by omega) (z_Wk_say_ok N (by omega) (by omega) 2 (zlit rfl) (-1) (zlit rfl) A) (fun A52 _ => ?_)
    refine js_aload (pc1 := 240) rfl rfl rfl ?_
    refine jt_gr (pc1 := 243) (j := 5) rfl rfl rfl rfl (fun p53 => ?_)
    refine js_iload (pc1 := 244) rfl rfl rfl ?_
    refine js_aload (pc1 := 245) rfl rfl rfl ?_
    refine js_gfr (pc1 := 248) (j := 0) (r := 111) rfl rfl rfl rfl rfl ?_
    refine js_iconst (pc1 := 249) rfl rfl ?_
    refine js_aload (pc1 := 250) rfl rfl rfl ?_
    refine js_gi (pc1 := 253) (j := 12) rfl rfl rfl rfl ?_
    refine js_iconst (pc1 := 254) rfl rfl ?_
    refine js_iconst (pc1 := 255) rfl rfl ?_
    refine js_cI (pc1 := 258) (as := [(.inr (.inr (some 111))), (.inl 5), (.inl (zi A52 110 12)), (.inl 0), (.inl 0)]) (S0 := [(.inl v1), (.inr (.inr (some p53)))]) (m := 8) (L0 := [some (.inr (.inr (some 111))), some (.inl 5), some (.inl (zi A52 110 12)), some (.inl 0), some (.inl 0), none, none, none]) rfl rfl rfl rfl rfl rfl rfl rfl (zrc_o rfl rfl) (by omega) (by omega) (z_Th_make_ok N (by omega) (by omega) 111 rfl 5 (zlit rfl) (zi A52 110 12) (zi_rg _ _ _) 0 (zlit rfl) 0 (zlit rfl) A52) (fun v54 A55 _ hv54 => ?_)
    refine jt_iasD (pc1 := 259) rfl rfl (fun A56 => ?_)
    refine js_aload (pc1 := 260) rfl rfl rfl ?_
    refine js_dupR (pc1 := 261) rfl rfl ?_
    refine js_gi (pc1 := 264) (j := 12) rfl rfl rfl rfl ?_
    refine js_iconst (pc1 := 265) rfl rfl ?_
    refine js_iadd (pc1 := 266) rfl rfl ?_
    refine jt_pi (pc1 := 269) (j := 12) rfl rfl rfl rfl rfl (fun A57 => ?_)
    refine js_goto (t1 := 286) rfl rfl ?_
    exact je_V rfl
  refine zG_ite (fun c62 => ?_) (fun c62 => ?_)
  · refine js_tsw (t1 := 272) rfl c62 (zlit rfl) (by decide) ?_
    refine js_aload (pc1 := 273) rfl rfl rfl ?_
    refine js_iconst (pc1 := 274) rfl rfl ?_
    refine js_aload (pc1 := 275) rfl rfl rfl ?_
    refine jt_gr (pc1 := 278) (j := 5) rfl rfl rfl rfl (fun p59 => ?_)
    refine js_iload (pc1 := 279) rfl rfl rfl ?_
    refine jt_aldD (pc1 := 280) rfl rfl (fun v60 hv60 => ?_)
    refine js_cV (pc1 := 283) (as := [(.inr (.inr (some 110))), (.inl 3), (.inl v60)]) (S0 := []) (m := 3) (L0 := [some (.inr (.inr (some 110))), some (.inl 3), some (.inl v60)]) rfl rfl rfl rfl rfl rfl rfl rfl (zrc_o rfl rfl) (by omega) (by omega) (z_Wk_say_ok N (by omega) (by omega) 3 (zlit rfl) v60 hv60 A) (fun A61 _ => ?_)
    refine js_goto (t1 := 286) rfl rfl ?_
    exact je_V rfl
  refine js_tswd (t1 := 286) rfl hv3 (by omega) rfl ?_
  exact je_V rfl
