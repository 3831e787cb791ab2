theorem z_PC_byteOf_ok{d w : Nat} (N : Nat) (hd : 0 ≤ d) (hw : 0 ≤ w) (x0 : Int) (hx0 : zrg x0) (x1 : Int) (hx1 : zrg x1) (A : zA) : zG (z_PC_byteOf N x0 x1 A) (zPp A) d w 40 0 [some (.inl x0), some (.inl x1)] [] A := by
  unfold z_PC_byteOf
  refine js_iload (pc1 := 1) rfl rfl rfl ?_
  refine js_iconst (pc1 := 3) rfl rfl ?_
  refine js_iload (pc1 := 4) rfl rfl rfl ?_
  refine js_imul (pc1 := 5) rfl rfl ?_
  refine js_iushr (pc1 := 6) rfl rfl ?_
  refine js_iconst (pc1 := 9) rfl rfl ?_
  refine js_iand (pc1 := 10) rfl rfl ?_
  exact je_P rfl (zfit0 _ rfl) rfl (zt_rg _)
theorem z_Pa_append_ok{d w : Nat} (N : Nat) (hd : 0 ≤ d) (hw : 0 ≤ w) (x1 : Int) (hx1 : zrg x1) (A : zA) : zG (z_Pa_append N x1 A) zPV d w 41 0 [some (.inr (.inr (some 5))), some (.inl x1)] [] A := by
  unfold z_Pa_append
  refine js_aload (pc1 := 1) rfl rfl rfl ?_
  refine js_gi (pc1 := 4) (j := 1) rfl rfl rfl rfl ?_
  refine js_iconst (pc1 := 6) rfl rfl ?_
  refine jt_ge (pc1 := 9) (t1 := 29) (zi_rg _ _ _) (zlit rfl) rfl rfl rfl (fun c1 => ?_) (fun c1 => ?_)
  · refine js_aload (pc1 := 10) rfl rfl rfl ?_
    refine js_gfr (pc1 := 13) (j := 0) (r := 6) rfl rfl rfl rfl rfl ?_
    refine js_aload (pc1 := 14) rfl rfl rfl ?_
    refine js_gi (pc1 := 17) (j := 1) rfl rfl rfl rfl ?_
    refine js_iload (pc1 := 18) rfl rfl rfl ?_
    refine jt_cas (pc1 := 19) rfl rfl rfl rfl (fun A2 => ?_)
    refine js_aload (pc1 := 20) rfl rfl rfl ?_
    refine js_dupR (pc1 := 21) rfl rfl ?_
    refine js_gi (pc1 := 24) (j := 1) rfl rfl rfl rfl ?_
    refine js_iconst (pc1 := 25) rfl rfl ?_
    refine js_iadd (pc1 := 26) rfl rfl ?_
    refine jt_pi (pc1 := 29) (j := 1) rfl rfl rfl rfl rfl (fun A3 => ?_)
    exact je_V rfl
  · exact je_V rfl
theorem z_PC_put_66_bok{d w : Nat} {r66 : Int → Int → zA → Option (Int × zA)} (hr66 : ∀ (x1 : Int) (hx1 : zrg x1) (x3 : Int) (hx3 : zrg x3) (A : zA), zG (r66 x1 x3 A) zPI d w 3 66 [some (.inr (.inr (some 4))), some (.inl x1), none, some (.inl x3), none] [] A) (N : Nat) (hd : 1 ≤ d) (hw : 21 ≤ w) (x1 : Int) (hx1 : zrg x1) (x3 : Int) (hx3 : zrg x3) (A : zA) : zG (z_PC_put_66_b r66 N x1 x3 A) zPI d w 3 66 [some (.inr (.inr (some 4))), some (.inl x1), none, some (.inl x3), none] [] A := by
  unfold z_PC_put_66_b
  refine js_iload (pc1 := 67) rfl rfl rfl ?_
  refine ju_lt (pc1 := 70) (t1 := 89) hx3 rfl rfl rfl (fun c1 => ?_) (fun c1 => ?_)
  · refine js_iconst (pc1 := 90) rfl rfl ?_
    exact je_I rfl (zfit3 rfl (Or.inr rfl)) rfl (zlit rfl)
  · refine js_aload (pc1 := 71) rfl rfl rfl ?_
    refine js_gfr (pc1 := 74) (j := 0) (r := 5) rfl rfl rfl rfl rfl ?_
    refine js_iload (pc1 := 75) rfl rfl rfl ?_
    refine js_iload (pc1 := 76) rfl rfl rfl ?_
    refine js_cP (pc1 := 79) (as := [(.inl x1), (.inl x3)]) (S0 := [(.inr (.inr (some 5)))]) (m := 2) (L0 := [some (.inl x1), some (.inl x3)]) rfl rfl rfl rfl rfl rfl rfl rfl (zrc_s rfl) (by omega) (by omega) (z_PC_byteOf_ok N (by omega) (by omega) x1 hx1 x3 hx3 A) (fun v2 _ hv2 => ?_)
    refine js_i2c (pc1 := 80) rfl rfl ?_
    refine js_cV (pc1 := 83) (as := [(.inr (.inr (some 5))), (.inl (zch v2))]) (S0 := []) (m := 2) (L0 := [some (.inr (.inr (some 5))), some (.inl (zch v2))]) rfl rfl rfl rfl rfl rfl rfl rfl (zrc_o rfl rfl) (by omega) (by omega) (z_Pa_append_ok N (by omega) (by omega) (zch v2) (zt_rg _) A) (fun A3 _ => ?_)
    refine js_iinc (pc1 := 86) (L1 := [some (.inr (.inr (some 4))), some (.inl x1), none, some (.inl (x3 + (-1))), none]) rfl rfl rfl rfl ?_
    refine js_goto (t1 := 66) rfl rfl ?_
    exact zG_to (L := [some (.inr (.inr (some 4))), some (.inl x1), none, some (.inl (zw (x3 + (-1)))), none]) (S := []) ⟨rfl, ⟨rfl, ⟨zval_w (x3 + (-1)), trivial⟩⟩⟩ (rfl) (hr66 x1 hx1 (zw (x3 + (-1))) (zw_rg (x3 + (-1))) A3)
theorem z_PC_put_66_lok{d w : Nat} (N : Nat) (hd : 1 ≤ d) (hw : 21 ≤ w) (n : Nat) : ∀ (x1 : Int) (hx1 : zrg x1) (x3 : Int) (hx3 : zrg x3) (A : zA), zG (z_PC_put_66_l N n x1 x3 A) zPI d w 3 66 [some (.inr (.inr (some 4))), some (.inl x1), none, some (.inl x3), none] [] A := by
  induction n with
  | zero => intros; exact zG_none
  | succ n ih =>
    intro x1 hx1 x3 hx3 A
    exact z_PC_put_66_bok ih N hd hw x1 hx1 x3 hx3 A
theorem z_PC_put_66_ok{d w : Nat} (N : Nat) (hd : 1 ≤ d) (hw : 21 ≤ w) (x1 : Int) (hx1 : zrg x1) (x3 : Int) (hx3 : zrg x3) (A : zA) : zG (z_PC_put_66 N x1 x3 A) zPI d w 3 66 [some (.inr (.inr (some 4))), some (.inl x1), none, some (.inl x3), none] [] A := z_PC_put_66_lok N hd hw N x1 hx1 x3 hx3 A
theorem z_PC_put_28_bok{d w : Nat} {r28 : Int → Int → Int → zA → Option (Int × zA)} (hr28 : ∀ (x1 : Int) (hx1 : zrg x1) (x2 : Int) (hx2 : zrg x2) (x3 : Int) (hx3 : zrg x3) (A : zA), zG (r28 x1 x2 x3 A) zPI d w 3 28 [some (.inr (.inr (some 4))), some (.inl x1), some (.inl x2), some (.inl x3), none] [] A) (N : Nat) (hd : 1 ≤ d) (hw : 21 ≤ w) (x1 : Int) (hx1 : zrg x1) (x2 : Int) (hx2 : zrg x2) (x3 : Int) (hx3 : zrg x3) (A : zA) : zG (z_PC_put_28_b r28 N x1 x2 x3 A) zPI d w 3 28 [some (.inr (.inr (some 4))), some (.inl x1), some (.inl x2), some (.inl x3), none] [] A := by
  unfold z_PC_put_28_b
  refine js_iload (pc1 := 29) rfl rfl rfl ?_
  refine js_iload (pc1 := 30) rfl rfl rfl ?_
  refine jt_ge (pc1 := 33) (t1 := 62) hx3 hx2 rfl rfl rfl (fun c1 => ?_) (fun c1 => ?_)
  · refine js_iload (pc1 := 34) rfl rfl rfl ?_
    refine js_iload (pc1 := 35) rfl rfl rfl ?_
    refine js_cP (pc1 := 38) (as := [(.inl x1), (.inl x3)]) (S0 := []) (m := 2) (L0 := [some (.inl x1), some (.inl x3)]) rfl rfl rfl rfl rfl rfl rfl rfl (zrc_s rfl) (by omega) (by omega) (z_PC_byteOf_ok N (by omega) (by omega) x1 hx1 x3 hx3 A) (fun v2 _ hv2 => ?_)
    refine js_istore (pc1 := 40) (L1 := [some (.inr (.inr (some 4))), some (.inl x1), some (.inl x2), some (.inl x3), some (.inl v2)]) rfl rfl rfl rfl ?_
    refine js_iload (pc1 := 42) rfl rfl rfl ?_
    refine js_iconst (pc1 := 44) rfl rfl ?_
    refine jt_lt (pc1 := 47) (t1 := 54) hv2 (zlit rfl) rfl rfl rfl (fun c3 => ?_) (fun c3 => ?_)
    · refine js_iconst (pc1 := 55) rfl rfl ?_
      exact je_I rfl (zfit3 rfl (Or.inl rfl)) rfl (zlit rfl)
    · refine js_iload (pc1 := 49) rfl rfl rfl ?_
      refine js_iconst (pc1 := 51) rfl rfl ?_
      refine jt_le (pc1 := 54) (t1 := 56) hv2 (zlit rfl) rfl rfl rfl (fun c4 => ?_) (fun c4 => ?_)
      · refine js_iconst (pc1 := 55) rfl rfl ?_
        exact je_I rfl (zfit3 rfl (Or.inl rfl)) rfl (zlit rfl)
      · refine js_iinc (pc1 := 59) (L1 := [some (.inr (.inr (some 4))), some (.inl x1), some (.inl x2), some (.inl (x3 + 1)), some (.inl v2)]) rfl rfl rfl rfl ?_
        refine js_goto (t1 := 28) rfl rfl ?_
        exact zG_to (L := [some (.inr (.inr (some 4))), some (.inl x1), some (.inl x2), some (.inl (zw (x3 + 1))), none]) (S := []) ⟨rfl, ⟨rfl, ⟨rfl, ⟨zval_w (x3 + 1), trivial⟩⟩⟩⟩ (rfl) (hr28 x1 hx1 x2 hx2 (zw (x3 + 1)) (zw_rg (x3 + 1)) A)
  · refine js_iload (pc1 := 63) rfl rfl rfl ?_
    refine js_iconst (pc1 := 64) rfl rfl ?_
    refine js_isub (pc1 := 65) rfl rfl ?_
    refine zG_w1 ?_
    refine js_istore (pc1 := 66) (L1 := [some (.inr (.inr (some 4))), some (.inl x1), some (.inl x2), some (.inl (zw (x2 - 1))), none]) rfl rfl rfl rfl ?_
    exact zG_to (L := [some (.inr (.inr (some 4))), some (.inl x1), none, some (.inl (zw (x2 - 1))), none]) (S := []) ⟨rfl, ⟨rfl, ⟨rfl, trivial⟩⟩⟩ (rfl) (z_PC_put_66_ok N hd hw x1 hx1 (zw (x2 - 1)) (zw_rg (x2 - 1)) A)
theorem z_PC_put_28_lok{d w : Nat} (N : Nat) (hd : 1 ≤ d) (hw : 21 ≤ w) (n : Nat) : ∀ (x1 : Int) (hx1 : zrg x1) (x2 : Int) (hx2 : zrg x2) (x3 : Int) (hx3 : zrg x3) (A : zA), zG (z_PC_put_28_l N n x1 x2 x3 A) zPI d w 3 28 [some (.inr (.inr (some 4))), some (.inl x1), some (.inl x2), some (.inl x3), none] [] A := by
  induction n with
  | zero => intros; exact zG_none
  | succ n ih =>
    intro x1 hx1 x2 hx2 x3 hx3 A
    exact z_PC_put_28_bok ih N hd hw x1 hx1 x2 hx2 x3 hx3 A
theorem z_PC_put_28_ok{d w : Nat} (N : Nat) (hd : 1 ≤ d) (hw : 21 ≤ w) (x1 : Int) (hx1 : zrg x1) (x2 : Int) (hx2 : zrg x2) (x3 : Int) (hx3 : zrg x3) (A : zA) : zG (z_PC_put_28 N x1 x2 x3 A) zPI d w 3 28 [some (.inr (.inr (some 4))), some (.inl x1), some (.inl x2), some (.inl x3), none] [] A := z_PC_put_28_lok N hd hw N x1 hx1 x2 hx2 x3 hx3 A
theorem z_PC_put_ok{d w : Nat} (N : Nat) (hd : 1 ≤ d) (hw : 21 ≤ w) (x1 : Int) (hx1 : zrg x1) (x2 : Int) (hx2 : zrg x2) (A : zA) : zG (z_PC_put N x1 x2 A) zPI d w 3 0 [some (.inr (.inr (some 4))), some (.inl x1), some (.inl x2), none, none] [] A := by
  unfold z_PC_put
  refine js_iload (pc1 := 1) rfl rfl rfl ?_
  refine js_iconst (pc1 := 2) rfl rfl ?_
  refine jt_lt (pc1 := 5) (t1 := 24) hx2 (zlit rfl) rfl rfl rfl (fun c1 => ?_) (fun c1 => ?_)
  · refine js_iconst (pc1 := 25) rfl rfl ?_
    exact je_I rfl (zfit3 rfl (Or.inl rfl)) rfl (zlit rfl)
  · refine js_iload (pc1 := 6) rfl rfl rfl ?_
    refine js_iconst (pc1 := 7) rfl rfl ?_
    refine jt_gt (pc1 := 10) (t1 := 24) hx2 (zlit rfl) rfl rfl rfl (fun c2 => ?_) (fun c2 => ?_)
    · refine js_iconst (pc1 := 25) rfl rfl ?_
      exact je_I rfl (zfit3 rfl (Or.inl rfl)) rfl (zlit rfl)
    · refine js_aload (pc1 := 11) rfl rfl rfl ?_
      refine js_gfr (pc1 := 14) (j := 0) (r := 5) rfl rfl rfl rfl rfl ?_
      refine js_gi (pc1 := 17) (j := 1) rfl rfl rfl rfl ?_
      refine js_iload (pc1 := 18) rfl rfl rfl ?_
      refine js_iadd (pc1 := 19) rfl rfl ?_
      refine js_iconst (pc1 := 21) rfl rfl ?_
      refine zG_w2 ?_
      refine jt_le (pc1 := 24) (t1 := 26) (zw_rg ((zi A 5 1) + x2)) (zlit rfl) rfl rfl rfl (fun c3 => ?_) (fun c3 => ?_)
      · refine js_iconst (pc1 := 25) rfl rfl ?_
        exact je_I rfl (zfit3 rfl (Or.inl rfl)) rfl (zlit rfl)
      · refine js_iconst (pc1 := 27) rfl rfl ?_
        refine js_istore (pc1 := 28) (L1 := [some (.inr (.inr (some 4))), some (.inl x1), some (.inl x2), some (.inl 0), none]) rfl rfl rfl rfl ?_
        exact z_PC_put_28_ok N hd hw x1 hx1 x2 hx2 0 (zlit rfl) A
theorem z_M_put_73_bok{d w : Nat} {r73 : Int → Int → zA → Option (Int × zA)} (hr73 : ∀ (x1 : Int) (hx1 : zrg x1) (x3 : Int) (hx3 : zrg x3) (A : zA), zG (r73 x1 x3 A) zPI d w 4 73 [some (.inr (.inr (some 226))), some (.inl x1), none, some (.inl x3), none] [] A) (N : Nat) (hd : 0 ≤ d) (hw : 0 ≤ w) (x1 : Int) (hx1 : zrg x1) (x3 : Int) (hx3 : zrg x3) (A : zA) : zG (z_M_put_73_b r73 N x1 x3 A) zPI d w 4 73 [some (.inr (.inr (some 226))), some (.inl x1), none, some (.inl x3), none] [] A := by
  unfold z_M_put_73_b
  refine js_iload (pc1 := 74) rfl rfl rfl ?_
  refine ju_lt (pc1 := 77) (t1 := 112) hx3 rfl rfl rfl (fun c1 => ?_) (fun c1 => ?_)
  · refine js_iconst (pc1 := 113) rfl rfl ?_
    exact je_I rfl (zfit3 rfl (Or.inr rfl)) rfl (zlit rfl)
  · refine js_aload (pc1 := 78) rfl rfl rfl ?_
    refine js_gfr (pc1 := 81) (j := 2) (r := 227) rfl rfl rfl rfl rfl ?_
    refine js_aload (pc1 := 82) rfl rfl rfl ?_
    refine js_gi (pc1 := 85) (j := 1) rfl rfl rfl rfl ?_
    refine js_iload (pc1 := 86) rfl rfl rfl ?_
    refine js_iconst (pc1 := 88) rfl rfl ?_
    refine js_iload (pc1 := 89) rfl rfl rfl ?_
    refine js_imul (pc1 := 90) rfl rfl ?_
    refine js_ishr (pc1 := 91) rfl rfl ?_
    refine js_iconst (pc1 := 94) rfl rfl ?_
    refine js_iand (pc1 := 95) rfl rfl ?_
    refine jt_ias (pc1 := 96) rfl rfl rfl rfl (fun A2 => ?_)
    refine js_aload (pc1 := 97) rfl rfl rfl ?_
    refine js_dupR (pc1 := 98) rfl rfl ?_
    refine js_gi (pc1 := 101) (j := 1) rfl rfl rfl rfl ?_
    refine js_iconst (pc1 := 102) rfl rfl ?_
    refine js_iadd (pc1 := 103) rfl rfl ?_
    refine jt_pi (pc1 := 106) (j := 1) rfl rfl rfl rfl rfl (fun A3 => ?_)
    refine js_iinc (pc1 := 109) (L1 := [some (.inr (.inr (some 226))), some (.inl x1), none, some (.inl (x3 + (-1))), none]) rfl rfl rfl rfl ?_
    refine js_goto (t1 := 73) rfl rfl ?_
    exact zG_to (L := [some (.inr (.inr (some 226))), some (.inl x1), none, some (.inl (zw (x3 + (-1)))), none]) (S := []) ⟨rfl, ⟨rfl, ⟨zval_w (x3 + (-1)), trivial⟩⟩⟩ (rfl) (hr73 x1 hx1 (zw (x3 + (-1))) (zw_rg (x3 + (-1))) A3)
theorem z_M_put_73_lok{d w : Nat} (N : Nat) (hd : 0 ≤ d) (hw : 0 ≤ w) (n : Nat) : ∀ (x1 : Int) (hx1 : zrg x1) (x3 : Int) (hx3 : zrg x3) (A : zA), zG (z_M_put_73_l N n x1 x3 A) zPI d w 4 73 [some (.inr (.inr (some 226))), some (.inl x1), none, some (.inl x3), none] [] A := by
  induction n with
  | zero => intros; exact zG_none
  | succ n ih =>
    intro x1 hx1 x3 hx3 A
    exact z_M_put_73_bok ih N hd hw x1 hx1 x3 hx3 A
theorem z_M_put_73_ok{d w : Nat} (N : Nat) (hd : 0 ≤ d) (hw : 0 ≤ w) (x1 : Int) (hx1 : zrg x1) (x3 : Int) (hx3 : zrg x3) (A : zA) : zG (z_M_put_73 N x1 x3 A) zPI d w 4 73 [some (.inr (.inr (some 226))), some (.inl x1), none, some (.inl x3), none] [] A := z_M_put_73_lok N hd hw N x1 hx1 x3 hx3 A
theorem z_M_put_30_bok{d w : Nat} {r30 : Int → Int → Int → zA → Option (Int × zA)} (hr30 : ∀ (x1 : Int) (hx1 : zrg x1) (x2 : Int) (hx2 : zrg x2) (x3 : Int) (hx3 : zrg x3) (A : zA), zG (r30 x1 x2 x3 A) zPI d w 4 30 [some (.inr (.inr (some 226))), some (.inl x1), some (.inl x2), some (.inl x3), none] [] A) (N : Nat) (hd : 0 ≤ d) (hw : 0 ≤ w) (x1 : Int) (hx1 : zrg x1) (x2 : Int) (hx2 : zrg x2) (x3 : Int) (hx3 : zrg x3) (A : zA) : zG (z_M_put_30_b r30 N x1 x2 x3 A) zPI d w 4 30 [some (.inr (.inr (some 226))), some (.inl x1), some (.inl x2), some (.inl x3), none] [] A := by
  unfold z_M_put_30_b
  refine js_iload (pc1 := 31) rfl rfl rfl ?_
  refine js_iload (pc1 := 32) rfl rfl rfl ?_
  refine jt_ge (pc1 := 35) (t1 := 69) hx3 hx2 rfl rfl rfl (fun c1 => ?_) (fun c1 => ?_)
  · refine js_iload (pc1 := 36) rfl rfl rfl ?_
    refine js_iconst (pc1 := 38) rfl rfl ?_
    refine js_iload (pc1 := 39) rfl rfl rfl ?_
    refine js_imul (pc1 := 40) rfl rfl ?_
    refine js_ishr (pc1 := 41) rfl rfl ?_
    refine js_iconst (pc1 := 44) rfl rfl ?_
    refine js_iand (pc1 := 45) rfl rfl ?_
    refine js_istore (pc1 := 47) (L1 := [some (.inr (.inr (some 226))), some (.inl x1), some (.inl x2), some (.inl x3), some (.inl (zan (zhr x1 (8 * x3)) 255))]) rfl rfl rfl rfl ?_
    refine js_iload (pc1 := 49) rfl rfl rfl ?_
    refine js_iconst (pc1 := 51) rfl rfl ?_
    refine jt_lt (pc1 := 54) (t1 := 61) (zt_rg _) (zlit rfl) rfl rfl rfl (fun c2 => ?_) (fun c2 => ?_)
    · refine js_iconst (pc1 := 62) rfl rfl ?_
      exact je_I rfl (zfit3 rfl (Or.inl rfl)) rfl (zlit rfl)
    · refine js_iload (pc1 := 56) rfl rfl rfl ?_
      refine js_iconst (pc1 := 58) rfl rfl ?_
      refine jt_le (pc1 := 61) (t1 := 63) (zt_rg _) (zlit rfl) rfl rfl rfl (fun c3 => ?_) (fun c3 => ?_)
      · refine js_iconst (pc1 := 62) rfl rfl ?_
        exact je_I rfl (zfit3 rfl (Or.inl rfl)) rfl (zlit rfl)
      · refine js_iinc (pc1 := 66) (L1 := [some (.inr (.inr (some 226))), some (.inl x1), some (.inl x2), some (.inl (x3 + 1)), some (.inl (zan (zhr x1 (8 * x3)) 255))]) rfl rfl rfl rfl ?_
        refine js_goto (t1 := 30) rfl rfl ?_
        exact zG_to (L := [some (.inr (.inr (some 226))), some (.inl x1), some (.inl x2), some (.inl (zw (x3 + 1))), none]) (S := []) ⟨rfl, ⟨rfl, ⟨rfl, ⟨zval_w (x3 + 1), trivial⟩⟩⟩⟩ (rfl) (hr30 x1 hx1 x2 hx2 (zw (x3 + 1)) (zw_rg (x3 + 1)) A)
  · refine js_iload (pc1 := 70) rfl rfl rfl ?_
    refine js_iconst (pc1 := 71) rfl rfl ?_
    refine js_isub (pc1 := 72) rfl rfl ?_
    refine zG_w1 ?_
    refine js_istore (pc1 := 73) (L1 := [some (.inr (.inr (some 226))), some (.inl x1), some (.inl x2), some (.inl (zw (x2 - 1))), none]) rfl rfl rfl rfl ?_
    exact zG_to (L := [some (.inr (.inr (some 226))), some (.inl x1), none, some (.inl (zw (x2 - 1))), none]) (S := []) ⟨rfl, ⟨rfl, ⟨rfl, trivial⟩⟩⟩ (rfl) (z_M_put_73_ok N hd hw x1 hx1 (zw (x2 - 1)) (zw_rg (x2 - 1)) A)
theorem z_M_put_30_lok{d w : Nat} (N : Nat) (hd : 0 ≤ d) (hw : 0 ≤ w) (n : Nat) : ∀ (x1 : Int) (hx1 : zrg x1) (x2 : Int) (hx2 : zrg x2) (x3 : Int) (hx3 : zrg x3) (A : zA), zG (z_M_put_30_l N n x1 x2 x3 A) zPI d w 4 30 [some (.inr (.inr (some 226))), some (.inl x1), some (.inl x2), some (.inl x3), none] [] A := by
  induction n with
  | zero => intros; exact zG_none
  | succ n ih =>
    intro x1 hx1 x2 hx2 x3 hx3 A
    exact z_M_put_30_bok ih N hd hw x1 hx1 x2 hx2 x3 hx3 A
theorem z_M_put_30_ok{d w : Nat} (N : Nat) (hd : 0 ≤ d) (hw : 0 ≤ w) (x1 : Int) (hx1 : zrg x1) (x2 : Int) (hx2 : zrg x2) (x3 : Int) (hx3 : zrg x3) (A : zA) : zG (z_M_put_30 N x1 x2 x3 A) zPI d w 4 30 [some (.inr (.inr (some 226))), some (.inl x1), some (.inl x2), some (.inl x3), none] [] A := z_M_put_30_lok N hd hw N x1 hx1 x2 hx2 x3 hx3 A
theorem z_M_put_ok{d w : Nat} (N : Nat) (hd : 0 ≤ d) (hw : 0 ≤ w) (x1 : Int) (hx1 : zrg x1) (x2 : Int) (hx2 : zrg x2) (A : zA) : zG (z_M_put N x1 x2 A) zPI d w 4 0 [some (.inr (.inr (some 226))), some (.inl x1), some (.inl x2), none, none] [] A := by
  unfold z_M_put
  refine js_aload (pc1 := 1) rfl rfl rfl ?_
  refine js_iconst (pc1 := 2) rfl rfl ?_
  refine jt_pi (pc1 := 5) (j := 0) rfl rfl rfl rfl rfl (fun A1 => ?_)
  refine js_iload (pc1 := 6) rfl rfl rfl ?_
  refine js_iconst (pc1 := 7) rfl rfl ?_
  refine jt_lt (pc1 := 10) (t1 := 26) hx2 (zlit rfl) rfl rfl rfl (fun c2 => ?_) (fun c2 => ?_)
  · refine js_iconst (pc1 := 27) rfl rfl ?_
    exact je_I rfl (zfit3 rfl (Or.inl rfl)) rfl (zlit rfl)
  · refine js_iload (pc1 := 11) rfl rfl rfl ?_
    refine js_iconst (pc1 := 12) rfl rfl ?_
    refine jt_gt (pc1 := 15) (t1 := 26) hx2 (zlit rfl) rfl rfl rfl (fun c3 => ?_) (fun c3 => ?_)
    · refine js_iconst (pc1 := 27) rfl rfl ?_
      exact je_I rfl (zfit3 rfl (Or.inl rfl)) rfl (zlit rfl)
    · refine js_aload (pc1 := 16) rfl rfl rfl ?_
      refine js_gi (pc1 := 19) (j := 1) rfl rfl rfl rfl ?_
      refine js_iload (pc1 := 20) rfl rfl rfl ?_
      refine js_iadd (pc1 := 21) rfl rfl ?_
      refine js_iconst (pc1 := 23) rfl rfl ?_
      refine zG_w2 ?_
      refine jt_le (pc1 := 26) (t1 := 28) (zw_rg ((zi A1 226 1) + x2)) (zlit rfl) rfl rfl rfl (fun c4 => ?_) (fun c4 => ?_)
      · refine js_iconst (pc1 := 27) rfl rfl ?_
        exact je_I rfl (zfit3 rfl (Or.inl rfl)) rfl (zlit rfl)
      · refine js_iconst (pc1 := 29) rfl rfl ?_
        refine js_istore (pc1 := 30) (L1 := [some (.inr (.inr (some 226))), some (.inl x1), some (.inl x2), some (.inl 0), none]) rfl rfl rfl rfl ?_
        exact z_M_put_30_ok N hd hw x1 hx1 x2 hx2 0 (zlit rfl) A1
theorem z_Pt_clear_ok{d w : Nat} (N : Nat) (hd : 0 ≤ d) (hw : 0 ≤ w) (x0 : Nat) (hx0 : zsh x0 = some (false, 3, 4)) (x1 : Int) (hx1 : zrg x1) (A : zA) : zG (z_Pt_clear N x0 x1 A) zPV d w 157 0 [some (.inr (.inr (some x0))), some (.inl x1)] [] A := by
  unfold z_Pt_clear
  refine js_aload (pc1 := 1) rfl rfl rfl ?_
  refine js_iconst (pc1 := 2) rfl rfl ?_
  refine jt_pi (pc1 := 5) (j := 2) rfl rfl hx0 rfl rfl (fun A1 => ?_)
  refine js_aload (pc1 := 6) rfl rfl rfl ?_
  refine js_iload (pc1 := 7) rfl rfl rfl ?_
  refine jt_pi (pc1 := 10) (j := 3) rfl rfl hx0 rfl rfl (fun A2 => ?_)
  exact je_V rfl
theorem z_Ro_clear_7_bok{d w : Nat} {r7 : Nat → Int → zA → Option zA} (hr7 : ∀ (x0 : Nat) (hx0 : zsh x0 = some (false, 2, 2)) (x1 : Int) (hx1 : zrg x1) (A : zA), zG (r7 x0 x1 A) zPV d w 127 7 [some (.inr (.inr (some x0))), some (.inl x1)] [] A) (N : Nat) (hd : 1 ≤ d) (hw : 21 ≤ w) (x0 : Nat) (hx0 : zsh x0 = some (false, 2, 2)) (x1 : Int) (hx1 : zrg x1) (A : zA) : zG (z_Ro_clear_7_b r7 N x0 x1 A) zPV d w 127 7 [some (.inr (.inr (some x0))), some (.inl x1)] [] A := by
  unfold z_Ro_clear_7_b
  refine js_iload (pc1 := 8) rfl rfl rfl ?_
  refine js_iconst (pc1 := 9) rfl rfl ?_
  refine jt_ge (pc1 := 12) (t1 := 29) hx1 (zlit rfl) rfl rfl rfl (fun c1 => ?_) (fun c1 => ?_)
  · refine js_aload (pc1 := 13) rfl rfl rfl ?_
    refine jt_gf (pc1 := 16) (j := 0) rfl rfl hx0 rfl (fun p2 => ?_)
    refine js_iload (pc1 := 17) rfl rfl rfl ?_
    refine jt_aald (pc1 := 18) rfl rfl (fun p3 => ?_)
    refine zG_cs (fun hp3 => ?_)
    refine js_iconst (pc1 := 20) rfl rfl ?_
    refine js_cV (pc1 := 23) (as := [(.inr (.inr (some p3))), (.inl 7)]) (S0 := []) (m := 2) (L0 := [some (.inr (.inr (some p3))), some (.inl 7)]) rfl rfl rfl rfl rfl rfl rfl rfl (zrc_o rfl hp3) (by omega) (by omega) (z_Pt_clear_ok N (by omega) (by omega) p3 hp3 7 (zlit rfl) A) (fun A4 _ => ?_)
    refine js_iinc (pc1 := 26) (L1 := [some (.inr (.inr (some x0))), some (.inl (x1 + 1))]) rfl rfl rfl rfl ?_
    refine js_goto (t1 := 7) rfl rfl ?_
    exact zG_to (L := [some (.inr (.inr (some x0))), some (.inl (zw (x1 + 1)))]) (S := []) ⟨rfl, ⟨zval_w (x1 + 1), trivial⟩⟩ (rfl) (hr7 x0 hx0 (zw (x1 + 1)) (zw_rg (x1 + 1)) A4)
  · exact je_V rfl
theorem z_Ro_clear_7_lok{d w : Nat} (N : Nat) (hd : 1 ≤ d) (hw : 21 ≤ w) (n : Nat) : ∀ (x0 : Nat) (hx0 : zsh x0 = some (false, 2, 2)) (x1 : Int) (hx1 : zrg x1) (A : zA), zG (z_Ro_clear_7_l N n x0 x1 A) zPV d w 127 7 [some (.inr (.inr (some x0))), some (.inl x1)] [] A := by
  induction n with
  | zero => intros; exact zG_none
  | succ n ih =>
    intro x0 hx0 x1 hx1 A
    exact z_Ro_clear_7_bok ih N hd hw x0 hx0 x1 hx1 A
theorem z_Ro_clear_7_ok{d w : Nat} (N : Nat) (hd : 1 ≤ d) (hw : 21 ≤ w) (x0 : Nat) (hx0 : zsh x0 = some (false, 2, 2)) (x1 : Int) (hx1 : zrg x1) (A : zA) : zG (z_Ro_clear_7 N x0 x1 A) zPV d w 127 7 [some (.inr (.inr (some x0))), some (.inl x1)] [] A := z_Ro_clear_7_lok N hd hw N x0 hx0 x1 hx1 A
theorem z_Ro_clear_ok{d w : Nat} (N : Nat) (hd : 1 ≤ d) (hw : 21 ≤ w) (x0 : Nat) (hx0 : zsh x0 = some (false, 2, 2)) (A : zA) : zG (z_Ro_clear N x0 A) zPV d w 127 0 [some (.inr (.inr (some x0))), none] [] A := by
  unfold z_Ro_clear
  refine js_aload (pc1 := 1) rfl rfl rfl ?_
  refine js_iconst (pc1 := 2) rfl rfl ?_
  refine jt_pi (pc1 := 5) (j := 1) rfl rfl hx0 rfl rfl (fun A1 => ?_)
  refine js_iconst (pc1 := 6) rfl rfl ?_
  refine js_istore (pc1 := 7) (L1 := [some (.inr (.inr (some x0))), some (.inl 0)]) rfl rfl rfl rfl ?_
  exact z_Ro_clear_7_ok N hd hw x0 hx0 0 (zlit rfl) A1
theorem z_Pa_peek_ok{d w : Nat} (N : Nat) (hd : 0 ≤ d) (hw : 0 ≤ w) (A : zA) : zG (z_Pa_peek N A) (zPp A) d w 158 0 [some (.inr (.inr (some 5)))] [] A := by
  unfold z_Pa_peek
  refine js_aload (pc1 := 1) rfl rfl rfl ?_
  refine js_gi (pc1 := 4) (j := 2) rfl rfl rfl rfl ?_
  refine js_aload (pc1 := 5) rfl rfl rfl ?_
  refine js_gi (pc1 := 8) (j := 1) rfl rfl rfl rfl ?_
  refine jt_ge (pc1 := 11) (t1 := 23) (zi_rg _ _ _) (zi_rg _ _ _) rfl rfl rfl (fun c1 => ?_) (fun c1 => ?_)
  · refine js_aload (pc1 := 12) rfl rfl rfl ?_
    refine js_gfr (pc1 := 15) (j := 0) (r := 6) rfl rfl rfl rfl rfl ?_
    refine js_aload (pc1 := 16) rfl rfl rfl ?_
    refine js_gi (pc1 := 19) (j := 2) rfl rfl rfl rfl ?_
    refine jt_ald (pc1 := 20) rfl rfl rfl rfl rfl (fun v2 hv2 => ?_)
    refine js_goto (t1 := 24) rfl rfl ?_
    exact zG_ite (fun h => je_P rfl (zfit2' rfl h) rfl hv2) (fun _ => zG_none)
  · refine js_iconst (pc1 := 24) rfl rfl ?_
    exact je_P rfl (zfit2' rfl (by decide)) rfl (zlit rfl)
theorem z_Pa_beginsProcedure_ok{d w : Nat} (N : Nat) (hd : 1 ≤ d) (hw : 20 ≤ w) (x1 : Int) (hx1 : zrg x1) (A : zA) : zG (z_Pa_beginsProcedure N x1 A) (zPp A) d w 128 0 [some (.inr (.inr (some 5))), some (.inl x1)] [] A := by
  unfold z_Pa_beginsProcedure
  refine js_aload (pc1 := 1) rfl rfl rfl ?_
  refine js_gi (pc1 := 4) (j := 3) rfl rfl rfl rfl ?_
  refine ju_ne (pc1 := 7) (t1 := 51) (zi_rg _ _ _) rfl rfl rfl (fun c1 => ?_) (fun c1 => ?_)
  · refine js_aload (pc1 := 8) rfl rfl rfl ?_
    refine js_cP (pc1 := 11) (as := [(.inr (.inr (some 5)))]) (S0 := []) (m := 1) (L0 := [some (.inr (.inr (some 5)))]) rfl rfl rfl rfl rfl rfl rfl rfl (zrc_o rfl rfl) (by omega) (by omega) (z_Pa_peek_ok N (by omega) (by omega) A) (fun v2 _ hv2 => ?_)
    refine js_iconst (pc1 := 13) rfl rfl ?_
    refine js_iload (pc1 := 14) rfl rfl rfl ?_
    refine js_iadd (pc1 := 15) rfl rfl ?_
    refine zG_w1 ?_
    refine jt_ne (pc1 := 18) (t1 := 51) hv2 (zw_rg (80 + x1)) rfl rfl rfl (fun c3 => ?_) (fun c3 => ?_)
    · refine js_aload (pc1 := 19) rfl rfl rfl ?_
      refine js_gi (pc1 := 22) (j := 2) rfl rfl rfl rfl ?_
      refine js_iconst (pc1 := 23) rfl rfl ?_
      refine js_iadd (pc1 := 24) rfl rfl ?_
      refine js_aload (pc1 := 25) rfl rfl rfl ?_
      refine js_gi (pc1 := 28) (j := 1) rfl rfl rfl rfl ?_
      refine zG_w2 ?_
      refine jt_ge (pc1 := 31) (t1 := 51) (zw_rg ((zi A 5 2) + 1)) (zi_rg _ _ _) rfl rfl rfl (fun c4 => ?_) (fun c4 => ?_)
      · refine js_aload (pc1 := 32) rfl rfl rfl ?_
        refine js_gfr (pc1 := 35) (j := 0) (r := 6) rfl rfl rfl rfl rfl ?_
        refine js_aload (pc1 := 36) rfl rfl rfl ?_
        refine js_gi (pc1 := 39) (j := 2) rfl rfl rfl rfl ?_
        refine js_iconst (pc1 := 40) rfl rfl ?_
        refine js_iadd (pc1 := 41) rfl rfl ?_
        refine jt_ald (pc1 := 42) rfl rfl rfl rfl rfl (fun v5 hv5 => ?_)
        refine js_iconst (pc1 := 44) rfl rfl ?_
        refine jt_ne (pc1 := 47) (t1 := 51) hv5 (zlit rfl) rfl rfl rfl (fun c6 => ?_) (fun c6 => ?_)
        · refine js_iconst (pc1 := 48) rfl rfl ?_
          refine js_goto (t1 := 52) rfl rfl ?_
          exact je_P rfl (zfit3 rfl (Or.inr rfl)) rfl (zlit rfl)
        · refine js_iconst (pc1 := 52) rfl rfl ?_
          exact je_P rfl (zfit3 rfl (Or.inl rfl)) rfl (zlit rfl)
      · refine js_iconst (pc1 := 52) rfl rfl ?_
        exact je_P rfl (zfit3 rfl (Or.inl rfl)) rfl (zlit rfl)
    · refine js_iconst (pc1 := 52) rfl rfl ?_
      exact je_P rfl (zfit3 rfl (Or.inl rfl)) rfl (zlit rfl)
  · refine js_iconst (pc1 := 52) rfl rfl ?_
    exact je_P rfl (zfit3 rfl (Or.inl rfl)) rfl (zlit rfl)
theorem z_Pa_expect_ok{d w : Nat} (N : Nat) (hd : 1 ≤ d) (hw : 20 ≤ w) (x1 : Int) (hx1 : zrg x1) (A : zA) : zG (z_Pa_expect N x1 A) zPV d w 159 0 [some (.inr (.inr (some 5))), some (.inl x1)] [] A := by
  unfold z_Pa_expect
  refine js_aload (pc1 := 1) rfl rfl rfl ?_
  refine js_cP (pc1 := 4) (as := [(.inr (.inr (some 5)))]) (S0 := []) (m := 1) (L0 := [some (.inr (.inr (some 5)))]) rfl rfl rfl rfl rfl rfl rfl rfl (zrc_o rfl rfl) (by omega) (by omega) (z_Pa_peek_ok N (by omega) (by omega) A) (fun v1 _ hv1 => ?_)
  refine js_iload (pc1 := 5) rfl rfl rfl ?_
  refine jt_ne (pc1 := 8) (t1 := 21) hv1 hx1 rfl rfl rfl (fun c2 => ?_) (fun c2 => ?_)
  · refine js_aload (pc1 := 9) rfl rfl rfl ?_
    refine js_dupR (pc1 := 10) rfl rfl ?_
    refine js_gi (pc1 := 13) (j := 2) rfl rfl rfl rfl ?_
    refine js_iconst (pc1 := 14) rfl rfl ?_
    refine js_iadd (pc1 := 15) rfl rfl ?_
    refine jt_pi (pc1 := 18) (j := 2) rfl rfl rfl rfl rfl (fun A3 => ?_)
    refine js_goto (t1 := 26) rfl rfl ?_
    exact je_V rfl
  · refine js_aload (pc1 := 22) rfl rfl rfl ?_
    refine js_iconst (pc1 := 23) rfl rfl ?_
    refine jt_pbl (pc1 := 26) (j := 3) rfl rfl rfl rfl rfl (Or.inr rfl) (fun A4 => ?_)
    exact je_V rfl
theorem z_Pa_fresh_ok{d w : Nat} (N : Nat) (hd : 0 ≤ d) (hw : 0 ≤ w) (x1 : Nat) (hx1 : zsh x1 = some (false, 3, 4)) (A : zA) : zG (z_Pa_fresh N x1 A) zPI d w 299 0 [some (.inr (.inr (some 5))), some (.inr (.inr (some x1))), none] [] A := by
  unfold z_Pa_fresh
  refine js_aload (pc1 := 1) rfl rfl rfl ?_
  refine js_gi (pc1 := 4) (j := 3) rfl rfl hx1 rfl ?_
  refine js_istore (pc1 := 5) (L1 := [some (.inr (.inr (some 5))), some (.inr (.inr (some x1))), some (.inl (zi A x1 3))]) rfl rfl rfl rfl ?_
  refine js_aload (pc1 := 6) rfl rfl rfl ?_
  refine js_dupR (pc1 := 7) rfl rfl ?_
  refine js_gi (pc1 := 10) (j := 3) rfl rfl hx1 rfl ?_
  refine js_iconst (pc1 := 11) rfl rfl ?_
  refine js_iadd (pc1 := 12) rfl rfl ?_
  refine jt_pi (pc1 := 15) (j := 3) rfl rfl hx1 rfl rfl (fun A1 => ?_)
  refine js_iload (pc1 := 16) rfl rfl rfl ?_
  exact je_I rfl (zfit0 _ rfl) rfl (zi_rg _ _ _)
theorem z_Ar_copyOf_ok{d w : Nat} (N : Nat) (hd : 1 ≤ d) (hw : 64 ≤ w) (x0 : Nat) (x1 : Int) (hx1 : zrg x1) (A : zA) : zG (z_Ar_copyOf N x0 x1 A) zPR d w 203 0 [some (.inr (.inr (some x0))), some (.inl x1), none] [] A := by
  unfold z_Ar_copyOf
  refine js_iload (pc1 := 1) rfl rfl rfl ?_
  refine js_aload (pc1 := 2) rfl rfl rfl ?_
  refine js_lenD (pc1 := 3) rfl rfl (fun v1 hv1 => ?_)
  refine jt_ne (pc1 := 6) (t1 := 14) hx1 hv1 rfl rfl rfl (fun c2 => ?_) (fun c2 => ?_)
  · refine js_aload (pc1 := 7) rfl rfl rfl ?_
    exact zG_none
  · refine js_iload (pc1 := 15) rfl rfl rfl ?_
    refine jt_new (pc1 := 17) rfl rfl (fun p3 A4 => ?_)
    refine js_astore (pc1 := 18) (L1 := [some (.inr (.inr (some x0))), some (.inl x1), some (.inr (.inr (some p3)))]) rfl rfl rfl rfl ?_
    refine js_aload (pc1 := 19) rfl rfl rfl ?_
    refine js_iconst (pc1 := 20) rfl rfl ?_
    refine js_aload (pc1 := 21) rfl rfl rfl ?_
    refine js_iconst (pc1 := 22) rfl rfl ?_
    refine js_aload (pc1 := 23) rfl rfl rfl ?_
    refine js_lenD (pc1 := 24) rfl rfl (fun v5 hv5 => ?_)
    refine js_iload (pc1 := 25) rfl rfl rfl ?_
    refine jt_min (pc1 := 28) rfl rfl hv5 hx1 (by omega) (by omega) rfl ?_
    refine jt_copy (pc1 := 31) rfl rfl (by omega) (by omega) rfl (fun A6 => ?_)
    refine js_aload (pc1 := 32) rfl rfl rfl ?_
    exact je_R rfl
theorem z_Pt_makeRoom_ok{d w : Nat} (N : Nat) (hd : 2 ≤ d) (hw : 86 ≤ w) (x0 : Nat) (hx0 : zsh x0 = some (false, 3, 4)) (x1 : Int) (hx1 : zrg x1) (A : zA) : zG (z_Pt_makeRoom N x0 x1 A) zPV d w 151 0 [some (.inr (.inr (some x0))), some (.inl x1), none] [] A := by
  unfold z_Pt_makeRoom
  refine js_iload (pc1 := 1) rfl rfl rfl ?_
  refine js_aload (pc1 := 2) rfl rfl rfl ?_
  refine jt_gr (pc1 := 5) (j := 1) rfl rfl hx0 rfl (fun p1 => ?_)
  refine js_lenD (pc1 := 6) rfl rfl (fun v2 hv2 => ?_)
  refine jt_le (pc1 := 9) (t1 := 47) hx1 hv2 rfl rfl rfl (fun c3 => ?_) (fun c3 => ?_)
  · refine js_iload (pc1 := 10) rfl rfl rfl ?_
    refine js_iconst (pc1 := 11) rfl rfl ?_
    refine js_aload (pc1 := 12) rfl rfl rfl ?_
    refine jt_gr (pc1 := 15) (j := 1) rfl rfl hx0 rfl (fun p4 => ?_)
    refine js_lenD (pc1 := 16) rfl rfl (fun v5 hv5 => ?_)
    refine js_imul (pc1 := 17) rfl rfl ?_
    refine zG_w1 ?_
    refine jt_max (pc1 := 20) rfl rfl hx1 (zw_rg (2 * v5)) (by omega) (by omega) rfl ?_
    refine js_istore (pc1 := 21) (L1 := [some (.inr (.inr (some x0))), some (.inl x1), some (.inl (zmx x1 (zw (2 * v5))))]) rfl rfl rfl rfl ?_
    refine js_aload (pc1 := 22) rfl rfl rfl ?_
    refine js_aload (pc1 := 23) rfl rfl rfl ?_
    refine jt_gr (pc1 := 26) (j := 0) rfl rfl hx0 rfl (fun p6 => ?_)
    refine js_iload (pc1 := 27) rfl rfl rfl ?_
    refine js_iconst (pc1 := 28) rfl rfl ?_
    refine js_imul (pc1 := 29) rfl rfl ?_
    refine js_cR (pc1 := 32) (as := [(.inr (.inr (some p6))), (.inl ((zmx x1 (zw (2 * v5))) * 5))]) (S0 := [(.inr (.inr (some x0)))]) (m := 3) (L0 := [some (.inr (.inr (some p6))), some (.inl ((zmx x1 (zw (2 * v5))) * 5)), none]) rfl rfl rfl rfl rfl rfl rfl rfl (zrc_s rfl) (by omega) (by omega) (zG_to (L := [some (.inr (.inr (some p6))), some (.inl (zw ((zmx x1 (zw (2 * v5))) * 5))), none]) (S := []) ⟨rfl, ⟨zval_w ((zmx x1 (zw (2 * v5))) * 5), trivial⟩⟩ rfl (z_Ar_copyOf_ok N (by omega) (by omega) p6 (zw ((zmx x1 (zw (2 * v5))) * 5)) (zw_rg ((zmx x1 (zw (2 * v5))) * 5)) A)) (fun p7 A8 _ => ?_)
    refine jt_pr (pc1 := 35) (j := 0) rfl rfl hx0 rfl rfl (zfr_c hx0 rfl) (fun A9 => ?_)
    refine js_aload (pc1 := 36) rfl rfl rfl ?_
    refine js_aload (pc1 := 37) rfl rfl rfl ?_
    refine jt_gr (pc1 := 40) (j := 1) rfl rfl hx0 rfl (fun p10 => ?_)
    refine js_iload (pc1 := 41) rfl rfl rfl ?_
    refine js_cR (pc1 := 44) (as := [(.inr (.inr (some p10))), (.inl (zmx x1 (zw (2 * v5))))]) (S0 := [(.inr (.inr (some x0)))]) (m := 3) (L0 := [some (.inr (.inr (some p10))), some (.inl (zmx x1 (zw (2 * v5)))), none]) rfl rfl rfl rfl rfl rfl rfl rfl (zrc_s rfl) (by omega) (by omega) (z_Ar_copyOf_ok N (by omega) (by omega) p10 (zmx x1 (zw (2 * v5))) (zmx_rg hx1 (zw_rg (2 * v5))) A9) (fun p11 A12 _ => ?_)
    refine jt_pr (pc1 := 47) (j := 1) rfl rfl hx0 rfl rfl (zfr_c hx0 rfl) (fun A13 => ?_)
    exact je_V rfl
  · exact je_V rfl
theorem z_Pt_add_ok{d w : Nat} (N : Nat) (hd : 3 ≤ d) (hw : 108 ≤ w) (x0 : Nat) (hx0 : zsh x0 = some (false, 3, 4)) (x1 : Int) (hx1 : zrg x1) (x2 : Int) (hx2 : zrg x2) (x3 : Int) (hx3 : zrg x3) (A : zA) : zG (z_Pt_add N x0 x1 x2 x3 A) zPV d w 218 0 [some (.inr (.inr (some x0))), some (.inl x1), some (.inl x2), some (.inl x3), none] [] A := by
  unfold z_Pt_add
  refine js_aload (pc1 := 1) rfl rfl rfl ?_
  refine js_gi (pc1 := 4) (j := 2) rfl rfl hx0 rfl ?_
  refine js_iconst (pc1 := 7) rfl rfl ?_
  refine jt_ge (pc1 := 10) (t1 := 86) (zi_rg _ _ _) (zlit rfl) rfl rfl rfl (fun c1 => ?_) (fun c1 => ?_)
  · refine js_aload (pc1 := 11) rfl rfl rfl ?_
    refine js_aload (pc1 := 12) rfl rfl rfl ?_
    refine js_gi (pc1 := 15) (j := 2) rfl rfl hx0 rfl ?_
    refine js_iconst (pc1 := 16) rfl rfl ?_
    refine js_iadd (pc1 := 17) rfl rfl ?_
    refine js_cV (pc1 := 20) (as := [(.inr (.inr (some x0))), (.inl ((zi A x0 2) + 1))]) (S0 := []) (m := 3) (L0 := [some (.inr (.inr (some x0))), some (.inl ((zi A x0 2) + 1)), none]) rfl rfl rfl rfl rfl rfl rfl rfl (zrc_o rfl hx0) (by omega) (by omega) (zG_to (L := [some (.inr (.inr (some x0))), some (.inl (zw ((zi A x0 2) + 1))), none]) (S := []) ⟨rfl, ⟨zval_w ((zi A x0 2) + 1), trivial⟩⟩ rfl (z_Pt_makeRoom_ok N (by omega) (by omega) x0 hx0 (zw ((zi A x0 2) + 1)) (zw_rg ((zi A x0 2) + 1)) A)) (fun A2 _ => ?_)
    refine js_aload (pc1 := 21) rfl rfl rfl ?_
    refine js_gi (pc1 := 24) (j := 2) rfl rfl hx0 rfl ?_
    refine js_iconst (pc1 := 25) rfl rfl ?_
    refine js_imul (pc1 := 26) rfl rfl ?_
    refine zG_w1 ?_
    refine js_istore (pc1 := 28) (L1 := [some (.inr (.inr (some x0))), some (.inl x1), some (.inl x2), some (.inl x3), some (.inl (zw ((zi A2 x0 2) * 5)))]) rfl rfl rfl rfl ?_
    refine js_aload (pc1 := 29) rfl rfl rfl ?_
    refine jt_gr (pc1 := 32) (j := 0) rfl rfl hx0 rfl (fun p3 => ?_)
    refine js_iload (pc1 := 34) rfl rfl rfl ?_
    refine js_iload (pc1 := 35) rfl rfl rfl ?_
    refine jt_iasD (pc1 := 36) rfl rfl (fun A4 => ?_)
    refine js_aload (pc1 := 37) rfl rfl rfl ?_
    refine jt_gr (pc1 := 40) (j := 0) rfl rfl hx0 rfl (fun p5 => ?_)
    refine js_iload (pc1 := 42) rfl rfl rfl ?_
    refine js_iconst (pc1 := 43) rfl rfl ?_
    refine js_iadd (pc1 := 44) rfl rfl ?_
    refine js_iload (pc1 := 45) rfl rfl rfl ?_
    refine jt_iasD (pc1 := 46) rfl rfl (fun A6 => ?_)
    refine js_aload (pc1 := 47) rfl rfl rfl ?_
    refine jt_gr (pc1 := 50) (j := 0) rfl rfl hx0 rfl (fun p7 => ?_)
    refine js_iload (pc1 := 52) rfl rfl rfl ?_
    refine js_iconst (pc1 := 53) rfl rfl ?_
    refine js_iadd (pc1 := 54) rfl rfl ?_
    refine js_iload (pc1 := 55) rfl rfl rfl ?_
    refine jt_iasD (pc1 := 56) rfl rfl (fun A8 => ?_)
    refine js_aload (pc1 := 57) rfl rfl rfl ?_
    refine jt_gr (pc1 := 60) (j := 0) rfl rfl hx0 rfl (fun p9 => ?_)
    refine js_iload (pc1 := 62) rfl rfl rfl ?_
    refine js_iconst (pc1 := 63) rfl rfl ?_
    refine js_iadd (pc1 := 64) rfl rfl ?_
    refine js_iconst (pc1 := 65) rfl rfl ?_
    refine jt_iasD (pc1 := 66) rfl rfl (fun A10 => ?_)
    refine js_aload (pc1 := 67) rfl rfl rfl ?_
    refine jt_gr (pc1 := 70) (j := 0) rfl rfl hx0 rfl (fun p11 => ?_)
    refine js_iload (pc1 := 72) rfl rfl rfl ?_
    refine js_iconst (pc1 := 73) rfl rfl ?_
    refine js_iadd (pc1 := 74) rfl rfl ?_
    refine js_iconst (pc1 := 75) rfl rfl ?_
    refine jt_iasD (pc1 := 76) rfl rfl (fun A12 => ?_)
    refine js_aload (pc1 := 77) rfl rfl rfl ?_
    refine js_dupR (pc1 := 78) rfl rfl ?_
    refine js_gi (pc1 := 81) (j := 2) rfl rfl hx0 rfl ?_
    refine js_iconst (pc1 := 82) rfl rfl ?_
    refine js_iadd (pc1 := 83) rfl rfl ?_
    refine jt_pi (pc1 := 86) (j := 2) rfl rfl hx0 rfl rfl (fun A13 => ?_)
    exact je_V rfl
  · exact je_V rfl
theorem z_Pt_setNumber_ok{d w : Nat} (N : Nat) (hd : 0 ≤ d) (hw : 0 ≤ w) (x0 : Nat) (hx0 : zsh x0 = some (false, 3, 4)) (x1 : Int) (hx1 : zrg x1) (x2 : Int) (hx2 : zrg x2) (x3 : Int) (hx3 : zrg x3) (A : zA) : zG (z_Pt_setNumber N x0 x1 x2 x3 A) zPV d w 110 0 [some (.inr (.inr (some x0))), some (.inl x1), some (.inl x2), some (.inl x3)] [] A := by
  unfold z_Pt_setNumber
  refine js_iload (pc1 := 1) rfl rfl rfl ?_
  refine ju_lt (pc1 := 4) (t1 := 34) hx1 rfl rfl rfl (fun c1 => ?_) (fun c1 => ?_)
  · exact je_V rfl
  · refine js_iload (pc1 := 5) rfl rfl rfl ?_
    refine js_aload (pc1 := 6) rfl rfl rfl ?_
    refine js_gi (pc1 := 9) (j := 2) rfl rfl hx0 rfl ?_
    refine jt_ge (pc1 := 12) (t1 := 34) hx1 (zi_rg _ _ _) rfl rfl rfl (fun c2 => ?_) (fun c2 => ?_)
    · refine js_iload (pc1 := 13) rfl rfl rfl ?_
      refine ju_lt (pc1 := 16) (t1 := 34) hx2 rfl rfl rfl (fun c3 => ?_) (fun c3 => ?_)
      · exact je_V rfl
      · refine js_iload (pc1 := 17) rfl rfl rfl ?_
        refine js_iconst (pc1 := 18) rfl rfl ?_
        refine jt_ge (pc1 := 21) (t1 := 34) hx2 (zlit rfl) rfl rfl rfl (fun c4 => ?_) (fun c4 => ?_)
        · refine js_aload (pc1 := 22) rfl rfl rfl ?_
          refine jt_gr (pc1 := 25) (j := 0) rfl rfl hx0 rfl (fun p5 => ?_)
          refine js_iload (pc1 := 26) rfl rfl rfl ?_
          refine js_iconst (pc1 := 27) rfl rfl ?_
          refine js_imul (pc1 := 28) rfl rfl ?_
          refine js_iconst (pc1 := 29) rfl rfl ?_
          refine js_iadd (pc1 := 30) rfl rfl ?_
          refine js_iload (pc1 := 31) rfl rfl rfl ?_
          refine js_iadd (pc1 := 32) rfl rfl ?_
          refine js_iload (pc1 := 33) rfl rfl rfl ?_
          refine jt_iasD (pc1 := 34) rfl rfl (fun A6 => ?_)
          exact je_V rfl
        · exact je_V rfl
    · exact je_V rfl
theorem z_Pa_work_ok{d w : Nat} (N : Nat) (hd : 4 ≤ d) (hw : 132 ≤ w) (x1 : Nat) (hx1 : zsh x1 = some (false, 3, 4)) (x2 : Int) (hx2 : zrg x2) (x3 : Int) (hx3 : zrg x3) (x4 : Int) (hx4 : zrg x4) (A : zA) : zG (z_Pa_work N x1 x2 x3 x4 A) zPI d w 273 0 [some (.inr (.inr (some 5))), some (.inr (.inr (some x1))), some (.inl x2), some (.inl x3), some (.inl x4), none] [] A := by
  unfold z_Pa_work
  refine js_aload (pc1 := 1) rfl rfl rfl ?_
  refine js_aload (pc1 := 2) rfl rfl rfl ?_
  refine js_cI (pc1 := 5) (as := [(.inr (.inr (some 5))), (.inr (.inr (some x1)))]) (S0 := []) (m := 3) (L0 := [some (.inr (.inr (some 5))), some (.inr (.inr (some x1))), none]) rfl rfl rfl rfl rfl rfl rfl rfl (zrc_o rfl rfl) (by omega) (by omega) (z_Pa_fresh_ok N (by omega) (by omega) x1 hx1 A) (fun v1 A2 _ hv1 => ?_)
  refine js_istore (pc1 := 7) (L1 := [some (.inr (.inr (some 5))), some (.inr (.inr (some x1))), some (.inl x2), some (.inl x3), some (.inl x4), some (.inl v1)]) rfl rfl rfl rfl ?_
  refine js_aload (pc1 := 8) rfl rfl rfl ?_
  refine js_iconst (pc1 := 9) rfl rfl ?_
  refine js_iload (pc1 := 11) rfl rfl rfl ?_
  refine js_iload (pc1 := 12) rfl rfl rfl ?_
  refine js_cV (pc1 := 15) (as := [(.inr (.inr (some x1))), (.inl 2), (.inl v1), (.inl x2)]) (S0 := []) (m := 5) (L0 := [some (.inr (.inr (some x1))), some (.inl 2), some (.inl v1), some (.inl x2), none]) rfl rfl rfl rfl rfl rfl rfl rfl (zrc_o rfl hx1) (by omega) (by omega) (z_Pt_add_ok N (by omega) (by omega) x1 hx1 2 (zlit rfl) v1 hv1 x2 hx2 A2) (fun A3 _ => ?_)
  refine js_aload (pc1 := 16) rfl rfl rfl ?_
  refine js_aload (pc1 := 17) rfl rfl rfl ?_
  refine js_gi (pc1 := 20) (j := 2) rfl rfl hx1 rfl ?_
  refine js_iconst (pc1 := 21) rfl rfl ?_
  refine js_isub (pc1 := 22) rfl rfl ?_
  refine js_iconst (pc1 := 23) rfl rfl ?_
  refine js_iload (pc1 := 24) rfl rfl rfl ?_
  refine js_cV (pc1 := 27) (as := [(.inr (.inr (some x1))), (.inl ((zi A3 x1 2) - 1)), (.inl 2), (.inl x3)]) (S0 := []) (m := 4) (L0 := [some (.inr (.inr (some x1))), some (.inl ((zi A3 x1 2) - 1)), some (.inl 2), some (.inl x3)]) rfl rfl rfl rfl rfl rfl rfl rfl (zrc_o rfl hx1) (by omega) (by omega) (zG_to (L := [some (.inr (.inr (some x1))), some (.inl (zw ((zi A3 x1 2) - 1))), some (.inl 2), some (.inl x3)]) (S := []) ⟨rfl, ⟨zval_w ((zi A3 x1 2) - 1), ⟨rfl, ⟨rfl, trivial⟩⟩⟩⟩ rfl (z_Pt_setNumber_ok N (by omega) (by omega) x1 hx1 (zw ((zi A3 x1 2) - 1)) (zw_rg ((zi A3 x1 2) - 1)) 2 (zlit rfl) x3 hx3 A3)) (fun A4 _ => ?_)
  refine js_aload (pc1 := 28) rfl rfl rfl ?_
  refine js_aload (pc1 := 29) rfl rfl rfl ?_
  refine js_gi (pc1 := 32) (j := 2) rfl rfl hx1 rfl ?_
  refine js_iconst (pc1 := 33) rfl rfl ?_
  refine js_isub (pc1 := 34) rfl rfl ?_
  refine js_iconst (pc1 := 35) rfl rfl ?_
  refine js_iload (pc1 := 37) rfl rfl rfl ?_
  refine js_cV (pc1 := 40) (as := [(.inr (.inr (some x1))), (.inl ((zi A4 x1 2) - 1)), (.inl 3), (.inl x4)]) (S0 := []) (m := 4) (L0 := [some (.inr (.inr (some x1))), some (.inl ((zi A4 x1 2) - 1)), some (.inl 3), some (.inl x4)]) rfl rfl rfl rfl rfl rfl rfl rfl (zrc_o rfl hx1) (by omega) (by omega) (zG_to (L := [some (.inr (.inr (some x1))), some (.inl (zw ((zi A4 x1 2) - 1))), some (.inl 3), some (.inl x4)]) (S := []) ⟨rfl, ⟨zval_w ((zi A4 x1 2) - 1), ⟨rfl, ⟨rfl, trivial⟩⟩⟩⟩ rfl (z_Pt_setNumber_ok N (by omega) (by omega) x1 hx1 (zw ((zi A4 x1 2) - 1)) (zw_rg ((zi A4 x1 2) - 1)) 3 (zlit rfl) x4 hx4 A4)) (fun A5 _ => ?_)
  refine js_iload (pc1 := 42) rfl rfl rfl ?_
  exact je_I rfl (zfit0 _ rfl) rfl hv1
theorem z_Pa_constant_ok{d w : Nat} (N : Nat) (hd : 4 ≤ d) (hw : 132 ≤ w) (x1 : Nat) (hx1 : zsh x1 = some (false, 3, 4)) (x2 : Int) (hx2 : zrg x2) (A : zA) : zG (z_Pa_constant N x1 x2 A) zPI d w 307 0 [some (.inr (.inr (some 5))), some (.inr (.inr (some x1))), some (.inl x2), none] [] A := by
  unfold z_Pa_constant
  refine js_aload (pc1 := 1) rfl rfl rfl ?_
  refine js_aload (pc1 := 2) rfl rfl rfl ?_
  refine js_cI (pc1 := 5) (as := [(.inr (.inr (some 5))), (.inr (.inr (some x1)))]) (S0 := []) (m := 3) (L0 := [some (.inr (.inr (some 5))), some (.inr (.inr (some x1))), none]) rfl rfl rfl rfl rfl rfl rfl rfl (zrc_o rfl rfl) (by omega) (by omega) (z_Pa_fresh_ok N (by omega) (by omega) x1 hx1 A) (fun v1 A2 _ hv1 => ?_)
  refine js_istore (pc1 := 6) (L1 := [some (.inr (.inr (some 5))), some (.inr (.inr (some x1))), some (.inl x2), some (.inl v1)]) rfl rfl rfl rfl ?_
  refine js_aload (pc1 := 7) rfl rfl rfl ?_
  refine js_iconst (pc1 := 8) rfl rfl ?_
  refine js_iload (pc1 := 9) rfl rfl rfl ?_
  refine js_iload (pc1 := 10) rfl rfl rfl ?_
  refine js_cV (pc1 := 13) (as := [(.inr (.inr (some x1))), (.inl 0), (.inl v1), (.inl x2)]) (S0 := []) (m := 5) (L0 := [some (.inr (.inr (some x1))), some (.inl 0), some (.inl v1), some (.inl x2), none]) rfl rfl rfl rfl rfl rfl rfl rfl (zrc_o rfl hx1) (by omega) (by omega) (z_Pt_add_ok N (by omega) (by omega) x1 hx1 0 (zlit rfl) v1 hv1 x2 hx2 A2) (fun A3 _ => ?_)
  refine js_iload (pc1 := 14) rfl rfl rfl ?_
  exact je_I rfl (zfit0 _ rfl) rfl hv1
theorem z_Pa_digits_4_bok{d w : Nat} {r4 : Int → Int → zA → Option (Int × zA)} (hr4 : ∀ (x1 : Int) (hx1 : zrg x1) (x2 : Int) (hx2 : zrg x2) (A : zA), zG (r4 x1 x2 A) zPI d w 306 4 [some (.inr (.inr (some 5))), some (.inl x1), some (.inl x2)] [] A) (N : Nat) (hd : 1 ≤ d) (hw : 20 ≤ w) (x1 : Int) (hx1 : zrg x1) (x2 : Int) (hx2 : zrg x2) (A : zA) : zG (z_Pa_digits_4_b r4 N x1 x2 A) zPI d w 306 4 [some (.inr (.inr (some 5))), some (.inl x1), some (.inl x2)] [] A := by
  unfold z_Pa_digits_4_b
  refine js_iload (pc1 := 5) rfl rfl rfl ?_
  refine js_iconst (pc1 := 6) rfl rfl ?_
  refine jt_ge (pc1 := 9) (t1 := 56) hx2 (zlit rfl) rfl rfl rfl (fun c1 => ?_) (fun c1 => ?_)
  · refine js_aload (pc1 := 10) rfl rfl rfl ?_
    refine js_cP (pc1 := 13) (as := [(.inr (.inr (some 5)))]) (S0 := []) (m := 1) (L0 := [some (.inr (.inr (some 5)))]) rfl rfl rfl rfl rfl rfl rfl rfl (zrc_o rfl rfl) (by omega) (by omega) (z_Pa_peek_ok N (by omega) (by omega) A) (fun v2 _ hv2 => ?_)
    refine js_iconst (pc1 := 15) rfl rfl ?_
    refine jt_lt (pc1 := 18) (t1 := 56) hv2 (zlit rfl) rfl rfl rfl (fun c3 => ?_) (fun c3 => ?_)
    · refine js_iload (pc1 := 57) rfl rfl rfl ?_
      exact je_I rfl (zfit0 _ rfl) rfl hx1
    · refine js_aload (pc1 := 19) rfl rfl rfl ?_
      refine js_cP (pc1 := 22) (as := [(.inr (.inr (some 5)))]) (S0 := []) (m := 1) (L0 := [some (.inr (.inr (some 5)))]) rfl rfl rfl rfl rfl rfl rfl rfl (zrc_o rfl rfl) (by omega) (by omega) (z_Pa_peek_ok N (by omega) (by omega) A) (fun v4 _ hv4 => ?_)
      refine js_iconst (pc1 := 24) rfl rfl ?_
      refine jt_gt (pc1 := 27) (t1 := 56) hv4 (zlit rfl) rfl rfl rfl (fun c5 => ?_) (fun c5 => ?_)
      · refine js_iload (pc1 := 57) rfl rfl rfl ?_
        exact je_I rfl (zfit0 _ rfl) rfl hx1
      · refine js_iconst (pc1 := 29) rfl rfl ?_
        refine js_iload (pc1 := 30) rfl rfl rfl ?_
        refine js_imul (pc1 := 31) rfl rfl ?_
        refine js_aload (pc1 := 32) rfl rfl rfl ?_
        refine js_cP (pc1 := 35) (as := [(.inr (.inr (some 5)))]) (S0 := [(.inl (10 * x1))]) (m := 1) (L0 := [some (.inr (.inr (some 5)))]) rfl rfl rfl rfl rfl rfl rfl rfl (zrc_o rfl rfl) (by omega) (by omega) (z_Pa_peek_ok N (by omega) (by omega) A) (fun v6 _ hv6 => ?_)
        refine js_iconst (pc1 := 37) rfl rfl ?_
        refine js_isub (pc1 := 38) rfl rfl ?_
        refine js_iadd (pc1 := 39) rfl rfl ?_
        refine zG_w1 ?_
        refine js_istore (pc1 := 40) (L1 := [some (.inr (.inr (some 5))), some (.inl (zw ((10 * x1) + (v6 - 48)))), some (.inl x2)]) rfl rfl rfl rfl ?_
        refine js_aload (pc1 := 41) rfl rfl rfl ?_
        refine js_dupR (pc1 := 42) rfl rfl ?_
        refine js_gi (pc1 := 45) (j := 2) rfl rfl rfl rfl ?_
        refine js_iconst (pc1 := 46) rfl rfl ?_
        refine js_iadd (pc1 := 47) rfl rfl ?_
        refine jt_pi (pc1 := 50) (j := 2) rfl rfl rfl rfl rfl (fun A7 => ?_)
        refine js_iinc (pc1 := 53) (L1 := [some (.inr (.inr (some 5))), some (.inl (zw ((10 * x1) + (v6 - 48)))), some (.inl (x2 + 1))]) rfl rfl rfl rfl ?_
        refine js_goto (t1 := 4) rfl rfl ?_
        exact zG_to (L := [some (.inr (.inr (some 5))), some (.inl (zw ((10 * x1) + (v6 - 48)))), some (.inl (zw (x2 + 1)))]) (S := []) ⟨rfl, ⟨rfl, ⟨zval_w (x2 + 1), trivial⟩⟩⟩ (rfl) (hr4 (zw ((10 * x1) + (v6 - 48))) (zw_rg ((10 * x1) + (v6 - 48))) (zw (x2 + 1)) (zw_rg (x2 + 1)) A7)
  · refine js_iload (pc1 := 57) rfl rfl rfl ?_
    exact je_I rfl (zfit0 _ rfl) rfl hx1
theorem z_Pa_digits_4_lok{d w : Nat} (N : Nat) (hd : 1 ≤ d) (hw : 20 ≤ w) (n : Nat) : ∀ (x1 : Int) (hx1 : zrg x1) (x2 : Int) (hx2 : zrg x2) (A : zA), zG (z_Pa_digits_4_l N n x1 x2 A) zPI d w 306 4 [some (.inr (.inr (some 5))), some (.inl x1), some (.inl x2)] [] A := by
  induction n with
  | zero => intros; exact zG_none
  | succ n ih =>
    intro x1 hx1 x2 hx2 A
    exact z_Pa_digits_4_bok ih N hd hw x1 hx1 x2 hx2 A
theorem z_Pa_digits_4_ok{d w : Nat} (N : Nat) (hd : 1 ≤ d) (hw : 20 ≤ w) (x1 : Int) (hx1 : zrg x1) (x2 : Int) (hx2 : zrg x2) (A : zA) : zG (z_Pa_digits_4 N x1 x2 A) zPI d w 306 4 [some (.inr (.inr (some 5))), some (.inl x1), some (.inl x2)] [] A := z_Pa_digits_4_lok N hd hw N x1 hx1 x2 hx2 A
theorem z_Pa_digits_ok{d w : Nat} (N : Nat) (hd : 1 ≤ d) (hw : 20 ≤ w) (A : zA) : zG (z_Pa_digits N A) zPI d w 306 0 [some (.inr (.inr (some 5))), none, none] [] A := by
  unfold z_Pa_digits
  refine js_iconst (pc1 := 1) rfl rfl ?_
  refine js_istore (pc1 := 2) (L1 := [some (.inr (.inr (some 5))), some (.inl 0), none]) rfl rfl rfl rfl ?_
  refine js_iconst (pc1 := 3) rfl rfl ?_
  refine js_istore (pc1 := 4) (L1 := [some (.inr (.inr (some 5))), some (.inl 0), some (.inl 0)]) rfl rfl rfl rfl ?_
  exact z_Pa_digits_4_ok N hd hw 0 (zlit rfl) 0 (zlit rfl) A
theorem z_Pa_isVariable_ok{d w : Nat} (N : Nat) (hd : 0 ≤ d) (hw : 0 ≤ w) (x0 : Int) (hx0 : zrg x0) (A : zA) : zG (z_Pa_isVariable N x0 A) (zPp A) d w 274 0 [some (.inl x0)] [] A := by
  unfold z_Pa_isVariable
  refine js_iload (pc1 := 1) rfl rfl rfl ?_
  refine js_iconst (pc1 := 3) rfl rfl ?_
  refine jt_lt (pc1 := 6) (t1 := 16) hx0 (zlit rfl) rfl rfl rfl (fun c1 => ?_) (fun c1 => ?_)
  · refine js_iconst (pc1 := 17) rfl rfl ?_
    exact je_P rfl (zfit3 rfl (Or.inl rfl)) rfl (zlit rfl)
  · refine js_iload (pc1 := 7) rfl rfl rfl ?_
    refine js_iconst (pc1 := 9) rfl rfl ?_
    refine jt_gt (pc1 := 12) (t1 := 16) hx0 (zlit rfl) rfl rfl rfl (fun c2 => ?_) (fun c2 => ?_)
    · refine js_iconst (pc1 := 17) rfl rfl ?_
      exact je_P rfl (zfit3 rfl (Or.inl rfl)) rfl (zlit rfl)
    · refine js_iconst (pc1 := 13) rfl rfl ?_
      refine js_goto (t1 := 17) rfl rfl ?_
      exact je_P rfl (zfit3 rfl (Or.inr rfl)) rfl (zlit rfl)
theorem z_Pa_product_56_ok{d w : Nat} {rec : Nat → Int → zA → Option (Int × zA)} {Dr Wr : Nat} (hrec : ∀ (d w : Nat), Dr ≤ d → Wr ≤ w → ∀ (x1 : Nat) (hx1 : zsh x1 = some (false, 3, 4)) (x2 : Int) (hx2 : zrg x2) (A : zA), zG (rec x1 x2 A) zPI d w 305 0 [some (.inr (.inr (some 5))), some (.inr (.inr (some x1))), some (.inl x2), none] [] A) {r10 : Nat → Int → Int → Int → zA → Option (Int × zA)} (hr10 : ∀ (x1 : Nat) (hx1 : zsh x1 = some (false, 3, 4)) (x2 : Int) (hx2 : zrg x2) (x3 : Int) (hx3 : zrg x3) (x4 : Int) (hx4 : zrg x4) (A : zA), zG (r10 x1 x2 x3 x4 A) zPI d w 298 10 [some (.inr (.inr (some 5))), some (.inr (.inr (some x1))), some (.inl x2), some (.inl x3), some (.inl x4), none] [] A) (N : Nat) (hd : Dr + 5 ≤ d) (hw : Wr + 157 ≤ w) (x1 : Nat) (hx1 : zsh x1 = some (false, 3, 4)) (x2 : Int) (hx2 : zrg x2) (x3 : Int) (hx3 : zrg x3) (x4 : Int) (hx4 : zrg x4) (s0 : Int) (hs0 : zrg s0) (A : zA) : zG (z_Pa_product_56 rec r10 N x1 x2 x3 x4 s0 A) zPI d w 298 56 [some (.inr (.inr (some 5))), some (.inr (.inr (some x1))), some (.inl x2), some (.inl x3), some (.inl x4), none] [(.inl s0)] A := by
  unfold z_Pa_product_56
  refine js_istore (pc1 := 58) (L1 := [some (.inr (.inr (some 5))), some (.inr (.inr (some x1))), some (.inl x2), some (.inl x3), some (.inl x4), some (.inl s0)]) rfl rfl rfl rfl ?_
  refine js_aload (pc1 := 59) rfl rfl rfl ?_
  refine js_dupR (pc1 := 60) rfl rfl ?_
  refine js_gi (pc1 := 63) (j := 2) rfl rfl rfl rfl ?_
  refine js_iconst (pc1 := 64) rfl rfl ?_
  refine js_iadd (pc1 := 65) rfl rfl ?_
  refine jt_pi (pc1 := 68) (j := 2) rfl rfl rfl rfl rfl (fun A1 => ?_)
  refine js_aload (pc1 := 69) rfl rfl rfl ?_
  refine js_aload (pc1 := 70) rfl rfl rfl ?_
  refine js_iload (pc1 := 71) rfl rfl rfl ?_
  refine js_aload (pc1 := 72) rfl rfl rfl ?_
  refine js_aload (pc1 := 73) rfl rfl rfl ?_
  refine js_iload (pc1 := 74) rfl rfl rfl ?_
  refine js_cI (pc1 := 77) (as := [(.inr (.inr (some 5))), (.inr (.inr (some x1))), (.inl x2)]) (S0 := [(.inl x3), (.inr (.inr (some x1))), (.inr (.inr (some 5)))]) (m := 4) (L0 := [some (.inr (.inr (some 5))), some (.inr (.inr (some x1))), some (.inl x2), none]) rfl rfl rfl rfl rfl rfl rfl rfl (zrc_o rfl rfl) (by omega) (by omega) (hrec _ _ (by omega) (by omega) x1 hx1 x2 hx2 A1) (fun v2 A3 _ hv2 => ?_)
  refine js_iload (pc1 := 79) rfl rfl rfl ?_
  refine js_cI (pc1 := 82) (as := [(.inr (.inr (some 5))), (.inr (.inr (some x1))), (.inl x3), (.inl v2), (.inl s0)]) (S0 := []) (m := 6) (L0 := [some (.inr (.inr (some 5))), some (.inr (.inr (some x1))), some (.inl x3), some (.inl v2), some (.inl s0), none]) rfl rfl rfl rfl rfl rfl rfl rfl (zrc_o rfl rfl) (by omega) (by omega) (z_Pa_work_ok N (by omega) (by omega) x1 hx1 x3 hx3 v2 hv2 s0 hs0 A3) (fun v4 A5 _ hv4 => ?_)
  refine js_istore (pc1 := 83) (L1 := [some (.inr (.inr (some 5))), some (.inr (.inr (some x1))), some (.inl x2), some (.inl v4), some (.inl x4), some (.inl s0)]) rfl rfl rfl rfl ?_
  refine js_iinc (pc1 := 86) (L1 := [some (.inr (.inr (some 5))), some (.inr (.inr (some x1))), some (.inl x2), some (.inl v4), some (.inl (x4 + 1)), some (.inl s0)]) rfl rfl rfl rfl ?_
  refine js_goto (t1 := 10) rfl rfl ?_
  exact zG_to (L := [some (.inr (.inr (some 5))), some (.inr (.inr (some x1))), some (.inl x2), some (.inl v4), some (.inl (zw (x4 + 1))), none]) (S := []) ⟨rfl, ⟨rfl, ⟨rfl, ⟨rfl, ⟨zval_w (x4 + 1), trivial⟩⟩⟩⟩⟩ (rfl) (hr10 x1 hx1 x2 hx2 v4 hv4 (zw (x4 + 1)) (zw_rg (x4 + 1)) A5)
theorem z_Pa_product_42_ok{d w : Nat} {rec : Nat → Int → zA → Option (Int × zA)} {Dr Wr : Nat} (hrec : ∀ (d w : Nat), Dr ≤ d → Wr ≤ w → ∀ (x1 : Nat) (hx1 : zsh x1 = some (false, 3, 4)) (x2 : Int) (hx2 : zrg x2) (A : zA), zG (rec x1 x2 A) zPI d w 305 0 [some (.inr (.inr (some 5))), some (.inr (.inr (some x1))), some (.inl x2), none] [] A) {r10 : Nat → Int → Int → Int → zA → Option (Int × zA)} (hr10 : ∀ (x1 : Nat) (hx1 : zsh x1 = some (false, 3, 4)) (x2 : Int) (hx2 : zrg x2) (x3 : Int) (hx3 : zrg x3) (x4 : Int) (hx4 : zrg x4) (A : zA), zG (r10 x1 x2 x3 x4 A) zPI d w 298 10 [some (.inr (.inr (some 5))), some (.inr (.inr (some x1))), some (.inl x2), some (.inl x3), some (.inl x4), none] [] A) (N : Nat) (hd : Dr + 5 ≤ d) (hw : Wr + 157 ≤ w) (x1 : Nat) (hx1 : zsh x1 = some (false, 3, 4)) (x2 : Int) (hx2 : zrg x2) (x3 : Int) (hx3 : zrg x3) (x4 : Int) (hx4 : zrg x4) (A : zA) : zG (z_Pa_product_42 rec r10 N x1 x2 x3 x4 A) zPI d w 298 42 [some (.inr (.inr (some 5))), some (.inr (.inr (some x1))), some (.inl x2), some (.inl x3), some (.inl x4), none] [] A := by
  unfold z_Pa_product_42
  refine js_aload (pc1 := 43) rfl rfl rfl ?_
  refine js_cP (pc1 := 46) (as := [(.inr (.inr (some 5)))]) (S0 := []) (m := 1) (L0 := [some (.inr (.inr (some 5)))]) rfl rfl rfl rfl rfl rfl rfl rfl (zrc_o rfl rfl) (by omega) (by omega) (z_Pa_peek_ok N (by omega) (by omega) A) (fun v1 _ hv1 => ?_)
  refine js_iconst (pc1 := 48) rfl rfl ?_
  refine jt_ne (pc1 := 51) (t1 := 55) hv1 (zlit rfl) rfl rfl rfl (fun c2 => ?_) (fun c2 => ?_)
  · refine js_iconst (pc1 := 52) rfl rfl ?_
    refine js_goto (t1 := 56) rfl rfl ?_
    exact z_Pa_product_56_ok hrec hr10 N hd hw x1 hx1 x2 hx2 x3 hx3 x4 hx4 2 (zlit rfl) A
  · refine js_iconst (pc1 := 56) rfl rfl ?_
    exact z_Pa_product_56_ok hrec hr10 N hd hw x1 hx1 x2 hx2 x3 hx3 x4 hx4 3 (zlit rfl) A
theorem z_Pa_product_10_bok{d w : Nat} {rec : Nat → Int → zA → Option (Int × zA)} {Dr Wr : Nat} (hrec : ∀ (d w : Nat), Dr ≤ d → Wr ≤ w → ∀ (x1 : Nat) (hx1 : zsh x1 = some (false, 3, 4)) (x2 : Int) (hx2 : zrg x2) (A : zA), zG (rec x1 x2 A) zPI d w 305 0 [some (.inr (.inr (some 5))), some (.inr (.inr (some x1))), some (.inl x2), none] [] A) {r10 : Nat → Int → Int → Int → zA → Option (Int × zA)} (hr10 : ∀ (x1 : Nat) (hx1 : zsh x1 = some (false, 3, 4)) (x2 : Int) (hx2 : zrg x2) (x3 : Int) (hx3 : zrg x3) (x4 : Int) (hx4 : zrg x4) (A : zA), zG (r10 x1 x2 x3 x4 A) zPI d w 298 10 [some (.inr (.inr (some 5))), some (.inr (.inr (some x1))), some (.inl x2), some (.inl x3), some (.inl x4), none] [] A) (N : Nat) (hd : Dr + 5 ≤ d) (hw : Wr + 157 ≤ w) (x1 : Nat) (hx1 : zsh x1 = some (false, 3, 4)) (x2 : Int) (hx2 : zrg x2) (x3 : Int) (hx3 : zrg x3) (x4 : Int) (hx4 : zrg x4) (A : zA) : zG (z_Pa_product_10_b rec r10 N x1 x2 x3 x4 A) zPI d w 298 10 [some (.inr (.inr (some 5))), some (.inr (.inr (some x1))), some (.inl x2), some (.inl x3), some (.inl x4), none] [] A := by
  unfold z_Pa_product_10_b
  refine js_iload (pc1 := 12) rfl rfl rfl ?_
  refine js_iconst (pc1 := 14) rfl rfl ?_
  refine jt_ge (pc1 := 17) (t1 := 89) hx4 (zlit rfl) rfl rfl rfl (fun c1 => ?_) (fun c1 => ?_)
  · refine js_aload (pc1 := 18) rfl rfl rfl ?_
    refine js_gi (pc1 := 21) (j := 3) rfl rfl rfl rfl ?_
    refine ju_ne (pc1 := 24) (t1 := 89) (zi_rg _ _ _) rfl rfl rfl (fun c2 => ?_) (fun c2 => ?_)
    · refine js_aload (pc1 := 25) rfl rfl rfl ?_
      refine js_cP (pc1 := 28) (as := [(.inr (.inr (some 5)))]) (S0 := []) (m := 1) (L0 := [some (.inr (.inr (some 5)))]) rfl rfl rfl rfl rfl rfl rfl rfl (zrc_o rfl rfl) (by omega) (by omega) (z_Pa_peek_ok N (by omega) (by omega) A) (fun v3 _ hv3 => ?_)
      refine js_iconst (pc1 := 30) rfl rfl ?_
      refine jt_eq (pc1 := 33) (t1 := 42) hv3 (zlit rfl) rfl rfl rfl (fun c4 => ?_) (fun c4 => ?_)
      · exact z_Pa_product_42_ok hrec hr10 N hd hw x1 hx1 x2 hx2 x3 hx3 x4 hx4 A
      · refine js_aload (pc1 := 34) rfl rfl rfl ?_
        refine js_cP (pc1 := 37) (as := [(.inr (.inr (some 5)))]) (S0 := []) (m := 1) (L0 := [some (.inr (.inr (some 5)))]) rfl rfl rfl rfl rfl rfl rfl rfl (zrc_o rfl rfl) (by omega) (by omega) (z_Pa_peek_ok N (by omega) (by omega) A) (fun v5 _ hv5 => ?_)
        refine js_iconst (pc1 := 39) rfl rfl ?_
        refine jt_ne (pc1 := 42) (t1 := 89) hv5 (zlit rfl) rfl rfl rfl (fun c6 => ?_) (fun c6 => ?_)
        · exact z_Pa_product_42_ok hrec hr10 N hd hw x1 hx1 x2 hx2 x3 hx3 x4 hx4 A
        · refine js_iload (pc1 := 90) rfl rfl rfl ?_
          exact je_I rfl (zfit0 _ rfl) rfl hx3
    · refine js_iload (pc1 := 90) rfl rfl rfl ?_
      exact je_I rfl (zfit0 _ rfl) rfl hx3
  · refine js_iload (pc1 := 90) rfl rfl rfl ?_
    exact je_I rfl (zfit0 _ rfl) rfl hx3
theorem z_Pa_product_10_lok{d w : Nat} {rec : Nat → Int → zA → Option (Int × zA)} {Dr Wr : Nat} (hrec : ∀ (d w : Nat), Dr ≤ d → Wr ≤ w → ∀ (x1 : Nat) (hx1 : zsh x1 = some (false, 3, 4)) (x2 : Int) (hx2 : zrg x2) (A : zA), zG (rec x1 x2 A) zPI d w 305 0 [some (.inr (.inr (some 5))), some (.inr (.inr (some x1))), some (.inl x2), none] [] A) (N : Nat) (hd : Dr + 5 ≤ d) (hw : Wr + 157 ≤ w) (n : Nat) : ∀ (x1 : Nat) (hx1 : zsh x1 = some (false, 3, 4)) (x2 : Int) (hx2 : zrg x2) (x3 : Int) (hx3 : zrg x3) (x4 : Int) (hx4 : zrg x4) (A : zA), zG (z_Pa_product_10_l rec N n x1 x2 x3 x4 A) zPI d w 298 10 [some (.inr (.inr (some 5))), some (.inr (.inr (some x1))), some (.inl x2), some (.inl x3), some (.inl x4), none] [] A := by
  induction n with
  | zero => intros; exact zG_none
  | succ n ih =>
    intro x1 hx1 x2 hx2 x3 hx3 x4 hx4 A
    exact z_Pa_product_10_bok hrec ih N hd hw x1 hx1 x2 hx2 x3 hx3 x4 hx4 A
theorem z_Pa_product_10_ok{d w : Nat} {rec : Nat → Int → zA → Option (Int × zA)} {Dr Wr : Nat} (hrec : ∀ (d w : Nat), Dr ≤ d → Wr ≤ w → ∀ (x1 : Nat) (hx1 : zsh x1 = some (false, 3, 4)) (x2 : Int) (hx2 : zrg x2) (A : zA), zG (rec x1 x2 A) zPI d w 305 0 [some (.inr (.inr (some 5))), some (.inr (.inr (some x1))), some (.inl x2), none] [] A) (N : Nat) (hd : Dr + 5 ≤ d) (hw : Wr + 157 ≤ w) (x1 : Nat) (hx1 : zsh x1 = some (false, 3, 4)) (x2 : Int) (hx2 : zrg x2) (x3 : Int) (hx3 : zrg x3) (x4 : Int) (hx4 : zrg x4) (A : zA) : zG (z_Pa_product_10 rec N x1 x2 x3 x4 A) zPI d w 298 10 [some (.inr (.inr (some 5))), some (.inr (.inr (some x1))), some (.inl x2), some (.inl x3), some (.inl x4), none] [] A := z_Pa_product_10_lok hrec N hd hw N x1 hx1 x2 hx2 x3 hx3 x4 hx4 A
theorem z_Pa_product_ok{d w : Nat} {rec : Nat → Int → zA → Option (Int × zA)} {Dr Wr : Nat} (hrec : ∀ (d w : Nat), Dr ≤ d → Wr ≤ w → ∀ (x1 : Nat) (hx1 : zsh x1 = some (false, 3, 4)) (x2 : Int) (hx2 : zrg x2) (A : zA), zG (rec x1 x2 A) zPI d w 305 0 [some (.inr (.inr (some 5))), some (.inr (.inr (some x1))), some (.inl x2), none] [] A) (N : Nat) (hd : Dr + 5 ≤ d) (hw : Wr + 157 ≤ w) (x1 : Nat) (hx1 : zsh x1 = some (false, 3, 4)) (x2 : Int) (hx2 : zrg x2) (A : zA) : zG (z_Pa_product rec N x1 x2 A) zPI d w 298 0 [some (.inr (.inr (some 5))), some (.inr (.inr (some x1))), some (.inl x2), none, none, none] [] A := by
  unfold z_Pa_product
  refine js_aload (pc1 := 1) rfl rfl rfl ?_
  refine js_aload (pc1 := 2) rfl rfl rfl ?_
  refine js_iload (pc1 := 3) rfl rfl rfl ?_
  refine js_cI (pc1 := 6) (as := [(.inr (.inr (some 5))), (.inr (.inr (some x1))), (.inl x2)]) (S0 := []) (m := 4) (L0 := [some (.inr (.inr (some 5))), some (.inr (.inr (some x1))), some (.inl x2), none]) rfl rfl rfl rfl rfl rfl rfl rfl (zrc_o rfl rfl) (by omega) (by omega) (hrec _ _ (by omega) (by omega) x1 hx1 x2 hx2 A) (fun v1 A2 _ hv1 => ?_)
  refine js_istore (pc1 := 7) (L1 := [some (.inr (.inr (some 5))), some (.inr (.inr (some x1))), some (.inl x2), some (.inl v1), none, none]) rfl rfl rfl rfl ?_
  refine js_iconst (pc1 := 8) rfl rfl ?_
  refine js_istore (pc1 := 10) (L1 := [some (.inr (.inr (some 5))), some (.inr (.inr (some x1))), some (.inl x2), some (.inl v1), some (.inl 0), none]) rfl rfl rfl rfl ?_
  exact z_Pa_product_10_ok hrec N hd hw x1 hx1 x2 hx2 v1 hv1 0 (zlit rfl) A2
theorem z_Pa_sum_56_ok{d w : Nat} {rec : Nat → Int → zA → Option (Int × zA)} {Dr Wr : Nat} (hrec : ∀ (d w : Nat), Dr ≤ d → Wr ≤ w → ∀ (x1 : Nat) (hx1 : zsh x1 = some (false, 3, 4)) (x2 : Int) (hx2 : zrg x2) (A : zA), zG (rec x1 x2 A) zPI d w 305 0 [some (.inr (.inr (some 5))), some (.inr (.inr (some x1))), some (.inl x2), none] [] A) {r10 : Nat → Int → Int → Int → zA → Option (Int × zA)} (hr10 : ∀ (x1 : Nat) (hx1 : zsh x1 = some (false, 3, 4)) (x2 : Int) (hx2 : zrg x2) (x3 : Int) (hx3 : zrg x3) (x4 : Int) (hx4 : zrg x4) (A : zA), zG (r10 x1 x2 x3 x4 A) zPI d w 272 10 [some (.inr (.inr (some 5))), some (.inr (.inr (some x1))), some (.inl x2), some (.inl x3), some (.inl x4), none] [] A) (N : Nat) (hd : Dr + 6 ≤ d) (hw : Wr + 182 ≤ w) (x1 : Nat) (hx1 : zsh x1 = some (false, 3, 4)) (x2 : Int) (hx2 : zrg x2) (x3 : Int) (hx3 : zrg x3) (x4 : Int) (hx4 : zrg x4) (s0 : Int) (hs0 : zrg s0) (A : zA) : zG (z_Pa_sum_56 rec r10 N x1 x2 x3 x4 s0 A) zPI d w 272 56 [some (.inr (.inr (some 5))), some (.inr (.inr (some x1))), some (.inl x2), some (.inl x3), some (.inl x4), none] [(.inl s0)] A := by
  unfold z_Pa_sum_56
  refine js_istore (pc1 := 58) (L1 := [some (.inr (.inr (some 5))), some (.inr (.inr (some x1))), some (.inl x2), some (.inl x3), some (.inl x4), some (.inl s0)]) rfl rfl rfl rfl ?_
  refine js_aload (pc1 := 59) rfl rfl rfl ?_
  refine js_dupR (pc1 := 60) rfl rfl ?_
  refine js_gi (pc1 := 63) (j := 2) rfl rfl rfl rfl ?_
  refine js_iconst (pc1 := 64) rfl rfl ?_
  refine js_iadd (pc1 := 65) rfl rfl ?_
  refine jt_pi (pc1 := 68) (j := 2) rfl rfl rfl rfl rfl (fun A1 => ?_)
  refine js_aload (pc1 := 69) rfl rfl rfl ?_
  refine js_aload (pc1 := 70) rfl rfl rfl ?_
  refine js_iload (pc1 := 71) rfl rfl rfl ?_
  refine js_aload (pc1 := 72) rfl rfl rfl ?_
  refine js_aload (pc1 := 73) rfl rfl rfl ?_
  refine js_iload (pc1 := 74) rfl rfl rfl ?_
  refine js_cI (pc1 := 77) (as := [(.inr (.inr (some 5))), (.inr (.inr (some x1))), (.inl x2)]) (S0 := [(.inl x3), (.inr (.inr (some x1))), (.inr (.inr (some 5)))]) (m := 6) (L0 := [some (.inr (.inr (some 5))), some (.inr (.inr (some x1))), some (.inl x2), none, none, none]) rfl rfl rfl rfl rfl rfl rfl rfl (zrc_o rfl rfl) (by omega) (by omega) (z_Pa_product_ok hrec N (by omega) (by omega) x1 hx1 x2 hx2 A1) (fun v2 A3 _ hv2 => ?_)
  refine js_iload (pc1 := 79) rfl rfl rfl ?_
  refine js_cI (pc1 := 82) (as := [(.inr (.inr (some 5))), (.inr (.inr (some x1))), (.inl x3), (.inl v2), (.inl s0)]) (S0 := []) (m := 6) (L0 := [some (.inr (.inr (some 5))), some (.inr (.inr (some x1))), some (.inl x3), some (.inl v2), some (.inl s0), none]) rfl rfl rfl rfl rfl rfl rfl rfl (zrc_o rfl rfl) (by omega) (by omega) (z_Pa_work_ok N (by omega) (by omega) x1 hx1 x3 hx3 v2 hv2 s0 hs0 A3) (fun v4 A5 _ hv4 => ?_)
  refine js_istore (pc1 := 83) (L1 := [some (.inr (.inr (some 5))), some (.inr (.inr (some x1))), some (.inl x2), some (.inl v4), some (.inl x4), some (.inl s0)]) rfl rfl rfl rfl ?_
  refine js_iinc (pc1 := 86) (L1 := [some (.inr (.inr (some 5))), some (.inr (.inr (some x1))), some (.inl x2), some (.inl v4), some (.inl (x4 + 1)), some (.inl s0)]) rfl rfl rfl rfl ?_
  refine js_goto (t1 := 10) rfl rfl ?_
  exact zG_to (L := [some (.inr (.inr (some 5))), some (.inr (.inr (some x1))), some (.inl x2), some (.inl v4), some (.inl (zw (x4 + 1))), none]) (S := []) ⟨rfl, ⟨rfl, ⟨rfl, ⟨rfl, ⟨zval_w (x4 + 1), trivial⟩⟩⟩⟩⟩ (rfl) (hr10 x1 hx1 x2 hx2 v4 hv4 (zw (x4 + 1)) (zw_rg (x4 + 1)) A5)
theorem z_Pa_sum_42_ok{d w : Nat} {rec : Nat → Int → zA → Option (Int × zA)} {Dr Wr : Nat} (hrec : ∀ (d w : Nat), Dr ≤ d → Wr ≤ w → ∀ (x1 : Nat) (hx1 : zsh x1 = some (false, 3, 4)) (x2 : Int) (hx2 : zrg x2) (A : zA), zG (rec x1 x2 A) zPI d w 305 0 [some (.inr (.inr (some 5))), some (.inr (.inr (some x1))), some (.inl x2), none] [] A) {r10 : Nat → Int → Int → Int → zA → Option (Int × zA)} (hr10 : ∀ (x1 : Nat) (hx1 : zsh x1 = some (false, 3, 4)) (x2 : Int) (hx2 : zrg x2) (x3 : Int) (hx3 : zrg x3) (x4 : Int) (hx4 : zrg x4) (A : zA), zG (r10 x1 x2 x3 x4 A) zPI d w 272 10 [some (.inr (.inr (some 5))), some (.inr (.inr (some x1))), some (.inl x2), some (.inl x3), some (.inl x4), none] [] A) (N : Nat) (hd : Dr + 6 ≤ d) (hw : Wr + 182 ≤ w) (x1 : Nat) (hx1 : zsh x1 = some (false, 3, 4)) (x2 : Int) (hx2 : zrg x2) (x3 : Int) (hx3 : zrg x3) (x4 : Int) (hx4 : zrg x4) (A : zA) : zG (z_Pa_sum_42 rec r10 N x1 x2 x3 x4 A) zPI d w 272 42 [some (.inr (.inr (some 5))), some (.inr (.inr (some x1))), some (.inl x2), some (.inl x3), some (.inl x4), none] [] A := by
  unfold z_Pa_sum_42
  refine js_aload (pc1 := 43) rfl rfl rfl ?_
  refine js_cP (pc1 := 46) (as := [(.inr (.inr (some 5)))]) (S0 := []) (m := 1) (L0 := [some (.inr (.inr (some 5)))]) rfl rfl rfl rfl rfl rfl rfl rfl (zrc_o rfl rfl) (by omega) (by omega) (z_Pa_peek_ok N (by omega) (by omega) A) (fun v1 _ hv1 => ?_)
  refine js_iconst (pc1 := 48) rfl rfl ?_
  refine jt_ne (pc1 := 51) (t1 := 55) hv1 (zlit rfl) rfl rfl rfl (fun c2 => ?_) (fun c2 => ?_)
  · refine js_iconst (pc1 := 52) rfl rfl ?_
    refine js_goto (t1 := 56) rfl rfl ?_
    exact z_Pa_sum_56_ok hrec hr10 N hd hw x1 hx1 x2 hx2 x3 hx3 x4 hx4 0 (zlit rfl) A
  · refine js_iconst (pc1 := 56) rfl rfl ?_
    exact z_Pa_sum_56_ok hrec hr10 N hd hw x1 hx1 x2 hx2 x3 hx3 x4 hx4 1 (zlit rfl) A
theorem z_Pa_sum_10_bok{d w : Nat} {rec : Nat → Int → zA → Option (Int × zA)} {Dr Wr : Nat} (hrec : ∀ (d w : Nat), Dr ≤ d → Wr ≤ w → ∀ (x1 : Nat) (hx1 : zsh x1 = some (false, 3, 4)) (x2 : Int) (hx2 : zrg x2) (A : zA), zG (rec x1 x2 A) zPI d w 305 0 [some (.inr (.inr (some 5))), some (.inr (.inr (some x1))), some (.inl x2), none] [] A) {r10 : Nat → Int → Int → Int → zA → Option (Int × zA)} (hr10 : ∀ (x1 : Nat) (hx1 : zsh x1 = some (false, 3, 4)) (x2 : Int) (hx2 : zrg x2) (x3 : Int) (hx3 : zrg x3) (x4 : Int) (hx4 : zrg x4) (A : zA), zG (r10 x1 x2 x3 x4 A) zPI d w 272 10 [some (.inr (.inr (some 5))), some (.inr (.inr (some x1))), some (.inl x2), some (.inl x3), some (.inl x4), none] [] A) (N : Nat) (hd : Dr + 6 ≤ d) (hw : Wr + 182 ≤ w) (x1 : Nat) (hx1 : zsh x1 = some (false, 3, 4)) (x2 : Int) (hx2 : zrg x2) (x3 : Int) (hx3 : zrg x3) (x4 : Int) (hx4 : zrg x4) (A : zA) : zG (z_Pa_sum_10_b rec r10 N x1 x2 x3 x4 A) zPI d w 272 10 [some (.inr (.inr (some 5))), some (.inr (.inr (some x1))), some (.inl x2), some (.inl x3), some (.inl x4), none] [] A := by
  unfold z_Pa_sum_10_b
  refine js_iload (pc1 := 12) rfl rfl rfl ?_
  refine js_iconst (pc1 := 14) rfl rfl ?_
  refine jt_ge (pc1 := 17) (t1 := 89) hx4 (zlit rfl) rfl rfl rfl (fun c1 => ?_) (fun c1 => ?_)
  · refine js_aload (pc1 := 18) rfl rfl rfl ?_
    refine js_gi (pc1 := 21) (j := 3) rfl rfl rfl rfl ?_
    refine ju_ne (pc1 := 24) (t1 := 89) (zi_rg _ _ _) rfl rfl rfl (fun c2 => ?_) (fun c2 => ?_)
    · refine js_aload (pc1 := 25) rfl rfl rfl ?_
      refine js_cP (pc1 := 28) (as := [(.inr (.inr (some 5)))]) (S0 := []) (m := 1) (L0 := [some (.inr (.inr (some 5)))]) rfl rfl rfl rfl rfl rfl rfl rfl (zrc_o rfl rfl) (by omega) (by omega) (z_Pa_peek_ok N (by omega) (by omega) A) (fun v3 _ hv3 => ?_)
      refine js_iconst (pc1 := 30) rfl rfl ?_
      refine jt_eq (pc1 := 33) (t1 := 42) hv3 (zlit rfl) rfl rfl rfl (fun c4 => ?_) (fun c4 => ?_)
      · exact z_Pa_sum_42_ok hrec hr10 N hd hw x1 hx1 x2 hx2 x3 hx3 x4 hx4 A
      · refine js_aload (pc1 := 34) rfl rfl rfl ?_
        refine js_cP (pc1 := 37) (as := [(.inr (.inr (some 5)))]) (S0 := []) (m := 1) (L0 := [some (.inr (.inr (some 5)))]) rfl rfl rfl rfl rfl rfl rfl rfl (zrc_o rfl rfl) (by omega) (by omega) (z_Pa_peek_ok N (by omega) (by omega) A) (fun v5 _ hv5 => ?_)
        refine js_iconst (pc1 := 39) rfl rfl ?_
        refine jt_ne (pc1 := 42) (t1 := 89) hv5 (zlit rfl) rfl rfl rfl (fun c6 => ?_) (fun c6 => ?_)
        · exact z_Pa_sum_42_ok hrec hr10 N hd hw x1 hx1 x2 hx2 x3 hx3 x4 hx4 A
        · refine js_iload (pc1 := 90) rfl rfl rfl ?_
          exact je_I rfl (zfit0 _ rfl) rfl hx3
    · refine js_iload (pc1 := 90) rfl rfl rfl ?_
      exact je_I rfl (zfit0 _ rfl) rfl hx3
  · refine js_iload (pc1 := 90) rfl rfl rfl ?_
    exact je_I rfl (zfit0 _ rfl) rfl hx3
theorem z_Pa_sum_10_lok{d w : Nat} {rec : Nat → Int → zA → Option (Int × zA)} {Dr Wr : Nat} (hrec : ∀ (d w : Nat), Dr ≤ d → Wr ≤ w → ∀ (x1 : Nat) (hx1 : zsh x1 = some (false, 3, 4)) (x2 : Int) (hx2 : zrg x2) (A : zA), zG (rec x1 x2 A) zPI d w 305 0 [some (.inr (.inr (some 5))), some (.inr (.inr (some x1))), some (.inl x2), none] [] A) (N : Nat) (hd : Dr + 6 ≤ d) (hw : Wr + 182 ≤ w) (n : Nat) : ∀ (x1 : Nat) (hx1 : zsh x1 = some (false, 3, 4)) (x2 : Int) (hx2 : zrg x2) (x3 : Int) (hx3 : zrg x3) (x4 : Int) (hx4 : zrg x4) (A : zA), zG (z_Pa_sum_10_l rec N n x1 x2 x3 x4 A) zPI d w 272 10 [some (.inr (.inr (some 5))), some (.inr (.inr (some x1))), some (.inl x2), some (.inl x3), some (.inl x4), none] [] A := by
  induction n with
  | zero => intros; exact zG_none
  | succ n ih =>
    intro x1 hx1 x2 hx2 x3 hx3 x4 hx4 A
    exact z_Pa_sum_10_bok hrec ih N hd hw x1 hx1 x2 hx2 x3 hx3 x4 hx4 A
theorem z_Pa_sum_10_ok{d w : Nat} {rec : Nat → Int → zA → Option (Int × zA)} {Dr Wr : Nat} (hrec : ∀ (d w : Nat), Dr ≤ d → Wr ≤ w → ∀ (x1 : Nat) (hx1 : zsh x1 = some (false, 3, 4)) (x2 : Int) (hx2 : zrg x2) (A : zA), zG (rec x1 x2 A) zPI d w 305 0 [some (.inr (.inr (some 5))), some (.inr (.inr (some x1))), some (.inl x2), none] [] A) (N : Nat) (hd : Dr + 6 ≤ d) (hw : Wr + 182 ≤ w) (x1 : Nat) (hx1 : zsh x1 = some (false, 3, 4)) (x2 : Int) (hx2 : zrg x2) (x3 : Int) (hx3 : zrg x3) (x4 : Int) (hx4 : zrg x4) (A : zA) : zG (z_Pa_sum_10 rec N x1 x2 x3 x4 A) zPI d w 272 10 [some (.inr (.inr (some 5))), some (.inr (.inr (some x1))), some (.inl x2), some (.inl x3), some (.inl x4), none] [] A := z_Pa_sum_10_lok hrec N hd hw N x1 hx1 x2 hx2 x3 hx3 x4 hx4 A
theorem z_Pa_sum_ok{d w : Nat} {rec : Nat → Int → zA → Option (Int × zA)} {Dr Wr : Nat} (hrec : ∀ (d w : Nat), Dr ≤ d → Wr ≤ w → ∀ (x1 : Nat) (hx1 : zsh x1 = some (false, 3, 4)) (x2 : Int) (hx2 : zrg x2) (A : zA), zG (rec x1 x2 A) zPI d w 305 0 [some (.inr (.inr (some 5))), some (.inr (.inr (some x1))), some (.inl x2), none] [] A) (N : Nat) (hd : Dr + 6 ≤ d) (hw : Wr + 182 ≤ w) (x1 : Nat) (hx1 : zsh x1 = some (false, 3, 4)) (x2 : Int) (hx2 : zrg x2) (A : zA) : zG (z_Pa_sum rec N x1 x2 A) zPI d w 272 0 [some (.inr (.inr (some 5))), some (.inr (.inr (some x1))), some (.inl x2), none, none, none] [] A := by
  unfold z_Pa_sum
  refine js_aload (pc1 := 1) rfl rfl rfl ?_
  refine js_aload (pc1 := 2) rfl rfl rfl ?_
  refine js_iload (pc1 := 3) rfl rfl rfl ?_
  refine js_cI (pc1 := 6) (as := [(.inr (.inr (some 5))), (.inr (.inr (some x1))), (.inl x2)]) (S0 := []) (m := 6) (L0 := [some (.inr (.inr (some 5))), some (.inr (.inr (some x1))), some (.inl x2), none, none, none]) rfl rfl rfl rfl rfl rfl rfl rfl (zrc_o rfl rfl) (by omega) (by omega) (z_Pa_product_ok hrec N (by omega) (by omega) x1 hx1 x2 hx2 A) (fun v1 A2 _ hv1 => ?_)
  refine js_istore (pc1 := 7) (L1 := [some (.inr (.inr (some 5))), some (.inr (.inr (some x1))), some (.inl x2), some (.inl v1), none, none]) rfl rfl rfl rfl ?_
  refine js_iconst (pc1 := 8) rfl rfl ?_
  refine js_istore (pc1 := 10) (L1 := [some (.inr (.inr (some 5))), some (.inr (.inr (some x1))), some (.inl x2), some (.inl v1), some (.inl 0), none]) rfl rfl rfl rfl ?_
  exact z_Pa_sum_10_ok hrec N hd hw x1 hx1 x2 hx2 v1 hv1 0 (zlit rfl) A2
theorem z_Pa_expression_67_ok{d w : Nat} {rec : Nat → Int → zA → Option (Int × zA)} {Dr Wr : Nat} (hrec : ∀ (d w : Nat), Dr ≤ d → Wr ≤ w → ∀ (x1 : Nat) (hx1 : zsh x1 = some (false, 3, 4)) (x2 : Int) (hx2 : zrg x2) (A : zA), zG (rec x1 x2 A) zPI d w 305 0 [some (.inr (.inr (some 5))), some (.inr (.inr (some x1))), some (.inl x2), none] [] A) (N : Nat) (hd : Dr + 7 ≤ d) (hw : Wr + 207 ≤ w) (s1 : Nat) (hs1 : zsh s1 = some (false, 3, 4)) (s2 : Int) (hs2 : zrg s2) (s3 : Int) (hs3 : zrg s3) (s4 : Int) (hs4 : zrg s4) (A : zA) : zG (z_Pa_expression_67 rec N s1 s2 s3 s4 A) zPI d w 217 67 [none, none, none, none, none] [(.inl s4), (.inl s3), (.inl s2), (.inr (.inr (some s1))), (.inr (.inr (some 5)))] A := by
  unfold z_Pa_expression_67
  refine js_cI (pc1 := 70) (as := [(.inr (.inr (some 5))), (.inr (.inr (some s1))), (.inl s2), (.inl s3), (.inl s4)]) (S0 := []) (m := 6) (L0 := [some (.inr (.inr (some 5))), some (.inr (.inr (some s1))), some (.inl s2), some (.inl s3), some (.inl s4), none]) rfl rfl rfl rfl rfl rfl rfl rfl (zrc_o rfl rfl) (by omega) (by omega) (z_Pa_work_ok N (by omega) (by omega) s1 hs1 s2 hs2 s3 hs3 s4 hs4 A) (fun v1 A2 _ hv1 => ?_)
  exact je_I rfl (zfit0 _ rfl) rfl hv1
theorem z_Pa_expression_36_ok{d w : Nat} {rec : Nat → Int → zA → Option (Int × zA)} {Dr Wr : Nat} (hrec : ∀ (d w : Nat), Dr ≤ d → Wr ≤ w → ∀ (x1 : Nat) (hx1 : zsh x1 = some (false, 3, 4)) (x2 : Int) (hx2 : zrg x2) (A : zA), zG (rec x1 x2 A) zPI d w 305 0 [some (.inr (.inr (some 5))), some (.inr (.inr (some x1))), some (.inl x2), none] [] A) (N : Nat) (hd : Dr + 7 ≤ d) (hw : Wr + 207 ≤ w) (x1 : Nat) (hx1 : zsh x1 = some (false, 3, 4)) (x2 : Int) (hx2 : zrg x2) (x3 : Int) (hx3 : zrg x3) (x4 : Int) (hx4 : zrg x4) (A : zA) : zG (z_Pa_expression_36 rec N x1 x2 x3 x4 A) zPI d w 217 36 [some (.inr (.inr (some 5))), some (.inr (.inr (some x1))), some (.inl x2), some (.inl x3), some (.inl x4)] [] A := by
  unfold z_Pa_expression_36
  refine js_aload (pc1 := 37) rfl rfl rfl ?_
  refine js_dupR (pc1 := 38) rfl rfl ?_
  refine js_gi (pc1 := 41) (j := 2) rfl rfl rfl rfl ?_
  refine js_iconst (pc1 := 42) rfl rfl ?_
  refine js_iadd (pc1 := 43) rfl rfl ?_
  refine jt_pi (pc1 := 46) (j := 2) rfl rfl rfl rfl rfl (fun A1 => ?_)
  refine js_aload (pc1 := 47) rfl rfl rfl ?_
  refine js_aload (pc1 := 48) rfl rfl rfl ?_
  refine js_iload (pc1 := 49) rfl rfl rfl ?_
  refine js_aload (pc1 := 50) rfl rfl rfl ?_
  refine js_aload (pc1 := 51) rfl rfl rfl ?_
  refine js_iload (pc1 := 52) rfl rfl rfl ?_
  refine js_cI (pc1 := 55) (as := [(.inr (.inr (some 5))), (.inr (.inr (some x1))), (.inl x2)]) (S0 := [(.inl x3), (.inr (.inr (some x1))), (.inr (.inr (some 5)))]) (m := 6) (L0 := [some (.inr (.inr (some 5))), some (.inr (.inr (some x1))), some (.inl x2), none, none, none]) rfl rfl rfl rfl rfl rfl rfl rfl (zrc_o rfl rfl) (by omega) (by omega) (z_Pa_sum_ok hrec N (by omega) (by omega) x1 hx1 x2 hx2 A1) (fun v2 A3 _ hv2 => ?_)
  refine js_iload (pc1 := 57) rfl rfl rfl ?_
  refine js_iconst (pc1 := 59) rfl rfl ?_
  refine jt_ne (pc1 := 62) (t1 := 66) hx4 (zlit rfl) rfl rfl rfl (fun c4 => ?_) (fun c4 => ?_)
  · refine js_iconst (pc1 := 63) rfl rfl ?_
    refine js_goto (t1 := 67) rfl rfl ?_
    exact zG_to (L := [none, none, none, none, none]) (S := [(.inl 4), (.inl v2), (.inl x3), (.inr (.inr (some x1))), (.inr (.inr (some 5)))]) trivial (rfl) (z_Pa_expression_67_ok hrec N hd hw x1 hx1 x3 hx3 v2 hv2 4 (zlit rfl) A3)
  · refine js_iconst (pc1 := 67) rfl rfl ?_
    exact zG_to (L := [none, none, none, none, none]) (S := [(.inl 5), (.inl v2), (.inl x3), (.inr (.inr (some x1))), (.inr (.inr (some 5)))]) trivial (rfl) (z_Pa_expression_67_ok hrec N hd hw x1 hx1 x3 hx3 v2 hv2 5 (zlit rfl) A3)
theorem z_Pa_expression_ok{d w : Nat} {rec : Nat → Int → zA → Option (Int × zA)} {Dr Wr : Nat} (hrec : ∀ (d w : Nat), Dr ≤ d → Wr ≤ w → ∀ (x1 : Nat) (hx1 : zsh x1 = some (false, 3, 4)) (x2 : Int) (hx2 : zrg x2) (A : zA), zG (rec x1 x2 A) zPI d w 305 0 [some (.inr (.inr (some 5))), some (.inr (.inr (some x1))), some (.inl x2), none] [] A) (N : Nat) (hd : Dr + 7 ≤ d) (hw : Wr + 207 ≤ w) (x1 : Nat) (hx1 : zsh x1 = some (false, 3, 4)) (x2 : Int) (hx2 : zrg x2) (A : zA) : zG (z_Pa_expression rec N x1 x2 A) zPI d w 217 0 [some (.inr (.inr (some 5))), some (.inr (.inr (some x1))), some (.inl x2), none, none] [] A := by
  unfold z_Pa_expression
  refine js_aload (pc1 := 1) rfl rfl rfl ?_
  refine js_aload (pc1 := 2) rfl rfl rfl ?_
  refine js_iload (pc1 := 3) rfl rfl rfl ?_
  refine js_cI (pc1 := 6) (as := [(.inr (.inr (some 5))), (.inr (.inr (some x1))), (.inl x2)]) (S0 := []) (m := 6) (L0 := [some (.inr (.inr (some 5))), some (.inr (.inr (some x1))), some (.inl x2), none, none, none]) rfl rfl rfl rfl rfl rfl rfl rfl (zrc_o rfl rfl) (by omega) (by omega) (z_Pa_sum_ok hrec N (by omega) (by omega) x1 hx1 x2 hx2 A) (fun v1 A2 _ hv1 => ?_)
  refine js_istore (pc1 := 7) (L1 := [some (.inr (.inr (some 5))), some (.inr (.inr (some x1))), some (.inl x2), some (.inl v1), none]) rfl rfl rfl rfl ?_
  refine js_aload (pc1 := 8) rfl rfl rfl ?_
  refine js_cP (pc1 := 11) (as := [(.inr (.inr (some 5)))]) (S0 := []) (m := 1) (L0 := [some (.inr (.inr (some 5)))]) rfl rfl rfl rfl rfl rfl rfl rfl (zrc_o rfl rfl) (by omega) (by omega) (z_Pa_peek_ok N (by omega) (by omega) A2) (fun v3 _ hv3 => ?_)
  refine js_istore (pc1 := 13) (L1 := [some (.inr (.inr (some 5))), some (.inr (.inr (some x1))), some (.inl x2), some (.inl v1), some (.inl v3)]) rfl rfl rfl rfl ?_
  refine js_aload (pc1 := 14) rfl rfl rfl ?_
  refine js_gi (pc1 := 17) (j := 3) rfl rfl rfl rfl ?_
  refine ju_ne (pc1 := 20) (t1 := 34) (zi_rg _ _ _) rfl rfl rfl (fun c4 => ?_) (fun c4 => ?_)
  · refine js_iload (pc1 := 22) rfl rfl rfl ?_
    refine js_iconst (pc1 := 24) rfl rfl ?_
    refine jt_eq (pc1 := 27) (t1 := 36) hv3 (zlit rfl) rfl rfl rfl (fun c5 => ?_) (fun c5 => ?_)
    · exact z_Pa_expression_36_ok hrec N hd hw x1 hx1 x2 hx2 v1 hv1 v3 hv3 A2
    · refine js_iload (pc1 := 29) rfl rfl rfl ?_
      refine js_iconst (pc1 := 31) rfl rfl ?_
      refine jt_eq (pc1 := 34) (t1 := 36) hv3 (zlit rfl) rfl rfl rfl (fun c6 => ?_) (fun c6 => ?_)
      · exact z_Pa_expression_36_ok hrec N hd hw x1 hx1 x2 hx2 v1 hv1 v3 hv3 A2
      · refine js_iload (pc1 := 35) rfl rfl rfl ?_
        exact je_I rfl (zfit0 _ rfl) rfl hv1
  · refine js_iload (pc1 := 35) rfl rfl rfl ?_
    exact je_I rfl (zfit0 _ rfl) rfl hv1
theorem z_Pa_nested_ok{d w : Nat} {rec : Nat → Int → zA → Option (Int × zA)} {Dr Wr : Nat} (hrec : ∀ (d w : Nat), Dr ≤ d → Wr ≤ w → ∀ (x1 : Nat) (hx1 : zsh x1 = some (false, 3, 4)) (x2 : Int) (hx2 : zrg x2) (A : zA), zG (rec x1 x2 A) zPI d w 305 0 [some (.inr (.inr (some 5))), some (.inr (.inr (some x1))), some (.inl x2), none] [] A) (N : Nat) (hd : Dr + 8 ≤ d) (hw : Wr + 231 ≤ w) (x1 : Nat) (hx1 : zsh x1 = some (false, 3, 4)) (x2 : Int) (hx2 : zrg x2) (x3 : Int) (hx3 : zrg x3) (A : zA) : zG (z_Pa_nested rec N x1 x2 x3 A) zPI d w 308 0 [some (.inr (.inr (some 5))), some (.inr (.inr (some x1))), some (.inl x2), some (.inl x3), none, none, none, none] [] A := by
  unfold z_Pa_nested
  refine js_iload (pc1 := 1) rfl rfl rfl ?_
  refine zG_ite (fun c4 => ?_) (fun c4 => ?_)
  · refine js_lsw (t1 := 75) rfl c4 (zlit rfl) (by decide) ?_
    refine js_aload (pc1 := 76) rfl rfl rfl ?_
    refine js_aload (pc1 := 77) rfl rfl rfl ?_
    refine js_iload (pc1 := 78) rfl rfl rfl ?_
    refine js_cI (pc1 := 81) (as := [(.inr (.inr (some 5))), (.inr (.inr (some x1))), (.inl x3)]) (S0 := []) (m := 5) (L0 := [some (.inr (.inr (some 5))), some (.inr (.inr (some x1))), some (.inl x3), none, none]) rfl rfl rfl rfl rfl rfl rfl rfl (zrc_o rfl rfl) (by omega) (by omega) (z_Pa_expression_ok hrec N (by omega) (by omega) x1 hx1 x3 hx3 A) (fun v1 A2 _ hv1 => ?_)
    refine js_istore (pc1 := 83) (L1 := [some (.inr (.inr (some 5))), some (.inr (.inr (some x1))), some (.inl x2), some (.inl x3), none, none, some (.inl v1), none]) rfl rfl rfl rfl ?_
    refine js_aload (pc1 := 84) rfl rfl rfl ?_
    refine js_iconst (pc1 := 86) rfl rfl ?_
    refine js_cV (pc1 := 89) (as := [(.inr (.inr (some 5))), (.inl 41)]) (S0 := []) (m := 2) (L0 := [some (.inr (.inr (some 5))), some (.inl 41)]) rfl rfl rfl rfl rfl rfl rfl rfl (zrc_o rfl rfl) (by omega) (by omega) (z_Pa_expect_ok N (by omega) (by omega) 41 (zlit rfl) A2) (fun A3 _ => ?_)
    refine js_iload (pc1 := 91) rfl rfl rfl ?_
    exact je_I rfl (zfit0 _ rfl) rfl hv1
  refine zG_ite (fun c11 => ?_) (fun c11 => ?_)
  · refine js_lsw (t1 := 92) rfl c11 (zlit rfl) (by decide) ?_
    refine js_aload (pc1 := 93) rfl rfl rfl ?_
    refine js_aload (pc1 := 94) rfl rfl rfl ?_
    refine js_iconst (pc1 := 95) rfl rfl ?_
    refine js_cI (pc1 := 98) (as := [(.inr (.inr (some 5))), (.inr (.inr (some x1))), (.inl 0)]) (S0 := []) (m := 4) (L0 := [some (.inr (.inr (some 5))), some (.inr (.inr (some x1))), some (.inl 0), none]) rfl rfl rfl rfl rfl rfl rfl rfl (zrc_o rfl rfl) (by omega) (by omega) (z_Pa_constant_ok N (by omega) (by omega) x1 hx1 0 (zlit rfl) A) (fun v5 A6 _ hv5 => ?_)
    refine js_istore (pc1 := 100) (L1 := [some (.inr (.inr (some 5))), some (.inr (.inr (some x1))), some (.inl x2), some (.inl x3), none, none, none, some (.inl v5)]) rfl rfl rfl rfl ?_
    refine js_aload (pc1 := 101) rfl rfl rfl ?_
    refine js_aload (pc1 := 102) rfl rfl rfl ?_
    refine js_iload (pc1 := 104) rfl rfl rfl ?_
    refine js_aload (pc1 := 105) rfl rfl rfl ?_
    refine js_aload (pc1 := 106) rfl rfl rfl ?_
    refine js_iload (pc1 := 107) rfl rfl rfl ?_
    refine js_cI (pc1 := 110) (as := [(.inr (.inr (some 5))), (.inr (.inr (some x1))), (.inl x3)]) (S0 := [(.inl v5), (.inr (.inr (some x1))), (.inr (.inr (some 5)))]) (m := 4) (L0 := [some (.inr (.inr (some 5))), some (.inr (.inr (some x1))), some (.inl x3), none]) rfl rfl rfl rfl rfl rfl rfl rfl (zrc_o rfl rfl) (by omega) (by omega) (hrec _ _ (by omega) (by omega) x1 hx1 x3 hx3 A6) (fun v7 A8 _ hv7 => ?_)
    refine js_iconst (pc1 := 111) rfl rfl ?_
    refine js_cI (pc1 := 114) (as := [(.inr (.inr (some 5))), (.inr (.inr (some x1))), (.inl v5), (.inl v7), (.inl 1)]) (S0 := []) (m := 6) (L0 := [some (.inr (.inr (some 5))), some (.inr (.inr (some x1))), some (.inl v5), some (.inl v7), some (.inl 1), none]) rfl rfl rfl rfl rfl rfl rfl rfl (zrc_o rfl rfl) (by omega) (by omega) (z_Pa_work_ok N (by omega) (by omega) x1 hx1 v5 hv5 v7 hv7 1 (zlit rfl) A8) (fun v9 A10 _ hv9 => ?_)
    exact je_I rfl (zfit0 _ rfl) rfl hv9
  refine zG_ite (fun c19 => ?_) (fun c19 => ?_)
  · refine js_lsw (t1 := 36) rfl c19 (zlit rfl) (by decide) ?_
    refine js_aload (pc1 := 37) rfl rfl rfl ?_
    refine js_iconst (pc1 := 39) rfl rfl ?_
    refine js_cV (pc1 := 42) (as := [(.inr (.inr (some 5))), (.inl 91)]) (S0 := []) (m := 2) (L0 := [some (.inr (.inr (some 5))), some (.inl 91)]) rfl rfl rfl rfl rfl rfl rfl rfl (zrc_o rfl rfl) (by omega) (by omega) (z_Pa_expect_ok N (by omega) (by omega) 91 (zlit rfl) A) (fun A12 _ => ?_)
    refine js_aload (pc1 := 43) rfl rfl rfl ?_
    refine js_aload (pc1 := 44) rfl rfl rfl ?_
    refine js_iload (pc1 := 45) rfl rfl rfl ?_
    refine js_cI (pc1 := 48) (as := [(.inr (.inr (some 5))), (.inr (.inr (some x1))), (.inl x3)]) (S0 := []) (m := 5) (L0 := [some (.inr (.inr (some 5))), some (.inr (.inr (some x1))), some (.inl x3), none, none]) rfl rfl rfl rfl rfl rfl rfl rfl (zrc_o rfl rfl) (by omega) (by omega) (z_Pa_expression_ok hrec N (by omega) (by omega) x1 hx1 x3 hx3 A12) (fun v13 A14 _ hv13 => ?_)
    refine js_istore (pc1 := 50) (L1 := [some (.inr (.inr (some 5))), some (.inr (.inr (some x1))), some (.inl x2), some (.inl x3), some (.inl v13), none, none, none]) rfl rfl rfl rfl ?_
    refine js_aload (pc1 := 51) rfl rfl rfl ?_
    refine js_iconst (pc1 := 53) rfl rfl ?_
    refine js_cV (pc1 := 56) (as := [(.inr (.inr (some 5))), (.inl 93)]) (S0 := []) (m := 2) (L0 := [some (.inr (.inr (some 5))), some (.inl 93)]) rfl rfl rfl rfl rfl rfl rfl rfl (zrc_o rfl rfl) (by omega) (by omega) (z_Pa_expect_ok N (by omega) (by omega) 93 (zlit rfl) A14) (fun A15 _ => ?_)
    refine js_aload (pc1 := 57) rfl rfl rfl ?_
    refine js_aload (pc1 := 58) rfl rfl rfl ?_
    refine js_cI (pc1 := 61) (as := [(.inr (.inr (some 5))), (.inr (.inr (some x1)))]) (S0 := []) (m := 3) (L0 := [some (.inr (.inr (some 5))), some (.inr (.inr (some x1))), none]) rfl rfl rfl rfl rfl rfl rfl rfl (zrc_o rfl rfl) (by omega) (by omega) (z_Pa_fresh_ok N (by omega) (by omega) x1 hx1 A15) (fun v16 A17 _ hv16 => ?_)
    refine js_istore (pc1 := 63) (L1 := [some (.inr (.inr (some 5))), some (.inr (.inr (some x1))), some (.inl x2), some (.inl x3), some (.inl v13), some (.inl v16), none, none]) rfl rfl rfl rfl ?_
    refine js_aload (pc1 := 64) rfl rfl rfl ?_
    refine js_iconst (pc1 := 65) rfl rfl ?_
    refine js_iload (pc1 := 67) rfl rfl rfl ?_
    refine js_iload (pc1 := 69) rfl rfl rfl ?_
    refine js_cV (pc1 := 72) (as := [(.inr (.inr (some x1))), (.inl 3), (.inl v16), (.inl v13)]) (S0 := []) (m := 5) (L0 := [some (.inr (.inr (some x1))), some (.inl 3), some (.inl v16), some (.inl v13), none]) rfl rfl rfl rfl rfl rfl rfl rfl (zrc_o rfl hx1) (by omega) (by omega) (z_Pt_add_ok N (by omega) (by omega) x1 hx1 3 (zlit rfl) v16 hv16 v13 hv13 A17) (fun A18 _ => ?_)
    refine js_iload (pc1 := 74) rfl rfl rfl ?_
    exact je_I rfl (zfit0 _ rfl) rfl hv16
  refine js_lswd (t1 := 115) rfl hx2 (by simp; omega) rfl ?_
  refine js_aload (pc1 := 116) rfl rfl rfl ?_
  refine js_iconst (pc1 := 117) rfl rfl ?_
  refine jt_pbl (pc1 := 120) (j := 3) rfl rfl rfl rfl rfl (Or.inr rfl) (fun A20 => ?_)
  refine js_iconst (pc1 := 121) rfl rfl ?_
  exact je_I rfl (zfit0 _ rfl) rfl (zlit rfl)
theorem z_Pa_factorR_65_ok{d w : Nat} {rec : Nat → Int → zA → Option (Int × zA)} {Dr Wr : Nat} (hrec : ∀ (d w : Nat), Dr ≤ d → Wr ≤ w → ∀ (x1 : Nat) (hx1 : zsh x1 = some (false, 3, 4)) (x2 : Int) (hx2 : zrg x2) (A : zA), zG (rec x1 x2 A) zPI d w 305 0 [some (.inr (.inr (some 5))), some (.inr (.inr (some x1))), some (.inl x2), none] [] A) (N : Nat) (hd : Dr + 9 ≤ d) (hw : Wr + 258 ≤ w) (x1 : Nat) (hx1 : zsh x1 = some (false, 3, 4)) (x2 : Int) (hx2 : zrg x2) (x3 : Int) (hx3 : zrg x3) (A : zA) : zG (z_Pa_factorR_65 rec N x1 x2 x3 A) zPI d w 305 65 [some (.inr (.inr (some 5))), some (.inr (.inr (some x1))), some (.inl x2), some (.inl x3)] [] A := by
  unfold z_Pa_factorR_65
  refine js_aload (pc1 := 66) rfl rfl rfl ?_
  refine js_gi (pc1 := 69) (j := 3) rfl rfl rfl rfl ?_
  refine ju_ne (pc1 := 72) (t1 := 77) (zi_rg _ _ _) rfl rfl rfl (fun c1 => ?_) (fun c1 => ?_)
  · refine js_iload (pc1 := 73) rfl rfl rfl ?_
    refine js_iconst (pc1 := 74) rfl rfl ?_
    refine jt_lt (pc1 := 77) (t1 := 84) hx2 (zlit rfl) rfl rfl rfl (fun c2 => ?_) (fun c2 => ?_)
    · refine js_aload (pc1 := 85) rfl rfl rfl ?_
      refine js_aload (pc1 := 86) rfl rfl rfl ?_
      refine js_iload (pc1 := 87) rfl rfl rfl ?_
      refine js_iload (pc1 := 88) rfl rfl rfl ?_
      refine js_iconst (pc1 := 89) rfl rfl ?_
      refine js_iadd (pc1 := 90) rfl rfl ?_
      refine js_cI (pc1 := 93) (as := [(.inr (.inr (some 5))), (.inr (.inr (some x1))), (.inl x3), (.inl (x2 + 1))]) (S0 := []) (m := 8) (L0 := [some (.inr (.inr (some 5))), some (.inr (.inr (some x1))), some (.inl x3), some (.inl (x2 + 1)), none, none, none, none]) rfl rfl rfl rfl rfl rfl rfl rfl (zrc_o rfl rfl) (by omega) (by omega) (zG_to (L := [some (.inr (.inr (some 5))), some (.inr (.inr (some x1))), some (.inl x3), some (.inl (zw (x2 + 1))), none, none, none, none]) (S := []) ⟨rfl, ⟨rfl, ⟨rfl, ⟨zval_w (x2 + 1), trivial⟩⟩⟩⟩ rfl (z_Pa_nested_ok hrec N (by omega) (by omega) x1 hx1 x3 hx3 (zw (x2 + 1)) (zw_rg (x2 + 1)) A)) (fun v3 A4 _ hv3 => ?_)
      exact je_I rfl (zfit0 _ rfl) rfl hv3
    · refine js_aload (pc1 := 78) rfl rfl rfl ?_
      refine js_iconst (pc1 := 79) rfl rfl ?_
      refine jt_pbl (pc1 := 82) (j := 3) rfl rfl rfl rfl rfl (Or.inr rfl) (fun A5 => ?_)
      refine js_iconst (pc1 := 83) rfl rfl ?_
      exact je_I rfl (zfit0 _ rfl) rfl (zlit rfl)
  · refine js_aload (pc1 := 78) rfl rfl rfl ?_
    refine js_iconst (pc1 := 79) rfl rfl ?_
    refine jt_pbl (pc1 := 82) (j := 3) rfl rfl rfl rfl rfl (Or.inr rfl) (fun A6 => ?_)
    refine js_iconst (pc1 := 83) rfl rfl ?_
    exact je_I rfl (zfit0 _ rfl) rfl (zlit rfl)
theorem z_Pa_factorR_27_ok{d w : Nat} {rec : Nat → Int → zA → Option (Int × zA)} {Dr Wr : Nat} (hrec : ∀ (d w : Nat), Dr ≤ d → Wr ≤ w → ∀ (x1 : Nat) (hx1 : zsh x1 = some (false, 3, 4)) (x2 : Int) (hx2 : zrg x2) (A : zA), zG (rec x1 x2 A) zPI d w 305 0 [some (.inr (.inr (some 5))), some (.inr (.inr (some x1))), some (.inl x2), none] [] A) (N : Nat) (hd : Dr + 9 ≤ d) (hw : Wr + 258 ≤ w) (x1 : Nat) (hx1 : zsh x1 = some (false, 3, 4)) (x2 : Int) (hx2 : zrg x2) (x3 : Int) (hx3 : zrg x3) (A : zA) : zG (z_Pa_factorR_27 rec N x1 x2 x3 A) zPI d w 305 27 [some (.inr (.inr (some 5))), some (.inr (.inr (some x1))), some (.inl x2), some (.inl x3)] [] A := by
  unfold z_Pa_factorR_27
  refine js_aload (pc1 := 28) rfl rfl rfl ?_
  refine js_dupR (pc1 := 29) rfl rfl ?_
  refine js_gi (pc1 := 32) (j := 2) rfl rfl rfl rfl ?_
  refine js_iconst (pc1 := 33) rfl rfl ?_
  refine js_iadd (pc1 := 34) rfl rfl ?_
  refine jt_pi (pc1 := 37) (j := 2) rfl rfl rfl rfl rfl (fun A1 => ?_)
  refine js_iload (pc1 := 38) rfl rfl rfl ?_
  refine js_cP (pc1 := 41) (as := [(.inl x3)]) (S0 := []) (m := 1) (L0 := [some (.inl x3)]) rfl rfl rfl rfl rfl rfl rfl rfl (zrc_s rfl) (by omega) (by omega) (z_Pa_isVariable_ok N (by omega) (by omega) x3 hx3 A1) (fun v2 _ hv2 => ?_)
  refine ju_eq (pc1 := 44) (t1 := 49) hv2 rfl rfl rfl (fun c3 => ?_) (fun c3 => ?_)
  · refine js_iload (pc1 := 50) rfl rfl rfl ?_
    refine js_iconst (pc1 := 52) rfl rfl ?_
    refine jt_ne (pc1 := 55) (t1 := 65) hx3 (zlit rfl) rfl rfl rfl (fun c4 => ?_) (fun c4 => ?_)
    · refine js_aload (pc1 := 56) rfl rfl rfl ?_
      refine js_gi (pc1 := 59) (j := 4) rfl rfl rfl rfl ?_
      refine ju_ne (pc1 := 62) (t1 := 65) (zi_rg _ _ _) rfl rfl rfl (fun c5 => ?_) (fun c5 => ?_)
      · refine js_iconst (pc1 := 64) rfl rfl ?_
        exact je_I rfl (zfit0 _ rfl) rfl (zlit rfl)
      · exact z_Pa_factorR_65_ok hrec N hd hw x1 hx1 x2 hx2 x3 hx3 A1
    · exact z_Pa_factorR_65_ok hrec N hd hw x1 hx1 x2 hx2 x3 hx3 A1
  · refine js_iload (pc1 := 45) rfl rfl rfl ?_
    refine js_iconst (pc1 := 47) rfl rfl ?_
    refine js_isub (pc1 := 48) rfl rfl ?_
    exact je_I rfl (zfit0 _ rfl) (zval_w (x3 - 97)) (zw_rg (x3 - 97))
