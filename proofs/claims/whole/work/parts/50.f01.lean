theorem z_Pa_factorR_ok{d w : Nat} {rec : Nat → Int → zA → Option (Int × zA)} {Dr Wr : Nat} (hrec : ∀ (d w : Nat), Dr ≤ d → Wr ≤ w → ∀ (x1 : Nat) (hx1 : zsh x1 = some (false, 3, 4)) (x2 : Int) (hx2 : zrg x2) (A : zA), zG (rec x1 x2 A) zPI d w 305 0 [some (.inr (.inr (some 5))), some (.inr (.inr (some x1))), some (.inl x2), none] [] A) (N : Nat) (hd : Dr + 9 ≤ d) (hw : Wr + 258 ≤ w) (x1 : Nat) (hx1 : zsh x1 = some (false, 3, 4)) (x2 : Int) (hx2 : zrg x2) (A : zA) : zG (z_Pa_factorR rec N x1 x2 A) zPI d w 305 0 [some (.inr (.inr (some 5))), some (.inr (.inr (some x1))), some (.inl x2), none] [] A := by
  unfold z_Pa_factorR
  refine js_aload (pc1 := 1) rfl rfl rfl ?_
  refine js_cP (pc1 := 4) (as := [(.inr (.inr (some 5)))]) (S0 := []) (m := 1) (L0 := [some (.inr (.inr (some 5)))]) rfl rfl rfl rfl rfl rfl rfl rfl (zrc_o rfl rfl) (by omega) (by omega) (z_Pa_peek_ok N (by omega) (by omega) A) (fun v1 _ hv1 => ?_)
  refine js_istore (pc1 := 5) (L1 := [some (.inr (.inr (some 5))), some (.inr (.inr (some x1))), some (.inl x2), some (.inl v1)]) rfl rfl rfl rfl ?_
  refine js_iload (pc1 := 6) rfl rfl rfl ?_
  refine js_iconst (pc1 := 8) rfl rfl ?_
  refine jt_lt (pc1 := 11) (t1 := 27) hv1 (zlit rfl) rfl rfl rfl (fun c2 => ?_) (fun c2 => ?_)
  · exact z_Pa_factorR_27_ok hrec N hd hw x1 hx1 x2 hx2 v1 hv1 A
  · refine js_iload (pc1 := 12) rfl rfl rfl ?_
    refine js_iconst (pc1 := 14) rfl rfl ?_
    refine jt_gt (pc1 := 17) (t1 := 27) hv1 (zlit rfl) rfl rfl rfl (fun c3 => ?_) (fun c3 => ?_)
    · exact z_Pa_factorR_27_ok hrec N hd hw x1 hx1 x2 hx2 v1 hv1 A
    · refine js_aload (pc1 := 18) rfl rfl rfl ?_
      refine js_aload (pc1 := 19) rfl rfl rfl ?_
      refine js_aload (pc1 := 20) rfl rfl rfl ?_
      refine js_cI (pc1 := 23) (as := [(.inr (.inr (some 5)))]) (S0 := [(.inr (.inr (some x1))), (.inr (.inr (some 5)))]) (m := 3) (L0 := [some (.inr (.inr (some 5))), none, none]) rfl rfl rfl rfl rfl rfl rfl rfl (zrc_o rfl rfl) (by omega) (by omega) (z_Pa_digits_ok N (by omega) (by omega) A) (fun v4 A5 _ hv4 => ?_)
      refine js_cI (pc1 := 26) (as := [(.inr (.inr (some 5))), (.inr (.inr (some x1))), (.inl v4)]) (S0 := []) (m := 4) (L0 := [some (.inr (.inr (some 5))), some (.inr (.inr (some x1))), some (.inl v4), none]) rfl rfl rfl rfl rfl rfl rfl rfl (zrc_o rfl rfl) (by omega) (by omega) (z_Pa_constant_ok N (by omega) (by omega) x1 hx1 v4 hv4 A5) (fun v6 A7 _ hv6 => ?_)
      exact je_I rfl (zfit0 _ rfl) rfl hv6
theorem z_Pa_factor_lok (N M : Nat) : ∀ (d w : Nat), M * 9 ≤ d → M * 258 ≤ w → ∀ (x1 : Nat) (hx1 : zsh x1 = some (false, 3, 4)) (x2 : Int) (hx2 : zrg x2) (A : zA), zG (z_Pa_factor_l N M x1 x2 A) zPI d w 305 0 [some (.inr (.inr (some 5))), some (.inr (.inr (some x1))), some (.inl x2), none] [] A := by
  induction M with
  | zero => intros; exact zG_none
  | succ M ih =>
    intro d w hd hw x1 hx1 x2 hx2 A
    exact z_Pa_factorR_ok (Dr := M * 9) (Wr := M * 258) ih N (by omega) (by omega) x1 hx1 x2 hx2 A
theorem z_Pa_factor_rec (N : Nat) : ∀ (d w : Nat), 72 ≤ d → 2064 ≤ w → ∀ (x1 : Nat) (hx1 : zsh x1 = some (false, 3, 4)) (x2 : Int) (hx2 : zrg x2) (A : zA), zG (z_Pa_factor N x1 x2 A) zPI d w 305 0 [some (.inr (.inr (some 5))), some (.inr (.inr (some x1))), some (.inl x2), none] [] A := fun d w hd hw => z_Pa_factor_lok N 8 d w (by omega) (by omega)
theorem z_Pa_factor_ok {d w : Nat} (N : Nat) (hd : 72 ≤ d) (hw : 2064 ≤ w) (x1 : Nat) (hx1 : zsh x1 = some (false, 3, 4)) (x2 : Int) (hx2 : zrg x2) (A : zA) : zG (z_Pa_factor N x1 x2 A) zPI d w 305 0 [some (.inr (.inr (some 5))), some (.inr (.inr (some x1))), some (.inl x2), none] [] A := z_Pa_factor_rec N d w hd hw x1 hx1 x2 hx2 A
theorem z_Pa_store_ok{d w : Nat} (N : Nat) (hd : 80 ≤ d) (hw : 2295 ≤ w) (x1 : Nat) (hx1 : zsh x1 = some (false, 3, 4)) (A : zA) : zG (z_Pa_store N x1 A) zPV d w 216 0 [some (.inr (.inr (some 5))), some (.inr (.inr (some x1))), none, none] [] A := by
  unfold z_Pa_store
  refine js_aload (pc1 := 1) rfl rfl rfl ?_
  refine js_iconst (pc1 := 3) rfl rfl ?_
  refine js_cV (pc1 := 6) (as := [(.inr (.inr (some 5))), (.inl 91)]) (S0 := []) (m := 2) (L0 := [some (.inr (.inr (some 5))), some (.inl 91)]) rfl rfl rfl rfl rfl rfl rfl rfl (zrc_o rfl rfl) (by omega) (by omega) (z_Pa_expect_ok N (by omega) (by omega) 91 (zlit rfl) A) (fun A1 _ => ?_)
  refine js_aload (pc1 := 7) rfl rfl rfl ?_
  refine js_aload (pc1 := 8) rfl rfl rfl ?_
  refine js_iconst (pc1 := 9) rfl rfl ?_
  refine js_cI (pc1 := 12) (as := [(.inr (.inr (some 5))), (.inr (.inr (some x1))), (.inl 0)]) (S0 := []) (m := 5) (L0 := [some (.inr (.inr (some 5))), some (.inr (.inr (some x1))), some (.inl 0), none, none]) rfl rfl rfl rfl rfl rfl rfl rfl (zrc_o rfl rfl) (by omega) (by omega) (z_Pa_expression_ok (z_Pa_factor_rec N) N (by omega) (by omega) x1 hx1 0 (zlit rfl) A1) (fun v2 A3 _ hv2 => ?_)
  refine js_istore (pc1 := 13) (L1 := [some (.inr (.inr (some 5))), some (.inr (.inr (some x1))), some (.inl v2), none]) rfl rfl rfl rfl ?_
  refine js_aload (pc1 := 14) rfl rfl rfl ?_
  refine js_iconst (pc1 := 16) rfl rfl ?_
  refine js_cV (pc1 := 19) (as := [(.inr (.inr (some 5))), (.inl 93)]) (S0 := []) (m := 2) (L0 := [some (.inr (.inr (some 5))), some (.inl 93)]) rfl rfl rfl rfl rfl rfl rfl rfl (zrc_o rfl rfl) (by omega) (by omega) (z_Pa_expect_ok N (by omega) (by omega) 93 (zlit rfl) A3) (fun A4 _ => ?_)
  refine js_aload (pc1 := 20) rfl rfl rfl ?_
  refine js_iconst (pc1 := 22) rfl rfl ?_
  refine js_cV (pc1 := 25) (as := [(.inr (.inr (some 5))), (.inl 61)]) (S0 := []) (m := 2) (L0 := [some (.inr (.inr (some 5))), some (.inl 61)]) rfl rfl rfl rfl rfl rfl rfl rfl (zrc_o rfl rfl) (by omega) (by omega) (z_Pa_expect_ok N (by omega) (by omega) 61 (zlit rfl) A4) (fun A5 _ => ?_)
  refine js_aload (pc1 := 26) rfl rfl rfl ?_
  refine js_aload (pc1 := 27) rfl rfl rfl ?_
  refine js_iconst (pc1 := 28) rfl rfl ?_
  refine js_cI (pc1 := 31) (as := [(.inr (.inr (some 5))), (.inr (.inr (some x1))), (.inl 0)]) (S0 := []) (m := 5) (L0 := [some (.inr (.inr (some 5))), some (.inr (.inr (some x1))), some (.inl 0), none, none]) rfl rfl rfl rfl rfl rfl rfl rfl (zrc_o rfl rfl) (by omega) (by omega) (z_Pa_expression_ok (z_Pa_factor_rec N) N (by omega) (by omega) x1 hx1 0 (zlit rfl) A5) (fun v6 A7 _ hv6 => ?_)
  refine js_istore (pc1 := 32) (L1 := [some (.inr (.inr (some 5))), some (.inr (.inr (some x1))), some (.inl v2), some (.inl v6)]) rfl rfl rfl rfl ?_
  refine js_aload (pc1 := 33) rfl rfl rfl ?_
  refine js_iconst (pc1 := 35) rfl rfl ?_
  refine js_cV (pc1 := 38) (as := [(.inr (.inr (some 5))), (.inl 59)]) (S0 := []) (m := 2) (L0 := [some (.inr (.inr (some 5))), some (.inl 59)]) rfl rfl rfl rfl rfl rfl rfl rfl (zrc_o rfl rfl) (by omega) (by omega) (z_Pa_expect_ok N (by omega) (by omega) 59 (zlit rfl) A7) (fun A8 _ => ?_)
  refine js_aload (pc1 := 39) rfl rfl rfl ?_
  refine js_iconst (pc1 := 40) rfl rfl ?_
  refine js_iload (pc1 := 41) rfl rfl rfl ?_
  refine js_iload (pc1 := 42) rfl rfl rfl ?_
  refine js_cV (pc1 := 45) (as := [(.inr (.inr (some x1))), (.inl 4), (.inl v2), (.inl v6)]) (S0 := []) (m := 5) (L0 := [some (.inr (.inr (some x1))), some (.inl 4), some (.inl v2), some (.inl v6), none]) rfl rfl rfl rfl rfl rfl rfl rfl (zrc_o rfl hx1) (by omega) (by omega) (z_Pt_add_ok N (by omega) (by omega) x1 hx1 4 (zlit rfl) v2 hv2 v6 hv6 A8) (fun A9 _ => ?_)
  exact je_V rfl
theorem z_Pa_variable_ok{d w : Nat} (N : Nat) (hd : 2 ≤ d) (hw : 41 ≤ w) (A : zA) : zG (z_Pa_variable N A) zPI d w 219 0 [some (.inr (.inr (some 5))), none] [] A := by
  unfold z_Pa_variable
  refine js_aload (pc1 := 1) rfl rfl rfl ?_
  refine js_cP (pc1 := 4) (as := [(.inr (.inr (some 5)))]) (S0 := []) (m := 1) (L0 := [some (.inr (.inr (some 5)))]) rfl rfl rfl rfl rfl rfl rfl rfl (zrc_o rfl rfl) (by omega) (by omega) (z_Pa_peek_ok N (by omega) (by omega) A) (fun v1 _ hv1 => ?_)
  refine js_istore (pc1 := 5) (L1 := [some (.inr (.inr (some 5))), some (.inl v1)]) rfl rfl rfl rfl ?_
  refine js_aload (pc1 := 6) rfl rfl rfl ?_
  refine js_iload (pc1 := 7) rfl rfl rfl ?_
  refine js_cV (pc1 := 10) (as := [(.inr (.inr (some 5))), (.inl v1)]) (S0 := []) (m := 2) (L0 := [some (.inr (.inr (some 5))), some (.inl v1)]) rfl rfl rfl rfl rfl rfl rfl rfl (zrc_o rfl rfl) (by omega) (by omega) (z_Pa_expect_ok N (by omega) (by omega) v1 hv1 A) (fun A2 _ => ?_)
  refine js_iload (pc1 := 11) rfl rfl rfl ?_
  refine js_cP (pc1 := 14) (as := [(.inl v1)]) (S0 := []) (m := 1) (L0 := [some (.inl v1)]) rfl rfl rfl rfl rfl rfl rfl rfl (zrc_s rfl) (by omega) (by omega) (z_Pa_isVariable_ok N (by omega) (by omega) v1 hv1 A2) (fun v3 _ hv3 => ?_)
  refine ju_ne (pc1 := 17) (t1 := 22) hv3 rfl rfl rfl (fun c4 => ?_) (fun c4 => ?_)
  · refine js_aload (pc1 := 18) rfl rfl rfl ?_
    refine js_iconst (pc1 := 19) rfl rfl ?_
    refine jt_pbl (pc1 := 22) (j := 3) rfl rfl rfl rfl rfl (Or.inr rfl) (fun A5 => ?_)
    refine js_iload (pc1 := 23) rfl rfl rfl ?_
    refine js_iconst (pc1 := 25) rfl rfl ?_
    refine js_isub (pc1 := 26) rfl rfl ?_
    exact je_I rfl (zfit0 _ rfl) (zval_w (v1 - 97)) (zw_rg (v1 - 97))
  · refine js_iload (pc1 := 23) rfl rfl rfl ?_
    refine js_iconst (pc1 := 25) rfl rfl ?_
    refine js_isub (pc1 := 26) rfl rfl ?_
    exact je_I rfl (zfit0 _ rfl) (zval_w (v1 - 97)) (zw_rg (v1 - 97))
theorem z_Pa_call_13_ok{d w : Nat} (N : Nat) (hd : 80 ≤ d) (hw : 2295 ≤ w) (x1 : Nat) (hx1 : zsh x1 = some (false, 3, 4)) (x2 : Int) (hx2 : zrg x2) (A : zA) : zG (z_Pa_call_13 N x1 x2 A) zPV d w 222 13 [some (.inr (.inr (some 5))), some (.inr (.inr (some x1))), some (.inl x2), none] [] A := by
  unfold z_Pa_call_13
  refine js_aload (pc1 := 14) rfl rfl rfl ?_
  refine js_iconst (pc1 := 16) rfl rfl ?_
  refine js_cV (pc1 := 19) (as := [(.inr (.inr (some 5))), (.inl 40)]) (S0 := []) (m := 2) (L0 := [some (.inr (.inr (some 5))), some (.inl 40)]) rfl rfl rfl rfl rfl rfl rfl rfl (zrc_o rfl rfl) (by omega) (by omega) (z_Pa_expect_ok N (by omega) (by omega) 40 (zlit rfl) A) (fun A1 _ => ?_)
  refine js_aload (pc1 := 20) rfl rfl rfl ?_
  refine js_aload (pc1 := 21) rfl rfl rfl ?_
  refine js_iconst (pc1 := 22) rfl rfl ?_
  refine js_cI (pc1 := 25) (as := [(.inr (.inr (some 5))), (.inr (.inr (some x1))), (.inl 0)]) (S0 := []) (m := 5) (L0 := [some (.inr (.inr (some 5))), some (.inr (.inr (some x1))), some (.inl 0), none, none]) rfl rfl rfl rfl rfl rfl rfl rfl (zrc_o rfl rfl) (by omega) (by omega) (z_Pa_expression_ok (z_Pa_factor_rec N) N (by omega) (by omega) x1 hx1 0 (zlit rfl) A1) (fun v2 A3 _ hv2 => ?_)
  refine js_istore (pc1 := 26) (L1 := [some (.inr (.inr (some 5))), some (.inr (.inr (some x1))), some (.inl x2), some (.inl v2)]) rfl rfl rfl rfl ?_
  refine js_aload (pc1 := 27) rfl rfl rfl ?_
  refine js_iconst (pc1 := 29) rfl rfl ?_
  refine js_cV (pc1 := 32) (as := [(.inr (.inr (some 5))), (.inl 41)]) (S0 := []) (m := 2) (L0 := [some (.inr (.inr (some 5))), some (.inl 41)]) rfl rfl rfl rfl rfl rfl rfl rfl (zrc_o rfl rfl) (by omega) (by omega) (z_Pa_expect_ok N (by omega) (by omega) 41 (zlit rfl) A3) (fun A4 _ => ?_)
  refine js_aload (pc1 := 33) rfl rfl rfl ?_
  refine js_iconst (pc1 := 35) rfl rfl ?_
  refine js_cV (pc1 := 38) (as := [(.inr (.inr (some 5))), (.inl 59)]) (S0 := []) (m := 2) (L0 := [some (.inr (.inr (some 5))), some (.inl 59)]) rfl rfl rfl rfl rfl rfl rfl rfl (zrc_o rfl rfl) (by omega) (by omega) (z_Pa_expect_ok N (by omega) (by omega) 59 (zlit rfl) A4) (fun A5 _ => ?_)
  refine js_aload (pc1 := 39) rfl rfl rfl ?_
  refine js_iconst (pc1 := 41) rfl rfl ?_
  refine js_iload (pc1 := 42) rfl rfl rfl ?_
  refine js_iload (pc1 := 43) rfl rfl rfl ?_
  refine js_cV (pc1 := 46) (as := [(.inr (.inr (some x1))), (.inl 7), (.inl v2), (.inl x2)]) (S0 := []) (m := 5) (L0 := [some (.inr (.inr (some x1))), some (.inl 7), some (.inl v2), some (.inl x2), none]) rfl rfl rfl rfl rfl rfl rfl rfl (zrc_o rfl hx1) (by omega) (by omega) (z_Pt_add_ok N (by omega) (by omega) x1 hx1 7 (zlit rfl) v2 hv2 x2 hx2 A5) (fun A6 _ => ?_)
  exact je_V rfl
theorem z_Pa_call_ok{d w : Nat} (N : Nat) (hd : 80 ≤ d) (hw : 2295 ≤ w) (x1 : Nat) (hx1 : zsh x1 = some (false, 3, 4)) (x2 : Int) (hx2 : zrg x2) (A : zA) : zG (z_Pa_call N x1 x2 A) zPV d w 222 0 [some (.inr (.inr (some 5))), some (.inr (.inr (some x1))), some (.inl x2), none] [] A := by
  unfold z_Pa_call
  refine js_iload (pc1 := 1) rfl rfl rfl ?_
  refine js_aload (pc1 := 2) rfl rfl rfl ?_
  refine js_gi (pc1 := 5) (j := 5) rfl rfl rfl rfl ?_
  refine jt_lt (pc1 := 8) (t1 := 13) hx2 (zi_rg _ _ _) rfl rfl rfl (fun c1 => ?_) (fun c1 => ?_)
  · exact z_Pa_call_13_ok N hd hw x1 hx1 x2 hx2 A
  · refine js_aload (pc1 := 9) rfl rfl rfl ?_
    refine js_iconst (pc1 := 10) rfl rfl ?_
    refine jt_pbl (pc1 := 13) (j := 3) rfl rfl rfl rfl rfl (Or.inr rfl) (fun A2 => ?_)
    exact z_Pa_call_13_ok N hd hw x1 hx1 x2 hx2 A2
theorem z_Pa_assignment_12_ok{d w : Nat} (N : Nat) (hd : 80 ≤ d) (hw : 2295 ≤ w) (x1 : Nat) (hx1 : zsh x1 = some (false, 3, 4)) (x2 : Int) (hx2 : zrg x2) (A : zA) : zG (z_Pa_assignment_12 N x1 x2 A) zPV d w 223 12 [some (.inr (.inr (some 5))), some (.inr (.inr (some x1))), some (.inl x2)] [] A := by
  unfold z_Pa_assignment_12
  refine js_aload (pc1 := 13) rfl rfl rfl ?_
  refine js_iconst (pc1 := 15) rfl rfl ?_
  refine js_cV (pc1 := 18) (as := [(.inr (.inr (some 5))), (.inl 61)]) (S0 := []) (m := 2) (L0 := [some (.inr (.inr (some 5))), some (.inl 61)]) rfl rfl rfl rfl rfl rfl rfl rfl (zrc_o rfl rfl) (by omega) (by omega) (z_Pa_expect_ok N (by omega) (by omega) 61 (zlit rfl) A) (fun A1 _ => ?_)
  refine js_aload (pc1 := 19) rfl rfl rfl ?_
  refine js_iconst (pc1 := 20) rfl rfl ?_
  refine js_iload (pc1 := 21) rfl rfl rfl ?_
  refine js_iconst (pc1 := 23) rfl rfl ?_
  refine js_isub (pc1 := 24) rfl rfl ?_
  refine js_aload (pc1 := 25) rfl rfl rfl ?_
  refine js_aload (pc1 := 26) rfl rfl rfl ?_
  refine js_iconst (pc1 := 27) rfl rfl ?_
  refine js_cI (pc1 := 30) (as := [(.inr (.inr (some 5))), (.inr (.inr (some x1))), (.inl 0)]) (S0 := [(.inl (x2 - 97)), (.inl 1), (.inr (.inr (some x1)))]) (m := 5) (L0 := [some (.inr (.inr (some 5))), some (.inr (.inr (some x1))), some (.inl 0), none, none]) rfl rfl rfl rfl rfl rfl rfl rfl (zrc_o rfl rfl) (by omega) (by omega) (z_Pa_expression_ok (z_Pa_factor_rec N) N (by omega) (by omega) x1 hx1 0 (zlit rfl) A1) (fun v2 A3 _ hv2 => ?_)
  refine js_cV (pc1 := 33) (as := [(.inr (.inr (some x1))), (.inl 1), (.inl (x2 - 97)), (.inl v2)]) (S0 := []) (m := 5) (L0 := [some (.inr (.inr (some x1))), some (.inl 1), some (.inl (x2 - 97)), some (.inl v2), none]) rfl rfl rfl rfl rfl rfl rfl rfl (zrc_o rfl hx1) (by omega) (by omega) (zG_to (L := [some (.inr (.inr (some x1))), some (.inl 1), some (.inl (zw (x2 - 97))), some (.inl v2), none]) (S := []) ⟨rfl, ⟨rfl, ⟨zval_w (x2 - 97), ⟨rfl, trivial⟩⟩⟩⟩ rfl (z_Pt_add_ok N (by omega) (by omega) x1 hx1 1 (zlit rfl) (zw (x2 - 97)) (zw_rg (x2 - 97)) v2 hv2 A3)) (fun A4 _ => ?_)
  refine js_aload (pc1 := 34) rfl rfl rfl ?_
  refine js_iconst (pc1 := 36) rfl rfl ?_
  refine js_cV (pc1 := 39) (as := [(.inr (.inr (some 5))), (.inl 59)]) (S0 := []) (m := 2) (L0 := [some (.inr (.inr (some 5))), some (.inl 59)]) rfl rfl rfl rfl rfl rfl rfl rfl (zrc_o rfl rfl) (by omega) (by omega) (z_Pa_expect_ok N (by omega) (by omega) 59 (zlit rfl) A4) (fun A5 _ => ?_)
  exact je_V rfl
theorem z_Pa_assignment_ok{d w : Nat} (N : Nat) (hd : 80 ≤ d) (hw : 2295 ≤ w) (x1 : Nat) (hx1 : zsh x1 = some (false, 3, 4)) (x2 : Int) (hx2 : zrg x2) (A : zA) : zG (z_Pa_assignment N x1 x2 A) zPV d w 223 0 [some (.inr (.inr (some 5))), some (.inr (.inr (some x1))), some (.inl x2)] [] A := by
  unfold z_Pa_assignment
  refine js_iload (pc1 := 1) rfl rfl rfl ?_
  refine js_cP (pc1 := 4) (as := [(.inl x2)]) (S0 := []) (m := 1) (L0 := [some (.inl x2)]) rfl rfl rfl rfl rfl rfl rfl rfl (zrc_s rfl) (by omega) (by omega) (z_Pa_isVariable_ok N (by omega) (by omega) x2 hx2 A) (fun v1 _ hv1 => ?_)
  refine ju_ne (pc1 := 7) (t1 := 12) hv1 rfl rfl rfl (fun c2 => ?_) (fun c2 => ?_)
  · refine js_aload (pc1 := 8) rfl rfl rfl ?_
    refine js_iconst (pc1 := 9) rfl rfl ?_
    refine jt_pbl (pc1 := 12) (j := 3) rfl rfl rfl rfl rfl (Or.inr rfl) (fun A3 => ?_)
    exact z_Pa_assignment_12_ok N hd hw x1 hx1 x2 hx2 A3
  · exact z_Pa_assignment_12_ok N hd hw x1 hx1 x2 hx2 A
theorem z_Pa_statements_2_bok{d w : Nat} {rec : Nat → Int → zA → Option zA} {Dr Wr : Nat} (hrec : ∀ (d w : Nat), Dr ≤ d → Wr ≤ w → ∀ (x1 : Nat) (hx1 : zsh x1 = some (false, 3, 4)) (x2 : Int) (hx2 : zrg x2) (A : zA), zG (rec x1 x2 A) zPV d w 160 0 [some (.inr (.inr (some 5))), some (.inr (.inr (some x1))), some (.inl x2), none] [] A) {r2 : Nat → Int → Int → zA → Option zA} (hr2 : ∀ (x1 : Nat) (hx1 : zsh x1 = some (false, 3, 4)) (x2 : Int) (hx2 : zrg x2) (x3 : Int) (hx3 : zrg x3) (A : zA), zG (r2 x1 x2 x3 A) zPV d w 130 2 [some (.inr (.inr (some 5))), some (.inr (.inr (some x1))), some (.inl x2), some (.inl x3)] [] A) (N : Nat) (hd : Dr + 1 ≤ d) (hw : Wr + 23 ≤ w) (x1 : Nat) (hx1 : zsh x1 = some (false, 3, 4)) (x2 : Int) (hx2 : zrg x2) (x3 : Int) (hx3 : zrg x3) (A : zA) : zG (z_Pa_statements_2_b rec r2 N x1 x2 x3 A) zPV d w 130 2 [some (.inr (.inr (some 5))), some (.inr (.inr (some x1))), some (.inl x2), some (.inl x3)] [] A := by
  unfold z_Pa_statements_2_b
  refine js_iload (pc1 := 3) rfl rfl rfl ?_
  refine js_iconst (pc1 := 5) rfl rfl ?_
  refine jt_ge (pc1 := 8) (t1 := 47) hx3 (zlit rfl) rfl rfl rfl (fun c1 => ?_) (fun c1 => ?_)
  · refine js_aload (pc1 := 9) rfl rfl rfl ?_
    refine js_gi (pc1 := 12) (j := 3) rfl rfl rfl rfl ?_
    refine ju_ne (pc1 := 15) (t1 := 47) (zi_rg _ _ _) rfl rfl rfl (fun c2 => ?_) (fun c2 => ?_)
    · refine js_aload (pc1 := 16) rfl rfl rfl ?_
      refine js_gi (pc1 := 19) (j := 2) rfl rfl rfl rfl ?_
      refine js_aload (pc1 := 20) rfl rfl rfl ?_
      refine js_gi (pc1 := 23) (j := 1) rfl rfl rfl rfl ?_
      refine jt_ge (pc1 := 26) (t1 := 47) (zi_rg _ _ _) (zi_rg _ _ _) rfl rfl rfl (fun c3 => ?_) (fun c3 => ?_)
      · refine js_aload (pc1 := 27) rfl rfl rfl ?_
        refine js_cP (pc1 := 30) (as := [(.inr (.inr (some 5)))]) (S0 := []) (m := 1) (L0 := [some (.inr (.inr (some 5)))]) rfl rfl rfl rfl rfl rfl rfl rfl (zrc_o rfl rfl) (by omega) (by omega) (z_Pa_peek_ok N (by omega) (by omega) A) (fun v4 _ hv4 => ?_)
        refine js_iconst (pc1 := 32) rfl rfl ?_
        refine jt_eq (pc1 := 35) (t1 := 47) hv4 (zlit rfl) rfl rfl rfl (fun c5 => ?_) (fun c5 => ?_)
        · exact je_V rfl
        · refine js_aload (pc1 := 36) rfl rfl rfl ?_
          refine js_aload (pc1 := 37) rfl rfl rfl ?_
          refine js_iload (pc1 := 38) rfl rfl rfl ?_
          refine js_cV (pc1 := 41) (as := [(.inr (.inr (some 5))), (.inr (.inr (some x1))), (.inl x2)]) (S0 := []) (m := 4) (L0 := [some (.inr (.inr (some 5))), some (.inr (.inr (some x1))), some (.inl x2), none]) rfl rfl rfl rfl rfl rfl rfl rfl (zrc_o rfl rfl) (by omega) (by omega) (hrec _ _ (by omega) (by omega) x1 hx1 x2 hx2 A) (fun A6 _ => ?_)
          refine js_iinc (pc1 := 44) (L1 := [some (.inr (.inr (some 5))), some (.inr (.inr (some x1))), some (.inl x2), some (.inl (x3 + 1))]) rfl rfl rfl rfl ?_
          refine js_goto (t1 := 2) rfl rfl ?_
          exact zG_to (L := [some (.inr (.inr (some 5))), some (.inr (.inr (some x1))), some (.inl x2), some (.inl (zw (x3 + 1)))]) (S := []) ⟨rfl, ⟨rfl, ⟨rfl, ⟨zval_w (x3 + 1), trivial⟩⟩⟩⟩ (rfl) (hr2 x1 hx1 x2 hx2 (zw (x3 + 1)) (zw_rg (x3 + 1)) A6)
      · exact je_V rfl
    · exact je_V rfl
  · exact je_V rfl
theorem z_Pa_statements_2_lok{d w : Nat} {rec : Nat → Int → zA → Option zA} {Dr Wr : Nat} (hrec : ∀ (d w : Nat), Dr ≤ d → Wr ≤ w → ∀ (x1 : Nat) (hx1 : zsh x1 = some (false, 3, 4)) (x2 : Int) (hx2 : zrg x2) (A : zA), zG (rec x1 x2 A) zPV d w 160 0 [some (.inr (.inr (some 5))), some (.inr (.inr (some x1))), some (.inl x2), none] [] A) (N : Nat) (hd : Dr + 1 ≤ d) (hw : Wr + 23 ≤ w) (n : Nat) : ∀ (x1 : Nat) (hx1 : zsh x1 = some (false, 3, 4)) (x2 : Int) (hx2 : zrg x2) (x3 : Int) (hx3 : zrg x3) (A : zA), zG (z_Pa_statements_2_l rec N n x1 x2 x3 A) zPV d w 130 2 [some (.inr (.inr (some 5))), some (.inr (.inr (some x1))), some (.inl x2), some (.inl x3)] [] A := by
  induction n with
  | zero => intros; exact zG_none
  | succ n ih =>
    intro x1 hx1 x2 hx2 x3 hx3 A
    exact z_Pa_statements_2_bok hrec ih N hd hw x1 hx1 x2 hx2 x3 hx3 A
theorem z_Pa_statements_2_ok{d w : Nat} {rec : Nat → Int → zA → Option zA} {Dr Wr : Nat} (hrec : ∀ (d w : Nat), Dr ≤ d → Wr ≤ w → ∀ (x1 : Nat) (hx1 : zsh x1 = some (false, 3, 4)) (x2 : Int) (hx2 : zrg x2) (A : zA), zG (rec x1 x2 A) zPV d w 160 0 [some (.inr (.inr (some 5))), some (.inr (.inr (some x1))), some (.inl x2), none] [] A) (N : Nat) (hd : Dr + 1 ≤ d) (hw : Wr + 23 ≤ w) (x1 : Nat) (hx1 : zsh x1 = some (false, 3, 4)) (x2 : Int) (hx2 : zrg x2) (x3 : Int) (hx3 : zrg x3) (A : zA) : zG (z_Pa_statements_2 rec N x1 x2 x3 A) zPV d w 130 2 [some (.inr (.inr (some 5))), some (.inr (.inr (some x1))), some (.inl x2), some (.inl x3)] [] A := z_Pa_statements_2_lok hrec N hd hw N x1 hx1 x2 hx2 x3 hx3 A
theorem z_Pa_statements_ok{d w : Nat} {rec : Nat → Int → zA → Option zA} {Dr Wr : Nat} (hrec : ∀ (d w : Nat), Dr ≤ d → Wr ≤ w → ∀ (x1 : Nat) (hx1 : zsh x1 = some (false, 3, 4)) (x2 : Int) (hx2 : zrg x2) (A : zA), zG (rec x1 x2 A) zPV d w 160 0 [some (.inr (.inr (some 5))), some (.inr (.inr (some x1))), some (.inl x2), none] [] A) (N : Nat) (hd : Dr + 1 ≤ d) (hw : Wr + 23 ≤ w) (x1 : Nat) (hx1 : zsh x1 = some (false, 3, 4)) (x2 : Int) (hx2 : zrg x2) (A : zA) : zG (z_Pa_statements rec N x1 x2 A) zPV d w 130 0 [some (.inr (.inr (some 5))), some (.inr (.inr (some x1))), some (.inl x2), none] [] A := by
  unfold z_Pa_statements
  refine js_iconst (pc1 := 1) rfl rfl ?_
  refine js_istore (pc1 := 2) (L1 := [some (.inr (.inr (some 5))), some (.inr (.inr (some x1))), some (.inl x2), some (.inl 0)]) rfl rfl rfl rfl ?_
  exact z_Pa_statements_2_ok hrec N hd hw x1 hx1 x2 hx2 0 (zlit rfl) A
theorem z_Pa_block_ok{d w : Nat} {rec : Nat → Int → zA → Option zA} {Dr Wr : Nat} (hrec : ∀ (d w : Nat), Dr ≤ d → Wr ≤ w → ∀ (x1 : Nat) (hx1 : zsh x1 = some (false, 3, 4)) (x2 : Int) (hx2 : zrg x2) (A : zA), zG (rec x1 x2 A) zPV d w 160 0 [some (.inr (.inr (some 5))), some (.inr (.inr (some x1))), some (.inl x2), none] [] A) (N : Nat) (hd : Dr + 2 ≤ d) (hw : Wr + 46 ≤ w) (x1 : Nat) (hx1 : zsh x1 = some (false, 3, 4)) (x2 : Int) (hx2 : zrg x2) (A : zA) : zG (z_Pa_block rec N x1 x2 A) zPV d w 129 0 [some (.inr (.inr (some 5))), some (.inr (.inr (some x1))), some (.inl x2)] [] A := by
  unfold z_Pa_block
  refine js_iload (pc1 := 1) rfl rfl rfl ?_
  refine js_iconst (pc1 := 2) rfl rfl ?_
  refine jt_le (pc1 := 5) (t1 := 11) hx2 (zlit rfl) rfl rfl rfl (fun c1 => ?_) (fun c1 => ?_)
  · refine js_aload (pc1 := 6) rfl rfl rfl ?_
    refine js_iconst (pc1 := 7) rfl rfl ?_
    refine jt_pbl (pc1 := 10) (j := 3) rfl rfl rfl rfl rfl (Or.inr rfl) (fun A2 => ?_)
    exact je_V rfl
  · refine js_aload (pc1 := 12) rfl rfl rfl ?_
    refine js_iconst (pc1 := 14) rfl rfl ?_
    refine js_cV (pc1 := 17) (as := [(.inr (.inr (some 5))), (.inl 123)]) (S0 := []) (m := 2) (L0 := [some (.inr (.inr (some 5))), some (.inl 123)]) rfl rfl rfl rfl rfl rfl rfl rfl (zrc_o rfl rfl) (by omega) (by omega) (z_Pa_expect_ok N (by omega) (by omega) 123 (zlit rfl) A) (fun A3 _ => ?_)
    refine js_aload (pc1 := 18) rfl rfl rfl ?_
    refine js_aload (pc1 := 19) rfl rfl rfl ?_
    refine js_iload (pc1 := 20) rfl rfl rfl ?_
    refine js_cV (pc1 := 23) (as := [(.inr (.inr (some 5))), (.inr (.inr (some x1))), (.inl x2)]) (S0 := []) (m := 4) (L0 := [some (.inr (.inr (some 5))), some (.inr (.inr (some x1))), some (.inl x2), none]) rfl rfl rfl rfl rfl rfl rfl rfl (zrc_o rfl rfl) (by omega) (by omega) (z_Pa_statements_ok hrec N (by omega) (by omega) x1 hx1 x2 hx2 A3) (fun A4 _ => ?_)
    refine js_aload (pc1 := 24) rfl rfl rfl ?_
    refine js_iconst (pc1 := 26) rfl rfl ?_
    refine js_cV (pc1 := 29) (as := [(.inr (.inr (some 5))), (.inl 125)]) (S0 := []) (m := 2) (L0 := [some (.inr (.inr (some 5))), some (.inl 125)]) rfl rfl rfl rfl rfl rfl rfl rfl (zrc_o rfl rfl) (by omega) (by omega) (z_Pa_expect_ok N (by omega) (by omega) 125 (zlit rfl) A4) (fun A5 _ => ?_)
    exact je_V rfl
theorem z_Pa_choice_ok{d w : Nat} {rec : Nat → Int → zA → Option zA} {Dr Wr : Nat} (hrec : ∀ (d w : Nat), Dr ≤ d → Wr ≤ w → ∀ (x1 : Nat) (hx1 : zsh x1 = some (false, 3, 4)) (x2 : Int) (hx2 : zrg x2) (A : zA), zG (rec x1 x2 A) zPV d w 160 0 [some (.inr (.inr (some 5))), some (.inr (.inr (some x1))), some (.inl x2), none] [] A) (N : Nat) (hd : Dr + 80 ≤ d) (hw : Wr + 2295 ≤ w) (x1 : Nat) (hx1 : zsh x1 = some (false, 3, 4)) (x2 : Int) (hx2 : zrg x2) (A : zA) : zG (z_Pa_choice rec N x1 x2 A) zPV d w 220 0 [some (.inr (.inr (some 5))), some (.inr (.inr (some x1))), some (.inl x2)] [] A := by
  unfold z_Pa_choice
  refine js_aload (pc1 := 1) rfl rfl rfl ?_
  refine js_iconst (pc1 := 3) rfl rfl ?_
  refine js_aload (pc1 := 4) rfl rfl rfl ?_
  refine js_aload (pc1 := 5) rfl rfl rfl ?_
  refine js_iconst (pc1 := 6) rfl rfl ?_
  refine js_cI (pc1 := 9) (as := [(.inr (.inr (some 5))), (.inr (.inr (some x1))), (.inl 0)]) (S0 := [(.inl 8), (.inr (.inr (some x1)))]) (m := 5) (L0 := [some (.inr (.inr (some 5))), some (.inr (.inr (some x1))), some (.inl 0), none, none]) rfl rfl rfl rfl rfl rfl rfl rfl (zrc_o rfl rfl) (by omega) (by omega) (z_Pa_expression_ok (z_Pa_factor_rec N) N (by omega) (by omega) x1 hx1 0 (zlit rfl) A) (fun v1 A2 _ hv1 => ?_)
  refine js_iconst (pc1 := 10) rfl rfl ?_
  refine js_cV (pc1 := 13) (as := [(.inr (.inr (some x1))), (.inl 8), (.inl v1), (.inl 0)]) (S0 := []) (m := 5) (L0 := [some (.inr (.inr (some x1))), some (.inl 8), some (.inl v1), some (.inl 0), none]) rfl rfl rfl rfl rfl rfl rfl rfl (zrc_o rfl hx1) (by omega) (by omega) (z_Pt_add_ok N (by omega) (by omega) x1 hx1 8 (zlit rfl) v1 hv1 0 (zlit rfl) A2) (fun A3 _ => ?_)
  refine js_aload (pc1 := 14) rfl rfl rfl ?_
  refine js_aload (pc1 := 15) rfl rfl rfl ?_
  refine js_iload (pc1 := 16) rfl rfl rfl ?_
  refine js_iconst (pc1 := 17) rfl rfl ?_
  refine js_iadd (pc1 := 18) rfl rfl ?_
  refine js_cV (pc1 := 21) (as := [(.inr (.inr (some 5))), (.inr (.inr (some x1))), (.inl (x2 + 1))]) (S0 := []) (m := 3) (L0 := [some (.inr (.inr (some 5))), some (.inr (.inr (some x1))), some (.inl (x2 + 1))]) rfl rfl rfl rfl rfl rfl rfl rfl (zrc_o rfl rfl) (by omega) (by omega) (zG_to (L := [some (.inr (.inr (some 5))), some (.inr (.inr (some x1))), some (.inl (zw (x2 + 1)))]) (S := []) ⟨rfl, ⟨rfl, ⟨zval_w (x2 + 1), trivial⟩⟩⟩ rfl (z_Pa_block_ok hrec N (by omega) (by omega) x1 hx1 (zw (x2 + 1)) (zw_rg (x2 + 1)) A3)) (fun A4 _ => ?_)
  refine js_aload (pc1 := 22) rfl rfl rfl ?_
  refine js_iconst (pc1 := 24) rfl rfl ?_
  refine js_iconst (pc1 := 25) rfl rfl ?_
  refine js_iconst (pc1 := 26) rfl rfl ?_
  refine js_cV (pc1 := 29) (as := [(.inr (.inr (some x1))), (.inl 9), (.inl 0), (.inl 0)]) (S0 := []) (m := 5) (L0 := [some (.inr (.inr (some x1))), some (.inl 9), some (.inl 0), some (.inl 0), none]) rfl rfl rfl rfl rfl rfl rfl rfl (zrc_o rfl hx1) (by omega) (by omega) (z_Pt_add_ok N (by omega) (by omega) x1 hx1 9 (zlit rfl) 0 (zlit rfl) 0 (zlit rfl) A4) (fun A5 _ => ?_)
  refine js_aload (pc1 := 30) rfl rfl rfl ?_
  refine js_aload (pc1 := 31) rfl rfl rfl ?_
  refine js_iload (pc1 := 32) rfl rfl rfl ?_
  refine js_iconst (pc1 := 33) rfl rfl ?_
  refine js_iadd (pc1 := 34) rfl rfl ?_
  refine js_cV (pc1 := 37) (as := [(.inr (.inr (some 5))), (.inr (.inr (some x1))), (.inl (x2 + 1))]) (S0 := []) (m := 3) (L0 := [some (.inr (.inr (some 5))), some (.inr (.inr (some x1))), some (.inl (x2 + 1))]) rfl rfl rfl rfl rfl rfl rfl rfl (zrc_o rfl rfl) (by omega) (by omega) (zG_to (L := [some (.inr (.inr (some 5))), some (.inr (.inr (some x1))), some (.inl (zw (x2 + 1)))]) (S := []) ⟨rfl, ⟨rfl, ⟨zval_w (x2 + 1), trivial⟩⟩⟩ rfl (z_Pa_block_ok hrec N (by omega) (by omega) x1 hx1 (zw (x2 + 1)) (zw_rg (x2 + 1)) A5)) (fun A6 _ => ?_)
  refine js_aload (pc1 := 38) rfl rfl rfl ?_
  refine js_iconst (pc1 := 40) rfl rfl ?_
  refine js_iconst (pc1 := 41) rfl rfl ?_
  refine js_iconst (pc1 := 42) rfl rfl ?_
  refine js_cV (pc1 := 45) (as := [(.inr (.inr (some x1))), (.inl 12), (.inl 0), (.inl 0)]) (S0 := []) (m := 5) (L0 := [some (.inr (.inr (some x1))), some (.inl 12), some (.inl 0), some (.inl 0), none]) rfl rfl rfl rfl rfl rfl rfl rfl (zrc_o rfl hx1) (by omega) (by omega) (z_Pt_add_ok N (by omega) (by omega) x1 hx1 12 (zlit rfl) 0 (zlit rfl) 0 (zlit rfl) A6) (fun A7 _ => ?_)
  exact je_V rfl
theorem z_Pa_loop_ok{d w : Nat} {rec : Nat → Int → zA → Option zA} {Dr Wr : Nat} (hrec : ∀ (d w : Nat), Dr ≤ d → Wr ≤ w → ∀ (x1 : Nat) (hx1 : zsh x1 = some (false, 3, 4)) (x2 : Int) (hx2 : zrg x2) (A : zA), zG (rec x1 x2 A) zPV d w 160 0 [some (.inr (.inr (some 5))), some (.inr (.inr (some x1))), some (.inl x2), none] [] A) (N : Nat) (hd : Dr + 80 ≤ d) (hw : Wr + 2295 ≤ w) (x1 : Nat) (hx1 : zsh x1 = some (false, 3, 4)) (x2 : Int) (hx2 : zrg x2) (A : zA) : zG (z_Pa_loop rec N x1 x2 A) zPV d w 221 0 [some (.inr (.inr (some 5))), some (.inr (.inr (some x1))), some (.inl x2)] [] A := by
  unfold z_Pa_loop
  refine js_aload (pc1 := 1) rfl rfl rfl ?_
  refine js_iconst (pc1 := 3) rfl rfl ?_
  refine js_iconst (pc1 := 4) rfl rfl ?_
  refine js_iconst (pc1 := 5) rfl rfl ?_
  refine js_cV (pc1 := 8) (as := [(.inr (.inr (some x1))), (.inl 10), (.inl 0), (.inl 0)]) (S0 := []) (m := 5) (L0 := [some (.inr (.inr (some x1))), some (.inl 10), some (.inl 0), some (.inl 0), none]) rfl rfl rfl rfl rfl rfl rfl rfl (zrc_o rfl hx1) (by omega) (by omega) (z_Pt_add_ok N (by omega) (by omega) x1 hx1 10 (zlit rfl) 0 (zlit rfl) 0 (zlit rfl) A) (fun A1 _ => ?_)
  refine js_aload (pc1 := 9) rfl rfl rfl ?_
  refine js_iconst (pc1 := 11) rfl rfl ?_
  refine js_aload (pc1 := 12) rfl rfl rfl ?_
  refine js_aload (pc1 := 13) rfl rfl rfl ?_
  refine js_iconst (pc1 := 14) rfl rfl ?_
  refine js_cI (pc1 := 17) (as := [(.inr (.inr (some 5))), (.inr (.inr (some x1))), (.inl 0)]) (S0 := [(.inl 11), (.inr (.inr (some x1)))]) (m := 5) (L0 := [some (.inr (.inr (some 5))), some (.inr (.inr (some x1))), some (.inl 0), none, none]) rfl rfl rfl rfl rfl rfl rfl rfl (zrc_o rfl rfl) (by omega) (by omega) (z_Pa_expression_ok (z_Pa_factor_rec N) N (by omega) (by omega) x1 hx1 0 (zlit rfl) A1) (fun v2 A3 _ hv2 => ?_)
  refine js_iconst (pc1 := 18) rfl rfl ?_
  refine js_cV (pc1 := 21) (as := [(.inr (.inr (some x1))), (.inl 11), (.inl v2), (.inl 0)]) (S0 := []) (m := 5) (L0 := [some (.inr (.inr (some x1))), some (.inl 11), some (.inl v2), some (.inl 0), none]) rfl rfl rfl rfl rfl rfl rfl rfl (zrc_o rfl hx1) (by omega) (by omega) (z_Pt_add_ok N (by omega) (by omega) x1 hx1 11 (zlit rfl) v2 hv2 0 (zlit rfl) A3) (fun A4 _ => ?_)
  refine js_aload (pc1 := 22) rfl rfl rfl ?_
  refine js_aload (pc1 := 23) rfl rfl rfl ?_
  refine js_iload (pc1 := 24) rfl rfl rfl ?_
  refine js_iconst (pc1 := 25) rfl rfl ?_
  refine js_iadd (pc1 := 26) rfl rfl ?_
  refine js_cV (pc1 := 29) (as := [(.inr (.inr (some 5))), (.inr (.inr (some x1))), (.inl (x2 + 1))]) (S0 := []) (m := 3) (L0 := [some (.inr (.inr (some 5))), some (.inr (.inr (some x1))), some (.inl (x2 + 1))]) rfl rfl rfl rfl rfl rfl rfl rfl (zrc_o rfl rfl) (by omega) (by omega) (zG_to (L := [some (.inr (.inr (some 5))), some (.inr (.inr (some x1))), some (.inl (zw (x2 + 1)))]) (S := []) ⟨rfl, ⟨rfl, ⟨zval_w (x2 + 1), trivial⟩⟩⟩ rfl (z_Pa_block_ok hrec N (by omega) (by omega) x1 hx1 (zw (x2 + 1)) (zw_rg (x2 + 1)) A4)) (fun A5 _ => ?_)
  refine js_aload (pc1 := 30) rfl rfl rfl ?_
  refine js_iconst (pc1 := 32) rfl rfl ?_
  refine js_iconst (pc1 := 33) rfl rfl ?_
  refine js_iconst (pc1 := 34) rfl rfl ?_
  refine js_cV (pc1 := 37) (as := [(.inr (.inr (some x1))), (.inl 12), (.inl 0), (.inl 0)]) (S0 := []) (m := 5) (L0 := [some (.inr (.inr (some x1))), some (.inl 12), some (.inl 0), some (.inl 0), none]) rfl rfl rfl rfl rfl rfl rfl rfl (zrc_o rfl hx1) (by omega) (by omega) (z_Pt_add_ok N (by omega) (by omega) x1 hx1 12 (zlit rfl) 0 (zlit rfl) 0 (zlit rfl) A5) (fun A6 _ => ?_)
  exact je_V rfl
theorem z_Pa_statementR_ok{d w : Nat} {rec : Nat → Int → zA → Option zA} {Dr Wr : Nat} (hrec : ∀ (d w : Nat), Dr ≤ d → Wr ≤ w → ∀ (x1 : Nat) (hx1 : zsh x1 = some (false, 3, 4)) (x2 : Int) (hx2 : zrg x2) (A : zA), zG (rec x1 x2 A) zPV d w 160 0 [some (.inr (.inr (some 5))), some (.inr (.inr (some x1))), some (.inl x2), none] [] A) (N : Nat) (hd : Dr + 81 ≤ d) (hw : Wr + 2318 ≤ w) (x1 : Nat) (hx1 : zsh x1 = some (false, 3, 4)) (x2 : Int) (hx2 : zrg x2) (A : zA) : zG (z_Pa_statementR rec N x1 x2 A) zPV d w 160 0 [some (.inr (.inr (some 5))), some (.inr (.inr (some x1))), some (.inl x2), none] [] A := by
  unfold z_Pa_statementR
  refine js_aload (pc1 := 1) rfl rfl rfl ?_
  refine js_cP (pc1 := 4) (as := [(.inr (.inr (some 5)))]) (S0 := []) (m := 1) (L0 := [some (.inr (.inr (some 5)))]) rfl rfl rfl rfl rfl rfl rfl rfl (zrc_o rfl rfl) (by omega) (by omega) (z_Pa_peek_ok N (by omega) (by omega) A) (fun v1 _ hv1 => ?_)
  refine js_istore (pc1 := 5) (L1 := [some (.inr (.inr (some 5))), some (.inr (.inr (some x1))), some (.inl x2), some (.inl v1)]) rfl rfl rfl rfl ?_
  refine js_aload (pc1 := 6) rfl rfl rfl ?_
  refine js_dupR (pc1 := 7) rfl rfl ?_
  refine js_gi (pc1 := 10) (j := 2) rfl rfl rfl rfl ?_
  refine js_iconst (pc1 := 11) rfl rfl ?_
  refine js_iadd (pc1 := 12) rfl rfl ?_
  refine jt_pi (pc1 := 15) (j := 2) rfl rfl rfl rfl rfl (fun A2 => ?_)
  refine js_iload (pc1 := 16) rfl rfl rfl ?_
  refine zG_ite (fun c7 => ?_) (fun c7 => ?_)
  · refine js_lsw (t1 := 100) rfl c7 (zlit rfl) (by decide) ?_
    refine js_aload (pc1 := 101) rfl rfl rfl ?_
    refine js_iconst (pc1 := 103) rfl rfl ?_
    refine js_aload (pc1 := 104) rfl rfl rfl ?_
    refine js_aload (pc1 := 105) rfl rfl rfl ?_
    refine js_iconst (pc1 := 106) rfl rfl ?_
    refine js_cI (pc1 := 109) (as := [(.inr (.inr (some 5))), (.inr (.inr (some x1))), (.inl 0)]) (S0 := [(.inl 6), (.inr (.inr (some x1)))]) (m := 5) (L0 := [some (.inr (.inr (some 5))), some (.inr (.inr (some x1))), some (.inl 0), none, none]) rfl rfl rfl rfl rfl rfl rfl rfl (zrc_o rfl rfl) (by omega) (by omega) (z_Pa_expression_ok (z_Pa_factor_rec N) N (by omega) (by omega) x1 hx1 0 (zlit rfl) A2) (fun v3 A4 _ hv3 => ?_)
    refine js_iconst (pc1 := 110) rfl rfl ?_
    refine js_cV (pc1 := 113) (as := [(.inr (.inr (some x1))), (.inl 6), (.inl v3), (.inl 0)]) (S0 := []) (m := 5) (L0 := [some (.inr (.inr (some x1))), some (.inl 6), some (.inl v3), some (.inl 0), none]) rfl rfl rfl rfl rfl rfl rfl rfl (zrc_o rfl hx1) (by omega) (by omega) (z_Pt_add_ok N (by omega) (by omega) x1 hx1 6 (zlit rfl) v3 hv3 0 (zlit rfl) A4) (fun A5 _ => ?_)
    refine js_aload (pc1 := 114) rfl rfl rfl ?_
    refine js_iconst (pc1 := 116) rfl rfl ?_
    refine js_cV (pc1 := 119) (as := [(.inr (.inr (some 5))), (.inl 59)]) (S0 := []) (m := 2) (L0 := [some (.inr (.inr (some 5))), some (.inl 59)]) rfl rfl rfl rfl rfl rfl rfl rfl (zrc_o rfl rfl) (by omega) (by omega) (z_Pa_expect_ok N (by omega) (by omega) 59 (zlit rfl) A5) (fun A6 _ => ?_)
    refine js_goto (t1 := 177) rfl rfl ?_
    exact je_V rfl
  refine zG_ite (fun c12 => ?_) (fun c12 => ?_)
  · refine js_lsw (t1 := 122) rfl c12 (zlit rfl) (by decide) ?_
    refine js_aload (pc1 := 123) rfl rfl rfl ?_
    refine js_iconst (pc1 := 124) rfl rfl ?_
    refine js_aload (pc1 := 125) rfl rfl rfl ?_
    refine js_cI (pc1 := 128) (as := [(.inr (.inr (some 5)))]) (S0 := [(.inl 5), (.inr (.inr (some x1)))]) (m := 2) (L0 := [some (.inr (.inr (some 5))), none]) rfl rfl rfl rfl rfl rfl rfl rfl (zrc_o rfl rfl) (by omega) (by omega) (z_Pa_variable_ok N (by omega) (by omega) A2) (fun v8 A9 _ hv8 => ?_)
    refine js_iconst (pc1 := 129) rfl rfl ?_
    refine js_cV (pc1 := 132) (as := [(.inr (.inr (some x1))), (.inl 5), (.inl v8), (.inl 0)]) (S0 := []) (m := 5) (L0 := [some (.inr (.inr (some x1))), some (.inl 5), some (.inl v8), some (.inl 0), none]) rfl rfl rfl rfl rfl rfl rfl rfl (zrc_o rfl hx1) (by omega) (by omega) (z_Pt_add_ok N (by omega) (by omega) x1 hx1 5 (zlit rfl) v8 hv8 0 (zlit rfl) A9) (fun A10 _ => ?_)
    refine js_aload (pc1 := 133) rfl rfl rfl ?_
    refine js_iconst (pc1 := 135) rfl rfl ?_
    refine js_cV (pc1 := 138) (as := [(.inr (.inr (some 5))), (.inl 59)]) (S0 := []) (m := 2) (L0 := [some (.inr (.inr (some 5))), some (.inl 59)]) rfl rfl rfl rfl rfl rfl rfl rfl (zrc_o rfl rfl) (by omega) (by omega) (z_Pa_expect_ok N (by omega) (by omega) 59 (zlit rfl) A10) (fun A11 _ => ?_)
    refine js_goto (t1 := 177) rfl rfl ?_
    exact je_V rfl
  refine zG_ite (fun c14 => ?_) (fun c14 => ?_)
  · refine js_lsw (t1 := 92) rfl c14 (zlit rfl) (by decide) ?_
    refine js_aload (pc1 := 93) rfl rfl rfl ?_
    refine js_aload (pc1 := 94) rfl rfl rfl ?_
    refine js_cV (pc1 := 97) (as := [(.inr (.inr (some 5))), (.inr (.inr (some x1)))]) (S0 := []) (m := 4) (L0 := [some (.inr (.inr (some 5))), some (.inr (.inr (some x1))), none, none]) rfl rfl rfl rfl rfl rfl rfl rfl (zrc_o rfl rfl) (by omega) (by omega) (z_Pa_store_ok N (by omega) (by omega) x1 hx1 A2) (fun A13 _ => ?_)
    refine js_goto (t1 := 177) rfl rfl ?_
    exact je_V rfl
  refine zG_ite (fun c16 => ?_) (fun c16 => ?_)
  · refine js_lsw (t1 := 141) rfl c16 (zlit rfl) (by decide) ?_
    refine js_aload (pc1 := 142) rfl rfl rfl ?_
    refine js_aload (pc1 := 143) rfl rfl rfl ?_
    refine js_iload (pc1 := 144) rfl rfl rfl ?_
    refine js_cV (pc1 := 147) (as := [(.inr (.inr (some 5))), (.inr (.inr (some x1))), (.inl x2)]) (S0 := []) (m := 3) (L0 := [some (.inr (.inr (some 5))), some (.inr (.inr (some x1))), some (.inl x2)]) rfl rfl rfl rfl rfl rfl rfl rfl (zrc_o rfl rfl) (by omega) (by omega) (z_Pa_choice_ok hrec N (by omega) (by omega) x1 hx1 x2 hx2 A2) (fun A15 _ => ?_)
    refine js_goto (t1 := 177) rfl rfl ?_
    exact je_V rfl
  refine zG_ite (fun c18 => ?_) (fun c18 => ?_)
  · refine js_lsw (t1 := 159) rfl c18 (zlit rfl) (by decide) ?_
    refine js_aload (pc1 := 160) rfl rfl rfl ?_
    refine js_aload (pc1 := 161) rfl rfl rfl ?_
    refine js_iload (pc1 := 162) rfl rfl rfl ?_
    refine js_iconst (pc1 := 164) rfl rfl ?_
    refine js_isub (pc1 := 165) rfl rfl ?_
    refine js_cV (pc1 := 168) (as := [(.inr (.inr (some 5))), (.inr (.inr (some x1))), (.inl (v1 - 80))]) (S0 := []) (m := 4) (L0 := [some (.inr (.inr (some 5))), some (.inr (.inr (some x1))), some (.inl (v1 - 80)), none]) rfl rfl rfl rfl rfl rfl rfl rfl (zrc_o rfl rfl) (by omega) (by omega) (zG_to (L := [some (.inr (.inr (some 5))), some (.inr (.inr (some x1))), some (.inl (zw (v1 - 80))), none]) (S := []) ⟨rfl, ⟨rfl, ⟨zval_w (v1 - 80), trivial⟩⟩⟩ rfl (z_Pa_call_ok N (by omega) (by omega) x1 hx1 (zw (v1 - 80)) (zw_rg (v1 - 80)) A2)) (fun A17 _ => ?_)
    refine js_goto (t1 := 177) rfl rfl ?_
    exact je_V rfl
  refine zG_ite (fun c20 => ?_) (fun c20 => ?_)
  · refine js_lsw (t1 := 159) rfl c20 (zlit rfl) (by decide) ?_
    refine js_aload (pc1 := 160) rfl rfl rfl ?_
    refine js_aload (pc1 := 161) rfl rfl rfl ?_
    refine js_iload (pc1 := 162) rfl rfl rfl ?_
    refine js_iconst (pc1 := 164) rfl rfl ?_
    refine js_isub (pc1 := 165) rfl rfl ?_
    refine js_cV (pc1 := 168) (as := [(.inr (.inr (some 5))), (.inr (.inr (some x1))), (.inl (v1 - 80))]) (S0 := []) (m := 4) (L0 := [some (.inr (.inr (some 5))), some (.inr (.inr (some x1))), some (.inl (v1 - 80)), none]) rfl rfl rfl rfl rfl rfl rfl rfl (zrc_o rfl rfl) (by omega) (by omega) (zG_to (L := [some (.inr (.inr (some 5))), some (.inr (.inr (some x1))), some (.inl (zw (v1 - 80))), none]) (S := []) ⟨rfl, ⟨rfl, ⟨zval_w (v1 - 80), trivial⟩⟩⟩ rfl (z_Pa_call_ok N (by omega) (by omega) x1 hx1 (zw (v1 - 80)) (zw_rg (v1 - 80)) A2)) (fun A19 _ => ?_)
    refine js_goto (t1 := 177) rfl rfl ?_
    exact je_V rfl
  refine zG_ite (fun c22 => ?_) (fun c22 => ?_)
  · refine js_lsw (t1 := 159) rfl c22 (zlit rfl) (by decide) ?_
    refine js_aload (pc1 := 160) rfl rfl rfl ?_
    refine js_aload (pc1 := 161) rfl rfl rfl ?_
    refine js_iload (pc1 := 162) rfl rfl rfl ?_
    refine js_iconst (pc1 := 164) rfl rfl ?_
    refine js_isub (pc1 := 165) rfl rfl ?_
    refine js_cV (pc1 := 168) (as := [(.inr (.inr (some 5))), (.inr (.inr (some x1))), (.inl (v1 - 80))]) (S0 := []) (m := 4) (L0 := [some (.inr (.inr (some 5))), some (.inr (.inr (some x1))), some (.inl (v1 - 80)), none]) rfl rfl rfl rfl rfl rfl rfl rfl (zrc_o rfl rfl) (by omega) (by omega) (zG_to (L := [some (.inr (.inr (some 5))), some (.inr (.inr (some x1))), some (.inl (zw (v1 - 80))), none]) (S := []) ⟨rfl, ⟨rfl, ⟨zval_w (v1 - 80), trivial⟩⟩⟩ rfl (z_Pa_call_ok N (by omega) (by omega) x1 hx1 (zw (v1 - 80)) (zw_rg (v1 - 80)) A2)) (fun A21 _ => ?_)
    refine js_goto (t1 := 177) rfl rfl ?_
    exact je_V rfl
  refine zG_ite (fun c24 => ?_) (fun c24 => ?_)
  · refine js_lsw (t1 := 150) rfl c24 (zlit rfl) (by decide) ?_
    refine js_aload (pc1 := 151) rfl rfl rfl ?_
    refine js_aload (pc1 := 152) rfl rfl rfl ?_
    refine js_iload (pc1 := 153) rfl rfl rfl ?_
    refine js_cV (pc1 := 156) (as := [(.inr (.inr (some 5))), (.inr (.inr (some x1))), (.inl x2)]) (S0 := []) (m := 3) (L0 := [some (.inr (.inr (some 5))), some (.inr (.inr (some x1))), some (.inl x2)]) rfl rfl rfl rfl rfl rfl rfl rfl (zrc_o rfl rfl) (by omega) (by omega) (z_Pa_loop_ok hrec N (by omega) (by omega) x1 hx1 x2 hx2 A2) (fun A23 _ => ?_)
    refine js_goto (t1 := 177) rfl rfl ?_
    exact je_V rfl
  refine js_lswd (t1 := 171) rfl hv1 (by simp; omega) rfl ?_
  refine js_aload (pc1 := 172) rfl rfl rfl ?_
  refine js_aload (pc1 := 173) rfl rfl rfl ?_
  refine js_iload (pc1 := 174) rfl rfl rfl ?_
  refine js_cV (pc1 := 177) (as := [(.inr (.inr (some 5))), (.inr (.inr (some x1))), (.inl v1)]) (S0 := []) (m := 3) (L0 := [some (.inr (.inr (some 5))), some (.inr (.inr (some x1))), some (.inl v1)]) rfl rfl rfl rfl rfl rfl rfl rfl (zrc_o rfl rfl) (by omega) (by omega) (z_Pa_assignment_ok N (by omega) (by omega) x1 hx1 v1 hv1 A2) (fun A25 _ => ?_)
  exact je_V rfl
theorem z_Pa_statement_lok (N M : Nat) : ∀ (d w : Nat), M * 81 ≤ d → M * 2318 ≤ w → ∀ (x1 : Nat) (hx1 : zsh x1 = some (false, 3, 4)) (x2 : Int) (hx2 : zrg x2) (A : zA), zG (z_Pa_statement_l N M x1 x2 A) zPV d w 160 0 [some (.inr (.inr (some 5))), some (.inr (.inr (some x1))), some (.inl x2), none] [] A := by
  induction M with
  | zero => intros; exact zG_none
  | succ M ih =>
    intro d w hd hw x1 hx1 x2 hx2 A
    exact z_Pa_statementR_ok (Dr := M * 81) (Wr := M * 2318) ih N (by omega) (by omega) x1 hx1 x2 hx2 A
theorem z_Pa_statement_rec (N : Nat) : ∀ (d w : Nat), 648 ≤ d → 18544 ≤ w → ∀ (x1 : Nat) (hx1 : zsh x1 = some (false, 3, 4)) (x2 : Int) (hx2 : zrg x2) (A : zA), zG (z_Pa_statement N x1 x2 A) zPV d w 160 0 [some (.inr (.inr (some 5))), some (.inr (.inr (some x1))), some (.inl x2), none] [] A := fun d w hd hw => z_Pa_statement_lok N 8 d w (by omega) (by omega)
theorem z_Pa_statement_ok {d w : Nat} (N : Nat) (hd : 648 ≤ d) (hw : 18544 ≤ w) (x1 : Nat) (hx1 : zsh x1 = some (false, 3, 4)) (x2 : Int) (hx2 : zrg x2) (A : zA) : zG (z_Pa_statement N x1 x2 A) zPV d w 160 0 [some (.inr (.inr (some 5))), some (.inr (.inr (some x1))), some (.inl x2), none] [] A := z_Pa_statement_rec N d w hd hw x1 hx1 x2 hx2 A
theorem z_Pt_kind_ok{d w : Nat} (N : Nat) (hd : 0 ≤ d) (hw : 0 ≤ w) (x0 : Nat) (hx0 : zsh x0 = some (false, 3, 4)) (x1 : Int) (hx1 : zrg x1) (A : zA) : zG (z_Pt_kind N x0 x1 A) (zPp A) d w 115 0 [some (.inr (.inr (some x0))), some (.inl x1)] [] A := by
  unfold z_Pt_kind
  refine js_iload (pc1 := 1) rfl rfl rfl ?_
  refine ju_lt (pc1 := 4) (t1 := 23) hx1 rfl rfl rfl (fun c1 => ?_) (fun c1 => ?_)
  · refine js_iconst (pc1 := 25) rfl rfl ?_
    exact je_P rfl (zfit0 _ rfl) rfl (zlit rfl)
  · refine js_iload (pc1 := 5) rfl rfl rfl ?_
    refine js_aload (pc1 := 6) rfl rfl rfl ?_
    refine js_gi (pc1 := 9) (j := 2) rfl rfl hx0 rfl ?_
    refine jt_ge (pc1 := 12) (t1 := 23) hx1 (zi_rg _ _ _) rfl rfl rfl (fun c2 => ?_) (fun c2 => ?_)
    · refine js_aload (pc1 := 13) rfl rfl rfl ?_
      refine jt_gr (pc1 := 16) (j := 0) rfl rfl hx0 rfl (fun p3 => ?_)
      refine js_iload (pc1 := 17) rfl rfl rfl ?_
      refine js_iconst (pc1 := 18) rfl rfl ?_
      refine js_imul (pc1 := 19) rfl rfl ?_
      refine jt_aldD (pc1 := 20) rfl rfl (fun v4 hv4 => ?_)
      refine js_goto (t1 := 25) rfl rfl ?_
      exact je_P rfl (zfit0 _ rfl) rfl hv4
    · refine js_iconst (pc1 := 25) rfl rfl ?_
      exact je_P rfl (zfit0 _ rfl) rfl (zlit rfl)
theorem z_Pt_has_ok{d w : Nat} (N : Nat) (hd : 0 ≤ d) (hw : 0 ≤ w) (x0 : Nat) (hx0 : zsh x0 = some (false, 3, 4)) (x1 : Int) (hx1 : zrg x1) (A : zA) : zG (z_Pt_has N x0 x1 A) (zPp A) d w 114 0 [some (.inr (.inr (some x0))), some (.inl x1)] [] A := by
  unfold z_Pt_has
  refine js_iload (pc1 := 1) rfl rfl rfl ?_
  refine ju_lt (pc1 := 4) (t1 := 16) hx1 rfl rfl rfl (fun c1 => ?_) (fun c1 => ?_)
  · refine js_iconst (pc1 := 17) rfl rfl ?_
    exact je_P rfl (zfit3 rfl (Or.inl rfl)) rfl (zlit rfl)
  · refine js_iload (pc1 := 5) rfl rfl rfl ?_
    refine js_aload (pc1 := 6) rfl rfl rfl ?_
    refine js_gi (pc1 := 9) (j := 2) rfl rfl hx0 rfl ?_
    refine jt_ge (pc1 := 12) (t1 := 16) hx1 (zi_rg _ _ _) rfl rfl rfl (fun c2 => ?_) (fun c2 => ?_)
    · refine js_iconst (pc1 := 13) rfl rfl ?_
      refine js_goto (t1 := 17) rfl rfl ?_
      exact je_P rfl (zfit3 rfl (Or.inr rfl)) rfl (zlit rfl)
    · refine js_iconst (pc1 := 17) rfl rfl ?_
      exact je_P rfl (zfit3 rfl (Or.inl rfl)) rfl (zlit rfl)
theorem z_Pt_link_30_ok{d w : Nat} {r4 : Nat → Int → Int → zA → Option zA} (hr4 : ∀ (x0 : Nat) (hx0 : zsh x0 = some (false, 3, 4)) (x1 : Int) (hx1 : zrg x1) (x2 : Int) (hx2 : zrg x2) (A : zA), zG (r4 x0 x1 x2 A) zPV d w 131 4 [some (.inr (.inr (some x0))), some (.inl x1), some (.inl x2), none, none, none] [] A) (N : Nat) (hd : 1 ≤ d) (hw : 21 ≤ w) (x0 : Nat) (hx0 : zsh x0 = some (false, 3, 4)) (x1 : Int) (hx1 : zrg x1) (x2 : Int) (hx2 : zrg x2) (A : zA) : zG (z_Pt_link_30 r4 N x0 x1 x2 A) zPV d w 131 30 [some (.inr (.inr (some x0))), some (.inl x1), some (.inl x2), none, none, none] [] A := by
  unfold z_Pt_link_30
  refine js_aload (pc1 := 31) rfl rfl rfl ?_
  refine jt_gr (pc1 := 34) (j := 1) rfl rfl hx0 rfl (fun p1 => ?_)
  refine js_iload (pc1 := 35) rfl rfl rfl ?_
  refine js_iload (pc1 := 36) rfl rfl rfl ?_
  refine jt_iasD (pc1 := 37) rfl rfl (fun A2 => ?_)
  refine js_iload (pc1 := 38) rfl rfl rfl ?_
  refine js_istore (pc1 := 39) (L1 := [some (.inr (.inr (some x0))), some (.inl x2), some (.inl x2), none, none, none]) rfl rfl rfl rfl ?_
  refine js_goto (t1 := 155) rfl rfl ?_
  refine js_iinc (pc1 := 158) (L1 := [some (.inr (.inr (some x0))), some (.inl x2), some (.inl (x2 + 1)), none, none, none]) rfl rfl rfl rfl ?_
  refine js_goto (t1 := 4) rfl rfl ?_
  exact zG_to (L := [some (.inr (.inr (some x0))), some (.inl x2), some (.inl (zw (x2 + 1))), none, none, none]) (S := []) ⟨rfl, ⟨rfl, ⟨zval_w (x2 + 1), trivial⟩⟩⟩ (rfl) (hr4 x0 hx0 x2 hx2 (zw (x2 + 1)) (zw_rg (x2 + 1)) A2)
theorem z_Pt_link_62_ok{d w : Nat} {r4 : Nat → Int → Int → zA → Option zA} (hr4 : ∀ (x0 : Nat) (hx0 : zsh x0 = some (false, 3, 4)) (x1 : Int) (hx1 : zrg x1) (x2 : Int) (hx2 : zrg x2) (A : zA), zG (r4 x0 x1 x2 A) zPV d w 131 4 [some (.inr (.inr (some x0))), some (.inl x1), some (.inl x2), none, none, none] [] A) (N : Nat) (hd : 1 ≤ d) (hw : 21 ≤ w) (x0 : Nat) (hx0 : zsh x0 = some (false, 3, 4)) (x1 : Int) (hx1 : zrg x1) (x2 : Int) (hx2 : zrg x2) (A : zA) : zG (z_Pt_link_62 r4 N x0 x1 x2 A) zPV d w 131 62 [some (.inr (.inr (some x0))), some (.inl x1), some (.inl x2), none, none, none] [] A := by
  unfold z_Pt_link_62
  refine js_aload (pc1 := 63) rfl rfl rfl ?_
  refine jt_gr (pc1 := 66) (j := 1) rfl rfl hx0 rfl (fun p1 => ?_)
  refine js_iload (pc1 := 67) rfl rfl rfl ?_
  refine js_aload (pc1 := 68) rfl rfl rfl ?_
  refine jt_gr (pc1 := 71) (j := 1) rfl rfl hx0 rfl (fun p2 => ?_)
  refine js_iload (pc1 := 72) rfl rfl rfl ?_
  refine jt_aldD (pc1 := 73) rfl rfl (fun v3 hv3 => ?_)
  refine jt_iasD (pc1 := 74) rfl rfl (fun A4 => ?_)
  refine js_aload (pc1 := 75) rfl rfl rfl ?_
  refine jt_gr (pc1 := 78) (j := 1) rfl rfl hx0 rfl (fun p5 => ?_)
  refine js_iload (pc1 := 79) rfl rfl rfl ?_
  refine js_iload (pc1 := 80) rfl rfl rfl ?_
  refine jt_iasD (pc1 := 81) rfl rfl (fun A6 => ?_)
  refine js_goto (t1 := 155) rfl rfl ?_
  refine js_iinc (pc1 := 158) (L1 := [some (.inr (.inr (some x0))), some (.inl x1), some (.inl (x2 + 1)), none, none, none]) rfl rfl rfl rfl ?_
  refine js_goto (t1 := 4) rfl rfl ?_
  exact zG_to (L := [some (.inr (.inr (some x0))), some (.inl x1), some (.inl (zw (x2 + 1))), none, none, none]) (S := []) ⟨rfl, ⟨rfl, ⟨zval_w (x2 + 1), trivial⟩⟩⟩ (rfl) (hr4 x0 hx0 x1 hx1 (zw (x2 + 1)) (zw_rg (x2 + 1)) A6)
theorem z_Pt_link_145_ok{d w : Nat} {r4 : Nat → Int → Int → zA → Option zA} (hr4 : ∀ (x0 : Nat) (hx0 : zsh x0 = some (false, 3, 4)) (x1 : Int) (hx1 : zrg x1) (x2 : Int) (hx2 : zrg x2) (A : zA), zG (r4 x0 x1 x2 A) zPV d w 131 4 [some (.inr (.inr (some x0))), some (.inl x1), some (.inl x2), none, none, none] [] A) (N : Nat) (hd : 1 ≤ d) (hw : 21 ≤ w) (x0 : Nat) (hx0 : zsh x0 = some (false, 3, 4)) (x1 : Int) (hx1 : zrg x1) (x2 : Int) (hx2 : zrg x2) (x5 : Int) (hx5 : zrg x5) (A : zA) : zG (z_Pt_link_145 r4 N x0 x1 x2 x5 A) zPV d w 131 145 [some (.inr (.inr (some x0))), some (.inl x1), some (.inl x2), none, none, some (.inl x5)] [] A := by
  unfold z_Pt_link_145
  refine js_aload (pc1 := 146) rfl rfl rfl ?_
  refine jt_gr (pc1 := 149) (j := 1) rfl rfl hx0 rfl (fun p1 => ?_)
  refine js_iload (pc1 := 150) rfl rfl rfl ?_
  refine js_iload (pc1 := 151) rfl rfl rfl ?_
  refine jt_iasD (pc1 := 152) rfl rfl (fun A2 => ?_)
  refine js_iload (pc1 := 154) rfl rfl rfl ?_
  refine js_istore (pc1 := 155) (L1 := [some (.inr (.inr (some x0))), some (.inl x5), some (.inl x2), none, none, some (.inl x5)]) rfl rfl rfl rfl ?_
  refine js_iinc (pc1 := 158) (L1 := [some (.inr (.inr (some x0))), some (.inl x5), some (.inl (x2 + 1)), none, none, some (.inl x5)]) rfl rfl rfl rfl ?_
  refine js_goto (t1 := 4) rfl rfl ?_
  exact zG_to (L := [some (.inr (.inr (some x0))), some (.inl x5), some (.inl (zw (x2 + 1))), none, none, none]) (S := []) ⟨rfl, ⟨rfl, ⟨zval_w (x2 + 1), trivial⟩⟩⟩ (rfl) (hr4 x0 hx0 x5 hx5 (zw (x2 + 1)) (zw_rg (x2 + 1)) A2)
theorem z_Pt_link_126_ok{d w : Nat} {r4 : Nat → Int → Int → zA → Option zA} (hr4 : ∀ (x0 : Nat) (hx0 : zsh x0 = some (false, 3, 4)) (x1 : Int) (hx1 : zrg x1) (x2 : Int) (hx2 : zrg x2) (A : zA), zG (r4 x0 x1 x2 A) zPV d w 131 4 [some (.inr (.inr (some x0))), some (.inl x1), some (.inl x2), none, none, none] [] A) (N : Nat) (hd : 1 ≤ d) (hw : 21 ≤ w) (x0 : Nat) (hx0 : zsh x0 = some (false, 3, 4)) (x1 : Int) (hx1 : zrg x1) (x2 : Int) (hx2 : zrg x2) (x4 : Int) (hx4 : zrg x4) (s0 : Int) (hs0 : zrg s0) (A : zA) : zG (z_Pt_link_126 r4 N x0 x1 x2 x4 s0 A) zPV d w 131 126 [some (.inr (.inr (some x0))), some (.inl x1), some (.inl x2), none, some (.inl x4), none] [(.inl s0)] A := by
  unfold z_Pt_link_126
  refine js_istore (pc1 := 128) (L1 := [some (.inr (.inr (some x0))), some (.inl x1), some (.inl x2), none, some (.inl x4), some (.inl s0)]) rfl rfl rfl rfl ?_
  refine js_aload (pc1 := 129) rfl rfl rfl ?_
  refine js_iload (pc1 := 131) rfl rfl rfl ?_
  refine js_cP (pc1 := 134) (as := [(.inr (.inr (some x0))), (.inl x4)]) (S0 := []) (m := 2) (L0 := [some (.inr (.inr (some x0))), some (.inl x4)]) rfl rfl rfl rfl rfl rfl rfl rfl (zrc_o rfl hx0) (by omega) (by omega) (z_Pt_has_ok N (by omega) (by omega) x0 hx0 x4 hx4 A) (fun v1 _ hv1 => ?_)
  refine ju_eq (pc1 := 137) (t1 := 145) hv1 rfl rfl rfl (fun c2 => ?_) (fun c2 => ?_)
  · exact zG_to (L := [some (.inr (.inr (some x0))), some (.inl x1), some (.inl x2), none, none, some (.inl s0)]) (S := []) ⟨rfl, ⟨rfl, ⟨rfl, ⟨rfl, trivial⟩⟩⟩⟩ (rfl) (z_Pt_link_145_ok hr4 N hd hw x0 hx0 x1 hx1 x2 hx2 s0 hs0 A)
  · refine js_aload (pc1 := 138) rfl rfl rfl ?_
    refine jt_gr (pc1 := 141) (j := 1) rfl rfl hx0 rfl (fun p3 => ?_)
    refine js_iload (pc1 := 143) rfl rfl rfl ?_
    refine js_iload (pc1 := 144) rfl rfl rfl ?_
    refine jt_iasD (pc1 := 145) rfl rfl (fun A4 => ?_)
    exact zG_to (L := [some (.inr (.inr (some x0))), some (.inl x1), some (.inl x2), none, none, some (.inl s0)]) (S := []) ⟨rfl, ⟨rfl, ⟨rfl, ⟨rfl, trivial⟩⟩⟩⟩ (rfl) (z_Pt_link_145_ok hr4 N hd hw x0 hx0 x1 hx1 x2 hx2 s0 hs0 A4)
theorem z_Pt_link_84_ok{d w : Nat} {r4 : Nat → Int → Int → zA → Option zA} (hr4 : ∀ (x0 : Nat) (hx0 : zsh x0 = some (false, 3, 4)) (x1 : Int) (hx1 : zrg x1) (x2 : Int) (hx2 : zrg x2) (A : zA), zG (r4 x0 x1 x2 A) zPV d w 131 4 [some (.inr (.inr (some x0))), some (.inl x1), some (.inl x2), none, none, none] [] A) (N : Nat) (hd : 1 ≤ d) (hw : 21 ≤ w) (x0 : Nat) (hx0 : zsh x0 = some (false, 3, 4)) (x1 : Int) (hx1 : zrg x1) (x2 : Int) (hx2 : zrg x2) (x3 : Int) (hx3 : zrg x3) (A : zA) : zG (z_Pt_link_84 r4 N x0 x1 x2 x3 A) zPV d w 131 84 [some (.inr (.inr (some x0))), some (.inl x1), some (.inl x2), some (.inl x3), none, none] [] A := by
  unfold z_Pt_link_84
  refine js_aload (pc1 := 85) rfl rfl rfl ?_
  refine js_iload (pc1 := 86) rfl rfl rfl ?_
  refine js_cP (pc1 := 89) (as := [(.inr (.inr (some x0))), (.inl x1)]) (S0 := []) (m := 2) (L0 := [some (.inr (.inr (some x0))), some (.inl x1)]) rfl rfl rfl rfl rfl rfl rfl rfl (zrc_o rfl hx0) (by omega) (by omega) (z_Pt_has_ok N (by omega) (by omega) x0 hx0 x1 hx1 A) (fun v1 _ hv1 => ?_)
  refine ju_eq (pc1 := 92) (t1 := 155) hv1 rfl rfl rfl (fun c2 => ?_) (fun c2 => ?_)
  · refine js_iinc (pc1 := 158) (L1 := [some (.inr (.inr (some x0))), some (.inl x1), some (.inl (x2 + 1)), some (.inl x3), none, none]) rfl rfl rfl rfl ?_
    refine js_goto (t1 := 4) rfl rfl ?_
    exact zG_to (L := [some (.inr (.inr (some x0))), some (.inl x1), some (.inl (zw (x2 + 1))), none, none, none]) (S := []) ⟨rfl, ⟨rfl, ⟨zval_w (x2 + 1), trivial⟩⟩⟩ (rfl) (hr4 x0 hx0 x1 hx1 (zw (x2 + 1)) (zw_rg (x2 + 1)) A)
  · refine js_iload (pc1 := 93) rfl rfl rfl ?_
    refine js_iconst (pc1 := 95) rfl rfl ?_
    refine jt_ne (pc1 := 98) (t1 := 155) hx3 (zlit rfl) rfl rfl rfl (fun c3 => ?_) (fun c3 => ?_)
    · refine js_aload (pc1 := 99) rfl rfl rfl ?_
      refine jt_gr (pc1 := 102) (j := 1) rfl rfl hx0 rfl (fun p4 => ?_)
      refine js_iload (pc1 := 103) rfl rfl rfl ?_
      refine jt_aldD (pc1 := 104) rfl rfl (fun v5 hv5 => ?_)
      refine js_istore (pc1 := 106) (L1 := [some (.inr (.inr (some x0))), some (.inl x1), some (.inl x2), some (.inl x3), some (.inl v5), none]) rfl rfl rfl rfl ?_
      refine js_aload (pc1 := 107) rfl rfl rfl ?_
      refine js_iload (pc1 := 109) rfl rfl rfl ?_
      refine js_cP (pc1 := 112) (as := [(.inr (.inr (some x0))), (.inl v5)]) (S0 := []) (m := 2) (L0 := [some (.inr (.inr (some x0))), some (.inl v5)]) rfl rfl rfl rfl rfl rfl rfl rfl (zrc_o rfl hx0) (by omega) (by omega) (z_Pt_has_ok N (by omega) (by omega) x0 hx0 v5 hv5 A) (fun v6 _ hv6 => ?_)
      refine ju_eq (pc1 := 115) (t1 := 125) hv6 rfl rfl rfl (fun c7 => ?_) (fun c7 => ?_)
      · refine js_iconst (pc1 := 126) rfl rfl ?_
        exact zG_to (L := [some (.inr (.inr (some x0))), some (.inl x1), some (.inl x2), none, some (.inl v5), none]) (S := [(.inl (-1))]) ⟨rfl, ⟨rfl, ⟨rfl, ⟨rfl, trivial⟩⟩⟩⟩ (rfl) (z_Pt_link_126_ok hr4 N hd hw x0 hx0 x1 hx1 x2 hx2 v5 hv5 (-1) (zlit rfl) A)
      · refine js_aload (pc1 := 116) rfl rfl rfl ?_
        refine jt_gr (pc1 := 119) (j := 1) rfl rfl hx0 rfl (fun p8 => ?_)
        refine js_iload (pc1 := 121) rfl rfl rfl ?_
        refine jt_aldD (pc1 := 122) rfl rfl (fun v9 hv9 => ?_)
        refine js_goto (t1 := 126) rfl rfl ?_
        exact zG_to (L := [some (.inr (.inr (some x0))), some (.inl x1), some (.inl x2), none, some (.inl v5), none]) (S := [(.inl v9)]) ⟨rfl, ⟨rfl, ⟨rfl, ⟨rfl, trivial⟩⟩⟩⟩ (rfl) (z_Pt_link_126_ok hr4 N hd hw x0 hx0 x1 hx1 x2 hx2 v5 hv5 v9 hv9 A)
    · refine js_iinc (pc1 := 158) (L1 := [some (.inr (.inr (some x0))), some (.inl x1), some (.inl (x2 + 1)), some (.inl x3), none, none]) rfl rfl rfl rfl ?_
      refine js_goto (t1 := 4) rfl rfl ?_
      exact zG_to (L := [some (.inr (.inr (some x0))), some (.inl x1), some (.inl (zw (x2 + 1))), none, none, none]) (S := []) ⟨rfl, ⟨rfl, ⟨zval_w (x2 + 1), trivial⟩⟩⟩ (rfl) (hr4 x0 hx0 x1 hx1 (zw (x2 + 1)) (zw_rg (x2 + 1)) A)
theorem z_Pt_link_4_bok{d w : Nat} {r4 : Nat → Int → Int → zA → Option zA} (hr4 : ∀ (x0 : Nat) (hx0 : zsh x0 = some (false, 3, 4)) (x1 : Int) (hx1 : zrg x1) (x2 : Int) (hx2 : zrg x2) (A : zA), zG (r4 x0 x1 x2 A) zPV d w 131 4 [some (.inr (.inr (some x0))), some (.inl x1), some (.inl x2), none, none, none] [] A) (N : Nat) (hd : 1 ≤ d) (hw : 21 ≤ w) (x0 : Nat) (hx0 : zsh x0 = some (false, 3, 4)) (x1 : Int) (hx1 : zrg x1) (x2 : Int) (hx2 : zrg x2) (A : zA) : zG (z_Pt_link_4_b r4 N x0 x1 x2 A) zPV d w 131 4 [some (.inr (.inr (some x0))), some (.inl x1), some (.inl x2), none, none, none] [] A := by
  unfold z_Pt_link_4_b
  refine js_iload (pc1 := 5) rfl rfl rfl ?_
  refine js_aload (pc1 := 6) rfl rfl rfl ?_
  refine js_gi (pc1 := 9) (j := 2) rfl rfl hx0 rfl ?_
  refine jt_ge (pc1 := 12) (t1 := 161) hx2 (zi_rg _ _ _) rfl rfl rfl (fun c1 => ?_) (fun c1 => ?_)
  · refine js_aload (pc1 := 13) rfl rfl rfl ?_
    refine js_iload (pc1 := 14) rfl rfl rfl ?_
    refine js_cP (pc1 := 17) (as := [(.inr (.inr (some x0))), (.inl x2)]) (S0 := []) (m := 2) (L0 := [some (.inr (.inr (some x0))), some (.inl x2)]) rfl rfl rfl rfl rfl rfl rfl rfl (zrc_o rfl hx0) (by omega) (by omega) (z_Pt_kind_ok N (by omega) (by omega) x0 hx0 x2 hx2 A) (fun v2 _ hv2 => ?_)
    refine js_istore (pc1 := 18) (L1 := [some (.inr (.inr (some x0))), some (.inl x1), some (.inl x2), some (.inl v2), none, none]) rfl rfl rfl rfl ?_
    refine js_iload (pc1 := 19) rfl rfl rfl ?_
    refine js_iconst (pc1 := 21) rfl rfl ?_
    refine jt_eq (pc1 := 24) (t1 := 30) hv2 (zlit rfl) rfl rfl rfl (fun c3 => ?_) (fun c3 => ?_)
    · exact zG_to (L := [some (.inr (.inr (some x0))), some (.inl x1), some (.inl x2), none, none, none]) (S := []) ⟨rfl, ⟨rfl, ⟨rfl, trivial⟩⟩⟩ (rfl) (z_Pt_link_30_ok hr4 N hd hw x0 hx0 x1 hx1 x2 hx2 A)
    · refine js_iload (pc1 := 25) rfl rfl rfl ?_
      refine js_iconst (pc1 := 27) rfl rfl ?_
      refine jt_ne (pc1 := 30) (t1 := 42) hv2 (zlit rfl) rfl rfl rfl (fun c4 => ?_) (fun c4 => ?_)
      · exact zG_to (L := [some (.inr (.inr (some x0))), some (.inl x1), some (.inl x2), none, none, none]) (S := []) ⟨rfl, ⟨rfl, ⟨rfl, trivial⟩⟩⟩ (rfl) (z_Pt_link_30_ok hr4 N hd hw x0 hx0 x1 hx1 x2 hx2 A)
      · refine js_aload (pc1 := 43) rfl rfl rfl ?_
        refine js_iload (pc1 := 44) rfl rfl rfl ?_
        refine js_cP (pc1 := 47) (as := [(.inr (.inr (some x0))), (.inl x1)]) (S0 := []) (m := 2) (L0 := [some (.inr (.inr (some x0))), some (.inl x1)]) rfl rfl rfl rfl rfl rfl rfl rfl (zrc_o rfl hx0) (by omega) (by omega) (z_Pt_has_ok N (by omega) (by omega) x0 hx0 x1 hx1 A) (fun v5 _ hv5 => ?_)
        refine ju_eq (pc1 := 50) (t1 := 84) hv5 rfl rfl rfl (fun c6 => ?_) (fun c6 => ?_)
        · exact z_Pt_link_84_ok hr4 N hd hw x0 hx0 x1 hx1 x2 hx2 v2 hv2 A
        · refine js_iload (pc1 := 51) rfl rfl rfl ?_
          refine js_iconst (pc1 := 53) rfl rfl ?_
          refine jt_eq (pc1 := 56) (t1 := 62) hv2 (zlit rfl) rfl rfl rfl (fun c7 => ?_) (fun c7 => ?_)
          · exact zG_to (L := [some (.inr (.inr (some x0))), some (.inl x1), some (.inl x2), none, none, none]) (S := []) ⟨rfl, ⟨rfl, ⟨rfl, trivial⟩⟩⟩ (rfl) (z_Pt_link_62_ok hr4 N hd hw x0 hx0 x1 hx1 x2 hx2 A)
          · refine js_iload (pc1 := 57) rfl rfl rfl ?_
            refine js_iconst (pc1 := 59) rfl rfl ?_
            refine jt_ne (pc1 := 62) (t1 := 84) hv2 (zlit rfl) rfl rfl rfl (fun c8 => ?_) (fun c8 => ?_)
            · exact zG_to (L := [some (.inr (.inr (some x0))), some (.inl x1), some (.inl x2), none, none, none]) (S := []) ⟨rfl, ⟨rfl, ⟨rfl, trivial⟩⟩⟩ (rfl) (z_Pt_link_62_ok hr4 N hd hw x0 hx0 x1 hx1 x2 hx2 A)
            · exact z_Pt_link_84_ok hr4 N hd hw x0 hx0 x1 hx1 x2 hx2 v2 hv2 A
  · exact je_V rfl
theorem z_Pt_link_4_lok{d w : Nat} (N : Nat) (hd : 1 ≤ d) (hw : 21 ≤ w) (n : Nat) : ∀ (x0 : Nat) (hx0 : zsh x0 = some (false, 3, 4)) (x1 : Int) (hx1 : zrg x1) (x2 : Int) (hx2 : zrg x2) (A : zA), zG (z_Pt_link_4_l N n x0 x1 x2 A) zPV d w 131 4 [some (.inr (.inr (some x0))), some (.inl x1), some (.inl x2), none, none, none] [] A := by
  induction n with
  | zero => intros; exact zG_none
  | succ n ih =>
    intro x0 hx0 x1 hx1 x2 hx2 A
    exact z_Pt_link_4_bok ih N hd hw x0 hx0 x1 hx1 x2 hx2 A
theorem z_Pt_link_4_ok{d w : Nat} (N : Nat) (hd : 1 ≤ d) (hw : 21 ≤ w) (x0 : Nat) (hx0 : zsh x0 = some (false, 3, 4)) (x1 : Int) (hx1 : zrg x1) (x2 : Int) (hx2 : zrg x2) (A : zA) : zG (z_Pt_link_4 N x0 x1 x2 A) zPV d w 131 4 [some (.inr (.inr (some x0))), some (.inl x1), some (.inl x2), none, none, none] [] A := z_Pt_link_4_lok N hd hw N x0 hx0 x1 hx1 x2 hx2 A
theorem z_Pt_link_ok{d w : Nat} (N : Nat) (hd : 1 ≤ d) (hw : 21 ≤ w) (x0 : Nat) (hx0 : zsh x0 = some (false, 3, 4)) (A : zA) : zG (z_Pt_link N x0 A) zPV d w 131 0 [some (.inr (.inr (some x0))), none, none, none, none, none] [] A := by
  unfold z_Pt_link
  refine js_iconst (pc1 := 1) rfl rfl ?_
  refine js_istore (pc1 := 2) (L1 := [some (.inr (.inr (some x0))), some (.inl (-1)), none, none, none, none]) rfl rfl rfl rfl ?_
  refine js_iconst (pc1 := 3) rfl rfl ?_
  refine js_istore (pc1 := 4) (L1 := [some (.inr (.inr (some x0))), some (.inl (-1)), some (.inl 0), none, none, none]) rfl rfl rfl rfl ?_
  exact z_Pt_link_4_ok N hd hw x0 hx0 (-1) (zlit rfl) 0 (zlit rfl) A
theorem z_Pa_reads_119_bok{d w : Nat} {r119 : Nat → Int → zA → Option (Int × zA)} (hr119 : ∀ (x1 : Nat) (hx1 : zsh x1 = some (false, 2, 2)) (x2 : Int) (hx2 : zrg x2) (A : zA), zG (r119 x1 x2 A) zPI d w 78 119 [none, some (.inr (.inr (some x1))), some (.inl x2)] [] A) (N : Nat) (hd : 651 ≤ d) (hw : 18612 ≤ w) (x1 : Nat) (hx1 : zsh x1 = some (false, 2, 2)) (x2 : Int) (hx2 : zrg x2) (A : zA) : zG (z_Pa_reads_119_b r119 N x1 x2 A) zPI d w 78 119 [none, some (.inr (.inr (some x1))), some (.inl x2)] [] A := by
  unfold z_Pa_reads_119_b
  refine js_iload (pc1 := 120) rfl rfl rfl ?_
  refine js_iconst (pc1 := 121) rfl rfl ?_
  refine jt_ge (pc1 := 124) (t1 := 139) hx2 (zlit rfl) rfl rfl rfl (fun c1 => ?_) (fun c1 => ?_)
  · refine js_aload (pc1 := 125) rfl rfl rfl ?_
    refine jt_gf (pc1 := 128) (j := 0) rfl rfl hx1 rfl (fun p2 => ?_)
    refine js_iload (pc1 := 129) rfl rfl rfl ?_
    refine jt_aald (pc1 := 130) rfl rfl (fun p3 => ?_)
    refine zG_cs (fun hp3 => ?_)
    refine js_cV (pc1 := 133) (as := [(.inr (.inr (some p3)))]) (S0 := []) (m := 6) (L0 := [some (.inr (.inr (some p3))), none, none, none, none, none]) rfl rfl rfl rfl rfl rfl rfl rfl (zrc_o rfl hp3) (by omega) (by omega) (z_Pt_link_ok N (by omega) (by omega) p3 hp3 A) (fun A4 _ => ?_)
    refine js_iinc (pc1 := 136) (L1 := [none, some (.inr (.inr (some x1))), some (.inl (x2 + 1))]) rfl rfl rfl rfl ?_
    refine js_goto (t1 := 119) rfl rfl ?_
    exact zG_to (L := [none, some (.inr (.inr (some x1))), some (.inl (zw (x2 + 1)))]) (S := []) ⟨rfl, ⟨zval_w (x2 + 1), trivial⟩⟩ (rfl) (hr119 x1 hx1 (zw (x2 + 1)) (zw_rg (x2 + 1)) A4)
  · refine js_iconst (pc1 := 140) rfl rfl ?_
    exact je_I rfl (zfit3 rfl (Or.inr rfl)) rfl (zlit rfl)
theorem z_Pa_reads_119_lok{d w : Nat} (N : Nat) (hd : 651 ≤ d) (hw : 18612 ≤ w) (n : Nat) : ∀ (x1 : Nat) (hx1 : zsh x1 = some (false, 2, 2)) (x2 : Int) (hx2 : zrg x2) (A : zA), zG (z_Pa_reads_119_l N n x1 x2 A) zPI d w 78 119 [none, some (.inr (.inr (some x1))), some (.inl x2)] [] A := by
  induction n with
  | zero => intros; exact zG_none
  | succ n ih =>
    intro x1 hx1 x2 hx2 A
    exact z_Pa_reads_119_bok ih N hd hw x1 hx1 x2 hx2 A
theorem z_Pa_reads_119_ok{d w : Nat} (N : Nat) (hd : 651 ≤ d) (hw : 18612 ≤ w) (x1 : Nat) (hx1 : zsh x1 = some (false, 2, 2)) (x2 : Int) (hx2 : zrg x2) (A : zA) : zG (z_Pa_reads_119 N x1 x2 A) zPI d w 78 119 [none, some (.inr (.inr (some x1))), some (.inl x2)] [] A := z_Pa_reads_119_lok N hd hw N x1 hx1 x2 hx2 A
theorem z_Pa_reads_73_ok{d w : Nat} (N : Nat) (hd : 651 ≤ d) (hw : 18612 ≤ w) (x1 : Nat) (hx1 : zsh x1 = some (false, 2, 2)) (A : zA) : zG (z_Pa_reads_73 N x1 A) zPI d w 78 73 [some (.inr (.inr (some 5))), some (.inr (.inr (some x1))), none] [] A := by
  unfold z_Pa_reads_73
  refine js_aload (pc1 := 74) rfl rfl rfl ?_
  refine js_iconst (pc1 := 75) rfl rfl ?_
  refine jt_pbl (pc1 := 78) (j := 4) rfl rfl rfl rfl rfl (Or.inr rfl) (fun A1 => ?_)
  refine js_aload (pc1 := 79) rfl rfl rfl ?_
  refine js_aload (pc1 := 80) rfl rfl rfl ?_
  refine js_gi (pc1 := 83) (j := 1) rfl rfl hx1 rfl ?_
  refine jt_pi (pc1 := 86) (j := 5) rfl rfl rfl rfl rfl (fun A2 => ?_)
  refine js_aload (pc1 := 87) rfl rfl rfl ?_
  refine js_aload (pc1 := 88) rfl rfl rfl ?_
  refine jt_gf (pc1 := 91) (j := 0) rfl rfl hx1 rfl (fun p3 => ?_)
  refine js_iconst (pc1 := 92) rfl rfl ?_
  refine jt_aald (pc1 := 93) rfl rfl (fun p4 => ?_)
  refine zG_cs (fun hp4 => ?_)
  refine js_iconst (pc1 := 94) rfl rfl ?_
  refine js_cV (pc1 := 97) (as := [(.inr (.inr (some 5))), (.inr (.inr (some p4))), (.inl 0)]) (S0 := []) (m := 4) (L0 := [some (.inr (.inr (some 5))), some (.inr (.inr (some p4))), some (.inl 0), none]) rfl rfl rfl rfl rfl rfl rfl rfl (zrc_o rfl rfl) (by omega) (by omega) (z_Pa_statements_ok (z_Pa_statement_rec N) N (by omega) (by omega) p4 hp4 0 (zlit rfl) A2) (fun A5 _ => ?_)
  refine js_aload (pc1 := 98) rfl rfl rfl ?_
  refine js_gi (pc1 := 101) (j := 3) rfl rfl rfl rfl ?_
  refine ju_ne (pc1 := 104) (t1 := 115) (zi_rg _ _ _) rfl rfl rfl (fun c6 => ?_) (fun c6 => ?_)
  · refine js_aload (pc1 := 105) rfl rfl rfl ?_
    refine js_gi (pc1 := 108) (j := 2) rfl rfl rfl rfl ?_
    refine js_aload (pc1 := 109) rfl rfl rfl ?_
    refine js_gi (pc1 := 112) (j := 1) rfl rfl rfl rfl ?_
    refine jt_ge (pc1 := 115) (t1 := 117) (zi_rg _ _ _) (zi_rg _ _ _) rfl rfl rfl (fun c7 => ?_) (fun c7 => ?_)
    · refine js_iconst (pc1 := 116) rfl rfl ?_
      exact je_I rfl (zfit3 rfl (Or.inl rfl)) rfl (zlit rfl)
    · refine js_iconst (pc1 := 118) rfl rfl ?_
      refine js_istore (pc1 := 119) (L1 := [some (.inr (.inr (some 5))), some (.inr (.inr (some x1))), some (.inl 0)]) rfl rfl rfl rfl ?_
      exact zG_to (L := [none, some (.inr (.inr (some x1))), some (.inl 0)]) (S := []) ⟨rfl, ⟨rfl, trivial⟩⟩ (rfl) (z_Pa_reads_119_ok N hd hw x1 hx1 0 (zlit rfl) A5)
  · refine js_iconst (pc1 := 116) rfl rfl ?_
    exact je_I rfl (zfit3 rfl (Or.inl rfl)) rfl (zlit rfl)
theorem z_Pa_reads_21_bok{d w : Nat} {r21 : Nat → Int → zA → Option (Int × zA)} (hr21 : ∀ (x1 : Nat) (hx1 : zsh x1 = some (false, 2, 2)) (x2 : Int) (hx2 : zrg x2) (A : zA), zG (r21 x1 x2 A) zPI d w 78 21 [some (.inr (.inr (some 5))), some (.inr (.inr (some x1))), some (.inl x2)] [] A) (N : Nat) (hd : 651 ≤ d) (hw : 18612 ≤ w) (x1 : Nat) (hx1 : zsh x1 = some (false, 2, 2)) (x2 : Int) (hx2 : zrg x2) (A : zA) : zG (z_Pa_reads_21_b r21 N x1 x2 A) zPI d w 78 21 [some (.inr (.inr (some 5))), some (.inr (.inr (some x1))), some (.inl x2)] [] A := by
  unfold z_Pa_reads_21_b
  refine js_iload (pc1 := 22) rfl rfl rfl ?_
  refine js_iconst (pc1 := 23) rfl rfl ?_
  refine jt_ge (pc1 := 26) (t1 := 73) hx2 (zlit rfl) rfl rfl rfl (fun c1 => ?_) (fun c1 => ?_)
  · refine js_aload (pc1 := 27) rfl rfl rfl ?_
    refine js_iload (pc1 := 28) rfl rfl rfl ?_
    refine js_cP (pc1 := 31) (as := [(.inr (.inr (some 5))), (.inl x2)]) (S0 := []) (m := 2) (L0 := [some (.inr (.inr (some 5))), some (.inl x2)]) rfl rfl rfl rfl rfl rfl rfl rfl (zrc_o rfl rfl) (by omega) (by omega) (z_Pa_beginsProcedure_ok N (by omega) (by omega) x2 hx2 A) (fun v2 _ hv2 => ?_)
    refine ju_eq (pc1 := 34) (t1 := 73) hv2 rfl rfl rfl (fun c3 => ?_) (fun c3 => ?_)
    · exact zG_to (L := [some (.inr (.inr (some 5))), some (.inr (.inr (some x1))), none]) (S := []) ⟨rfl, ⟨rfl, trivial⟩⟩ (rfl) (z_Pa_reads_73_ok N hd hw x1 hx1 A)
    · refine js_aload (pc1 := 35) rfl rfl rfl ?_
      refine js_dupR (pc1 := 36) rfl rfl ?_
      refine js_gi (pc1 := 39) (j := 2) rfl rfl rfl rfl ?_
      refine js_iconst (pc1 := 40) rfl rfl ?_
      refine js_iadd (pc1 := 41) rfl rfl ?_
      refine jt_pi (pc1 := 44) (j := 2) rfl rfl rfl rfl rfl (fun A4 => ?_)
      refine js_aload (pc1 := 45) rfl rfl rfl ?_
      refine js_iload (pc1 := 46) rfl rfl rfl ?_
      refine jt_pi (pc1 := 49) (j := 5) rfl rfl rfl rfl rfl (fun A5 => ?_)
      refine js_aload (pc1 := 50) rfl rfl rfl ?_
      refine js_aload (pc1 := 51) rfl rfl rfl ?_
      refine jt_gf (pc1 := 54) (j := 0) rfl rfl hx1 rfl (fun p6 => ?_)
      refine js_iload (pc1 := 55) rfl rfl rfl ?_
      refine jt_aald (pc1 := 56) rfl rfl (fun p7 => ?_)
      refine zG_cs (fun hp7 => ?_)
      refine js_iconst (pc1 := 57) rfl rfl ?_
      refine js_cV (pc1 := 60) (as := [(.inr (.inr (some 5))), (.inr (.inr (some p7))), (.inl 1)]) (S0 := []) (m := 3) (L0 := [some (.inr (.inr (some 5))), some (.inr (.inr (some p7))), some (.inl 1)]) rfl rfl rfl rfl rfl rfl rfl rfl (zrc_o rfl rfl) (by omega) (by omega) (z_Pa_block_ok (z_Pa_statement_rec N) N (by omega) (by omega) p7 hp7 1 (zlit rfl) A5) (fun A8 _ => ?_)
      refine js_aload (pc1 := 61) rfl rfl rfl ?_
      refine js_iload (pc1 := 62) rfl rfl rfl ?_
      refine js_iconst (pc1 := 63) rfl rfl ?_
      refine js_iadd (pc1 := 64) rfl rfl ?_
      refine jt_pi (pc1 := 67) (j := 1) rfl rfl hx1 rfl rfl (fun A9 => ?_)
      refine js_iinc (pc1 := 70) (L1 := [some (.inr (.inr (some 5))), some (.inr (.inr (some x1))), some (.inl (x2 + 1))]) rfl rfl rfl rfl ?_
      refine js_goto (t1 := 21) rfl rfl ?_
      exact zG_to (L := [some (.inr (.inr (some 5))), some (.inr (.inr (some x1))), some (.inl (zw (x2 + 1)))]) (S := []) ⟨rfl, ⟨rfl, ⟨zval_w (x2 + 1), trivial⟩⟩⟩ (rfl) (hr21 x1 hx1 (zw (x2 + 1)) (zw_rg (x2 + 1)) A9)
  · exact zG_to (L := [some (.inr (.inr (some 5))), some (.inr (.inr (some x1))), none]) (S := []) ⟨rfl, ⟨rfl, trivial⟩⟩ (rfl) (z_Pa_reads_73_ok N hd hw x1 hx1 A)
theorem z_Pa_reads_21_lok{d w : Nat} (N : Nat) (hd : 651 ≤ d) (hw : 18612 ≤ w) (n : Nat) : ∀ (x1 : Nat) (hx1 : zsh x1 = some (false, 2, 2)) (x2 : Int) (hx2 : zrg x2) (A : zA), zG (z_Pa_reads_21_l N n x1 x2 A) zPI d w 78 21 [some (.inr (.inr (some 5))), some (.inr (.inr (some x1))), some (.inl x2)] [] A := by
  induction n with
  | zero => intros; exact zG_none
  | succ n ih =>
    intro x1 hx1 x2 hx2 A
    exact z_Pa_reads_21_bok ih N hd hw x1 hx1 x2 hx2 A
theorem z_Pa_reads_21_ok{d w : Nat} (N : Nat) (hd : 651 ≤ d) (hw : 18612 ≤ w) (x1 : Nat) (hx1 : zsh x1 = some (false, 2, 2)) (x2 : Int) (hx2 : zrg x2) (A : zA) : zG (z_Pa_reads_21 N x1 x2 A) zPI d w 78 21 [some (.inr (.inr (some 5))), some (.inr (.inr (some x1))), some (.inl x2)] [] A := z_Pa_reads_21_lok N hd hw N x1 hx1 x2 hx2 A
theorem z_Pa_reads_ok{d w : Nat} (N : Nat) (hd : 651 ≤ d) (hw : 18612 ≤ w) (x1 : Nat) (hx1 : zsh x1 = some (false, 2, 2)) (A : zA) : zG (z_Pa_reads N x1 A) zPI d w 78 0 [some (.inr (.inr (some 5))), some (.inr (.inr (some x1))), none] [] A := by
  unfold z_Pa_reads
  refine js_aload (pc1 := 1) rfl rfl rfl ?_
  refine js_iconst (pc1 := 2) rfl rfl ?_
  refine jt_pi (pc1 := 5) (j := 2) rfl rfl rfl rfl rfl (fun A1 => ?_)
  refine js_aload (pc1 := 6) rfl rfl rfl ?_
  refine js_iconst (pc1 := 7) rfl rfl ?_
  refine jt_pbl (pc1 := 10) (j := 3) rfl rfl rfl rfl rfl (Or.inl rfl) (fun A2 => ?_)
  refine js_aload (pc1 := 11) rfl rfl rfl ?_
  refine js_iconst (pc1 := 12) rfl rfl ?_
  refine jt_pbl (pc1 := 15) (j := 4) rfl rfl rfl rfl rfl (Or.inl rfl) (fun A3 => ?_)
  refine js_aload (pc1 := 16) rfl rfl rfl ?_
  refine js_cV (pc1 := 19) (as := [(.inr (.inr (some x1)))]) (S0 := []) (m := 2) (L0 := [some (.inr (.inr (some x1))), none]) rfl rfl rfl rfl rfl rfl rfl rfl (zrc_o rfl hx1) (by omega) (by omega) (z_Ro_clear_ok N (by omega) (by omega) x1 hx1 A3) (fun A4 _ => ?_)
  refine js_iconst (pc1 := 20) rfl rfl ?_
  refine js_istore (pc1 := 21) (L1 := [some (.inr (.inr (some 5))), some (.inr (.inr (some x1))), some (.inl 0)]) rfl rfl rfl rfl ?_
  exact z_Pa_reads_21_ok N hd hw x1 hx1 0 (zlit rfl) A4
theorem z_Ro_has_ok{d w : Nat} (N : Nat) (hd : 0 ≤ d) (hw : 0 ≤ w) (x0 : Nat) (hx0 : zsh x0 = some (false, 2, 2)) (x1 : Int) (hx1 : zrg x1) (A : zA) : zG (z_Ro_has N x0 x1 A) (zPp A) d w 64 0 [some (.inr (.inr (some x0))), some (.inl x1)] [] A := by
  unfold z_Ro_has
  refine js_iload (pc1 := 1) rfl rfl rfl ?_
  refine js_iconst (pc1 := 2) rfl rfl ?_
  refine jt_eq (pc1 := 5) (t1 := 17) hx1 (zlit rfl) rfl rfl rfl (fun c1 => ?_) (fun c1 => ?_)
  · refine js_iconst (pc1 := 18) rfl rfl ?_
    refine js_goto (t1 := 22) rfl rfl ?_
    exact je_P rfl (zfit3 rfl (Or.inr rfl)) rfl (zlit rfl)
  · refine js_iload (pc1 := 6) rfl rfl rfl ?_
    refine ju_lt (pc1 := 9) (t1 := 21) hx1 rfl rfl rfl (fun c2 => ?_) (fun c2 => ?_)
    · refine js_iconst (pc1 := 22) rfl rfl ?_
      exact je_P rfl (zfit3 rfl (Or.inl rfl)) rfl (zlit rfl)
    · refine js_iload (pc1 := 10) rfl rfl rfl ?_
      refine js_aload (pc1 := 11) rfl rfl rfl ?_
      refine js_gi (pc1 := 14) (j := 1) rfl rfl hx0 rfl ?_
      refine jt_ge (pc1 := 17) (t1 := 21) hx1 (zi_rg _ _ _) rfl rfl rfl (fun c3 => ?_) (fun c3 => ?_)
      · refine js_iconst (pc1 := 18) rfl rfl ?_
        refine js_goto (t1 := 22) rfl rfl ?_
        exact je_P rfl (zfit3 rfl (Or.inr rfl)) rfl (zlit rfl)
      · refine js_iconst (pc1 := 22) rfl rfl ?_
        exact je_P rfl (zfit3 rfl (Or.inl rfl)) rfl (zlit rfl)
theorem z_Pt_number_26_ok{d w : Nat} (N : Nat) (hd : 0 ≤ d) (hw : 0 ≤ w) (x0 : Nat) (hx0 : zsh x0 = some (false, 3, 4)) (x1 : Int) (hx1 : zrg x1) (x2 : Int) (hx2 : zrg x2) (s0 : Int) (hs0 : zrg s0) (A : zA) : zG (z_Pt_number_26 N x0 x1 x2 s0 A) (zPp A) d w 117 26 [some (.inr (.inr (some x0))), some (.inl x1), some (.inl x2), none] [(.inl s0)] A := by
  unfold z_Pt_number_26
  refine js_istore (pc1 := 27) (L1 := [some (.inr (.inr (some x0))), some (.inl x1), some (.inl x2), some (.inl s0)]) rfl rfl rfl rfl ?_
  refine js_iload (pc1 := 28) rfl rfl rfl ?_
  refine ju_eq (pc1 := 31) (t1 := 46) hs0 rfl rfl rfl (fun c1 => ?_) (fun c1 => ?_)
  · refine js_iconst (pc1 := 47) rfl rfl ?_
    exact je_P rfl (zfit0 _ rfl) rfl (zlit rfl)
  · refine js_aload (pc1 := 32) rfl rfl rfl ?_
    refine jt_gr (pc1 := 35) (j := 0) rfl rfl hx0 rfl (fun p2 => ?_)
    refine js_iload (pc1 := 36) rfl rfl rfl ?_
    refine js_iconst (pc1 := 37) rfl rfl ?_
    refine js_imul (pc1 := 38) rfl rfl ?_
    refine js_iconst (pc1 := 39) rfl rfl ?_
    refine js_iadd (pc1 := 40) rfl rfl ?_
    refine js_iload (pc1 := 41) rfl rfl rfl ?_
    refine js_iadd (pc1 := 42) rfl rfl ?_
    refine jt_aldD (pc1 := 43) rfl rfl (fun v3 hv3 => ?_)
    refine js_goto (t1 := 47) rfl rfl ?_
    exact je_P rfl (zfit0 _ rfl) rfl hv3
theorem z_Pt_number_ok{d w : Nat} (N : Nat) (hd : 0 ≤ d) (hw : 0 ≤ w) (x0 : Nat) (hx0 : zsh x0 = some (false, 3, 4)) (x1 : Int) (hx1 : zrg x1) (x2 : Int) (hx2 : zrg x2) (A : zA) : zG (z_Pt_number N x0 x1 x2 A) (zPp A) d w 117 0 [some (.inr (.inr (some x0))), some (.inl x1), some (.inl x2), none] [] A := by
  unfold z_Pt_number
  refine js_iload (pc1 := 1) rfl rfl rfl ?_
  refine ju_lt (pc1 := 4) (t1 := 25) hx1 rfl rfl rfl (fun c1 => ?_) (fun c1 => ?_)
  · refine js_iconst (pc1 := 26) rfl rfl ?_
    exact z_Pt_number_26_ok N hd hw x0 hx0 x1 hx1 x2 hx2 0 (zlit rfl) A
  · refine js_iload (pc1 := 5) rfl rfl rfl ?_
    refine js_aload (pc1 := 6) rfl rfl rfl ?_
    refine js_gi (pc1 := 9) (j := 2) rfl rfl hx0 rfl ?_
    refine jt_ge (pc1 := 12) (t1 := 25) hx1 (zi_rg _ _ _) rfl rfl rfl (fun c2 => ?_) (fun c2 => ?_)
    · refine js_iload (pc1 := 13) rfl rfl rfl ?_
      refine ju_lt (pc1 := 16) (t1 := 25) hx2 rfl rfl rfl (fun c3 => ?_) (fun c3 => ?_)
      · refine js_iconst (pc1 := 26) rfl rfl ?_
        exact z_Pt_number_26_ok N hd hw x0 hx0 x1 hx1 x2 hx2 0 (zlit rfl) A
      · refine js_iload (pc1 := 17) rfl rfl rfl ?_
        refine js_iconst (pc1 := 18) rfl rfl ?_
        refine jt_ge (pc1 := 21) (t1 := 25) hx2 (zlit rfl) rfl rfl rfl (fun c4 => ?_) (fun c4 => ?_)
        · refine js_iconst (pc1 := 22) rfl rfl ?_
          refine js_goto (t1 := 26) rfl rfl ?_
          exact z_Pt_number_26_ok N hd hw x0 hx0 x1 hx1 x2 hx2 1 (zlit rfl) A
        · refine js_iconst (pc1 := 26) rfl rfl ?_
          exact z_Pt_number_26_ok N hd hw x0 hx0 x1 hx1 x2 hx2 0 (zlit rfl) A
    · refine js_iconst (pc1 := 26) rfl rfl ?_
      exact z_Pt_number_26_ok N hd hw x0 hx0 x1 hx1 x2 hx2 0 (zlit rfl) A
theorem z_Ro_ofCalled_ok{d w : Nat} (N : Nat) (hd : 0 ≤ d) (hw : 0 ≤ w) (x0 : Nat) (x1 : Int) (hx1 : zrg x1) (A : zA) : zG (z_Ro_ofCalled N x0 x1 A) (zPp A) d w 161 0 [some (.inr (.inr (some x0))), some (.inl x1)] [] A := by
  unfold z_Ro_ofCalled
  refine js_iload (pc1 := 1) rfl rfl rfl ?_
  refine ju_lt (pc1 := 4) (t1 := 15) hx1 rfl rfl rfl (fun c1 => ?_) (fun c1 => ?_)
  · refine js_iconst (pc1 := 16) rfl rfl ?_
    exact je_P rfl (zfit0 _ rfl) rfl (zlit rfl)
  · refine js_iload (pc1 := 5) rfl rfl rfl ?_
    refine js_iconst (pc1 := 6) rfl rfl ?_
    refine jt_ge (pc1 := 9) (t1 := 15) hx1 (zlit rfl) rfl rfl rfl (fun c2 => ?_) (fun c2 => ?_)
    · refine js_aload (pc1 := 10) rfl rfl rfl ?_
      refine js_iload (pc1 := 11) rfl rfl rfl ?_
      refine jt_aldD (pc1 := 12) rfl rfl (fun v3 hv3 => ?_)
      refine js_goto (t1 := 16) rfl rfl ?_
      exact je_P rfl (zfit0 _ rfl) rfl hv3
    · refine js_iconst (pc1 := 16) rfl rfl ?_
      exact je_P rfl (zfit0 _ rfl) rfl (zlit rfl)
theorem z_Ro_sizeOf_7_bok{d w : Nat} {r7 : Nat → Nat → Int → Int → zA → Option Int} (hr7 : ∀ (x0 : Nat) (hx0 : zsh x0 = some (false, 3, 4)) (x1 : Nat) (x2 : Int) (hx2 : zrg x2) (x3 : Int) (hx3 : zrg x3) (A : zA), zG (r7 x0 x1 x2 x3 A) (zPp A) d w 132 7 [some (.inr (.inr (some x0))), some (.inr (.inr (some x1))), some (.inl x2), some (.inl x3)] [] A) (N : Nat) (hd : 1 ≤ d) (hw : 23 ≤ w) (x0 : Nat) (hx0 : zsh x0 = some (false, 3, 4)) (x1 : Nat) (x2 : Int) (hx2 : zrg x2) (x3 : Int) (hx3 : zrg x3) (A : zA) : zG (z_Ro_sizeOf_7_b r7 N x0 x1 x2 x3 A) (zPp A) d w 132 7 [some (.inr (.inr (some x0))), some (.inr (.inr (some x1))), some (.inl x2), some (.inl x3)] [] A := by
  unfold z_Ro_sizeOf_7_b
  refine js_iload (pc1 := 8) rfl rfl rfl ?_
  refine js_aload (pc1 := 9) rfl rfl rfl ?_
  refine js_gi (pc1 := 12) (j := 2) rfl rfl hx0 rfl ?_
  refine jt_ge (pc1 := 15) (t1 := 44) hx3 (zi_rg _ _ _) rfl rfl rfl (fun c1 => ?_) (fun c1 => ?_)
  · refine js_aload (pc1 := 16) rfl rfl rfl ?_
    refine js_iload (pc1 := 17) rfl rfl rfl ?_
    refine js_cP (pc1 := 20) (as := [(.inr (.inr (some x0))), (.inl x3)]) (S0 := []) (m := 2) (L0 := [some (.inr (.inr (some x0))), some (.inl x3)]) rfl rfl rfl rfl rfl rfl rfl rfl (zrc_o rfl hx0) (by omega) (by omega) (z_Pt_kind_ok N (by omega) (by omega) x0 hx0 x3 hx3 A) (fun v2 _ hv2 => ?_)
    refine js_iconst (pc1 := 22) rfl rfl ?_
    refine jt_ne (pc1 := 25) (t1 := 38) hv2 (zlit rfl) rfl rfl rfl (fun c3 => ?_) (fun c3 => ?_)
    · refine js_iload (pc1 := 26) rfl rfl rfl ?_
      refine js_aload (pc1 := 27) rfl rfl rfl ?_
      refine js_aload (pc1 := 28) rfl rfl rfl ?_
      refine js_iload (pc1 := 29) rfl rfl rfl ?_
      refine js_iconst (pc1 := 30) rfl rfl ?_
      refine js_cP (pc1 := 33) (as := [(.inr (.inr (some x0))), (.inl x3), (.inl 1)]) (S0 := [(.inr (.inr (some x1))), (.inl x2)]) (m := 4) (L0 := [some (.inr (.inr (some x0))), some (.inl x3), some (.inl 1), none]) rfl rfl rfl rfl rfl rfl rfl rfl (zrc_o rfl hx0) (by omega) (by omega) (z_Pt_number_ok N (by omega) (by omega) x0 hx0 x3 hx3 1 (zlit rfl) A) (fun v4 _ hv4 => ?_)
      refine js_cP (pc1 := 36) (as := [(.inr (.inr (some x1))), (.inl v4)]) (S0 := [(.inl x2)]) (m := 2) (L0 := [some (.inr (.inr (some x1))), some (.inl v4)]) rfl rfl rfl rfl rfl rfl rfl rfl (zrc_s rfl) (by omega) (by omega) (z_Ro_ofCalled_ok N (by omega) (by omega) x1 v4 hv4 A) (fun v5 _ hv5 => ?_)
      refine js_iadd (pc1 := 37) rfl rfl ?_
      refine zG_w1 ?_
      refine js_istore (pc1 := 38) (L1 := [some (.inr (.inr (some x0))), some (.inr (.inr (some x1))), some (.inl (zw (x2 + v5))), some (.inl x3)]) rfl rfl rfl rfl ?_
      refine js_iinc (pc1 := 41) (L1 := [some (.inr (.inr (some x0))), some (.inr (.inr (some x1))), some (.inl (zw (x2 + v5))), some (.inl (x3 + 1))]) rfl rfl rfl rfl ?_
      refine js_goto (t1 := 7) rfl rfl ?_
      exact zG_to (L := [some (.inr (.inr (some x0))), some (.inr (.inr (some x1))), some (.inl (zw (x2 + v5))), some (.inl (zw (x3 + 1)))]) (S := []) ⟨rfl, ⟨rfl, ⟨rfl, ⟨zval_w (x3 + 1), trivial⟩⟩⟩⟩ (rfl) (hr7 x0 hx0 x1 (zw (x2 + v5)) (zw_rg (x2 + v5)) (zw (x3 + 1)) (zw_rg (x3 + 1)) A)
    · refine js_iinc (pc1 := 41) (L1 := [some (.inr (.inr (some x0))), some (.inr (.inr (some x1))), some (.inl x2), some (.inl (x3 + 1))]) rfl rfl rfl rfl ?_
      refine js_goto (t1 := 7) rfl rfl ?_
      exact zG_to (L := [some (.inr (.inr (some x0))), some (.inr (.inr (some x1))), some (.inl x2), some (.inl (zw (x3 + 1)))]) (S := []) ⟨rfl, ⟨rfl, ⟨rfl, ⟨zval_w (x3 + 1), trivial⟩⟩⟩⟩ (rfl) (hr7 x0 hx0 x1 x2 hx2 (zw (x3 + 1)) (zw_rg (x3 + 1)) A)
  · refine js_iload (pc1 := 45) rfl rfl rfl ?_
    exact je_P rfl (zfit0 _ rfl) rfl hx2
theorem z_Ro_sizeOf_7_lok{d w : Nat} (N : Nat) (hd : 1 ≤ d) (hw : 23 ≤ w) (n : Nat) : ∀ (x0 : Nat) (hx0 : zsh x0 = some (false, 3, 4)) (x1 : Nat) (x2 : Int) (hx2 : zrg x2) (x3 : Int) (hx3 : zrg x3) (A : zA), zG (z_Ro_sizeOf_7_l N n x0 x1 x2 x3 A) (zPp A) d w 132 7 [some (.inr (.inr (some x0))), some (.inr (.inr (some x1))), some (.inl x2), some (.inl x3)] [] A := by
  induction n with
  | zero => intros; exact zG_none
  | succ n ih =>
    intro x0 hx0 x1 x2 hx2 x3 hx3 A
    exact z_Ro_sizeOf_7_bok ih N hd hw x0 hx0 x1 x2 hx2 x3 hx3 A
theorem z_Ro_sizeOf_7_ok{d w : Nat} (N : Nat) (hd : 1 ≤ d) (hw : 23 ≤ w) (x0 : Nat) (hx0 : zsh x0 = some (false, 3, 4)) (x1 : Nat) (x2 : Int) (hx2 : zrg x2) (x3 : Int) (hx3 : zrg x3) (A : zA) : zG (z_Ro_sizeOf_7 N x0 x1 x2 x3 A) (zPp A) d w 132 7 [some (.inr (.inr (some x0))), some (.inr (.inr (some x1))), some (.inl x2), some (.inl x3)] [] A := z_Ro_sizeOf_7_lok N hd hw N x0 hx0 x1 x2 hx2 x3 hx3 A
theorem z_Ro_sizeOf_ok{d w : Nat} (N : Nat) (hd : 1 ≤ d) (hw : 23 ≤ w) (x0 : Nat) (hx0 : zsh x0 = some (false, 3, 4)) (x1 : Nat) (A : zA) : zG (z_Ro_sizeOf N x0 x1 A) (zPp A) d w 132 0 [some (.inr (.inr (some x0))), some (.inr (.inr (some x1))), none, none] [] A := by
  unfold z_Ro_sizeOf
  refine js_aload (pc1 := 1) rfl rfl rfl ?_
  refine js_gi (pc1 := 4) (j := 2) rfl rfl hx0 rfl ?_
  refine js_istore (pc1 := 5) (L1 := [some (.inr (.inr (some x0))), some (.inr (.inr (some x1))), some (.inl (zi A x0 2)), none]) rfl rfl rfl rfl ?_
  refine js_iconst (pc1 := 6) rfl rfl ?_
  refine js_istore (pc1 := 7) (L1 := [some (.inr (.inr (some x0))), some (.inr (.inr (some x1))), some (.inl (zi A x0 2)), some (.inl 0)]) rfl rfl rfl rfl ?_
  exact z_Ro_sizeOf_7_ok N hd hw x0 hx0 x1 (zi A x0 2) (zi_rg _ _ _) 0 (zlit rfl) A
theorem z_Pt_mate_ok{d w : Nat} (N : Nat) (hd : 0 ≤ d) (hw : 0 ≤ w) (x0 : Nat) (hx0 : zsh x0 = some (false, 3, 4)) (x1 : Int) (hx1 : zrg x1) (A : zA) : zG (z_Pt_mate N x0 x1 A) (zPp A) d w 162 0 [some (.inr (.inr (some x0))), some (.inl x1)] [] A := by
  unfold z_Pt_mate
  refine js_iload (pc1 := 1) rfl rfl rfl ?_
  refine ju_lt (pc1 := 4) (t1 := 21) hx1 rfl rfl rfl (fun c1 => ?_) (fun c1 => ?_)
  · refine js_iload (pc1 := 22) rfl rfl rfl ?_
    exact je_P rfl (zfit0 _ rfl) rfl hx1
  · refine js_iload (pc1 := 5) rfl rfl rfl ?_
    refine js_aload (pc1 := 6) rfl rfl rfl ?_
    refine js_gi (pc1 := 9) (j := 2) rfl rfl hx0 rfl ?_
    refine jt_ge (pc1 := 12) (t1 := 21) hx1 (zi_rg _ _ _) rfl rfl rfl (fun c2 => ?_) (fun c2 => ?_)
    · refine js_aload (pc1 := 13) rfl rfl rfl ?_
      refine jt_gr (pc1 := 16) (j := 1) rfl rfl hx0 rfl (fun p3 => ?_)
      refine js_iload (pc1 := 17) rfl rfl rfl ?_
      refine jt_aldD (pc1 := 18) rfl rfl (fun v4 hv4 => ?_)
      refine js_goto (t1 := 22) rfl rfl ?_
      exact je_P rfl (zfit0 _ rfl) rfl hv4
    · refine js_iload (pc1 := 22) rfl rfl rfl ?_
      exact je_P rfl (zfit0 _ rfl) rfl hx1
theorem z_Ro_whileDepth_71_ok{d w : Nat} {r7 : Nat → Nat → Int → Int → Int → zA → Option Int} (hr7 : ∀ (x0 : Nat) (hx0 : zsh x0 = some (false, 3, 4)) (x1 : Nat) (x2 : Int) (hx2 : zrg x2) (x3 : Int) (hx3 : zrg x3) (x4 : Int) (hx4 : zrg x4) (A : zA), zG (r7 x0 x1 x2 x3 x4 A) (zPp A) d w 133 7 [some (.inr (.inr (some x0))), some (.inr (.inr (some x1))), some (.inl x2), some (.inl x3), some (.inl x4)] [] A) (N : Nat) (hd : 1 ≤ d) (hw : 64 ≤ w) (x0 : Nat) (hx0 : zsh x0 = some (false, 3, 4)) (x1 : Nat) (x2 : Int) (hx2 : zrg x2) (x3 : Int) (hx3 : zrg x3) (x4 : Int) (hx4 : zrg x4) (A : zA) : zG (z_Ro_whileDepth_71 r7 N x0 x1 x2 x3 x4 A) (zPp A) d w 133 71 [some (.inr (.inr (some x0))), some (.inr (.inr (some x1))), some (.inl x2), some (.inl x3), some (.inl x4)] [] A := by
  unfold z_Ro_whileDepth_71
  refine js_aload (pc1 := 72) rfl rfl rfl ?_
  refine js_iload (pc1 := 74) rfl rfl rfl ?_
  refine js_cP (pc1 := 77) (as := [(.inr (.inr (some x0))), (.inl x4)]) (S0 := []) (m := 2) (L0 := [some (.inr (.inr (some x0))), some (.inl x4)]) rfl rfl rfl rfl rfl rfl rfl rfl (zrc_o rfl hx0) (by omega) (by omega) (z_Pt_kind_ok N (by omega) (by omega) x0 hx0 x4 hx4 A) (fun v1 _ hv1 => ?_)
  refine js_iconst (pc1 := 79) rfl rfl ?_
  refine jt_ne (pc1 := 82) (t1 := 100) hv1 (zlit rfl) rfl rfl rfl (fun c2 => ?_) (fun c2 => ?_)
  · refine js_iload (pc1 := 83) rfl rfl rfl ?_
    refine js_iload (pc1 := 84) rfl rfl rfl ?_
    refine js_aload (pc1 := 85) rfl rfl rfl ?_
    refine js_aload (pc1 := 86) rfl rfl rfl ?_
    refine js_iload (pc1 := 88) rfl rfl rfl ?_
    refine js_iconst (pc1 := 89) rfl rfl ?_
    refine js_cP (pc1 := 92) (as := [(.inr (.inr (some x0))), (.inl x4), (.inl 1)]) (S0 := [(.inr (.inr (some x1))), (.inl x2), (.inl x3)]) (m := 4) (L0 := [some (.inr (.inr (some x0))), some (.inl x4), some (.inl 1), none]) rfl rfl rfl rfl rfl rfl rfl rfl (zrc_o rfl hx0) (by omega) (by omega) (z_Pt_number_ok N (by omega) (by omega) x0 hx0 x4 hx4 1 (zlit rfl) A) (fun v3 _ hv3 => ?_)
    refine js_cP (pc1 := 95) (as := [(.inr (.inr (some x1))), (.inl v3)]) (S0 := [(.inl x2), (.inl x3)]) (m := 2) (L0 := [some (.inr (.inr (some x1))), some (.inl v3)]) rfl rfl rfl rfl rfl rfl rfl rfl (zrc_s rfl) (by omega) (by omega) (z_Ro_ofCalled_ok N (by omega) (by omega) x1 v3 hv3 A) (fun v4 _ hv4 => ?_)
    refine js_iadd (pc1 := 96) rfl rfl ?_
    refine zG_w1 ?_
    refine jt_max (pc1 := 99) rfl rfl hx3 (zw_rg (x2 + v4)) (by omega) (by omega) rfl ?_
    refine js_istore (pc1 := 100) (L1 := [some (.inr (.inr (some x0))), some (.inr (.inr (some x1))), some (.inl x2), some (.inl (zmx x3 (zw (x2 + v4)))), some (.inl x4)]) rfl rfl rfl rfl ?_
    refine js_iinc (pc1 := 103) (L1 := [some (.inr (.inr (some x0))), some (.inr (.inr (some x1))), some (.inl x2), some (.inl (zmx x3 (zw (x2 + v4)))), some (.inl (x4 + 1))]) rfl rfl rfl rfl ?_
    refine js_goto (t1 := 7) rfl rfl ?_
    exact zG_to (L := [some (.inr (.inr (some x0))), some (.inr (.inr (some x1))), some (.inl x2), some (.inl (zmx x3 (zw (x2 + v4)))), some (.inl (zw (x4 + 1)))]) (S := []) ⟨rfl, ⟨rfl, ⟨rfl, ⟨rfl, ⟨zval_w (x4 + 1), trivial⟩⟩⟩⟩⟩ (rfl) (hr7 x0 hx0 x1 x2 hx2 (zmx x3 (zw (x2 + v4))) (zmx_rg hx3 (zw_rg (x2 + v4))) (zw (x4 + 1)) (zw_rg (x4 + 1)) A)
  · refine js_iinc (pc1 := 103) (L1 := [some (.inr (.inr (some x0))), some (.inr (.inr (some x1))), some (.inl x2), some (.inl x3), some (.inl (x4 + 1))]) rfl rfl rfl rfl ?_
    refine js_goto (t1 := 7) rfl rfl ?_
    exact zG_to (L := [some (.inr (.inr (some x0))), some (.inr (.inr (some x1))), some (.inl x2), some (.inl x3), some (.inl (zw (x4 + 1)))]) (S := []) ⟨rfl, ⟨rfl, ⟨rfl, ⟨rfl, ⟨zval_w (x4 + 1), trivial⟩⟩⟩⟩⟩ (rfl) (hr7 x0 hx0 x1 x2 hx2 x3 hx3 (zw (x4 + 1)) (zw_rg (x4 + 1)) A)
theorem z_Ro_whileDepth_7_bok{d w : Nat} {r7 : Nat → Nat → Int → Int → Int → zA → Option Int} (hr7 : ∀ (x0 : Nat) (hx0 : zsh x0 = some (false, 3, 4)) (x1 : Nat) (x2 : Int) (hx2 : zrg x2) (x3 : Int) (hx3 : zrg x3) (x4 : Int) (hx4 : zrg x4) (A : zA), zG (r7 x0 x1 x2 x3 x4 A) (zPp A) d w 133 7 [some (.inr (.inr (some x0))), some (.inr (.inr (some x1))), some (.inl x2), some (.inl x3), some (.inl x4)] [] A) (N : Nat) (hd : 1 ≤ d) (hw : 64 ≤ w) (x0 : Nat) (hx0 : zsh x0 = some (false, 3, 4)) (x1 : Nat) (x2 : Int) (hx2 : zrg x2) (x3 : Int) (hx3 : zrg x3) (x4 : Int) (hx4 : zrg x4) (A : zA) : zG (z_Ro_whileDepth_7_b r7 N x0 x1 x2 x3 x4 A) (zPp A) d w 133 7 [some (.inr (.inr (some x0))), some (.inr (.inr (some x1))), some (.inl x2), some (.inl x3), some (.inl x4)] [] A := by
  unfold z_Ro_whileDepth_7_b
  refine js_iload (pc1 := 9) rfl rfl rfl ?_
  refine js_aload (pc1 := 10) rfl rfl rfl ?_
  refine js_gi (pc1 := 13) (j := 2) rfl rfl hx0 rfl ?_
  refine jt_ge (pc1 := 16) (t1 := 106) hx4 (zi_rg _ _ _) rfl rfl rfl (fun c1 => ?_) (fun c1 => ?_)
  · refine js_aload (pc1 := 17) rfl rfl rfl ?_
    refine js_iload (pc1 := 19) rfl rfl rfl ?_
    refine js_cP (pc1 := 22) (as := [(.inr (.inr (some x0))), (.inl x4)]) (S0 := []) (m := 2) (L0 := [some (.inr (.inr (some x0))), some (.inl x4)]) rfl rfl rfl rfl rfl rfl rfl rfl (zrc_o rfl hx0) (by omega) (by omega) (z_Pt_kind_ok N (by omega) (by omega) x0 hx0 x4 hx4 A) (fun v2 _ hv2 => ?_)
    refine js_iconst (pc1 := 24) rfl rfl ?_
    refine jt_ne (pc1 := 27) (t1 := 39) hv2 (zlit rfl) rfl rfl rfl (fun c3 => ?_) (fun c3 => ?_)
    · refine js_iinc (pc1 := 30) (L1 := [some (.inr (.inr (some x0))), some (.inr (.inr (some x1))), some (.inl (x2 + 1)), some (.inl x3), some (.inl x4)]) rfl rfl rfl rfl ?_
      refine js_iload (pc1 := 31) rfl rfl rfl ?_
      refine js_iload (pc1 := 32) rfl rfl rfl ?_
      refine zG_w1 ?_
      refine jt_max (pc1 := 35) rfl rfl hx3 (zw_rg (x2 + 1)) (by omega) (by omega) rfl ?_
      refine js_istore (pc1 := 36) (L1 := [some (.inr (.inr (some x0))), some (.inr (.inr (some x1))), some (.inl (x2 + 1)), some (.inl (zmx x3 (zw (x2 + 1)))), some (.inl x4)]) rfl rfl rfl rfl ?_
      refine js_goto (t1 := 100) rfl rfl ?_
      refine js_iinc (pc1 := 103) (L1 := [some (.inr (.inr (some x0))), some (.inr (.inr (some x1))), some (.inl (x2 + 1)), some (.inl (zmx x3 (zw (x2 + 1)))), some (.inl (x4 + 1))]) rfl rfl rfl rfl ?_
      refine js_goto (t1 := 7) rfl rfl ?_
      exact zG_to (L := [some (.inr (.inr (some x0))), some (.inr (.inr (some x1))), some (.inl (zw (x2 + 1))), some (.inl (zmx x3 (zw (x2 + 1)))), some (.inl (zw (x4 + 1)))]) (S := []) ⟨rfl, ⟨rfl, ⟨zval_w (x2 + 1), ⟨rfl, ⟨zval_w (x4 + 1), trivial⟩⟩⟩⟩⟩ (rfl) (hr7 x0 hx0 x1 (zw (x2 + 1)) (zw_rg (x2 + 1)) (zmx x3 (zw (x2 + 1))) (zmx_rg hx3 (zw_rg (x2 + 1))) (zw (x4 + 1)) (zw_rg (x4 + 1)) A)
    · refine js_aload (pc1 := 40) rfl rfl rfl ?_
      refine js_iload (pc1 := 42) rfl rfl rfl ?_
      refine js_cP (pc1 := 45) (as := [(.inr (.inr (some x0))), (.inl x4)]) (S0 := []) (m := 2) (L0 := [some (.inr (.inr (some x0))), some (.inl x4)]) rfl rfl rfl rfl rfl rfl rfl rfl (zrc_o rfl hx0) (by omega) (by omega) (z_Pt_kind_ok N (by omega) (by omega) x0 hx0 x4 hx4 A) (fun v4 _ hv4 => ?_)
      refine js_iconst (pc1 := 47) rfl rfl ?_
      refine jt_ne (pc1 := 50) (t1 := 71) hv4 (zlit rfl) rfl rfl rfl (fun c5 => ?_) (fun c5 => ?_)
      · refine js_aload (pc1 := 51) rfl rfl rfl ?_
        refine js_aload (pc1 := 52) rfl rfl rfl ?_
        refine js_iload (pc1 := 54) rfl rfl rfl ?_
        refine js_cP (pc1 := 57) (as := [(.inr (.inr (some x0))), (.inl x4)]) (S0 := [(.inr (.inr (some x0)))]) (m := 2) (L0 := [some (.inr (.inr (some x0))), some (.inl x4)]) rfl rfl rfl rfl rfl rfl rfl rfl (zrc_o rfl hx0) (by omega) (by omega) (z_Pt_mate_ok N (by omega) (by omega) x0 hx0 x4 hx4 A) (fun v6 _ hv6 => ?_)
        refine js_cP (pc1 := 60) (as := [(.inr (.inr (some x0))), (.inl v6)]) (S0 := []) (m := 2) (L0 := [some (.inr (.inr (some x0))), some (.inl v6)]) rfl rfl rfl rfl rfl rfl rfl rfl (zrc_o rfl hx0) (by omega) (by omega) (z_Pt_kind_ok N (by omega) (by omega) x0 hx0 v6 hv6 A) (fun v7 _ hv7 => ?_)
        refine js_iconst (pc1 := 62) rfl rfl ?_
        refine jt_ne (pc1 := 65) (t1 := 71) hv7 (zlit rfl) rfl rfl rfl (fun c8 => ?_) (fun c8 => ?_)
        · refine js_iinc (pc1 := 68) (L1 := [some (.inr (.inr (some x0))), some (.inr (.inr (some x1))), some (.inl (x2 + (-1))), some (.inl x3), some (.inl x4)]) rfl rfl rfl rfl ?_
          refine js_goto (t1 := 100) rfl rfl ?_
          refine js_iinc (pc1 := 103) (L1 := [some (.inr (.inr (some x0))), some (.inr (.inr (some x1))), some (.inl (x2 + (-1))), some (.inl x3), some (.inl (x4 + 1))]) rfl rfl rfl rfl ?_
          refine js_goto (t1 := 7) rfl rfl ?_
          exact zG_to (L := [some (.inr (.inr (some x0))), some (.inr (.inr (some x1))), some (.inl (zw (x2 + (-1)))), some (.inl x3), some (.inl (zw (x4 + 1)))]) (S := []) ⟨rfl, ⟨rfl, ⟨zval_w (x2 + (-1)), ⟨rfl, ⟨zval_w (x4 + 1), trivial⟩⟩⟩⟩⟩ (rfl) (hr7 x0 hx0 x1 (zw (x2 + (-1))) (zw_rg (x2 + (-1))) x3 hx3 (zw (x4 + 1)) (zw_rg (x4 + 1)) A)
        · exact z_Ro_whileDepth_71_ok hr7 N hd hw x0 hx0 x1 x2 hx2 x3 hx3 x4 hx4 A
      · exact z_Ro_whileDepth_71_ok hr7 N hd hw x0 hx0 x1 x2 hx2 x3 hx3 x4 hx4 A
  · refine js_iload (pc1 := 107) rfl rfl rfl ?_
    exact je_P rfl (zfit0 _ rfl) rfl hx3
theorem z_Ro_whileDepth_7_lok{d w : Nat} (N : Nat) (hd : 1 ≤ d) (hw : 64 ≤ w) (n : Nat) : ∀ (x0 : Nat) (hx0 : zsh x0 = some (false, 3, 4)) (x1 : Nat) (x2 : Int) (hx2 : zrg x2) (x3 : Int) (hx3 : zrg x3) (x4 : Int) (hx4 : zrg x4) (A : zA), zG (z_Ro_whileDepth_7_l N n x0 x1 x2 x3 x4 A) (zPp A) d w 133 7 [some (.inr (.inr (some x0))), some (.inr (.inr (some x1))), some (.inl x2), some (.inl x3), some (.inl x4)] [] A := by
  induction n with
  | zero => intros; exact zG_none
  | succ n ih =>
    intro x0 hx0 x1 x2 hx2 x3 hx3 x4 hx4 A
    exact z_Ro_whileDepth_7_bok ih N hd hw x0 hx0 x1 x2 hx2 x3 hx3 x4 hx4 A
theorem z_Ro_whileDepth_7_ok{d w : Nat} (N : Nat) (hd : 1 ≤ d) (hw : 64 ≤ w) (x0 : Nat) (hx0 : zsh x0 = some (false, 3, 4)) (x1 : Nat) (x2 : Int) (hx2 : zrg x2) (x3 : Int) (hx3 : zrg x3) (x4 : Int) (hx4 : zrg x4) (A : zA) : zG (z_Ro_whileDepth_7 N x0 x1 x2 x3 x4 A) (zPp A) d w 133 7 [some (.inr (.inr (some x0))), some (.inr (.inr (some x1))), some (.inl x2), some (.inl x3), some (.inl x4)] [] A := z_Ro_whileDepth_7_lok N hd hw N x0 hx0 x1 x2 hx2 x3 hx3 x4 hx4 A
theorem z_Ro_whileDepth_ok{d w : Nat} (N : Nat) (hd : 1 ≤ d) (hw : 64 ≤ w) (x0 : Nat) (hx0 : zsh x0 = some (false, 3, 4)) (x1 : Nat) (A : zA) : zG (z_Ro_whileDepth N x0 x1 A) (zPp A) d w 133 0 [some (.inr (.inr (some x0))), some (.inr (.inr (some x1))), none, none, none] [] A := by
  unfold z_Ro_whileDepth
  refine js_iconst (pc1 := 1) rfl rfl ?_
  refine js_istore (pc1 := 2) (L1 := [some (.inr (.inr (some x0))), some (.inr (.inr (some x1))), some (.inl 0), none, none]) rfl rfl rfl rfl ?_
  refine js_iconst (pc1 := 3) rfl rfl ?_
  refine js_istore (pc1 := 4) (L1 := [some (.inr (.inr (some x0))), some (.inr (.inr (some x1))), some (.inl 0), some (.inl 0), none]) rfl rfl rfl rfl ?_
  refine js_iconst (pc1 := 5) rfl rfl ?_
  refine js_istore (pc1 := 7) (L1 := [some (.inr (.inr (some x0))), some (.inr (.inr (some x1))), some (.inl 0), some (.inl 0), some (.inl 0)]) rfl rfl rfl rfl ?_
  exact z_Ro_whileDepth_7_ok N hd hw x0 hx0 x1 0 (zlit rfl) 0 (zlit rfl) 0 (zlit rfl) A
theorem z_Ro_withinLimits_13_bok{d w : Nat} {r13 : Nat → Nat → Nat → Int → Int → zA → Option (Int × zA)} (hr13 : ∀ (x0 : Nat) (hx0 : zsh x0 = some (false, 2, 2)) (x1 : Nat) (x2 : Nat) (x3 : Int) (hx3 : zrg x3) (x4 : Int) (hx4 : zrg x4) (A : zA), zG (r13 x0 x1 x2 x3 x4 A) zPI d w 79 13 [some (.inr (.inr (some x0))), some (.inr (.inr (some x1))), some (.inr (.inr (some x2))), some (.inl x3), some (.inl x4)] [] A) (N : Nat) (hd : 2 ≤ d) (hw : 88 ≤ w) (x0 : Nat) (hx0 : zsh x0 = some (false, 2, 2)) (x1 : Nat) (x2 : Nat) (x3 : Int) (hx3 : zrg x3) (x4 : Int) (hx4 : zrg x4) (A : zA) : zG (z_Ro_withinLimits_13_b r13 N x0 x1 x2 x3 x4 A) zPI d w 79 13 [some (.inr (.inr (some x0))), some (.inr (.inr (some x1))), some (.inr (.inr (some x2))), some (.inl x3), some (.inl x4)] [] A := by
  unfold z_Ro_withinLimits_13_b
  refine js_iload (pc1 := 15) rfl rfl rfl ?_
  refine js_iconst (pc1 := 16) rfl rfl ?_
  refine jt_ge (pc1 := 19) (t1 := 107) hx4 (zlit rfl) rfl rfl rfl (fun c1 => ?_) (fun c1 => ?_)
  · refine js_aload (pc1 := 20) rfl rfl rfl ?_
    refine js_iload (pc1 := 22) rfl rfl rfl ?_
    refine js_cP (pc1 := 25) (as := [(.inr (.inr (some x0))), (.inl x4)]) (S0 := []) (m := 2) (L0 := [some (.inr (.inr (some x0))), some (.inl x4)]) rfl rfl rfl rfl rfl rfl rfl rfl (zrc_o rfl hx0) (by omega) (by omega) (z_Ro_has_ok N (by omega) (by omega) x0 hx0 x4 hx4 A) (fun v2 _ hv2 => ?_)
    refine ju_eq (pc1 := 28) (t1 := 101) hv2 rfl rfl rfl (fun c3 => ?_) (fun c3 => ?_)
    · refine js_iinc (pc1 := 104) (L1 := [some (.inr (.inr (some x0))), some (.inr (.inr (some x1))), some (.inr (.inr (some x2))), some (.inl x3), some (.inl (x4 + 1))]) rfl rfl rfl rfl ?_
      refine js_goto (t1 := 13) rfl rfl ?_
      exact zG_to (L := [some (.inr (.inr (some x0))), some (.inr (.inr (some x1))), some (.inr (.inr (some x2))), some (.inl x3), some (.inl (zw (x4 + 1)))]) (S := []) ⟨rfl, ⟨rfl, ⟨rfl, ⟨rfl, ⟨zval_w (x4 + 1), trivial⟩⟩⟩⟩⟩ (rfl) (hr13 x0 hx0 x1 x2 x3 hx3 (zw (x4 + 1)) (zw_rg (x4 + 1)) A)
    · refine js_aload (pc1 := 29) rfl rfl rfl ?_
      refine js_iload (pc1 := 31) rfl rfl rfl ?_
      refine js_aload (pc1 := 32) rfl rfl rfl ?_
      refine jt_gf (pc1 := 35) (j := 0) rfl rfl hx0 rfl (fun p4 => ?_)
      refine js_iload (pc1 := 37) rfl rfl rfl ?_
      refine jt_aald (pc1 := 38) rfl rfl (fun p5 => ?_)
      refine zG_cs (fun hp5 => ?_)
      refine js_aload (pc1 := 39) rfl rfl rfl ?_
      refine js_cP (pc1 := 42) (as := [(.inr (.inr (some p5))), (.inr (.inr (some x1)))]) (S0 := [(.inl x4), (.inr (.inr (some x1)))]) (m := 4) (L0 := [some (.inr (.inr (some p5))), some (.inr (.inr (some x1))), none, none]) rfl rfl rfl rfl rfl rfl rfl rfl (zrc_s rfl) (by omega) (by omega) (z_Ro_sizeOf_ok N (by omega) (by omega) p5 hp5 x1 A) (fun v6 _ hv6 => ?_)
      refine jt_iasD (pc1 := 43) rfl rfl (fun A7 => ?_)
      refine js_aload (pc1 := 44) rfl rfl rfl ?_
      refine js_iload (pc1 := 46) rfl rfl rfl ?_
      refine js_aload (pc1 := 47) rfl rfl rfl ?_
      refine jt_gf (pc1 := 50) (j := 0) rfl rfl hx0 rfl (fun p8 => ?_)
      refine js_iload (pc1 := 52) rfl rfl rfl ?_
      refine jt_aald (pc1 := 53) rfl rfl (fun p9 => ?_)
      refine zG_cs (fun hp9 => ?_)
      refine js_aload (pc1 := 54) rfl rfl rfl ?_
      refine js_cP (pc1 := 57) (as := [(.inr (.inr (some p9))), (.inr (.inr (some x2)))]) (S0 := [(.inl x4), (.inr (.inr (some x2)))]) (m := 5) (L0 := [some (.inr (.inr (some p9))), some (.inr (.inr (some x2))), none, none, none]) rfl rfl rfl rfl rfl rfl rfl rfl (zrc_s rfl) (by omega) (by omega) (z_Ro_whileDepth_ok N (by omega) (by omega) p9 hp9 x2 A7) (fun v10 _ hv10 => ?_)
      refine jt_iasD (pc1 := 58) rfl rfl (fun A11 => ?_)
      refine js_iload (pc1 := 59) rfl rfl rfl ?_
      refine ju_eq (pc1 := 62) (t1 := 99) hx3 rfl rfl rfl (fun c12 => ?_) (fun c12 => ?_)
      · refine js_iconst (pc1 := 100) rfl rfl ?_
        refine js_istore (pc1 := 101) (L1 := [some (.inr (.inr (some x0))), some (.inr (.inr (some x1))), some (.inr (.inr (some x2))), some (.inl 0), some (.inl x4)]) rfl rfl rfl rfl ?_
        refine js_iinc (pc1 := 104) (L1 := [some (.inr (.inr (some x0))), some (.inr (.inr (some x1))), some (.inr (.inr (some x2))), some (.inl 0), some (.inl (x4 + 1))]) rfl rfl rfl rfl ?_
        refine js_goto (t1 := 13) rfl rfl ?_
        exact zG_to (L := [some (.inr (.inr (some x0))), some (.inr (.inr (some x1))), some (.inr (.inr (some x2))), some (.inl 0), some (.inl (zw (x4 + 1)))]) (S := []) ⟨rfl, ⟨rfl, ⟨rfl, ⟨rfl, ⟨zval_w (x4 + 1), trivial⟩⟩⟩⟩⟩ (rfl) (hr13 x0 hx0 x1 x2 0 (zlit rfl) (zw (x4 + 1)) (zw_rg (x4 + 1)) A11)
      · refine js_aload (pc1 := 63) rfl rfl rfl ?_
        refine jt_gf (pc1 := 66) (j := 0) rfl rfl hx0 rfl (fun p13 => ?_)
        refine js_iload (pc1 := 68) rfl rfl rfl ?_
        refine jt_aald (pc1 := 69) rfl rfl (fun p14 => ?_)
        refine zG_cs (fun hp14 => ?_)
        refine js_gi (pc1 := 72) (j := 3) rfl rfl hp14 rfl ?_
        refine js_iconst (pc1 := 74) rfl rfl ?_
        refine jt_gt (pc1 := 77) (t1 := 99) (zi_rg _ _ _) (zlit rfl) rfl rfl rfl (fun c15 => ?_) (fun c15 => ?_)
        · refine js_iconst (pc1 := 100) rfl rfl ?_
          refine js_istore (pc1 := 101) (L1 := [some (.inr (.inr (some x0))), some (.inr (.inr (some x1))), some (.inr (.inr (some x2))), some (.inl 0), some (.inl x4)]) rfl rfl rfl rfl ?_
          refine js_iinc (pc1 := 104) (L1 := [some (.inr (.inr (some x0))), some (.inr (.inr (some x1))), some (.inr (.inr (some x2))), some (.inl 0), some (.inl (x4 + 1))]) rfl rfl rfl rfl ?_
          refine js_goto (t1 := 13) rfl rfl ?_
          exact zG_to (L := [some (.inr (.inr (some x0))), some (.inr (.inr (some x1))), some (.inr (.inr (some x2))), some (.inl 0), some (.inl (zw (x4 + 1)))]) (S := []) ⟨rfl, ⟨rfl, ⟨rfl, ⟨rfl, ⟨zval_w (x4 + 1), trivial⟩⟩⟩⟩⟩ (rfl) (hr13 x0 hx0 x1 x2 0 (zlit rfl) (zw (x4 + 1)) (zw_rg (x4 + 1)) A11)
        · refine js_aload (pc1 := 78) rfl rfl rfl ?_
          refine js_iload (pc1 := 80) rfl rfl rfl ?_
          refine jt_aldD (pc1 := 81) rfl rfl (fun v16 hv16 => ?_)
          refine js_iconst (pc1 := 84) rfl rfl ?_
          refine jt_gt (pc1 := 87) (t1 := 99) hv16 (zlit rfl) rfl rfl rfl (fun c17 => ?_) (fun c17 => ?_)
          · refine js_iconst (pc1 := 100) rfl rfl ?_
            refine js_istore (pc1 := 101) (L1 := [some (.inr (.inr (some x0))), some (.inr (.inr (some x1))), some (.inr (.inr (some x2))), some (.inl 0), some (.inl x4)]) rfl rfl rfl rfl ?_
            refine js_iinc (pc1 := 104) (L1 := [some (.inr (.inr (some x0))), some (.inr (.inr (some x1))), some (.inr (.inr (some x2))), some (.inl 0), some (.inl (x4 + 1))]) rfl rfl rfl rfl ?_
            refine js_goto (t1 := 13) rfl rfl ?_
            exact zG_to (L := [some (.inr (.inr (some x0))), some (.inr (.inr (some x1))), some (.inr (.inr (some x2))), some (.inl 0), some (.inl (zw (x4 + 1)))]) (S := []) ⟨rfl, ⟨rfl, ⟨rfl, ⟨rfl, ⟨zval_w (x4 + 1), trivial⟩⟩⟩⟩⟩ (rfl) (hr13 x0 hx0 x1 x2 0 (zlit rfl) (zw (x4 + 1)) (zw_rg (x4 + 1)) A11)
          · refine js_aload (pc1 := 88) rfl rfl rfl ?_
            refine js_iload (pc1 := 90) rfl rfl rfl ?_
            refine jt_aldD (pc1 := 91) rfl rfl (fun v18 hv18 => ?_)
            refine js_iconst (pc1 := 92) rfl rfl ?_
            refine jt_gt (pc1 := 95) (t1 := 99) hv18 (zlit rfl) rfl rfl rfl (fun c19 => ?_) (fun c19 => ?_)
            · refine js_iconst (pc1 := 100) rfl rfl ?_
              refine js_istore (pc1 := 101) (L1 := [some (.inr (.inr (some x0))), some (.inr (.inr (some x1))), some (.inr (.inr (some x2))), some (.inl 0), some (.inl x4)]) rfl rfl rfl rfl ?_
              refine js_iinc (pc1 := 104) (L1 := [some (.inr (.inr (some x0))), some (.inr (.inr (some x1))), some (.inr (.inr (some x2))), some (.inl 0), some (.inl (x4 + 1))]) rfl rfl rfl rfl ?_
              refine js_goto (t1 := 13) rfl rfl ?_
              exact zG_to (L := [some (.inr (.inr (some x0))), some (.inr (.inr (some x1))), some (.inr (.inr (some x2))), some (.inl 0), some (.inl (zw (x4 + 1)))]) (S := []) ⟨rfl, ⟨rfl, ⟨rfl, ⟨rfl, ⟨zval_w (x4 + 1), trivial⟩⟩⟩⟩⟩ (rfl) (hr13 x0 hx0 x1 x2 0 (zlit rfl) (zw (x4 + 1)) (zw_rg (x4 + 1)) A11)
            · refine js_iconst (pc1 := 96) rfl rfl ?_
              refine js_goto (t1 := 100) rfl rfl ?_
              refine js_istore (pc1 := 101) (L1 := [some (.inr (.inr (some x0))), some (.inr (.inr (some x1))), some (.inr (.inr (some x2))), some (.inl 1), some (.inl x4)]) rfl rfl rfl rfl ?_
              refine js_iinc (pc1 := 104) (L1 := [some (.inr (.inr (some x0))), some (.inr (.inr (some x1))), some (.inr (.inr (some x2))), some (.inl 1), some (.inl (x4 + 1))]) rfl rfl rfl rfl ?_
              refine js_goto (t1 := 13) rfl rfl ?_
              exact zG_to (L := [some (.inr (.inr (some x0))), some (.inr (.inr (some x1))), some (.inr (.inr (some x2))), some (.inl 1), some (.inl (zw (x4 + 1)))]) (S := []) ⟨rfl, ⟨rfl, ⟨rfl, ⟨rfl, ⟨zval_w (x4 + 1), trivial⟩⟩⟩⟩⟩ (rfl) (hr13 x0 hx0 x1 x2 1 (zlit rfl) (zw (x4 + 1)) (zw_rg (x4 + 1)) A11)
  · refine js_iload (pc1 := 108) rfl rfl rfl ?_
    exact zG_ite (fun h => je_I rfl (zfit3 rfl h) rfl hx3) (fun _ => zG_none)
