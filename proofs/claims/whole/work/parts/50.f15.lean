theorem z_M_settle_15_ok{d w : Nat} (N : Nat) (hd : 7 ≤ d) (hw : 164 ≤ w) (x1 : Int) (hx1 : zrg x1) (A : zA) : zG (z_M_settle_15 N x1 A) zPI d w 56 15 [some (.inr (.inr (some 226))), some (.inl x1)] [] A := by
  unfold z_M_settle_15
  refine js_aload (pc1 := 16) rfl rfl rfl ?_
  refine js_dupR (pc1 := 17) rfl rfl ?_
  refine js_gi (pc1 := 20) (j := 7) rfl rfl rfl rfl ?_
  refine js_iload (pc1 := 21) rfl rfl rfl ?_
  refine ju_eq (pc1 := 24) (t1 := 28) hx1 rfl rfl rfl (fun c1 => ?_) (fun c1 => ?_)
  · refine js_iconst (pc1 := 29) rfl rfl ?_
    exact z_M_settle_29_ok N hd hw x1 hx1 (zi A 226 7) (zi_rg _ _ _) 0 (zlit rfl) A
  · refine js_iconst (pc1 := 25) rfl rfl ?_
    refine js_goto (t1 := 29) rfl rfl ?_
    exact z_M_settle_29_ok N hd hw x1 hx1 (zi A 226 7) (zi_rg _ _ _) 1 (zlit rfl) A
theorem z_M_settle_ok{d w : Nat} (N : Nat) (hd : 7 ≤ d) (hw : 164 ≤ w) (A : zA) : zG (z_M_settle N A) zPI d w 56 0 [some (.inr (.inr (some 226))), none] [] A := by
  unfold z_M_settle
  refine js_aload (pc1 := 1) rfl rfl rfl ?_
  refine js_cI (pc1 := 4) (as := [(.inr (.inr (some 226)))]) (S0 := []) (m := 3) (L0 := [some (.inr (.inr (some 226))), none, none]) rfl rfl rfl rfl rfl rfl rfl rfl (zrc_o rfl rfl) (by omega) (by omega) (z_M_alike_ok N (by omega) (by omega) A) (fun v1 A2 _ hv1 => ?_)
  refine js_istore (pc1 := 5) (L1 := [some (.inr (.inr (some 226))), some (.inl v1)]) rfl rfl rfl rfl ?_
  refine js_iload (pc1 := 6) rfl rfl rfl ?_
  refine ju_eq (pc1 := 9) (t1 := 15) hv1 rfl rfl rfl (fun c3 => ?_) (fun c3 => ?_)
  · exact z_M_settle_15_ok N hd hw v1 hv1 A2
  · refine js_aload (pc1 := 10) rfl rfl rfl ?_
    refine js_iconst (pc1 := 11) rfl rfl ?_
    refine js_iconst (pc1 := 12) rfl rfl ?_
    refine js_cV (pc1 := 15) (as := [(.inr (.inr (some 226))), (.inl 1), (.inl 0)]) (S0 := []) (m := 4) (L0 := [some (.inr (.inr (some 226))), some (.inl 1), some (.inl 0), none]) rfl rfl rfl rfl rfl rfl rfl rfl (zrc_o rfl rfl) (by omega) (by omega) (z_M_copyState_ok N (by omega) (by omega) 1 (zlit rfl) 0 (zlit rfl) A2) (fun A4 _ => ?_)
    exact z_M_settle_15_ok N hd hw v1 hv1 A4
theorem z_M_pass_14_ok{d w : Nat} (N : Nat) (hd : 8 ≤ d) (hw : 185 ≤ w) (A : zA) : zG (z_M_pass_14 N A) zPI d w 9 14 [some (.inr (.inr (some 226))), none, none] [] A := by
  unfold z_M_pass_14
  refine js_aload (pc1 := 15) rfl rfl rfl ?_
  refine js_iconst (pc1 := 16) rfl rfl ?_
  refine js_cI (pc1 := 19) (as := [(.inr (.inr (some 226))), (.inl 1)]) (S0 := []) (m := 2) (L0 := [some (.inr (.inr (some 226))), some (.inl 1)]) rfl rfl rfl rfl rfl rfl rfl rfl (zrc_o rfl rfl) (by omega) (by omega) (z_M_fail_ok N (by omega) (by omega) 1 (zlit rfl) A) (fun v1 A2 _ hv1 => ?_)
  exact je_I rfl (zfit0 _ rfl) rfl hv1
theorem z_M_pass_111_ok{d w : Nat} (N : Nat) (hd : 8 ≤ d) (hw : 185 ≤ w) (A : zA) : zG (z_M_pass_111 N A) zPI d w 9 111 [some (.inr (.inr (some 226))), none, none] [] A := by
  unfold z_M_pass_111
  refine js_aload (pc1 := 112) rfl rfl rfl ?_
  refine js_gi (pc1 := 115) (j := 33) rfl rfl rfl rfl ?_
  refine js_istore (pc1 := 116) (L1 := [some (.inr (.inr (some 226))), none, some (.inl (zi A 226 33))]) rfl rfl rfl rfl ?_
  refine js_aload (pc1 := 117) rfl rfl rfl ?_
  refine js_cI (pc1 := 120) (as := [(.inr (.inr (some 226)))]) (S0 := []) (m := 2) (L0 := [some (.inr (.inr (some 226))), none]) rfl rfl rfl rfl rfl rfl rfl rfl (zrc_o rfl rfl) (by omega) (by omega) (z_M_settle_ok N (by omega) (by omega) A) (fun v1 A2 _ hv1 => ?_)
  refine ju_eq (pc1 := 123) (t1 := 127) hv1 rfl rfl rfl (fun c3 => ?_) (fun c3 => ?_)
  · refine js_iconst (pc1 := 128) rfl rfl ?_
    exact je_I rfl (zfit0 _ rfl) rfl (zlit rfl)
  · refine js_iload (pc1 := 124) rfl rfl rfl ?_
    refine js_goto (t1 := 128) rfl rfl ?_
    exact je_I rfl (zfit0 _ rfl) rfl (zi_rg _ _ _)
theorem z_M_pass_33_bok{d w : Nat} {r33 : Int → Int → zA → Option (Int × zA)} (hr33 : ∀ (x1 : Int) (hx1 : zrg x1) (x2 : Int) (hx2 : zrg x2) (A : zA), zG (r33 x1 x2 A) zPI d w 9 33 [some (.inr (.inr (some 226))), some (.inl x1), some (.inl x2)] [] A) (N : Nat) (hd : 8 ≤ d) (hw : 185 ≤ w) (x1 : Int) (hx1 : zrg x1) (x2 : Int) (hx2 : zrg x2) (A : zA) : zG (z_M_pass_33_b r33 N x1 x2 A) zPI d w 9 33 [some (.inr (.inr (some 226))), some (.inl x1), some (.inl x2)] [] A := by
  unfold z_M_pass_33_b
  refine js_iload (pc1 := 34) rfl rfl rfl ?_
  refine js_iconst (pc1 := 35) rfl rfl ?_
  refine jt_ge (pc1 := 38) (t1 := 111) hx2 (zlit rfl) rfl rfl rfl (fun c1 => ?_) (fun c1 => ?_)
  · refine js_aload (pc1 := 39) rfl rfl rfl ?_
    refine js_iload (pc1 := 40) rfl rfl rfl ?_
    refine js_cP (pc1 := 43) (as := [(.inr (.inr (some 226))), (.inl x2)]) (S0 := []) (m := 2) (L0 := [some (.inr (.inr (some 226))), some (.inl x2)]) rfl rfl rfl rfl rfl rfl rfl rfl (zrc_o rfl rfl) (by omega) (by omega) (z_M_isThere_ok N (by omega) (by omega) x2 hx2 A) (fun v2 _ hv2 => ?_)
    refine ju_ne (pc1 := 46) (t1 := 49) hv2 rfl rfl rfl (fun c3 => ?_) (fun c3 => ?_)
    · refine js_goto (t1 := 105) rfl rfl ?_
      refine js_iinc (pc1 := 108) (L1 := [some (.inr (.inr (some 226))), some (.inl x1), some (.inl (x2 + 1))]) rfl rfl rfl rfl ?_
      refine js_goto (t1 := 33) rfl rfl ?_
      exact zG_to (L := [some (.inr (.inr (some 226))), some (.inl x1), some (.inl (zw (x2 + 1)))]) (S := []) ⟨rfl, ⟨rfl, ⟨zval_w (x2 + 1), trivial⟩⟩⟩ (rfl) (hr33 x1 hx1 (zw (x2 + 1)) (zw_rg (x2 + 1)) A)
    · refine js_iload (pc1 := 50) rfl rfl rfl ?_
      refine ju_ne (pc1 := 53) (t1 := 61) hx1 rfl rfl rfl (fun c4 => ?_) (fun c4 => ?_)
      · refine js_aload (pc1 := 54) rfl rfl rfl ?_
        refine js_iload (pc1 := 55) rfl rfl rfl ?_
        refine js_cV (pc1 := 58) (as := [(.inr (.inr (some 226))), (.inl x2)]) (S0 := []) (m := 9) (L0 := [some (.inr (.inr (some 226))), some (.inl x2), none, none, none, none, none, none, none]) rfl rfl rfl rfl rfl rfl rfl rfl (zrc_o rfl rfl) (by omega) (by omega) (z_M_constants_ok N (by omega) (by omega) x2 hx2 A) (fun A5 _ => ?_)
        refine js_goto (t1 := 105) rfl rfl ?_
        refine js_iinc (pc1 := 108) (L1 := [some (.inr (.inr (some 226))), some (.inl x1), some (.inl (x2 + 1))]) rfl rfl rfl rfl ?_
        refine js_goto (t1 := 33) rfl rfl ?_
        exact zG_to (L := [some (.inr (.inr (some 226))), some (.inl x1), some (.inl (zw (x2 + 1)))]) (S := []) ⟨rfl, ⟨rfl, ⟨zval_w (x2 + 1), trivial⟩⟩⟩ (rfl) (hr33 x1 hx1 (zw (x2 + 1)) (zw_rg (x2 + 1)) A5)
      · refine js_iload (pc1 := 62) rfl rfl rfl ?_
        refine js_iconst (pc1 := 63) rfl rfl ?_
        refine jt_ne (pc1 := 66) (t1 := 74) hx1 (zlit rfl) rfl rfl rfl (fun c6 => ?_) (fun c6 => ?_)
        · refine js_aload (pc1 := 67) rfl rfl rfl ?_
          refine js_iload (pc1 := 68) rfl rfl rfl ?_
          refine js_cV (pc1 := 71) (as := [(.inr (.inr (some 226))), (.inl x2)]) (S0 := []) (m := 10) (L0 := [some (.inr (.inr (some 226))), some (.inl x2), none, none, none, none, none, none, none, none]) rfl rfl rfl rfl rfl rfl rfl rfl (zrc_o rfl rfl) (by omega) (by omega) (z_M_common_ok N (by omega) (by omega) x2 hx2 A) (fun A7 _ => ?_)
          refine js_goto (t1 := 105) rfl rfl ?_
          refine js_iinc (pc1 := 108) (L1 := [some (.inr (.inr (some 226))), some (.inl x1), some (.inl (x2 + 1))]) rfl rfl rfl rfl ?_
          refine js_goto (t1 := 33) rfl rfl ?_
          exact zG_to (L := [some (.inr (.inr (some 226))), some (.inl x1), some (.inl (zw (x2 + 1)))]) (S := []) ⟨rfl, ⟨rfl, ⟨zval_w (x2 + 1), trivial⟩⟩⟩ (rfl) (hr33 x1 hx1 (zw (x2 + 1)) (zw_rg (x2 + 1)) A7)
        · refine js_iload (pc1 := 75) rfl rfl rfl ?_
          refine js_iconst (pc1 := 76) rfl rfl ?_
          refine jt_ne (pc1 := 79) (t1 := 87) hx1 (zlit rfl) rfl rfl rfl (fun c8 => ?_) (fun c8 => ?_)
          · refine js_aload (pc1 := 80) rfl rfl rfl ?_
            refine js_iload (pc1 := 81) rfl rfl rfl ?_
            refine js_cV (pc1 := 84) (as := [(.inr (.inr (some 226))), (.inl x2)]) (S0 := []) (m := 7) (L0 := [some (.inr (.inr (some 226))), some (.inl x2), none, none, none, none, none]) rfl rfl rfl rfl rfl rfl rfl rfl (zrc_o rfl rfl) (by omega) (by omega) (z_M_dead_ok N (by omega) (by omega) x2 hx2 A) (fun A9 _ => ?_)
            refine js_goto (t1 := 105) rfl rfl ?_
            refine js_iinc (pc1 := 108) (L1 := [some (.inr (.inr (some 226))), some (.inl x1), some (.inl (x2 + 1))]) rfl rfl rfl rfl ?_
            refine js_goto (t1 := 33) rfl rfl ?_
            exact zG_to (L := [some (.inr (.inr (some 226))), some (.inl x1), some (.inl (zw (x2 + 1)))]) (S := []) ⟨rfl, ⟨rfl, ⟨zval_w (x2 + 1), trivial⟩⟩⟩ (rfl) (hr33 x1 hx1 (zw (x2 + 1)) (zw_rg (x2 + 1)) A9)
          · refine js_iload (pc1 := 88) rfl rfl rfl ?_
            refine js_iconst (pc1 := 89) rfl rfl ?_
            refine jt_ne (pc1 := 92) (t1 := 100) hx1 (zlit rfl) rfl rfl rfl (fun c10 => ?_) (fun c10 => ?_)
            · refine js_aload (pc1 := 93) rfl rfl rfl ?_
              refine js_iload (pc1 := 94) rfl rfl rfl ?_
              refine js_cV (pc1 := 97) (as := [(.inr (.inr (some 226))), (.inl x2)]) (S0 := []) (m := 7) (L0 := [some (.inr (.inr (some 226))), some (.inl x2), none, none, none, none, none]) rfl rfl rfl rfl rfl rfl rfl rfl (zrc_o rfl rfl) (by omega) (by omega) (z_M_hoist_ok N (by omega) (by omega) x2 hx2 A) (fun A11 _ => ?_)
              refine js_goto (t1 := 105) rfl rfl ?_
              refine js_iinc (pc1 := 108) (L1 := [some (.inr (.inr (some 226))), some (.inl x1), some (.inl (x2 + 1))]) rfl rfl rfl rfl ?_
              refine js_goto (t1 := 33) rfl rfl ?_
              exact zG_to (L := [some (.inr (.inr (some 226))), some (.inl x1), some (.inl (zw (x2 + 1)))]) (S := []) ⟨rfl, ⟨rfl, ⟨zval_w (x2 + 1), trivial⟩⟩⟩ (rfl) (hr33 x1 hx1 (zw (x2 + 1)) (zw_rg (x2 + 1)) A11)
            · refine js_aload (pc1 := 101) rfl rfl rfl ?_
              refine js_iload (pc1 := 102) rfl rfl rfl ?_
              refine js_cV (pc1 := 105) (as := [(.inr (.inr (some 226))), (.inl x2)]) (S0 := []) (m := 7) (L0 := [some (.inr (.inr (some 226))), some (.inl x2), none, none, none, none, none]) rfl rfl rfl rfl rfl rfl rfl rfl (zrc_o rfl rfl) (by omega) (by omega) (z_M_inline_ok N (by omega) (by omega) x2 hx2 A) (fun A12 _ => ?_)
              refine js_iinc (pc1 := 108) (L1 := [some (.inr (.inr (some 226))), some (.inl x1), some (.inl (x2 + 1))]) rfl rfl rfl rfl ?_
              refine js_goto (t1 := 33) rfl rfl ?_
              exact zG_to (L := [some (.inr (.inr (some 226))), some (.inl x1), some (.inl (zw (x2 + 1)))]) (S := []) ⟨rfl, ⟨rfl, ⟨zval_w (x2 + 1), trivial⟩⟩⟩ (rfl) (hr33 x1 hx1 (zw (x2 + 1)) (zw_rg (x2 + 1)) A12)
  · exact zG_to (L := [some (.inr (.inr (some 226))), none, none]) (S := []) ⟨rfl, trivial⟩ (rfl) (z_M_pass_111_ok N hd hw A)
theorem z_M_pass_33_lok{d w : Nat} (N : Nat) (hd : 8 ≤ d) (hw : 185 ≤ w) (n : Nat) : ∀ (x1 : Int) (hx1 : zrg x1) (x2 : Int) (hx2 : zrg x2) (A : zA), zG (z_M_pass_33_l N n x1 x2 A) zPI d w 9 33 [some (.inr (.inr (some 226))), some (.inl x1), some (.inl x2)] [] A := by
  induction n with
  | zero => intros; exact zG_none
  | succ n ih =>
    intro x1 hx1 x2 hx2 A
    exact z_M_pass_33_bok ih N hd hw x1 hx1 x2 hx2 A
theorem z_M_pass_33_ok{d w : Nat} (N : Nat) (hd : 8 ≤ d) (hw : 185 ≤ w) (x1 : Int) (hx1 : zrg x1) (x2 : Int) (hx2 : zrg x2) (A : zA) : zG (z_M_pass_33 N x1 x2 A) zPI d w 9 33 [some (.inr (.inr (some 226))), some (.inl x1), some (.inl x2)] [] A := z_M_pass_33_lok N hd hw N x1 hx1 x2 hx2 A
theorem z_M_pass_ok{d w : Nat} (N : Nat) (hd : 8 ≤ d) (hw : 185 ≤ w) (x1 : Int) (hx1 : zrg x1) (A : zA) : zG (z_M_pass N x1 A) zPI d w 9 0 [some (.inr (.inr (some 226))), some (.inl x1), none] [] A := by
  unfold z_M_pass
  refine js_aload (pc1 := 1) rfl rfl rfl ?_
  refine js_iconst (pc1 := 2) rfl rfl ?_
  refine jt_pi (pc1 := 5) (j := 0) rfl rfl rfl rfl rfl (fun A1 => ?_)
  refine js_iload (pc1 := 6) rfl rfl rfl ?_
  refine ju_lt (pc1 := 9) (t1 := 14) hx1 rfl rfl rfl (fun c2 => ?_) (fun c2 => ?_)
  · exact zG_to (L := [some (.inr (.inr (some 226))), none, none]) (S := []) ⟨rfl, trivial⟩ (rfl) (z_M_pass_14_ok N hd hw A1)
  · refine js_iload (pc1 := 10) rfl rfl rfl ?_
    refine js_iconst (pc1 := 11) rfl rfl ?_
    refine jt_le (pc1 := 14) (t1 := 20) hx1 (zlit rfl) rfl rfl rfl (fun c3 => ?_) (fun c3 => ?_)
    · exact zG_to (L := [some (.inr (.inr (some 226))), none, none]) (S := []) ⟨rfl, trivial⟩ (rfl) (z_M_pass_14_ok N hd hw A1)
    · refine js_aload (pc1 := 21) rfl rfl rfl ?_
      refine js_iconst (pc1 := 22) rfl rfl ?_
      refine js_iconst (pc1 := 23) rfl rfl ?_
      refine js_cV (pc1 := 26) (as := [(.inr (.inr (some 226))), (.inl 0), (.inl 1)]) (S0 := []) (m := 4) (L0 := [some (.inr (.inr (some 226))), some (.inl 0), some (.inl 1), none]) rfl rfl rfl rfl rfl rfl rfl rfl (zrc_o rfl rfl) (by omega) (by omega) (z_M_copyState_ok N (by omega) (by omega) 0 (zlit rfl) 1 (zlit rfl) A1) (fun A4 _ => ?_)
      refine js_aload (pc1 := 27) rfl rfl rfl ?_
      refine js_iconst (pc1 := 28) rfl rfl ?_
      refine jt_pi (pc1 := 31) (j := 33) rfl rfl rfl rfl rfl (fun A5 => ?_)
      refine js_iconst (pc1 := 32) rfl rfl ?_
      refine js_istore (pc1 := 33) (L1 := [some (.inr (.inr (some 226))), some (.inl x1), some (.inl 0)]) rfl rfl rfl rfl ?_
      exact z_M_pass_33_ok N hd hw x1 hx1 0 (zlit rfl) A5
theorem z_Pt_hasNumber_ok{d w : Nat} (N : Nat) (hd : 1 ≤ d) (hw : 21 ≤ w) (x0 : Nat) (hx0 : zsh x0 = some (false, 3, 4)) (x1 : Int) (hx1 : zrg x1) (x2 : Int) (hx2 : zrg x2) (A : zA) : zG (z_Pt_hasNumber N x0 x1 x2 A) (zPp A) d w 116 0 [some (.inr (.inr (some x0))), some (.inl x1), some (.inl x2)] [] A := by
  unfold z_Pt_hasNumber
  refine js_aload (pc1 := 1) rfl rfl rfl ?_
  refine js_iload (pc1 := 2) rfl rfl rfl ?_
  refine js_cP (pc1 := 5) (as := [(.inr (.inr (some x0))), (.inl x1)]) (S0 := []) (m := 2) (L0 := [some (.inr (.inr (some x0))), some (.inl x1)]) rfl rfl rfl rfl rfl rfl rfl rfl (zrc_o rfl hx0) (by omega) (by omega) (z_Pt_has_ok N (by omega) (by omega) x0 hx0 x1 hx1 A) (fun v1 _ hv1 => ?_)
  refine ju_eq (pc1 := 8) (t1 := 29) hv1 rfl rfl rfl (fun c2 => ?_) (fun c2 => ?_)
  · refine js_iconst (pc1 := 30) rfl rfl ?_
    exact je_P rfl (zfit3 rfl (Or.inl rfl)) rfl (zlit rfl)
  · refine js_iload (pc1 := 9) rfl rfl rfl ?_
    refine ju_lt (pc1 := 12) (t1 := 29) hx2 rfl rfl rfl (fun c3 => ?_) (fun c3 => ?_)
    · refine js_iconst (pc1 := 30) rfl rfl ?_
      exact je_P rfl (zfit3 rfl (Or.inl rfl)) rfl (zlit rfl)
    · refine js_iload (pc1 := 13) rfl rfl rfl ?_
      refine js_getstatic (pc1 := 16) rfl rfl (by decide) ?_
      refine js_aload (pc1 := 17) rfl rfl rfl ?_
      refine js_iload (pc1 := 18) rfl rfl rfl ?_
      refine js_cP (pc1 := 21) (as := [(.inr (.inr (some x0))), (.inl x1)]) (S0 := [(.inr (.inr (some 3))), (.inl x2)]) (m := 2) (L0 := [some (.inr (.inr (some x0))), some (.inl x1)]) rfl rfl rfl rfl rfl rfl rfl rfl (zrc_o rfl hx0) (by omega) (by omega) (z_Pt_kind_ok N (by omega) (by omega) x0 hx0 x1 hx1 A) (fun v4 _ hv4 => ?_)
      refine jt_ald (pc1 := 22) rfl rfl rfl rfl rfl (fun v5 hv5 => ?_)
      refine jt_ge (pc1 := 25) (t1 := 29) hx2 hv5 rfl rfl rfl (fun c6 => ?_) (fun c6 => ?_)
      · refine js_iconst (pc1 := 26) rfl rfl ?_
        refine js_goto (t1 := 30) rfl rfl ?_
        exact je_P rfl (zfit3 rfl (Or.inr rfl)) rfl (zlit rfl)
      · refine js_iconst (pc1 := 30) rfl rfl ?_
        exact je_P rfl (zfit3 rfl (Or.inl rfl)) rfl (zlit rfl)
theorem z_PC_mayTouch_99_ok{d w : Nat} (N : Nat) (hd : 2 ≤ d) (hw : 43 ≤ w) (x1 : Int) (hx1 : zrg x1) (x4 : Int) (hx4 : zrg x4) (A : zA) : zG (z_PC_mayTouch_99 N x1 x4 A) (zPp A) d w 109 99 [some (.inr (.inr (some 4))), some (.inl x1), none, none, some (.inl x4), none] [] A := by
  unfold z_PC_mayTouch_99
  refine js_iload (pc1 := 101) rfl rfl rfl ?_
  refine ju_lt (pc1 := 104) (t1 := 125) hx4 rfl rfl rfl (fun c1 => ?_) (fun c1 => ?_)
  · refine js_iconst (pc1 := 126) rfl rfl ?_
    exact je_P rfl (zfit3 rfl (Or.inl rfl)) rfl (zlit rfl)
  · refine js_iload (pc1 := 106) rfl rfl rfl ?_
    refine js_aload (pc1 := 107) rfl rfl rfl ?_
    refine jt_gr (pc1 := 110) (j := 2) rfl rfl rfl rfl (fun p2 => ?_)
    refine zG_cs (fun hp2 => ?_)
    refine jt_gf (pc1 := 113) (j := 0) rfl rfl hp2 rfl (fun p3 => ?_)
    refine js_iload (pc1 := 114) rfl rfl rfl ?_
    refine jt_aald (pc1 := 115) rfl rfl (fun p4 => ?_)
    refine zG_cs (fun hp4 => ?_)
    refine js_gi (pc1 := 118) (j := 3) rfl rfl hp4 rfl ?_
    refine jt_ge (pc1 := 121) (t1 := 125) hx4 (zi_rg _ _ _) rfl rfl rfl (fun c5 => ?_) (fun c5 => ?_)
    · refine js_iconst (pc1 := 122) rfl rfl ?_
      refine js_goto (t1 := 126) rfl rfl ?_
      exact je_P rfl (zfit3 rfl (Or.inr rfl)) rfl (zlit rfl)
    · refine js_iconst (pc1 := 126) rfl rfl ?_
      exact je_P rfl (zfit3 rfl (Or.inl rfl)) rfl (zlit rfl)
theorem z_PC_mayTouch_71_ok{d w : Nat} (N : Nat) (hd : 2 ≤ d) (hw : 43 ≤ w) (x1 : Int) (hx1 : zrg x1) (x3 : Int) (hx3 : zrg x3) (x4 : Int) (hx4 : zrg x4) (x5 : Int) (hx5 : zrg x5) (A : zA) : zG (z_PC_mayTouch_71 N x1 x3 x4 x5 A) (zPp A) d w 109 71 [some (.inr (.inr (some 4))), some (.inl x1), none, some (.inl x3), some (.inl x4), some (.inl x5)] [] A := by
  unfold z_PC_mayTouch_71
  refine js_iload (pc1 := 73) rfl rfl rfl ?_
  refine js_iconst (pc1 := 74) rfl rfl ?_
  refine jt_ne (pc1 := 77) (t1 := 99) hx5 (zlit rfl) rfl rfl rfl (fun c1 => ?_) (fun c1 => ?_)
  · refine js_iload (pc1 := 78) rfl rfl rfl ?_
    refine js_iconst (pc1 := 79) rfl rfl ?_
    refine jt_ne (pc1 := 82) (t1 := 99) hx3 (zlit rfl) rfl rfl rfl (fun c2 => ?_) (fun c2 => ?_)
    · refine js_iload (pc1 := 84) rfl rfl rfl ?_
      refine ju_lt (pc1 := 87) (t1 := 97) hx4 rfl rfl rfl (fun c3 => ?_) (fun c3 => ?_)
      · refine js_iconst (pc1 := 98) rfl rfl ?_
        exact je_P rfl (zfit3 rfl (Or.inl rfl)) rfl (zlit rfl)
      · refine js_iload (pc1 := 89) rfl rfl rfl ?_
        refine js_iconst (pc1 := 90) rfl rfl ?_
        refine jt_gt (pc1 := 93) (t1 := 97) hx4 (zlit rfl) rfl rfl rfl (fun c4 => ?_) (fun c4 => ?_)
        · refine js_iconst (pc1 := 98) rfl rfl ?_
          exact je_P rfl (zfit3 rfl (Or.inl rfl)) rfl (zlit rfl)
        · refine js_iconst (pc1 := 94) rfl rfl ?_
          refine js_goto (t1 := 98) rfl rfl ?_
          exact je_P rfl (zfit3 rfl (Or.inr rfl)) rfl (zlit rfl)
    · exact zG_to (L := [some (.inr (.inr (some 4))), some (.inl x1), none, none, some (.inl x4), none]) (S := []) ⟨rfl, ⟨rfl, ⟨rfl, trivial⟩⟩⟩ (rfl) (z_PC_mayTouch_99_ok N hd hw x1 hx1 x4 hx4 A)
  · exact zG_to (L := [some (.inr (.inr (some 4))), some (.inl x1), none, none, some (.inl x4), none]) (S := []) ⟨rfl, ⟨rfl, ⟨rfl, trivial⟩⟩⟩ (rfl) (z_PC_mayTouch_99_ok N hd hw x1 hx1 x4 hx4 A)
theorem z_PC_mayTouch_ok{d w : Nat} (N : Nat) (hd : 2 ≤ d) (hw : 43 ≤ w) (x1 : Int) (hx1 : zrg x1) (x2 : Int) (hx2 : zrg x2) (x3 : Int) (hx3 : zrg x3) (x4 : Int) (hx4 : zrg x4) (A : zA) : zG (z_PC_mayTouch N x1 x2 x3 x4 A) (zPp A) d w 109 0 [some (.inr (.inr (some 4))), some (.inl x1), some (.inl x2), some (.inl x3), some (.inl x4), none] [] A := by
  unfold z_PC_mayTouch
  refine js_aload (pc1 := 1) rfl rfl rfl ?_
  refine jt_gr (pc1 := 4) (j := 2) rfl rfl rfl rfl (fun p1 => ?_)
  refine zG_cs (fun hp1 => ?_)
  refine js_iload (pc1 := 5) rfl rfl rfl ?_
  refine js_cP (pc1 := 8) (as := [(.inr (.inr (some p1))), (.inl x1)]) (S0 := []) (m := 2) (L0 := [some (.inr (.inr (some p1))), some (.inl x1)]) rfl rfl rfl rfl rfl rfl rfl rfl (zrc_o rfl hp1) (by omega) (by omega) (z_Ro_has_ok N (by omega) (by omega) p1 hp1 x1 hx1 A) (fun v2 _ hv2 => ?_)
  refine ju_eq (pc1 := 11) (t1 := 28) hv2 rfl rfl rfl (fun c3 => ?_) (fun c3 => ?_)
  · refine js_iconst (pc1 := 29) rfl rfl ?_
    exact je_P rfl (zfit3 rfl (Or.inl rfl)) rfl (zlit rfl)
  · refine js_aload (pc1 := 12) rfl rfl rfl ?_
    refine jt_gr (pc1 := 15) (j := 2) rfl rfl rfl rfl (fun p4 => ?_)
    refine zG_cs (fun hp4 => ?_)
    refine jt_gf (pc1 := 18) (j := 0) rfl rfl hp4 rfl (fun p5 => ?_)
    refine js_iload (pc1 := 19) rfl rfl rfl ?_
    refine jt_aald (pc1 := 20) rfl rfl (fun p6 => ?_)
    refine zG_cs (fun hp6 => ?_)
    refine js_iload (pc1 := 21) rfl rfl rfl ?_
    refine js_iload (pc1 := 22) rfl rfl rfl ?_
    refine js_cP (pc1 := 25) (as := [(.inr (.inr (some p6))), (.inl x2), (.inl x3)]) (S0 := []) (m := 3) (L0 := [some (.inr (.inr (some p6))), some (.inl x2), some (.inl x3)]) rfl rfl rfl rfl rfl rfl rfl rfl (zrc_o rfl hp6) (by omega) (by omega) (z_Pt_hasNumber_ok N (by omega) (by omega) p6 hp6 x2 hx2 x3 hx3 A) (fun v7 _ hv7 => ?_)
    refine ju_ne (pc1 := 28) (t1 := 30) hv7 rfl rfl rfl (fun c8 => ?_) (fun c8 => ?_)
    · refine js_iconst (pc1 := 29) rfl rfl ?_
      exact je_P rfl (zfit3 rfl (Or.inl rfl)) rfl (zlit rfl)
    · refine js_aload (pc1 := 31) rfl rfl rfl ?_
      refine jt_gr (pc1 := 34) (j := 2) rfl rfl rfl rfl (fun p9 => ?_)
      refine zG_cs (fun hp9 => ?_)
      refine jt_gf (pc1 := 37) (j := 0) rfl rfl hp9 rfl (fun p10 => ?_)
      refine js_iload (pc1 := 38) rfl rfl rfl ?_
      refine jt_aald (pc1 := 39) rfl rfl (fun p11 => ?_)
      refine zG_cs (fun hp11 => ?_)
      refine js_iload (pc1 := 40) rfl rfl rfl ?_
      refine js_cP (pc1 := 43) (as := [(.inr (.inr (some p11))), (.inl x2)]) (S0 := []) (m := 2) (L0 := [some (.inr (.inr (some p11))), some (.inl x2)]) rfl rfl rfl rfl rfl rfl rfl rfl (zrc_o rfl hp11) (by omega) (by omega) (z_Pt_kind_ok N (by omega) (by omega) p11 hp11 x2 hx2 A) (fun v12 _ hv12 => ?_)
      refine js_istore (pc1 := 45) (L1 := [some (.inr (.inr (some 4))), some (.inl x1), some (.inl x2), some (.inl x3), some (.inl x4), some (.inl v12)]) rfl rfl rfl rfl ?_
      refine js_iload (pc1 := 47) rfl rfl rfl ?_
      refine js_iconst (pc1 := 49) rfl rfl ?_
      refine jt_ne (pc1 := 52) (t1 := 59) hv12 (zlit rfl) rfl rfl rfl (fun c13 => ?_) (fun c13 => ?_)
      · refine js_iload (pc1 := 53) rfl rfl rfl ?_
        refine js_iconst (pc1 := 54) rfl rfl ?_
        refine jt_ne (pc1 := 57) (t1 := 59) hx3 (zlit rfl) rfl rfl rfl (fun c14 => ?_) (fun c14 => ?_)
        · refine js_iconst (pc1 := 58) rfl rfl ?_
          exact je_P rfl (zfit3 rfl (Or.inl rfl)) rfl (zlit rfl)
        · refine js_iload (pc1 := 61) rfl rfl rfl ?_
          refine ju_ne (pc1 := 64) (t1 := 71) hv12 rfl rfl rfl (fun c15 => ?_) (fun c15 => ?_)
          · refine js_iload (pc1 := 65) rfl rfl rfl ?_
            refine js_iconst (pc1 := 66) rfl rfl ?_
            refine jt_ne (pc1 := 69) (t1 := 71) hx3 (zlit rfl) rfl rfl rfl (fun c16 => ?_) (fun c16 => ?_)
            · refine js_iconst (pc1 := 70) rfl rfl ?_
              exact je_P rfl (zfit3 rfl (Or.inr rfl)) rfl (zlit rfl)
            · exact zG_to (L := [some (.inr (.inr (some 4))), some (.inl x1), none, some (.inl x3), some (.inl x4), some (.inl v12)]) (S := []) ⟨rfl, ⟨rfl, ⟨rfl, ⟨rfl, ⟨rfl, trivial⟩⟩⟩⟩⟩ (rfl) (z_PC_mayTouch_71_ok N hd hw x1 hx1 x3 hx3 x4 hx4 v12 hv12 A)
          · exact zG_to (L := [some (.inr (.inr (some 4))), some (.inl x1), none, some (.inl x3), some (.inl x4), some (.inl v12)]) (S := []) ⟨rfl, ⟨rfl, ⟨rfl, ⟨rfl, ⟨rfl, trivial⟩⟩⟩⟩⟩ (rfl) (z_PC_mayTouch_71_ok N hd hw x1 hx1 x3 hx3 x4 hx4 v12 hv12 A)
      · refine js_iload (pc1 := 61) rfl rfl rfl ?_
        refine ju_ne (pc1 := 64) (t1 := 71) hv12 rfl rfl rfl (fun c17 => ?_) (fun c17 => ?_)
        · refine js_iload (pc1 := 65) rfl rfl rfl ?_
          refine js_iconst (pc1 := 66) rfl rfl ?_
          refine jt_ne (pc1 := 69) (t1 := 71) hx3 (zlit rfl) rfl rfl rfl (fun c18 => ?_) (fun c18 => ?_)
          · refine js_iconst (pc1 := 70) rfl rfl ?_
            exact je_P rfl (zfit3 rfl (Or.inr rfl)) rfl (zlit rfl)
          · exact zG_to (L := [some (.inr (.inr (some 4))), some (.inl x1), none, some (.inl x3), some (.inl x4), some (.inl v12)]) (S := []) ⟨rfl, ⟨rfl, ⟨rfl, ⟨rfl, ⟨rfl, trivial⟩⟩⟩⟩⟩ (rfl) (z_PC_mayTouch_71_ok N hd hw x1 hx1 x3 hx3 x4 hx4 v12 hv12 A)
        · exact zG_to (L := [some (.inr (.inr (some 4))), some (.inl x1), none, some (.inl x3), some (.inl x4), some (.inl v12)]) (S := []) ⟨rfl, ⟨rfl, ⟨rfl, ⟨rfl, ⟨rfl, trivial⟩⟩⟩⟩⟩ (rfl) (z_PC_mayTouch_71_ok N hd hw x1 hx1 x3 hx3 x4 hx4 v12 hv12 A)
theorem z_PC_touch_ok{d w : Nat} (N : Nat) (hd : 159 ≤ d) (hw : 10300 ≤ w) (x1 : Int) (hx1 : zrg x1) (x2 : Int) (hx2 : zrg x2) (x3 : Int) (hx3 : zrg x3) (x4 : Int) (hx4 : zrg x4) (A : zA) : zG (z_PC_touch N x1 x2 x3 x4 A) zPX d w 57 0 [some (.inr (.inr (some 4))), some (.inl x1), some (.inl x2), some (.inl x3), some (.inl x4)] [] A := by
  unfold z_PC_touch
  refine js_aload (pc1 := 1) rfl rfl rfl ?_
  refine js_iload (pc1 := 2) rfl rfl rfl ?_
  refine js_iload (pc1 := 3) rfl rfl rfl ?_
  refine js_iload (pc1 := 4) rfl rfl rfl ?_
  refine js_iload (pc1 := 6) rfl rfl rfl ?_
  refine js_cP (pc1 := 9) (as := [(.inr (.inr (some 4))), (.inl x1), (.inl x2), (.inl x3), (.inl x4)]) (S0 := []) (m := 6) (L0 := [some (.inr (.inr (some 4))), some (.inl x1), some (.inl x2), some (.inl x3), some (.inl x4), none]) rfl rfl rfl rfl rfl rfl rfl rfl (zrc_o rfl rfl) (by omega) (by omega) (z_PC_mayTouch_ok N (by omega) (by omega) x1 hx1 x2 hx2 x3 hx3 x4 hx4 A) (fun v1 _ hv1 => ?_)
  refine ju_ne (pc1 := 12) (t1 := 22) hv1 rfl rfl rfl (fun c2 => ?_) (fun c2 => ?_)
  · exact je_T rfl rfl (by omega) (by omega)
  · refine js_aload (pc1 := 23) rfl rfl rfl ?_
    refine jt_gr (pc1 := 26) (j := 3) rfl rfl rfl rfl (fun p3 => ?_)
    refine zG_cs (fun hp3 => ?_)
    refine js_aload (pc1 := 27) rfl rfl rfl ?_
    refine jt_gr (pc1 := 30) (j := 2) rfl rfl rfl rfl (fun p4 => ?_)
    refine zG_cs (fun hp4 => ?_)
    refine js_cV (pc1 := 33) (as := [(.inr (.inr (some p3))), (.inr (.inr (some p4)))]) (S0 := []) (m := 3) (L0 := [some (.inr (.inr (some p3))), some (.inr (.inr (some p4))), none]) rfl rfl rfl rfl rfl rfl rfl rfl (zrc_o rfl hp3) (by omega) (by omega) (z_Ro_become_ok N (by omega) (by omega) p3 hp3 p4 hp4 A) (fun A5 _ => ?_)
    refine js_aload (pc1 := 34) rfl rfl rfl ?_
    refine jt_gr (pc1 := 37) (j := 3) rfl rfl rfl rfl (fun p6 => ?_)
    refine zG_cs (fun hp6 => ?_)
    refine jt_gf (pc1 := 40) (j := 0) rfl rfl hp6 rfl (fun p7 => ?_)
    refine js_iload (pc1 := 41) rfl rfl rfl ?_
    refine jt_aald (pc1 := 42) rfl rfl (fun p8 => ?_)
    refine zG_cs (fun hp8 => ?_)
    refine js_iload (pc1 := 43) rfl rfl rfl ?_
    refine js_iload (pc1 := 44) rfl rfl rfl ?_
    refine js_iload (pc1 := 46) rfl rfl rfl ?_
    refine js_cV (pc1 := 49) (as := [(.inr (.inr (some p8))), (.inl x2), (.inl x3), (.inl x4)]) (S0 := []) (m := 4) (L0 := [some (.inr (.inr (some p8))), some (.inl x2), some (.inl x3), some (.inl x4)]) rfl rfl rfl rfl rfl rfl rfl rfl (zrc_o rfl hp8) (by omega) (by omega) (z_Pt_setNumber_ok N (by omega) (by omega) p8 hp8 x2 hx2 x3 hx3 x4 hx4 A5) (fun A9 _ => ?_)
    refine js_aload (pc1 := 50) rfl rfl rfl ?_
    refine js_cI (pc1 := 53) (as := [(.inr (.inr (some 4)))]) (S0 := []) (m := 2) (L0 := [some (.inr (.inr (some 4))), none]) rfl rfl rfl rfl rfl rfl rfl rfl (zrc_o rfl rfl) (by omega) (by omega) (z_PC_staysIfTheSame_ok N (by omega) (by omega) A9) (fun v10 A11 _ hv10 => ?_)
    exact zG_ite (fun h => je_X rfl (zfit3 rfl h) rfl hv10) (fun _ => zG_none)
theorem z_Lw_touch_ok{d w : Nat} (N : Nat) (hd : 160 ≤ d) (hw : 10324 ≤ w) (x1 : Int) (hx1 : zrg x1) (x2 : Int) (hx2 : zrg x2) (x3 : Int) (hx3 : zrg x3) (x4 : Int) (hx4 : zrg x4) (A : zA) : zG (z_Lw_touch N x1 x2 x3 x4 A) zPI d w 10 0 [some (.inr (.inr (some 4))), some (.inl x1), some (.inl x2), some (.inl x3), some (.inl x4), some (.inr (.inr (some 295))), none] [] A := by
  unfold z_Lw_touch
  refine js_aload (pc1 := 2) rfl rfl rfl ?_
  refine js_iconst (pc1 := 3) rfl rfl ?_
  refine js_aload (pc1 := 4) rfl rfl rfl ?_
  refine js_iload (pc1 := 5) rfl rfl rfl ?_
  refine js_iload (pc1 := 6) rfl rfl rfl ?_
  refine js_iload (pc1 := 7) rfl rfl rfl ?_
  refine js_iload (pc1 := 9) rfl rfl rfl ?_
  refine js_cX (pc1 := 12) (as := [(.inr (.inr (some 4))), (.inl x1), (.inl x2), (.inl x3), (.inl x4)]) (S0 := [(.inl 0), (.inr (.inr (some 295)))]) (m := 5) (L0 := [some (.inr (.inr (some 4))), some (.inl x1), some (.inl x2), some (.inl x3), some (.inl x4)]) rfl rfl rfl rfl rfl rfl rfl rfl (zrc_o rfl rfl) (by omega) (by omega) (z_PC_touch_ok N (by omega) (by omega) x1 hx1 x2 hx2 x3 hx3 x4 hx4 A) (fun v1 A2 hv1 => ?_) (fun n5 A4 => ?_)
  · refine ju_eq (pc1 := 15) (t1 := 19) hv1 rfl rfl rfl (fun c6 => ?_) (fun c6 => ?_)
    · refine js_ldc2 (pc1 := 20) rfl rfl ?_
      refine jt_las (pc1 := 21) rfl rfl rfl rfl (fun A7 => ?_)
      refine js_goto (t1 := 28) rfl rfl ?_
      refine js_iconst (pc1 := 29) rfl rfl ?_
      exact je_I rfl (zfit0 _ rfl) rfl (zlit rfl)
    · refine js_ldc2 (pc1 := 16) rfl rfl ?_
      refine js_goto (t1 := 20) rfl rfl ?_
      refine jt_las (pc1 := 21) rfl rfl rfl rfl (fun A8 => ?_)
      refine js_goto (t1 := 28) rfl rfl ?_
      refine js_iconst (pc1 := 29) rfl rfl ?_
      exact je_I rfl (zfit0 _ rfl) rfl (zlit rfl)
  · rcases Decidable.em (n5 = 0) with c9 | c9
    · subst c9
      refine Or.inr ⟨24, by decide, fun e3 => ?_⟩
      rw [if_pos rfl]
      refine js_astore (pc1 := 26) (L1 := [some (.inr (.inr (some 4))), some (.inl x1), some (.inl x2), some (.inl x3), some (.inl x4), some (.inr (.inr (some 295))), some (.inr (.inr (some e3)))]) rfl rfl rfl rfl ?_
      refine js_iconst (pc1 := 27) rfl rfl ?_
      exact je_I rfl (zfit0 _ rfl) rfl (zlit rfl)
    exact Or.inl (by simp only [if_neg c9])
theorem z_M_numbersOf_ok{d w : Nat} (N : Nat) (hd : 0 ≤ d) (hw : 0 ≤ w) (x0 : Int) (hx0 : zrg x0) (A : zA) : zG (z_M_numbersOf N x0 A) (zPp A) d w 59 0 [some (.inl x0)] [] A := by
  unfold z_M_numbersOf
  refine js_iload (pc1 := 1) rfl rfl rfl ?_
  refine js_iconst (pc1 := 2) rfl rfl ?_
  refine jt_ne (pc1 := 5) (t1 := 7) hx0 (zlit rfl) rfl rfl rfl (fun c1 => ?_) (fun c1 => ?_)
  · refine js_iconst (pc1 := 6) rfl rfl ?_
    exact je_P rfl (zfit0 _ rfl) rfl (zlit rfl)
  · refine js_iload (pc1 := 8) rfl rfl rfl ?_
    refine js_iconst (pc1 := 9) rfl rfl ?_
    refine jt_le (pc1 := 12) (t1 := 18) hx0 (zlit rfl) rfl rfl rfl (fun c2 => ?_) (fun c2 => ?_)
    · refine js_iload (pc1 := 13) rfl rfl rfl ?_
      refine js_iconst (pc1 := 15) rfl rfl ?_
      refine jt_ne (pc1 := 18) (t1 := 20) hx0 (zlit rfl) rfl rfl rfl (fun c3 => ?_) (fun c3 => ?_)
      · refine js_iconst (pc1 := 19) rfl rfl ?_
        exact je_P rfl (zfit0 _ rfl) rfl (zlit rfl)
      · refine js_iload (pc1 := 21) rfl rfl rfl ?_
        refine js_iconst (pc1 := 22) rfl rfl ?_
        refine jt_eq (pc1 := 25) (t1 := 43) hx0 (zlit rfl) rfl rfl rfl (fun c4 => ?_) (fun c4 => ?_)
        · refine js_iconst (pc1 := 44) rfl rfl ?_
          refine js_goto (t1 := 48) rfl rfl ?_
          exact je_P rfl (zfit0 _ rfl) rfl (zlit rfl)
        · refine js_iload (pc1 := 26) rfl rfl rfl ?_
          refine js_iconst (pc1 := 28) rfl rfl ?_
          refine jt_eq (pc1 := 31) (t1 := 43) hx0 (zlit rfl) rfl rfl rfl (fun c5 => ?_) (fun c5 => ?_)
          · refine js_iconst (pc1 := 44) rfl rfl ?_
            refine js_goto (t1 := 48) rfl rfl ?_
            exact je_P rfl (zfit0 _ rfl) rfl (zlit rfl)
          · refine js_iload (pc1 := 32) rfl rfl rfl ?_
            refine js_iconst (pc1 := 34) rfl rfl ?_
            refine jt_eq (pc1 := 37) (t1 := 43) hx0 (zlit rfl) rfl rfl rfl (fun c6 => ?_) (fun c6 => ?_)
            · refine js_iconst (pc1 := 44) rfl rfl ?_
              refine js_goto (t1 := 48) rfl rfl ?_
              exact je_P rfl (zfit0 _ rfl) rfl (zlit rfl)
            · refine js_iload (pc1 := 38) rfl rfl rfl ?_
              refine js_iconst (pc1 := 40) rfl rfl ?_
              refine jt_ne (pc1 := 43) (t1 := 47) hx0 (zlit rfl) rfl rfl rfl (fun c7 => ?_) (fun c7 => ?_)
              · refine js_iconst (pc1 := 44) rfl rfl ?_
                refine js_goto (t1 := 48) rfl rfl ?_
                exact je_P rfl (zfit0 _ rfl) rfl (zlit rfl)
              · refine js_iconst (pc1 := 48) rfl rfl ?_
                exact je_P rfl (zfit0 _ rfl) rfl (zlit rfl)
    · refine js_iconst (pc1 := 19) rfl rfl ?_
      exact je_P rfl (zfit0 _ rfl) rfl (zlit rfl)
theorem z_M_touch_170_ok{d w : Nat} (N : Nat) (hd : 8 ≤ d) (hw : 185 ≤ w) (A : zA) : zG (z_M_touch_170 N A) zPI d w 11 170 [some (.inr (.inr (some 226))), none, none, none, none, none, none, none, none] [] A := by
  unfold z_M_touch_170
  refine js_aload (pc1 := 171) rfl rfl rfl ?_
  refine js_iconst (pc1 := 172) rfl rfl ?_
  refine js_cI (pc1 := 175) (as := [(.inr (.inr (some 226))), (.inl 1)]) (S0 := []) (m := 2) (L0 := [some (.inr (.inr (some 226))), some (.inl 1)]) rfl rfl rfl rfl rfl rfl rfl rfl (zrc_o rfl rfl) (by omega) (by omega) (z_M_fail_ok N (by omega) (by omega) 1 (zlit rfl) A) (fun v1 A2 _ hv1 => ?_)
  refine js_popI (pc1 := 176) rfl rfl ?_
  refine js_iconst (pc1 := 177) rfl rfl ?_
  exact je_I rfl (zfit3 rfl (Or.inl rfl)) rfl (zlit rfl)
theorem z_M_touch_178_ok{d w : Nat} (N : Nat) (hd : 8 ≤ d) (hw : 185 ≤ w) (x1 : Int) (hx1 : zrg x1) (x2 : Int) (hx2 : zrg x2) (x3 : Int) (hx3 : zrg x3) (x4 : Int) (hx4 : zrg x4) (A : zA) : zG (z_M_touch_178 N x1 x2 x3 x4 A) zPI d w 11 178 [some (.inr (.inr (some 226))), some (.inl x1), some (.inl x2), some (.inl x3), some (.inl x4), none, none, none, none] [] A := by
  unfold z_M_touch_178
  refine js_aload (pc1 := 179) rfl rfl rfl ?_
  refine js_iconst (pc1 := 180) rfl rfl ?_
  refine js_iconst (pc1 := 181) rfl rfl ?_
  refine js_cV (pc1 := 184) (as := [(.inr (.inr (some 226))), (.inl 0), (.inl 1)]) (S0 := []) (m := 4) (L0 := [some (.inr (.inr (some 226))), some (.inl 0), some (.inl 1), none]) rfl rfl rfl rfl rfl rfl rfl rfl (zrc_o rfl rfl) (by omega) (by omega) (z_M_copyState_ok N (by omega) (by omega) 0 (zlit rfl) 1 (zlit rfl) A) (fun A1 _ => ?_)
  refine js_aload (pc1 := 185) rfl rfl rfl ?_
  refine js_gfr (pc1 := 188) (j := 3) (r := 228) rfl rfl rfl rfl rfl ?_
  refine js_iconst (pc1 := 189) rfl rfl ?_
  refine js_iload (pc1 := 190) rfl rfl rfl ?_
  refine js_iload (pc1 := 191) rfl rfl rfl ?_
  refine js_cP (pc1 := 194) (as := [(.inl 1), (.inl x1), (.inl x2)]) (S0 := [(.inr (.inr (some 228)))]) (m := 3) (L0 := [some (.inl 1), some (.inl x1), some (.inl x2)]) rfl rfl rfl rfl rfl rfl rfl rfl (zrc_s rfl) (by omega) (by omega) (z_M_place_ok N (by omega) (by omega) 1 (zlit rfl) x1 hx1 x2 hx2 A1) (fun v2 _ hv2 => ?_)
  refine js_iconst (pc1 := 195) rfl rfl ?_
  refine js_iadd (pc1 := 196) rfl rfl ?_
  refine js_iload (pc1 := 197) rfl rfl rfl ?_
  refine js_iadd (pc1 := 198) rfl rfl ?_
  refine js_iload (pc1 := 200) rfl rfl rfl ?_
  refine jt_ias (pc1 := 201) rfl rfl rfl rfl (fun A3 => ?_)
  refine js_aload (pc1 := 202) rfl rfl rfl ?_
  refine js_cI (pc1 := 205) (as := [(.inr (.inr (some 226)))]) (S0 := []) (m := 2) (L0 := [some (.inr (.inr (some 226))), none]) rfl rfl rfl rfl rfl rfl rfl rfl (zrc_o rfl rfl) (by omega) (by omega) (z_M_settle_ok N (by omega) (by omega) A3) (fun v4 A5 _ hv4 => ?_)
  exact zG_ite (fun h => je_I rfl (zfit3 rfl h) rfl hv4) (fun _ => zG_none)
theorem z_M_touch_146_ok{d w : Nat} (N : Nat) (hd : 8 ≤ d) (hw : 185 ≤ w) (x1 : Int) (hx1 : zrg x1) (x2 : Int) (hx2 : zrg x2) (x3 : Int) (hx3 : zrg x3) (x4 : Int) (hx4 : zrg x4) (x5 : Int) (hx5 : zrg x5) (x7 : Int) (hx7 : zrg x7) (s0 : Int) (hs0 : zrg s0) (A : zA) : zG (z_M_touch_146 N x1 x2 x3 x4 x5 x7 s0 A) zPI d w 11 146 [some (.inr (.inr (some 226))), some (.inl x1), some (.inl x2), some (.inl x3), some (.inl x4), some (.inl x5), none, some (.inl x7), none] [(.inl s0)] A := by
  unfold z_M_touch_146
  refine js_istore (pc1 := 148) (L1 := [some (.inr (.inr (some 226))), some (.inl x1), some (.inl x2), some (.inl x3), some (.inl x4), some (.inl x5), none, some (.inl x7), some (.inl s0)]) rfl rfl rfl rfl ?_
  refine js_iload (pc1 := 150) rfl rfl rfl ?_
  refine ju_eq (pc1 := 153) (t1 := 170) hx5 rfl rfl rfl (fun c1 => ?_) (fun c1 => ?_)
  · exact zG_to (L := [some (.inr (.inr (some 226))), none, none, none, none, none, none, none, none]) (S := []) ⟨rfl, trivial⟩ (rfl) (z_M_touch_170_ok N hd hw A)
  · refine js_iload (pc1 := 155) rfl rfl rfl ?_
    refine ju_ne (pc1 := 158) (t1 := 178) hx7 rfl rfl rfl (fun c2 => ?_) (fun c2 => ?_)
    · refine js_iload (pc1 := 160) rfl rfl rfl ?_
      refine ju_lt (pc1 := 163) (t1 := 170) hx4 rfl rfl rfl (fun c3 => ?_) (fun c3 => ?_)
      · exact zG_to (L := [some (.inr (.inr (some 226))), none, none, none, none, none, none, none, none]) (S := []) ⟨rfl, trivial⟩ (rfl) (z_M_touch_170_ok N hd hw A)
      · refine js_iload (pc1 := 165) rfl rfl rfl ?_
        refine js_iload (pc1 := 167) rfl rfl rfl ?_
        refine jt_lt (pc1 := 170) (t1 := 178) hx4 hs0 rfl rfl rfl (fun c4 => ?_) (fun c4 => ?_)
        · exact zG_to (L := [some (.inr (.inr (some 226))), some (.inl x1), some (.inl x2), some (.inl x3), some (.inl x4), none, none, none, none]) (S := []) ⟨rfl, ⟨rfl, ⟨rfl, ⟨rfl, ⟨rfl, trivial⟩⟩⟩⟩⟩ (rfl) (z_M_touch_178_ok N hd hw x1 hx1 x2 hx2 x3 hx3 x4 hx4 A)
        · exact zG_to (L := [some (.inr (.inr (some 226))), none, none, none, none, none, none, none, none]) (S := []) ⟨rfl, trivial⟩ (rfl) (z_M_touch_170_ok N hd hw A)
    · exact zG_to (L := [some (.inr (.inr (some 226))), some (.inl x1), some (.inl x2), some (.inl x3), some (.inl x4), none, none, none, none]) (S := []) ⟨rfl, ⟨rfl, ⟨rfl, ⟨rfl, ⟨rfl, trivial⟩⟩⟩⟩⟩ (rfl) (z_M_touch_178_ok N hd hw x1 hx1 x2 hx2 x3 hx3 x4 hx4 A)
theorem z_M_touch_127_ok{d w : Nat} (N : Nat) (hd : 8 ≤ d) (hw : 185 ≤ w) (x1 : Int) (hx1 : zrg x1) (x2 : Int) (hx2 : zrg x2) (x3 : Int) (hx3 : zrg x3) (x4 : Int) (hx4 : zrg x4) (x5 : Int) (hx5 : zrg x5) (x7 : Int) (hx7 : zrg x7) (A : zA) : zG (z_M_touch_127 N x1 x2 x3 x4 x5 x7 A) zPI d w 11 127 [some (.inr (.inr (some 226))), some (.inl x1), some (.inl x2), some (.inl x3), some (.inl x4), some (.inl x5), none, some (.inl x7), none] [] A := by
  unfold z_M_touch_127
  refine js_iload (pc1 := 129) rfl rfl rfl ?_
  refine ju_eq (pc1 := 132) (t1 := 145) hx5 rfl rfl rfl (fun c1 => ?_) (fun c1 => ?_)
  · refine js_iconst (pc1 := 146) rfl rfl ?_
    exact z_M_touch_146_ok N hd hw x1 hx1 x2 hx2 x3 hx3 x4 hx4 x5 hx5 x7 hx7 0 (zlit rfl) A
  · refine js_aload (pc1 := 133) rfl rfl rfl ?_
    refine js_gfr (pc1 := 136) (j := 5) (r := 230) rfl rfl rfl rfl rfl ?_
    refine js_iconst (pc1 := 137) rfl rfl ?_
    refine js_iload (pc1 := 138) rfl rfl rfl ?_
    refine js_cP (pc1 := 141) (as := [(.inl 0), (.inl x1)]) (S0 := [(.inr (.inr (some 230)))]) (m := 2) (L0 := [some (.inl 0), some (.inl x1)]) rfl rfl rfl rfl rfl rfl rfl rfl (zrc_s rfl) (by omega) (by omega) (z_M_row_ok N (by omega) (by omega) 0 (zlit rfl) x1 hx1 A) (fun v2 _ hv2 => ?_)
    refine jt_ald (pc1 := 142) rfl rfl rfl rfl rfl (fun v3 hv3 => ?_)
    refine js_goto (t1 := 146) rfl rfl ?_
    exact z_M_touch_146_ok N hd hw x1 hx1 x2 hx2 x3 hx3 x4 hx4 x5 hx5 x7 hx7 v3 hv3 A
theorem z_M_touch_109_ok{d w : Nat} (N : Nat) (hd : 8 ≤ d) (hw : 185 ≤ w) (x1 : Int) (hx1 : zrg x1) (x2 : Int) (hx2 : zrg x2) (x3 : Int) (hx3 : zrg x3) (x4 : Int) (hx4 : zrg x4) (x5 : Int) (hx5 : zrg x5) (x6 : Int) (hx6 : zrg x6) (s0 : Int) (hs0 : zrg s0) (A : zA) : zG (z_M_touch_109 N x1 x2 x3 x4 x5 x6 s0 A) zPI d w 11 109 [some (.inr (.inr (some 226))), some (.inl x1), some (.inl x2), some (.inl x3), some (.inl x4), some (.inl x5), some (.inl x6), none, none] [(.inl s0)] A := by
  unfold z_M_touch_109
  refine js_istore (pc1 := 111) (L1 := [some (.inr (.inr (some 226))), some (.inl x1), some (.inl x2), some (.inl x3), some (.inl x4), some (.inl x5), some (.inl x6), some (.inl s0), none]) rfl rfl rfl rfl ?_
  refine js_iload (pc1 := 113) rfl rfl rfl ?_
  refine js_iconst (pc1 := 114) rfl rfl ?_
  refine jt_ne (pc1 := 117) (t1 := 127) hx6 (zlit rfl) rfl rfl rfl (fun c1 => ?_) (fun c1 => ?_)
  · refine js_iload (pc1 := 118) rfl rfl rfl ?_
    refine js_iconst (pc1 := 119) rfl rfl ?_
    refine jt_ne (pc1 := 122) (t1 := 127) hx3 (zlit rfl) rfl rfl rfl (fun c2 => ?_) (fun c2 => ?_)
    · refine js_iconst (pc1 := 124) rfl rfl ?_
      refine js_goto (t1 := 146) rfl rfl ?_
      exact zG_to (L := [some (.inr (.inr (some 226))), some (.inl x1), some (.inl x2), some (.inl x3), some (.inl x4), some (.inl x5), none, some (.inl s0), none]) (S := [(.inl 6)]) ⟨rfl, ⟨rfl, ⟨rfl, ⟨rfl, ⟨rfl, ⟨rfl, ⟨rfl, trivial⟩⟩⟩⟩⟩⟩⟩ (rfl) (z_M_touch_146_ok N hd hw x1 hx1 x2 hx2 x3 hx3 x4 hx4 x5 hx5 s0 hs0 6 (zlit rfl) A)
    · exact zG_to (L := [some (.inr (.inr (some 226))), some (.inl x1), some (.inl x2), some (.inl x3), some (.inl x4), some (.inl x5), none, some (.inl s0), none]) (S := []) ⟨rfl, ⟨rfl, ⟨rfl, ⟨rfl, ⟨rfl, ⟨rfl, ⟨rfl, trivial⟩⟩⟩⟩⟩⟩⟩ (rfl) (z_M_touch_127_ok N hd hw x1 hx1 x2 hx2 x3 hx3 x4 hx4 x5 hx5 s0 hs0 A)
  · exact zG_to (L := [some (.inr (.inr (some 226))), some (.inl x1), some (.inl x2), some (.inl x3), some (.inl x4), some (.inl x5), none, some (.inl s0), none]) (S := []) ⟨rfl, ⟨rfl, ⟨rfl, ⟨rfl, ⟨rfl, ⟨rfl, ⟨rfl, trivial⟩⟩⟩⟩⟩⟩⟩ (rfl) (z_M_touch_127_ok N hd hw x1 hx1 x2 hx2 x3 hx3 x4 hx4 x5 hx5 s0 hs0 A)
theorem z_M_touch_92_ok{d w : Nat} (N : Nat) (hd : 8 ≤ d) (hw : 185 ≤ w) (x1 : Int) (hx1 : zrg x1) (x2 : Int) (hx2 : zrg x2) (x3 : Int) (hx3 : zrg x3) (x4 : Int) (hx4 : zrg x4) (x6 : Int) (hx6 : zrg x6) (s0 : Int) (hs0 : zrg s0) (A : zA) : zG (z_M_touch_92 N x1 x2 x3 x4 x6 s0 A) zPI d w 11 92 [some (.inr (.inr (some 226))), some (.inl x1), some (.inl x2), some (.inl x3), some (.inl x4), none, some (.inl x6), none, none] [(.inl s0)] A := by
  unfold z_M_touch_92
  refine js_istore (pc1 := 94) (L1 := [some (.inr (.inr (some 226))), some (.inl x1), some (.inl x2), some (.inl x3), some (.inl x4), some (.inl s0), some (.inl x6), none, none]) rfl rfl rfl rfl ?_
  refine js_iload (pc1 := 96) rfl rfl rfl ?_
  refine ju_ne (pc1 := 99) (t1 := 108) hx6 rfl rfl rfl (fun c1 => ?_) (fun c1 => ?_)
  · refine js_iload (pc1 := 100) rfl rfl rfl ?_
    refine js_iconst (pc1 := 101) rfl rfl ?_
    refine jt_ne (pc1 := 104) (t1 := 108) hx3 (zlit rfl) rfl rfl rfl (fun c2 => ?_) (fun c2 => ?_)
    · refine js_iconst (pc1 := 105) rfl rfl ?_
      refine js_goto (t1 := 109) rfl rfl ?_
      exact z_M_touch_109_ok N hd hw x1 hx1 x2 hx2 x3 hx3 x4 hx4 s0 hs0 x6 hx6 1 (zlit rfl) A
    · refine js_iconst (pc1 := 109) rfl rfl ?_
      exact z_M_touch_109_ok N hd hw x1 hx1 x2 hx2 x3 hx3 x4 hx4 s0 hs0 x6 hx6 0 (zlit rfl) A
  · refine js_iconst (pc1 := 109) rfl rfl ?_
    exact z_M_touch_109_ok N hd hw x1 hx1 x2 hx2 x3 hx3 x4 hx4 s0 hs0 x6 hx6 0 (zlit rfl) A
theorem z_M_touch_55_ok{d w : Nat} (N : Nat) (hd : 8 ≤ d) (hw : 185 ≤ w) (x1 : Int) (hx1 : zrg x1) (x2 : Int) (hx2 : zrg x2) (x3 : Int) (hx3 : zrg x3) (x4 : Int) (hx4 : zrg x4) (x5 : Int) (hx5 : zrg x5) (s0 : Int) (hs0 : zrg s0) (A : zA) : zG (z_M_touch_55 N x1 x2 x3 x4 x5 s0 A) zPI d w 11 55 [some (.inr (.inr (some 226))), some (.inl x1), some (.inl x2), some (.inl x3), some (.inl x4), some (.inl x5), none, none, none] [(.inl s0)] A := by
  unfold z_M_touch_55
  refine js_istore (pc1 := 57) (L1 := [some (.inr (.inr (some 226))), some (.inl x1), some (.inl x2), some (.inl x3), some (.inl x4), some (.inl x5), some (.inl s0), none, none]) rfl rfl rfl rfl ?_
  refine js_iload (pc1 := 59) rfl rfl rfl ?_
  refine ju_eq (pc1 := 62) (t1 := 91) hx5 rfl rfl rfl (fun c1 => ?_) (fun c1 => ?_)
  · refine js_iconst (pc1 := 92) rfl rfl ?_
    exact zG_to (L := [some (.inr (.inr (some 226))), some (.inl x1), some (.inl x2), some (.inl x3), some (.inl x4), none, some (.inl s0), none, none]) (S := [(.inl 0)]) ⟨rfl, ⟨rfl, ⟨rfl, ⟨rfl, ⟨rfl, ⟨rfl, trivial⟩⟩⟩⟩⟩⟩ (rfl) (z_M_touch_92_ok N hd hw x1 hx1 x2 hx2 x3 hx3 x4 hx4 s0 hs0 0 (zlit rfl) A)
  · refine js_iload (pc1 := 63) rfl rfl rfl ?_
    refine ju_lt (pc1 := 66) (t1 := 91) hx3 rfl rfl rfl (fun c2 => ?_) (fun c2 => ?_)
    · refine js_iconst (pc1 := 92) rfl rfl ?_
      exact zG_to (L := [some (.inr (.inr (some 226))), some (.inl x1), some (.inl x2), some (.inl x3), some (.inl x4), none, some (.inl s0), none, none]) (S := [(.inl 0)]) ⟨rfl, ⟨rfl, ⟨rfl, ⟨rfl, ⟨rfl, ⟨rfl, trivial⟩⟩⟩⟩⟩⟩ (rfl) (z_M_touch_92_ok N hd hw x1 hx1 x2 hx2 x3 hx3 x4 hx4 s0 hs0 0 (zlit rfl) A)
    · refine js_iload (pc1 := 67) rfl rfl rfl ?_
      refine js_iload (pc1 := 69) rfl rfl rfl ?_
      refine js_cP (pc1 := 72) (as := [(.inl s0)]) (S0 := [(.inl x3)]) (m := 1) (L0 := [some (.inl s0)]) rfl rfl rfl rfl rfl rfl rfl rfl (zrc_s rfl) (by omega) (by omega) (z_M_numbersOf_ok N (by omega) (by omega) s0 hs0 A) (fun v3 _ hv3 => ?_)
      refine jt_ge (pc1 := 75) (t1 := 91) hx3 hv3 rfl rfl rfl (fun c4 => ?_) (fun c4 => ?_)
      · refine js_iload (pc1 := 77) rfl rfl rfl ?_
        refine js_iconst (pc1 := 79) rfl rfl ?_
        refine jt_ne (pc1 := 82) (t1 := 87) hs0 (zlit rfl) rfl rfl rfl (fun c5 => ?_) (fun c5 => ?_)
        · refine js_iload (pc1 := 83) rfl rfl rfl ?_
          refine js_iconst (pc1 := 84) rfl rfl ?_
          refine jt_eq (pc1 := 87) (t1 := 91) hx3 (zlit rfl) rfl rfl rfl (fun c6 => ?_) (fun c6 => ?_)
          · refine js_iconst (pc1 := 92) rfl rfl ?_
            exact zG_to (L := [some (.inr (.inr (some 226))), some (.inl x1), some (.inl x2), some (.inl x3), some (.inl x4), none, some (.inl s0), none, none]) (S := [(.inl 0)]) ⟨rfl, ⟨rfl, ⟨rfl, ⟨rfl, ⟨rfl, ⟨rfl, trivial⟩⟩⟩⟩⟩⟩ (rfl) (z_M_touch_92_ok N hd hw x1 hx1 x2 hx2 x3 hx3 x4 hx4 s0 hs0 0 (zlit rfl) A)
          · refine js_iconst (pc1 := 88) rfl rfl ?_
            refine js_goto (t1 := 92) rfl rfl ?_
            exact zG_to (L := [some (.inr (.inr (some 226))), some (.inl x1), some (.inl x2), some (.inl x3), some (.inl x4), none, some (.inl s0), none, none]) (S := [(.inl 1)]) ⟨rfl, ⟨rfl, ⟨rfl, ⟨rfl, ⟨rfl, ⟨rfl, trivial⟩⟩⟩⟩⟩⟩ (rfl) (z_M_touch_92_ok N hd hw x1 hx1 x2 hx2 x3 hx3 x4 hx4 s0 hs0 1 (zlit rfl) A)
        · refine js_iconst (pc1 := 88) rfl rfl ?_
          refine js_goto (t1 := 92) rfl rfl ?_
          exact zG_to (L := [some (.inr (.inr (some 226))), some (.inl x1), some (.inl x2), some (.inl x3), some (.inl x4), none, some (.inl s0), none, none]) (S := [(.inl 1)]) ⟨rfl, ⟨rfl, ⟨rfl, ⟨rfl, ⟨rfl, ⟨rfl, trivial⟩⟩⟩⟩⟩⟩ (rfl) (z_M_touch_92_ok N hd hw x1 hx1 x2 hx2 x3 hx3 x4 hx4 s0 hs0 1 (zlit rfl) A)
      · refine js_iconst (pc1 := 92) rfl rfl ?_
        exact zG_to (L := [some (.inr (.inr (some 226))), some (.inl x1), some (.inl x2), some (.inl x3), some (.inl x4), none, some (.inl s0), none, none]) (S := [(.inl 0)]) ⟨rfl, ⟨rfl, ⟨rfl, ⟨rfl, ⟨rfl, ⟨rfl, trivial⟩⟩⟩⟩⟩⟩ (rfl) (z_M_touch_92_ok N hd hw x1 hx1 x2 hx2 x3 hx3 x4 hx4 s0 hs0 0 (zlit rfl) A)
theorem z_M_touch_36_ok{d w : Nat} (N : Nat) (hd : 8 ≤ d) (hw : 185 ≤ w) (x1 : Int) (hx1 : zrg x1) (x2 : Int) (hx2 : zrg x2) (x3 : Int) (hx3 : zrg x3) (x4 : Int) (hx4 : zrg x4) (s0 : Int) (hs0 : zrg s0) (A : zA) : zG (z_M_touch_36 N x1 x2 x3 x4 s0 A) zPI d w 11 36 [some (.inr (.inr (some 226))), some (.inl x1), some (.inl x2), some (.inl x3), some (.inl x4), none, none, none, none] [(.inl s0)] A := by
  unfold z_M_touch_36
  refine js_istore (pc1 := 38) (L1 := [some (.inr (.inr (some 226))), some (.inl x1), some (.inl x2), some (.inl x3), some (.inl x4), some (.inl s0), none, none, none]) rfl rfl rfl rfl ?_
  refine js_iload (pc1 := 40) rfl rfl rfl ?_
  refine ju_eq (pc1 := 43) (t1 := 54) hs0 rfl rfl rfl (fun c1 => ?_) (fun c1 => ?_)
  · refine js_iconst (pc1 := 55) rfl rfl ?_
    exact z_M_touch_55_ok N hd hw x1 hx1 x2 hx2 x3 hx3 x4 hx4 s0 hs0 0 (zlit rfl) A
  · refine js_aload (pc1 := 44) rfl rfl rfl ?_
    refine js_iconst (pc1 := 45) rfl rfl ?_
    refine js_iload (pc1 := 46) rfl rfl rfl ?_
    refine js_iload (pc1 := 47) rfl rfl rfl ?_
    refine js_iconst (pc1 := 48) rfl rfl ?_
    refine js_cP (pc1 := 51) (as := [(.inr (.inr (some 226))), (.inl 0), (.inl x1), (.inl x2), (.inl 0)]) (S0 := []) (m := 5) (L0 := [some (.inr (.inr (some 226))), some (.inl 0), some (.inl x1), some (.inl x2), some (.inl 0)]) rfl rfl rfl rfl rfl rfl rfl rfl (zrc_o rfl rfl) (by omega) (by omega) (z_M_field_ok N (by omega) (by omega) 0 (zlit rfl) x1 hx1 x2 hx2 0 (zlit rfl) A) (fun v2 _ hv2 => ?_)
    refine js_goto (t1 := 55) rfl rfl ?_
    exact z_M_touch_55_ok N hd hw x1 hx1 x2 hx2 x3 hx3 x4 hx4 s0 hs0 v2 hv2 A
theorem z_M_touch_ok{d w : Nat} (N : Nat) (hd : 8 ≤ d) (hw : 185 ≤ w) (x1 : Int) (hx1 : zrg x1) (x2 : Int) (hx2 : zrg x2) (x3 : Int) (hx3 : zrg x3) (x4 : Int) (hx4 : zrg x4) (A : zA) : zG (z_M_touch N x1 x2 x3 x4 A) zPI d w 11 0 [some (.inr (.inr (some 226))), some (.inl x1), some (.inl x2), some (.inl x3), some (.inl x4), none, none, none, none] [] A := by
  unfold z_M_touch
  refine js_aload (pc1 := 1) rfl rfl rfl ?_
  refine js_iconst (pc1 := 2) rfl rfl ?_
  refine jt_pi (pc1 := 5) (j := 0) rfl rfl rfl rfl rfl (fun A1 => ?_)
  refine js_aload (pc1 := 6) rfl rfl rfl ?_
  refine js_iload (pc1 := 7) rfl rfl rfl ?_
  refine js_cP (pc1 := 10) (as := [(.inr (.inr (some 226))), (.inl x1)]) (S0 := []) (m := 2) (L0 := [some (.inr (.inr (some 226))), some (.inl x1)]) rfl rfl rfl rfl rfl rfl rfl rfl (zrc_o rfl rfl) (by omega) (by omega) (z_M_isThere_ok N (by omega) (by omega) x1 hx1 A1) (fun v2 _ hv2 => ?_)
  refine ju_eq (pc1 := 13) (t1 := 35) hv2 rfl rfl rfl (fun c3 => ?_) (fun c3 => ?_)
  · refine js_iconst (pc1 := 36) rfl rfl ?_
    exact z_M_touch_36_ok N hd hw x1 hx1 x2 hx2 x3 hx3 x4 hx4 0 (zlit rfl) A1
  · refine js_iload (pc1 := 14) rfl rfl rfl ?_
    refine ju_lt (pc1 := 17) (t1 := 35) hx2 rfl rfl rfl (fun c4 => ?_) (fun c4 => ?_)
    · refine js_iconst (pc1 := 36) rfl rfl ?_
      exact z_M_touch_36_ok N hd hw x1 hx1 x2 hx2 x3 hx3 x4 hx4 0 (zlit rfl) A1
    · refine js_iload (pc1 := 18) rfl rfl rfl ?_
      refine js_aload (pc1 := 19) rfl rfl rfl ?_
      refine js_gfr (pc1 := 22) (j := 4) (r := 229) rfl rfl rfl rfl rfl ?_
      refine js_iconst (pc1 := 23) rfl rfl ?_
      refine js_iload (pc1 := 24) rfl rfl rfl ?_
      refine js_cP (pc1 := 27) (as := [(.inl 0), (.inl x1)]) (S0 := [(.inr (.inr (some 229))), (.inl x2)]) (m := 2) (L0 := [some (.inl 0), some (.inl x1)]) rfl rfl rfl rfl rfl rfl rfl rfl (zrc_s rfl) (by omega) (by omega) (z_M_row_ok N (by omega) (by omega) 0 (zlit rfl) x1 hx1 A1) (fun v5 _ hv5 => ?_)
      refine jt_ald (pc1 := 28) rfl rfl rfl rfl rfl (fun v6 hv6 => ?_)
      refine jt_ge (pc1 := 31) (t1 := 35) hx2 hv6 rfl rfl rfl (fun c7 => ?_) (fun c7 => ?_)
      · refine js_iconst (pc1 := 32) rfl rfl ?_
        refine js_goto (t1 := 36) rfl rfl ?_
        exact z_M_touch_36_ok N hd hw x1 hx1 x2 hx2 x3 hx3 x4 hx4 1 (zlit rfl) A1
      · refine js_iconst (pc1 := 36) rfl rfl ?_
        exact z_M_touch_36_ok N hd hw x1 hx1 x2 hx2 x3 hx3 x4 hx4 0 (zlit rfl) A1
theorem z_PC_isMovable_ok{d w : Nat} (N : Nat) (hd : 1 ≤ d) (hw : 21 ≤ w) (x0 : Nat) (hx0 : zsh x0 = some (false, 3, 4)) (x1 : Int) (hx1 : zrg x1) (A : zA) : zG (z_PC_isMovable N x0 x1 A) (zPp A) d w 111 0 [some (.inr (.inr (some x0))), some (.inl x1)] [] A := by
  unfold z_PC_isMovable
  refine js_aload (pc1 := 1) rfl rfl rfl ?_
  refine js_iload (pc1 := 2) rfl rfl rfl ?_
  refine js_cP (pc1 := 5) (as := [(.inr (.inr (some x0))), (.inl x1)]) (S0 := []) (m := 2) (L0 := [some (.inr (.inr (some x0))), some (.inl x1)]) rfl rfl rfl rfl rfl rfl rfl rfl (zrc_o rfl hx0) (by omega) (by omega) (z_Pt_has_ok N (by omega) (by omega) x0 hx0 x1 hx1 A) (fun v1 _ hv1 => ?_)
  refine ju_eq (pc1 := 8) (t1 := 22) hv1 rfl rfl rfl (fun c2 => ?_) (fun c2 => ?_)
  · refine js_iconst (pc1 := 23) rfl rfl ?_
    exact je_P rfl (zfit3 rfl (Or.inl rfl)) rfl (zlit rfl)
  · refine js_aload (pc1 := 9) rfl rfl rfl ?_
    refine js_iload (pc1 := 10) rfl rfl rfl ?_
    refine js_cP (pc1 := 13) (as := [(.inr (.inr (some x0))), (.inl x1)]) (S0 := []) (m := 2) (L0 := [some (.inr (.inr (some x0))), some (.inl x1)]) rfl rfl rfl rfl rfl rfl rfl rfl (zrc_o rfl hx0) (by omega) (by omega) (z_Pt_kind_ok N (by omega) (by omega) x0 hx0 x1 hx1 A) (fun v3 _ hv3 => ?_)
    refine js_iconst (pc1 := 15) rfl rfl ?_
    refine jt_gt (pc1 := 18) (t1 := 22) hv3 (zlit rfl) rfl rfl rfl (fun c4 => ?_) (fun c4 => ?_)
    · refine js_iconst (pc1 := 23) rfl rfl ?_
      exact je_P rfl (zfit3 rfl (Or.inl rfl)) rfl (zlit rfl)
    · refine js_iconst (pc1 := 19) rfl rfl ?_
      refine js_goto (t1 := 23) rfl rfl ?_
      exact je_P rfl (zfit3 rfl (Or.inr rfl)) rfl (zlit rfl)
theorem z_PC_swap_ok{d w : Nat} (N : Nat) (hd : 159 ≤ d) (hw : 10300 ≤ w) (x1 : Int) (hx1 : zrg x1) (x2 : Int) (hx2 : zrg x2) (A : zA) : zG (z_PC_swap N x1 x2 A) zPX d w 61 0 [some (.inr (.inr (some 4))), some (.inl x1), some (.inl x2)] [] A := by
  unfold z_PC_swap
  refine js_aload (pc1 := 1) rfl rfl rfl ?_
  refine jt_gr (pc1 := 4) (j := 2) rfl rfl rfl rfl (fun p1 => ?_)
  refine zG_cs (fun hp1 => ?_)
  refine js_iload (pc1 := 5) rfl rfl rfl ?_
  refine js_cP (pc1 := 8) (as := [(.inr (.inr (some p1))), (.inl x1)]) (S0 := []) (m := 2) (L0 := [some (.inr (.inr (some p1))), some (.inl x1)]) rfl rfl rfl rfl rfl rfl rfl rfl (zrc_o rfl hp1) (by omega) (by omega) (z_Ro_has_ok N (by omega) (by omega) p1 hp1 x1 hx1 A) (fun v2 _ hv2 => ?_)
  refine ju_eq (pc1 := 11) (t1 := 45) hv2 rfl rfl rfl (fun c3 => ?_) (fun c3 => ?_)
  · exact je_T rfl rfl (by omega) (by omega)
  · refine js_aload (pc1 := 12) rfl rfl rfl ?_
    refine jt_gr (pc1 := 15) (j := 2) rfl rfl rfl rfl (fun p4 => ?_)
    refine zG_cs (fun hp4 => ?_)
    refine jt_gf (pc1 := 18) (j := 0) rfl rfl hp4 rfl (fun p5 => ?_)
    refine js_iload (pc1 := 19) rfl rfl rfl ?_
    refine jt_aald (pc1 := 20) rfl rfl (fun p6 => ?_)
    refine zG_cs (fun hp6 => ?_)
    refine js_iload (pc1 := 21) rfl rfl rfl ?_
    refine js_cP (pc1 := 24) (as := [(.inr (.inr (some p6))), (.inl x2)]) (S0 := []) (m := 2) (L0 := [some (.inr (.inr (some p6))), some (.inl x2)]) rfl rfl rfl rfl rfl rfl rfl rfl (zrc_s rfl) (by omega) (by omega) (z_PC_isMovable_ok N (by omega) (by omega) p6 hp6 x2 hx2 A) (fun v7 _ hv7 => ?_)
    refine ju_eq (pc1 := 27) (t1 := 45) hv7 rfl rfl rfl (fun c8 => ?_) (fun c8 => ?_)
    · exact je_T rfl rfl (by omega) (by omega)
    · refine js_aload (pc1 := 28) rfl rfl rfl ?_
      refine jt_gr (pc1 := 31) (j := 2) rfl rfl rfl rfl (fun p9 => ?_)
      refine zG_cs (fun hp9 => ?_)
      refine jt_gf (pc1 := 34) (j := 0) rfl rfl hp9 rfl (fun p10 => ?_)
      refine js_iload (pc1 := 35) rfl rfl rfl ?_
      refine jt_aald (pc1 := 36) rfl rfl (fun p11 => ?_)
      refine zG_cs (fun hp11 => ?_)
      refine js_iload (pc1 := 37) rfl rfl rfl ?_
      refine js_iconst (pc1 := 38) rfl rfl ?_
      refine js_iadd (pc1 := 39) rfl rfl ?_
      refine js_cP (pc1 := 42) (as := [(.inr (.inr (some p11))), (.inl (x2 + 1))]) (S0 := []) (m := 2) (L0 := [some (.inr (.inr (some p11))), some (.inl (x2 + 1))]) rfl rfl rfl rfl rfl rfl rfl rfl (zrc_s rfl) (by omega) (by omega) (zG_to (L := [some (.inr (.inr (some p11))), some (.inl (zw (x2 + 1)))]) (S := []) ⟨rfl, ⟨zval_w (x2 + 1), trivial⟩⟩ rfl (z_PC_isMovable_ok N (by omega) (by omega) p11 hp11 (zw (x2 + 1)) (zw_rg (x2 + 1)) A)) (fun v12 _ hv12 => ?_)
      refine ju_ne (pc1 := 45) (t1 := 55) hv12 rfl rfl rfl (fun c13 => ?_) (fun c13 => ?_)
      · exact je_T rfl rfl (by omega) (by omega)
      · refine js_aload (pc1 := 56) rfl rfl rfl ?_
        refine jt_gr (pc1 := 59) (j := 3) rfl rfl rfl rfl (fun p14 => ?_)
        refine zG_cs (fun hp14 => ?_)
        refine js_aload (pc1 := 60) rfl rfl rfl ?_
        refine jt_gr (pc1 := 63) (j := 2) rfl rfl rfl rfl (fun p15 => ?_)
        refine zG_cs (fun hp15 => ?_)
        refine js_cV (pc1 := 66) (as := [(.inr (.inr (some p14))), (.inr (.inr (some p15)))]) (S0 := []) (m := 3) (L0 := [some (.inr (.inr (some p14))), some (.inr (.inr (some p15))), none]) rfl rfl rfl rfl rfl rfl rfl rfl (zrc_o rfl hp14) (by omega) (by omega) (z_Ro_become_ok N (by omega) (by omega) p14 hp14 p15 hp15 A) (fun A16 _ => ?_)
        refine js_aload (pc1 := 67) rfl rfl rfl ?_
        refine jt_gr (pc1 := 70) (j := 3) rfl rfl rfl rfl (fun p17 => ?_)
        refine zG_cs (fun hp17 => ?_)
        refine jt_gf (pc1 := 73) (j := 0) rfl rfl hp17 rfl (fun p18 => ?_)
        refine js_iload (pc1 := 74) rfl rfl rfl ?_
        refine jt_aald (pc1 := 75) rfl rfl (fun p19 => ?_)
        refine zG_cs (fun hp19 => ?_)
        refine js_iload (pc1 := 76) rfl rfl rfl ?_
        refine js_iload (pc1 := 77) rfl rfl rfl ?_
        refine js_iconst (pc1 := 78) rfl rfl ?_
        refine js_iadd (pc1 := 79) rfl rfl ?_
        refine js_cV (pc1 := 82) (as := [(.inr (.inr (some p19))), (.inl x2), (.inl (x2 + 1))]) (S0 := []) (m := 5) (L0 := [some (.inr (.inr (some p19))), some (.inl x2), some (.inl (x2 + 1)), none, none]) rfl rfl rfl rfl rfl rfl rfl rfl (zrc_o rfl hp19) (by omega) (by omega) (zG_to (L := [some (.inr (.inr (some p19))), some (.inl x2), some (.inl (zw (x2 + 1))), none, none]) (S := []) ⟨rfl, ⟨rfl, ⟨zval_w (x2 + 1), trivial⟩⟩⟩ rfl (z_Pt_exchange_ok N (by omega) (by omega) p19 hp19 x2 hx2 (zw (x2 + 1)) (zw_rg (x2 + 1)) A16)) (fun A20 _ => ?_)
        refine js_aload (pc1 := 83) rfl rfl rfl ?_
        refine js_cI (pc1 := 86) (as := [(.inr (.inr (some 4)))]) (S0 := []) (m := 2) (L0 := [some (.inr (.inr (some 4))), none]) rfl rfl rfl rfl rfl rfl rfl rfl (zrc_o rfl rfl) (by omega) (by omega) (z_PC_staysIfTheSame_ok N (by omega) (by omega) A20) (fun v21 A22 _ hv21 => ?_)
        exact zG_ite (fun h => je_X rfl (zfit3 rfl h) rfl hv21) (fun _ => zG_none)
theorem z_Lw_swap_ok{d w : Nat} (N : Nat) (hd : 160 ≤ d) (hw : 10322 ≤ w) (x1 : Int) (hx1 : zrg x1) (x2 : Int) (hx2 : zrg x2) (A : zA) : zG (z_Lw_swap N x1 x2 A) zPI d w 12 0 [some (.inr (.inr (some 4))), some (.inl x1), some (.inl x2), some (.inr (.inr (some 295))), none] [] A := by
  unfold z_Lw_swap
  refine js_aload (pc1 := 1) rfl rfl rfl ?_
  refine js_iconst (pc1 := 2) rfl rfl ?_
  refine js_aload (pc1 := 3) rfl rfl rfl ?_
  refine js_iload (pc1 := 4) rfl rfl rfl ?_
  refine js_iload (pc1 := 5) rfl rfl rfl ?_
  refine js_cX (pc1 := 8) (as := [(.inr (.inr (some 4))), (.inl x1), (.inl x2)]) (S0 := [(.inl 0), (.inr (.inr (some 295)))]) (m := 3) (L0 := [some (.inr (.inr (some 4))), some (.inl x1), some (.inl x2)]) rfl rfl rfl rfl rfl rfl rfl rfl (zrc_o rfl rfl) (by omega) (by omega) (z_PC_swap_ok N (by omega) (by omega) x1 hx1 x2 hx2 A) (fun v1 A2 hv1 => ?_) (fun n5 A4 => ?_)
  · refine ju_eq (pc1 := 11) (t1 := 15) hv1 rfl rfl rfl (fun c6 => ?_) (fun c6 => ?_)
    · refine js_ldc2 (pc1 := 16) rfl rfl ?_
      refine jt_las (pc1 := 17) rfl rfl rfl rfl (fun A7 => ?_)
      refine js_goto (t1 := 24) rfl rfl ?_
      refine js_iconst (pc1 := 25) rfl rfl ?_
      exact je_I rfl (zfit0 _ rfl) rfl (zlit rfl)
    · refine js_ldc2 (pc1 := 12) rfl rfl ?_
      refine js_goto (t1 := 16) rfl rfl ?_
      refine jt_las (pc1 := 17) rfl rfl rfl rfl (fun A8 => ?_)
      refine js_goto (t1 := 24) rfl rfl ?_
      refine js_iconst (pc1 := 25) rfl rfl ?_
      exact je_I rfl (zfit0 _ rfl) rfl (zlit rfl)
  · rcases Decidable.em (n5 = 0) with c9 | c9
    · subst c9
      refine Or.inr ⟨20, by decide, fun e3 => ?_⟩
      rw [if_pos rfl]
      refine js_astore (pc1 := 22) (L1 := [some (.inr (.inr (some 4))), some (.inl x1), some (.inl x2), some (.inr (.inr (some 295))), some (.inr (.inr (some e3)))]) rfl rfl rfl rfl ?_
      refine js_iconst (pc1 := 23) rfl rfl ?_
      exact je_I rfl (zfit0 _ rfl) rfl (zlit rfl)
    exact Or.inl (by simp only [if_neg c9])
theorem z_M_swap_76_ok{d w : Nat} (N : Nat) (hd : 8 ≤ d) (hw : 185 ≤ w) (x1 : Int) (hx1 : zrg x1) (x2 : Int) (hx2 : zrg x2) (s0 : Int) (hs0 : zrg s0) (A : zA) : zG (z_M_swap_76 N x1 x2 s0 A) zPI d w 13 76 [some (.inr (.inr (some 226))), some (.inl x1), some (.inl x2), none] [(.inl s0)] A := by
  unfold z_M_swap_76
  refine js_istore (pc1 := 77) (L1 := [some (.inr (.inr (some 226))), some (.inl x1), some (.inl x2), some (.inl s0)]) rfl rfl rfl rfl ?_
  refine js_iload (pc1 := 78) rfl rfl rfl ?_
  refine ju_ne (pc1 := 81) (t1 := 89) hs0 rfl rfl rfl (fun c1 => ?_) (fun c1 => ?_)
  · refine js_aload (pc1 := 82) rfl rfl rfl ?_
    refine js_iconst (pc1 := 83) rfl rfl ?_
    refine js_cI (pc1 := 86) (as := [(.inr (.inr (some 226))), (.inl 1)]) (S0 := []) (m := 2) (L0 := [some (.inr (.inr (some 226))), some (.inl 1)]) rfl rfl rfl rfl rfl rfl rfl rfl (zrc_o rfl rfl) (by omega) (by omega) (z_M_fail_ok N (by omega) (by omega) 1 (zlit rfl) A) (fun v2 A3 _ hv2 => ?_)
    refine js_popI (pc1 := 87) rfl rfl ?_
    refine js_iconst (pc1 := 88) rfl rfl ?_
    exact je_I rfl (zfit3 rfl (Or.inl rfl)) rfl (zlit rfl)
  · refine js_aload (pc1 := 90) rfl rfl rfl ?_
    refine js_iconst (pc1 := 91) rfl rfl ?_
    refine js_iconst (pc1 := 92) rfl rfl ?_
    refine js_cV (pc1 := 95) (as := [(.inr (.inr (some 226))), (.inl 0), (.inl 1)]) (S0 := []) (m := 4) (L0 := [some (.inr (.inr (some 226))), some (.inl 0), some (.inl 1), none]) rfl rfl rfl rfl rfl rfl rfl rfl (zrc_o rfl rfl) (by omega) (by omega) (z_M_copyState_ok N (by omega) (by omega) 0 (zlit rfl) 1 (zlit rfl) A) (fun A4 _ => ?_)
    refine js_aload (pc1 := 96) rfl rfl rfl ?_
    refine js_iconst (pc1 := 97) rfl rfl ?_
    refine js_iload (pc1 := 98) rfl rfl rfl ?_
    refine js_iload (pc1 := 99) rfl rfl rfl ?_
    refine js_cP (pc1 := 102) (as := [(.inl 0), (.inl x1), (.inl x2)]) (S0 := [(.inr (.inr (some 226)))]) (m := 3) (L0 := [some (.inl 0), some (.inl x1), some (.inl x2)]) rfl rfl rfl rfl rfl rfl rfl rfl (zrc_s rfl) (by omega) (by omega) (z_M_place_ok N (by omega) (by omega) 0 (zlit rfl) x1 hx1 x2 hx2 A4) (fun v5 _ hv5 => ?_)
    refine js_iconst (pc1 := 103) rfl rfl ?_
    refine js_iload (pc1 := 104) rfl rfl rfl ?_
    refine js_iload (pc1 := 105) rfl rfl rfl ?_
    refine js_iconst (pc1 := 106) rfl rfl ?_
    refine js_iadd (pc1 := 107) rfl rfl ?_
    refine js_cP (pc1 := 110) (as := [(.inl 1), (.inl x1), (.inl (x2 + 1))]) (S0 := [(.inl v5), (.inr (.inr (some 226)))]) (m := 3) (L0 := [some (.inl 1), some (.inl x1), some (.inl (x2 + 1))]) rfl rfl rfl rfl rfl rfl rfl rfl (zrc_s rfl) (by omega) (by omega) (zG_to (L := [some (.inl 1), some (.inl x1), some (.inl (zw (x2 + 1)))]) (S := []) ⟨rfl, ⟨rfl, ⟨zval_w (x2 + 1), trivial⟩⟩⟩ rfl (z_M_place_ok N (by omega) (by omega) 1 (zlit rfl) x1 hx1 (zw (x2 + 1)) (zw_rg (x2 + 1)) A4)) (fun v6 _ hv6 => ?_)
    refine js_cV (pc1 := 113) (as := [(.inr (.inr (some 226))), (.inl v5), (.inl v6)]) (S0 := []) (m := 4) (L0 := [some (.inr (.inr (some 226))), some (.inl v5), some (.inl v6), none]) rfl rfl rfl rfl rfl rfl rfl rfl (zrc_o rfl rfl) (by omega) (by omega) (z_M_copyItem_ok N (by omega) (by omega) v5 hv5 v6 hv6 A4) (fun A7 _ => ?_)
    refine js_aload (pc1 := 114) rfl rfl rfl ?_
    refine js_iconst (pc1 := 115) rfl rfl ?_
    refine js_iload (pc1 := 116) rfl rfl rfl ?_
    refine js_iload (pc1 := 117) rfl rfl rfl ?_
    refine js_iconst (pc1 := 118) rfl rfl ?_
    refine js_iadd (pc1 := 119) rfl rfl ?_
    refine js_cP (pc1 := 122) (as := [(.inl 0), (.inl x1), (.inl (x2 + 1))]) (S0 := [(.inr (.inr (some 226)))]) (m := 3) (L0 := [some (.inl 0), some (.inl x1), some (.inl (x2 + 1))]) rfl rfl rfl rfl rfl rfl rfl rfl (zrc_s rfl) (by omega) (by omega) (zG_to (L := [some (.inl 0), some (.inl x1), some (.inl (zw (x2 + 1)))]) (S := []) ⟨rfl, ⟨rfl, ⟨zval_w (x2 + 1), trivial⟩⟩⟩ rfl (z_M_place_ok N (by omega) (by omega) 0 (zlit rfl) x1 hx1 (zw (x2 + 1)) (zw_rg (x2 + 1)) A7)) (fun v8 _ hv8 => ?_)
    refine js_iconst (pc1 := 123) rfl rfl ?_
    refine js_iload (pc1 := 124) rfl rfl rfl ?_
    refine js_iload (pc1 := 125) rfl rfl rfl ?_
    refine js_cP (pc1 := 128) (as := [(.inl 1), (.inl x1), (.inl x2)]) (S0 := [(.inl v8), (.inr (.inr (some 226)))]) (m := 3) (L0 := [some (.inl 1), some (.inl x1), some (.inl x2)]) rfl rfl rfl rfl rfl rfl rfl rfl (zrc_s rfl) (by omega) (by omega) (z_M_place_ok N (by omega) (by omega) 1 (zlit rfl) x1 hx1 x2 hx2 A7) (fun v9 _ hv9 => ?_)
    refine js_cV (pc1 := 131) (as := [(.inr (.inr (some 226))), (.inl v8), (.inl v9)]) (S0 := []) (m := 4) (L0 := [some (.inr (.inr (some 226))), some (.inl v8), some (.inl v9), none]) rfl rfl rfl rfl rfl rfl rfl rfl (zrc_o rfl rfl) (by omega) (by omega) (z_M_copyItem_ok N (by omega) (by omega) v8 hv8 v9 hv9 A7) (fun A10 _ => ?_)
    refine js_aload (pc1 := 132) rfl rfl rfl ?_
    refine js_cI (pc1 := 135) (as := [(.inr (.inr (some 226)))]) (S0 := []) (m := 2) (L0 := [some (.inr (.inr (some 226))), none]) rfl rfl rfl rfl rfl rfl rfl rfl (zrc_o rfl rfl) (by omega) (by omega) (z_M_settle_ok N (by omega) (by omega) A10) (fun v11 A12 _ hv11 => ?_)
    exact zG_ite (fun h => je_I rfl (zfit3 rfl h) rfl hv11) (fun _ => zG_none)
theorem z_M_swap_38_ok{d w : Nat} (N : Nat) (hd : 8 ≤ d) (hw : 185 ≤ w) (x1 : Int) (hx1 : zrg x1) (x2 : Int) (hx2 : zrg x2) (s0 : Int) (hs0 : zrg s0) (A : zA) : zG (z_M_swap_38 N x1 x2 s0 A) zPI d w 13 38 [some (.inr (.inr (some 226))), some (.inl x1), some (.inl x2), none] [(.inl s0)] A := by
  unfold z_M_swap_38
  refine js_istore (pc1 := 39) (L1 := [some (.inr (.inr (some 226))), some (.inl x1), some (.inl x2), some (.inl s0)]) rfl rfl rfl rfl ?_
  refine js_iload (pc1 := 40) rfl rfl rfl ?_
  refine ju_eq (pc1 := 43) (t1 := 75) hs0 rfl rfl rfl (fun c1 => ?_) (fun c1 => ?_)
  · refine js_iconst (pc1 := 76) rfl rfl ?_
    exact zG_to (L := [some (.inr (.inr (some 226))), some (.inl x1), some (.inl x2), none]) (S := [(.inl 0)]) ⟨rfl, ⟨rfl, ⟨rfl, trivial⟩⟩⟩ (rfl) (z_M_swap_76_ok N hd hw x1 hx1 x2 hx2 0 (zlit rfl) A)
  · refine js_aload (pc1 := 44) rfl rfl rfl ?_
    refine js_iconst (pc1 := 45) rfl rfl ?_
    refine js_iload (pc1 := 46) rfl rfl rfl ?_
    refine js_iload (pc1 := 47) rfl rfl rfl ?_
    refine js_iconst (pc1 := 48) rfl rfl ?_
    refine js_cP (pc1 := 51) (as := [(.inr (.inr (some 226))), (.inl 0), (.inl x1), (.inl x2), (.inl 0)]) (S0 := []) (m := 5) (L0 := [some (.inr (.inr (some 226))), some (.inl 0), some (.inl x1), some (.inl x2), some (.inl 0)]) rfl rfl rfl rfl rfl rfl rfl rfl (zrc_o rfl rfl) (by omega) (by omega) (z_M_field_ok N (by omega) (by omega) 0 (zlit rfl) x1 hx1 x2 hx2 0 (zlit rfl) A) (fun v2 _ hv2 => ?_)
    refine js_iconst (pc1 := 53) rfl rfl ?_
    refine jt_ge (pc1 := 56) (t1 := 75) hv2 (zlit rfl) rfl rfl rfl (fun c3 => ?_) (fun c3 => ?_)
    · refine js_aload (pc1 := 57) rfl rfl rfl ?_
      refine js_iconst (pc1 := 58) rfl rfl ?_
      refine js_iload (pc1 := 59) rfl rfl rfl ?_
      refine js_iload (pc1 := 60) rfl rfl rfl ?_
      refine js_iconst (pc1 := 61) rfl rfl ?_
      refine js_iadd (pc1 := 62) rfl rfl ?_
      refine js_iconst (pc1 := 63) rfl rfl ?_
      refine js_cP (pc1 := 66) (as := [(.inr (.inr (some 226))), (.inl 0), (.inl x1), (.inl (x2 + 1)), (.inl 0)]) (S0 := []) (m := 5) (L0 := [some (.inr (.inr (some 226))), some (.inl 0), some (.inl x1), some (.inl (x2 + 1)), some (.inl 0)]) rfl rfl rfl rfl rfl rfl rfl rfl (zrc_o rfl rfl) (by omega) (by omega) (zG_to (L := [some (.inr (.inr (some 226))), some (.inl 0), some (.inl x1), some (.inl (zw (x2 + 1))), some (.inl 0)]) (S := []) ⟨rfl, ⟨rfl, ⟨rfl, ⟨zval_w (x2 + 1), ⟨rfl, trivial⟩⟩⟩⟩⟩ rfl (z_M_field_ok N (by omega) (by omega) 0 (zlit rfl) x1 hx1 (zw (x2 + 1)) (zw_rg (x2 + 1)) 0 (zlit rfl) A)) (fun v4 _ hv4 => ?_)
      refine js_iconst (pc1 := 68) rfl rfl ?_
      refine jt_ge (pc1 := 71) (t1 := 75) hv4 (zlit rfl) rfl rfl rfl (fun c5 => ?_) (fun c5 => ?_)
      · refine js_iconst (pc1 := 72) rfl rfl ?_
        refine js_goto (t1 := 76) rfl rfl ?_
        exact zG_to (L := [some (.inr (.inr (some 226))), some (.inl x1), some (.inl x2), none]) (S := [(.inl 1)]) ⟨rfl, ⟨rfl, ⟨rfl, trivial⟩⟩⟩ (rfl) (z_M_swap_76_ok N hd hw x1 hx1 x2 hx2 1 (zlit rfl) A)
      · refine js_iconst (pc1 := 76) rfl rfl ?_
        exact zG_to (L := [some (.inr (.inr (some 226))), some (.inl x1), some (.inl x2), none]) (S := [(.inl 0)]) ⟨rfl, ⟨rfl, ⟨rfl, trivial⟩⟩⟩ (rfl) (z_M_swap_76_ok N hd hw x1 hx1 x2 hx2 0 (zlit rfl) A)
    · refine js_iconst (pc1 := 76) rfl rfl ?_
      exact zG_to (L := [some (.inr (.inr (some 226))), some (.inl x1), some (.inl x2), none]) (S := [(.inl 0)]) ⟨rfl, ⟨rfl, ⟨rfl, trivial⟩⟩⟩ (rfl) (z_M_swap_76_ok N hd hw x1 hx1 x2 hx2 0 (zlit rfl) A)
theorem z_M_swap_ok{d w : Nat} (N : Nat) (hd : 8 ≤ d) (hw : 185 ≤ w) (x1 : Int) (hx1 : zrg x1) (x2 : Int) (hx2 : zrg x2) (A : zA) : zG (z_M_swap N x1 x2 A) zPI d w 13 0 [some (.inr (.inr (some 226))), some (.inl x1), some (.inl x2), none] [] A := by
  unfold z_M_swap
  refine js_aload (pc1 := 1) rfl rfl rfl ?_
  refine js_iconst (pc1 := 2) rfl rfl ?_
  refine jt_pi (pc1 := 5) (j := 0) rfl rfl rfl rfl rfl (fun A1 => ?_)
  refine js_aload (pc1 := 6) rfl rfl rfl ?_
  refine js_iload (pc1 := 7) rfl rfl rfl ?_
  refine js_cP (pc1 := 10) (as := [(.inr (.inr (some 226))), (.inl x1)]) (S0 := []) (m := 2) (L0 := [some (.inr (.inr (some 226))), some (.inl x1)]) rfl rfl rfl rfl rfl rfl rfl rfl (zrc_o rfl rfl) (by omega) (by omega) (z_M_isThere_ok N (by omega) (by omega) x1 hx1 A1) (fun v2 _ hv2 => ?_)
  refine ju_eq (pc1 := 13) (t1 := 37) hv2 rfl rfl rfl (fun c3 => ?_) (fun c3 => ?_)
  · refine js_iconst (pc1 := 38) rfl rfl ?_
    exact z_M_swap_38_ok N hd hw x1 hx1 x2 hx2 0 (zlit rfl) A1
  · refine js_iload (pc1 := 14) rfl rfl rfl ?_
    refine ju_lt (pc1 := 17) (t1 := 37) hx2 rfl rfl rfl (fun c4 => ?_) (fun c4 => ?_)
    · refine js_iconst (pc1 := 38) rfl rfl ?_
      exact z_M_swap_38_ok N hd hw x1 hx1 x2 hx2 0 (zlit rfl) A1
    · refine js_iload (pc1 := 18) rfl rfl rfl ?_
      refine js_aload (pc1 := 19) rfl rfl rfl ?_
      refine js_gfr (pc1 := 22) (j := 4) (r := 229) rfl rfl rfl rfl rfl ?_
      refine js_iconst (pc1 := 23) rfl rfl ?_
      refine js_iload (pc1 := 24) rfl rfl rfl ?_
      refine js_cP (pc1 := 27) (as := [(.inl 0), (.inl x1)]) (S0 := [(.inr (.inr (some 229))), (.inl x2)]) (m := 2) (L0 := [some (.inl 0), some (.inl x1)]) rfl rfl rfl rfl rfl rfl rfl rfl (zrc_s rfl) (by omega) (by omega) (z_M_row_ok N (by omega) (by omega) 0 (zlit rfl) x1 hx1 A1) (fun v5 _ hv5 => ?_)
      refine jt_ald (pc1 := 28) rfl rfl rfl rfl rfl (fun v6 hv6 => ?_)
      refine js_iconst (pc1 := 29) rfl rfl ?_
      refine js_isub (pc1 := 30) rfl rfl ?_
      refine zG_w1 ?_
      refine jt_ge (pc1 := 33) (t1 := 37) hx2 (zw_rg (v6 - 1)) rfl rfl rfl (fun c7 => ?_) (fun c7 => ?_)
      · refine js_iconst (pc1 := 34) rfl rfl ?_
        refine js_goto (t1 := 38) rfl rfl ?_
        exact z_M_swap_38_ok N hd hw x1 hx1 x2 hx2 1 (zlit rfl) A1
      · refine js_iconst (pc1 := 38) rfl rfl ?_
        exact z_M_swap_38_ok N hd hw x1 hx1 x2 hx2 0 (zlit rfl) A1
theorem z_PC_restore_ok{d w : Nat} (N : Nat) (hd : 5 ≤ d) (hw : 151 ≤ w) (A : zA) : zG (z_PC_restore N A) zPV d w 14 0 [some (.inr (.inr (some 4)))] [] A := by
  unfold z_PC_restore
  refine js_aload (pc1 := 1) rfl rfl rfl ?_
  refine jt_gr (pc1 := 4) (j := 2) rfl rfl rfl rfl (fun p1 => ?_)
  refine zG_cs (fun hp1 => ?_)
  refine js_aload (pc1 := 5) rfl rfl rfl ?_
  refine js_gfr (pc1 := 8) (j := 1) (r := 7) rfl rfl rfl rfl rfl ?_
  refine js_cV (pc1 := 11) (as := [(.inr (.inr (some p1))), (.inr (.inr (some 7)))]) (S0 := []) (m := 3) (L0 := [some (.inr (.inr (some p1))), some (.inr (.inr (some 7))), none]) rfl rfl rfl rfl rfl rfl rfl rfl (zrc_o rfl hp1) (by omega) (by omega) (z_Ro_become_ok N (by omega) (by omega) p1 hp1 7 rfl A) (fun A2 _ => ?_)
  refine js_aload (pc1 := 12) rfl rfl rfl ?_
  refine js_iconst (pc1 := 13) rfl rfl ?_
  refine jt_pbl (pc1 := 16) (j := 9) rfl rfl rfl rfl rfl (Or.inl rfl) (fun A3 => ?_)
  exact je_V rfl
theorem z_M_restore_ok{d w : Nat} (N : Nat) (hd : 3 ≤ d) (hw : 70 ≤ w) (A : zA) : zG (z_M_restore N A) zPV d w 15 0 [some (.inr (.inr (some 226)))] [] A := by
  unfold z_M_restore
  refine js_aload (pc1 := 1) rfl rfl rfl ?_
  refine js_iconst (pc1 := 2) rfl rfl ?_
  refine jt_pi (pc1 := 5) (j := 0) rfl rfl rfl rfl rfl (fun A1 => ?_)
  refine js_aload (pc1 := 6) rfl rfl rfl ?_
  refine js_iconst (pc1 := 7) rfl rfl ?_
  refine js_iconst (pc1 := 8) rfl rfl ?_
  refine js_cV (pc1 := 11) (as := [(.inr (.inr (some 226))), (.inl 2), (.inl 0)]) (S0 := []) (m := 4) (L0 := [some (.inr (.inr (some 226))), some (.inl 2), some (.inl 0), none]) rfl rfl rfl rfl rfl rfl rfl rfl (zrc_o rfl rfl) (by omega) (by omega) (z_M_copyState_ok N (by omega) (by omega) 2 (zlit rfl) 0 (zlit rfl) A1) (fun A2 _ => ?_)
  exact je_V rfl
theorem z_PC_size_ok{d w : Nat} (N : Nat) (hd : 1 ≤ d) (hw : 21 ≤ w) (x1 : Int) (hx1 : zrg x1) (x2 : Int) (hx2 : zrg x2) (A : zA) : zG (z_PC_size N x1 x2 A) (zPp A) d w 16 0 [some (.inr (.inr (some 4))), some (.inl x1), some (.inl x2)] [] A := by
  unfold z_PC_size
  refine js_aload (pc1 := 1) rfl rfl rfl ?_
  refine jt_gr (pc1 := 4) (j := 2) rfl rfl rfl rfl (fun p1 => ?_)
  refine zG_cs (fun hp1 => ?_)
  refine js_iload (pc1 := 5) rfl rfl rfl ?_
  refine js_cP (pc1 := 8) (as := [(.inr (.inr (some p1))), (.inl x1)]) (S0 := []) (m := 2) (L0 := [some (.inr (.inr (some p1))), some (.inl x1)]) rfl rfl rfl rfl rfl rfl rfl rfl (zrc_o rfl hp1) (by omega) (by omega) (z_Ro_has_ok N (by omega) (by omega) p1 hp1 x1 hx1 A) (fun v2 _ hv2 => ?_)
  refine ju_ne (pc1 := 11) (t1 := 13) hv2 rfl rfl rfl (fun c3 => ?_) (fun c3 => ?_)
  · refine js_iconst (pc1 := 12) rfl rfl ?_
    exact je_P rfl (zfit0 _ rfl) rfl (zlit rfl)
  · refine js_iload (pc1 := 14) rfl rfl rfl ?_
    refine zG_ite (fun c7 => ?_) (fun c7 => ?_)
    · refine js_lsw (t1 := 40) rfl c7 (zlit rfl) (by decide) ?_
      refine js_aload (pc1 := 41) rfl rfl rfl ?_
      refine jt_gr (pc1 := 44) (j := 2) rfl rfl rfl rfl (fun p4 => ?_)
      refine zG_cs (fun hp4 => ?_)
      refine jt_gf (pc1 := 47) (j := 0) rfl rfl hp4 rfl (fun p5 => ?_)
      refine js_iload (pc1 := 48) rfl rfl rfl ?_
      refine jt_aald (pc1 := 49) rfl rfl (fun p6 => ?_)
      refine zG_cs (fun hp6 => ?_)
      refine js_gi (pc1 := 52) (j := 2) rfl rfl hp6 rfl ?_
      exact je_P rfl (zfit0 _ rfl) rfl (zi_rg _ _ _)
    refine zG_ite (fun c11 => ?_) (fun c11 => ?_)
    · refine js_lsw (t1 := 53) rfl c11 (zlit rfl) (by decide) ?_
      refine js_aload (pc1 := 54) rfl rfl rfl ?_
      refine jt_gr (pc1 := 57) (j := 2) rfl rfl rfl rfl (fun p8 => ?_)
      refine zG_cs (fun hp8 => ?_)
      refine jt_gf (pc1 := 60) (j := 0) rfl rfl hp8 rfl (fun p9 => ?_)
      refine js_iload (pc1 := 61) rfl rfl rfl ?_
      refine jt_aald (pc1 := 62) rfl rfl (fun p10 => ?_)
      refine zG_cs (fun hp10 => ?_)
      refine js_gi (pc1 := 65) (j := 3) rfl rfl hp10 rfl ?_
      exact je_P rfl (zfit0 _ rfl) rfl (zi_rg _ _ _)
    refine js_lswd (t1 := 66) rfl hx2 (by simp; omega) rfl ?_
    refine js_iconst (pc1 := 67) rfl rfl ?_
    exact je_P rfl (zfit0 _ rfl) rfl (zlit rfl)
theorem z_M_size_ok{d w : Nat} (N : Nat) (hd : 1 ≤ d) (hw : 21 ≤ w) (x1 : Int) (hx1 : zrg x1) (x2 : Int) (hx2 : zrg x2) (A : zA) : zG (z_M_size N x1 x2 A) zPI d w 17 0 [some (.inr (.inr (some 226))), some (.inl x1), some (.inl x2)] [] A := by
  unfold z_M_size
  refine js_aload (pc1 := 1) rfl rfl rfl ?_
  refine js_iconst (pc1 := 2) rfl rfl ?_
  refine jt_pi (pc1 := 5) (j := 0) rfl rfl rfl rfl rfl (fun A1 => ?_)
  refine js_aload (pc1 := 6) rfl rfl rfl ?_
  refine js_iload (pc1 := 7) rfl rfl rfl ?_
  refine js_cP (pc1 := 10) (as := [(.inr (.inr (some 226))), (.inl x1)]) (S0 := []) (m := 2) (L0 := [some (.inr (.inr (some 226))), some (.inl x1)]) rfl rfl rfl rfl rfl rfl rfl rfl (zrc_o rfl rfl) (by omega) (by omega) (z_M_isThere_ok N (by omega) (by omega) x1 hx1 A1) (fun v2 _ hv2 => ?_)
  refine ju_eq (pc1 := 13) (t1 := 22) hv2 rfl rfl rfl (fun c3 => ?_) (fun c3 => ?_)
  · refine js_iconst (pc1 := 23) rfl rfl ?_
    exact je_I rfl (zfit0 _ rfl) rfl (zlit rfl)
  · refine js_iload (pc1 := 14) rfl rfl rfl ?_
    refine ju_lt (pc1 := 17) (t1 := 22) hx2 rfl rfl rfl (fun c4 => ?_) (fun c4 => ?_)
    · refine js_iconst (pc1 := 23) rfl rfl ?_
      exact je_I rfl (zfit0 _ rfl) rfl (zlit rfl)
    · refine js_iload (pc1 := 18) rfl rfl rfl ?_
      refine js_iconst (pc1 := 19) rfl rfl ?_
      refine jt_le (pc1 := 22) (t1 := 24) hx2 (zlit rfl) rfl rfl rfl (fun c5 => ?_) (fun c5 => ?_)
      · refine js_iconst (pc1 := 23) rfl rfl ?_
        exact je_I rfl (zfit0 _ rfl) rfl (zlit rfl)
      · refine js_iload (pc1 := 25) rfl rfl rfl ?_
        refine ju_ne (pc1 := 28) (t1 := 41) hx2 rfl rfl rfl (fun c6 => ?_) (fun c6 => ?_)
        · refine js_aload (pc1 := 29) rfl rfl rfl ?_
          refine js_gfr (pc1 := 32) (j := 4) (r := 229) rfl rfl rfl rfl rfl ?_
          refine js_iconst (pc1 := 33) rfl rfl ?_
          refine js_iload (pc1 := 34) rfl rfl rfl ?_
          refine js_cP (pc1 := 37) (as := [(.inl 0), (.inl x1)]) (S0 := [(.inr (.inr (some 229)))]) (m := 2) (L0 := [some (.inl 0), some (.inl x1)]) rfl rfl rfl rfl rfl rfl rfl rfl (zrc_s rfl) (by omega) (by omega) (z_M_row_ok N (by omega) (by omega) 0 (zlit rfl) x1 hx1 A1) (fun v7 _ hv7 => ?_)
          refine jt_ald (pc1 := 38) rfl rfl rfl rfl rfl (fun v8 hv8 => ?_)
          refine js_goto (t1 := 51) rfl rfl ?_
          exact je_I rfl (zfit0 _ rfl) rfl hv8
        · refine js_aload (pc1 := 42) rfl rfl rfl ?_
          refine js_gfr (pc1 := 45) (j := 5) (r := 230) rfl rfl rfl rfl rfl ?_
          refine js_iconst (pc1 := 46) rfl rfl ?_
          refine js_iload (pc1 := 47) rfl rfl rfl ?_
          refine js_cP (pc1 := 50) (as := [(.inl 0), (.inl x1)]) (S0 := [(.inr (.inr (some 230)))]) (m := 2) (L0 := [some (.inl 0), some (.inl x1)]) rfl rfl rfl rfl rfl rfl rfl rfl (zrc_s rfl) (by omega) (by omega) (z_M_row_ok N (by omega) (by omega) 0 (zlit rfl) x1 hx1 A1) (fun v9 _ hv9 => ?_)
          refine jt_ald (pc1 := 51) rfl rfl rfl rfl rfl (fun v10 hv10 => ?_)
          exact je_I rfl (zfit0 _ rfl) rfl hv10
theorem z_PC_item_ok{d w : Nat} (N : Nat) (hd : 8 ≤ d) (hw : 10300 ≤ w) (x1 : Int) (hx1 : zrg x1) (x2 : Int) (hx2 : zrg x2) (x3 : Int) (hx3 : zrg x3) (A : zA) : zG (z_PC_item N x1 x2 x3 A) zPX d w 65 0 [some (.inr (.inr (some 4))), some (.inl x1), some (.inl x2), some (.inl x3)] [] A := by
  unfold z_PC_item
  refine js_aload (pc1 := 1) rfl rfl rfl ?_
  refine jt_gr (pc1 := 4) (j := 2) rfl rfl rfl rfl (fun p1 => ?_)
  refine zG_cs (fun hp1 => ?_)
  refine js_iload (pc1 := 5) rfl rfl rfl ?_
  refine js_cP (pc1 := 8) (as := [(.inr (.inr (some p1))), (.inl x1)]) (S0 := []) (m := 2) (L0 := [some (.inr (.inr (some p1))), some (.inl x1)]) rfl rfl rfl rfl rfl rfl rfl rfl (zrc_o rfl hp1) (by omega) (by omega) (z_Ro_has_ok N (by omega) (by omega) p1 hp1 x1 hx1 A) (fun v2 _ hv2 => ?_)
  refine ju_eq (pc1 := 11) (t1 := 27) hv2 rfl rfl rfl (fun c3 => ?_) (fun c3 => ?_)
  · exact je_T rfl rfl (by omega) (by omega)
  · refine js_aload (pc1 := 12) rfl rfl rfl ?_
    refine jt_gr (pc1 := 15) (j := 2) rfl rfl rfl rfl (fun p4 => ?_)
    refine zG_cs (fun hp4 => ?_)
    refine jt_gf (pc1 := 18) (j := 0) rfl rfl hp4 rfl (fun p5 => ?_)
    refine js_iload (pc1 := 19) rfl rfl rfl ?_
    refine jt_aald (pc1 := 20) rfl rfl (fun p6 => ?_)
    refine zG_cs (fun hp6 => ?_)
    refine js_iload (pc1 := 21) rfl rfl rfl ?_
    refine js_cP (pc1 := 24) (as := [(.inr (.inr (some p6))), (.inl x2)]) (S0 := []) (m := 2) (L0 := [some (.inr (.inr (some p6))), some (.inl x2)]) rfl rfl rfl rfl rfl rfl rfl rfl (zrc_o rfl hp6) (by omega) (by omega) (z_Pt_has_ok N (by omega) (by omega) p6 hp6 x2 hx2 A) (fun v7 _ hv7 => ?_)
    refine ju_ne (pc1 := 27) (t1 := 37) hv7 rfl rfl rfl (fun c8 => ?_) (fun c8 => ?_)
    · exact je_T rfl rfl (by omega) (by omega)
    · refine js_iload (pc1 := 38) rfl rfl rfl ?_
      refine ju_ne (pc1 := 41) (t1 := 55) hx3 rfl rfl rfl (fun c9 => ?_) (fun c9 => ?_)
      · refine js_aload (pc1 := 42) rfl rfl rfl ?_
        refine jt_gr (pc1 := 45) (j := 2) rfl rfl rfl rfl (fun p10 => ?_)
        refine zG_cs (fun hp10 => ?_)
        refine jt_gf (pc1 := 48) (j := 0) rfl rfl hp10 rfl (fun p11 => ?_)
        refine js_iload (pc1 := 49) rfl rfl rfl ?_
        refine jt_aald (pc1 := 50) rfl rfl (fun p12 => ?_)
        refine zG_cs (fun hp12 => ?_)
        refine js_iload (pc1 := 51) rfl rfl rfl ?_
        refine js_cP (pc1 := 54) (as := [(.inr (.inr (some p12))), (.inl x2)]) (S0 := []) (m := 2) (L0 := [some (.inr (.inr (some p12))), some (.inl x2)]) rfl rfl rfl rfl rfl rfl rfl rfl (zrc_o rfl hp12) (by omega) (by omega) (z_Pt_kind_ok N (by omega) (by omega) p12 hp12 x2 hx2 A) (fun v13 _ hv13 => ?_)
        exact je_X rfl (zfit0 _ rfl) rfl hv13
      · refine js_iload (pc1 := 56) rfl rfl rfl ?_
        refine ju_lt (pc1 := 59) (t1 := 78) hx3 rfl rfl rfl (fun c14 => ?_) (fun c14 => ?_)
        · exact je_T rfl rfl (by omega) (by omega)
        · refine js_aload (pc1 := 60) rfl rfl rfl ?_
          refine jt_gr (pc1 := 63) (j := 2) rfl rfl rfl rfl (fun p15 => ?_)
          refine zG_cs (fun hp15 => ?_)
          refine jt_gf (pc1 := 66) (j := 0) rfl rfl hp15 rfl (fun p16 => ?_)
          refine js_iload (pc1 := 67) rfl rfl rfl ?_
          refine jt_aald (pc1 := 68) rfl rfl (fun p17 => ?_)
          refine zG_cs (fun hp17 => ?_)
          refine js_iload (pc1 := 69) rfl rfl rfl ?_
          refine js_iload (pc1 := 70) rfl rfl rfl ?_
          refine js_iconst (pc1 := 71) rfl rfl ?_
          refine js_isub (pc1 := 72) rfl rfl ?_
          refine js_cP (pc1 := 75) (as := [(.inr (.inr (some p17))), (.inl x2), (.inl (x3 - 1))]) (S0 := []) (m := 3) (L0 := [some (.inr (.inr (some p17))), some (.inl x2), some (.inl (x3 - 1))]) rfl rfl rfl rfl rfl rfl rfl rfl (zrc_o rfl hp17) (by omega) (by omega) (zG_to (L := [some (.inr (.inr (some p17))), some (.inl x2), some (.inl (zw (x3 - 1)))]) (S := []) ⟨rfl, ⟨rfl, ⟨zval_w (x3 - 1), trivial⟩⟩⟩ rfl (z_Pt_hasNumber_ok N (by omega) (by omega) p17 hp17 x2 hx2 (zw (x3 - 1)) (zw_rg (x3 - 1)) A)) (fun v18 _ hv18 => ?_)
          refine ju_ne (pc1 := 78) (t1 := 88) hv18 rfl rfl rfl (fun c19 => ?_) (fun c19 => ?_)
          · exact je_T rfl rfl (by omega) (by omega)
          · refine js_aload (pc1 := 89) rfl rfl rfl ?_
            refine jt_gr (pc1 := 92) (j := 2) rfl rfl rfl rfl (fun p20 => ?_)
            refine zG_cs (fun hp20 => ?_)
            refine jt_gf (pc1 := 95) (j := 0) rfl rfl hp20 rfl (fun p21 => ?_)
            refine js_iload (pc1 := 96) rfl rfl rfl ?_
            refine jt_aald (pc1 := 97) rfl rfl (fun p22 => ?_)
            refine zG_cs (fun hp22 => ?_)
            refine js_iload (pc1 := 98) rfl rfl rfl ?_
            refine js_iload (pc1 := 99) rfl rfl rfl ?_
            refine js_iconst (pc1 := 100) rfl rfl ?_
            refine js_isub (pc1 := 101) rfl rfl ?_
            refine js_cP (pc1 := 104) (as := [(.inr (.inr (some p22))), (.inl x2), (.inl (x3 - 1))]) (S0 := []) (m := 4) (L0 := [some (.inr (.inr (some p22))), some (.inl x2), some (.inl (x3 - 1)), none]) rfl rfl rfl rfl rfl rfl rfl rfl (zrc_o rfl hp22) (by omega) (by omega) (zG_to (L := [some (.inr (.inr (some p22))), some (.inl x2), some (.inl (zw (x3 - 1))), none]) (S := []) ⟨rfl, ⟨rfl, ⟨zval_w (x3 - 1), trivial⟩⟩⟩ rfl (z_Pt_number_ok N (by omega) (by omega) p22 hp22 x2 hx2 (zw (x3 - 1)) (zw_rg (x3 - 1)) A)) (fun v23 _ hv23 => ?_)
            exact je_X rfl (zfit0 _ rfl) rfl hv23
theorem z_Lw_item_ok{d w : Nat} (N : Nat) (hd : 9 ≤ d) (hw : 10323 ≤ w) (x1 : Int) (hx1 : zrg x1) (x2 : Int) (hx2 : zrg x2) (x3 : Int) (hx3 : zrg x3) (A : zA) : zG (z_Lw_item N x1 x2 x3 A) zPI d w 18 0 [some (.inr (.inr (some 4))), some (.inl x1), some (.inl x2), some (.inl x3), some (.inr (.inr (some 295))), none] [] A := by
  unfold z_Lw_item
  refine js_aload (pc1 := 2) rfl rfl rfl ?_
  refine js_iconst (pc1 := 3) rfl rfl ?_
  refine js_aload (pc1 := 4) rfl rfl rfl ?_
  refine js_iload (pc1 := 5) rfl rfl rfl ?_
  refine js_iload (pc1 := 6) rfl rfl rfl ?_
  refine js_iload (pc1 := 7) rfl rfl rfl ?_
  refine js_cX (pc1 := 10) (as := [(.inr (.inr (some 4))), (.inl x1), (.inl x2), (.inl x3)]) (S0 := [(.inl 0), (.inr (.inr (some 295)))]) (m := 4) (L0 := [some (.inr (.inr (some 4))), some (.inl x1), some (.inl x2), some (.inl x3)]) rfl rfl rfl rfl rfl rfl rfl rfl (zrc_o rfl rfl) (by omega) (by omega) (z_PC_item_ok N (by omega) (by omega) x1 hx1 x2 hx2 x3 hx3 A) (fun v1 A2 hv1 => ?_) (fun n5 A4 => ?_)
  · refine js_i2l (pc1 := 11) rfl rfl ?_
    refine jt_las (pc1 := 12) rfl rfl rfl rfl (fun A6 => ?_)
    refine js_goto (t1 := 19) rfl rfl ?_
    refine js_iconst (pc1 := 20) rfl rfl ?_
    exact je_I rfl (zfit0 _ rfl) rfl (zlit rfl)
  · rcases Decidable.em (n5 = 2) with c7 | c7
    · subst c7
      refine Or.inr ⟨15, by decide, fun e3 => ?_⟩
      rw [if_pos rfl]
      refine js_astore (pc1 := 17) (L1 := [some (.inr (.inr (some 4))), some (.inl x1), some (.inl x2), some (.inl x3), some (.inr (.inr (some 295))), some (.inr (.inr (some e3)))]) rfl rfl rfl rfl ?_
      refine js_iconst (pc1 := 18) rfl rfl ?_
      exact je_I rfl (zfit0 _ rfl) rfl (zlit rfl)
    exact Or.inl (by simp only [if_neg c7])
