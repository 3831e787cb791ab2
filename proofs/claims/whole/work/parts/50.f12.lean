theorem z_M_moveUp_74_ok{d w : Nat} (N : Nat) (hd : 1 ≤ d) (hw : 23 ≤ w) (x1 : Int) (hx1 : zrg x1) (x2 : Int) (hx2 : zrg x2) (x4 : Int) (hx4 : zrg x4) (A : zA) : zG (z_M_moveUp_74 N x1 x2 x4 A) zPV d w 105 74 [some (.inr (.inr (some 226))), some (.inl x1), some (.inl x2), none, some (.inl x4)] [] A := z_M_moveUp_74_lok N hd hw N x1 hx1 x2 hx2 x4 hx4 A
theorem z_M_moveUp_39_bok{d w : Nat} {r39 : Int → Int → Int → zA → Option zA} (hr39 : ∀ (x1 : Int) (hx1 : zrg x1) (x2 : Int) (hx2 : zrg x2) (x4 : Int) (hx4 : zrg x4) (A : zA), zG (r39 x1 x2 x4 A) zPV d w 105 39 [some (.inr (.inr (some 226))), some (.inl x1), some (.inl x2), none, some (.inl x4)] [] A) (N : Nat) (hd : 1 ≤ d) (hw : 23 ≤ w) (x1 : Int) (hx1 : zrg x1) (x2 : Int) (hx2 : zrg x2) (x4 : Int) (hx4 : zrg x4) (A : zA) : zG (z_M_moveUp_39_b r39 N x1 x2 x4 A) zPV d w 105 39 [some (.inr (.inr (some 226))), some (.inl x1), some (.inl x2), none, some (.inl x4)] [] A := by
  unfold z_M_moveUp_39_b
  refine js_iload (pc1 := 41) rfl rfl rfl ?_
  refine js_iload (pc1 := 42) rfl rfl rfl ?_
  refine jt_le (pc1 := 45) (t1 := 71) hx4 hx2 rfl rfl rfl (fun c1 => ?_) (fun c1 => ?_)
  · refine js_aload (pc1 := 46) rfl rfl rfl ?_
    refine js_iconst (pc1 := 47) rfl rfl ?_
    refine js_iload (pc1 := 48) rfl rfl rfl ?_
    refine js_iload (pc1 := 50) rfl rfl rfl ?_
    refine js_iconst (pc1 := 51) rfl rfl ?_
    refine js_isub (pc1 := 52) rfl rfl ?_
    refine js_cP (pc1 := 55) (as := [(.inl 1), (.inl x1), (.inl (x4 - 1))]) (S0 := [(.inr (.inr (some 226)))]) (m := 3) (L0 := [some (.inl 1), some (.inl x1), some (.inl (x4 - 1))]) rfl rfl rfl rfl rfl rfl rfl rfl (zrc_s rfl) (by omega) (by omega) (zG_to (L := [some (.inl 1), some (.inl x1), some (.inl (zw (x4 - 1)))]) (S := []) ⟨rfl, ⟨rfl, ⟨zval_w (x4 - 1), trivial⟩⟩⟩ rfl (z_M_place_ok N (by omega) (by omega) 1 (zlit rfl) x1 hx1 (zw (x4 - 1)) (zw_rg (x4 - 1)) A)) (fun v2 _ hv2 => ?_)
    refine js_iconst (pc1 := 56) rfl rfl ?_
    refine js_iload (pc1 := 57) rfl rfl rfl ?_
    refine js_iload (pc1 := 59) rfl rfl rfl ?_
    refine js_cP (pc1 := 62) (as := [(.inl 1), (.inl x1), (.inl x4)]) (S0 := [(.inl v2), (.inr (.inr (some 226)))]) (m := 3) (L0 := [some (.inl 1), some (.inl x1), some (.inl x4)]) rfl rfl rfl rfl rfl rfl rfl rfl (zrc_s rfl) (by omega) (by omega) (z_M_place_ok N (by omega) (by omega) 1 (zlit rfl) x1 hx1 x4 hx4 A) (fun v3 _ hv3 => ?_)
    refine js_cV (pc1 := 65) (as := [(.inr (.inr (some 226))), (.inl v2), (.inl v3)]) (S0 := []) (m := 4) (L0 := [some (.inr (.inr (some 226))), some (.inl v2), some (.inl v3), none]) rfl rfl rfl rfl rfl rfl rfl rfl (zrc_o rfl rfl) (by omega) (by omega) (z_M_copyItem_ok N (by omega) (by omega) v2 hv2 v3 hv3 A) (fun A4 _ => ?_)
    refine js_iinc (pc1 := 68) (L1 := [some (.inr (.inr (some 226))), some (.inl x1), some (.inl x2), none, some (.inl (x4 + (-1)))]) rfl rfl rfl rfl ?_
    refine js_goto (t1 := 39) rfl rfl ?_
    exact zG_to (L := [some (.inr (.inr (some 226))), some (.inl x1), some (.inl x2), none, some (.inl (zw (x4 + (-1))))]) (S := []) ⟨rfl, ⟨rfl, ⟨rfl, ⟨zval_w (x4 + (-1)), trivial⟩⟩⟩⟩ (rfl) (hr39 x1 hx1 x2 hx2 (zw (x4 + (-1))) (zw_rg (x4 + (-1))) A4)
  · refine js_iconst (pc1 := 72) rfl rfl ?_
    refine js_istore (pc1 := 74) (L1 := [some (.inr (.inr (some 226))), some (.inl x1), some (.inl x2), none, some (.inl 0)]) rfl rfl rfl rfl ?_
    exact z_M_moveUp_74_ok N hd hw x1 hx1 x2 hx2 0 (zlit rfl) A
theorem z_M_moveUp_39_lok{d w : Nat} (N : Nat) (hd : 1 ≤ d) (hw : 23 ≤ w) (n : Nat) : ∀ (x1 : Int) (hx1 : zrg x1) (x2 : Int) (hx2 : zrg x2) (x4 : Int) (hx4 : zrg x4) (A : zA), zG (z_M_moveUp_39_l N n x1 x2 x4 A) zPV d w 105 39 [some (.inr (.inr (some 226))), some (.inl x1), some (.inl x2), none, some (.inl x4)] [] A := by
  induction n with
  | zero => intros; exact zG_none
  | succ n ih =>
    intro x1 hx1 x2 hx2 x4 hx4 A
    exact z_M_moveUp_39_bok ih N hd hw x1 hx1 x2 hx2 x4 hx4 A
theorem z_M_moveUp_39_ok{d w : Nat} (N : Nat) (hd : 1 ≤ d) (hw : 23 ≤ w) (x1 : Int) (hx1 : zrg x1) (x2 : Int) (hx2 : zrg x2) (x4 : Int) (hx4 : zrg x4) (A : zA) : zG (z_M_moveUp_39 N x1 x2 x4 A) zPV d w 105 39 [some (.inr (.inr (some 226))), some (.inl x1), some (.inl x2), none, some (.inl x4)] [] A := z_M_moveUp_39_lok N hd hw N x1 hx1 x2 hx2 x4 hx4 A
theorem z_M_moveUp_3_bok{d w : Nat} {r3 : Int → Int → Int → Int → zA → Option zA} (hr3 : ∀ (x1 : Int) (hx1 : zrg x1) (x2 : Int) (hx2 : zrg x2) (x3 : Int) (hx3 : zrg x3) (x4 : Int) (hx4 : zrg x4) (A : zA), zG (r3 x1 x2 x3 x4 A) zPV d w 105 3 [some (.inr (.inr (some 226))), some (.inl x1), some (.inl x2), some (.inl x3), some (.inl x4)] [] A) (N : Nat) (hd : 1 ≤ d) (hw : 23 ≤ w) (x1 : Int) (hx1 : zrg x1) (x2 : Int) (hx2 : zrg x2) (x3 : Int) (hx3 : zrg x3) (x4 : Int) (hx4 : zrg x4) (A : zA) : zG (z_M_moveUp_3_b r3 N x1 x2 x3 x4 A) zPV d w 105 3 [some (.inr (.inr (some 226))), some (.inl x1), some (.inl x2), some (.inl x3), some (.inl x4)] [] A := by
  unfold z_M_moveUp_3_b
  refine js_iload (pc1 := 5) rfl rfl rfl ?_
  refine js_iconst (pc1 := 6) rfl rfl ?_
  refine jt_ge (pc1 := 9) (t1 := 36) hx4 (zlit rfl) rfl rfl rfl (fun c1 => ?_) (fun c1 => ?_)
  · refine js_aload (pc1 := 10) rfl rfl rfl ?_
    refine js_gfr (pc1 := 13) (j := 41) (r := 251) rfl rfl rfl rfl rfl ?_
    refine js_iload (pc1 := 15) rfl rfl rfl ?_
    refine js_aload (pc1 := 16) rfl rfl rfl ?_
    refine js_gfr (pc1 := 19) (j := 3) (r := 228) rfl rfl rfl rfl rfl ?_
    refine js_iconst (pc1 := 20) rfl rfl ?_
    refine js_iload (pc1 := 21) rfl rfl rfl ?_
    refine js_iload (pc1 := 22) rfl rfl rfl ?_
    refine js_cP (pc1 := 25) (as := [(.inl 1), (.inl x1), (.inl x3)]) (S0 := [(.inr (.inr (some 228))), (.inl x4), (.inr (.inr (some 251)))]) (m := 3) (L0 := [some (.inl 1), some (.inl x1), some (.inl x3)]) rfl rfl rfl rfl rfl rfl rfl rfl (zrc_s rfl) (by omega) (by omega) (z_M_place_ok N (by omega) (by omega) 1 (zlit rfl) x1 hx1 x3 hx3 A) (fun v2 _ hv2 => ?_)
    refine js_iload (pc1 := 27) rfl rfl rfl ?_
    refine js_iadd (pc1 := 28) rfl rfl ?_
    refine jt_ald (pc1 := 29) rfl rfl rfl rfl rfl (fun v3 hv3 => ?_)
    refine jt_ias (pc1 := 30) rfl rfl rfl rfl (fun A4 => ?_)
    refine js_iinc (pc1 := 33) (L1 := [some (.inr (.inr (some 226))), some (.inl x1), some (.inl x2), some (.inl x3), some (.inl (x4 + 1))]) rfl rfl rfl rfl ?_
    refine js_goto (t1 := 3) rfl rfl ?_
    exact zG_to (L := [some (.inr (.inr (some 226))), some (.inl x1), some (.inl x2), some (.inl x3), some (.inl (zw (x4 + 1)))]) (S := []) ⟨rfl, ⟨rfl, ⟨rfl, ⟨rfl, ⟨zval_w (x4 + 1), trivial⟩⟩⟩⟩⟩ (rfl) (hr3 x1 hx1 x2 hx2 x3 hx3 (zw (x4 + 1)) (zw_rg (x4 + 1)) A4)
  · refine js_iload (pc1 := 37) rfl rfl rfl ?_
    refine js_istore (pc1 := 39) (L1 := [some (.inr (.inr (some 226))), some (.inl x1), some (.inl x2), some (.inl x3), some (.inl x3)]) rfl rfl rfl rfl ?_
    exact zG_to (L := [some (.inr (.inr (some 226))), some (.inl x1), some (.inl x2), none, some (.inl x3)]) (S := []) ⟨rfl, ⟨rfl, ⟨rfl, ⟨rfl, trivial⟩⟩⟩⟩ (rfl) (z_M_moveUp_39_ok N hd hw x1 hx1 x2 hx2 x3 hx3 A)
theorem z_M_moveUp_3_lok{d w : Nat} (N : Nat) (hd : 1 ≤ d) (hw : 23 ≤ w) (n : Nat) : ∀ (x1 : Int) (hx1 : zrg x1) (x2 : Int) (hx2 : zrg x2) (x3 : Int) (hx3 : zrg x3) (x4 : Int) (hx4 : zrg x4) (A : zA), zG (z_M_moveUp_3_l N n x1 x2 x3 x4 A) zPV d w 105 3 [some (.inr (.inr (some 226))), some (.inl x1), some (.inl x2), some (.inl x3), some (.inl x4)] [] A := by
  induction n with
  | zero => intros; exact zG_none
  | succ n ih =>
    intro x1 hx1 x2 hx2 x3 hx3 x4 hx4 A
    exact z_M_moveUp_3_bok ih N hd hw x1 hx1 x2 hx2 x3 hx3 x4 hx4 A
theorem z_M_moveUp_3_ok{d w : Nat} (N : Nat) (hd : 1 ≤ d) (hw : 23 ≤ w) (x1 : Int) (hx1 : zrg x1) (x2 : Int) (hx2 : zrg x2) (x3 : Int) (hx3 : zrg x3) (x4 : Int) (hx4 : zrg x4) (A : zA) : zG (z_M_moveUp_3 N x1 x2 x3 x4 A) zPV d w 105 3 [some (.inr (.inr (some 226))), some (.inl x1), some (.inl x2), some (.inl x3), some (.inl x4)] [] A := z_M_moveUp_3_lok N hd hw N x1 hx1 x2 hx2 x3 hx3 x4 hx4 A
theorem z_M_moveUp_ok{d w : Nat} (N : Nat) (hd : 1 ≤ d) (hw : 23 ≤ w) (x1 : Int) (hx1 : zrg x1) (x2 : Int) (hx2 : zrg x2) (x3 : Int) (hx3 : zrg x3) (A : zA) : zG (z_M_moveUp N x1 x2 x3 A) zPV d w 105 0 [some (.inr (.inr (some 226))), some (.inl x1), some (.inl x2), some (.inl x3), none] [] A := by
  unfold z_M_moveUp
  refine js_iconst (pc1 := 1) rfl rfl ?_
  refine js_istore (pc1 := 3) (L1 := [some (.inr (.inr (some 226))), some (.inl x1), some (.inl x2), some (.inl x3), some (.inl 0)]) rfl rfl rfl rfl ?_
  exact z_M_moveUp_3_ok N hd hw x1 hx1 x2 hx2 x3 hx3 0 (zlit rfl) A
theorem z_M_hoist_75_bok{d w : Nat} {r13 : Int → Int → zA → Option zA} (hr13 : ∀ (x1 : Int) (hx1 : zrg x1) (x2 : Int) (hx2 : zrg x2) (A : zA), zG (r13 x1 x2 A) zPV d w 54 13 [some (.inr (.inr (some 226))), some (.inl x1), some (.inl x2), none, none, none, none] [] A) {r75 : Int → Int → Int → Int → Int → Int → zA → Option zA} (hr75 : ∀ (x1 : Int) (hx1 : zrg x1) (x2 : Int) (hx2 : zrg x2) (x3 : Int) (hx3 : zrg x3) (x4 : Int) (hx4 : zrg x4) (x5 : Int) (hx5 : zrg x5) (x6 : Int) (hx6 : zrg x6) (A : zA), zG (r75 x1 x2 x3 x4 x5 x6 A) zPV d w 54 75 [some (.inr (.inr (some 226))), some (.inl x1), some (.inl x2), some (.inl x3), some (.inl x4), some (.inl x5), some (.inl x6)] [] A) (N : Nat) (hd : 6 ≤ d) (hw : 148 ≤ w) (x1 : Int) (hx1 : zrg x1) (x2 : Int) (hx2 : zrg x2) (x3 : Int) (hx3 : zrg x3) (x4 : Int) (hx4 : zrg x4) (x5 : Int) (hx5 : zrg x5) (x6 : Int) (hx6 : zrg x6) (A : zA) : zG (z_M_hoist_75_b r13 r75 N x1 x2 x3 x4 x5 x6 A) zPV d w 54 75 [some (.inr (.inr (some 226))), some (.inl x1), some (.inl x2), some (.inl x3), some (.inl x4), some (.inl x5), some (.inl x6)] [] A := by
  unfold z_M_hoist_75_b
  refine js_iload (pc1 := 77) rfl rfl rfl ?_
  refine js_iload (pc1 := 79) rfl rfl rfl ?_
  refine jt_ge (pc1 := 82) (t1 := 124) hx6 hx4 rfl rfl rfl (fun c1 => ?_) (fun c1 => ?_)
  · refine js_aload (pc1 := 83) rfl rfl rfl ?_
    refine js_iload (pc1 := 84) rfl rfl rfl ?_
    refine js_iload (pc1 := 85) rfl rfl rfl ?_
    refine js_iconst (pc1 := 86) rfl rfl ?_
    refine js_iadd (pc1 := 87) rfl rfl ?_
    refine js_iload (pc1 := 89) rfl rfl rfl ?_
    refine js_iload (pc1 := 91) rfl rfl rfl ?_
    refine js_cP (pc1 := 94) (as := [(.inr (.inr (some 226))), (.inl x1), (.inl (x3 + 1)), (.inl x5), (.inl x6)]) (S0 := []) (m := 8) (L0 := [some (.inr (.inr (some 226))), some (.inl x1), some (.inl (x3 + 1)), some (.inl x5), some (.inl x6), none, none, none]) rfl rfl rfl rfl rfl rfl rfl rfl (zrc_o rfl rfl) (by omega) (by omega) (zG_to (L := [some (.inr (.inr (some 226))), some (.inl x1), some (.inl (zw (x3 + 1))), some (.inl x5), some (.inl x6), none, none, none]) (S := []) ⟨rfl, ⟨rfl, ⟨zval_w (x3 + 1), ⟨rfl, ⟨rfl, trivial⟩⟩⟩⟩⟩ rfl (z_M_isSteady_ok N (by omega) (by omega) x1 hx1 (zw (x3 + 1)) (zw_rg (x3 + 1)) x5 hx5 x6 hx6 A)) (fun v2 _ hv2 => ?_)
    refine ju_eq (pc1 := 97) (t1 := 118) hv2 rfl rfl rfl (fun c3 => ?_) (fun c3 => ?_)
    · refine js_iinc (pc1 := 121) (L1 := [some (.inr (.inr (some 226))), some (.inl x1), some (.inl x2), some (.inl x3), some (.inl x4), some (.inl x5), some (.inl (x6 + 1))]) rfl rfl rfl rfl ?_
      refine js_goto (t1 := 75) rfl rfl ?_
      exact zG_to (L := [some (.inr (.inr (some 226))), some (.inl x1), some (.inl x2), some (.inl x3), some (.inl x4), some (.inl x5), some (.inl (zw (x6 + 1)))]) (S := []) ⟨rfl, ⟨rfl, ⟨rfl, ⟨rfl, ⟨rfl, ⟨rfl, ⟨zval_w (x6 + 1), trivial⟩⟩⟩⟩⟩⟩⟩ (rfl) (hr75 x1 hx1 x2 hx2 x3 hx3 x4 hx4 x5 hx5 (zw (x6 + 1)) (zw_rg (x6 + 1)) A)
    · refine js_aload (pc1 := 98) rfl rfl rfl ?_
      refine js_iload (pc1 := 99) rfl rfl rfl ?_
      refine js_iload (pc1 := 100) rfl rfl rfl ?_
      refine js_iload (pc1 := 102) rfl rfl rfl ?_
      refine js_cV (pc1 := 105) (as := [(.inr (.inr (some 226))), (.inl x1), (.inl x3), (.inl x6)]) (S0 := []) (m := 5) (L0 := [some (.inr (.inr (some 226))), some (.inl x1), some (.inl x3), some (.inl x6), none]) rfl rfl rfl rfl rfl rfl rfl rfl (zrc_o rfl rfl) (by omega) (by omega) (z_M_moveUp_ok N (by omega) (by omega) x1 hx1 x3 hx3 x6 hx6 A) (fun A4 _ => ?_)
      refine js_iinc (pc1 := 108) (L1 := [some (.inr (.inr (some 226))), some (.inl x1), some (.inl x2), some (.inl (x3 + 1)), some (.inl x4), some (.inl x5), some (.inl x6)]) rfl rfl rfl rfl ?_
      refine js_aload (pc1 := 109) rfl rfl rfl ?_
      refine js_dupR (pc1 := 110) rfl rfl ?_
      refine js_gi (pc1 := 113) (j := 33) rfl rfl rfl rfl ?_
      refine js_iconst (pc1 := 114) rfl rfl ?_
      refine js_iadd (pc1 := 115) rfl rfl ?_
      refine jt_pi (pc1 := 118) (j := 33) rfl rfl rfl rfl rfl (fun A5 => ?_)
      refine js_iinc (pc1 := 121) (L1 := [some (.inr (.inr (some 226))), some (.inl x1), some (.inl x2), some (.inl (x3 + 1)), some (.inl x4), some (.inl x5), some (.inl (x6 + 1))]) rfl rfl rfl rfl ?_
      refine js_goto (t1 := 75) rfl rfl ?_
      exact zG_to (L := [some (.inr (.inr (some 226))), some (.inl x1), some (.inl x2), some (.inl (zw (x3 + 1))), some (.inl x4), some (.inl x5), some (.inl (zw (x6 + 1)))]) (S := []) ⟨rfl, ⟨rfl, ⟨rfl, ⟨zval_w (x3 + 1), ⟨rfl, ⟨rfl, ⟨zval_w (x6 + 1), trivial⟩⟩⟩⟩⟩⟩⟩ (rfl) (hr75 x1 hx1 x2 hx2 (zw (x3 + 1)) (zw_rg (x3 + 1)) x4 hx4 x5 hx5 (zw (x6 + 1)) (zw_rg (x6 + 1)) A5)
  · refine js_iinc (pc1 := 127) (L1 := [some (.inr (.inr (some 226))), some (.inl x1), some (.inl (x2 + (-1))), some (.inl x3), some (.inl x4), some (.inl x5), some (.inl x6)]) rfl rfl rfl rfl ?_
    refine js_goto (t1 := 13) rfl rfl ?_
    exact zG_to (L := [some (.inr (.inr (some 226))), some (.inl x1), some (.inl (zw (x2 + (-1)))), none, none, none, none]) (S := []) ⟨rfl, ⟨rfl, ⟨zval_w (x2 + (-1)), trivial⟩⟩⟩ (rfl) (hr13 x1 hx1 (zw (x2 + (-1))) (zw_rg (x2 + (-1))) A)
theorem z_M_hoist_75_lok{d w : Nat} {r13 : Int → Int → zA → Option zA} (hr13 : ∀ (x1 : Int) (hx1 : zrg x1) (x2 : Int) (hx2 : zrg x2) (A : zA), zG (r13 x1 x2 A) zPV d w 54 13 [some (.inr (.inr (some 226))), some (.inl x1), some (.inl x2), none, none, none, none] [] A) (N : Nat) (hd : 6 ≤ d) (hw : 148 ≤ w) (n : Nat) : ∀ (x1 : Int) (hx1 : zrg x1) (x2 : Int) (hx2 : zrg x2) (x3 : Int) (hx3 : zrg x3) (x4 : Int) (hx4 : zrg x4) (x5 : Int) (hx5 : zrg x5) (x6 : Int) (hx6 : zrg x6) (A : zA), zG (z_M_hoist_75_l r13 N n x1 x2 x3 x4 x5 x6 A) zPV d w 54 75 [some (.inr (.inr (some 226))), some (.inl x1), some (.inl x2), some (.inl x3), some (.inl x4), some (.inl x5), some (.inl x6)] [] A := by
  induction n with
  | zero => intros; exact zG_none
  | succ n ih =>
    intro x1 hx1 x2 hx2 x3 hx3 x4 hx4 x5 hx5 x6 hx6 A
    exact z_M_hoist_75_bok hr13 ih N hd hw x1 hx1 x2 hx2 x3 hx3 x4 hx4 x5 hx5 x6 hx6 A
theorem z_M_hoist_75_ok{d w : Nat} {r13 : Int → Int → zA → Option zA} (hr13 : ∀ (x1 : Int) (hx1 : zrg x1) (x2 : Int) (hx2 : zrg x2) (A : zA), zG (r13 x1 x2 A) zPV d w 54 13 [some (.inr (.inr (some 226))), some (.inl x1), some (.inl x2), none, none, none, none] [] A) (N : Nat) (hd : 6 ≤ d) (hw : 148 ≤ w) (x1 : Int) (hx1 : zrg x1) (x2 : Int) (hx2 : zrg x2) (x3 : Int) (hx3 : zrg x3) (x4 : Int) (hx4 : zrg x4) (x5 : Int) (hx5 : zrg x5) (x6 : Int) (hx6 : zrg x6) (A : zA) : zG (z_M_hoist_75 r13 N x1 x2 x3 x4 x5 x6 A) zPV d w 54 75 [some (.inr (.inr (some 226))), some (.inl x1), some (.inl x2), some (.inl x3), some (.inl x4), some (.inl x5), some (.inl x6)] [] A := z_M_hoist_75_lok hr13 N hd hw N x1 hx1 x2 hx2 x3 hx3 x4 hx4 x5 hx5 x6 hx6 A
theorem z_M_hoist_13_bok{d w : Nat} {r13 : Int → Int → zA → Option zA} (hr13 : ∀ (x1 : Int) (hx1 : zrg x1) (x2 : Int) (hx2 : zrg x2) (A : zA), zG (r13 x1 x2 A) zPV d w 54 13 [some (.inr (.inr (some 226))), some (.inl x1), some (.inl x2), none, none, none, none] [] A) (N : Nat) (hd : 6 ≤ d) (hw : 148 ≤ w) (x1 : Int) (hx1 : zrg x1) (x2 : Int) (hx2 : zrg x2) (A : zA) : zG (z_M_hoist_13_b r13 N x1 x2 A) zPV d w 54 13 [some (.inr (.inr (some 226))), some (.inl x1), some (.inl x2), none, none, none, none] [] A := by
  unfold z_M_hoist_13_b
  refine js_iload (pc1 := 14) rfl rfl rfl ?_
  refine ju_lt (pc1 := 17) (t1 := 130) hx2 rfl rfl rfl (fun c1 => ?_) (fun c1 => ?_)
  · exact je_V rfl
  · refine js_aload (pc1 := 18) rfl rfl rfl ?_
    refine js_iconst (pc1 := 19) rfl rfl ?_
    refine js_iload (pc1 := 20) rfl rfl rfl ?_
    refine js_iload (pc1 := 21) rfl rfl rfl ?_
    refine js_iconst (pc1 := 22) rfl rfl ?_
    refine js_cP (pc1 := 25) (as := [(.inr (.inr (some 226))), (.inl 1), (.inl x1), (.inl x2), (.inl 0)]) (S0 := []) (m := 5) (L0 := [some (.inr (.inr (some 226))), some (.inl 1), some (.inl x1), some (.inl x2), some (.inl 0)]) rfl rfl rfl rfl rfl rfl rfl rfl (zrc_o rfl rfl) (by omega) (by omega) (z_M_field_ok N (by omega) (by omega) 1 (zlit rfl) x1 hx1 x2 hx2 0 (zlit rfl) A) (fun v2 _ hv2 => ?_)
    refine js_iconst (pc1 := 27) rfl rfl ?_
    refine jt_eq (pc1 := 30) (t1 := 33) hv2 (zlit rfl) rfl rfl rfl (fun c3 => ?_) (fun c3 => ?_)
    · refine js_aload (pc1 := 34) rfl rfl rfl ?_
      refine js_iconst (pc1 := 35) rfl rfl ?_
      refine js_iload (pc1 := 36) rfl rfl rfl ?_
      refine js_cV (pc1 := 39) (as := [(.inr (.inr (some 226))), (.inl 1), (.inl x1)]) (S0 := []) (m := 6) (L0 := [some (.inr (.inr (some 226))), some (.inl 1), some (.inl x1), none, none, none]) rfl rfl rfl rfl rfl rfl rfl rfl (zrc_o rfl rfl) (by omega) (by omega) (z_M_match_ok N (by omega) (by omega) 1 (zlit rfl) x1 hx1 A) (fun A4 _ => ?_)
      refine js_iload (pc1 := 40) rfl rfl rfl ?_
      refine js_istore (pc1 := 41) (L1 := [some (.inr (.inr (some 226))), some (.inl x1), some (.inl x2), some (.inl x2), none, none, none]) rfl rfl rfl rfl ?_
      refine js_aload (pc1 := 42) rfl rfl rfl ?_
      refine js_gfr (pc1 := 45) (j := 9) (r := 231) rfl rfl rfl rfl rfl ?_
      refine js_iconst (pc1 := 48) rfl rfl ?_
      refine js_iload (pc1 := 49) rfl rfl rfl ?_
      refine js_imul (pc1 := 50) rfl rfl ?_
      refine js_iload (pc1 := 51) rfl rfl rfl ?_
      refine js_iadd (pc1 := 52) rfl rfl ?_
      refine jt_ald (pc1 := 53) rfl rfl rfl rfl rfl (fun v5 hv5 => ?_)
      refine js_istore (pc1 := 55) (L1 := [some (.inr (.inr (some 226))), some (.inl x1), some (.inl x2), some (.inl x2), some (.inl v5), none, none]) rfl rfl rfl rfl ?_
      refine js_aload (pc1 := 56) rfl rfl rfl ?_
      refine js_gfr (pc1 := 59) (j := 9) (r := 231) rfl rfl rfl rfl rfl ?_
      refine js_iconst (pc1 := 62) rfl rfl ?_
      refine js_iload (pc1 := 63) rfl rfl rfl ?_
      refine js_imul (pc1 := 64) rfl rfl ?_
      refine js_iload (pc1 := 66) rfl rfl rfl ?_
      refine js_iadd (pc1 := 67) rfl rfl ?_
      refine jt_ald (pc1 := 68) rfl rfl rfl rfl rfl (fun v6 hv6 => ?_)
      refine js_istore (pc1 := 70) (L1 := [some (.inr (.inr (some 226))), some (.inl x1), some (.inl x2), some (.inl x2), some (.inl v5), some (.inl v6), none]) rfl rfl rfl rfl ?_
      refine js_iload (pc1 := 71) rfl rfl rfl ?_
      refine js_iconst (pc1 := 72) rfl rfl ?_
      refine js_iadd (pc1 := 73) rfl rfl ?_
      refine zG_w1 ?_
      refine js_istore (pc1 := 75) (L1 := [some (.inr (.inr (some 226))), some (.inl x1), some (.inl x2), some (.inl x2), some (.inl v5), some (.inl v6), some (.inl (zw (x2 + 1)))]) rfl rfl rfl rfl ?_
      exact z_M_hoist_75_ok hr13 N hd hw x1 hx1 x2 hx2 x2 hx2 v5 hv5 v6 hv6 (zw (x2 + 1)) (zw_rg (x2 + 1)) A4
    · refine js_goto (t1 := 124) rfl rfl ?_
      refine js_iinc (pc1 := 127) (L1 := [some (.inr (.inr (some 226))), some (.inl x1), some (.inl (x2 + (-1))), none, none, none, none]) rfl rfl rfl rfl ?_
      refine js_goto (t1 := 13) rfl rfl ?_
      exact zG_to (L := [some (.inr (.inr (some 226))), some (.inl x1), some (.inl (zw (x2 + (-1)))), none, none, none, none]) (S := []) ⟨rfl, ⟨rfl, ⟨zval_w (x2 + (-1)), trivial⟩⟩⟩ (rfl) (hr13 x1 hx1 (zw (x2 + (-1))) (zw_rg (x2 + (-1))) A)
theorem z_M_hoist_13_lok{d w : Nat} (N : Nat) (hd : 6 ≤ d) (hw : 148 ≤ w) (n : Nat) : ∀ (x1 : Int) (hx1 : zrg x1) (x2 : Int) (hx2 : zrg x2) (A : zA), zG (z_M_hoist_13_l N n x1 x2 A) zPV d w 54 13 [some (.inr (.inr (some 226))), some (.inl x1), some (.inl x2), none, none, none, none] [] A := by
  induction n with
  | zero => intros; exact zG_none
  | succ n ih =>
    intro x1 hx1 x2 hx2 A
    exact z_M_hoist_13_bok ih N hd hw x1 hx1 x2 hx2 A
theorem z_M_hoist_13_ok{d w : Nat} (N : Nat) (hd : 6 ≤ d) (hw : 148 ≤ w) (x1 : Int) (hx1 : zrg x1) (x2 : Int) (hx2 : zrg x2) (A : zA) : zG (z_M_hoist_13 N x1 x2 A) zPV d w 54 13 [some (.inr (.inr (some 226))), some (.inl x1), some (.inl x2), none, none, none, none] [] A := z_M_hoist_13_lok N hd hw N x1 hx1 x2 hx2 A
theorem z_M_hoist_ok{d w : Nat} (N : Nat) (hd : 6 ≤ d) (hw : 148 ≤ w) (x1 : Int) (hx1 : zrg x1) (A : zA) : zG (z_M_hoist N x1 A) zPV d w 54 0 [some (.inr (.inr (some 226))), some (.inl x1), none, none, none, none, none] [] A := by
  unfold z_M_hoist
  refine js_aload (pc1 := 1) rfl rfl rfl ?_
  refine js_gfr (pc1 := 4) (j := 4) (r := 229) rfl rfl rfl rfl rfl ?_
  refine js_iconst (pc1 := 5) rfl rfl ?_
  refine js_iload (pc1 := 6) rfl rfl rfl ?_
  refine js_cP (pc1 := 9) (as := [(.inl 1), (.inl x1)]) (S0 := [(.inr (.inr (some 229)))]) (m := 2) (L0 := [some (.inl 1), some (.inl x1)]) rfl rfl rfl rfl rfl rfl rfl rfl (zrc_s rfl) (by omega) (by omega) (z_M_row_ok N (by omega) (by omega) 1 (zlit rfl) x1 hx1 A) (fun v1 _ hv1 => ?_)
  refine jt_ald (pc1 := 10) rfl rfl rfl rfl rfl (fun v2 hv2 => ?_)
  refine js_iconst (pc1 := 11) rfl rfl ?_
  refine js_isub (pc1 := 12) rfl rfl ?_
  refine zG_w1 ?_
  refine js_istore (pc1 := 13) (L1 := [some (.inr (.inr (some 226))), some (.inl x1), some (.inl (zw (v2 - 1))), none, none, none, none]) rfl rfl rfl rfl ?_
  exact z_M_hoist_13_ok N hd hw x1 hx1 (zw (v2 - 1)) (zw_rg (v2 - 1)) A
theorem z_M_shifted_111_bok{d w : Nat} {r111 : Int → Int → Int → Int → Int → zA → Option zA} (hr111 : ∀ (x4 : Int) (hx4 : zrg x4) (x5 : Int) (hx5 : zrg x5) (x6 : Int) (hx6 : zrg x6) (x7 : Int) (hx7 : zrg x7) (x9 : Int) (hx9 : zrg x9) (A : zA), zG (r111 x4 x5 x6 x7 x9 A) zPV d w 107 111 [some (.inr (.inr (some 226))), none, none, none, some (.inl x4), some (.inl x5), some (.inl x6), some (.inl x7), none, some (.inl x9), none] [] A) (N : Nat) (hd : 1 ≤ d) (hw : 23 ≤ w) (x4 : Int) (hx4 : zrg x4) (x5 : Int) (hx5 : zrg x5) (x6 : Int) (hx6 : zrg x6) (x7 : Int) (hx7 : zrg x7) (x9 : Int) (hx9 : zrg x9) (A : zA) : zG (z_M_shifted_111_b r111 N x4 x5 x6 x7 x9 A) zPV d w 107 111 [some (.inr (.inr (some 226))), none, none, none, some (.inl x4), some (.inl x5), some (.inl x6), some (.inl x7), none, some (.inl x9), none] [] A := by
  unfold z_M_shifted_111_b
  refine js_iload (pc1 := 113) rfl rfl rfl ?_
  refine js_iconst (pc1 := 114) rfl rfl ?_
  refine jt_ge (pc1 := 117) (t1 := 167) hx9 (zlit rfl) rfl rfl rfl (fun c1 => ?_) (fun c1 => ?_)
  · refine js_iload (pc1 := 119) rfl rfl rfl ?_
    refine js_iload (pc1 := 121) rfl rfl rfl ?_
    refine js_cP (pc1 := 124) (as := [(.inl x7), (.inl x9)]) (S0 := []) (m := 2) (L0 := [some (.inl x7), some (.inl x9)]) rfl rfl rfl rfl rfl rfl rfl rfl (zrc_s rfl) (by omega) (by omega) (z_M_readAt_ok N (by omega) (by omega) x7 hx7 x9 hx9 A) (fun v2 _ hv2 => ?_)
    refine js_istore (pc1 := 126) (L1 := [some (.inr (.inr (some 226))), none, none, none, some (.inl x4), some (.inl x5), some (.inl x6), some (.inl x7), none, some (.inl x9), some (.inl v2)]) rfl rfl rfl rfl ?_
    refine js_iload (pc1 := 128) rfl rfl rfl ?_
    refine ju_le (pc1 := 131) (t1 := 161) hv2 rfl rfl rfl (fun c3 => ?_) (fun c3 => ?_)
    · refine js_aload (pc1 := 132) rfl rfl rfl ?_
      refine js_gfr (pc1 := 135) (j := 3) (r := 228) rfl rfl rfl rfl rfl ?_
      refine js_iload (pc1 := 137) rfl rfl rfl ?_
      refine js_iload (pc1 := 139) rfl rfl rfl ?_
      refine js_iadd (pc1 := 140) rfl rfl ?_
      refine jt_ald (pc1 := 141) rfl rfl rfl rfl rfl (fun v4 hv4 => ?_)
      refine js_iconst (pc1 := 143) rfl rfl ?_
      refine jt_lt (pc1 := 146) (t1 := 161) hv4 (zlit rfl) rfl rfl rfl (fun c5 => ?_) (fun c5 => ?_)
      · refine js_iinc (pc1 := 164) (L1 := [some (.inr (.inr (some 226))), none, none, none, some (.inl x4), some (.inl x5), some (.inl x6), some (.inl x7), none, some (.inl (x9 + 1)), some (.inl v2)]) rfl rfl rfl rfl ?_
        refine js_goto (t1 := 111) rfl rfl ?_
        exact zG_to (L := [some (.inr (.inr (some 226))), none, none, none, some (.inl x4), some (.inl x5), some (.inl x6), some (.inl x7), none, some (.inl (zw (x9 + 1))), none]) (S := []) ⟨rfl, ⟨rfl, ⟨rfl, ⟨rfl, ⟨rfl, ⟨zval_w (x9 + 1), trivial⟩⟩⟩⟩⟩⟩ (rfl) (hr111 x4 hx4 x5 hx5 x6 hx6 x7 hx7 (zw (x9 + 1)) (zw_rg (x9 + 1)) A)
      · refine js_aload (pc1 := 147) rfl rfl rfl ?_
        refine js_gfr (pc1 := 150) (j := 3) (r := 228) rfl rfl rfl rfl rfl ?_
        refine js_iload (pc1 := 152) rfl rfl rfl ?_
        refine js_iload (pc1 := 154) rfl rfl rfl ?_
        refine js_iadd (pc1 := 155) rfl rfl ?_
        refine js_dup2 (pc1 := 156) rfl rfl ?_
        refine jt_ald (pc1 := 157) rfl rfl rfl rfl rfl (fun v6 hv6 => ?_)
        refine js_iload (pc1 := 159) rfl rfl rfl ?_
        refine js_iadd (pc1 := 160) rfl rfl ?_
        refine jt_ias (pc1 := 161) rfl rfl rfl rfl (fun A7 => ?_)
        refine js_iinc (pc1 := 164) (L1 := [some (.inr (.inr (some 226))), none, none, none, some (.inl x4), some (.inl x5), some (.inl x6), some (.inl x7), none, some (.inl (x9 + 1)), some (.inl v2)]) rfl rfl rfl rfl ?_
        refine js_goto (t1 := 111) rfl rfl ?_
        exact zG_to (L := [some (.inr (.inr (some 226))), none, none, none, some (.inl x4), some (.inl x5), some (.inl x6), some (.inl x7), none, some (.inl (zw (x9 + 1))), none]) (S := []) ⟨rfl, ⟨rfl, ⟨rfl, ⟨rfl, ⟨rfl, ⟨zval_w (x9 + 1), trivial⟩⟩⟩⟩⟩⟩ (rfl) (hr111 x4 hx4 x5 hx5 x6 hx6 x7 hx7 (zw (x9 + 1)) (zw_rg (x9 + 1)) A7)
    · refine js_iinc (pc1 := 164) (L1 := [some (.inr (.inr (some 226))), none, none, none, some (.inl x4), some (.inl x5), some (.inl x6), some (.inl x7), none, some (.inl (x9 + 1)), some (.inl v2)]) rfl rfl rfl rfl ?_
      refine js_goto (t1 := 111) rfl rfl ?_
      exact zG_to (L := [some (.inr (.inr (some 226))), none, none, none, some (.inl x4), some (.inl x5), some (.inl x6), some (.inl x7), none, some (.inl (zw (x9 + 1))), none]) (S := []) ⟨rfl, ⟨rfl, ⟨rfl, ⟨rfl, ⟨rfl, ⟨zval_w (x9 + 1), trivial⟩⟩⟩⟩⟩⟩ (rfl) (hr111 x4 hx4 x5 hx5 x6 hx6 x7 hx7 (zw (x9 + 1)) (zw_rg (x9 + 1)) A)
  · exact je_V rfl
theorem z_M_shifted_111_lok{d w : Nat} (N : Nat) (hd : 1 ≤ d) (hw : 23 ≤ w) (n : Nat) : ∀ (x4 : Int) (hx4 : zrg x4) (x5 : Int) (hx5 : zrg x5) (x6 : Int) (hx6 : zrg x6) (x7 : Int) (hx7 : zrg x7) (x9 : Int) (hx9 : zrg x9) (A : zA), zG (z_M_shifted_111_l N n x4 x5 x6 x7 x9 A) zPV d w 107 111 [some (.inr (.inr (some 226))), none, none, none, some (.inl x4), some (.inl x5), some (.inl x6), some (.inl x7), none, some (.inl x9), none] [] A := by
  induction n with
  | zero => intros; exact zG_none
  | succ n ih =>
    intro x4 hx4 x5 hx5 x6 hx6 x7 hx7 x9 hx9 A
    exact z_M_shifted_111_bok ih N hd hw x4 hx4 x5 hx5 x6 hx6 x7 hx7 x9 hx9 A
theorem z_M_shifted_111_ok{d w : Nat} (N : Nat) (hd : 1 ≤ d) (hw : 23 ≤ w) (x4 : Int) (hx4 : zrg x4) (x5 : Int) (hx5 : zrg x5) (x6 : Int) (hx6 : zrg x6) (x7 : Int) (hx7 : zrg x7) (x9 : Int) (hx9 : zrg x9) (A : zA) : zG (z_M_shifted_111 N x4 x5 x6 x7 x9 A) zPV d w 107 111 [some (.inr (.inr (some 226))), none, none, none, some (.inl x4), some (.inl x5), some (.inl x6), some (.inl x7), none, some (.inl x9), none] [] A := z_M_shifted_111_lok N hd hw N x4 hx4 x5 hx5 x6 hx6 x7 hx7 x9 hx9 A
theorem z_M_shifted_73_ok{d w : Nat} (N : Nat) (hd : 1 ≤ d) (hw : 23 ≤ w) (x4 : Int) (hx4 : zrg x4) (x5 : Int) (hx5 : zrg x5) (x6 : Int) (hx6 : zrg x6) (x7 : Int) (hx7 : zrg x7) (s0 : Int) (hs0 : zrg s0) (A : zA) : zG (z_M_shifted_73 N x4 x5 x6 x7 s0 A) zPV d w 107 73 [some (.inr (.inr (some 226))), none, none, none, some (.inl x4), some (.inl x5), some (.inl x6), some (.inl x7), none, none, none] [(.inl s0)] A := by
  unfold z_M_shifted_73
  refine js_istore (pc1 := 75) (L1 := [some (.inr (.inr (some 226))), none, none, none, some (.inl x4), some (.inl x5), some (.inl x6), some (.inl x7), some (.inl s0), none, none]) rfl rfl rfl rfl ?_
  refine js_iload (pc1 := 77) rfl rfl rfl ?_
  refine ju_eq (pc1 := 80) (t1 := 108) hs0 rfl rfl rfl (fun c1 => ?_) (fun c1 => ?_)
  · refine js_iconst (pc1 := 109) rfl rfl ?_
    refine js_istore (pc1 := 111) (L1 := [some (.inr (.inr (some 226))), none, none, none, some (.inl x4), some (.inl x5), some (.inl x6), some (.inl x7), some (.inl s0), some (.inl 0), none]) rfl rfl rfl rfl ?_
    exact zG_to (L := [some (.inr (.inr (some 226))), none, none, none, some (.inl x4), some (.inl x5), some (.inl x6), some (.inl x7), none, some (.inl 0), none]) (S := []) ⟨rfl, ⟨rfl, ⟨rfl, ⟨rfl, ⟨rfl, ⟨rfl, trivial⟩⟩⟩⟩⟩⟩ (rfl) (z_M_shifted_111_ok N hd hw x4 hx4 x5 hx5 x6 hx6 x7 hx7 0 (zlit rfl) A)
  · refine js_aload (pc1 := 81) rfl rfl rfl ?_
    refine js_gfr (pc1 := 84) (j := 3) (r := 228) rfl rfl rfl rfl rfl ?_
    refine js_iload (pc1 := 86) rfl rfl rfl ?_
    refine js_iconst (pc1 := 87) rfl rfl ?_
    refine js_iadd (pc1 := 88) rfl rfl ?_
    refine jt_ald (pc1 := 89) rfl rfl rfl rfl rfl (fun v2 hv2 => ?_)
    refine js_iconst (pc1 := 91) rfl rfl ?_
    refine jt_lt (pc1 := 94) (t1 := 108) hv2 (zlit rfl) rfl rfl rfl (fun c3 => ?_) (fun c3 => ?_)
    · refine js_iconst (pc1 := 109) rfl rfl ?_
      refine js_istore (pc1 := 111) (L1 := [some (.inr (.inr (some 226))), none, none, none, some (.inl x4), some (.inl x5), some (.inl x6), some (.inl x7), some (.inl s0), some (.inl 0), none]) rfl rfl rfl rfl ?_
      exact zG_to (L := [some (.inr (.inr (some 226))), none, none, none, some (.inl x4), some (.inl x5), some (.inl x6), some (.inl x7), none, some (.inl 0), none]) (S := []) ⟨rfl, ⟨rfl, ⟨rfl, ⟨rfl, ⟨rfl, ⟨rfl, trivial⟩⟩⟩⟩⟩⟩ (rfl) (z_M_shifted_111_ok N hd hw x4 hx4 x5 hx5 x6 hx6 x7 hx7 0 (zlit rfl) A)
    · refine js_aload (pc1 := 95) rfl rfl rfl ?_
      refine js_gfr (pc1 := 98) (j := 3) (r := 228) rfl rfl rfl rfl rfl ?_
      refine js_iload (pc1 := 100) rfl rfl rfl ?_
      refine js_iconst (pc1 := 101) rfl rfl ?_
      refine js_iadd (pc1 := 102) rfl rfl ?_
      refine js_dup2 (pc1 := 103) rfl rfl ?_
      refine jt_ald (pc1 := 104) rfl rfl rfl rfl rfl (fun v4 hv4 => ?_)
      refine js_iload (pc1 := 106) rfl rfl rfl ?_
      refine js_iadd (pc1 := 107) rfl rfl ?_
      refine jt_ias (pc1 := 108) rfl rfl rfl rfl (fun A5 => ?_)
      refine js_iconst (pc1 := 109) rfl rfl ?_
      refine js_istore (pc1 := 111) (L1 := [some (.inr (.inr (some 226))), none, none, none, some (.inl x4), some (.inl x5), some (.inl x6), some (.inl x7), some (.inl s0), some (.inl 0), none]) rfl rfl rfl rfl ?_
      exact zG_to (L := [some (.inr (.inr (some 226))), none, none, none, some (.inl x4), some (.inl x5), some (.inl x6), some (.inl x7), none, some (.inl 0), none]) (S := []) ⟨rfl, ⟨rfl, ⟨rfl, ⟨rfl, ⟨rfl, ⟨rfl, trivial⟩⟩⟩⟩⟩⟩ (rfl) (z_M_shifted_111_ok N hd hw x4 hx4 x5 hx5 x6 hx6 x7 hx7 0 (zlit rfl) A5)
theorem z_M_shifted_ok{d w : Nat} (N : Nat) (hd : 1 ≤ d) (hw : 23 ≤ w) (x1 : Int) (hx1 : zrg x1) (x2 : Int) (hx2 : zrg x2) (x3 : Int) (hx3 : zrg x3) (x4 : Int) (hx4 : zrg x4) (A : zA) : zG (z_M_shifted N x1 x2 x3 x4 A) zPV d w 107 0 [some (.inr (.inr (some 226))), some (.inl x1), some (.inl x2), some (.inl x3), some (.inl x4), none, none, none, none, none, none] [] A := by
  unfold z_M_shifted
  refine js_iconst (pc1 := 1) rfl rfl ?_
  refine js_iload (pc1 := 2) rfl rfl rfl ?_
  refine js_iload (pc1 := 3) rfl rfl rfl ?_
  refine js_cP (pc1 := 6) (as := [(.inl 1), (.inl x2), (.inl x3)]) (S0 := []) (m := 3) (L0 := [some (.inl 1), some (.inl x2), some (.inl x3)]) rfl rfl rfl rfl rfl rfl rfl rfl (zrc_s rfl) (by omega) (by omega) (z_M_place_ok N (by omega) (by omega) 1 (zlit rfl) x2 hx2 x3 hx3 A) (fun v1 _ hv1 => ?_)
  refine js_istore (pc1 := 8) (L1 := [some (.inr (.inr (some 226))), some (.inl x1), some (.inl x2), some (.inl x3), some (.inl x4), some (.inl v1), none, none, none, none, none]) rfl rfl rfl rfl ?_
  refine js_iconst (pc1 := 9) rfl rfl ?_
  refine js_iload (pc1 := 10) rfl rfl rfl ?_
  refine js_aload (pc1 := 11) rfl rfl rfl ?_
  refine js_gfr (pc1 := 14) (j := 4) (r := 229) rfl rfl rfl rfl rfl ?_
  refine js_iconst (pc1 := 15) rfl rfl ?_
  refine js_iload (pc1 := 16) rfl rfl rfl ?_
  refine js_cP (pc1 := 19) (as := [(.inl 1), (.inl x1)]) (S0 := [(.inr (.inr (some 229))), (.inl x1), (.inl 1)]) (m := 2) (L0 := [some (.inl 1), some (.inl x1)]) rfl rfl rfl rfl rfl rfl rfl rfl (zrc_s rfl) (by omega) (by omega) (z_M_row_ok N (by omega) (by omega) 1 (zlit rfl) x1 hx1 A) (fun v2 _ hv2 => ?_)
  refine jt_ald (pc1 := 20) rfl rfl rfl rfl rfl (fun v3 hv3 => ?_)
  refine js_cP (pc1 := 23) (as := [(.inl 1), (.inl x1), (.inl v3)]) (S0 := []) (m := 3) (L0 := [some (.inl 1), some (.inl x1), some (.inl v3)]) rfl rfl rfl rfl rfl rfl rfl rfl (zrc_s rfl) (by omega) (by omega) (z_M_place_ok N (by omega) (by omega) 1 (zlit rfl) x1 hx1 v3 hv3 A) (fun v4 _ hv4 => ?_)
  refine js_istore (pc1 := 25) (L1 := [some (.inr (.inr (some 226))), some (.inl x1), some (.inl x2), some (.inl x3), some (.inl x4), some (.inl v1), some (.inl v4), none, none, none, none]) rfl rfl rfl rfl ?_
  refine js_aload (pc1 := 26) rfl rfl rfl ?_
  refine js_iload (pc1 := 28) rfl rfl rfl ?_
  refine js_iload (pc1 := 30) rfl rfl rfl ?_
  refine js_cV (pc1 := 33) (as := [(.inr (.inr (some 226))), (.inl v1), (.inl v4)]) (S0 := []) (m := 4) (L0 := [some (.inr (.inr (some 226))), some (.inl v1), some (.inl v4), none]) rfl rfl rfl rfl rfl rfl rfl rfl (zrc_o rfl rfl) (by omega) (by omega) (z_M_copyItem_ok N (by omega) (by omega) v1 hv1 v4 hv4 A) (fun A5 _ => ?_)
  refine js_aload (pc1 := 34) rfl rfl rfl ?_
  refine js_gfr (pc1 := 37) (j := 4) (r := 229) rfl rfl rfl rfl rfl ?_
  refine js_iconst (pc1 := 38) rfl rfl ?_
  refine js_iload (pc1 := 39) rfl rfl rfl ?_
  refine js_cP (pc1 := 42) (as := [(.inl 1), (.inl x1)]) (S0 := [(.inr (.inr (some 229)))]) (m := 2) (L0 := [some (.inl 1), some (.inl x1)]) rfl rfl rfl rfl rfl rfl rfl rfl (zrc_s rfl) (by omega) (by omega) (z_M_row_ok N (by omega) (by omega) 1 (zlit rfl) x1 hx1 A5) (fun v6 _ hv6 => ?_)
  refine js_dup2 (pc1 := 43) rfl rfl ?_
  refine jt_ald (pc1 := 44) rfl rfl rfl rfl rfl (fun v7 hv7 => ?_)
  refine js_iconst (pc1 := 45) rfl rfl ?_
  refine js_iadd (pc1 := 46) rfl rfl ?_
  refine jt_ias (pc1 := 47) rfl rfl rfl rfl (fun A8 => ?_)
  refine js_aload (pc1 := 48) rfl rfl rfl ?_
  refine js_gfr (pc1 := 51) (j := 3) (r := 228) rfl rfl rfl rfl rfl ?_
  refine js_iload (pc1 := 53) rfl rfl rfl ?_
  refine jt_ald (pc1 := 54) rfl rfl rfl rfl rfl (fun v9 hv9 => ?_)
  refine js_istore (pc1 := 56) (L1 := [some (.inr (.inr (some 226))), some (.inl x1), some (.inl x2), some (.inl x3), some (.inl x4), some (.inl v1), some (.inl v4), some (.inl v9), none, none, none]) rfl rfl rfl rfl ?_
  refine js_iload (pc1 := 58) rfl rfl rfl ?_
  refine js_iconst (pc1 := 59) rfl rfl ?_
  refine jt_le (pc1 := 62) (t1 := 68) hv9 (zlit rfl) rfl rfl rfl (fun c10 => ?_) (fun c10 => ?_)
  · refine js_iload (pc1 := 64) rfl rfl rfl ?_
    refine js_iconst (pc1 := 65) rfl rfl ?_
    refine jt_ne (pc1 := 68) (t1 := 72) hv9 (zlit rfl) rfl rfl rfl (fun c11 => ?_) (fun c11 => ?_)
    · refine js_iconst (pc1 := 69) rfl rfl ?_
      refine js_goto (t1 := 73) rfl rfl ?_
      exact zG_to (L := [some (.inr (.inr (some 226))), none, none, none, some (.inl x4), some (.inl v1), some (.inl v4), some (.inl v9), none, none, none]) (S := [(.inl 1)]) ⟨rfl, ⟨rfl, ⟨rfl, ⟨rfl, ⟨rfl, trivial⟩⟩⟩⟩⟩ (rfl) (z_M_shifted_73_ok N hd hw x4 hx4 v1 hv1 v4 hv4 v9 hv9 1 (zlit rfl) A8)
    · refine js_iconst (pc1 := 73) rfl rfl ?_
      exact zG_to (L := [some (.inr (.inr (some 226))), none, none, none, some (.inl x4), some (.inl v1), some (.inl v4), some (.inl v9), none, none, none]) (S := [(.inl 0)]) ⟨rfl, ⟨rfl, ⟨rfl, ⟨rfl, ⟨rfl, trivial⟩⟩⟩⟩⟩ (rfl) (z_M_shifted_73_ok N hd hw x4 hx4 v1 hv1 v4 hv4 v9 hv9 0 (zlit rfl) A8)
  · refine js_iconst (pc1 := 69) rfl rfl ?_
    refine js_goto (t1 := 73) rfl rfl ?_
    exact zG_to (L := [some (.inr (.inr (some 226))), none, none, none, some (.inl x4), some (.inl v1), some (.inl v4), some (.inl v9), none, none, none]) (S := [(.inl 1)]) ⟨rfl, ⟨rfl, ⟨rfl, ⟨rfl, ⟨rfl, trivial⟩⟩⟩⟩⟩ (rfl) (z_M_shifted_73_ok N hd hw x4 hx4 v1 hv1 v4 hv4 v9 hv9 1 (zlit rfl) A8)
theorem z_M_inline_95_ok{d w : Nat} {r24 : Int → Int → Int → zA → Option zA} (hr24 : ∀ (x1 : Int) (hx1 : zrg x1) (x2 : Int) (hx2 : zrg x2) (x3 : Int) (hx3 : zrg x3) (A : zA), zG (r24 x1 x2 x3 A) zPV d w 55 24 [some (.inr (.inr (some 226))), some (.inl x1), some (.inl x2), some (.inl x3), none, none, none] [] A) (N : Nat) (hd : 2 ≤ d) (hw : 53 ≤ w) (x1 : Int) (hx1 : zrg x1) (x2 : Int) (hx2 : zrg x2) (x3 : Int) (hx3 : zrg x3) (A : zA) : zG (z_M_inline_95 r24 N x1 x2 x3 A) zPV d w 55 95 [some (.inr (.inr (some 226))), some (.inl x1), some (.inl x2), some (.inl x3), none, none, none] [] A := by
  unfold z_M_inline_95
  refine js_aload (pc1 := 96) rfl rfl rfl ?_
  refine js_iload (pc1 := 97) rfl rfl rfl ?_
  refine js_iload (pc1 := 98) rfl rfl rfl ?_
  refine js_cV (pc1 := 101) (as := [(.inr (.inr (some 226))), (.inl x1), (.inl x3)]) (S0 := []) (m := 3) (L0 := [some (.inr (.inr (some 226))), some (.inl x1), some (.inl x3)]) rfl rfl rfl rfl rfl rfl rfl rfl (zrc_o rfl rfl) (by omega) (by omega) (z_M_keep_ok N (by omega) (by omega) x1 hx1 x3 hx3 A) (fun A1 _ => ?_)
  refine js_goto (t1 := 199) rfl rfl ?_
  refine js_iinc (pc1 := 202) (L1 := [some (.inr (.inr (some 226))), some (.inl x1), some (.inl x2), some (.inl (x3 + 1)), none, none, none]) rfl rfl rfl rfl ?_
  refine js_goto (t1 := 24) rfl rfl ?_
  exact zG_to (L := [some (.inr (.inr (some 226))), some (.inl x1), some (.inl x2), some (.inl (zw (x3 + 1))), none, none, none]) (S := []) ⟨rfl, ⟨rfl, ⟨rfl, ⟨zval_w (x3 + 1), trivial⟩⟩⟩⟩ (rfl) (hr24 x1 hx1 x2 hx2 (zw (x3 + 1)) (zw_rg (x3 + 1)) A1)
theorem z_M_inline_172_ok{d w : Nat} {r24 : Int → Int → Int → zA → Option zA} (hr24 : ∀ (x1 : Int) (hx1 : zrg x1) (x2 : Int) (hx2 : zrg x2) (x3 : Int) (hx3 : zrg x3) (A : zA), zG (r24 x1 x2 x3 A) zPV d w 55 24 [some (.inr (.inr (some 226))), some (.inl x1), some (.inl x2), some (.inl x3), none, none, none] [] A) (N : Nat) (hd : 2 ≤ d) (hw : 53 ≤ w) (x1 : Int) (hx1 : zrg x1) (x2 : Int) (hx2 : zrg x2) (x3 : Int) (hx3 : zrg x3) (x4 : Int) (hx4 : zrg x4) (x5 : Int) (hx5 : zrg x5) (A : zA) : zG (z_M_inline_172 r24 N x1 x2 x3 x4 x5 A) zPV d w 55 172 [some (.inr (.inr (some 226))), some (.inl x1), some (.inl x2), some (.inl x3), some (.inl x4), some (.inl x5), none] [] A := by
  unfold z_M_inline_172
  refine js_aload (pc1 := 173) rfl rfl rfl ?_
  refine js_gfr (pc1 := 176) (j := 5) (r := 230) rfl rfl rfl rfl rfl ?_
  refine js_iconst (pc1 := 177) rfl rfl ?_
  refine js_iload (pc1 := 178) rfl rfl rfl ?_
  refine js_cP (pc1 := 181) (as := [(.inl 1), (.inl x1)]) (S0 := [(.inr (.inr (some 230)))]) (m := 2) (L0 := [some (.inl 1), some (.inl x1)]) rfl rfl rfl rfl rfl rfl rfl rfl (zrc_s rfl) (by omega) (by omega) (z_M_row_ok N (by omega) (by omega) 1 (zlit rfl) x1 hx1 A) (fun v1 _ hv1 => ?_)
  refine js_iload (pc1 := 183) rfl rfl rfl ?_
  refine js_aload (pc1 := 184) rfl rfl rfl ?_
  refine js_gfr (pc1 := 187) (j := 5) (r := 230) rfl rfl rfl rfl rfl ?_
  refine js_iconst (pc1 := 188) rfl rfl ?_
  refine js_iload (pc1 := 190) rfl rfl rfl ?_
  refine js_cP (pc1 := 193) (as := [(.inl 1), (.inl x5)]) (S0 := [(.inr (.inr (some 230))), (.inl x4), (.inl v1), (.inr (.inr (some 230)))]) (m := 2) (L0 := [some (.inl 1), some (.inl x5)]) rfl rfl rfl rfl rfl rfl rfl rfl (zrc_s rfl) (by omega) (by omega) (z_M_row_ok N (by omega) (by omega) 1 (zlit rfl) x5 hx5 A) (fun v2 _ hv2 => ?_)
  refine jt_ald (pc1 := 194) rfl rfl rfl rfl rfl (fun v3 hv3 => ?_)
  refine js_iadd (pc1 := 195) rfl rfl ?_
  refine js_iconst (pc1 := 197) rfl rfl ?_
  refine js_isub (pc1 := 198) rfl rfl ?_
  refine jt_ias (pc1 := 199) rfl rfl rfl rfl (fun A4 => ?_)
  refine js_iinc (pc1 := 202) (L1 := [some (.inr (.inr (some 226))), some (.inl x1), some (.inl x2), some (.inl (x3 + 1)), some (.inl x4), some (.inl x5), none]) rfl rfl rfl rfl ?_
  refine js_goto (t1 := 24) rfl rfl ?_
  exact zG_to (L := [some (.inr (.inr (some 226))), some (.inl x1), some (.inl x2), some (.inl (zw (x3 + 1))), none, none, none]) (S := []) ⟨rfl, ⟨rfl, ⟨rfl, ⟨zval_w (x3 + 1), trivial⟩⟩⟩⟩ (rfl) (hr24 x1 hx1 x2 hx2 (zw (x3 + 1)) (zw_rg (x3 + 1)) A4)
theorem z_M_inline_136_bok{d w : Nat} {r24 : Int → Int → Int → zA → Option zA} (hr24 : ∀ (x1 : Int) (hx1 : zrg x1) (x2 : Int) (hx2 : zrg x2) (x3 : Int) (hx3 : zrg x3) (A : zA), zG (r24 x1 x2 x3 A) zPV d w 55 24 [some (.inr (.inr (some 226))), some (.inl x1), some (.inl x2), some (.inl x3), none, none, none] [] A) {r136 : Int → Int → Int → Int → Int → Int → zA → Option zA} (hr136 : ∀ (x1 : Int) (hx1 : zrg x1) (x2 : Int) (hx2 : zrg x2) (x3 : Int) (hx3 : zrg x3) (x4 : Int) (hx4 : zrg x4) (x5 : Int) (hx5 : zrg x5) (x6 : Int) (hx6 : zrg x6) (A : zA), zG (r136 x1 x2 x3 x4 x5 x6 A) zPV d w 55 136 [some (.inr (.inr (some 226))), some (.inl x1), some (.inl x2), some (.inl x3), some (.inl x4), some (.inl x5), some (.inl x6)] [] A) (N : Nat) (hd : 2 ≤ d) (hw : 53 ≤ w) (x1 : Int) (hx1 : zrg x1) (x2 : Int) (hx2 : zrg x2) (x3 : Int) (hx3 : zrg x3) (x4 : Int) (hx4 : zrg x4) (x5 : Int) (hx5 : zrg x5) (x6 : Int) (hx6 : zrg x6) (A : zA) : zG (z_M_inline_136_b r24 r136 N x1 x2 x3 x4 x5 x6 A) zPV d w 55 136 [some (.inr (.inr (some 226))), some (.inl x1), some (.inl x2), some (.inl x3), some (.inl x4), some (.inl x5), some (.inl x6)] [] A := by
  unfold z_M_inline_136_b
  refine js_iload (pc1 := 138) rfl rfl rfl ?_
  refine js_aload (pc1 := 139) rfl rfl rfl ?_
  refine js_gfr (pc1 := 142) (j := 4) (r := 229) rfl rfl rfl rfl rfl ?_
  refine js_iconst (pc1 := 143) rfl rfl ?_
  refine js_iload (pc1 := 145) rfl rfl rfl ?_
  refine js_cP (pc1 := 148) (as := [(.inl 1), (.inl x5)]) (S0 := [(.inr (.inr (some 229))), (.inl x6)]) (m := 2) (L0 := [some (.inl 1), some (.inl x5)]) rfl rfl rfl rfl rfl rfl rfl rfl (zrc_s rfl) (by omega) (by omega) (z_M_row_ok N (by omega) (by omega) 1 (zlit rfl) x5 hx5 A) (fun v1 _ hv1 => ?_)
  refine jt_ald (pc1 := 149) rfl rfl rfl rfl rfl (fun v2 hv2 => ?_)
  refine jt_ge (pc1 := 152) (t1 := 172) hx6 hv2 rfl rfl rfl (fun c3 => ?_) (fun c3 => ?_)
  · refine js_aload (pc1 := 153) rfl rfl rfl ?_
    refine js_iload (pc1 := 154) rfl rfl rfl ?_
    refine js_iload (pc1 := 156) rfl rfl rfl ?_
    refine js_iload (pc1 := 158) rfl rfl rfl ?_
    refine js_iload (pc1 := 160) rfl rfl rfl ?_
    refine js_iconst (pc1 := 162) rfl rfl ?_
    refine js_isub (pc1 := 163) rfl rfl ?_
    refine js_cV (pc1 := 166) (as := [(.inr (.inr (some 226))), (.inl x1), (.inl x5), (.inl x6), (.inl (x4 - 6))]) (S0 := []) (m := 11) (L0 := [some (.inr (.inr (some 226))), some (.inl x1), some (.inl x5), some (.inl x6), some (.inl (x4 - 6)), none, none, none, none, none, none]) rfl rfl rfl rfl rfl rfl rfl rfl (zrc_o rfl rfl) (by omega) (by omega) (zG_to (L := [some (.inr (.inr (some 226))), some (.inl x1), some (.inl x5), some (.inl x6), some (.inl (zw (x4 - 6))), none, none, none, none, none, none]) (S := []) ⟨rfl, ⟨rfl, ⟨rfl, ⟨rfl, ⟨zval_w (x4 - 6), trivial⟩⟩⟩⟩⟩ rfl (z_M_shifted_ok N (by omega) (by omega) x1 hx1 x5 hx5 x6 hx6 (zw (x4 - 6)) (zw_rg (x4 - 6)) A)) (fun A4 _ => ?_)
    refine js_iinc (pc1 := 169) (L1 := [some (.inr (.inr (some 226))), some (.inl x1), some (.inl x2), some (.inl x3), some (.inl x4), some (.inl x5), some (.inl (x6 + 1))]) rfl rfl rfl rfl ?_
    refine js_goto (t1 := 136) rfl rfl ?_
    exact zG_to (L := [some (.inr (.inr (some 226))), some (.inl x1), some (.inl x2), some (.inl x3), some (.inl x4), some (.inl x5), some (.inl (zw (x6 + 1)))]) (S := []) ⟨rfl, ⟨rfl, ⟨rfl, ⟨rfl, ⟨rfl, ⟨rfl, ⟨zval_w (x6 + 1), trivial⟩⟩⟩⟩⟩⟩⟩ (rfl) (hr136 x1 hx1 x2 hx2 x3 hx3 x4 hx4 x5 hx5 (zw (x6 + 1)) (zw_rg (x6 + 1)) A4)
  · exact zG_to (L := [some (.inr (.inr (some 226))), some (.inl x1), some (.inl x2), some (.inl x3), some (.inl x4), some (.inl x5), none]) (S := []) ⟨rfl, ⟨rfl, ⟨rfl, ⟨rfl, ⟨rfl, ⟨rfl, trivial⟩⟩⟩⟩⟩⟩ (rfl) (z_M_inline_172_ok hr24 N hd hw x1 hx1 x2 hx2 x3 hx3 x4 hx4 x5 hx5 A)
theorem z_M_inline_136_lok{d w : Nat} {r24 : Int → Int → Int → zA → Option zA} (hr24 : ∀ (x1 : Int) (hx1 : zrg x1) (x2 : Int) (hx2 : zrg x2) (x3 : Int) (hx3 : zrg x3) (A : zA), zG (r24 x1 x2 x3 A) zPV d w 55 24 [some (.inr (.inr (some 226))), some (.inl x1), some (.inl x2), some (.inl x3), none, none, none] [] A) (N : Nat) (hd : 2 ≤ d) (hw : 53 ≤ w) (n : Nat) : ∀ (x1 : Int) (hx1 : zrg x1) (x2 : Int) (hx2 : zrg x2) (x3 : Int) (hx3 : zrg x3) (x4 : Int) (hx4 : zrg x4) (x5 : Int) (hx5 : zrg x5) (x6 : Int) (hx6 : zrg x6) (A : zA), zG (z_M_inline_136_l r24 N n x1 x2 x3 x4 x5 x6 A) zPV d w 55 136 [some (.inr (.inr (some 226))), some (.inl x1), some (.inl x2), some (.inl x3), some (.inl x4), some (.inl x5), some (.inl x6)] [] A := by
  induction n with
  | zero => intros; exact zG_none
  | succ n ih =>
    intro x1 hx1 x2 hx2 x3 hx3 x4 hx4 x5 hx5 x6 hx6 A
    exact z_M_inline_136_bok hr24 ih N hd hw x1 hx1 x2 hx2 x3 hx3 x4 hx4 x5 hx5 x6 hx6 A
theorem z_M_inline_136_ok{d w : Nat} {r24 : Int → Int → Int → zA → Option zA} (hr24 : ∀ (x1 : Int) (hx1 : zrg x1) (x2 : Int) (hx2 : zrg x2) (x3 : Int) (hx3 : zrg x3) (A : zA), zG (r24 x1 x2 x3 A) zPV d w 55 24 [some (.inr (.inr (some 226))), some (.inl x1), some (.inl x2), some (.inl x3), none, none, none] [] A) (N : Nat) (hd : 2 ≤ d) (hw : 53 ≤ w) (x1 : Int) (hx1 : zrg x1) (x2 : Int) (hx2 : zrg x2) (x3 : Int) (hx3 : zrg x3) (x4 : Int) (hx4 : zrg x4) (x5 : Int) (hx5 : zrg x5) (x6 : Int) (hx6 : zrg x6) (A : zA) : zG (z_M_inline_136 r24 N x1 x2 x3 x4 x5 x6 A) zPV d w 55 136 [some (.inr (.inr (some 226))), some (.inl x1), some (.inl x2), some (.inl x3), some (.inl x4), some (.inl x5), some (.inl x6)] [] A := z_M_inline_136_lok hr24 N hd hw N x1 hx1 x2 hx2 x3 hx3 x4 hx4 x5 hx5 x6 hx6 A
theorem z_M_inline_66_ok{d w : Nat} {r24 : Int → Int → Int → zA → Option zA} (hr24 : ∀ (x1 : Int) (hx1 : zrg x1) (x2 : Int) (hx2 : zrg x2) (x3 : Int) (hx3 : zrg x3) (A : zA), zG (r24 x1 x2 x3 A) zPV d w 55 24 [some (.inr (.inr (some 226))), some (.inl x1), some (.inl x2), some (.inl x3), none, none, none] [] A) (N : Nat) (hd : 2 ≤ d) (hw : 53 ≤ w) (x1 : Int) (hx1 : zrg x1) (x2 : Int) (hx2 : zrg x2) (x3 : Int) (hx3 : zrg x3) (x4 : Int) (hx4 : zrg x4) (s0 : Int) (hs0 : zrg s0) (A : zA) : zG (z_M_inline_66 r24 N x1 x2 x3 x4 s0 A) zPV d w 55 66 [some (.inr (.inr (some 226))), some (.inl x1), some (.inl x2), some (.inl x3), some (.inl x4), none, none] [(.inl s0)] A := by
  unfold z_M_inline_66
  refine js_istore (pc1 := 68) (L1 := [some (.inr (.inr (some 226))), some (.inl x1), some (.inl x2), some (.inl x3), some (.inl x4), some (.inl s0), none]) rfl rfl rfl rfl ?_
  refine js_iload (pc1 := 70) rfl rfl rfl ?_
  refine ju_lt (pc1 := 73) (t1 := 95) hs0 rfl rfl rfl (fun c1 => ?_) (fun c1 => ?_)
  · exact zG_to (L := [some (.inr (.inr (some 226))), some (.inl x1), some (.inl x2), some (.inl x3), none, none, none]) (S := []) ⟨rfl, ⟨rfl, ⟨rfl, ⟨rfl, trivial⟩⟩⟩⟩ (rfl) (z_M_inline_95_ok hr24 N hd hw x1 hx1 x2 hx2 x3 hx3 A)
  · refine js_iload (pc1 := 75) rfl rfl rfl ?_
    refine js_aload (pc1 := 76) rfl rfl rfl ?_
    refine js_gfr (pc1 := 79) (j := 5) (r := 230) rfl rfl rfl rfl rfl ?_
    refine js_iconst (pc1 := 80) rfl rfl ?_
    refine js_iload (pc1 := 82) rfl rfl rfl ?_
    refine js_cP (pc1 := 85) (as := [(.inl 1), (.inl s0)]) (S0 := [(.inr (.inr (some 230))), (.inl x4)]) (m := 2) (L0 := [some (.inl 1), some (.inl s0)]) rfl rfl rfl rfl rfl rfl rfl rfl (zrc_s rfl) (by omega) (by omega) (z_M_row_ok N (by omega) (by omega) 1 (zlit rfl) s0 hs0 A) (fun v2 _ hv2 => ?_)
    refine jt_ald (pc1 := 86) rfl rfl rfl rfl rfl (fun v3 hv3 => ?_)
    refine js_iadd (pc1 := 87) rfl rfl ?_
    refine js_iconst (pc1 := 89) rfl rfl ?_
    refine js_isub (pc1 := 90) rfl rfl ?_
    refine js_iconst (pc1 := 92) rfl rfl ?_
    refine zG_w2 ?_
    refine jt_le (pc1 := 95) (t1 := 104) (zw_rg ((x4 + v3) - 6)) (zlit rfl) rfl rfl rfl (fun c4 => ?_) (fun c4 => ?_)
    · exact zG_to (L := [some (.inr (.inr (some 226))), some (.inl x1), some (.inl x2), some (.inl x3), none, none, none]) (S := []) ⟨rfl, ⟨rfl, ⟨rfl, ⟨rfl, trivial⟩⟩⟩⟩ (rfl) (z_M_inline_95_ok hr24 N hd hw x1 hx1 x2 hx2 x3 hx3 A)
    · refine js_aload (pc1 := 105) rfl rfl rfl ?_
      refine js_dupR (pc1 := 106) rfl rfl ?_
      refine js_gi (pc1 := 109) (j := 33) rfl rfl rfl rfl ?_
      refine js_iconst (pc1 := 110) rfl rfl ?_
      refine js_iadd (pc1 := 111) rfl rfl ?_
      refine jt_pi (pc1 := 114) (j := 33) rfl rfl rfl rfl rfl (fun A5 => ?_)
      refine js_aload (pc1 := 115) rfl rfl rfl ?_
      refine js_iconst (pc1 := 116) rfl rfl ?_
      refine js_iload (pc1 := 117) rfl rfl rfl ?_
      refine js_iconst (pc1 := 118) rfl rfl ?_
      refine js_iload (pc1 := 120) rfl rfl rfl ?_
      refine js_aload (pc1 := 121) rfl rfl rfl ?_
      refine js_iconst (pc1 := 122) rfl rfl ?_
      refine js_iload (pc1 := 123) rfl rfl rfl ?_
      refine js_iload (pc1 := 124) rfl rfl rfl ?_
      refine js_iconst (pc1 := 125) rfl rfl ?_
      refine js_cP (pc1 := 128) (as := [(.inr (.inr (some 226))), (.inl 0), (.inl x1), (.inl x3), (.inl 1)]) (S0 := [(.inl x4), (.inl 1), (.inl x1), (.inl 1), (.inr (.inr (some 226)))]) (m := 5) (L0 := [some (.inr (.inr (some 226))), some (.inl 0), some (.inl x1), some (.inl x3), some (.inl 1)]) rfl rfl rfl rfl rfl rfl rfl rfl (zrc_o rfl rfl) (by omega) (by omega) (z_M_field_ok N (by omega) (by omega) 0 (zlit rfl) x1 hx1 x3 hx3 1 (zlit rfl) A5) (fun v6 _ hv6 => ?_)
      refine js_iconst (pc1 := 129) rfl rfl ?_
      refine js_iconst (pc1 := 130) rfl rfl ?_
      refine js_cV (pc1 := 133) (as := [(.inr (.inr (some 226))), (.inl 1), (.inl x1), (.inl 1), (.inl x4), (.inl v6), (.inl 0), (.inl 0)]) (S0 := []) (m := 9) (L0 := [some (.inr (.inr (some 226))), some (.inl 1), some (.inl x1), some (.inl 1), some (.inl x4), some (.inl v6), some (.inl 0), some (.inl 0), none]) rfl rfl rfl rfl rfl rfl rfl rfl (zrc_o rfl rfl) (by omega) (by omega) (z_M_emit_ok N (by omega) (by omega) 1 (zlit rfl) x1 hx1 1 (zlit rfl) x4 hx4 v6 hv6 0 (zlit rfl) 0 (zlit rfl) A5) (fun A7 _ => ?_)
      refine js_iconst (pc1 := 134) rfl rfl ?_
      refine js_istore (pc1 := 136) (L1 := [some (.inr (.inr (some 226))), some (.inl x1), some (.inl x2), some (.inl x3), some (.inl x4), some (.inl s0), some (.inl 0)]) rfl rfl rfl rfl ?_
      exact z_M_inline_136_ok hr24 N hd hw x1 hx1 x2 hx2 x3 hx3 x4 hx4 s0 hs0 0 (zlit rfl) A7
theorem z_M_inline_24_bok{d w : Nat} {r24 : Int → Int → Int → zA → Option zA} (hr24 : ∀ (x1 : Int) (hx1 : zrg x1) (x2 : Int) (hx2 : zrg x2) (x3 : Int) (hx3 : zrg x3) (A : zA), zG (r24 x1 x2 x3 A) zPV d w 55 24 [some (.inr (.inr (some 226))), some (.inl x1), some (.inl x2), some (.inl x3), none, none, none] [] A) (N : Nat) (hd : 2 ≤ d) (hw : 53 ≤ w) (x1 : Int) (hx1 : zrg x1) (x2 : Int) (hx2 : zrg x2) (x3 : Int) (hx3 : zrg x3) (A : zA) : zG (z_M_inline_24_b r24 N x1 x2 x3 A) zPV d w 55 24 [some (.inr (.inr (some 226))), some (.inl x1), some (.inl x2), some (.inl x3), none, none, none] [] A := by
  unfold z_M_inline_24_b
  refine js_iload (pc1 := 25) rfl rfl rfl ?_
  refine js_iload (pc1 := 26) rfl rfl rfl ?_
  refine jt_ge (pc1 := 29) (t1 := 205) hx3 hx2 rfl rfl rfl (fun c1 => ?_) (fun c1 => ?_)
  · refine js_aload (pc1 := 30) rfl rfl rfl ?_
    refine js_gfr (pc1 := 33) (j := 5) (r := 230) rfl rfl rfl rfl rfl ?_
    refine js_iconst (pc1 := 34) rfl rfl ?_
    refine js_iload (pc1 := 35) rfl rfl rfl ?_
    refine js_cP (pc1 := 38) (as := [(.inl 1), (.inl x1)]) (S0 := [(.inr (.inr (some 230)))]) (m := 2) (L0 := [some (.inl 1), some (.inl x1)]) rfl rfl rfl rfl rfl rfl rfl rfl (zrc_s rfl) (by omega) (by omega) (z_M_row_ok N (by omega) (by omega) 1 (zlit rfl) x1 hx1 A) (fun v2 _ hv2 => ?_)
    refine jt_ald (pc1 := 39) rfl rfl rfl rfl rfl (fun v3 hv3 => ?_)
    refine js_istore (pc1 := 41) (L1 := [some (.inr (.inr (some 226))), some (.inl x1), some (.inl x2), some (.inl x3), some (.inl v3), none, none]) rfl rfl rfl rfl ?_
    refine js_aload (pc1 := 42) rfl rfl rfl ?_
    refine js_iconst (pc1 := 43) rfl rfl ?_
    refine js_iload (pc1 := 44) rfl rfl rfl ?_
    refine js_iload (pc1 := 45) rfl rfl rfl ?_
    refine js_iconst (pc1 := 46) rfl rfl ?_
    refine js_cP (pc1 := 49) (as := [(.inr (.inr (some 226))), (.inl 0), (.inl x1), (.inl x3), (.inl 0)]) (S0 := []) (m := 5) (L0 := [some (.inr (.inr (some 226))), some (.inl 0), some (.inl x1), some (.inl x3), some (.inl 0)]) rfl rfl rfl rfl rfl rfl rfl rfl (zrc_o rfl rfl) (by omega) (by omega) (z_M_field_ok N (by omega) (by omega) 0 (zlit rfl) x1 hx1 x3 hx3 0 (zlit rfl) A) (fun v4 _ hv4 => ?_)
    refine js_iconst (pc1 := 51) rfl rfl ?_
    refine jt_ne (pc1 := 54) (t1 := 65) hv4 (zlit rfl) rfl rfl rfl (fun c5 => ?_) (fun c5 => ?_)
    · refine js_aload (pc1 := 55) rfl rfl rfl ?_
      refine js_iconst (pc1 := 56) rfl rfl ?_
      refine js_iload (pc1 := 57) rfl rfl rfl ?_
      refine js_iload (pc1 := 58) rfl rfl rfl ?_
      refine js_iconst (pc1 := 59) rfl rfl ?_
      refine js_cP (pc1 := 62) (as := [(.inr (.inr (some 226))), (.inl 0), (.inl x1), (.inl x3), (.inl 2)]) (S0 := []) (m := 5) (L0 := [some (.inr (.inr (some 226))), some (.inl 0), some (.inl x1), some (.inl x3), some (.inl 2)]) rfl rfl rfl rfl rfl rfl rfl rfl (zrc_o rfl rfl) (by omega) (by omega) (z_M_field_ok N (by omega) (by omega) 0 (zlit rfl) x1 hx1 x3 hx3 2 (zlit rfl) A) (fun v6 _ hv6 => ?_)
      refine js_goto (t1 := 66) rfl rfl ?_
      exact z_M_inline_66_ok hr24 N hd hw x1 hx1 x2 hx2 x3 hx3 v3 hv3 v6 hv6 A
    · refine js_iconst (pc1 := 66) rfl rfl ?_
      exact z_M_inline_66_ok hr24 N hd hw x1 hx1 x2 hx2 x3 hx3 v3 hv3 (-1) (zlit rfl) A
  · exact je_V rfl
theorem z_M_inline_24_lok{d w : Nat} (N : Nat) (hd : 2 ≤ d) (hw : 53 ≤ w) (n : Nat) : ∀ (x1 : Int) (hx1 : zrg x1) (x2 : Int) (hx2 : zrg x2) (x3 : Int) (hx3 : zrg x3) (A : zA), zG (z_M_inline_24_l N n x1 x2 x3 A) zPV d w 55 24 [some (.inr (.inr (some 226))), some (.inl x1), some (.inl x2), some (.inl x3), none, none, none] [] A := by
  induction n with
  | zero => intros; exact zG_none
  | succ n ih =>
    intro x1 hx1 x2 hx2 x3 hx3 A
    exact z_M_inline_24_bok ih N hd hw x1 hx1 x2 hx2 x3 hx3 A
theorem z_M_inline_24_ok{d w : Nat} (N : Nat) (hd : 2 ≤ d) (hw : 53 ≤ w) (x1 : Int) (hx1 : zrg x1) (x2 : Int) (hx2 : zrg x2) (x3 : Int) (hx3 : zrg x3) (A : zA) : zG (z_M_inline_24 N x1 x2 x3 A) zPV d w 55 24 [some (.inr (.inr (some 226))), some (.inl x1), some (.inl x2), some (.inl x3), none, none, none] [] A := z_M_inline_24_lok N hd hw N x1 hx1 x2 hx2 x3 hx3 A
theorem z_M_inline_ok{d w : Nat} (N : Nat) (hd : 2 ≤ d) (hw : 53 ≤ w) (x1 : Int) (hx1 : zrg x1) (A : zA) : zG (z_M_inline N x1 A) zPV d w 55 0 [some (.inr (.inr (some 226))), some (.inl x1), none, none, none, none, none] [] A := by
  unfold z_M_inline
  refine js_aload (pc1 := 1) rfl rfl rfl ?_
  refine js_gfr (pc1 := 4) (j := 4) (r := 229) rfl rfl rfl rfl rfl ?_
  refine js_iconst (pc1 := 5) rfl rfl ?_
  refine js_iload (pc1 := 6) rfl rfl rfl ?_
  refine js_cP (pc1 := 9) (as := [(.inl 0), (.inl x1)]) (S0 := [(.inr (.inr (some 229)))]) (m := 2) (L0 := [some (.inl 0), some (.inl x1)]) rfl rfl rfl rfl rfl rfl rfl rfl (zrc_s rfl) (by omega) (by omega) (z_M_row_ok N (by omega) (by omega) 0 (zlit rfl) x1 hx1 A) (fun v1 _ hv1 => ?_)
  refine jt_ald (pc1 := 10) rfl rfl rfl rfl rfl (fun v2 hv2 => ?_)
  refine js_istore (pc1 := 11) (L1 := [some (.inr (.inr (some 226))), some (.inl x1), some (.inl v2), none, none, none, none]) rfl rfl rfl rfl ?_
  refine js_aload (pc1 := 12) rfl rfl rfl ?_
  refine js_gfr (pc1 := 15) (j := 4) (r := 229) rfl rfl rfl rfl rfl ?_
  refine js_iconst (pc1 := 16) rfl rfl ?_
  refine js_iload (pc1 := 17) rfl rfl rfl ?_
  refine js_cP (pc1 := 20) (as := [(.inl 1), (.inl x1)]) (S0 := [(.inr (.inr (some 229)))]) (m := 2) (L0 := [some (.inl 1), some (.inl x1)]) rfl rfl rfl rfl rfl rfl rfl rfl (zrc_s rfl) (by omega) (by omega) (z_M_row_ok N (by omega) (by omega) 1 (zlit rfl) x1 hx1 A) (fun v3 _ hv3 => ?_)
  refine js_iconst (pc1 := 21) rfl rfl ?_
  refine jt_ias (pc1 := 22) rfl rfl rfl rfl (fun A4 => ?_)
  refine js_iconst (pc1 := 23) rfl rfl ?_
  refine js_istore (pc1 := 24) (L1 := [some (.inr (.inr (some 226))), some (.inl x1), some (.inl v2), some (.inl 0), none, none, none]) rfl rfl rfl rfl ?_
  exact z_M_inline_24_ok N hd hw x1 hx1 v2 hv2 0 (zlit rfl) A4
theorem z_M_thing_108_ok{d w : Nat} (N : Nat) (hd : 0 ≤ d) (hw : 0 ≤ w) (x1 : Int) (hx1 : zrg x1) (x2 : Int) (hx2 : zrg x2) (x3 : Int) (hx3 : zrg x3) (x4 : Int) (hx4 : zrg x4) (x5 : Int) (hx5 : zrg x5) (A : zA) : zG (z_M_thing_108 N x1 x2 x3 x4 x5 A) zPI d w 192 108 [some (.inr (.inr (some 226))), some (.inl x1), some (.inl x2), some (.inl x3), some (.inl x4), some (.inl x5), none] [] A := by
  unfold z_M_thing_108
  refine js_aload (pc1 := 109) rfl rfl rfl ?_
  refine js_gi (pc1 := 112) (j := 42) rfl rfl rfl rfl ?_
  refine js_iconst (pc1 := 115) rfl rfl ?_
  refine jt_ne (pc1 := 118) (t1 := 120) (zi_rg _ _ _) (zlit rfl) rfl rfl rfl (fun c1 => ?_) (fun c1 => ?_)
  · refine js_iconst (pc1 := 119) rfl rfl ?_
    exact je_I rfl (zfit0 _ rfl) rfl (zlit rfl)
  · refine js_aload (pc1 := 121) rfl rfl rfl ?_
    refine js_gfr (pc1 := 124) (j := 43) (r := 252) rfl rfl rfl rfl rfl ?_
    refine js_aload (pc1 := 125) rfl rfl rfl ?_
    refine js_gi (pc1 := 128) (j := 42) rfl rfl rfl rfl ?_
    refine js_iload (pc1 := 129) rfl rfl rfl ?_
    refine jt_ias (pc1 := 130) rfl rfl rfl rfl (fun A2 => ?_)
    refine js_aload (pc1 := 131) rfl rfl rfl ?_
    refine js_gfr (pc1 := 134) (j := 44) (r := 253) rfl rfl rfl rfl rfl ?_
    refine js_aload (pc1 := 135) rfl rfl rfl ?_
    refine js_gi (pc1 := 138) (j := 42) rfl rfl rfl rfl ?_
    refine js_iload (pc1 := 139) rfl rfl rfl ?_
    refine jt_ias (pc1 := 140) rfl rfl rfl rfl (fun A3 => ?_)
    refine js_aload (pc1 := 141) rfl rfl rfl ?_
    refine js_gfr (pc1 := 144) (j := 45) (r := 254) rfl rfl rfl rfl rfl ?_
    refine js_aload (pc1 := 145) rfl rfl rfl ?_
    refine js_gi (pc1 := 148) (j := 42) rfl rfl rfl rfl ?_
    refine js_iload (pc1 := 149) rfl rfl rfl ?_
    refine jt_ias (pc1 := 150) rfl rfl rfl rfl (fun A4 => ?_)
    refine js_aload (pc1 := 151) rfl rfl rfl ?_
    refine js_gfr (pc1 := 154) (j := 46) (r := 255) rfl rfl rfl rfl rfl ?_
    refine js_aload (pc1 := 155) rfl rfl rfl ?_
    refine js_gi (pc1 := 158) (j := 42) rfl rfl rfl rfl ?_
    refine js_iload (pc1 := 160) rfl rfl rfl ?_
    refine jt_ias (pc1 := 161) rfl rfl rfl rfl (fun A5 => ?_)
    refine js_aload (pc1 := 162) rfl rfl rfl ?_
    refine js_gfr (pc1 := 165) (j := 47) (r := 256) rfl rfl rfl rfl rfl ?_
    refine js_aload (pc1 := 166) rfl rfl rfl ?_
    refine js_gi (pc1 := 169) (j := 42) rfl rfl rfl rfl ?_
    refine js_aload (pc1 := 170) rfl rfl rfl ?_
    refine js_gfr (pc1 := 173) (j := 49) (r := 258) rfl rfl rfl rfl rfl ?_
    refine js_iload (pc1 := 175) rfl rfl rfl ?_
    refine jt_ald (pc1 := 176) rfl rfl rfl rfl rfl (fun v6 hv6 => ?_)
    refine jt_ias (pc1 := 177) rfl rfl rfl rfl (fun A7 => ?_)
    refine js_aload (pc1 := 178) rfl rfl rfl ?_
    refine js_gfr (pc1 := 181) (j := 49) (r := 258) rfl rfl rfl rfl rfl ?_
    refine js_iload (pc1 := 183) rfl rfl rfl ?_
    refine js_aload (pc1 := 184) rfl rfl rfl ?_
    refine js_gi (pc1 := 187) (j := 42) rfl rfl rfl rfl ?_
    refine jt_ias (pc1 := 188) rfl rfl rfl rfl (fun A8 => ?_)
    refine js_aload (pc1 := 189) rfl rfl rfl ?_
    refine js_gfr (pc1 := 192) (j := 48) (r := 257) rfl rfl rfl rfl rfl ?_
    refine js_aload (pc1 := 193) rfl rfl rfl ?_
    refine js_gi (pc1 := 196) (j := 42) rfl rfl rfl rfl ?_
    refine js_iload (pc1 := 198) rfl rfl rfl ?_
    refine jt_ias (pc1 := 199) rfl rfl rfl rfl (fun A9 => ?_)
    refine js_aload (pc1 := 200) rfl rfl rfl ?_
    refine js_dupR (pc1 := 201) rfl rfl ?_
    refine js_gi (pc1 := 204) (j := 42) rfl rfl rfl rfl ?_
    refine js_iconst (pc1 := 205) rfl rfl ?_
    refine js_iadd (pc1 := 206) rfl rfl ?_
    refine jt_pi (pc1 := 209) (j := 42) rfl rfl rfl rfl rfl (fun A10 => ?_)
    refine js_aload (pc1 := 210) rfl rfl rfl ?_
    refine js_gi (pc1 := 213) (j := 42) rfl rfl rfl rfl ?_
    refine js_iconst (pc1 := 214) rfl rfl ?_
    refine js_isub (pc1 := 215) rfl rfl ?_
    exact je_I rfl (zfit0 _ rfl) (zval_w ((zi A10 226 42) - 1)) (zw_rg ((zi A10 226 42) - 1))
theorem z_M_thing_43_bok{d w : Nat} {r43 : Int → Int → Int → Int → Int → Int → zA → Option (Int × zA)} (hr43 : ∀ (x1 : Int) (hx1 : zrg x1) (x2 : Int) (hx2 : zrg x2) (x3 : Int) (hx3 : zrg x3) (x4 : Int) (hx4 : zrg x4) (x5 : Int) (hx5 : zrg x5) (x6 : Int) (hx6 : zrg x6) (A : zA), zG (r43 x1 x2 x3 x4 x5 x6 A) zPI d w 192 43 [some (.inr (.inr (some 226))), some (.inl x1), some (.inl x2), some (.inl x3), some (.inl x4), some (.inl x5), some (.inl x6)] [] A) (N : Nat) (hd : 0 ≤ d) (hw : 0 ≤ w) (x1 : Int) (hx1 : zrg x1) (x2 : Int) (hx2 : zrg x2) (x3 : Int) (hx3 : zrg x3) (x4 : Int) (hx4 : zrg x4) (x5 : Int) (hx5 : zrg x5) (x6 : Int) (hx6 : zrg x6) (A : zA) : zG (z_M_thing_43_b r43 N x1 x2 x3 x4 x5 x6 A) zPI d w 192 43 [some (.inr (.inr (some 226))), some (.inl x1), some (.inl x2), some (.inl x3), some (.inl x4), some (.inl x5), some (.inl x6)] [] A := by
  unfold z_M_thing_43_b
  refine js_iload (pc1 := 45) rfl rfl rfl ?_
  refine ju_lt (pc1 := 48) (t1 := 108) hx6 rfl rfl rfl (fun c1 => ?_) (fun c1 => ?_)
  · exact zG_to (L := [some (.inr (.inr (some 226))), some (.inl x1), some (.inl x2), some (.inl x3), some (.inl x4), some (.inl x5), none]) (S := []) ⟨rfl, ⟨rfl, ⟨rfl, ⟨rfl, ⟨rfl, ⟨rfl, trivial⟩⟩⟩⟩⟩⟩ (rfl) (z_M_thing_108_ok N hd hw x1 hx1 x2 hx2 x3 hx3 x4 hx4 x5 hx5 A)
  · refine js_aload (pc1 := 49) rfl rfl rfl ?_
    refine js_gfr (pc1 := 52) (j := 43) (r := 252) rfl rfl rfl rfl rfl ?_
    refine js_iload (pc1 := 54) rfl rfl rfl ?_
    refine jt_ald (pc1 := 55) rfl rfl rfl rfl rfl (fun v2 hv2 => ?_)
    refine js_iload (pc1 := 56) rfl rfl rfl ?_
    refine jt_ne (pc1 := 59) (t1 := 96) hv2 hx1 rfl rfl rfl (fun c3 => ?_) (fun c3 => ?_)
    · refine js_aload (pc1 := 60) rfl rfl rfl ?_
      refine js_gfr (pc1 := 63) (j := 44) (r := 253) rfl rfl rfl rfl rfl ?_
      refine js_iload (pc1 := 65) rfl rfl rfl ?_
      refine jt_ald (pc1 := 66) rfl rfl rfl rfl rfl (fun v4 hv4 => ?_)
      refine js_iload (pc1 := 67) rfl rfl rfl ?_
      refine jt_ne (pc1 := 70) (t1 := 96) hv4 hx2 rfl rfl rfl (fun c5 => ?_) (fun c5 => ?_)
      · refine js_aload (pc1 := 71) rfl rfl rfl ?_
        refine js_gfr (pc1 := 74) (j := 45) (r := 254) rfl rfl rfl rfl rfl ?_
        refine js_iload (pc1 := 76) rfl rfl rfl ?_
        refine jt_ald (pc1 := 77) rfl rfl rfl rfl rfl (fun v6 hv6 => ?_)
        refine js_iload (pc1 := 78) rfl rfl rfl ?_
        refine jt_ne (pc1 := 81) (t1 := 96) hv6 hx3 rfl rfl rfl (fun c7 => ?_) (fun c7 => ?_)
        · refine js_aload (pc1 := 82) rfl rfl rfl ?_
          refine js_gfr (pc1 := 85) (j := 46) (r := 255) rfl rfl rfl rfl rfl ?_
          refine js_iload (pc1 := 87) rfl rfl rfl ?_
          refine jt_ald (pc1 := 88) rfl rfl rfl rfl rfl (fun v8 hv8 => ?_)
          refine js_iload (pc1 := 90) rfl rfl rfl ?_
          refine jt_ne (pc1 := 93) (t1 := 96) hv8 hx4 rfl rfl rfl (fun c9 => ?_) (fun c9 => ?_)
          · refine js_iload (pc1 := 95) rfl rfl rfl ?_
            exact je_I rfl (zfit0 _ rfl) rfl hx6
          · refine js_aload (pc1 := 97) rfl rfl rfl ?_
            refine js_gfr (pc1 := 100) (j := 47) (r := 256) rfl rfl rfl rfl rfl ?_
            refine js_iload (pc1 := 102) rfl rfl rfl ?_
            refine jt_ald (pc1 := 103) rfl rfl rfl rfl rfl (fun v10 hv10 => ?_)
            refine js_istore (pc1 := 105) (L1 := [some (.inr (.inr (some 226))), some (.inl x1), some (.inl x2), some (.inl x3), some (.inl x4), some (.inl x5), some (.inl v10)]) rfl rfl rfl rfl ?_
            refine js_goto (t1 := 43) rfl rfl ?_
            exact hr43 x1 hx1 x2 hx2 x3 hx3 x4 hx4 x5 hx5 v10 hv10 A
        · refine js_aload (pc1 := 97) rfl rfl rfl ?_
          refine js_gfr (pc1 := 100) (j := 47) (r := 256) rfl rfl rfl rfl rfl ?_
          refine js_iload (pc1 := 102) rfl rfl rfl ?_
          refine jt_ald (pc1 := 103) rfl rfl rfl rfl rfl (fun v11 hv11 => ?_)
          refine js_istore (pc1 := 105) (L1 := [some (.inr (.inr (some 226))), some (.inl x1), some (.inl x2), some (.inl x3), some (.inl x4), some (.inl x5), some (.inl v11)]) rfl rfl rfl rfl ?_
          refine js_goto (t1 := 43) rfl rfl ?_
          exact hr43 x1 hx1 x2 hx2 x3 hx3 x4 hx4 x5 hx5 v11 hv11 A
      · refine js_aload (pc1 := 97) rfl rfl rfl ?_
        refine js_gfr (pc1 := 100) (j := 47) (r := 256) rfl rfl rfl rfl rfl ?_
        refine js_iload (pc1 := 102) rfl rfl rfl ?_
        refine jt_ald (pc1 := 103) rfl rfl rfl rfl rfl (fun v12 hv12 => ?_)
        refine js_istore (pc1 := 105) (L1 := [some (.inr (.inr (some 226))), some (.inl x1), some (.inl x2), some (.inl x3), some (.inl x4), some (.inl x5), some (.inl v12)]) rfl rfl rfl rfl ?_
        refine js_goto (t1 := 43) rfl rfl ?_
        exact hr43 x1 hx1 x2 hx2 x3 hx3 x4 hx4 x5 hx5 v12 hv12 A
    · refine js_aload (pc1 := 97) rfl rfl rfl ?_
      refine js_gfr (pc1 := 100) (j := 47) (r := 256) rfl rfl rfl rfl rfl ?_
      refine js_iload (pc1 := 102) rfl rfl rfl ?_
      refine jt_ald (pc1 := 103) rfl rfl rfl rfl rfl (fun v13 hv13 => ?_)
      refine js_istore (pc1 := 105) (L1 := [some (.inr (.inr (some 226))), some (.inl x1), some (.inl x2), some (.inl x3), some (.inl x4), some (.inl x5), some (.inl v13)]) rfl rfl rfl rfl ?_
      refine js_goto (t1 := 43) rfl rfl ?_
      exact hr43 x1 hx1 x2 hx2 x3 hx3 x4 hx4 x5 hx5 v13 hv13 A
theorem z_M_thing_43_lok{d w : Nat} (N : Nat) (hd : 0 ≤ d) (hw : 0 ≤ w) (n : Nat) : ∀ (x1 : Int) (hx1 : zrg x1) (x2 : Int) (hx2 : zrg x2) (x3 : Int) (hx3 : zrg x3) (x4 : Int) (hx4 : zrg x4) (x5 : Int) (hx5 : zrg x5) (x6 : Int) (hx6 : zrg x6) (A : zA), zG (z_M_thing_43_l N n x1 x2 x3 x4 x5 x6 A) zPI d w 192 43 [some (.inr (.inr (some 226))), some (.inl x1), some (.inl x2), some (.inl x3), some (.inl x4), some (.inl x5), some (.inl x6)] [] A := by
  induction n with
  | zero => intros; exact zG_none
  | succ n ih =>
    intro x1 hx1 x2 hx2 x3 hx3 x4 hx4 x5 hx5 x6 hx6 A
    exact z_M_thing_43_bok ih N hd hw x1 hx1 x2 hx2 x3 hx3 x4 hx4 x5 hx5 x6 hx6 A
theorem z_M_thing_43_ok{d w : Nat} (N : Nat) (hd : 0 ≤ d) (hw : 0 ≤ w) (x1 : Int) (hx1 : zrg x1) (x2 : Int) (hx2 : zrg x2) (x3 : Int) (hx3 : zrg x3) (x4 : Int) (hx4 : zrg x4) (x5 : Int) (hx5 : zrg x5) (x6 : Int) (hx6 : zrg x6) (A : zA) : zG (z_M_thing_43 N x1 x2 x3 x4 x5 x6 A) zPI d w 192 43 [some (.inr (.inr (some 226))), some (.inl x1), some (.inl x2), some (.inl x3), some (.inl x4), some (.inl x5), some (.inl x6)] [] A := z_M_thing_43_lok N hd hw N x1 hx1 x2 hx2 x3 hx3 x4 hx4 x5 hx5 x6 hx6 A
theorem z_M_thing_ok{d w : Nat} (N : Nat) (hd : 0 ≤ d) (hw : 0 ≤ w) (x1 : Int) (hx1 : zrg x1) (x2 : Int) (hx2 : zrg x2) (x3 : Int) (hx3 : zrg x3) (x4 : Int) (hx4 : zrg x4) (A : zA) : zG (z_M_thing N x1 x2 x3 x4 A) zPI d w 192 0 [some (.inr (.inr (some 226))), some (.inl x1), some (.inl x2), some (.inl x3), some (.inl x4), none, none] [] A := by
  unfold z_M_thing
  refine js_iload (pc1 := 1) rfl rfl rfl ?_
  refine js_iconst (pc1 := 3) rfl rfl ?_
  refine js_imul (pc1 := 4) rfl rfl ?_
  refine js_iload (pc1 := 5) rfl rfl rfl ?_
  refine js_iadd (pc1 := 6) rfl rfl ?_
  refine js_iconst (pc1 := 8) rfl rfl ?_
  refine js_imul (pc1 := 9) rfl rfl ?_
  refine js_iload (pc1 := 10) rfl rfl rfl ?_
  refine js_iadd (pc1 := 11) rfl rfl ?_
  refine js_iconst (pc1 := 14) rfl rfl ?_
  refine js_imul (pc1 := 15) rfl rfl ?_
  refine js_iload (pc1 := 17) rfl rfl rfl ?_
  refine js_iadd (pc1 := 18) rfl rfl ?_
  refine zG_w1 ?_
  refine js_istore (pc1 := 20) (L1 := [some (.inr (.inr (some 226))), some (.inl x1), some (.inl x2), some (.inl x3), some (.inl x4), some (.inl (zw ((((((x1 * 31) + x2) * 127) + x3) * 8191) + x4))), none]) rfl rfl rfl rfl ?_
  refine js_iload (pc1 := 22) rfl rfl rfl ?_
  refine js_iload (pc1 := 24) rfl rfl rfl ?_
  refine js_iconst (pc1 := 26) rfl rfl ?_
  refine js_iushr (pc1 := 27) rfl rfl ?_
  refine js_ixor (pc1 := 28) rfl rfl ?_
  refine js_iconst (pc1 := 31) rfl rfl ?_
  refine js_iand (pc1 := 32) rfl rfl ?_
  refine js_istore (pc1 := 34) (L1 := [some (.inr (.inr (some 226))), some (.inl x1), some (.inl x2), some (.inl x3), some (.inl x4), some (.inl (zan (zxr (zw ((((((x1 * 31) + x2) * 127) + x3) * 8191) + x4)) (zuh (zw ((((((x1 * 31) + x2) * 127) + x3) * 8191) + x4)) 15)) 4095)), none]) rfl rfl rfl rfl ?_
  refine js_aload (pc1 := 35) rfl rfl rfl ?_
  refine js_gfr (pc1 := 38) (j := 49) (r := 258) rfl rfl rfl rfl rfl ?_
  refine js_iload (pc1 := 40) rfl rfl rfl ?_
  refine jt_ald (pc1 := 41) rfl rfl rfl rfl rfl (fun v1 hv1 => ?_)
  refine js_istore (pc1 := 43) (L1 := [some (.inr (.inr (some 226))), some (.inl x1), some (.inl x2), some (.inl x3), some (.inl x4), some (.inl (zan (zxr (zw ((((((x1 * 31) + x2) * 127) + x3) * 8191) + x4)) (zuh (zw ((((((x1 * 31) + x2) * 127) + x3) * 8191) + x4)) 15)) 4095)), some (.inl v1)]) rfl rfl rfl rfl ?_
  exact z_M_thing_43_ok N hd hw x1 hx1 x2 hx2 x3 hx3 x4 hx4 (zan (zxr (zw ((((((x1 * 31) + x2) * 127) + x3) * 8191) + x4)) (zuh (zw ((((((x1 * 31) + x2) * 127) + x3) * 8191) + x4)) 15)) 4095) (zt_rg _) v1 hv1 A
theorem z_M_set_ok{d w : Nat} (N : Nat) (hd : 0 ≤ d) (hw : 0 ≤ w) (x1 : Int) (hx1 : zrg x1) (x2 : Int) (hx2 : zrg x2) (A : zA) : zG (z_M_set N x1 x2 A) zPV d w 193 0 [some (.inr (.inr (some 226))), some (.inl x1), some (.inl x2)] [] A := by
  unfold z_M_set
  refine js_iload (pc1 := 1) rfl rfl rfl ?_
  refine js_iconst (pc1 := 3) rfl rfl ?_
  refine jt_ne (pc1 := 6) (t1 := 14) hx1 (zlit rfl) rfl rfl rfl (fun c1 => ?_) (fun c1 => ?_)
  · refine js_aload (pc1 := 7) rfl rfl rfl ?_
    refine js_iload (pc1 := 8) rfl rfl rfl ?_
    refine jt_pi (pc1 := 11) (j := 63) rfl rfl rfl rfl rfl (fun A2 => ?_)
    refine js_goto (t1 := 45) rfl rfl ?_
    exact je_V rfl
  · refine js_iload (pc1 := 15) rfl rfl rfl ?_
    refine js_iconst (pc1 := 17) rfl rfl ?_
    refine jt_ge (pc1 := 20) (t1 := 30) hx1 (zlit rfl) rfl rfl rfl (fun c3 => ?_) (fun c3 => ?_)
    · refine js_aload (pc1 := 21) rfl rfl rfl ?_
      refine js_gfr (pc1 := 24) (j := 58) (r := 267) rfl rfl rfl rfl rfl ?_
      refine js_iload (pc1 := 25) rfl rfl rfl ?_
      refine js_iload (pc1 := 26) rfl rfl rfl ?_
      refine jt_ias (pc1 := 27) rfl rfl rfl rfl (fun A4 => ?_)
      refine js_goto (t1 := 45) rfl rfl ?_
      exact je_V rfl
    · refine js_aload (pc1 := 31) rfl rfl rfl ?_
      refine js_gfr (pc1 := 34) (j := 59) (r := 268) rfl rfl rfl rfl rfl ?_
      refine js_iconst (pc1 := 36) rfl rfl ?_
      refine js_aload (pc1 := 37) rfl rfl rfl ?_
      refine js_gi (pc1 := 40) (j := 62) rfl rfl rfl rfl ?_
      refine js_imul (pc1 := 41) rfl rfl ?_
      refine js_iload (pc1 := 42) rfl rfl rfl ?_
      refine js_iadd (pc1 := 43) rfl rfl ?_
      refine js_iload (pc1 := 44) rfl rfl rfl ?_
      refine jt_ias (pc1 := 45) rfl rfl rfl rfl (fun A5 => ?_)
      exact je_V rfl
theorem z_M_get_ok{d w : Nat} (N : Nat) (hd : 0 ≤ d) (hw : 0 ≤ w) (x1 : Int) (hx1 : zrg x1) (A : zA) : zG (z_M_get N x1 A) (zPp A) d w 195 0 [some (.inr (.inr (some 226))), some (.inl x1)] [] A := by
  unfold z_M_get
  refine js_iload (pc1 := 1) rfl rfl rfl ?_
  refine js_iconst (pc1 := 3) rfl rfl ?_
  refine jt_ne (pc1 := 6) (t1 := 13) hx1 (zlit rfl) rfl rfl rfl (fun c1 => ?_) (fun c1 => ?_)
  · refine js_aload (pc1 := 7) rfl rfl rfl ?_
    refine js_gi (pc1 := 10) (j := 63) rfl rfl rfl rfl ?_
    refine js_goto (t1 := 42) rfl rfl ?_
    exact je_P rfl (zfit0 _ rfl) rfl (zi_rg _ _ _)
  · refine js_iload (pc1 := 14) rfl rfl rfl ?_
    refine js_iconst (pc1 := 16) rfl rfl ?_
    refine jt_ge (pc1 := 19) (t1 := 28) hx1 (zlit rfl) rfl rfl rfl (fun c2 => ?_) (fun c2 => ?_)
    · refine js_aload (pc1 := 20) rfl rfl rfl ?_
      refine js_gfr (pc1 := 23) (j := 58) (r := 267) rfl rfl rfl rfl rfl ?_
      refine js_iload (pc1 := 24) rfl rfl rfl ?_
      refine jt_ald (pc1 := 25) rfl rfl rfl rfl rfl (fun v3 hv3 => ?_)
      refine js_goto (t1 := 42) rfl rfl ?_
      exact je_P rfl (zfit0 _ rfl) rfl hv3
    · refine js_aload (pc1 := 29) rfl rfl rfl ?_
      refine js_gfr (pc1 := 32) (j := 59) (r := 268) rfl rfl rfl rfl rfl ?_
      refine js_iconst (pc1 := 34) rfl rfl ?_
      refine js_aload (pc1 := 35) rfl rfl rfl ?_
      refine js_gi (pc1 := 38) (j := 62) rfl rfl rfl rfl ?_
      refine js_imul (pc1 := 39) rfl rfl ?_
      refine js_iload (pc1 := 40) rfl rfl rfl ?_
      refine js_iadd (pc1 := 41) rfl rfl ?_
      refine jt_ald (pc1 := 42) rfl rfl rfl rfl rfl (fun v4 hv4 => ?_)
      exact je_P rfl (zfit0 _ rfl) rfl hv4
theorem z_M_isNumber_ok{d w : Nat} (N : Nat) (hd : 0 ≤ d) (hw : 0 ≤ w) (x1 : Int) (hx1 : zrg x1) (A : zA) : zG (z_M_isNumber N x1 A) (zPp A) d w 260 0 [some (.inr (.inr (some 226))), some (.inl x1)] [] A := by
  unfold z_M_isNumber
  refine js_aload (pc1 := 1) rfl rfl rfl ?_
  refine js_gfr (pc1 := 4) (j := 43) (r := 252) rfl rfl rfl rfl rfl ?_
  refine js_iload (pc1 := 5) rfl rfl rfl ?_
  refine jt_ald (pc1 := 6) rfl rfl rfl rfl rfl (fun v1 hv1 => ?_)
  refine ju_ne (pc1 := 9) (t1 := 13) hv1 rfl rfl rfl (fun c2 => ?_) (fun c2 => ?_)
  · refine js_iconst (pc1 := 10) rfl rfl ?_
    refine js_goto (t1 := 14) rfl rfl ?_
    exact je_P rfl (zfit3 rfl (Or.inr rfl)) rfl (zlit rfl)
  · refine js_iconst (pc1 := 14) rfl rfl ?_
    exact je_P rfl (zfit3 rfl (Or.inl rfl)) rfl (zlit rfl)
theorem z_M_says_ok{d w : Nat} (N : Nat) (hd : 0 ≤ d) (hw : 0 ≤ w) (x1 : Int) (hx1 : zrg x1) (x2 : Int) (hx2 : zrg x2) (A : zA) : zG (z_M_says N x1 x2 A) zPV d w 201 0 [some (.inr (.inr (some 226))), some (.inl x1), some (.inl x2)] [] A := by
  unfold z_M_says
  refine js_aload (pc1 := 1) rfl rfl rfl ?_
  refine js_gi (pc1 := 4) (j := 80) rfl rfl rfl rfl ?_
  refine ju_le (pc1 := 7) (t1 := 8) (zi_rg _ _ _) rfl rfl rfl (fun c1 => ?_) (fun c1 => ?_)
  · exact je_V rfl
  · refine js_aload (pc1 := 9) rfl rfl rfl ?_
    refine js_gfr (pc1 := 12) (j := 50) (r := 259) rfl rfl rfl rfl rfl ?_
    refine js_iconst (pc1 := 15) rfl rfl ?_
    refine js_iload (pc1 := 16) rfl rfl rfl ?_
    refine js_imul (pc1 := 17) rfl rfl ?_
    refine js_aload (pc1 := 18) rfl rfl rfl ?_
    refine js_gfr (pc1 := 21) (j := 51) (r := 260) rfl rfl rfl rfl rfl ?_
    refine js_iload (pc1 := 22) rfl rfl rfl ?_
    refine jt_ald (pc1 := 23) rfl rfl rfl rfl rfl (fun v2 hv2 => ?_)
    refine js_iadd (pc1 := 24) rfl rfl ?_
    refine js_iload (pc1 := 25) rfl rfl rfl ?_
    refine jt_ias (pc1 := 26) rfl rfl rfl rfl (fun A3 => ?_)
    refine js_aload (pc1 := 27) rfl rfl rfl ?_
    refine js_gfr (pc1 := 30) (j := 51) (r := 260) rfl rfl rfl rfl rfl ?_
    refine js_iload (pc1 := 31) rfl rfl rfl ?_
    refine js_dup2 (pc1 := 32) rfl rfl ?_
    refine jt_ald (pc1 := 33) rfl rfl rfl rfl rfl (fun v4 hv4 => ?_)
    refine js_iconst (pc1 := 34) rfl rfl ?_
    refine js_iadd (pc1 := 35) rfl rfl ?_
    refine jt_ias (pc1 := 36) rfl rfl rfl rfl (fun A5 => ?_)
    exact je_V rfl
theorem z_M_saysOnce_70_ok{d w : Nat} (N : Nat) (hd : 1 ≤ d) (hw : 22 ≤ w) (x1 : Int) (hx1 : zrg x1) (x2 : Int) (hx2 : zrg x2) (x3 : Int) (hx3 : zrg x3) (x4 : Int) (hx4 : zrg x4) (x5 : Int) (hx5 : zrg x5) (A : zA) : zG (z_M_saysOnce_70 N x1 x2 x3 x4 x5 A) zPV d w 295 70 [some (.inr (.inr (some 226))), some (.inl x1), some (.inl x2), some (.inl x3), some (.inl x4), some (.inl x5), none] [] A := by
  unfold z_M_saysOnce_70
  refine js_iload (pc1 := 72) rfl rfl rfl ?_
  refine ju_eq (pc1 := 75) (t1 := 76) hx5 rfl rfl rfl (fun c1 => ?_) (fun c1 => ?_)
  · refine js_aload (pc1 := 77) rfl rfl rfl ?_
    refine js_iload (pc1 := 78) rfl rfl rfl ?_
    refine js_iload (pc1 := 79) rfl rfl rfl ?_
    refine js_ineg (pc1 := 80) rfl rfl ?_
    refine js_cV (pc1 := 83) (as := [(.inr (.inr (some 226))), (.inl x1), (.inl (-x2))]) (S0 := []) (m := 3) (L0 := [some (.inr (.inr (some 226))), some (.inl x1), some (.inl (-x2))]) rfl rfl rfl rfl rfl rfl rfl rfl (zrc_o rfl rfl) (by omega) (by omega) (zG_to (L := [some (.inr (.inr (some 226))), some (.inl x1), some (.inl (zw (-x2)))]) (S := []) ⟨rfl, ⟨rfl, ⟨zval_w (-x2), trivial⟩⟩⟩ rfl (z_M_says_ok N (by omega) (by omega) x1 hx1 (zw (-x2)) (zw_rg (-x2)) A)) (fun A2 _ => ?_)
    refine js_aload (pc1 := 84) rfl rfl rfl ?_
    refine js_iload (pc1 := 85) rfl rfl rfl ?_
    refine js_iload (pc1 := 86) rfl rfl rfl ?_
    refine js_cV (pc1 := 89) (as := [(.inr (.inr (some 226))), (.inl x1), (.inl x3)]) (S0 := []) (m := 3) (L0 := [some (.inr (.inr (some 226))), some (.inl x1), some (.inl x3)]) rfl rfl rfl rfl rfl rfl rfl rfl (zrc_o rfl rfl) (by omega) (by omega) (z_M_says_ok N (by omega) (by omega) x1 hx1 x3 hx3 A2) (fun A3 _ => ?_)
    refine js_aload (pc1 := 90) rfl rfl rfl ?_
    refine js_gfr (pc1 := 93) (j := 82) (r := 284) rfl rfl rfl rfl rfl ?_
    refine js_aload (pc1 := 94) rfl rfl rfl ?_
    refine js_gi (pc1 := 97) (j := 81) rfl rfl rfl rfl ?_
    refine js_iload (pc1 := 99) rfl rfl rfl ?_
    refine jt_ias (pc1 := 100) rfl rfl rfl rfl (fun A4 => ?_)
    refine js_aload (pc1 := 101) rfl rfl rfl ?_
    refine js_dupR (pc1 := 102) rfl rfl ?_
    refine js_gi (pc1 := 105) (j := 81) rfl rfl rfl rfl ?_
    refine js_iconst (pc1 := 106) rfl rfl ?_
    refine js_iadd (pc1 := 107) rfl rfl ?_
    refine jt_pi (pc1 := 110) (j := 81) rfl rfl rfl rfl rfl (fun A5 => ?_)
    exact je_V rfl
  · exact je_V rfl
theorem z_M_saysOnce_31_bok{d w : Nat} {r31 : Int → Int → Int → Int → Int → Int → zA → Option zA} (hr31 : ∀ (x1 : Int) (hx1 : zrg x1) (x2 : Int) (hx2 : zrg x2) (x3 : Int) (hx3 : zrg x3) (x4 : Int) (hx4 : zrg x4) (x5 : Int) (hx5 : zrg x5) (x6 : Int) (hx6 : zrg x6) (A : zA), zG (r31 x1 x2 x3 x4 x5 x6 A) zPV d w 295 31 [some (.inr (.inr (some 226))), some (.inl x1), some (.inl x2), some (.inl x3), some (.inl x4), some (.inl x5), some (.inl x6)] [] A) (N : Nat) (hd : 1 ≤ d) (hw : 22 ≤ w) (x1 : Int) (hx1 : zrg x1) (x2 : Int) (hx2 : zrg x2) (x3 : Int) (hx3 : zrg x3) (x4 : Int) (hx4 : zrg x4) (x5 : Int) (hx5 : zrg x5) (x6 : Int) (hx6 : zrg x6) (A : zA) : zG (z_M_saysOnce_31_b r31 N x1 x2 x3 x4 x5 x6 A) zPV d w 295 31 [some (.inr (.inr (some 226))), some (.inl x1), some (.inl x2), some (.inl x3), some (.inl x4), some (.inl x5), some (.inl x6)] [] A := by
  unfold z_M_saysOnce_31_b
  refine js_iload (pc1 := 33) rfl rfl rfl ?_
  refine js_aload (pc1 := 34) rfl rfl rfl ?_
  refine js_gi (pc1 := 37) (j := 81) rfl rfl rfl rfl ?_
  refine jt_ge (pc1 := 40) (t1 := 70) hx6 (zi_rg _ _ _) rfl rfl rfl (fun c1 => ?_) (fun c1 => ?_)
  · refine js_iload (pc1 := 42) rfl rfl rfl ?_
    refine ju_ne (pc1 := 45) (t1 := 57) hx5 rfl rfl rfl (fun c2 => ?_) (fun c2 => ?_)
    · refine js_aload (pc1 := 46) rfl rfl rfl ?_
      refine js_gfr (pc1 := 49) (j := 82) (r := 284) rfl rfl rfl rfl rfl ?_
      refine js_iload (pc1 := 51) rfl rfl rfl ?_
      refine jt_ald (pc1 := 52) rfl rfl rfl rfl rfl (fun v3 hv3 => ?_)
      refine js_iload (pc1 := 54) rfl rfl rfl ?_
      refine jt_ne (pc1 := 57) (t1 := 61) hv3 hx4 rfl rfl rfl (fun c4 => ?_) (fun c4 => ?_)
      · refine js_iconst (pc1 := 58) rfl rfl ?_
        refine js_goto (t1 := 62) rfl rfl ?_
        refine js_istore (pc1 := 64) (L1 := [some (.inr (.inr (some 226))), some (.inl x1), some (.inl x2), some (.inl x3), some (.inl x4), some (.inl 1), some (.inl x6)]) rfl rfl rfl rfl ?_
        refine js_iinc (pc1 := 67) (L1 := [some (.inr (.inr (some 226))), some (.inl x1), some (.inl x2), some (.inl x3), some (.inl x4), some (.inl 1), some (.inl (x6 + 1))]) rfl rfl rfl rfl ?_
        refine js_goto (t1 := 31) rfl rfl ?_
        exact zG_to (L := [some (.inr (.inr (some 226))), some (.inl x1), some (.inl x2), some (.inl x3), some (.inl x4), some (.inl 1), some (.inl (zw (x6 + 1)))]) (S := []) ⟨rfl, ⟨rfl, ⟨rfl, ⟨rfl, ⟨rfl, ⟨rfl, ⟨zval_w (x6 + 1), trivial⟩⟩⟩⟩⟩⟩⟩ (rfl) (hr31 x1 hx1 x2 hx2 x3 hx3 x4 hx4 1 (zlit rfl) (zw (x6 + 1)) (zw_rg (x6 + 1)) A)
      · refine js_iconst (pc1 := 62) rfl rfl ?_
        refine js_istore (pc1 := 64) (L1 := [some (.inr (.inr (some 226))), some (.inl x1), some (.inl x2), some (.inl x3), some (.inl x4), some (.inl 0), some (.inl x6)]) rfl rfl rfl rfl ?_
        refine js_iinc (pc1 := 67) (L1 := [some (.inr (.inr (some 226))), some (.inl x1), some (.inl x2), some (.inl x3), some (.inl x4), some (.inl 0), some (.inl (x6 + 1))]) rfl rfl rfl rfl ?_
        refine js_goto (t1 := 31) rfl rfl ?_
        exact zG_to (L := [some (.inr (.inr (some 226))), some (.inl x1), some (.inl x2), some (.inl x3), some (.inl x4), some (.inl 0), some (.inl (zw (x6 + 1)))]) (S := []) ⟨rfl, ⟨rfl, ⟨rfl, ⟨rfl, ⟨rfl, ⟨rfl, ⟨zval_w (x6 + 1), trivial⟩⟩⟩⟩⟩⟩⟩ (rfl) (hr31 x1 hx1 x2 hx2 x3 hx3 x4 hx4 0 (zlit rfl) (zw (x6 + 1)) (zw_rg (x6 + 1)) A)
    · refine js_iconst (pc1 := 58) rfl rfl ?_
      refine js_goto (t1 := 62) rfl rfl ?_
      refine js_istore (pc1 := 64) (L1 := [some (.inr (.inr (some 226))), some (.inl x1), some (.inl x2), some (.inl x3), some (.inl x4), some (.inl 1), some (.inl x6)]) rfl rfl rfl rfl ?_
      refine js_iinc (pc1 := 67) (L1 := [some (.inr (.inr (some 226))), some (.inl x1), some (.inl x2), some (.inl x3), some (.inl x4), some (.inl 1), some (.inl (x6 + 1))]) rfl rfl rfl rfl ?_
      refine js_goto (t1 := 31) rfl rfl ?_
      exact zG_to (L := [some (.inr (.inr (some 226))), some (.inl x1), some (.inl x2), some (.inl x3), some (.inl x4), some (.inl 1), some (.inl (zw (x6 + 1)))]) (S := []) ⟨rfl, ⟨rfl, ⟨rfl, ⟨rfl, ⟨rfl, ⟨rfl, ⟨zval_w (x6 + 1), trivial⟩⟩⟩⟩⟩⟩⟩ (rfl) (hr31 x1 hx1 x2 hx2 x3 hx3 x4 hx4 1 (zlit rfl) (zw (x6 + 1)) (zw_rg (x6 + 1)) A)
  · exact zG_to (L := [some (.inr (.inr (some 226))), some (.inl x1), some (.inl x2), some (.inl x3), some (.inl x4), some (.inl x5), none]) (S := []) ⟨rfl, ⟨rfl, ⟨rfl, ⟨rfl, ⟨rfl, ⟨rfl, trivial⟩⟩⟩⟩⟩⟩ (rfl) (z_M_saysOnce_70_ok N hd hw x1 hx1 x2 hx2 x3 hx3 x4 hx4 x5 hx5 A)
theorem z_M_saysOnce_31_lok{d w : Nat} (N : Nat) (hd : 1 ≤ d) (hw : 22 ≤ w) (n : Nat) : ∀ (x1 : Int) (hx1 : zrg x1) (x2 : Int) (hx2 : zrg x2) (x3 : Int) (hx3 : zrg x3) (x4 : Int) (hx4 : zrg x4) (x5 : Int) (hx5 : zrg x5) (x6 : Int) (hx6 : zrg x6) (A : zA), zG (z_M_saysOnce_31_l N n x1 x2 x3 x4 x5 x6 A) zPV d w 295 31 [some (.inr (.inr (some 226))), some (.inl x1), some (.inl x2), some (.inl x3), some (.inl x4), some (.inl x5), some (.inl x6)] [] A := by
  induction n with
  | zero => intros; exact zG_none
  | succ n ih =>
    intro x1 hx1 x2 hx2 x3 hx3 x4 hx4 x5 hx5 x6 hx6 A
    exact z_M_saysOnce_31_bok ih N hd hw x1 hx1 x2 hx2 x3 hx3 x4 hx4 x5 hx5 x6 hx6 A
theorem z_M_saysOnce_31_ok{d w : Nat} (N : Nat) (hd : 1 ≤ d) (hw : 22 ≤ w) (x1 : Int) (hx1 : zrg x1) (x2 : Int) (hx2 : zrg x2) (x3 : Int) (hx3 : zrg x3) (x4 : Int) (hx4 : zrg x4) (x5 : Int) (hx5 : zrg x5) (x6 : Int) (hx6 : zrg x6) (A : zA) : zG (z_M_saysOnce_31 N x1 x2 x3 x4 x5 x6 A) zPV d w 295 31 [some (.inr (.inr (some 226))), some (.inl x1), some (.inl x2), some (.inl x3), some (.inl x4), some (.inl x5), some (.inl x6)] [] A := z_M_saysOnce_31_lok N hd hw N x1 hx1 x2 hx2 x3 hx3 x4 hx4 x5 hx5 x6 hx6 A
theorem z_M_saysOnce_12_ok{d w : Nat} (N : Nat) (hd : 1 ≤ d) (hw : 22 ≤ w) (x1 : Int) (hx1 : zrg x1) (x2 : Int) (hx2 : zrg x2) (x3 : Int) (hx3 : zrg x3) (s0 : Int) (hs0 : zrg s0) (A : zA) : zG (z_M_saysOnce_12 N x1 x2 x3 s0 A) zPV d w 295 12 [some (.inr (.inr (some 226))), some (.inl x1), some (.inl x2), some (.inl x3), none, none, none] [(.inl s0)] A := by
  unfold z_M_saysOnce_12
  refine js_istore (pc1 := 14) (L1 := [some (.inr (.inr (some 226))), some (.inl x1), some (.inl x2), some (.inl x3), some (.inl s0), none, none]) rfl rfl rfl rfl ?_
  refine js_aload (pc1 := 15) rfl rfl rfl ?_
  refine js_gi (pc1 := 18) (j := 80) rfl rfl rfl rfl ?_
  refine ju_le (pc1 := 21) (t1 := 25) (zi_rg _ _ _) rfl rfl rfl (fun c1 => ?_) (fun c1 => ?_)
  · refine js_iconst (pc1 := 22) rfl rfl ?_
    refine js_goto (t1 := 26) rfl rfl ?_
    refine js_istore (pc1 := 28) (L1 := [some (.inr (.inr (some 226))), some (.inl x1), some (.inl x2), some (.inl x3), some (.inl s0), some (.inl 1), none]) rfl rfl rfl rfl ?_
    refine js_iconst (pc1 := 29) rfl rfl ?_
    refine js_istore (pc1 := 31) (L1 := [some (.inr (.inr (some 226))), some (.inl x1), some (.inl x2), some (.inl x3), some (.inl s0), some (.inl 1), some (.inl 0)]) rfl rfl rfl rfl ?_
    exact z_M_saysOnce_31_ok N hd hw x1 hx1 x2 hx2 x3 hx3 s0 hs0 1 (zlit rfl) 0 (zlit rfl) A
  · refine js_iconst (pc1 := 26) rfl rfl ?_
    refine js_istore (pc1 := 28) (L1 := [some (.inr (.inr (some 226))), some (.inl x1), some (.inl x2), some (.inl x3), some (.inl s0), some (.inl 0), none]) rfl rfl rfl rfl ?_
    refine js_iconst (pc1 := 29) rfl rfl ?_
    refine js_istore (pc1 := 31) (L1 := [some (.inr (.inr (some 226))), some (.inl x1), some (.inl x2), some (.inl x3), some (.inl s0), some (.inl 0), some (.inl 0)]) rfl rfl rfl rfl ?_
    exact z_M_saysOnce_31_ok N hd hw x1 hx1 x2 hx2 x3 hx3 s0 hs0 0 (zlit rfl) 0 (zlit rfl) A
theorem z_M_saysOnce_ok{d w : Nat} (N : Nat) (hd : 1 ≤ d) (hw : 22 ≤ w) (x1 : Int) (hx1 : zrg x1) (x2 : Int) (hx2 : zrg x2) (x3 : Int) (hx3 : zrg x3) (A : zA) : zG (z_M_saysOnce N x1 x2 x3 A) zPV d w 295 0 [some (.inr (.inr (some 226))), some (.inl x1), some (.inl x2), some (.inl x3), none, none, none] [] A := by
  unfold z_M_saysOnce
  refine js_iload (pc1 := 1) rfl rfl rfl ?_
  refine js_iconst (pc1 := 2) rfl rfl ?_
  refine jt_ne (pc1 := 5) (t1 := 9) hx2 (zlit rfl) rfl rfl rfl (fun c1 => ?_) (fun c1 => ?_)
  · refine js_iload (pc1 := 6) rfl rfl rfl ?_
    refine js_goto (t1 := 12) rfl rfl ?_
    exact z_M_saysOnce_12_ok N hd hw x1 hx1 x2 hx2 x3 hx3 x3 hx3 A
  · refine js_iconst (pc1 := 10) rfl rfl ?_
    refine js_iload (pc1 := 11) rfl rfl rfl ?_
    refine js_isub (pc1 := 12) rfl rfl ?_
    exact zG_to (L := [some (.inr (.inr (some 226))), some (.inl x1), some (.inl x2), some (.inl x3), none, none, none]) (S := [(.inl (zw ((-1) - x3)))]) ⟨rfl, ⟨rfl, ⟨rfl, ⟨rfl, trivial⟩⟩⟩⟩ (by simp only [zS, List.map_cons, List.map_nil, zval_w]) (z_M_saysOnce_12_ok N hd hw x1 hx1 x2 hx2 x3 hx3 (zw ((-1) - x3)) (zw_rg ((-1) - x3)) A)
theorem z_M_workOf_80_ok{d w : Nat} (N : Nat) (hd : 2 ≤ d) (hw : 48 ≤ w) (x2 : Int) (hx2 : zrg x2) (x3 : Int) (hx3 : zrg x3) (x4 : Int) (hx4 : zrg x4) (A : zA) : zG (z_M_workOf_80 N x2 x3 x4 A) zPI d w 258 80 [some (.inr (.inr (some 226))), none, some (.inl x2), some (.inl x3), some (.inl x4), none] [] A := by
  unfold z_M_workOf_80
  refine js_aload (pc1 := 81) rfl rfl rfl ?_
  refine js_iconst (pc1 := 82) rfl rfl ?_
  refine js_iload (pc1 := 83) rfl rfl rfl ?_
  refine js_aload (pc1 := 84) rfl rfl rfl ?_
  refine js_gfr (pc1 := 87) (j := 44) (r := 253) rfl rfl rfl rfl rfl ?_
  refine js_iload (pc1 := 88) rfl rfl rfl ?_
  refine jt_ald (pc1 := 89) rfl rfl rfl rfl rfl (fun v1 hv1 => ?_)
  refine js_aload (pc1 := 90) rfl rfl rfl ?_
  refine js_gfr (pc1 := 93) (j := 44) (r := 253) rfl rfl rfl rfl rfl ?_
  refine js_iload (pc1 := 95) rfl rfl rfl ?_
  refine jt_ald (pc1 := 96) rfl rfl rfl rfl rfl (fun v2 hv2 => ?_)
  refine js_cP (pc1 := 99) (as := [(.inl x2), (.inl v1), (.inl v2)]) (S0 := [(.inl 0), (.inr (.inr (some 226)))]) (m := 3) (L0 := [some (.inl x2), some (.inl v1), some (.inl v2)]) rfl rfl rfl rfl rfl rfl rfl rfl (zrc_s rfl) (by omega) (by omega) (z_M_worked_ok N (by omega) (by omega) x2 hx2 v1 hv1 v2 hv2 A) (fun v3 _ hv3 => ?_)
  refine js_iconst (pc1 := 100) rfl rfl ?_
  refine js_iconst (pc1 := 101) rfl rfl ?_
  refine js_cI (pc1 := 104) (as := [(.inr (.inr (some 226))), (.inl 0), (.inl v3), (.inl 0), (.inl 0)]) (S0 := []) (m := 7) (L0 := [some (.inr (.inr (some 226))), some (.inl 0), some (.inl v3), some (.inl 0), some (.inl 0), none, none]) rfl rfl rfl rfl rfl rfl rfl rfl (zrc_o rfl rfl) (by omega) (by omega) (z_M_thing_ok N (by omega) (by omega) 0 (zlit rfl) v3 hv3 0 (zlit rfl) 0 (zlit rfl) A) (fun v4 A5 _ hv4 => ?_)
  exact je_I rfl (zfit0 _ rfl) rfl hv4
theorem z_M_workOf_105_ok{d w : Nat} (N : Nat) (hd : 2 ≤ d) (hw : 48 ≤ w) (x2 : Int) (hx2 : zrg x2) (x3 : Int) (hx3 : zrg x3) (x4 : Int) (hx4 : zrg x4) (A : zA) : zG (z_M_workOf_105 N x2 x3 x4 A) zPI d w 258 105 [some (.inr (.inr (some 226))), none, some (.inl x2), some (.inl x3), some (.inl x4), none] [] A := by
  unfold z_M_workOf_105
  refine js_aload (pc1 := 106) rfl rfl rfl ?_
  refine js_iconst (pc1 := 107) rfl rfl ?_
  refine js_iload (pc1 := 108) rfl rfl rfl ?_
  refine js_iload (pc1 := 109) rfl rfl rfl ?_
  refine js_iload (pc1 := 111) rfl rfl rfl ?_
  refine js_cI (pc1 := 114) (as := [(.inr (.inr (some 226))), (.inl 1), (.inl x2), (.inl x3), (.inl x4)]) (S0 := []) (m := 7) (L0 := [some (.inr (.inr (some 226))), some (.inl 1), some (.inl x2), some (.inl x3), some (.inl x4), none, none]) rfl rfl rfl rfl rfl rfl rfl rfl (zrc_o rfl rfl) (by omega) (by omega) (z_M_thing_ok N (by omega) (by omega) 1 (zlit rfl) x2 hx2 x3 hx3 x4 hx4 A) (fun v1 A2 _ hv1 => ?_)
  exact je_I rfl (zfit0 _ rfl) rfl hv1
theorem z_M_workOf_53_ok{d w : Nat} (N : Nat) (hd : 2 ≤ d) (hw : 48 ≤ w) (x2 : Int) (hx2 : zrg x2) (x3 : Int) (hx3 : zrg x3) (x4 : Int) (hx4 : zrg x4) (x5 : Int) (hx5 : zrg x5) (A : zA) : zG (z_M_workOf_53 N x2 x3 x4 x5 A) zPI d w 258 53 [some (.inr (.inr (some 226))), none, some (.inl x2), some (.inl x3), some (.inl x4), some (.inl x5)] [] A := by
  unfold z_M_workOf_53
  refine js_aload (pc1 := 54) rfl rfl rfl ?_
  refine js_iload (pc1 := 55) rfl rfl rfl ?_
  refine js_cP (pc1 := 58) (as := [(.inr (.inr (some 226))), (.inl x3)]) (S0 := []) (m := 2) (L0 := [some (.inr (.inr (some 226))), some (.inl x3)]) rfl rfl rfl rfl rfl rfl rfl rfl (zrc_o rfl rfl) (by omega) (by omega) (z_M_isNumber_ok N (by omega) (by omega) x3 hx3 A) (fun v1 _ hv1 => ?_)
  refine ju_eq (pc1 := 61) (t1 := 105) hv1 rfl rfl rfl (fun c2 => ?_) (fun c2 => ?_)
  · exact zG_to (L := [some (.inr (.inr (some 226))), none, some (.inl x2), some (.inl x3), some (.inl x4), none]) (S := []) ⟨rfl, ⟨rfl, ⟨rfl, ⟨rfl, trivial⟩⟩⟩⟩ (rfl) (z_M_workOf_105_ok N hd hw x2 hx2 x3 hx3 x4 hx4 A)
  · refine js_aload (pc1 := 62) rfl rfl rfl ?_
    refine js_iload (pc1 := 64) rfl rfl rfl ?_
    refine js_cP (pc1 := 67) (as := [(.inr (.inr (some 226))), (.inl x4)]) (S0 := []) (m := 2) (L0 := [some (.inr (.inr (some 226))), some (.inl x4)]) rfl rfl rfl rfl rfl rfl rfl rfl (zrc_o rfl rfl) (by omega) (by omega) (z_M_isNumber_ok N (by omega) (by omega) x4 hx4 A) (fun v3 _ hv3 => ?_)
    refine ju_eq (pc1 := 70) (t1 := 105) hv3 rfl rfl rfl (fun c4 => ?_) (fun c4 => ?_)
    · exact zG_to (L := [some (.inr (.inr (some 226))), none, some (.inl x2), some (.inl x3), some (.inl x4), none]) (S := []) ⟨rfl, ⟨rfl, ⟨rfl, ⟨rfl, trivial⟩⟩⟩⟩ (rfl) (z_M_workOf_105_ok N hd hw x2 hx2 x3 hx3 x4 hx4 A)
    · refine js_iload (pc1 := 71) rfl rfl rfl ?_
      refine js_iconst (pc1 := 72) rfl rfl ?_
      refine jt_ne (pc1 := 75) (t1 := 80) hx2 (zlit rfl) rfl rfl rfl (fun c5 => ?_) (fun c5 => ?_)
      · refine js_iload (pc1 := 77) rfl rfl rfl ?_
        refine ju_ne (pc1 := 80) (t1 := 105) hx5 rfl rfl rfl (fun c6 => ?_) (fun c6 => ?_)
        · exact zG_to (L := [some (.inr (.inr (some 226))), none, some (.inl x2), some (.inl x3), some (.inl x4), none]) (S := []) ⟨rfl, ⟨rfl, ⟨rfl, ⟨rfl, trivial⟩⟩⟩⟩ (rfl) (z_M_workOf_80_ok N hd hw x2 hx2 x3 hx3 x4 hx4 A)
        · exact zG_to (L := [some (.inr (.inr (some 226))), none, some (.inl x2), some (.inl x3), some (.inl x4), none]) (S := []) ⟨rfl, ⟨rfl, ⟨rfl, ⟨rfl, trivial⟩⟩⟩⟩ (rfl) (z_M_workOf_105_ok N hd hw x2 hx2 x3 hx3 x4 hx4 A)
      · exact zG_to (L := [some (.inr (.inr (some 226))), none, some (.inl x2), some (.inl x3), some (.inl x4), none]) (S := []) ⟨rfl, ⟨rfl, ⟨rfl, ⟨rfl, trivial⟩⟩⟩⟩ (rfl) (z_M_workOf_80_ok N hd hw x2 hx2 x3 hx3 x4 hx4 A)
theorem z_M_workOf_45_ok{d w : Nat} (N : Nat) (hd : 2 ≤ d) (hw : 48 ≤ w) (x1 : Int) (hx1 : zrg x1) (x2 : Int) (hx2 : zrg x2) (x3 : Int) (hx3 : zrg x3) (x4 : Int) (hx4 : zrg x4) (x5 : Int) (hx5 : zrg x5) (A : zA) : zG (z_M_workOf_45 N x1 x2 x3 x4 x5 A) zPI d w 258 45 [some (.inr (.inr (some 226))), some (.inl x1), some (.inl x2), some (.inl x3), some (.inl x4), some (.inl x5)] [] A := by
  unfold z_M_workOf_45
  refine js_aload (pc1 := 46) rfl rfl rfl ?_
  refine js_iload (pc1 := 47) rfl rfl rfl ?_
  refine js_iconst (pc1 := 48) rfl rfl ?_
  refine js_iload (pc1 := 50) rfl rfl rfl ?_
  refine js_cV (pc1 := 53) (as := [(.inr (.inr (some 226))), (.inl x1), (.inl 3), (.inl x4)]) (S0 := []) (m := 7) (L0 := [some (.inr (.inr (some 226))), some (.inl x1), some (.inl 3), some (.inl x4), none, none, none]) rfl rfl rfl rfl rfl rfl rfl rfl (zrc_o rfl rfl) (by omega) (by omega) (z_M_saysOnce_ok N (by omega) (by omega) x1 hx1 3 (zlit rfl) x4 hx4 A) (fun A1 _ => ?_)
  exact zG_to (L := [some (.inr (.inr (some 226))), none, some (.inl x2), some (.inl x3), some (.inl x4), some (.inl x5)]) (S := []) ⟨rfl, ⟨rfl, ⟨rfl, ⟨rfl, ⟨rfl, trivial⟩⟩⟩⟩⟩ (rfl) (z_M_workOf_53_ok N hd hw x2 hx2 x3 hx3 x4 hx4 x5 hx5 A1)
theorem z_M_workOf_24_ok{d w : Nat} (N : Nat) (hd : 2 ≤ d) (hw : 48 ≤ w) (x1 : Int) (hx1 : zrg x1) (x2 : Int) (hx2 : zrg x2) (x3 : Int) (hx3 : zrg x3) (x4 : Int) (hx4 : zrg x4) (s0 : Int) (hs0 : zrg s0) (A : zA) : zG (z_M_workOf_24 N x1 x2 x3 x4 s0 A) zPI d w 258 24 [some (.inr (.inr (some 226))), some (.inl x1), some (.inl x2), some (.inl x3), some (.inl x4), none] [(.inl s0)] A := by
  unfold z_M_workOf_24
  refine js_istore (pc1 := 26) (L1 := [some (.inr (.inr (some 226))), some (.inl x1), some (.inl x2), some (.inl x3), some (.inl x4), some (.inl s0)]) rfl rfl rfl rfl ?_
  refine js_iload (pc1 := 27) rfl rfl rfl ?_
  refine js_iconst (pc1 := 28) rfl rfl ?_
  refine jt_ne (pc1 := 31) (t1 := 53) hx2 (zlit rfl) rfl rfl rfl (fun c1 => ?_) (fun c1 => ?_)
  · refine js_iload (pc1 := 33) rfl rfl rfl ?_
    refine ju_ne (pc1 := 36) (t1 := 45) hs0 rfl rfl rfl (fun c2 => ?_) (fun c2 => ?_)
    · refine js_aload (pc1 := 37) rfl rfl rfl ?_
      refine js_iload (pc1 := 39) rfl rfl rfl ?_
      refine js_cP (pc1 := 42) (as := [(.inr (.inr (some 226))), (.inl x4)]) (S0 := []) (m := 2) (L0 := [some (.inr (.inr (some 226))), some (.inl x4)]) rfl rfl rfl rfl rfl rfl rfl rfl (zrc_o rfl rfl) (by omega) (by omega) (z_M_isNumber_ok N (by omega) (by omega) x4 hx4 A) (fun v3 _ hv3 => ?_)
      refine ju_ne (pc1 := 45) (t1 := 53) hv3 rfl rfl rfl (fun c4 => ?_) (fun c4 => ?_)
      · exact z_M_workOf_45_ok N hd hw x1 hx1 x2 hx2 x3 hx3 x4 hx4 s0 hs0 A
      · exact zG_to (L := [some (.inr (.inr (some 226))), none, some (.inl x2), some (.inl x3), some (.inl x4), some (.inl s0)]) (S := []) ⟨rfl, ⟨rfl, ⟨rfl, ⟨rfl, ⟨rfl, trivial⟩⟩⟩⟩⟩ (rfl) (z_M_workOf_53_ok N hd hw x2 hx2 x3 hx3 x4 hx4 s0 hs0 A)
    · exact z_M_workOf_45_ok N hd hw x1 hx1 x2 hx2 x3 hx3 x4 hx4 s0 hs0 A
  · exact zG_to (L := [some (.inr (.inr (some 226))), none, some (.inl x2), some (.inl x3), some (.inl x4), some (.inl s0)]) (S := []) ⟨rfl, ⟨rfl, ⟨rfl, ⟨rfl, ⟨rfl, trivial⟩⟩⟩⟩⟩ (rfl) (z_M_workOf_53_ok N hd hw x2 hx2 x3 hx3 x4 hx4 s0 hs0 A)
theorem z_M_workOf_ok{d w : Nat} (N : Nat) (hd : 2 ≤ d) (hw : 48 ≤ w) (x1 : Int) (hx1 : zrg x1) (x2 : Int) (hx2 : zrg x2) (x3 : Int) (hx3 : zrg x3) (x4 : Int) (hx4 : zrg x4) (A : zA) : zG (z_M_workOf N x1 x2 x3 x4 A) zPI d w 258 0 [some (.inr (.inr (some 226))), some (.inl x1), some (.inl x2), some (.inl x3), some (.inl x4), none] [] A := by
  unfold z_M_workOf
  refine js_aload (pc1 := 1) rfl rfl rfl ?_
  refine js_iload (pc1 := 3) rfl rfl rfl ?_
  refine js_cP (pc1 := 6) (as := [(.inr (.inr (some 226))), (.inl x4)]) (S0 := []) (m := 2) (L0 := [some (.inr (.inr (some 226))), some (.inl x4)]) rfl rfl rfl rfl rfl rfl rfl rfl (zrc_o rfl rfl) (by omega) (by omega) (z_M_isNumber_ok N (by omega) (by omega) x4 hx4 A) (fun v1 _ hv1 => ?_)
  refine ju_eq (pc1 := 9) (t1 := 23) hv1 rfl rfl rfl (fun c2 => ?_) (fun c2 => ?_)
  · refine js_iconst (pc1 := 24) rfl rfl ?_
    exact z_M_workOf_24_ok N hd hw x1 hx1 x2 hx2 x3 hx3 x4 hx4 0 (zlit rfl) A
  · refine js_aload (pc1 := 10) rfl rfl rfl ?_
    refine js_gfr (pc1 := 13) (j := 44) (r := 253) rfl rfl rfl rfl rfl ?_
    refine js_iload (pc1 := 15) rfl rfl rfl ?_
    refine jt_ald (pc1 := 16) rfl rfl rfl rfl rfl (fun v3 hv3 => ?_)
    refine ju_ne (pc1 := 19) (t1 := 23) hv3 rfl rfl rfl (fun c4 => ?_) (fun c4 => ?_)
    · refine js_iconst (pc1 := 20) rfl rfl ?_
      refine js_goto (t1 := 24) rfl rfl ?_
      exact z_M_workOf_24_ok N hd hw x1 hx1 x2 hx2 x3 hx3 x4 hx4 1 (zlit rfl) A
    · refine js_iconst (pc1 := 24) rfl rfl ?_
      exact z_M_workOf_24_ok N hd hw x1 hx1 x2 hx2 x3 hx3 x4 hx4 0 (zlit rfl) A
