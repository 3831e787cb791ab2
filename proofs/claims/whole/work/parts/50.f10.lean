theorem z_M_simple_ok{d w : Nat} (N : Nat) (hd : 3 ≤ d) (hw : 70 ≤ w) (x1 : Int) (hx1 : zrg x1) (x2 : Int) (hx2 : zrg x2) (A : zA) : zG (z_M_simple N x1 x2 A) zPV d w 88 0 [some (.inr (.inr (some 226))), some (.inl x1), some (.inl x2), none, none, none, none, none, none, none] [] A := by
  unfold z_M_simple
  refine js_aload (pc1 := 1) rfl rfl rfl ?_
  refine js_iconst (pc1 := 2) rfl rfl ?_
  refine js_iload (pc1 := 3) rfl rfl rfl ?_
  refine js_iload (pc1 := 4) rfl rfl rfl ?_
  refine js_iconst (pc1 := 5) rfl rfl ?_
  refine js_cP (pc1 := 8) (as := [(.inr (.inr (some 226))), (.inl 0), (.inl x1), (.inl x2), (.inl 0)]) (S0 := []) (m := 5) (L0 := [some (.inr (.inr (some 226))), some (.inl 0), some (.inl x1), some (.inl x2), some (.inl 0)]) rfl rfl rfl rfl rfl rfl rfl rfl (zrc_o rfl rfl) (by omega) (by omega) (z_M_field_ok N (by omega) (by omega) 0 (zlit rfl) x1 hx1 x2 hx2 0 (zlit rfl) A) (fun v1 _ hv1 => ?_)
  refine js_istore (pc1 := 9) (L1 := [some (.inr (.inr (some 226))), some (.inl x1), some (.inl x2), some (.inl v1), none, none, none, none, none, none]) rfl rfl rfl rfl ?_
  refine js_aload (pc1 := 10) rfl rfl rfl ?_
  refine js_iconst (pc1 := 11) rfl rfl ?_
  refine js_iload (pc1 := 12) rfl rfl rfl ?_
  refine js_iload (pc1 := 13) rfl rfl rfl ?_
  refine js_iconst (pc1 := 14) rfl rfl ?_
  refine js_cP (pc1 := 17) (as := [(.inr (.inr (some 226))), (.inl 0), (.inl x1), (.inl x2), (.inl 1)]) (S0 := []) (m := 5) (L0 := [some (.inr (.inr (some 226))), some (.inl 0), some (.inl x1), some (.inl x2), some (.inl 1)]) rfl rfl rfl rfl rfl rfl rfl rfl (zrc_o rfl rfl) (by omega) (by omega) (z_M_field_ok N (by omega) (by omega) 0 (zlit rfl) x1 hx1 x2 hx2 1 (zlit rfl) A) (fun v2 _ hv2 => ?_)
  refine js_istore (pc1 := 19) (L1 := [some (.inr (.inr (some 226))), some (.inl x1), some (.inl x2), some (.inl v1), some (.inl v2), none, none, none, none, none]) rfl rfl rfl rfl ?_
  refine js_aload (pc1 := 20) rfl rfl rfl ?_
  refine js_iconst (pc1 := 21) rfl rfl ?_
  refine js_iload (pc1 := 22) rfl rfl rfl ?_
  refine js_iload (pc1 := 23) rfl rfl rfl ?_
  refine js_iconst (pc1 := 24) rfl rfl ?_
  refine js_cP (pc1 := 27) (as := [(.inr (.inr (some 226))), (.inl 0), (.inl x1), (.inl x2), (.inl 2)]) (S0 := []) (m := 5) (L0 := [some (.inr (.inr (some 226))), some (.inl 0), some (.inl x1), some (.inl x2), some (.inl 2)]) rfl rfl rfl rfl rfl rfl rfl rfl (zrc_o rfl rfl) (by omega) (by omega) (z_M_field_ok N (by omega) (by omega) 0 (zlit rfl) x1 hx1 x2 hx2 2 (zlit rfl) A) (fun v3 _ hv3 => ?_)
  refine js_istore (pc1 := 29) (L1 := [some (.inr (.inr (some 226))), some (.inl x1), some (.inl x2), some (.inl v1), some (.inl v2), some (.inl v3), none, none, none, none]) rfl rfl rfl rfl ?_
  refine js_aload (pc1 := 30) rfl rfl rfl ?_
  refine js_iconst (pc1 := 31) rfl rfl ?_
  refine js_iload (pc1 := 32) rfl rfl rfl ?_
  refine js_iload (pc1 := 33) rfl rfl rfl ?_
  refine js_iconst (pc1 := 34) rfl rfl ?_
  refine js_cP (pc1 := 37) (as := [(.inr (.inr (some 226))), (.inl 0), (.inl x1), (.inl x2), (.inl 3)]) (S0 := []) (m := 5) (L0 := [some (.inr (.inr (some 226))), some (.inl 0), some (.inl x1), some (.inl x2), some (.inl 3)]) rfl rfl rfl rfl rfl rfl rfl rfl (zrc_o rfl rfl) (by omega) (by omega) (z_M_field_ok N (by omega) (by omega) 0 (zlit rfl) x1 hx1 x2 hx2 3 (zlit rfl) A) (fun v4 _ hv4 => ?_)
  refine js_istore (pc1 := 39) (L1 := [some (.inr (.inr (some 226))), some (.inl x1), some (.inl x2), some (.inl v1), some (.inl v2), some (.inl v3), some (.inl v4), none, none, none]) rfl rfl rfl rfl ?_
  refine js_iload (pc1 := 40) rfl rfl rfl ?_
  refine js_iconst (pc1 := 41) rfl rfl ?_
  refine jt_ne (pc1 := 44) (t1 := 59) hv1 (zlit rfl) rfl rfl rfl (fun c5 => ?_) (fun c5 => ?_)
  · refine js_aload (pc1 := 45) rfl rfl rfl ?_
    refine js_gfr (pc1 := 48) (j := 26) (r := 239) rfl rfl rfl rfl rfl ?_
    refine js_iload (pc1 := 50) rfl rfl rfl ?_
    refine jt_ald (pc1 := 51) rfl rfl rfl rfl rfl (fun v6 hv6 => ?_)
    refine js_iconst (pc1 := 52) rfl rfl ?_
    refine jt_ne (pc1 := 55) (t1 := 59) hv6 (zlit rfl) rfl rfl rfl (fun c7 => ?_) (fun c7 => ?_)
    · refine js_iconst (pc1 := 56) rfl rfl ?_
      refine js_goto (t1 := 60) rfl rfl ?_
      exact z_M_simple_60_ok N hd hw x1 hx1 x2 hx2 v1 hv1 v2 hv2 v3 hv3 v4 hv4 1 (zlit rfl) A
    · refine js_iconst (pc1 := 60) rfl rfl ?_
      exact z_M_simple_60_ok N hd hw x1 hx1 x2 hx2 v1 hv1 v2 hv2 v3 hv3 v4 hv4 0 (zlit rfl) A
  · refine js_iconst (pc1 := 60) rfl rfl ?_
    exact z_M_simple_60_ok N hd hw x1 hx1 x2 hx2 v1 hv1 v2 hv2 v3 hv3 v4 hv4 0 (zlit rfl) A
theorem z_M_saveKnown_241_242_3_bok{d w : Nat} {r3 : Int → Int → zA → Option zA} (hr3 : ∀ (x3 : Int) (hx3 : zrg x3) (x4 : Int) (hx4 : zrg x4) (A : zA), zG (r3 x3 x4 A) zPV d w 90 3 [some (.inr (.inr (some 226))), some (.inr (.inr (some 241))), some (.inr (.inr (some 242))), some (.inl x3), some (.inl x4)] [] A) (N : Nat) (hd : 0 ≤ d) (hw : 0 ≤ w) (x3 : Int) (hx3 : zrg x3) (x4 : Int) (hx4 : zrg x4) (A : zA) : zG (z_M_saveKnown_241_242_3_b r3 N x3 x4 A) zPV d w 90 3 [some (.inr (.inr (some 226))), some (.inr (.inr (some 241))), some (.inr (.inr (some 242))), some (.inl x3), some (.inl x4)] [] A := by
  unfold z_M_saveKnown_241_242_3_b
  refine js_iload (pc1 := 5) rfl rfl rfl ?_
  refine js_iconst (pc1 := 7) rfl rfl ?_
  refine jt_ge (pc1 := 10) (t1 := 48) hx4 (zlit rfl) rfl rfl rfl (fun c1 => ?_) (fun c1 => ?_)
  · refine js_aload (pc1 := 11) rfl rfl rfl ?_
    refine js_iconst (pc1 := 13) rfl rfl ?_
    refine js_iload (pc1 := 14) rfl rfl rfl ?_
    refine js_imul (pc1 := 15) rfl rfl ?_
    refine js_iload (pc1 := 17) rfl rfl rfl ?_
    refine js_iadd (pc1 := 18) rfl rfl ?_
    refine js_aload (pc1 := 19) rfl rfl rfl ?_
    refine js_gfr (pc1 := 22) (j := 26) (r := 239) rfl rfl rfl rfl rfl ?_
    refine js_iload (pc1 := 24) rfl rfl rfl ?_
    refine jt_ald (pc1 := 25) rfl rfl rfl rfl rfl (fun v2 hv2 => ?_)
    refine jt_ias (pc1 := 26) rfl rfl rfl rfl (fun A3 => ?_)
    refine js_aload (pc1 := 27) rfl rfl rfl ?_
    refine js_iconst (pc1 := 29) rfl rfl ?_
    refine js_iload (pc1 := 30) rfl rfl rfl ?_
    refine js_imul (pc1 := 31) rfl rfl ?_
    refine js_iload (pc1 := 33) rfl rfl rfl ?_
    refine js_iadd (pc1 := 34) rfl rfl ?_
    refine js_aload (pc1 := 35) rfl rfl rfl ?_
    refine js_gfr (pc1 := 38) (j := 27) (r := 240) rfl rfl rfl rfl rfl ?_
    refine js_iload (pc1 := 40) rfl rfl rfl ?_
    refine jt_ald (pc1 := 41) rfl rfl rfl rfl rfl (fun v4 hv4 => ?_)
    refine jt_ias (pc1 := 42) rfl rfl rfl rfl (fun A5 => ?_)
    refine js_iinc (pc1 := 45) (L1 := [some (.inr (.inr (some 226))), some (.inr (.inr (some 241))), some (.inr (.inr (some 242))), some (.inl x3), some (.inl (x4 + 1))]) rfl rfl rfl rfl ?_
    refine js_goto (t1 := 3) rfl rfl ?_
    exact zG_to (L := [some (.inr (.inr (some 226))), some (.inr (.inr (some 241))), some (.inr (.inr (some 242))), some (.inl x3), some (.inl (zw (x4 + 1)))]) (S := []) ⟨rfl, ⟨rfl, ⟨rfl, ⟨rfl, ⟨zval_w (x4 + 1), trivial⟩⟩⟩⟩⟩ (rfl) (hr3 x3 hx3 (zw (x4 + 1)) (zw_rg (x4 + 1)) A5)
  · exact je_V rfl
theorem z_M_saveKnown_241_242_3_lok{d w : Nat} (N : Nat) (hd : 0 ≤ d) (hw : 0 ≤ w) (n : Nat) : ∀ (x3 : Int) (hx3 : zrg x3) (x4 : Int) (hx4 : zrg x4) (A : zA), zG (z_M_saveKnown_241_242_3_l N n x3 x4 A) zPV d w 90 3 [some (.inr (.inr (some 226))), some (.inr (.inr (some 241))), some (.inr (.inr (some 242))), some (.inl x3), some (.inl x4)] [] A := by
  induction n with
  | zero => intros; exact zG_none
  | succ n ih =>
    intro x3 hx3 x4 hx4 A
    exact z_M_saveKnown_241_242_3_bok ih N hd hw x3 hx3 x4 hx4 A
theorem z_M_saveKnown_241_242_3_ok{d w : Nat} (N : Nat) (hd : 0 ≤ d) (hw : 0 ≤ w) (x3 : Int) (hx3 : zrg x3) (x4 : Int) (hx4 : zrg x4) (A : zA) : zG (z_M_saveKnown_241_242_3 N x3 x4 A) zPV d w 90 3 [some (.inr (.inr (some 226))), some (.inr (.inr (some 241))), some (.inr (.inr (some 242))), some (.inl x3), some (.inl x4)] [] A := z_M_saveKnown_241_242_3_lok N hd hw N x3 hx3 x4 hx4 A
theorem z_M_saveKnown_241_242_ok{d w : Nat} (N : Nat) (hd : 0 ≤ d) (hw : 0 ≤ w) (x3 : Int) (hx3 : zrg x3) (A : zA) : zG (z_M_saveKnown_241_242 N x3 A) zPV d w 90 0 [some (.inr (.inr (some 226))), some (.inr (.inr (some 241))), some (.inr (.inr (some 242))), some (.inl x3), none] [] A := by
  unfold z_M_saveKnown_241_242
  refine js_iconst (pc1 := 1) rfl rfl ?_
  refine js_istore (pc1 := 3) (L1 := [some (.inr (.inr (some 226))), some (.inr (.inr (some 241))), some (.inr (.inr (some 242))), some (.inl x3), some (.inl 0)]) rfl rfl rfl rfl ?_
  exact z_M_saveKnown_241_242_3_ok N hd hw x3 hx3 0 (zlit rfl) A
theorem z_M_saveKnown_243_244_3_bok{d w : Nat} {r3 : Int → Int → zA → Option zA} (hr3 : ∀ (x3 : Int) (hx3 : zrg x3) (x4 : Int) (hx4 : zrg x4) (A : zA), zG (r3 x3 x4 A) zPV d w 90 3 [some (.inr (.inr (some 226))), some (.inr (.inr (some 243))), some (.inr (.inr (some 244))), some (.inl x3), some (.inl x4)] [] A) (N : Nat) (hd : 0 ≤ d) (hw : 0 ≤ w) (x3 : Int) (hx3 : zrg x3) (x4 : Int) (hx4 : zrg x4) (A : zA) : zG (z_M_saveKnown_243_244_3_b r3 N x3 x4 A) zPV d w 90 3 [some (.inr (.inr (some 226))), some (.inr (.inr (some 243))), some (.inr (.inr (some 244))), some (.inl x3), some (.inl x4)] [] A := by
  unfold z_M_saveKnown_243_244_3_b
  refine js_iload (pc1 := 5) rfl rfl rfl ?_
  refine js_iconst (pc1 := 7) rfl rfl ?_
  refine jt_ge (pc1 := 10) (t1 := 48) hx4 (zlit rfl) rfl rfl rfl (fun c1 => ?_) (fun c1 => ?_)
  · refine js_aload (pc1 := 11) rfl rfl rfl ?_
    refine js_iconst (pc1 := 13) rfl rfl ?_
    refine js_iload (pc1 := 14) rfl rfl rfl ?_
    refine js_imul (pc1 := 15) rfl rfl ?_
    refine js_iload (pc1 := 17) rfl rfl rfl ?_
    refine js_iadd (pc1 := 18) rfl rfl ?_
    refine js_aload (pc1 := 19) rfl rfl rfl ?_
    refine js_gfr (pc1 := 22) (j := 26) (r := 239) rfl rfl rfl rfl rfl ?_
    refine js_iload (pc1 := 24) rfl rfl rfl ?_
    refine jt_ald (pc1 := 25) rfl rfl rfl rfl rfl (fun v2 hv2 => ?_)
    refine jt_ias (pc1 := 26) rfl rfl rfl rfl (fun A3 => ?_)
    refine js_aload (pc1 := 27) rfl rfl rfl ?_
    refine js_iconst (pc1 := 29) rfl rfl ?_
    refine js_iload (pc1 := 30) rfl rfl rfl ?_
    refine js_imul (pc1 := 31) rfl rfl ?_
    refine js_iload (pc1 := 33) rfl rfl rfl ?_
    refine js_iadd (pc1 := 34) rfl rfl ?_
    refine js_aload (pc1 := 35) rfl rfl rfl ?_
    refine js_gfr (pc1 := 38) (j := 27) (r := 240) rfl rfl rfl rfl rfl ?_
    refine js_iload (pc1 := 40) rfl rfl rfl ?_
    refine jt_ald (pc1 := 41) rfl rfl rfl rfl rfl (fun v4 hv4 => ?_)
    refine jt_ias (pc1 := 42) rfl rfl rfl rfl (fun A5 => ?_)
    refine js_iinc (pc1 := 45) (L1 := [some (.inr (.inr (some 226))), some (.inr (.inr (some 243))), some (.inr (.inr (some 244))), some (.inl x3), some (.inl (x4 + 1))]) rfl rfl rfl rfl ?_
    refine js_goto (t1 := 3) rfl rfl ?_
    exact zG_to (L := [some (.inr (.inr (some 226))), some (.inr (.inr (some 243))), some (.inr (.inr (some 244))), some (.inl x3), some (.inl (zw (x4 + 1)))]) (S := []) ⟨rfl, ⟨rfl, ⟨rfl, ⟨rfl, ⟨zval_w (x4 + 1), trivial⟩⟩⟩⟩⟩ (rfl) (hr3 x3 hx3 (zw (x4 + 1)) (zw_rg (x4 + 1)) A5)
  · exact je_V rfl
theorem z_M_saveKnown_243_244_3_lok{d w : Nat} (N : Nat) (hd : 0 ≤ d) (hw : 0 ≤ w) (n : Nat) : ∀ (x3 : Int) (hx3 : zrg x3) (x4 : Int) (hx4 : zrg x4) (A : zA), zG (z_M_saveKnown_243_244_3_l N n x3 x4 A) zPV d w 90 3 [some (.inr (.inr (some 226))), some (.inr (.inr (some 243))), some (.inr (.inr (some 244))), some (.inl x3), some (.inl x4)] [] A := by
  induction n with
  | zero => intros; exact zG_none
  | succ n ih =>
    intro x3 hx3 x4 hx4 A
    exact z_M_saveKnown_243_244_3_bok ih N hd hw x3 hx3 x4 hx4 A
theorem z_M_saveKnown_243_244_3_ok{d w : Nat} (N : Nat) (hd : 0 ≤ d) (hw : 0 ≤ w) (x3 : Int) (hx3 : zrg x3) (x4 : Int) (hx4 : zrg x4) (A : zA) : zG (z_M_saveKnown_243_244_3 N x3 x4 A) zPV d w 90 3 [some (.inr (.inr (some 226))), some (.inr (.inr (some 243))), some (.inr (.inr (some 244))), some (.inl x3), some (.inl x4)] [] A := z_M_saveKnown_243_244_3_lok N hd hw N x3 hx3 x4 hx4 A
theorem z_M_saveKnown_243_244_ok{d w : Nat} (N : Nat) (hd : 0 ≤ d) (hw : 0 ≤ w) (x3 : Int) (hx3 : zrg x3) (A : zA) : zG (z_M_saveKnown_243_244 N x3 A) zPV d w 90 0 [some (.inr (.inr (some 226))), some (.inr (.inr (some 243))), some (.inr (.inr (some 244))), some (.inl x3), none] [] A := by
  unfold z_M_saveKnown_243_244
  refine js_iconst (pc1 := 1) rfl rfl ?_
  refine js_istore (pc1 := 3) (L1 := [some (.inr (.inr (some 226))), some (.inr (.inr (some 243))), some (.inr (.inr (some 244))), some (.inl x3), some (.inl 0)]) rfl rfl rfl rfl ?_
  exact z_M_saveKnown_243_244_3_ok N hd hw x3 hx3 0 (zlit rfl) A
theorem z_M_loadKnown_241_242_3_bok{d w : Nat} {r3 : Int → Int → zA → Option zA} (hr3 : ∀ (x3 : Int) (hx3 : zrg x3) (x4 : Int) (hx4 : zrg x4) (A : zA), zG (r3 x3 x4 A) zPV d w 91 3 [some (.inr (.inr (some 226))), some (.inr (.inr (some 241))), some (.inr (.inr (some 242))), some (.inl x3), some (.inl x4)] [] A) (N : Nat) (hd : 0 ≤ d) (hw : 0 ≤ w) (x3 : Int) (hx3 : zrg x3) (x4 : Int) (hx4 : zrg x4) (A : zA) : zG (z_M_loadKnown_241_242_3_b r3 N x3 x4 A) zPV d w 91 3 [some (.inr (.inr (some 226))), some (.inr (.inr (some 241))), some (.inr (.inr (some 242))), some (.inl x3), some (.inl x4)] [] A := by
  unfold z_M_loadKnown_241_242_3_b
  refine js_iload (pc1 := 5) rfl rfl rfl ?_
  refine js_iconst (pc1 := 7) rfl rfl ?_
  refine jt_ge (pc1 := 10) (t1 := 48) hx4 (zlit rfl) rfl rfl rfl (fun c1 => ?_) (fun c1 => ?_)
  · refine js_aload (pc1 := 11) rfl rfl rfl ?_
    refine js_gfr (pc1 := 14) (j := 26) (r := 239) rfl rfl rfl rfl rfl ?_
    refine js_iload (pc1 := 16) rfl rfl rfl ?_
    refine js_aload (pc1 := 17) rfl rfl rfl ?_
    refine js_iconst (pc1 := 19) rfl rfl ?_
    refine js_iload (pc1 := 20) rfl rfl rfl ?_
    refine js_imul (pc1 := 21) rfl rfl ?_
    refine js_iload (pc1 := 23) rfl rfl rfl ?_
    refine js_iadd (pc1 := 24) rfl rfl ?_
    refine jt_ald (pc1 := 25) rfl rfl rfl rfl rfl (fun v2 hv2 => ?_)
    refine jt_ias (pc1 := 26) rfl rfl rfl rfl (fun A3 => ?_)
    refine js_aload (pc1 := 27) rfl rfl rfl ?_
    refine js_gfr (pc1 := 30) (j := 27) (r := 240) rfl rfl rfl rfl rfl ?_
    refine js_iload (pc1 := 32) rfl rfl rfl ?_
    refine js_aload (pc1 := 33) rfl rfl rfl ?_
    refine js_iconst (pc1 := 35) rfl rfl ?_
    refine js_iload (pc1 := 36) rfl rfl rfl ?_
    refine js_imul (pc1 := 37) rfl rfl ?_
    refine js_iload (pc1 := 39) rfl rfl rfl ?_
    refine js_iadd (pc1 := 40) rfl rfl ?_
    refine jt_ald (pc1 := 41) rfl rfl rfl rfl rfl (fun v4 hv4 => ?_)
    refine jt_ias (pc1 := 42) rfl rfl rfl rfl (fun A5 => ?_)
    refine js_iinc (pc1 := 45) (L1 := [some (.inr (.inr (some 226))), some (.inr (.inr (some 241))), some (.inr (.inr (some 242))), some (.inl x3), some (.inl (x4 + 1))]) rfl rfl rfl rfl ?_
    refine js_goto (t1 := 3) rfl rfl ?_
    exact zG_to (L := [some (.inr (.inr (some 226))), some (.inr (.inr (some 241))), some (.inr (.inr (some 242))), some (.inl x3), some (.inl (zw (x4 + 1)))]) (S := []) ⟨rfl, ⟨rfl, ⟨rfl, ⟨rfl, ⟨zval_w (x4 + 1), trivial⟩⟩⟩⟩⟩ (rfl) (hr3 x3 hx3 (zw (x4 + 1)) (zw_rg (x4 + 1)) A5)
  · exact je_V rfl
theorem z_M_loadKnown_241_242_3_lok{d w : Nat} (N : Nat) (hd : 0 ≤ d) (hw : 0 ≤ w) (n : Nat) : ∀ (x3 : Int) (hx3 : zrg x3) (x4 : Int) (hx4 : zrg x4) (A : zA), zG (z_M_loadKnown_241_242_3_l N n x3 x4 A) zPV d w 91 3 [some (.inr (.inr (some 226))), some (.inr (.inr (some 241))), some (.inr (.inr (some 242))), some (.inl x3), some (.inl x4)] [] A := by
  induction n with
  | zero => intros; exact zG_none
  | succ n ih =>
    intro x3 hx3 x4 hx4 A
    exact z_M_loadKnown_241_242_3_bok ih N hd hw x3 hx3 x4 hx4 A
theorem z_M_loadKnown_241_242_3_ok{d w : Nat} (N : Nat) (hd : 0 ≤ d) (hw : 0 ≤ w) (x3 : Int) (hx3 : zrg x3) (x4 : Int) (hx4 : zrg x4) (A : zA) : zG (z_M_loadKnown_241_242_3 N x3 x4 A) zPV d w 91 3 [some (.inr (.inr (some 226))), some (.inr (.inr (some 241))), some (.inr (.inr (some 242))), some (.inl x3), some (.inl x4)] [] A := z_M_loadKnown_241_242_3_lok N hd hw N x3 hx3 x4 hx4 A
theorem z_M_loadKnown_241_242_ok{d w : Nat} (N : Nat) (hd : 0 ≤ d) (hw : 0 ≤ w) (x3 : Int) (hx3 : zrg x3) (A : zA) : zG (z_M_loadKnown_241_242 N x3 A) zPV d w 91 0 [some (.inr (.inr (some 226))), some (.inr (.inr (some 241))), some (.inr (.inr (some 242))), some (.inl x3), none] [] A := by
  unfold z_M_loadKnown_241_242
  refine js_iconst (pc1 := 1) rfl rfl ?_
  refine js_istore (pc1 := 3) (L1 := [some (.inr (.inr (some 226))), some (.inr (.inr (some 241))), some (.inr (.inr (some 242))), some (.inl x3), some (.inl 0)]) rfl rfl rfl rfl ?_
  exact z_M_loadKnown_241_242_3_ok N hd hw x3 hx3 0 (zlit rfl) A
theorem z_M_spoils_ok{d w : Nat} (N : Nat) (hd : 3 ≤ d) (hw : 70 ≤ w) (x1 : Int) (hx1 : zrg x1) (x2 : Int) (hx2 : zrg x2) (x3 : Int) (hx3 : zrg x3) (x4 : Int) (hx4 : zrg x4) (A : zA) : zG (z_M_spoils N x1 x2 x3 x4 A) (zPp A) d w 146 0 [some (.inr (.inr (some 226))), some (.inl x1), some (.inl x2), some (.inl x3), some (.inl x4)] [] A := by
  unfold z_M_spoils
  refine js_aload (pc1 := 1) rfl rfl rfl ?_
  refine js_iload (pc1 := 2) rfl rfl rfl ?_
  refine js_iload (pc1 := 3) rfl rfl rfl ?_
  refine js_iload (pc1 := 4) rfl rfl rfl ?_
  refine js_iconst (pc1 := 5) rfl rfl ?_
  refine js_cP (pc1 := 8) (as := [(.inr (.inr (some 226))), (.inl x1), (.inl x2), (.inl x3), (.inl 0)]) (S0 := []) (m := 5) (L0 := [some (.inr (.inr (some 226))), some (.inl x1), some (.inl x2), some (.inl x3), some (.inl 0)]) rfl rfl rfl rfl rfl rfl rfl rfl (zrc_o rfl rfl) (by omega) (by omega) (z_M_field_ok N (by omega) (by omega) x1 hx1 x2 hx2 x3 hx3 0 (zlit rfl) A) (fun v1 _ hv1 => ?_)
  refine js_iconst (pc1 := 10) rfl rfl ?_
  refine jt_ne (pc1 := 13) (t1 := 28) hv1 (zlit rfl) rfl rfl rfl (fun c2 => ?_) (fun c2 => ?_)
  · refine js_iload (pc1 := 15) rfl rfl rfl ?_
    refine js_iconst (pc1 := 17) rfl rfl ?_
    refine jt_ge (pc1 := 20) (t1 := 24) hx4 (zlit rfl) rfl rfl rfl (fun c3 => ?_) (fun c3 => ?_)
    · refine js_iconst (pc1 := 21) rfl rfl ?_
      refine js_goto (t1 := 45) rfl rfl ?_
      exact je_P rfl (zfit3 rfl (Or.inr rfl)) rfl (zlit rfl)
    · refine js_iconst (pc1 := 25) rfl rfl ?_
      refine js_goto (t1 := 45) rfl rfl ?_
      exact je_P rfl (zfit3 rfl (Or.inl rfl)) rfl (zlit rfl)
  · refine js_aload (pc1 := 29) rfl rfl rfl ?_
    refine js_iload (pc1 := 30) rfl rfl rfl ?_
    refine js_iload (pc1 := 31) rfl rfl rfl ?_
    refine js_iload (pc1 := 32) rfl rfl rfl ?_
    refine js_cP (pc1 := 35) (as := [(.inr (.inr (some 226))), (.inl x1), (.inl x2), (.inl x3)]) (S0 := []) (m := 5) (L0 := [some (.inr (.inr (some 226))), some (.inl x1), some (.inl x2), some (.inl x3), none]) rfl rfl rfl rfl rfl rfl rfl rfl (zrc_o rfl rfl) (by omega) (by omega) (z_M_writes_ok N (by omega) (by omega) x1 hx1 x2 hx2 x3 hx3 A) (fun v4 _ hv4 => ?_)
    refine js_iload (pc1 := 37) rfl rfl rfl ?_
    refine jt_ne (pc1 := 40) (t1 := 44) hv4 hx4 rfl rfl rfl (fun c5 => ?_) (fun c5 => ?_)
    · refine js_iconst (pc1 := 41) rfl rfl ?_
      refine js_goto (t1 := 45) rfl rfl ?_
      exact je_P rfl (zfit3 rfl (Or.inr rfl)) rfl (zlit rfl)
    · refine js_iconst (pc1 := 45) rfl rfl ?_
      exact je_P rfl (zfit3 rfl (Or.inl rfl)) rfl (zlit rfl)
theorem z_M_spoiltBetween_6_bok{d w : Nat} {r6 : Int → Int → Int → Int → Int → Int → zA → Option Int} (hr6 : ∀ (x1 : Int) (hx1 : zrg x1) (x2 : Int) (hx2 : zrg x2) (x4 : Int) (hx4 : zrg x4) (x5 : Int) (hx5 : zrg x5) (x6 : Int) (hx6 : zrg x6) (x7 : Int) (hx7 : zrg x7) (A : zA), zG (r6 x1 x2 x4 x5 x6 x7 A) (zPp A) d w 92 6 [some (.inr (.inr (some 226))), some (.inl x1), some (.inl x2), none, some (.inl x4), some (.inl x5), some (.inl x6), some (.inl x7)] [] A) (N : Nat) (hd : 4 ≤ d) (hw : 94 ≤ w) (x1 : Int) (hx1 : zrg x1) (x2 : Int) (hx2 : zrg x2) (x4 : Int) (hx4 : zrg x4) (x5 : Int) (hx5 : zrg x5) (x6 : Int) (hx6 : zrg x6) (x7 : Int) (hx7 : zrg x7) (A : zA) : zG (z_M_spoiltBetween_6_b r6 N x1 x2 x4 x5 x6 x7 A) (zPp A) d w 92 6 [some (.inr (.inr (some 226))), some (.inl x1), some (.inl x2), none, some (.inl x4), some (.inl x5), some (.inl x6), some (.inl x7)] [] A := by
  unfold z_M_spoiltBetween_6_b
  refine js_iload (pc1 := 8) rfl rfl rfl ?_
  refine js_iload (pc1 := 10) rfl rfl rfl ?_
  refine jt_gt (pc1 := 13) (t1 := 36) hx7 hx4 rfl rfl rfl (fun c1 => ?_) (fun c1 => ?_)
  · refine js_iload (pc1 := 38) rfl rfl rfl ?_
    exact zG_ite (fun h => je_P rfl (zfit3 rfl h) rfl hx6) (fun _ => zG_none)
  · refine js_iload (pc1 := 15) rfl rfl rfl ?_
    refine ju_ne (pc1 := 18) (t1 := 36) hx6 rfl rfl rfl (fun c2 => ?_) (fun c2 => ?_)
    · refine js_aload (pc1 := 19) rfl rfl rfl ?_
      refine js_iload (pc1 := 20) rfl rfl rfl ?_
      refine js_iload (pc1 := 21) rfl rfl rfl ?_
      refine js_iload (pc1 := 23) rfl rfl rfl ?_
      refine js_iload (pc1 := 25) rfl rfl rfl ?_
      refine js_cP (pc1 := 28) (as := [(.inr (.inr (some 226))), (.inl x1), (.inl x2), (.inl x7), (.inl x5)]) (S0 := []) (m := 5) (L0 := [some (.inr (.inr (some 226))), some (.inl x1), some (.inl x2), some (.inl x7), some (.inl x5)]) rfl rfl rfl rfl rfl rfl rfl rfl (zrc_o rfl rfl) (by omega) (by omega) (z_M_spoils_ok N (by omega) (by omega) x1 hx1 x2 hx2 x7 hx7 x5 hx5 A) (fun v3 _ hv3 => ?_)
      refine js_istore (pc1 := 30) (L1 := [some (.inr (.inr (some 226))), some (.inl x1), some (.inl x2), none, some (.inl x4), some (.inl x5), some (.inl v3), some (.inl x7)]) rfl rfl rfl rfl ?_
      refine js_iinc (pc1 := 33) (L1 := [some (.inr (.inr (some 226))), some (.inl x1), some (.inl x2), none, some (.inl x4), some (.inl x5), some (.inl v3), some (.inl (x7 + 1))]) rfl rfl rfl rfl ?_
      refine js_goto (t1 := 6) rfl rfl ?_
      exact zG_to (L := [some (.inr (.inr (some 226))), some (.inl x1), some (.inl x2), none, some (.inl x4), some (.inl x5), some (.inl v3), some (.inl (zw (x7 + 1)))]) (S := []) ⟨rfl, ⟨rfl, ⟨rfl, ⟨rfl, ⟨rfl, ⟨rfl, ⟨zval_w (x7 + 1), trivial⟩⟩⟩⟩⟩⟩⟩ (rfl) (hr6 x1 hx1 x2 hx2 x4 hx4 x5 hx5 v3 hv3 (zw (x7 + 1)) (zw_rg (x7 + 1)) A)
    · refine js_iload (pc1 := 38) rfl rfl rfl ?_
      exact zG_ite (fun h => je_P rfl (zfit3 rfl h) rfl hx6) (fun _ => zG_none)
theorem z_M_spoiltBetween_6_lok{d w : Nat} (N : Nat) (hd : 4 ≤ d) (hw : 94 ≤ w) (n : Nat) : ∀ (x1 : Int) (hx1 : zrg x1) (x2 : Int) (hx2 : zrg x2) (x4 : Int) (hx4 : zrg x4) (x5 : Int) (hx5 : zrg x5) (x6 : Int) (hx6 : zrg x6) (x7 : Int) (hx7 : zrg x7) (A : zA), zG (z_M_spoiltBetween_6_l N n x1 x2 x4 x5 x6 x7 A) (zPp A) d w 92 6 [some (.inr (.inr (some 226))), some (.inl x1), some (.inl x2), none, some (.inl x4), some (.inl x5), some (.inl x6), some (.inl x7)] [] A := by
  induction n with
  | zero => intros; exact zG_none
  | succ n ih =>
    intro x1 hx1 x2 hx2 x4 hx4 x5 hx5 x6 hx6 x7 hx7 A
    exact z_M_spoiltBetween_6_bok ih N hd hw x1 hx1 x2 hx2 x4 hx4 x5 hx5 x6 hx6 x7 hx7 A
theorem z_M_spoiltBetween_6_ok{d w : Nat} (N : Nat) (hd : 4 ≤ d) (hw : 94 ≤ w) (x1 : Int) (hx1 : zrg x1) (x2 : Int) (hx2 : zrg x2) (x4 : Int) (hx4 : zrg x4) (x5 : Int) (hx5 : zrg x5) (x6 : Int) (hx6 : zrg x6) (x7 : Int) (hx7 : zrg x7) (A : zA) : zG (z_M_spoiltBetween_6 N x1 x2 x4 x5 x6 x7 A) (zPp A) d w 92 6 [some (.inr (.inr (some 226))), some (.inl x1), some (.inl x2), none, some (.inl x4), some (.inl x5), some (.inl x6), some (.inl x7)] [] A := z_M_spoiltBetween_6_lok N hd hw N x1 hx1 x2 hx2 x4 hx4 x5 hx5 x6 hx6 x7 hx7 A
theorem z_M_spoiltBetween_ok{d w : Nat} (N : Nat) (hd : 4 ≤ d) (hw : 94 ≤ w) (x1 : Int) (hx1 : zrg x1) (x2 : Int) (hx2 : zrg x2) (x3 : Int) (hx3 : zrg x3) (x4 : Int) (hx4 : zrg x4) (x5 : Int) (hx5 : zrg x5) (A : zA) : zG (z_M_spoiltBetween N x1 x2 x3 x4 x5 A) (zPp A) d w 92 0 [some (.inr (.inr (some 226))), some (.inl x1), some (.inl x2), some (.inl x3), some (.inl x4), some (.inl x5), none, none] [] A := by
  unfold z_M_spoiltBetween
  refine js_iconst (pc1 := 1) rfl rfl ?_
  refine js_istore (pc1 := 3) (L1 := [some (.inr (.inr (some 226))), some (.inl x1), some (.inl x2), some (.inl x3), some (.inl x4), some (.inl x5), some (.inl 0), none]) rfl rfl rfl rfl ?_
  refine js_iload (pc1 := 4) rfl rfl rfl ?_
  refine js_istore (pc1 := 6) (L1 := [some (.inr (.inr (some 226))), some (.inl x1), some (.inl x2), some (.inl x3), some (.inl x4), some (.inl x5), some (.inl 0), some (.inl x3)]) rfl rfl rfl rfl ?_
  exact zG_to (L := [some (.inr (.inr (some 226))), some (.inl x1), some (.inl x2), none, some (.inl x4), some (.inl x5), some (.inl 0), some (.inl x3)]) (S := []) ⟨rfl, ⟨rfl, ⟨rfl, ⟨rfl, ⟨rfl, ⟨rfl, ⟨rfl, trivial⟩⟩⟩⟩⟩⟩⟩ (rfl) (z_M_spoiltBetween_6_ok N hd hw x1 hx1 x2 hx2 x4 hx4 x5 hx5 0 (zlit rfl) x3 hx3 A)
theorem z_M_both_58_ok{d w : Nat} {r2 : Int → Int → zA → Option zA} (hr2 : ∀ (x1 : Int) (hx1 : zrg x1) (x2 : Int) (hx2 : zrg x2) (A : zA), zG (r2 x1 x2 A) zPV d w 94 2 [some (.inr (.inr (some 226))), some (.inl x1), some (.inl x2), none] [] A) (N : Nat) (hd : 0 ≤ d) (hw : 0 ≤ w) (x1 : Int) (hx1 : zrg x1) (x2 : Int) (hx2 : zrg x2) (s0 : Int) (hs0 : zrg s0) (A : zA) : zG (z_M_both_58 r2 N x1 x2 s0 A) zPV d w 94 58 [some (.inr (.inr (some 226))), some (.inl x1), some (.inl x2), none] [(.inl s0)] A := by
  unfold z_M_both_58
  refine js_istore (pc1 := 59) (L1 := [some (.inr (.inr (some 226))), some (.inl x1), some (.inl x2), some (.inl s0)]) rfl rfl rfl rfl ?_
  refine js_aload (pc1 := 60) rfl rfl rfl ?_
  refine js_gfr (pc1 := 63) (j := 26) (r := 239) rfl rfl rfl rfl rfl ?_
  refine js_iload (pc1 := 64) rfl rfl rfl ?_
  refine js_iload (pc1 := 65) rfl rfl rfl ?_
  refine ju_eq (pc1 := 68) (t1 := 72) hs0 rfl rfl rfl (fun c1 => ?_) (fun c1 => ?_)
  · refine js_iconst (pc1 := 73) rfl rfl ?_
    refine jt_ias (pc1 := 74) rfl rfl rfl rfl (fun A2 => ?_)
    refine js_iinc (pc1 := 77) (L1 := [some (.inr (.inr (some 226))), some (.inl x1), some (.inl (x2 + 1)), some (.inl s0)]) rfl rfl rfl rfl ?_
    refine js_goto (t1 := 2) rfl rfl ?_
    exact zG_to (L := [some (.inr (.inr (some 226))), some (.inl x1), some (.inl (zw (x2 + 1))), none]) (S := []) ⟨rfl, ⟨rfl, ⟨zval_w (x2 + 1), trivial⟩⟩⟩ (rfl) (hr2 x1 hx1 (zw (x2 + 1)) (zw_rg (x2 + 1)) A2)
  · refine js_iconst (pc1 := 69) rfl rfl ?_
    refine js_goto (t1 := 73) rfl rfl ?_
    refine jt_ias (pc1 := 74) rfl rfl rfl rfl (fun A3 => ?_)
    refine js_iinc (pc1 := 77) (L1 := [some (.inr (.inr (some 226))), some (.inl x1), some (.inl (x2 + 1)), some (.inl s0)]) rfl rfl rfl rfl ?_
    refine js_goto (t1 := 2) rfl rfl ?_
    exact zG_to (L := [some (.inr (.inr (some 226))), some (.inl x1), some (.inl (zw (x2 + 1))), none]) (S := []) ⟨rfl, ⟨rfl, ⟨zval_w (x2 + 1), trivial⟩⟩⟩ (rfl) (hr2 x1 hx1 (zw (x2 + 1)) (zw_rg (x2 + 1)) A3)
theorem z_M_both_2_bok{d w : Nat} {r2 : Int → Int → zA → Option zA} (hr2 : ∀ (x1 : Int) (hx1 : zrg x1) (x2 : Int) (hx2 : zrg x2) (A : zA), zG (r2 x1 x2 A) zPV d w 94 2 [some (.inr (.inr (some 226))), some (.inl x1), some (.inl x2), none] [] A) (N : Nat) (hd : 0 ≤ d) (hw : 0 ≤ w) (x1 : Int) (hx1 : zrg x1) (x2 : Int) (hx2 : zrg x2) (A : zA) : zG (z_M_both_2_b r2 N x1 x2 A) zPV d w 94 2 [some (.inr (.inr (some 226))), some (.inl x1), some (.inl x2), none] [] A := by
  unfold z_M_both_2_b
  refine js_iload (pc1 := 3) rfl rfl rfl ?_
  refine js_iconst (pc1 := 5) rfl rfl ?_
  refine jt_ge (pc1 := 8) (t1 := 80) hx2 (zlit rfl) rfl rfl rfl (fun c1 => ?_) (fun c1 => ?_)
  · refine js_aload (pc1 := 9) rfl rfl rfl ?_
    refine js_gfr (pc1 := 12) (j := 30) (r := 243) rfl rfl rfl rfl rfl ?_
    refine js_iconst (pc1 := 14) rfl rfl ?_
    refine js_iload (pc1 := 15) rfl rfl rfl ?_
    refine js_imul (pc1 := 16) rfl rfl ?_
    refine js_iload (pc1 := 17) rfl rfl rfl ?_
    refine js_iadd (pc1 := 18) rfl rfl ?_
    refine jt_ald (pc1 := 19) rfl rfl rfl rfl rfl (fun v2 hv2 => ?_)
    refine js_iconst (pc1 := 20) rfl rfl ?_
    refine jt_ne (pc1 := 23) (t1 := 57) hv2 (zlit rfl) rfl rfl rfl (fun c3 => ?_) (fun c3 => ?_)
    · refine js_aload (pc1 := 24) rfl rfl rfl ?_
      refine js_gfr (pc1 := 27) (j := 26) (r := 239) rfl rfl rfl rfl rfl ?_
      refine js_iload (pc1 := 28) rfl rfl rfl ?_
      refine jt_ald (pc1 := 29) rfl rfl rfl rfl rfl (fun v4 hv4 => ?_)
      refine js_iconst (pc1 := 30) rfl rfl ?_
      refine jt_ne (pc1 := 33) (t1 := 57) hv4 (zlit rfl) rfl rfl rfl (fun c5 => ?_) (fun c5 => ?_)
      · refine js_aload (pc1 := 34) rfl rfl rfl ?_
        refine js_gfr (pc1 := 37) (j := 31) (r := 244) rfl rfl rfl rfl rfl ?_
        refine js_iconst (pc1 := 39) rfl rfl ?_
        refine js_iload (pc1 := 40) rfl rfl rfl ?_
        refine js_imul (pc1 := 41) rfl rfl ?_
        refine js_iload (pc1 := 42) rfl rfl rfl ?_
        refine js_iadd (pc1 := 43) rfl rfl ?_
        refine jt_ald (pc1 := 44) rfl rfl rfl rfl rfl (fun v6 hv6 => ?_)
        refine js_aload (pc1 := 45) rfl rfl rfl ?_
        refine js_gfr (pc1 := 48) (j := 27) (r := 240) rfl rfl rfl rfl rfl ?_
        refine js_iload (pc1 := 49) rfl rfl rfl ?_
        refine jt_ald (pc1 := 50) rfl rfl rfl rfl rfl (fun v7 hv7 => ?_)
        refine jt_ne (pc1 := 53) (t1 := 57) hv6 hv7 rfl rfl rfl (fun c8 => ?_) (fun c8 => ?_)
        · refine js_iconst (pc1 := 54) rfl rfl ?_
          refine js_goto (t1 := 58) rfl rfl ?_
          exact z_M_both_58_ok hr2 N hd hw x1 hx1 x2 hx2 1 (zlit rfl) A
        · refine js_iconst (pc1 := 58) rfl rfl ?_
          exact z_M_both_58_ok hr2 N hd hw x1 hx1 x2 hx2 0 (zlit rfl) A
      · refine js_iconst (pc1 := 58) rfl rfl ?_
        exact z_M_both_58_ok hr2 N hd hw x1 hx1 x2 hx2 0 (zlit rfl) A
    · refine js_iconst (pc1 := 58) rfl rfl ?_
      exact z_M_both_58_ok hr2 N hd hw x1 hx1 x2 hx2 0 (zlit rfl) A
  · exact je_V rfl
theorem z_M_both_2_lok{d w : Nat} (N : Nat) (hd : 0 ≤ d) (hw : 0 ≤ w) (n : Nat) : ∀ (x1 : Int) (hx1 : zrg x1) (x2 : Int) (hx2 : zrg x2) (A : zA), zG (z_M_both_2_l N n x1 x2 A) zPV d w 94 2 [some (.inr (.inr (some 226))), some (.inl x1), some (.inl x2), none] [] A := by
  induction n with
  | zero => intros; exact zG_none
  | succ n ih =>
    intro x1 hx1 x2 hx2 A
    exact z_M_both_2_bok ih N hd hw x1 hx1 x2 hx2 A
theorem z_M_both_2_ok{d w : Nat} (N : Nat) (hd : 0 ≤ d) (hw : 0 ≤ w) (x1 : Int) (hx1 : zrg x1) (x2 : Int) (hx2 : zrg x2) (A : zA) : zG (z_M_both_2 N x1 x2 A) zPV d w 94 2 [some (.inr (.inr (some 226))), some (.inl x1), some (.inl x2), none] [] A := z_M_both_2_lok N hd hw N x1 hx1 x2 hx2 A
theorem z_M_both_ok{d w : Nat} (N : Nat) (hd : 0 ≤ d) (hw : 0 ≤ w) (x1 : Int) (hx1 : zrg x1) (A : zA) : zG (z_M_both N x1 A) zPV d w 94 0 [some (.inr (.inr (some 226))), some (.inl x1), none, none] [] A := by
  unfold z_M_both
  refine js_iconst (pc1 := 1) rfl rfl ?_
  refine js_istore (pc1 := 2) (L1 := [some (.inr (.inr (some 226))), some (.inl x1), some (.inl 0), none]) rfl rfl rfl rfl ?_
  exact z_M_both_2_ok N hd hw x1 hx1 0 (zlit rfl) A
theorem z_M_constants_141_ok{d w : Nat} {r58 : Int → Int → Int → zA → Option zA} (hr58 : ∀ (x1 : Int) (hx1 : zrg x1) (x2 : Int) (hx2 : zrg x2) (x3 : Int) (hx3 : zrg x3) (A : zA), zG (r58 x1 x2 x3 A) zPV d w 51 58 [some (.inr (.inr (some 226))), some (.inl x1), some (.inl x2), some (.inl x3), none, none, none, none, none] [] A) (N : Nat) (hd : 5 ≤ d) (hw : 121 ≤ w) (x1 : Int) (hx1 : zrg x1) (x2 : Int) (hx2 : zrg x2) (x3 : Int) (hx3 : zrg x3) (x5 : Int) (hx5 : zrg x5) (x6 : Int) (hx6 : zrg x6) (s1 : Int) (hs1 : zrg s1) (s2 : Int) (hs2 : zrg s2) (A : zA) : zG (z_M_constants_141 r58 N x1 x2 x3 x5 x6 s1 s2 A) zPV d w 51 141 [some (.inr (.inr (some 226))), some (.inl x1), some (.inl x2), some (.inl x3), none, some (.inl x5), some (.inl x6), none, none] [(.inl s2), (.inl s1), (.inr (.inr (some 245)))] A := by
  unfold z_M_constants_141
  refine jt_bas (pc1 := 142) rfl rfl rfl rfl (fun A1 => ?_)
  refine js_aload (pc1 := 143) rfl rfl rfl ?_
  refine js_gfr (pc1 := 146) (j := 32) (r := 245) rfl rfl rfl rfl rfl ?_
  refine js_iload (pc1 := 147) rfl rfl rfl ?_
  refine jt_ald (pc1 := 148) rfl rfl rfl rfl rfl (fun v2 hv2 => ?_)
  refine ju_eq (pc1 := 151) (t1 := 196) hv2 rfl rfl rfl (fun c3 => ?_) (fun c3 => ?_)
  · refine js_aload (pc1 := 197) rfl rfl rfl ?_
    refine js_iload (pc1 := 198) rfl rfl rfl ?_
    refine js_iload (pc1 := 199) rfl rfl rfl ?_
    refine js_cV (pc1 := 202) (as := [(.inr (.inr (some 226))), (.inl x1), (.inl x3)]) (S0 := []) (m := 3) (L0 := [some (.inr (.inr (some 226))), some (.inl x1), some (.inl x3)]) rfl rfl rfl rfl rfl rfl rfl rfl (zrc_o rfl rfl) (by omega) (by omega) (z_M_keep_ok N (by omega) (by omega) x1 hx1 x3 hx3 A1) (fun A4 _ => ?_)
    refine js_aload (pc1 := 203) rfl rfl rfl ?_
    refine js_aload (pc1 := 204) rfl rfl rfl ?_
    refine js_gfr (pc1 := 207) (j := 28) (r := 241) rfl rfl rfl rfl rfl ?_
    refine js_aload (pc1 := 208) rfl rfl rfl ?_
    refine js_gfr (pc1 := 211) (j := 29) (r := 242) rfl rfl rfl rfl rfl ?_
    refine js_iload (pc1 := 212) rfl rfl rfl ?_
    refine js_cV (pc1 := 215) (as := [(.inr (.inr (some 226))), (.inr (.inr (some 241))), (.inr (.inr (some 242))), (.inl x2)]) (S0 := []) (m := 5) (L0 := [some (.inr (.inr (some 226))), some (.inr (.inr (some 241))), some (.inr (.inr (some 242))), some (.inl x2), none]) rfl rfl rfl rfl rfl rfl rfl rfl (zrc_o rfl rfl) (by omega) (by omega) (z_M_saveKnown_241_242_ok N (by omega) (by omega) x2 hx2 A4) (fun A5 _ => ?_)
    refine js_iinc (pc1 := 218) (L1 := [some (.inr (.inr (some 226))), some (.inl x1), some (.inl (x2 + 1)), some (.inl x3), none, some (.inl x5), some (.inl x6), none, none]) rfl rfl rfl rfl ?_
    refine js_goto (t1 := 485) rfl rfl ?_
    refine js_iload (pc1 := 487) rfl rfl rfl ?_
    refine js_istore (pc1 := 488) (L1 := [some (.inr (.inr (some 226))), some (.inl x1), some (.inl (x2 + 1)), some (.inl x6), none, some (.inl x5), some (.inl x6), none, none]) rfl rfl rfl rfl ?_
    refine js_goto (t1 := 58) rfl rfl ?_
    exact zG_to (L := [some (.inr (.inr (some 226))), some (.inl x1), some (.inl (zw (x2 + 1))), some (.inl x6), none, none, none, none, none]) (S := []) ⟨rfl, ⟨rfl, ⟨zval_w (x2 + 1), ⟨rfl, trivial⟩⟩⟩⟩ (rfl) (hr58 x1 hx1 (zw (x2 + 1)) (zw_rg (x2 + 1)) x6 hx6 A5)
  · refine js_aload (pc1 := 152) rfl rfl rfl ?_
    refine js_dupR (pc1 := 153) rfl rfl ?_
    refine js_gi (pc1 := 156) (j := 33) rfl rfl rfl rfl ?_
    refine js_iconst (pc1 := 157) rfl rfl ?_
    refine js_iadd (pc1 := 158) rfl rfl ?_
    refine jt_pi (pc1 := 161) (j := 33) rfl rfl rfl rfl rfl (fun A6 => ?_)
    refine js_aload (pc1 := 162) rfl rfl rfl ?_
    refine js_gfr (pc1 := 165) (j := 27) (r := 240) rfl rfl rfl rfl rfl ?_
    refine js_iload (pc1 := 167) rfl rfl rfl ?_
    refine jt_ald (pc1 := 168) rfl rfl rfl rfl rfl (fun v7 hv7 => ?_)
    refine ju_eq (pc1 := 171) (t1 := 177) hv7 rfl rfl rfl (fun c8 => ?_) (fun c8 => ?_)
    · refine js_aload (pc1 := 178) rfl rfl rfl ?_
      refine js_gfr (pc1 := 181) (j := 9) (r := 231) rfl rfl rfl rfl rfl ?_
      refine js_iconst (pc1 := 184) rfl rfl ?_
      refine js_iload (pc1 := 185) rfl rfl rfl ?_
      refine js_imul (pc1 := 186) rfl rfl ?_
      refine js_iload (pc1 := 187) rfl rfl rfl ?_
      refine js_iadd (pc1 := 188) rfl rfl ?_
      refine jt_ald (pc1 := 189) rfl rfl rfl rfl rfl (fun v9 hv9 => ?_)
      refine js_iconst (pc1 := 190) rfl rfl ?_
      refine js_iadd (pc1 := 191) rfl rfl ?_
      refine zG_w1 ?_
      refine js_istore (pc1 := 193) (L1 := [some (.inr (.inr (some 226))), some (.inl x1), some (.inl x2), some (.inl x3), none, some (.inl x5), some (.inl (zw (v9 + 1))), none, none]) rfl rfl rfl rfl ?_
      refine js_goto (t1 := 215) rfl rfl ?_
      refine js_iinc (pc1 := 218) (L1 := [some (.inr (.inr (some 226))), some (.inl x1), some (.inl (x2 + 1)), some (.inl x3), none, some (.inl x5), some (.inl (zw (v9 + 1))), none, none]) rfl rfl rfl rfl ?_
      refine js_goto (t1 := 485) rfl rfl ?_
      refine js_iload (pc1 := 487) rfl rfl rfl ?_
      refine js_istore (pc1 := 488) (L1 := [some (.inr (.inr (some 226))), some (.inl x1), some (.inl (x2 + 1)), some (.inl (zw (v9 + 1))), none, some (.inl x5), some (.inl (zw (v9 + 1))), none, none]) rfl rfl rfl rfl ?_
      refine js_goto (t1 := 58) rfl rfl ?_
      exact zG_to (L := [some (.inr (.inr (some 226))), some (.inl x1), some (.inl (zw (x2 + 1))), some (.inl (zw (v9 + 1))), none, none, none, none, none]) (S := []) ⟨rfl, ⟨rfl, ⟨zval_w (x2 + 1), ⟨rfl, trivial⟩⟩⟩⟩ (rfl) (hr58 x1 hx1 (zw (x2 + 1)) (zw_rg (x2 + 1)) (zw (v9 + 1)) (zw_rg (v9 + 1)) A6)
    · refine js_iload (pc1 := 172) rfl rfl rfl ?_
      refine js_iconst (pc1 := 173) rfl rfl ?_
      refine js_iadd (pc1 := 174) rfl rfl ?_
      refine js_goto (t1 := 191) rfl rfl ?_
      refine zG_w1 ?_
      refine js_istore (pc1 := 193) (L1 := [some (.inr (.inr (some 226))), some (.inl x1), some (.inl x2), some (.inl x3), none, some (.inl x5), some (.inl (zw (x3 + 1))), none, none]) rfl rfl rfl rfl ?_
      refine js_goto (t1 := 215) rfl rfl ?_
      refine js_iinc (pc1 := 218) (L1 := [some (.inr (.inr (some 226))), some (.inl x1), some (.inl (x2 + 1)), some (.inl x3), none, some (.inl x5), some (.inl (zw (x3 + 1))), none, none]) rfl rfl rfl rfl ?_
      refine js_goto (t1 := 485) rfl rfl ?_
      refine js_iload (pc1 := 487) rfl rfl rfl ?_
      refine js_istore (pc1 := 488) (L1 := [some (.inr (.inr (some 226))), some (.inl x1), some (.inl (x2 + 1)), some (.inl (zw (x3 + 1))), none, some (.inl x5), some (.inl (zw (x3 + 1))), none, none]) rfl rfl rfl rfl ?_
      refine js_goto (t1 := 58) rfl rfl ?_
      exact zG_to (L := [some (.inr (.inr (some 226))), some (.inl x1), some (.inl (zw (x2 + 1))), some (.inl (zw (x3 + 1))), none, none, none, none, none]) (S := []) ⟨rfl, ⟨rfl, ⟨zval_w (x2 + 1), ⟨rfl, trivial⟩⟩⟩⟩ (rfl) (hr58 x1 hx1 (zw (x2 + 1)) (zw_rg (x2 + 1)) (zw (x3 + 1)) (zw_rg (x3 + 1)) A6)
theorem z_M_constants_363_ok{d w : Nat} {r58 : Int → Int → Int → zA → Option zA} (hr58 : ∀ (x1 : Int) (hx1 : zrg x1) (x2 : Int) (hx2 : zrg x2) (x3 : Int) (hx3 : zrg x3) (A : zA), zG (r58 x1 x2 x3 A) zPV d w 51 58 [some (.inr (.inr (some 226))), some (.inl x1), some (.inl x2), some (.inl x3), none, none, none, none, none] [] A) (N : Nat) (hd : 5 ≤ d) (hw : 121 ≤ w) (x1 : Int) (hx1 : zrg x1) (x2 : Int) (hx2 : zrg x2) (x3 : Int) (hx3 : zrg x3) (x6 : Int) (hx6 : zrg x6) (A : zA) : zG (z_M_constants_363 r58 N x1 x2 x3 x6 A) zPV d w 51 363 [some (.inr (.inr (some 226))), some (.inl x1), some (.inl x2), some (.inl x3), none, none, some (.inl x6), none, none] [] A := by
  unfold z_M_constants_363
  refine js_aload (pc1 := 364) rfl rfl rfl ?_
  refine js_gfr (pc1 := 367) (j := 32) (r := 245) rfl rfl rfl rfl rfl ?_
  refine js_iload (pc1 := 368) rfl rfl rfl ?_
  refine js_iconst (pc1 := 369) rfl rfl ?_
  refine jt_basl (pc1 := 370) rfl rfl rfl rfl (Or.inl rfl) (fun A1 => ?_)
  refine js_iinc (pc1 := 373) (L1 := [some (.inr (.inr (some 226))), some (.inl x1), some (.inl (x2 + 1)), some (.inl x3), none, none, some (.inl x6), none, none]) rfl rfl rfl rfl ?_
  refine js_aload (pc1 := 374) rfl rfl rfl ?_
  refine js_iload (pc1 := 375) rfl rfl rfl ?_
  refine js_iload (pc1 := 376) rfl rfl rfl ?_
  refine js_cV (pc1 := 379) (as := [(.inr (.inr (some 226))), (.inl x1), (.inl x3)]) (S0 := []) (m := 3) (L0 := [some (.inr (.inr (some 226))), some (.inl x1), some (.inl x3)]) rfl rfl rfl rfl rfl rfl rfl rfl (zrc_o rfl rfl) (by omega) (by omega) (z_M_keep_ok N (by omega) (by omega) x1 hx1 x3 hx3 A1) (fun A2 _ => ?_)
  refine js_goto (t1 := 485) rfl rfl ?_
  refine js_iload (pc1 := 487) rfl rfl rfl ?_
  refine js_istore (pc1 := 488) (L1 := [some (.inr (.inr (some 226))), some (.inl x1), some (.inl (x2 + 1)), some (.inl x6), none, none, some (.inl x6), none, none]) rfl rfl rfl rfl ?_
  refine js_goto (t1 := 58) rfl rfl ?_
  exact zG_to (L := [some (.inr (.inr (some 226))), some (.inl x1), some (.inl (zw (x2 + 1))), some (.inl x6), none, none, none, none, none]) (S := []) ⟨rfl, ⟨rfl, ⟨zval_w (x2 + 1), ⟨rfl, trivial⟩⟩⟩⟩ (rfl) (hr58 x1 hx1 (zw (x2 + 1)) (zw_rg (x2 + 1)) x6 hx6 A2)
theorem z_M_constants_330_bok{d w : Nat} {r58 : Int → Int → Int → zA → Option zA} (hr58 : ∀ (x1 : Int) (hx1 : zrg x1) (x2 : Int) (hx2 : zrg x2) (x3 : Int) (hx3 : zrg x3) (A : zA), zG (r58 x1 x2 x3 A) zPV d w 51 58 [some (.inr (.inr (some 226))), some (.inl x1), some (.inl x2), some (.inl x3), none, none, none, none, none] [] A) {r330 : Int → Int → Int → Int → Int → Int → zA → Option zA} (hr330 : ∀ (x1 : Int) (hx1 : zrg x1) (x2 : Int) (hx2 : zrg x2) (x3 : Int) (hx3 : zrg x3) (x6 : Int) (hx6 : zrg x6) (x7 : Int) (hx7 : zrg x7) (x8 : Int) (hx8 : zrg x8) (A : zA), zG (r330 x1 x2 x3 x6 x7 x8 A) zPV d w 51 330 [some (.inr (.inr (some 226))), some (.inl x1), some (.inl x2), some (.inl x3), none, none, some (.inl x6), some (.inl x7), some (.inl x8)] [] A) (N : Nat) (hd : 5 ≤ d) (hw : 121 ≤ w) (x1 : Int) (hx1 : zrg x1) (x2 : Int) (hx2 : zrg x2) (x3 : Int) (hx3 : zrg x3) (x6 : Int) (hx6 : zrg x6) (x7 : Int) (hx7 : zrg x7) (x8 : Int) (hx8 : zrg x8) (A : zA) : zG (z_M_constants_330_b r58 r330 N x1 x2 x3 x6 x7 x8 A) zPV d w 51 330 [some (.inr (.inr (some 226))), some (.inl x1), some (.inl x2), some (.inl x3), none, none, some (.inl x6), some (.inl x7), some (.inl x8)] [] A := by
  unfold z_M_constants_330_b
  refine js_iload (pc1 := 332) rfl rfl rfl ?_
  refine js_iconst (pc1 := 334) rfl rfl ?_
  refine jt_ge (pc1 := 337) (t1 := 363) hx8 (zlit rfl) rfl rfl rfl (fun c1 => ?_) (fun c1 => ?_)
  · refine js_aload (pc1 := 338) rfl rfl rfl ?_
    refine js_iconst (pc1 := 339) rfl rfl ?_
    refine js_iload (pc1 := 340) rfl rfl rfl ?_
    refine js_iload (pc1 := 341) rfl rfl rfl ?_
    refine js_iload (pc1 := 343) rfl rfl rfl ?_
    refine js_iload (pc1 := 345) rfl rfl rfl ?_
    refine js_cP (pc1 := 348) (as := [(.inr (.inr (some 226))), (.inl 0), (.inl x1), (.inl x3), (.inl x7), (.inl x8)]) (S0 := []) (m := 8) (L0 := [some (.inr (.inr (some 226))), some (.inl 0), some (.inl x1), some (.inl x3), some (.inl x7), some (.inl x8), none, none]) rfl rfl rfl rfl rfl rfl rfl rfl (zrc_o rfl rfl) (by omega) (by omega) (z_M_spoiltBetween_ok N (by omega) (by omega) 0 (zlit rfl) x1 hx1 x3 hx3 x7 hx7 x8 hx8 A) (fun v2 _ hv2 => ?_)
    refine ju_eq (pc1 := 351) (t1 := 357) hv2 rfl rfl rfl (fun c3 => ?_) (fun c3 => ?_)
    · refine js_iinc (pc1 := 360) (L1 := [some (.inr (.inr (some 226))), some (.inl x1), some (.inl x2), some (.inl x3), none, none, some (.inl x6), some (.inl x7), some (.inl (x8 + 1))]) rfl rfl rfl rfl ?_
      refine js_goto (t1 := 330) rfl rfl ?_
      exact zG_to (L := [some (.inr (.inr (some 226))), some (.inl x1), some (.inl x2), some (.inl x3), none, none, some (.inl x6), some (.inl x7), some (.inl (zw (x8 + 1)))]) (S := []) ⟨rfl, ⟨rfl, ⟨rfl, ⟨rfl, ⟨rfl, ⟨rfl, ⟨zval_w (x8 + 1), trivial⟩⟩⟩⟩⟩⟩⟩ (rfl) (hr330 x1 hx1 x2 hx2 x3 hx3 x6 hx6 x7 hx7 (zw (x8 + 1)) (zw_rg (x8 + 1)) A)
    · refine js_aload (pc1 := 352) rfl rfl rfl ?_
      refine js_iload (pc1 := 354) rfl rfl rfl ?_
      refine js_cV (pc1 := 357) (as := [(.inr (.inr (some 226))), (.inl x8)]) (S0 := []) (m := 2) (L0 := [some (.inr (.inr (some 226))), some (.inl x8)]) rfl rfl rfl rfl rfl rfl rfl rfl (zrc_o rfl rfl) (by omega) (by omega) (z_M_forget_ok N (by omega) (by omega) x8 hx8 A) (fun A4 _ => ?_)
      refine js_iinc (pc1 := 360) (L1 := [some (.inr (.inr (some 226))), some (.inl x1), some (.inl x2), some (.inl x3), none, none, some (.inl x6), some (.inl x7), some (.inl (x8 + 1))]) rfl rfl rfl rfl ?_
      refine js_goto (t1 := 330) rfl rfl ?_
      exact zG_to (L := [some (.inr (.inr (some 226))), some (.inl x1), some (.inl x2), some (.inl x3), none, none, some (.inl x6), some (.inl x7), some (.inl (zw (x8 + 1)))]) (S := []) ⟨rfl, ⟨rfl, ⟨rfl, ⟨rfl, ⟨rfl, ⟨rfl, ⟨zval_w (x8 + 1), trivial⟩⟩⟩⟩⟩⟩⟩ (rfl) (hr330 x1 hx1 x2 hx2 x3 hx3 x6 hx6 x7 hx7 (zw (x8 + 1)) (zw_rg (x8 + 1)) A4)
  · exact zG_to (L := [some (.inr (.inr (some 226))), some (.inl x1), some (.inl x2), some (.inl x3), none, none, some (.inl x6), none, none]) (S := []) ⟨rfl, ⟨rfl, ⟨rfl, ⟨rfl, ⟨rfl, trivial⟩⟩⟩⟩⟩ (rfl) (z_M_constants_363_ok hr58 N hd hw x1 hx1 x2 hx2 x3 hx3 x6 hx6 A)
theorem z_M_constants_330_lok{d w : Nat} {r58 : Int → Int → Int → zA → Option zA} (hr58 : ∀ (x1 : Int) (hx1 : zrg x1) (x2 : Int) (hx2 : zrg x2) (x3 : Int) (hx3 : zrg x3) (A : zA), zG (r58 x1 x2 x3 A) zPV d w 51 58 [some (.inr (.inr (some 226))), some (.inl x1), some (.inl x2), some (.inl x3), none, none, none, none, none] [] A) (N : Nat) (hd : 5 ≤ d) (hw : 121 ≤ w) (n : Nat) : ∀ (x1 : Int) (hx1 : zrg x1) (x2 : Int) (hx2 : zrg x2) (x3 : Int) (hx3 : zrg x3) (x6 : Int) (hx6 : zrg x6) (x7 : Int) (hx7 : zrg x7) (x8 : Int) (hx8 : zrg x8) (A : zA), zG (z_M_constants_330_l r58 N n x1 x2 x3 x6 x7 x8 A) zPV d w 51 330 [some (.inr (.inr (some 226))), some (.inl x1), some (.inl x2), some (.inl x3), none, none, some (.inl x6), some (.inl x7), some (.inl x8)] [] A := by
  induction n with
  | zero => intros; exact zG_none
  | succ n ih =>
    intro x1 hx1 x2 hx2 x3 hx3 x6 hx6 x7 hx7 x8 hx8 A
    exact z_M_constants_330_bok hr58 ih N hd hw x1 hx1 x2 hx2 x3 hx3 x6 hx6 x7 hx7 x8 hx8 A
theorem z_M_constants_330_ok{d w : Nat} {r58 : Int → Int → Int → zA → Option zA} (hr58 : ∀ (x1 : Int) (hx1 : zrg x1) (x2 : Int) (hx2 : zrg x2) (x3 : Int) (hx3 : zrg x3) (A : zA), zG (r58 x1 x2 x3 A) zPV d w 51 58 [some (.inr (.inr (some 226))), some (.inl x1), some (.inl x2), some (.inl x3), none, none, none, none, none] [] A) (N : Nat) (hd : 5 ≤ d) (hw : 121 ≤ w) (x1 : Int) (hx1 : zrg x1) (x2 : Int) (hx2 : zrg x2) (x3 : Int) (hx3 : zrg x3) (x6 : Int) (hx6 : zrg x6) (x7 : Int) (hx7 : zrg x7) (x8 : Int) (hx8 : zrg x8) (A : zA) : zG (z_M_constants_330 r58 N x1 x2 x3 x6 x7 x8 A) zPV d w 51 330 [some (.inr (.inr (some 226))), some (.inl x1), some (.inl x2), some (.inl x3), none, none, some (.inl x6), some (.inl x7), some (.inl x8)] [] A := z_M_constants_330_lok hr58 N hd hw N x1 hx1 x2 hx2 x3 hx3 x6 hx6 x7 hx7 x8 hx8 A
theorem z_M_constants_431_ok{d w : Nat} {r58 : Int → Int → Int → zA → Option zA} (hr58 : ∀ (x1 : Int) (hx1 : zrg x1) (x2 : Int) (hx2 : zrg x2) (x3 : Int) (hx3 : zrg x3) (A : zA), zG (r58 x1 x2 x3 A) zPV d w 51 58 [some (.inr (.inr (some 226))), some (.inl x1), some (.inl x2), some (.inl x3), none, none, none, none, none] [] A) (N : Nat) (hd : 5 ≤ d) (hw : 121 ≤ w) (x1 : Int) (hx1 : zrg x1) (x2 : Int) (hx2 : zrg x2) (x3 : Int) (hx3 : zrg x3) (x6 : Int) (hx6 : zrg x6) (A : zA) : zG (z_M_constants_431 r58 N x1 x2 x3 x6 A) zPV d w 51 431 [some (.inr (.inr (some 226))), some (.inl x1), some (.inl x2), some (.inl x3), none, none, some (.inl x6), none, none] [] A := by
  unfold z_M_constants_431
  refine js_aload (pc1 := 432) rfl rfl rfl ?_
  refine js_iconst (pc1 := 433) rfl rfl ?_
  refine js_iload (pc1 := 434) rfl rfl rfl ?_
  refine js_aload (pc1 := 435) rfl rfl rfl ?_
  refine js_gfr (pc1 := 438) (j := 9) (r := 231) rfl rfl rfl rfl rfl ?_
  refine js_iconst (pc1 := 441) rfl rfl ?_
  refine js_iload (pc1 := 442) rfl rfl rfl ?_
  refine js_imul (pc1 := 443) rfl rfl ?_
  refine js_iload (pc1 := 444) rfl rfl rfl ?_
  refine js_iadd (pc1 := 445) rfl rfl ?_
  refine jt_ald (pc1 := 446) rfl rfl rfl rfl rfl (fun v1 hv1 => ?_)
  refine js_iconst (pc1 := 447) rfl rfl ?_
  refine js_cP (pc1 := 450) (as := [(.inr (.inr (some 226))), (.inl 0), (.inl x1), (.inl v1), (.inl 0)]) (S0 := []) (m := 5) (L0 := [some (.inr (.inr (some 226))), some (.inl 0), some (.inl x1), some (.inl v1), some (.inl 0)]) rfl rfl rfl rfl rfl rfl rfl rfl (zrc_o rfl rfl) (by omega) (by omega) (z_M_field_ok N (by omega) (by omega) 0 (zlit rfl) x1 hx1 v1 hv1 0 (zlit rfl) A) (fun v2 _ hv2 => ?_)
  refine js_iconst (pc1 := 452) rfl rfl ?_
  refine jt_ne (pc1 := 455) (t1 := 471) hv2 (zlit rfl) rfl rfl rfl (fun c3 => ?_) (fun c3 => ?_)
  · refine js_aload (pc1 := 456) rfl rfl rfl ?_
    refine js_aload (pc1 := 457) rfl rfl rfl ?_
    refine js_gfr (pc1 := 460) (j := 28) (r := 241) rfl rfl rfl rfl rfl ?_
    refine js_aload (pc1 := 461) rfl rfl rfl ?_
    refine js_gfr (pc1 := 464) (j := 29) (r := 242) rfl rfl rfl rfl rfl ?_
    refine js_iload (pc1 := 465) rfl rfl rfl ?_
    refine js_cV (pc1 := 468) (as := [(.inr (.inr (some 226))), (.inr (.inr (some 241))), (.inr (.inr (some 242))), (.inl x2)]) (S0 := []) (m := 5) (L0 := [some (.inr (.inr (some 226))), some (.inr (.inr (some 241))), some (.inr (.inr (some 242))), some (.inl x2), none]) rfl rfl rfl rfl rfl rfl rfl rfl (zrc_o rfl rfl) (by omega) (by omega) (z_M_loadKnown_241_242_ok N (by omega) (by omega) x2 hx2 A) (fun A4 _ => ?_)
    refine js_goto (t1 := 485) rfl rfl ?_
    refine js_iload (pc1 := 487) rfl rfl rfl ?_
    refine js_istore (pc1 := 488) (L1 := [some (.inr (.inr (some 226))), some (.inl x1), some (.inl x2), some (.inl x6), none, none, some (.inl x6), none, none]) rfl rfl rfl rfl ?_
    refine js_goto (t1 := 58) rfl rfl ?_
    exact zG_to (L := [some (.inr (.inr (some 226))), some (.inl x1), some (.inl x2), some (.inl x6), none, none, none, none, none]) (S := []) ⟨rfl, ⟨rfl, ⟨rfl, ⟨rfl, trivial⟩⟩⟩⟩ (rfl) (hr58 x1 hx1 x2 hx2 x6 hx6 A4)
  · refine js_aload (pc1 := 472) rfl rfl rfl ?_
    refine js_gfr (pc1 := 475) (j := 32) (r := 245) rfl rfl rfl rfl rfl ?_
    refine js_iload (pc1 := 476) rfl rfl rfl ?_
    refine jt_ald (pc1 := 477) rfl rfl rfl rfl rfl (fun v5 hv5 => ?_)
    refine ju_ne (pc1 := 480) (t1 := 485) hv5 rfl rfl rfl (fun c6 => ?_) (fun c6 => ?_)
    · refine js_aload (pc1 := 481) rfl rfl rfl ?_
      refine js_iload (pc1 := 482) rfl rfl rfl ?_
      refine js_cV (pc1 := 485) (as := [(.inr (.inr (some 226))), (.inl x2)]) (S0 := []) (m := 4) (L0 := [some (.inr (.inr (some 226))), some (.inl x2), none, none]) rfl rfl rfl rfl rfl rfl rfl rfl (zrc_o rfl rfl) (by omega) (by omega) (z_M_both_ok N (by omega) (by omega) x2 hx2 A) (fun A7 _ => ?_)
      refine js_iload (pc1 := 487) rfl rfl rfl ?_
      refine js_istore (pc1 := 488) (L1 := [some (.inr (.inr (some 226))), some (.inl x1), some (.inl x2), some (.inl x6), none, none, some (.inl x6), none, none]) rfl rfl rfl rfl ?_
      refine js_goto (t1 := 58) rfl rfl ?_
      exact zG_to (L := [some (.inr (.inr (some 226))), some (.inl x1), some (.inl x2), some (.inl x6), none, none, none, none, none]) (S := []) ⟨rfl, ⟨rfl, ⟨rfl, ⟨rfl, trivial⟩⟩⟩⟩ (rfl) (hr58 x1 hx1 x2 hx2 x6 hx6 A7)
    · refine js_iload (pc1 := 487) rfl rfl rfl ?_
      refine js_istore (pc1 := 488) (L1 := [some (.inr (.inr (some 226))), some (.inl x1), some (.inl x2), some (.inl x6), none, none, some (.inl x6), none, none]) rfl rfl rfl rfl ?_
      refine js_goto (t1 := 58) rfl rfl ?_
      exact zG_to (L := [some (.inr (.inr (some 226))), some (.inl x1), some (.inl x2), some (.inl x6), none, none, none, none, none]) (S := []) ⟨rfl, ⟨rfl, ⟨rfl, ⟨rfl, trivial⟩⟩⟩⟩ (rfl) (hr58 x1 hx1 x2 hx2 x6 hx6 A)
theorem z_M_constants_58_bok{d w : Nat} {r58 : Int → Int → Int → zA → Option zA} (hr58 : ∀ (x1 : Int) (hx1 : zrg x1) (x2 : Int) (hx2 : zrg x2) (x3 : Int) (hx3 : zrg x3) (A : zA), zG (r58 x1 x2 x3 A) zPV d w 51 58 [some (.inr (.inr (some 226))), some (.inl x1), some (.inl x2), some (.inl x3), none, none, none, none, none] [] A) (N : Nat) (hd : 5 ≤ d) (hw : 121 ≤ w) (x1 : Int) (hx1 : zrg x1) (x2 : Int) (hx2 : zrg x2) (x3 : Int) (hx3 : zrg x3) (A : zA) : zG (z_M_constants_58_b r58 N x1 x2 x3 A) zPV d w 51 58 [some (.inr (.inr (some 226))), some (.inl x1), some (.inl x2), some (.inl x3), none, none, none, none, none] [] A := by
  unfold z_M_constants_58_b
  refine js_iload (pc1 := 59) rfl rfl rfl ?_
  refine js_aload (pc1 := 60) rfl rfl rfl ?_
  refine js_gfr (pc1 := 63) (j := 4) (r := 229) rfl rfl rfl rfl rfl ?_
  refine js_iconst (pc1 := 64) rfl rfl ?_
  refine js_iload (pc1 := 65) rfl rfl rfl ?_
  refine js_cP (pc1 := 68) (as := [(.inl 0), (.inl x1)]) (S0 := [(.inr (.inr (some 229))), (.inl x3)]) (m := 2) (L0 := [some (.inl 0), some (.inl x1)]) rfl rfl rfl rfl rfl rfl rfl rfl (zrc_s rfl) (by omega) (by omega) (z_M_row_ok N (by omega) (by omega) 0 (zlit rfl) x1 hx1 A) (fun v1 _ hv1 => ?_)
  refine jt_ald (pc1 := 69) rfl rfl rfl rfl rfl (fun v2 hv2 => ?_)
  refine jt_ge (pc1 := 72) (t1 := 491) hx3 hv2 rfl rfl rfl (fun c3 => ?_) (fun c3 => ?_)
  · refine js_aload (pc1 := 73) rfl rfl rfl ?_
    refine js_iconst (pc1 := 74) rfl rfl ?_
    refine js_iload (pc1 := 75) rfl rfl rfl ?_
    refine js_iload (pc1 := 76) rfl rfl rfl ?_
    refine js_iconst (pc1 := 77) rfl rfl ?_
    refine js_cP (pc1 := 80) (as := [(.inr (.inr (some 226))), (.inl 0), (.inl x1), (.inl x3), (.inl 0)]) (S0 := []) (m := 5) (L0 := [some (.inr (.inr (some 226))), some (.inl 0), some (.inl x1), some (.inl x3), some (.inl 0)]) rfl rfl rfl rfl rfl rfl rfl rfl (zrc_o rfl rfl) (by omega) (by omega) (z_M_field_ok N (by omega) (by omega) 0 (zlit rfl) x1 hx1 x3 hx3 0 (zlit rfl) A) (fun v4 _ hv4 => ?_)
    refine js_istore (pc1 := 82) (L1 := [some (.inr (.inr (some 226))), some (.inl x1), some (.inl x2), some (.inl x3), some (.inl v4), none, none, none, none]) rfl rfl rfl rfl ?_
    refine js_aload (pc1 := 83) rfl rfl rfl ?_
    refine js_iconst (pc1 := 84) rfl rfl ?_
    refine js_iload (pc1 := 85) rfl rfl rfl ?_
    refine js_iload (pc1 := 86) rfl rfl rfl ?_
    refine js_iconst (pc1 := 87) rfl rfl ?_
    refine js_cP (pc1 := 90) (as := [(.inr (.inr (some 226))), (.inl 0), (.inl x1), (.inl x3), (.inl 1)]) (S0 := []) (m := 5) (L0 := [some (.inr (.inr (some 226))), some (.inl 0), some (.inl x1), some (.inl x3), some (.inl 1)]) rfl rfl rfl rfl rfl rfl rfl rfl (zrc_o rfl rfl) (by omega) (by omega) (z_M_field_ok N (by omega) (by omega) 0 (zlit rfl) x1 hx1 x3 hx3 1 (zlit rfl) A) (fun v5 _ hv5 => ?_)
    refine js_istore (pc1 := 92) (L1 := [some (.inr (.inr (some 226))), some (.inl x1), some (.inl x2), some (.inl x3), some (.inl v4), some (.inl v5), none, none, none]) rfl rfl rfl rfl ?_
    refine js_iload (pc1 := 93) rfl rfl rfl ?_
    refine js_iconst (pc1 := 94) rfl rfl ?_
    refine js_iadd (pc1 := 95) rfl rfl ?_
    refine zG_w1 ?_
    refine js_istore (pc1 := 97) (L1 := [some (.inr (.inr (some 226))), some (.inl x1), some (.inl x2), some (.inl x3), some (.inl v4), some (.inl v5), some (.inl (zw (x3 + 1))), none, none]) rfl rfl rfl rfl ?_
    refine js_iload (pc1 := 99) rfl rfl rfl ?_
    refine js_iconst (pc1 := 101) rfl rfl ?_
    refine jt_ge (pc1 := 104) (t1 := 113) hv4 (zlit rfl) rfl rfl rfl (fun c6 => ?_) (fun c6 => ?_)
    · refine js_aload (pc1 := 105) rfl rfl rfl ?_
      refine js_iload (pc1 := 106) rfl rfl rfl ?_
      refine js_iload (pc1 := 107) rfl rfl rfl ?_
      refine js_cV (pc1 := 110) (as := [(.inr (.inr (some 226))), (.inl x1), (.inl x3)]) (S0 := []) (m := 10) (L0 := [some (.inr (.inr (some 226))), some (.inl x1), some (.inl x3), none, none, none, none, none, none, none]) rfl rfl rfl rfl rfl rfl rfl rfl (zrc_o rfl rfl) (by omega) (by omega) (z_M_simple_ok N (by omega) (by omega) x1 hx1 x3 hx3 A) (fun A7 _ => ?_)
      refine js_goto (t1 := 485) rfl rfl ?_
      refine js_iload (pc1 := 487) rfl rfl rfl ?_
      refine js_istore (pc1 := 488) (L1 := [some (.inr (.inr (some 226))), some (.inl x1), some (.inl x2), some (.inl (zw (x3 + 1))), some (.inl v4), some (.inl v5), some (.inl (zw (x3 + 1))), none, none]) rfl rfl rfl rfl ?_
      refine js_goto (t1 := 58) rfl rfl ?_
      exact zG_to (L := [some (.inr (.inr (some 226))), some (.inl x1), some (.inl x2), some (.inl (zw (x3 + 1))), none, none, none, none, none]) (S := []) ⟨rfl, ⟨rfl, ⟨rfl, ⟨rfl, trivial⟩⟩⟩⟩ (rfl) (hr58 x1 hx1 x2 hx2 (zw (x3 + 1)) (zw_rg (x3 + 1)) A7)
    · refine js_iload (pc1 := 115) rfl rfl rfl ?_
      refine js_iconst (pc1 := 117) rfl rfl ?_
      refine jt_ne (pc1 := 120) (t1 := 221) hv4 (zlit rfl) rfl rfl rfl (fun c8 => ?_) (fun c8 => ?_)
      · refine js_aload (pc1 := 121) rfl rfl rfl ?_
        refine js_gfr (pc1 := 124) (j := 32) (r := 245) rfl rfl rfl rfl rfl ?_
        refine js_iload (pc1 := 125) rfl rfl rfl ?_
        refine js_aload (pc1 := 126) rfl rfl rfl ?_
        refine js_gfr (pc1 := 129) (j := 26) (r := 239) rfl rfl rfl rfl rfl ?_
        refine js_iload (pc1 := 131) rfl rfl rfl ?_
        refine jt_ald (pc1 := 132) rfl rfl rfl rfl rfl (fun v9 hv9 => ?_)
        refine js_iconst (pc1 := 133) rfl rfl ?_
        refine jt_ne (pc1 := 136) (t1 := 140) hv9 (zlit rfl) rfl rfl rfl (fun c10 => ?_) (fun c10 => ?_)
        · refine js_iconst (pc1 := 137) rfl rfl ?_
          refine js_goto (t1 := 141) rfl rfl ?_
          exact zG_to (L := [some (.inr (.inr (some 226))), some (.inl x1), some (.inl x2), some (.inl x3), none, some (.inl v5), some (.inl (zw (x3 + 1))), none, none]) (S := [(.inl 1), (.inl x2), (.inr (.inr (some 245)))]) ⟨rfl, ⟨rfl, ⟨rfl, ⟨rfl, ⟨rfl, ⟨rfl, trivial⟩⟩⟩⟩⟩⟩ (rfl) (z_M_constants_141_ok hr58 N hd hw x1 hx1 x2 hx2 x3 hx3 v5 hv5 (zw (x3 + 1)) (zw_rg (x3 + 1)) x2 hx2 1 (zlit rfl) A)
        · refine js_iconst (pc1 := 141) rfl rfl ?_
          exact zG_to (L := [some (.inr (.inr (some 226))), some (.inl x1), some (.inl x2), some (.inl x3), none, some (.inl v5), some (.inl (zw (x3 + 1))), none, none]) (S := [(.inl 0), (.inl x2), (.inr (.inr (some 245)))]) ⟨rfl, ⟨rfl, ⟨rfl, ⟨rfl, ⟨rfl, ⟨rfl, trivial⟩⟩⟩⟩⟩⟩ (rfl) (z_M_constants_141_ok hr58 N hd hw x1 hx1 x2 hx2 x3 hx3 v5 hv5 (zw (x3 + 1)) (zw_rg (x3 + 1)) x2 hx2 0 (zlit rfl) A)
      · refine js_iload (pc1 := 223) rfl rfl rfl ?_
        refine js_iconst (pc1 := 225) rfl rfl ?_
        refine jt_ne (pc1 := 228) (t1 := 295) hv4 (zlit rfl) rfl rfl rfl (fun c11 => ?_) (fun c11 => ?_)
        · refine js_aload (pc1 := 229) rfl rfl rfl ?_
          refine js_gfr (pc1 := 232) (j := 32) (r := 245) rfl rfl rfl rfl rfl ?_
          refine js_iload (pc1 := 233) rfl rfl rfl ?_
          refine js_iconst (pc1 := 234) rfl rfl ?_
          refine js_isub (pc1 := 235) rfl rfl ?_
          refine jt_ald (pc1 := 236) rfl rfl rfl rfl rfl (fun v12 hv12 => ?_)
          refine ju_eq (pc1 := 239) (t1 := 256) hv12 rfl rfl rfl (fun c13 => ?_) (fun c13 => ?_)
          · refine js_aload (pc1 := 257) rfl rfl rfl ?_
            refine js_iload (pc1 := 258) rfl rfl rfl ?_
            refine js_iload (pc1 := 259) rfl rfl rfl ?_
            refine js_cV (pc1 := 262) (as := [(.inr (.inr (some 226))), (.inl x1), (.inl x3)]) (S0 := []) (m := 3) (L0 := [some (.inr (.inr (some 226))), some (.inl x1), some (.inl x3)]) rfl rfl rfl rfl rfl rfl rfl rfl (zrc_o rfl rfl) (by omega) (by omega) (z_M_keep_ok N (by omega) (by omega) x1 hx1 x3 hx3 A) (fun A14 _ => ?_)
            refine js_aload (pc1 := 263) rfl rfl rfl ?_
            refine js_aload (pc1 := 264) rfl rfl rfl ?_
            refine js_gfr (pc1 := 267) (j := 30) (r := 243) rfl rfl rfl rfl rfl ?_
            refine js_aload (pc1 := 268) rfl rfl rfl ?_
            refine js_gfr (pc1 := 271) (j := 31) (r := 244) rfl rfl rfl rfl rfl ?_
            refine js_iload (pc1 := 272) rfl rfl rfl ?_
            refine js_iconst (pc1 := 273) rfl rfl ?_
            refine js_isub (pc1 := 274) rfl rfl ?_
            refine js_cV (pc1 := 277) (as := [(.inr (.inr (some 226))), (.inr (.inr (some 243))), (.inr (.inr (some 244))), (.inl (x2 - 1))]) (S0 := []) (m := 5) (L0 := [some (.inr (.inr (some 226))), some (.inr (.inr (some 243))), some (.inr (.inr (some 244))), some (.inl (x2 - 1)), none]) rfl rfl rfl rfl rfl rfl rfl rfl (zrc_o rfl rfl) (by omega) (by omega) (zG_to (L := [some (.inr (.inr (some 226))), some (.inr (.inr (some 243))), some (.inr (.inr (some 244))), some (.inl (zw (x2 - 1))), none]) (S := []) ⟨rfl, ⟨rfl, ⟨rfl, ⟨zval_w (x2 - 1), trivial⟩⟩⟩⟩ rfl (z_M_saveKnown_243_244_ok N (by omega) (by omega) (zw (x2 - 1)) (zw_rg (x2 - 1)) A14)) (fun A15 _ => ?_)
            refine js_aload (pc1 := 278) rfl rfl rfl ?_
            refine js_aload (pc1 := 279) rfl rfl rfl ?_
            refine js_gfr (pc1 := 282) (j := 28) (r := 241) rfl rfl rfl rfl rfl ?_
            refine js_aload (pc1 := 283) rfl rfl rfl ?_
            refine js_gfr (pc1 := 286) (j := 29) (r := 242) rfl rfl rfl rfl rfl ?_
            refine js_iload (pc1 := 287) rfl rfl rfl ?_
            refine js_iconst (pc1 := 288) rfl rfl ?_
            refine js_isub (pc1 := 289) rfl rfl ?_
            refine js_cV (pc1 := 292) (as := [(.inr (.inr (some 226))), (.inr (.inr (some 241))), (.inr (.inr (some 242))), (.inl (x2 - 1))]) (S0 := []) (m := 5) (L0 := [some (.inr (.inr (some 226))), some (.inr (.inr (some 241))), some (.inr (.inr (some 242))), some (.inl (x2 - 1)), none]) rfl rfl rfl rfl rfl rfl rfl rfl (zrc_o rfl rfl) (by omega) (by omega) (zG_to (L := [some (.inr (.inr (some 226))), some (.inr (.inr (some 241))), some (.inr (.inr (some 242))), some (.inl (zw (x2 - 1))), none]) (S := []) ⟨rfl, ⟨rfl, ⟨rfl, ⟨zval_w (x2 - 1), trivial⟩⟩⟩⟩ rfl (z_M_loadKnown_241_242_ok N (by omega) (by omega) (zw (x2 - 1)) (zw_rg (x2 - 1)) A15)) (fun A16 _ => ?_)
            refine js_goto (t1 := 485) rfl rfl ?_
            refine js_iload (pc1 := 487) rfl rfl rfl ?_
            refine js_istore (pc1 := 488) (L1 := [some (.inr (.inr (some 226))), some (.inl x1), some (.inl x2), some (.inl (zw (x3 + 1))), some (.inl v4), some (.inl v5), some (.inl (zw (x3 + 1))), none, none]) rfl rfl rfl rfl ?_
            refine js_goto (t1 := 58) rfl rfl ?_
            exact zG_to (L := [some (.inr (.inr (some 226))), some (.inl x1), some (.inl x2), some (.inl (zw (x3 + 1))), none, none, none, none, none]) (S := []) ⟨rfl, ⟨rfl, ⟨rfl, ⟨rfl, trivial⟩⟩⟩⟩ (rfl) (hr58 x1 hx1 x2 hx2 (zw (x3 + 1)) (zw_rg (x3 + 1)) A16)
          · refine js_aload (pc1 := 240) rfl rfl rfl ?_
            refine js_gfr (pc1 := 243) (j := 9) (r := 231) rfl rfl rfl rfl rfl ?_
            refine js_iconst (pc1 := 246) rfl rfl ?_
            refine js_iload (pc1 := 247) rfl rfl rfl ?_
            refine js_imul (pc1 := 248) rfl rfl ?_
            refine js_iload (pc1 := 249) rfl rfl rfl ?_
            refine js_iadd (pc1 := 250) rfl rfl ?_
            refine jt_ald (pc1 := 251) rfl rfl rfl rfl rfl (fun v17 hv17 => ?_)
            refine js_istore (pc1 := 253) (L1 := [some (.inr (.inr (some 226))), some (.inl x1), some (.inl x2), some (.inl x3), some (.inl v4), some (.inl v5), some (.inl v17), none, none]) rfl rfl rfl rfl ?_
            refine js_goto (t1 := 485) rfl rfl ?_
            refine js_iload (pc1 := 487) rfl rfl rfl ?_
            refine js_istore (pc1 := 488) (L1 := [some (.inr (.inr (some 226))), some (.inl x1), some (.inl x2), some (.inl v17), some (.inl v4), some (.inl v5), some (.inl v17), none, none]) rfl rfl rfl rfl ?_
            refine js_goto (t1 := 58) rfl rfl ?_
            exact zG_to (L := [some (.inr (.inr (some 226))), some (.inl x1), some (.inl x2), some (.inl v17), none, none, none, none, none]) (S := []) ⟨rfl, ⟨rfl, ⟨rfl, ⟨rfl, trivial⟩⟩⟩⟩ (rfl) (hr58 x1 hx1 x2 hx2 v17 hv17 A)
        · refine js_iload (pc1 := 297) rfl rfl rfl ?_
          refine js_iconst (pc1 := 299) rfl rfl ?_
          refine jt_ne (pc1 := 302) (t1 := 382) hv4 (zlit rfl) rfl rfl rfl (fun c18 => ?_) (fun c18 => ?_)
          · refine js_aload (pc1 := 303) rfl rfl rfl ?_
            refine js_gfr (pc1 := 306) (j := 9) (r := 231) rfl rfl rfl rfl rfl ?_
            refine js_iconst (pc1 := 309) rfl rfl ?_
            refine js_iload (pc1 := 310) rfl rfl rfl ?_
            refine js_imul (pc1 := 311) rfl rfl ?_
            refine js_aload (pc1 := 312) rfl rfl rfl ?_
            refine js_gfr (pc1 := 315) (j := 9) (r := 231) rfl rfl rfl rfl rfl ?_
            refine js_iconst (pc1 := 318) rfl rfl ?_
            refine js_iload (pc1 := 319) rfl rfl rfl ?_
            refine js_imul (pc1 := 320) rfl rfl ?_
            refine js_iload (pc1 := 321) rfl rfl rfl ?_
            refine js_iadd (pc1 := 322) rfl rfl ?_
            refine jt_ald (pc1 := 323) rfl rfl rfl rfl rfl (fun v19 hv19 => ?_)
            refine js_iadd (pc1 := 324) rfl rfl ?_
            refine jt_ald (pc1 := 325) rfl rfl rfl rfl rfl (fun v20 hv20 => ?_)
            refine js_istore (pc1 := 327) (L1 := [some (.inr (.inr (some 226))), some (.inl x1), some (.inl x2), some (.inl x3), some (.inl v4), some (.inl v5), some (.inl (zw (x3 + 1))), some (.inl v20), none]) rfl rfl rfl rfl ?_
            refine js_iconst (pc1 := 328) rfl rfl ?_
            refine js_istore (pc1 := 330) (L1 := [some (.inr (.inr (some 226))), some (.inl x1), some (.inl x2), some (.inl x3), some (.inl v4), some (.inl v5), some (.inl (zw (x3 + 1))), some (.inl v20), some (.inl 0)]) rfl rfl rfl rfl ?_
            exact zG_to (L := [some (.inr (.inr (some 226))), some (.inl x1), some (.inl x2), some (.inl x3), none, none, some (.inl (zw (x3 + 1))), some (.inl v20), some (.inl 0)]) (S := []) ⟨rfl, ⟨rfl, ⟨rfl, ⟨rfl, ⟨rfl, ⟨rfl, ⟨rfl, trivial⟩⟩⟩⟩⟩⟩⟩ (rfl) (z_M_constants_330_ok hr58 N hd hw x1 hx1 x2 hx2 x3 hx3 (zw (x3 + 1)) (zw_rg (x3 + 1)) v20 hv20 0 (zlit rfl) A)
          · refine js_iload (pc1 := 384) rfl rfl rfl ?_
            refine js_iconst (pc1 := 386) rfl rfl ?_
            refine jt_ne (pc1 := 389) (t1 := 413) hv4 (zlit rfl) rfl rfl rfl (fun c21 => ?_) (fun c21 => ?_)
            · refine js_aload (pc1 := 390) rfl rfl rfl ?_
              refine js_aload (pc1 := 391) rfl rfl rfl ?_
              refine js_gfr (pc1 := 394) (j := 28) (r := 241) rfl rfl rfl rfl rfl ?_
              refine js_aload (pc1 := 395) rfl rfl rfl ?_
              refine js_gfr (pc1 := 398) (j := 29) (r := 242) rfl rfl rfl rfl rfl ?_
              refine js_iload (pc1 := 399) rfl rfl rfl ?_
              refine js_iconst (pc1 := 400) rfl rfl ?_
              refine js_isub (pc1 := 401) rfl rfl ?_
              refine js_cV (pc1 := 404) (as := [(.inr (.inr (some 226))), (.inr (.inr (some 241))), (.inr (.inr (some 242))), (.inl (x2 - 1))]) (S0 := []) (m := 5) (L0 := [some (.inr (.inr (some 226))), some (.inr (.inr (some 241))), some (.inr (.inr (some 242))), some (.inl (x2 - 1)), none]) rfl rfl rfl rfl rfl rfl rfl rfl (zrc_o rfl rfl) (by omega) (by omega) (zG_to (L := [some (.inr (.inr (some 226))), some (.inr (.inr (some 241))), some (.inr (.inr (some 242))), some (.inl (zw (x2 - 1))), none]) (S := []) ⟨rfl, ⟨rfl, ⟨rfl, ⟨zval_w (x2 - 1), trivial⟩⟩⟩⟩ rfl (z_M_saveKnown_241_242_ok N (by omega) (by omega) (zw (x2 - 1)) (zw_rg (x2 - 1)) A)) (fun A22 _ => ?_)
              refine js_aload (pc1 := 405) rfl rfl rfl ?_
              refine js_iload (pc1 := 406) rfl rfl rfl ?_
              refine js_iload (pc1 := 407) rfl rfl rfl ?_
              refine js_cV (pc1 := 410) (as := [(.inr (.inr (some 226))), (.inl x1), (.inl x3)]) (S0 := []) (m := 3) (L0 := [some (.inr (.inr (some 226))), some (.inl x1), some (.inl x3)]) rfl rfl rfl rfl rfl rfl rfl rfl (zrc_o rfl rfl) (by omega) (by omega) (z_M_keep_ok N (by omega) (by omega) x1 hx1 x3 hx3 A22) (fun A23 _ => ?_)
              refine js_goto (t1 := 485) rfl rfl ?_
              refine js_iload (pc1 := 487) rfl rfl rfl ?_
              refine js_istore (pc1 := 488) (L1 := [some (.inr (.inr (some 226))), some (.inl x1), some (.inl x2), some (.inl (zw (x3 + 1))), some (.inl v4), some (.inl v5), some (.inl (zw (x3 + 1))), none, none]) rfl rfl rfl rfl ?_
              refine js_goto (t1 := 58) rfl rfl ?_
              exact zG_to (L := [some (.inr (.inr (some 226))), some (.inl x1), some (.inl x2), some (.inl (zw (x3 + 1))), none, none, none, none, none]) (S := []) ⟨rfl, ⟨rfl, ⟨rfl, ⟨rfl, trivial⟩⟩⟩⟩ (rfl) (hr58 x1 hx1 x2 hx2 (zw (x3 + 1)) (zw_rg (x3 + 1)) A23)
            · refine js_iinc (pc1 := 416) (L1 := [some (.inr (.inr (some 226))), some (.inl x1), some (.inl (x2 + (-1))), some (.inl x3), some (.inl v4), some (.inl v5), some (.inl (zw (x3 + 1))), none, none]) rfl rfl rfl rfl ?_
              refine js_aload (pc1 := 417) rfl rfl rfl ?_
              refine js_gfr (pc1 := 420) (j := 32) (r := 245) rfl rfl rfl rfl rfl ?_
              refine js_iload (pc1 := 421) rfl rfl rfl ?_
              refine jt_ald (pc1 := 422) rfl rfl rfl rfl rfl (fun v24 hv24 => ?_)
              refine ju_ne (pc1 := 425) (t1 := 431) hv24 rfl rfl rfl (fun c25 => ?_) (fun c25 => ?_)
              · refine js_aload (pc1 := 426) rfl rfl rfl ?_
                refine js_iload (pc1 := 427) rfl rfl rfl ?_
                refine js_iload (pc1 := 428) rfl rfl rfl ?_
                refine js_cV (pc1 := 431) (as := [(.inr (.inr (some 226))), (.inl x1), (.inl x3)]) (S0 := []) (m := 3) (L0 := [some (.inr (.inr (some 226))), some (.inl x1), some (.inl x3)]) rfl rfl rfl rfl rfl rfl rfl rfl (zrc_o rfl rfl) (by omega) (by omega) (z_M_keep_ok N (by omega) (by omega) x1 hx1 x3 hx3 A) (fun A26 _ => ?_)
                exact zG_to (L := [some (.inr (.inr (some 226))), some (.inl x1), some (.inl (zw (x2 + (-1)))), some (.inl x3), none, none, some (.inl (zw (x3 + 1))), none, none]) (S := []) ⟨rfl, ⟨rfl, ⟨zval_w (x2 + (-1)), ⟨rfl, ⟨rfl, trivial⟩⟩⟩⟩⟩ (rfl) (z_M_constants_431_ok hr58 N hd hw x1 hx1 (zw (x2 + (-1))) (zw_rg (x2 + (-1))) x3 hx3 (zw (x3 + 1)) (zw_rg (x3 + 1)) A26)
              · exact zG_to (L := [some (.inr (.inr (some 226))), some (.inl x1), some (.inl (zw (x2 + (-1)))), some (.inl x3), none, none, some (.inl (zw (x3 + 1))), none, none]) (S := []) ⟨rfl, ⟨rfl, ⟨zval_w (x2 + (-1)), ⟨rfl, ⟨rfl, trivial⟩⟩⟩⟩⟩ (rfl) (z_M_constants_431_ok hr58 N hd hw x1 hx1 (zw (x2 + (-1))) (zw_rg (x2 + (-1))) x3 hx3 (zw (x3 + 1)) (zw_rg (x3 + 1)) A)
  · exact je_V rfl
theorem z_M_constants_58_lok{d w : Nat} (N : Nat) (hd : 5 ≤ d) (hw : 121 ≤ w) (n : Nat) : ∀ (x1 : Int) (hx1 : zrg x1) (x2 : Int) (hx2 : zrg x2) (x3 : Int) (hx3 : zrg x3) (A : zA), zG (z_M_constants_58_l N n x1 x2 x3 A) zPV d w 51 58 [some (.inr (.inr (some 226))), some (.inl x1), some (.inl x2), some (.inl x3), none, none, none, none, none] [] A := by
  induction n with
  | zero => intros; exact zG_none
  | succ n ih =>
    intro x1 hx1 x2 hx2 x3 hx3 A
    exact z_M_constants_58_bok ih N hd hw x1 hx1 x2 hx2 x3 hx3 A
theorem z_M_constants_58_ok{d w : Nat} (N : Nat) (hd : 5 ≤ d) (hw : 121 ≤ w) (x1 : Int) (hx1 : zrg x1) (x2 : Int) (hx2 : zrg x2) (x3 : Int) (hx3 : zrg x3) (A : zA) : zG (z_M_constants_58 N x1 x2 x3 A) zPV d w 51 58 [some (.inr (.inr (some 226))), some (.inl x1), some (.inl x2), some (.inl x3), none, none, none, none, none] [] A := z_M_constants_58_lok N hd hw N x1 hx1 x2 hx2 x3 hx3 A
theorem z_M_constants_19_bok{d w : Nat} {r19 : Int → Int → zA → Option zA} (hr19 : ∀ (x1 : Int) (hx1 : zrg x1) (x2 : Int) (hx2 : zrg x2) (A : zA), zG (r19 x1 x2 A) zPV d w 51 19 [some (.inr (.inr (some 226))), some (.inl x1), some (.inl x2), none, none, none, none, none, none] [] A) (N : Nat) (hd : 5 ≤ d) (hw : 121 ≤ w) (x1 : Int) (hx1 : zrg x1) (x2 : Int) (hx2 : zrg x2) (A : zA) : zG (z_M_constants_19_b r19 N x1 x2 A) zPV d w 51 19 [some (.inr (.inr (some 226))), some (.inl x1), some (.inl x2), none, none, none, none, none, none] [] A := by
  unfold z_M_constants_19_b
  refine js_iload (pc1 := 20) rfl rfl rfl ?_
  refine js_iconst (pc1 := 22) rfl rfl ?_
  refine jt_ge (pc1 := 25) (t1 := 54) hx2 (zlit rfl) rfl rfl rfl (fun c1 => ?_) (fun c1 => ?_)
  · refine js_aload (pc1 := 26) rfl rfl rfl ?_
    refine js_gfr (pc1 := 29) (j := 26) (r := 239) rfl rfl rfl rfl rfl ?_
    refine js_iload (pc1 := 30) rfl rfl rfl ?_
    refine js_iload (pc1 := 31) rfl rfl rfl ?_
    refine js_iconst (pc1 := 32) rfl rfl ?_
    refine jt_ne (pc1 := 35) (t1 := 39) hx1 (zlit rfl) rfl rfl rfl (fun c2 => ?_) (fun c2 => ?_)
    · refine js_iconst (pc1 := 36) rfl rfl ?_
      refine js_goto (t1 := 40) rfl rfl ?_
      refine jt_ias (pc1 := 41) rfl rfl rfl rfl (fun A3 => ?_)
      refine js_aload (pc1 := 42) rfl rfl rfl ?_
      refine js_gfr (pc1 := 45) (j := 27) (r := 240) rfl rfl rfl rfl rfl ?_
      refine js_iload (pc1 := 46) rfl rfl rfl ?_
      refine js_iconst (pc1 := 47) rfl rfl ?_
      refine jt_ias (pc1 := 48) rfl rfl rfl rfl (fun A4 => ?_)
      refine js_iinc (pc1 := 51) (L1 := [some (.inr (.inr (some 226))), some (.inl x1), some (.inl (x2 + 1)), none, none, none, none, none, none]) rfl rfl rfl rfl ?_
      refine js_goto (t1 := 19) rfl rfl ?_
      exact zG_to (L := [some (.inr (.inr (some 226))), some (.inl x1), some (.inl (zw (x2 + 1))), none, none, none, none, none, none]) (S := []) ⟨rfl, ⟨rfl, ⟨zval_w (x2 + 1), trivial⟩⟩⟩ (rfl) (hr19 x1 hx1 (zw (x2 + 1)) (zw_rg (x2 + 1)) A4)
    · refine js_iconst (pc1 := 40) rfl rfl ?_
      refine jt_ias (pc1 := 41) rfl rfl rfl rfl (fun A5 => ?_)
      refine js_aload (pc1 := 42) rfl rfl rfl ?_
      refine js_gfr (pc1 := 45) (j := 27) (r := 240) rfl rfl rfl rfl rfl ?_
      refine js_iload (pc1 := 46) rfl rfl rfl ?_
      refine js_iconst (pc1 := 47) rfl rfl ?_
      refine jt_ias (pc1 := 48) rfl rfl rfl rfl (fun A6 => ?_)
      refine js_iinc (pc1 := 51) (L1 := [some (.inr (.inr (some 226))), some (.inl x1), some (.inl (x2 + 1)), none, none, none, none, none, none]) rfl rfl rfl rfl ?_
      refine js_goto (t1 := 19) rfl rfl ?_
      exact zG_to (L := [some (.inr (.inr (some 226))), some (.inl x1), some (.inl (zw (x2 + 1))), none, none, none, none, none, none]) (S := []) ⟨rfl, ⟨rfl, ⟨zval_w (x2 + 1), trivial⟩⟩⟩ (rfl) (hr19 x1 hx1 (zw (x2 + 1)) (zw_rg (x2 + 1)) A6)
  · refine js_iconst (pc1 := 55) rfl rfl ?_
    refine js_istore (pc1 := 56) (L1 := [some (.inr (.inr (some 226))), some (.inl x1), some (.inl 0), none, none, none, none, none, none]) rfl rfl rfl rfl ?_
    refine js_iconst (pc1 := 57) rfl rfl ?_
    refine js_istore (pc1 := 58) (L1 := [some (.inr (.inr (some 226))), some (.inl x1), some (.inl 0), some (.inl 0), none, none, none, none, none]) rfl rfl rfl rfl ?_
    exact z_M_constants_58_ok N hd hw x1 hx1 0 (zlit rfl) 0 (zlit rfl) A
theorem z_M_constants_19_lok{d w : Nat} (N : Nat) (hd : 5 ≤ d) (hw : 121 ≤ w) (n : Nat) : ∀ (x1 : Int) (hx1 : zrg x1) (x2 : Int) (hx2 : zrg x2) (A : zA), zG (z_M_constants_19_l N n x1 x2 A) zPV d w 51 19 [some (.inr (.inr (some 226))), some (.inl x1), some (.inl x2), none, none, none, none, none, none] [] A := by
  induction n with
  | zero => intros; exact zG_none
  | succ n ih =>
    intro x1 hx1 x2 hx2 A
    exact z_M_constants_19_bok ih N hd hw x1 hx1 x2 hx2 A
theorem z_M_constants_19_ok{d w : Nat} (N : Nat) (hd : 5 ≤ d) (hw : 121 ≤ w) (x1 : Int) (hx1 : zrg x1) (x2 : Int) (hx2 : zrg x2) (A : zA) : zG (z_M_constants_19 N x1 x2 A) zPV d w 51 19 [some (.inr (.inr (some 226))), some (.inl x1), some (.inl x2), none, none, none, none, none, none] [] A := z_M_constants_19_lok N hd hw N x1 hx1 x2 hx2 A
theorem z_M_constants_ok{d w : Nat} (N : Nat) (hd : 5 ≤ d) (hw : 121 ≤ w) (x1 : Int) (hx1 : zrg x1) (A : zA) : zG (z_M_constants N x1 A) zPV d w 51 0 [some (.inr (.inr (some 226))), some (.inl x1), none, none, none, none, none, none, none] [] A := by
  unfold z_M_constants
  refine js_aload (pc1 := 1) rfl rfl rfl ?_
  refine js_iconst (pc1 := 2) rfl rfl ?_
  refine js_iload (pc1 := 3) rfl rfl rfl ?_
  refine js_cV (pc1 := 6) (as := [(.inr (.inr (some 226))), (.inl 0), (.inl x1)]) (S0 := []) (m := 6) (L0 := [some (.inr (.inr (some 226))), some (.inl 0), some (.inl x1), none, none, none]) rfl rfl rfl rfl rfl rfl rfl rfl (zrc_o rfl rfl) (by omega) (by omega) (z_M_match_ok N (by omega) (by omega) 0 (zlit rfl) x1 hx1 A) (fun A1 _ => ?_)
  refine js_aload (pc1 := 7) rfl rfl rfl ?_
  refine js_gfr (pc1 := 10) (j := 4) (r := 229) rfl rfl rfl rfl rfl ?_
  refine js_iconst (pc1 := 11) rfl rfl ?_
  refine js_iload (pc1 := 12) rfl rfl rfl ?_
  refine js_cP (pc1 := 15) (as := [(.inl 1), (.inl x1)]) (S0 := [(.inr (.inr (some 229)))]) (m := 2) (L0 := [some (.inl 1), some (.inl x1)]) rfl rfl rfl rfl rfl rfl rfl rfl (zrc_s rfl) (by omega) (by omega) (z_M_row_ok N (by omega) (by omega) 1 (zlit rfl) x1 hx1 A1) (fun v2 _ hv2 => ?_)
  refine js_iconst (pc1 := 16) rfl rfl ?_
  refine jt_ias (pc1 := 17) rfl rfl rfl rfl (fun A3 => ?_)
  refine js_iconst (pc1 := 18) rfl rfl ?_
  refine js_istore (pc1 := 19) (L1 := [some (.inr (.inr (some 226))), some (.inl x1), some (.inl 0), none, none, none, none, none, none]) rfl rfl rfl rfl ?_
  exact z_M_constants_19_ok N hd hw x1 hx1 0 (zlit rfl) A3
theorem z_M_newName_ok{d w : Nat} (N : Nat) (hd : 0 ≤ d) (hw : 0 ≤ w) (A : zA) : zG (z_M_newName N A) zPI d w 99 0 [some (.inr (.inr (some 226)))] [] A := by
  unfold z_M_newName
  refine js_aload (pc1 := 1) rfl rfl rfl ?_
  refine js_gfr (pc1 := 4) (j := 36) (r := 246) rfl rfl rfl rfl rfl ?_
  refine js_aload (pc1 := 5) rfl rfl rfl ?_
  refine js_gi (pc1 := 8) (j := 34) rfl rfl rfl rfl ?_
  refine js_iconst (pc1 := 9) rfl rfl ?_
  refine jt_ias (pc1 := 10) rfl rfl rfl rfl (fun A1 => ?_)
  refine js_aload (pc1 := 11) rfl rfl rfl ?_
  refine js_dupR (pc1 := 12) rfl rfl ?_
  refine js_gi (pc1 := 15) (j := 34) rfl rfl rfl rfl ?_
  refine js_iconst (pc1 := 16) rfl rfl ?_
  refine js_iadd (pc1 := 17) rfl rfl ?_
  refine jt_pi (pc1 := 20) (j := 34) rfl rfl rfl rfl rfl (fun A2 => ?_)
  refine js_aload (pc1 := 21) rfl rfl rfl ?_
  refine js_gi (pc1 := 24) (j := 34) rfl rfl rfl rfl ?_
  refine js_iconst (pc1 := 25) rfl rfl ?_
  refine js_isub (pc1 := 26) rfl rfl ?_
  exact je_I rfl (zfit0 _ rfl) (zval_w ((zi A2 226 34) - 1)) (zw_rg ((zi A2 226 34) - 1))
theorem z_M_renew_12_bok{d w : Nat} {r12 : Int → zA → Option zA} (hr12 : ∀ (x1 : Int) (hx1 : zrg x1) (A : zA), zG (r12 x1 A) zPV d w 95 12 [some (.inr (.inr (some 226))), some (.inl x1)] [] A) (N : Nat) (hd : 1 ≤ d) (hw : 20 ≤ w) (x1 : Int) (hx1 : zrg x1) (A : zA) : zG (z_M_renew_12_b r12 N x1 A) zPV d w 95 12 [some (.inr (.inr (some 226))), some (.inl x1)] [] A := by
  unfold z_M_renew_12_b
  refine js_iload (pc1 := 13) rfl rfl rfl ?_
  refine js_iconst (pc1 := 15) rfl rfl ?_
  refine jt_ge (pc1 := 18) (t1 := 34) hx1 (zlit rfl) rfl rfl rfl (fun c1 => ?_) (fun c1 => ?_)
  · refine js_aload (pc1 := 19) rfl rfl rfl ?_
    refine js_gfr (pc1 := 22) (j := 39) (r := 249) rfl rfl rfl rfl rfl ?_
    refine js_iload (pc1 := 23) rfl rfl rfl ?_
    refine js_aload (pc1 := 24) rfl rfl rfl ?_
    refine js_cI (pc1 := 27) (as := [(.inr (.inr (some 226)))]) (S0 := [(.inl x1), (.inr (.inr (some 249)))]) (m := 1) (L0 := [some (.inr (.inr (some 226)))]) rfl rfl rfl rfl rfl rfl rfl rfl (zrc_o rfl rfl) (by omega) (by omega) (z_M_newName_ok N (by omega) (by omega) A) (fun v2 A3 _ hv2 => ?_)
    refine jt_ias (pc1 := 28) rfl rfl rfl rfl (fun A4 => ?_)
    refine js_iinc (pc1 := 31) (L1 := [some (.inr (.inr (some 226))), some (.inl (x1 + 1))]) rfl rfl rfl rfl ?_
    refine js_goto (t1 := 12) rfl rfl ?_
    exact zG_to (L := [some (.inr (.inr (some 226))), some (.inl (zw (x1 + 1)))]) (S := []) ⟨rfl, ⟨zval_w (x1 + 1), trivial⟩⟩ (rfl) (hr12 (zw (x1 + 1)) (zw_rg (x1 + 1)) A4)
  · exact je_V rfl
theorem z_M_renew_12_lok{d w : Nat} (N : Nat) (hd : 1 ≤ d) (hw : 20 ≤ w) (n : Nat) : ∀ (x1 : Int) (hx1 : zrg x1) (A : zA), zG (z_M_renew_12_l N n x1 A) zPV d w 95 12 [some (.inr (.inr (some 226))), some (.inl x1)] [] A := by
  induction n with
  | zero => intros; exact zG_none
  | succ n ih =>
    intro x1 hx1 A
    exact z_M_renew_12_bok ih N hd hw x1 hx1 A
theorem z_M_renew_12_ok{d w : Nat} (N : Nat) (hd : 1 ≤ d) (hw : 20 ≤ w) (x1 : Int) (hx1 : zrg x1) (A : zA) : zG (z_M_renew_12 N x1 A) zPV d w 95 12 [some (.inr (.inr (some 226))), some (.inl x1)] [] A := z_M_renew_12_lok N hd hw N x1 hx1 A
theorem z_M_renew_ok{d w : Nat} (N : Nat) (hd : 1 ≤ d) (hw : 20 ≤ w) (A : zA) : zG (z_M_renew N A) zPV d w 95 0 [some (.inr (.inr (some 226))), none] [] A := by
  unfold z_M_renew
  refine js_aload (pc1 := 1) rfl rfl rfl ?_
  refine js_iconst (pc1 := 2) rfl rfl ?_
  refine jt_pi (pc1 := 5) (j := 34) rfl rfl rfl rfl rfl (fun A1 => ?_)
  refine js_aload (pc1 := 6) rfl rfl rfl ?_
  refine js_iconst (pc1 := 7) rfl rfl ?_
  refine jt_pi (pc1 := 10) (j := 35) rfl rfl rfl rfl rfl (fun A2 => ?_)
  refine js_iconst (pc1 := 11) rfl rfl ?_
  refine js_istore (pc1 := 12) (L1 := [some (.inr (.inr (some 226))), some (.inl 0)]) rfl rfl rfl rfl ?_
  exact z_M_renew_12_ok N hd hw 0 (zlit rfl) A2
theorem z_M_readAt_ok{d w : Nat} (N : Nat) (hd : 0 ≤ d) (hw : 0 ≤ w) (x0 : Int) (hx0 : zrg x0) (x1 : Int) (hx1 : zrg x1) (A : zA) : zG (z_M_readAt N x0 x1 A) (zPp A) d w 96 0 [some (.inl x0), some (.inl x1)] [] A := by
  unfold z_M_readAt
  refine js_iload (pc1 := 1) rfl rfl rfl ?_
  refine js_iconst (pc1 := 2) rfl rfl ?_
  refine jt_ne (pc1 := 5) (t1 := 9) hx0 (zlit rfl) rfl rfl rfl (fun c1 => ?_) (fun c1 => ?_)
  · refine js_iconst (pc1 := 6) rfl rfl ?_
    refine js_iload (pc1 := 7) rfl rfl rfl ?_
    refine js_iadd (pc1 := 8) rfl rfl ?_
    exact je_P rfl (zfit0 _ rfl) (zval_w (2 + x1)) (zw_rg (2 + x1))
  · refine js_iload (pc1 := 10) rfl rfl rfl ?_
    refine js_iconst (pc1 := 11) rfl rfl ?_
    refine jt_ne (pc1 := 14) (t1 := 18) hx0 (zlit rfl) rfl rfl rfl (fun c2 => ?_) (fun c2 => ?_)
    · refine js_iconst (pc1 := 15) rfl rfl ?_
      refine js_iload (pc1 := 16) rfl rfl rfl ?_
      refine js_iadd (pc1 := 17) rfl rfl ?_
      exact je_P rfl (zfit0 _ rfl) (zval_w (1 + x1)) (zw_rg (1 + x1))
    · refine js_iload (pc1 := 19) rfl rfl rfl ?_
      refine ju_le (pc1 := 22) (t1 := 24) hx1 rfl rfl rfl (fun c3 => ?_) (fun c3 => ?_)
      · refine js_iconst (pc1 := 23) rfl rfl ?_
        exact je_P rfl (zfit0 _ rfl) rfl (zlit rfl)
      · refine js_iload (pc1 := 25) rfl rfl rfl ?_
        refine js_iconst (pc1 := 26) rfl rfl ?_
        refine jt_eq (pc1 := 29) (t1 := 34) hx0 (zlit rfl) rfl rfl rfl (fun c4 => ?_) (fun c4 => ?_)
        · refine js_iconst (pc1 := 35) rfl rfl ?_
          exact je_P rfl (zfit0 _ rfl) rfl (zlit rfl)
        · refine js_iload (pc1 := 30) rfl rfl rfl ?_
          refine js_iconst (pc1 := 31) rfl rfl ?_
          refine jt_ne (pc1 := 34) (t1 := 36) hx0 (zlit rfl) rfl rfl rfl (fun c5 => ?_) (fun c5 => ?_)
          · refine js_iconst (pc1 := 35) rfl rfl ?_
            exact je_P rfl (zfit0 _ rfl) rfl (zlit rfl)
          · refine js_iload (pc1 := 37) rfl rfl rfl ?_
            refine js_iconst (pc1 := 39) rfl rfl ?_
            refine jt_eq (pc1 := 42) (t1 := 60) hx0 (zlit rfl) rfl rfl rfl (fun c6 => ?_) (fun c6 => ?_)
            · refine js_iconst (pc1 := 61) rfl rfl ?_
              refine js_goto (t1 := 65) rfl rfl ?_
              exact je_P rfl (zfit0 _ rfl) rfl (zlit rfl)
            · refine js_iload (pc1 := 43) rfl rfl rfl ?_
              refine js_iconst (pc1 := 45) rfl rfl ?_
              refine jt_eq (pc1 := 48) (t1 := 60) hx0 (zlit rfl) rfl rfl rfl (fun c7 => ?_) (fun c7 => ?_)
              · refine js_iconst (pc1 := 61) rfl rfl ?_
                refine js_goto (t1 := 65) rfl rfl ?_
                exact je_P rfl (zfit0 _ rfl) rfl (zlit rfl)
              · refine js_iload (pc1 := 49) rfl rfl rfl ?_
                refine js_iconst (pc1 := 51) rfl rfl ?_
                refine jt_eq (pc1 := 54) (t1 := 60) hx0 (zlit rfl) rfl rfl rfl (fun c8 => ?_) (fun c8 => ?_)
                · refine js_iconst (pc1 := 61) rfl rfl ?_
                  refine js_goto (t1 := 65) rfl rfl ?_
                  exact je_P rfl (zfit0 _ rfl) rfl (zlit rfl)
                · refine js_iload (pc1 := 55) rfl rfl rfl ?_
                  refine js_iconst (pc1 := 57) rfl rfl ?_
                  refine jt_ne (pc1 := 60) (t1 := 64) hx0 (zlit rfl) rfl rfl rfl (fun c9 => ?_) (fun c9 => ?_)
                  · refine js_iconst (pc1 := 61) rfl rfl ?_
                    refine js_goto (t1 := 65) rfl rfl ?_
                    exact je_P rfl (zfit0 _ rfl) rfl (zlit rfl)
                  · refine js_iconst (pc1 := 65) rfl rfl ?_
                    exact je_P rfl (zfit0 _ rfl) rfl (zlit rfl)
theorem z_M_least_16_bok{d w : Nat} {r16 : Int → Int → Int → zA → Option Int} (hr16 : ∀ (x2 : Int) (hx2 : zrg x2) (x3 : Int) (hx3 : zrg x3) (x4 : Int) (hx4 : zrg x4) (A : zA), zG (r16 x2 x3 x4 A) (zPp A) d w 97 16 [some (.inr (.inr (some 226))), none, some (.inl x2), some (.inl x3), some (.inl x4)] [] A) (N : Nat) (hd : 1 ≤ d) (hw : 21 ≤ w) (x2 : Int) (hx2 : zrg x2) (x3 : Int) (hx3 : zrg x3) (x4 : Int) (hx4 : zrg x4) (A : zA) : zG (z_M_least_16_b r16 N x2 x3 x4 A) (zPp A) d w 97 16 [some (.inr (.inr (some 226))), none, some (.inl x2), some (.inl x3), some (.inl x4)] [] A := by
  unfold z_M_least_16_b
  refine js_iload (pc1 := 18) rfl rfl rfl ?_
  refine ju_lt (pc1 := 21) (t1 := 45) hx4 rfl rfl rfl (fun c1 => ?_) (fun c1 => ?_)
  · refine js_iload (pc1 := 46) rfl rfl rfl ?_
    exact je_P rfl (zfit0 _ rfl) rfl hx3
  · refine js_aload (pc1 := 22) rfl rfl rfl ?_
    refine js_gfr (pc1 := 25) (j := 39) (r := 249) rfl rfl rfl rfl rfl ?_
    refine js_iload (pc1 := 27) rfl rfl rfl ?_
    refine jt_ald (pc1 := 28) rfl rfl rfl rfl rfl (fun v2 hv2 => ?_)
    refine js_iload (pc1 := 29) rfl rfl rfl ?_
    refine jt_ne (pc1 := 32) (t1 := 37) hv2 hx2 rfl rfl rfl (fun c3 => ?_) (fun c3 => ?_)
    · refine js_iload (pc1 := 34) rfl rfl rfl ?_
      refine js_goto (t1 := 38) rfl rfl ?_
      refine js_istore (pc1 := 39) (L1 := [some (.inr (.inr (some 226))), none, some (.inl x2), some (.inl x4), some (.inl x4)]) rfl rfl rfl rfl ?_
      refine js_iinc (pc1 := 42) (L1 := [some (.inr (.inr (some 226))), none, some (.inl x2), some (.inl x4), some (.inl (x4 + (-1)))]) rfl rfl rfl rfl ?_
      refine js_goto (t1 := 16) rfl rfl ?_
      exact zG_to (L := [some (.inr (.inr (some 226))), none, some (.inl x2), some (.inl x4), some (.inl (zw (x4 + (-1))))]) (S := []) ⟨rfl, ⟨rfl, ⟨rfl, ⟨zval_w (x4 + (-1)), trivial⟩⟩⟩⟩ (rfl) (hr16 x2 hx2 x4 hx4 (zw (x4 + (-1))) (zw_rg (x4 + (-1))) A)
    · refine js_iload (pc1 := 38) rfl rfl rfl ?_
      refine js_istore (pc1 := 39) (L1 := [some (.inr (.inr (some 226))), none, some (.inl x2), some (.inl x3), some (.inl x4)]) rfl rfl rfl rfl ?_
      refine js_iinc (pc1 := 42) (L1 := [some (.inr (.inr (some 226))), none, some (.inl x2), some (.inl x3), some (.inl (x4 + (-1)))]) rfl rfl rfl rfl ?_
      refine js_goto (t1 := 16) rfl rfl ?_
      exact zG_to (L := [some (.inr (.inr (some 226))), none, some (.inl x2), some (.inl x3), some (.inl (zw (x4 + (-1))))]) (S := []) ⟨rfl, ⟨rfl, ⟨rfl, ⟨zval_w (x4 + (-1)), trivial⟩⟩⟩⟩ (rfl) (hr16 x2 hx2 x3 hx3 (zw (x4 + (-1))) (zw_rg (x4 + (-1))) A)
theorem z_M_least_16_lok{d w : Nat} (N : Nat) (hd : 1 ≤ d) (hw : 21 ≤ w) (n : Nat) : ∀ (x2 : Int) (hx2 : zrg x2) (x3 : Int) (hx3 : zrg x3) (x4 : Int) (hx4 : zrg x4) (A : zA), zG (z_M_least_16_l N n x2 x3 x4 A) (zPp A) d w 97 16 [some (.inr (.inr (some 226))), none, some (.inl x2), some (.inl x3), some (.inl x4)] [] A := by
  induction n with
  | zero => intros; exact zG_none
  | succ n ih =>
    intro x2 hx2 x3 hx3 x4 hx4 A
    exact z_M_least_16_bok ih N hd hw x2 hx2 x3 hx3 x4 hx4 A
theorem z_M_least_16_ok{d w : Nat} (N : Nat) (hd : 1 ≤ d) (hw : 21 ≤ w) (x2 : Int) (hx2 : zrg x2) (x3 : Int) (hx3 : zrg x3) (x4 : Int) (hx4 : zrg x4) (A : zA) : zG (z_M_least_16 N x2 x3 x4 A) (zPp A) d w 97 16 [some (.inr (.inr (some 226))), none, some (.inl x2), some (.inl x3), some (.inl x4)] [] A := z_M_least_16_lok N hd hw N x2 hx2 x3 hx3 x4 hx4 A
theorem z_M_least_ok{d w : Nat} (N : Nat) (hd : 1 ≤ d) (hw : 21 ≤ w) (x1 : Int) (hx1 : zrg x1) (x2 : Int) (hx2 : zrg x2) (A : zA) : zG (z_M_least N x1 x2 A) (zPp A) d w 97 0 [some (.inr (.inr (some 226))), some (.inl x1), some (.inl x2), none, none] [] A := by
  unfold z_M_least
  refine js_iconst (pc1 := 1) rfl rfl ?_
  refine js_istore (pc1 := 2) (L1 := [some (.inr (.inr (some 226))), some (.inl x1), some (.inl x2), some (.inl (-1)), none]) rfl rfl rfl rfl ?_
  refine js_aload (pc1 := 3) rfl rfl rfl ?_
  refine js_gfr (pc1 := 6) (j := 5) (r := 230) rfl rfl rfl rfl rfl ?_
  refine js_iconst (pc1 := 7) rfl rfl ?_
  refine js_iload (pc1 := 8) rfl rfl rfl ?_
  refine js_cP (pc1 := 11) (as := [(.inl 0), (.inl x1)]) (S0 := [(.inr (.inr (some 230)))]) (m := 2) (L0 := [some (.inl 0), some (.inl x1)]) rfl rfl rfl rfl rfl rfl rfl rfl (zrc_s rfl) (by omega) (by omega) (z_M_row_ok N (by omega) (by omega) 0 (zlit rfl) x1 hx1 A) (fun v1 _ hv1 => ?_)
  refine jt_ald (pc1 := 12) rfl rfl rfl rfl rfl (fun v2 hv2 => ?_)
  refine js_iconst (pc1 := 13) rfl rfl ?_
  refine js_isub (pc1 := 14) rfl rfl ?_
  refine zG_w1 ?_
  refine js_istore (pc1 := 16) (L1 := [some (.inr (.inr (some 226))), some (.inl x1), some (.inl x2), some (.inl (-1)), some (.inl (zw (v2 - 1)))]) rfl rfl rfl rfl ?_
  exact zG_to (L := [some (.inr (.inr (some 226))), none, some (.inl x2), some (.inl (-1)), some (.inl (zw (v2 - 1)))]) (S := []) ⟨rfl, ⟨rfl, ⟨rfl, ⟨rfl, trivial⟩⟩⟩⟩ (rfl) (z_M_least_16_ok N hd hw x2 hx2 (-1) (zlit rfl) (zw (v2 - 1)) (zw_rg (v2 - 1)) A)
theorem z_M_nameOf_54_ok{d w : Nat} (N : Nat) (hd : 0 ≤ d) (hw : 0 ≤ w) (x1 : Int) (hx1 : zrg x1) (x2 : Int) (hx2 : zrg x2) (x3 : Int) (hx3 : zrg x3) (A : zA) : zG (z_M_nameOf_54 N x1 x2 x3 A) zPI d w 98 54 [some (.inr (.inr (some 226))), some (.inl x1), some (.inl x2), some (.inl x3), none] [] A := by
  unfold z_M_nameOf_54
  refine js_aload (pc1 := 55) rfl rfl rfl ?_
  refine js_gfr (pc1 := 58) (j := 36) (r := 246) rfl rfl rfl rfl rfl ?_
  refine js_aload (pc1 := 59) rfl rfl rfl ?_
  refine js_gi (pc1 := 62) (j := 34) rfl rfl rfl rfl ?_
  refine js_iload (pc1 := 63) rfl rfl rfl ?_
  refine jt_ias (pc1 := 64) rfl rfl rfl rfl (fun A1 => ?_)
  refine js_aload (pc1 := 65) rfl rfl rfl ?_
  refine js_gfr (pc1 := 68) (j := 37) (r := 247) rfl rfl rfl rfl rfl ?_
  refine js_aload (pc1 := 69) rfl rfl rfl ?_
  refine js_gi (pc1 := 72) (j := 34) rfl rfl rfl rfl ?_
  refine js_iload (pc1 := 73) rfl rfl rfl ?_
  refine jt_ias (pc1 := 74) rfl rfl rfl rfl (fun A2 => ?_)
  refine js_aload (pc1 := 75) rfl rfl rfl ?_
  refine js_gfr (pc1 := 78) (j := 38) (r := 248) rfl rfl rfl rfl rfl ?_
  refine js_aload (pc1 := 79) rfl rfl rfl ?_
  refine js_gi (pc1 := 82) (j := 34) rfl rfl rfl rfl ?_
  refine js_iload (pc1 := 83) rfl rfl rfl ?_
  refine jt_ias (pc1 := 84) rfl rfl rfl rfl (fun A3 => ?_)
  refine js_aload (pc1 := 85) rfl rfl rfl ?_
  refine js_dupR (pc1 := 86) rfl rfl ?_
  refine js_gi (pc1 := 89) (j := 34) rfl rfl rfl rfl ?_
  refine js_iconst (pc1 := 90) rfl rfl ?_
  refine js_iadd (pc1 := 91) rfl rfl ?_
  refine jt_pi (pc1 := 94) (j := 34) rfl rfl rfl rfl rfl (fun A4 => ?_)
  refine js_aload (pc1 := 95) rfl rfl rfl ?_
  refine js_gi (pc1 := 98) (j := 34) rfl rfl rfl rfl ?_
  refine js_iconst (pc1 := 99) rfl rfl ?_
  refine js_isub (pc1 := 100) rfl rfl ?_
  exact je_I rfl (zfit0 _ rfl) (zval_w ((zi A4 226 34) - 1)) (zw_rg ((zi A4 226 34) - 1))
theorem z_M_nameOf_3_bok{d w : Nat} {r3 : Int → Int → Int → Int → zA → Option (Int × zA)} (hr3 : ∀ (x1 : Int) (hx1 : zrg x1) (x2 : Int) (hx2 : zrg x2) (x3 : Int) (hx3 : zrg x3) (x4 : Int) (hx4 : zrg x4) (A : zA), zG (r3 x1 x2 x3 x4 A) zPI d w 98 3 [some (.inr (.inr (some 226))), some (.inl x1), some (.inl x2), some (.inl x3), some (.inl x4)] [] A) (N : Nat) (hd : 0 ≤ d) (hw : 0 ≤ w) (x1 : Int) (hx1 : zrg x1) (x2 : Int) (hx2 : zrg x2) (x3 : Int) (hx3 : zrg x3) (x4 : Int) (hx4 : zrg x4) (A : zA) : zG (z_M_nameOf_3_b r3 N x1 x2 x3 x4 A) zPI d w 98 3 [some (.inr (.inr (some 226))), some (.inl x1), some (.inl x2), some (.inl x3), some (.inl x4)] [] A := by
  unfold z_M_nameOf_3_b
  refine js_iload (pc1 := 5) rfl rfl rfl ?_
  refine js_aload (pc1 := 6) rfl rfl rfl ?_
  refine js_gi (pc1 := 9) (j := 34) rfl rfl rfl rfl ?_
  refine jt_ge (pc1 := 12) (t1 := 54) hx4 (zi_rg _ _ _) rfl rfl rfl (fun c1 => ?_) (fun c1 => ?_)
  · refine js_aload (pc1 := 13) rfl rfl rfl ?_
    refine js_gfr (pc1 := 16) (j := 36) (r := 246) rfl rfl rfl rfl rfl ?_
    refine js_iload (pc1 := 18) rfl rfl rfl ?_
    refine jt_ald (pc1 := 19) rfl rfl rfl rfl rfl (fun v2 hv2 => ?_)
    refine js_iload (pc1 := 20) rfl rfl rfl ?_
    refine jt_ne (pc1 := 23) (t1 := 48) hv2 hx1 rfl rfl rfl (fun c3 => ?_) (fun c3 => ?_)
    · refine js_aload (pc1 := 24) rfl rfl rfl ?_
      refine js_gfr (pc1 := 27) (j := 37) (r := 247) rfl rfl rfl rfl rfl ?_
      refine js_iload (pc1 := 29) rfl rfl rfl ?_
      refine jt_ald (pc1 := 30) rfl rfl rfl rfl rfl (fun v4 hv4 => ?_)
      refine js_iload (pc1 := 31) rfl rfl rfl ?_
      refine jt_ne (pc1 := 34) (t1 := 48) hv4 hx2 rfl rfl rfl (fun c5 => ?_) (fun c5 => ?_)
      · refine js_aload (pc1 := 35) rfl rfl rfl ?_
        refine js_gfr (pc1 := 38) (j := 38) (r := 248) rfl rfl rfl rfl rfl ?_
        refine js_iload (pc1 := 40) rfl rfl rfl ?_
        refine jt_ald (pc1 := 41) rfl rfl rfl rfl rfl (fun v6 hv6 => ?_)
        refine js_iload (pc1 := 42) rfl rfl rfl ?_
        refine jt_ne (pc1 := 45) (t1 := 48) hv6 hx3 rfl rfl rfl (fun c7 => ?_) (fun c7 => ?_)
        · refine js_iload (pc1 := 47) rfl rfl rfl ?_
          exact je_I rfl (zfit0 _ rfl) rfl hx4
        · refine js_iinc (pc1 := 51) (L1 := [some (.inr (.inr (some 226))), some (.inl x1), some (.inl x2), some (.inl x3), some (.inl (x4 + 1))]) rfl rfl rfl rfl ?_
          refine js_goto (t1 := 3) rfl rfl ?_
          exact zG_to (L := [some (.inr (.inr (some 226))), some (.inl x1), some (.inl x2), some (.inl x3), some (.inl (zw (x4 + 1)))]) (S := []) ⟨rfl, ⟨rfl, ⟨rfl, ⟨rfl, ⟨zval_w (x4 + 1), trivial⟩⟩⟩⟩⟩ (rfl) (hr3 x1 hx1 x2 hx2 x3 hx3 (zw (x4 + 1)) (zw_rg (x4 + 1)) A)
      · refine js_iinc (pc1 := 51) (L1 := [some (.inr (.inr (some 226))), some (.inl x1), some (.inl x2), some (.inl x3), some (.inl (x4 + 1))]) rfl rfl rfl rfl ?_
        refine js_goto (t1 := 3) rfl rfl ?_
        exact zG_to (L := [some (.inr (.inr (some 226))), some (.inl x1), some (.inl x2), some (.inl x3), some (.inl (zw (x4 + 1)))]) (S := []) ⟨rfl, ⟨rfl, ⟨rfl, ⟨rfl, ⟨zval_w (x4 + 1), trivial⟩⟩⟩⟩⟩ (rfl) (hr3 x1 hx1 x2 hx2 x3 hx3 (zw (x4 + 1)) (zw_rg (x4 + 1)) A)
    · refine js_iinc (pc1 := 51) (L1 := [some (.inr (.inr (some 226))), some (.inl x1), some (.inl x2), some (.inl x3), some (.inl (x4 + 1))]) rfl rfl rfl rfl ?_
      refine js_goto (t1 := 3) rfl rfl ?_
      exact zG_to (L := [some (.inr (.inr (some 226))), some (.inl x1), some (.inl x2), some (.inl x3), some (.inl (zw (x4 + 1)))]) (S := []) ⟨rfl, ⟨rfl, ⟨rfl, ⟨rfl, ⟨zval_w (x4 + 1), trivial⟩⟩⟩⟩⟩ (rfl) (hr3 x1 hx1 x2 hx2 x3 hx3 (zw (x4 + 1)) (zw_rg (x4 + 1)) A)
  · exact zG_to (L := [some (.inr (.inr (some 226))), some (.inl x1), some (.inl x2), some (.inl x3), none]) (S := []) ⟨rfl, ⟨rfl, ⟨rfl, ⟨rfl, trivial⟩⟩⟩⟩ (rfl) (z_M_nameOf_54_ok N hd hw x1 hx1 x2 hx2 x3 hx3 A)
