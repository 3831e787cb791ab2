theorem z_Ro_withinLimits_13_lok{d w : Nat} (N : Nat) (hd : 2 ≤ d) (hw : 88 ≤ w) (n : Nat) : ∀ (x0 : Nat) (hx0 : zsh x0 = some (false, 2, 2)) (x1 : Nat) (x2 : Nat) (x3 : Int) (hx3 : zrg x3) (x4 : Int) (hx4 : zrg x4) (A : zA), zG (z_Ro_withinLimits_13_l N n x0 x1 x2 x3 x4 A) zPI d w 79 13 [some (.inr (.inr (some x0))), some (.inr (.inr (some x1))), some (.inr (.inr (some x2))), some (.inl x3), some (.inl x4)] [] A := by
  induction n with
  | zero => intros; exact zG_none
  | succ n ih =>
    intro x0 hx0 x1 x2 x3 hx3 x4 hx4 A
    exact z_Ro_withinLimits_13_bok ih N hd hw x0 hx0 x1 x2 x3 hx3 x4 hx4 A
theorem z_Ro_withinLimits_13_ok{d w : Nat} (N : Nat) (hd : 2 ≤ d) (hw : 88 ≤ w) (x0 : Nat) (hx0 : zsh x0 = some (false, 2, 2)) (x1 : Nat) (x2 : Nat) (x3 : Int) (hx3 : zrg x3) (x4 : Int) (hx4 : zrg x4) (A : zA) : zG (z_Ro_withinLimits_13 N x0 x1 x2 x3 x4 A) zPI d w 79 13 [some (.inr (.inr (some x0))), some (.inr (.inr (some x1))), some (.inr (.inr (some x2))), some (.inl x3), some (.inl x4)] [] A := z_Ro_withinLimits_13_lok N hd hw N x0 hx0 x1 x2 x3 hx3 x4 hx4 A
theorem z_Ro_withinLimits_ok{d w : Nat} (N : Nat) (hd : 2 ≤ d) (hw : 88 ≤ w) (x0 : Nat) (hx0 : zsh x0 = some (false, 2, 2)) (A : zA) : zG (z_Ro_withinLimits N x0 A) zPI d w 79 0 [some (.inr (.inr (some x0))), none, none, none, none] [] A := by
  unfold z_Ro_withinLimits
  refine js_iconst (pc1 := 1) rfl rfl ?_
  refine jt_new (pc1 := 3) rfl rfl (fun p1 A2 => ?_)
  refine js_astore (pc1 := 4) (L1 := [some (.inr (.inr (some x0))), some (.inr (.inr (some p1))), none, none, none]) rfl rfl rfl rfl ?_
  refine js_iconst (pc1 := 5) rfl rfl ?_
  refine jt_new (pc1 := 7) rfl rfl (fun p3 A4 => ?_)
  refine js_astore (pc1 := 8) (L1 := [some (.inr (.inr (some x0))), some (.inr (.inr (some p1))), some (.inr (.inr (some p3))), none, none]) rfl rfl rfl rfl ?_
  refine js_iconst (pc1 := 9) rfl rfl ?_
  refine js_istore (pc1 := 10) (L1 := [some (.inr (.inr (some x0))), some (.inr (.inr (some p1))), some (.inr (.inr (some p3))), some (.inl 1), none]) rfl rfl rfl rfl ?_
  refine js_iconst (pc1 := 11) rfl rfl ?_
  refine js_istore (pc1 := 13) (L1 := [some (.inr (.inr (some x0))), some (.inr (.inr (some p1))), some (.inr (.inr (some p3))), some (.inl 1), some (.inl 0)]) rfl rfl rfl rfl ?_
  exact z_Ro_withinLimits_13_ok N hd hw x0 hx0 p1 p3 1 (zlit rfl) 0 (zlit rfl) A4
theorem z_Pt_become_ok{d w : Nat} (N : Nat) (hd : 3 ≤ d) (hw : 108 ≤ w) (x0 : Nat) (hx0 : zsh x0 = some (false, 3, 4)) (x1 : Nat) (hx1 : zsh x1 = some (false, 3, 4)) (A : zA) : zG (z_Pt_become N x0 x1 A) zPV d w 113 0 [some (.inr (.inr (some x0))), some (.inr (.inr (some x1)))] [] A := by
  unfold z_Pt_become
  refine js_aload (pc1 := 1) rfl rfl rfl ?_
  refine js_aload (pc1 := 2) rfl rfl rfl ?_
  refine js_gi (pc1 := 5) (j := 2) rfl rfl hx1 rfl ?_
  refine js_cV (pc1 := 8) (as := [(.inr (.inr (some x0))), (.inl (zi A x1 2))]) (S0 := []) (m := 3) (L0 := [some (.inr (.inr (some x0))), some (.inl (zi A x1 2)), none]) rfl rfl rfl rfl rfl rfl rfl rfl (zrc_o rfl hx0) (by omega) (by omega) (z_Pt_makeRoom_ok N (by omega) (by omega) x0 hx0 (zi A x1 2) (zi_rg _ _ _) A) (fun A1 _ => ?_)
  refine js_aload (pc1 := 9) rfl rfl rfl ?_
  refine jt_gr (pc1 := 12) (j := 0) rfl rfl hx1 rfl (fun p2 => ?_)
  refine js_iconst (pc1 := 13) rfl rfl ?_
  refine js_aload (pc1 := 14) rfl rfl rfl ?_
  refine jt_gr (pc1 := 17) (j := 0) rfl rfl hx0 rfl (fun p3 => ?_)
  refine js_iconst (pc1 := 18) rfl rfl ?_
  refine js_aload (pc1 := 19) rfl rfl rfl ?_
  refine js_gi (pc1 := 22) (j := 2) rfl rfl hx1 rfl ?_
  refine js_iconst (pc1 := 23) rfl rfl ?_
  refine js_imul (pc1 := 24) rfl rfl ?_
  refine jt_copy (pc1 := 27) rfl rfl (by omega) (by omega) rfl (fun A4 => ?_)
  refine js_aload (pc1 := 28) rfl rfl rfl ?_
  refine jt_gr (pc1 := 31) (j := 1) rfl rfl hx1 rfl (fun p5 => ?_)
  refine js_iconst (pc1 := 32) rfl rfl ?_
  refine js_aload (pc1 := 33) rfl rfl rfl ?_
  refine jt_gr (pc1 := 36) (j := 1) rfl rfl hx0 rfl (fun p6 => ?_)
  refine js_iconst (pc1 := 37) rfl rfl ?_
  refine js_aload (pc1 := 38) rfl rfl rfl ?_
  refine js_gi (pc1 := 41) (j := 2) rfl rfl hx1 rfl ?_
  refine jt_copy (pc1 := 44) rfl rfl (by omega) (by omega) rfl (fun A7 => ?_)
  refine js_aload (pc1 := 45) rfl rfl rfl ?_
  refine js_aload (pc1 := 46) rfl rfl rfl ?_
  refine js_gi (pc1 := 49) (j := 2) rfl rfl hx1 rfl ?_
  refine jt_pi (pc1 := 52) (j := 2) rfl rfl hx0 rfl rfl (fun A8 => ?_)
  refine js_aload (pc1 := 53) rfl rfl rfl ?_
  refine js_aload (pc1 := 54) rfl rfl rfl ?_
  refine js_gi (pc1 := 57) (j := 3) rfl rfl hx1 rfl ?_
  refine jt_pi (pc1 := 60) (j := 3) rfl rfl hx0 rfl rfl (fun A9 => ?_)
  exact je_V rfl
theorem z_Ro_become_10_bok{d w : Nat} {r10 : Nat → Nat → Int → zA → Option zA} (hr10 : ∀ (x0 : Nat) (hx0 : zsh x0 = some (false, 2, 2)) (x1 : Nat) (hx1 : zsh x1 = some (false, 2, 2)) (x2 : Int) (hx2 : zrg x2) (A : zA), zG (r10 x0 x1 x2 A) zPV d w 63 10 [some (.inr (.inr (some x0))), some (.inr (.inr (some x1))), some (.inl x2)] [] A) (N : Nat) (hd : 4 ≤ d) (hw : 129 ≤ w) (x0 : Nat) (hx0 : zsh x0 = some (false, 2, 2)) (x1 : Nat) (hx1 : zsh x1 = some (false, 2, 2)) (x2 : Int) (hx2 : zrg x2) (A : zA) : zG (z_Ro_become_10_b r10 N x0 x1 x2 A) zPV d w 63 10 [some (.inr (.inr (some x0))), some (.inr (.inr (some x1))), some (.inl x2)] [] A := by
  unfold z_Ro_become_10_b
  refine js_iload (pc1 := 11) rfl rfl rfl ?_
  refine js_iconst (pc1 := 12) rfl rfl ?_
  refine jt_ge (pc1 := 15) (t1 := 44) hx2 (zlit rfl) rfl rfl rfl (fun c1 => ?_) (fun c1 => ?_)
  · refine js_aload (pc1 := 16) rfl rfl rfl ?_
    refine js_iload (pc1 := 17) rfl rfl rfl ?_
    refine js_cP (pc1 := 20) (as := [(.inr (.inr (some x1))), (.inl x2)]) (S0 := []) (m := 2) (L0 := [some (.inr (.inr (some x1))), some (.inl x2)]) rfl rfl rfl rfl rfl rfl rfl rfl (zrc_o rfl hx1) (by omega) (by omega) (z_Ro_has_ok N (by omega) (by omega) x1 hx1 x2 hx2 A) (fun v2 _ hv2 => ?_)
    refine ju_eq (pc1 := 23) (t1 := 38) hv2 rfl rfl rfl (fun c3 => ?_) (fun c3 => ?_)
    · refine js_iinc (pc1 := 41) (L1 := [some (.inr (.inr (some x0))), some (.inr (.inr (some x1))), some (.inl (x2 + 1))]) rfl rfl rfl rfl ?_
      refine js_goto (t1 := 10) rfl rfl ?_
      exact zG_to (L := [some (.inr (.inr (some x0))), some (.inr (.inr (some x1))), some (.inl (zw (x2 + 1)))]) (S := []) ⟨rfl, ⟨rfl, ⟨zval_w (x2 + 1), trivial⟩⟩⟩ (rfl) (hr10 x0 hx0 x1 hx1 (zw (x2 + 1)) (zw_rg (x2 + 1)) A)
    · refine js_aload (pc1 := 24) rfl rfl rfl ?_
      refine jt_gf (pc1 := 27) (j := 0) rfl rfl hx0 rfl (fun p4 => ?_)
      refine js_iload (pc1 := 28) rfl rfl rfl ?_
      refine jt_aald (pc1 := 29) rfl rfl (fun p5 => ?_)
      refine zG_cs (fun hp5 => ?_)
      refine js_aload (pc1 := 30) rfl rfl rfl ?_
      refine jt_gf (pc1 := 33) (j := 0) rfl rfl hx1 rfl (fun p6 => ?_)
      refine js_iload (pc1 := 34) rfl rfl rfl ?_
      refine jt_aald (pc1 := 35) rfl rfl (fun p7 => ?_)
      refine zG_cs (fun hp7 => ?_)
      refine js_cV (pc1 := 38) (as := [(.inr (.inr (some p5))), (.inr (.inr (some p7)))]) (S0 := []) (m := 2) (L0 := [some (.inr (.inr (some p5))), some (.inr (.inr (some p7)))]) rfl rfl rfl rfl rfl rfl rfl rfl (zrc_o rfl hp5) (by omega) (by omega) (z_Pt_become_ok N (by omega) (by omega) p5 hp5 p7 hp7 A) (fun A8 _ => ?_)
      refine js_iinc (pc1 := 41) (L1 := [some (.inr (.inr (some x0))), some (.inr (.inr (some x1))), some (.inl (x2 + 1))]) rfl rfl rfl rfl ?_
      refine js_goto (t1 := 10) rfl rfl ?_
      exact zG_to (L := [some (.inr (.inr (some x0))), some (.inr (.inr (some x1))), some (.inl (zw (x2 + 1)))]) (S := []) ⟨rfl, ⟨rfl, ⟨zval_w (x2 + 1), trivial⟩⟩⟩ (rfl) (hr10 x0 hx0 x1 hx1 (zw (x2 + 1)) (zw_rg (x2 + 1)) A8)
  · exact je_V rfl
theorem z_Ro_become_10_lok{d w : Nat} (N : Nat) (hd : 4 ≤ d) (hw : 129 ≤ w) (n : Nat) : ∀ (x0 : Nat) (hx0 : zsh x0 = some (false, 2, 2)) (x1 : Nat) (hx1 : zsh x1 = some (false, 2, 2)) (x2 : Int) (hx2 : zrg x2) (A : zA), zG (z_Ro_become_10_l N n x0 x1 x2 A) zPV d w 63 10 [some (.inr (.inr (some x0))), some (.inr (.inr (some x1))), some (.inl x2)] [] A := by
  induction n with
  | zero => intros; exact zG_none
  | succ n ih =>
    intro x0 hx0 x1 hx1 x2 hx2 A
    exact z_Ro_become_10_bok ih N hd hw x0 hx0 x1 hx1 x2 hx2 A
theorem z_Ro_become_10_ok{d w : Nat} (N : Nat) (hd : 4 ≤ d) (hw : 129 ≤ w) (x0 : Nat) (hx0 : zsh x0 = some (false, 2, 2)) (x1 : Nat) (hx1 : zsh x1 = some (false, 2, 2)) (x2 : Int) (hx2 : zrg x2) (A : zA) : zG (z_Ro_become_10 N x0 x1 x2 A) zPV d w 63 10 [some (.inr (.inr (some x0))), some (.inr (.inr (some x1))), some (.inl x2)] [] A := z_Ro_become_10_lok N hd hw N x0 hx0 x1 hx1 x2 hx2 A
theorem z_Ro_become_ok{d w : Nat} (N : Nat) (hd : 4 ≤ d) (hw : 129 ≤ w) (x0 : Nat) (hx0 : zsh x0 = some (false, 2, 2)) (x1 : Nat) (hx1 : zsh x1 = some (false, 2, 2)) (A : zA) : zG (z_Ro_become N x0 x1 A) zPV d w 63 0 [some (.inr (.inr (some x0))), some (.inr (.inr (some x1))), none] [] A := by
  unfold z_Ro_become
  refine js_aload (pc1 := 1) rfl rfl rfl ?_
  refine js_aload (pc1 := 2) rfl rfl rfl ?_
  refine js_gi (pc1 := 5) (j := 1) rfl rfl hx1 rfl ?_
  refine jt_pi (pc1 := 8) (j := 1) rfl rfl hx0 rfl rfl (fun A1 => ?_)
  refine js_iconst (pc1 := 9) rfl rfl ?_
  refine js_istore (pc1 := 10) (L1 := [some (.inr (.inr (some x0))), some (.inr (.inr (some x1))), some (.inl 0)]) rfl rfl rfl rfl ?_
  exact z_Ro_become_10_ok N hd hw x0 hx0 x1 hx1 0 (zlit rfl) A1
theorem z_PC_compile_ok{d w : Nat} (N : Nat) (hd : 652 ≤ d) (hw : 18634 ≤ w) (A : zA) : zG (z_PC_compile N A) zPX d w 42 0 [some (.inr (.inr (some 4))), none] [] A := by
  unfold z_PC_compile
  refine js_aload (pc1 := 1) rfl rfl rfl ?_
  refine js_gfr (pc1 := 4) (j := 0) (r := 5) rfl rfl rfl rfl rfl ?_
  refine js_aload (pc1 := 5) rfl rfl rfl ?_
  refine jt_gr (pc1 := 8) (j := 3) rfl rfl rfl rfl (fun p1 => ?_)
  refine zG_cs (fun hp1 => ?_)
  refine js_cI (pc1 := 11) (as := [(.inr (.inr (some 5))), (.inr (.inr (some p1)))]) (S0 := []) (m := 3) (L0 := [some (.inr (.inr (some 5))), some (.inr (.inr (some p1))), none]) rfl rfl rfl rfl rfl rfl rfl rfl (zrc_o rfl rfl) (by omega) (by omega) (z_Pa_reads_ok N (by omega) (by omega) p1 hp1 A) (fun v2 A3 _ hv2 => ?_)
  refine js_istore (pc1 := 12) (L1 := [some (.inr (.inr (some 4))), some (.inl v2)]) rfl rfl rfl rfl ?_
  refine js_aload (pc1 := 13) rfl rfl rfl ?_
  refine js_gfr (pc1 := 16) (j := 0) (r := 5) rfl rfl rfl rfl rfl ?_
  refine js_iconst (pc1 := 17) rfl rfl ?_
  refine jt_pi (pc1 := 20) (j := 1) rfl rfl rfl rfl rfl (fun A4 => ?_)
  refine js_iload (pc1 := 21) rfl rfl rfl ?_
  refine ju_ne (pc1 := 24) (t1 := 34) hv2 rfl rfl rfl (fun c5 => ?_) (fun c5 => ?_)
  · exact je_T rfl rfl (by omega) (by omega)
  · refine js_aload (pc1 := 35) rfl rfl rfl ?_
    refine jt_gr (pc1 := 38) (j := 3) rfl rfl rfl rfl (fun p6 => ?_)
    refine zG_cs (fun hp6 => ?_)
    refine js_cI (pc1 := 41) (as := [(.inr (.inr (some p6)))]) (S0 := []) (m := 5) (L0 := [some (.inr (.inr (some p6))), none, none, none, none]) rfl rfl rfl rfl rfl rfl rfl rfl (zrc_o rfl hp6) (by omega) (by omega) (z_Ro_withinLimits_ok N (by omega) (by omega) p6 hp6 A4) (fun v7 A8 _ hv7 => ?_)
    refine ju_ne (pc1 := 44) (t1 := 54) hv7 rfl rfl rfl (fun c9 => ?_) (fun c9 => ?_)
    · exact je_T rfl rfl (by omega) (by omega)
    · refine js_aload (pc1 := 55) rfl rfl rfl ?_
      refine js_gfr (pc1 := 58) (j := 1) (r := 7) rfl rfl rfl rfl rfl ?_
      refine js_aload (pc1 := 59) rfl rfl rfl ?_
      refine jt_gr (pc1 := 62) (j := 3) rfl rfl rfl rfl (fun p10 => ?_)
      refine zG_cs (fun hp10 => ?_)
      refine js_cV (pc1 := 65) (as := [(.inr (.inr (some 7))), (.inr (.inr (some p10)))]) (S0 := []) (m := 3) (L0 := [some (.inr (.inr (some 7))), some (.inr (.inr (some p10))), none]) rfl rfl rfl rfl rfl rfl rfl rfl (zrc_o rfl rfl) (by omega) (by omega) (z_Ro_become_ok N (by omega) (by omega) 7 rfl p10 hp10 A8) (fun A11 _ => ?_)
      refine js_aload (pc1 := 66) rfl rfl rfl ?_
      refine jt_gr (pc1 := 69) (j := 2) rfl rfl rfl rfl (fun p12 => ?_)
      refine zG_cs (fun hp12 => ?_)
      refine js_aload (pc1 := 70) rfl rfl rfl ?_
      refine jt_gr (pc1 := 73) (j := 3) rfl rfl rfl rfl (fun p13 => ?_)
      refine zG_cs (fun hp13 => ?_)
      refine js_cV (pc1 := 76) (as := [(.inr (.inr (some p12))), (.inr (.inr (some p13)))]) (S0 := []) (m := 3) (L0 := [some (.inr (.inr (some p12))), some (.inr (.inr (some p13))), none]) rfl rfl rfl rfl rfl rfl rfl rfl (zrc_o rfl hp12) (by omega) (by omega) (z_Ro_become_ok N (by omega) (by omega) p12 hp12 p13 hp13 A11) (fun A14 _ => ?_)
      refine js_aload (pc1 := 77) rfl rfl rfl ?_
      refine js_iconst (pc1 := 78) rfl rfl ?_
      refine jt_pbl (pc1 := 81) (j := 9) rfl rfl rfl rfl rfl (Or.inl rfl) (fun A15 => ?_)
      refine js_aload (pc1 := 82) rfl rfl rfl ?_
      refine js_iconst (pc1 := 83) rfl rfl ?_
      refine jt_pi (pc1 := 86) (j := 11) rfl rfl rfl rfl rfl (fun A16 => ?_)
      refine js_aload (pc1 := 87) rfl rfl rfl ?_
      refine js_iconst (pc1 := 88) rfl rfl ?_
      refine jt_pi (pc1 := 91) (j := 12) rfl rfl rfl rfl rfl (fun A17 => ?_)
      refine js_aload (pc1 := 92) rfl rfl rfl ?_
      refine jt_gr (pc1 := 95) (j := 2) rfl rfl rfl rfl (fun p18 => ?_)
      refine zG_cs (fun hp18 => ?_)
      refine jt_gf (pc1 := 98) (j := 0) rfl rfl hp18 rfl (fun p19 => ?_)
      refine js_iconst (pc1 := 99) rfl rfl ?_
      refine jt_aald (pc1 := 100) rfl rfl (fun p20 => ?_)
      refine zG_cs (fun hp20 => ?_)
      refine js_gi (pc1 := 103) (j := 2) rfl rfl hp20 rfl ?_
      exact je_X rfl (zfit0 _ rfl) rfl (zi_rg _ _ _)
theorem z_Lw_compile_ok{d w : Nat} (N : Nat) (hd : 653 ≤ d) (hw : 18655 ≤ w) (A : zA) : zG (z_Lw_compile N A) zPI d w 5 0 [some (.inr (.inr (some 4))), some (.inr (.inr (some 295))), none] [] A := by
  unfold z_Lw_compile
  refine js_aload (pc1 := 1) rfl rfl rfl ?_
  refine js_iconst (pc1 := 2) rfl rfl ?_
  refine js_aload (pc1 := 3) rfl rfl rfl ?_
  refine js_cX (pc1 := 6) (as := [(.inr (.inr (some 4)))]) (S0 := [(.inl 0), (.inr (.inr (some 295)))]) (m := 2) (L0 := [some (.inr (.inr (some 4))), none]) rfl rfl rfl rfl rfl rfl rfl rfl (zrc_o rfl rfl) (by omega) (by omega) (z_PC_compile_ok N (by omega) (by omega) A) (fun v1 A2 hv1 => ?_) (fun n5 A4 => ?_)
  · refine js_i2l (pc1 := 7) rfl rfl ?_
    refine jt_las (pc1 := 8) rfl rfl rfl rfl (fun A6 => ?_)
    refine js_goto (t1 := 17) rfl rfl ?_
    refine js_iconst (pc1 := 18) rfl rfl ?_
    exact je_I rfl (zfit0 _ rfl) rfl (zlit rfl)
  · rcases Decidable.em (n5 = 0) with c7 | c7
    · subst c7
      refine Or.inr ⟨11, by decide, fun e3 => ?_⟩
      rw [if_pos rfl]
      refine js_astore (pc1 := 12) (L1 := [some (.inr (.inr (some 4))), some (.inr (.inr (some 295))), some (.inr (.inr (some e3)))]) rfl rfl rfl rfl ?_
      refine js_iconst (pc1 := 13) rfl rfl ?_
      exact je_I rfl (zfit0 _ rfl) rfl (zlit rfl)
    rcases Decidable.em (n5 = 1) with c8 | c8
    · subst c8
      refine Or.inr ⟨14, by decide, fun e3 => ?_⟩
      rw [if_neg (by decide)]
      rw [if_pos rfl]
      refine js_astore (pc1 := 15) (L1 := [some (.inr (.inr (some 4))), some (.inr (.inr (some 295))), some (.inr (.inr (some e3)))]) rfl rfl rfl rfl ?_
      refine js_iconst (pc1 := 16) rfl rfl ?_
      exact je_I rfl (zfit0 _ rfl) rfl (zlit rfl)
    exact Or.inl (by simp only [if_neg c7, if_neg c8])
theorem z_M_row_ok{d w : Nat} (N : Nat) (hd : 0 ≤ d) (hw : 0 ≤ w) (x0 : Int) (hx0 : zrg x0) (x1 : Int) (hx1 : zrg x1) (A : zA) : zG (z_M_row N x0 x1 A) (zPp A) d w 47 0 [some (.inl x0), some (.inl x1)] [] A := by
  unfold z_M_row
  refine js_iconst (pc1 := 1) rfl rfl ?_
  refine js_iload (pc1 := 2) rfl rfl rfl ?_
  refine js_imul (pc1 := 3) rfl rfl ?_
  refine js_iload (pc1 := 4) rfl rfl rfl ?_
  refine js_iadd (pc1 := 5) rfl rfl ?_
  exact je_P rfl (zfit0 _ rfl) (zval_w ((4 * x0) + x1)) (zw_rg ((4 * x0) + x1))
theorem z_M_look_ok{d w : Nat} (N : Nat) (hd : 0 ≤ d) (hw : 0 ≤ w) (A : zA) : zG (z_M_look N A) (zPp A) d w 80 0 [some (.inr (.inr (some 226)))] [] A := by
  unfold z_M_look
  refine js_aload (pc1 := 1) rfl rfl rfl ?_
  refine js_gi (pc1 := 4) (j := 13) rfl rfl rfl rfl ?_
  refine js_aload (pc1 := 5) rfl rfl rfl ?_
  refine js_gi (pc1 := 8) (j := 1) rfl rfl rfl rfl ?_
  refine jt_ge (pc1 := 11) (t1 := 23) (zi_rg _ _ _) (zi_rg _ _ _) rfl rfl rfl (fun c1 => ?_) (fun c1 => ?_)
  · refine js_aload (pc1 := 12) rfl rfl rfl ?_
    refine js_gfr (pc1 := 15) (j := 2) (r := 227) rfl rfl rfl rfl rfl ?_
    refine js_aload (pc1 := 16) rfl rfl rfl ?_
    refine js_gi (pc1 := 19) (j := 13) rfl rfl rfl rfl ?_
    refine jt_ald (pc1 := 20) rfl rfl rfl rfl rfl (fun v2 hv2 => ?_)
    refine js_goto (t1 := 24) rfl rfl ?_
    exact je_P rfl (zfit0 _ rfl) rfl hv2
  · refine js_iconst (pc1 := 24) rfl rfl ?_
    exact je_P rfl (zfit0 _ rfl) rfl (zlit rfl)
theorem z_M_place_ok{d w : Nat} (N : Nat) (hd : 0 ≤ d) (hw : 0 ≤ w) (x0 : Int) (hx0 : zrg x0) (x1 : Int) (hx1 : zrg x1) (x2 : Int) (hx2 : zrg x2) (A : zA) : zG (z_M_place N x0 x1 x2 A) (zPp A) d w 60 0 [some (.inl x0), some (.inl x1), some (.inl x2)] [] A := by
  unfold z_M_place
  refine js_iconst (pc1 := 1) rfl rfl ?_
  refine js_iconst (pc1 := 4) rfl rfl ?_
  refine js_iconst (pc1 := 5) rfl rfl ?_
  refine js_iload (pc1 := 6) rfl rfl rfl ?_
  refine js_imul (pc1 := 7) rfl rfl ?_
  refine js_iload (pc1 := 8) rfl rfl rfl ?_
  refine js_iadd (pc1 := 9) rfl rfl ?_
  refine js_imul (pc1 := 10) rfl rfl ?_
  refine js_iload (pc1 := 11) rfl rfl rfl ?_
  refine js_iadd (pc1 := 12) rfl rfl ?_
  refine js_imul (pc1 := 13) rfl rfl ?_
  exact je_P rfl (zfit0 _ rfl) (zval_w (5 * ((240 * ((4 * x0) + x1)) + x2))) (zw_rg (5 * ((240 * ((4 * x0) + x1)) + x2)))
theorem z_M_emit_ok{d w : Nat} (N : Nat) (hd : 1 ≤ d) (hw : 22 ≤ w) (x1 : Int) (hx1 : zrg x1) (x2 : Int) (hx2 : zrg x2) (x3 : Int) (hx3 : zrg x3) (x4 : Int) (hx4 : zrg x4) (x5 : Int) (hx5 : zrg x5) (x6 : Int) (hx6 : zrg x6) (x7 : Int) (hx7 : zrg x7) (A : zA) : zG (z_M_emit N x1 x2 x3 x4 x5 x6 x7 A) zPV d w 106 0 [some (.inr (.inr (some 226))), some (.inl x1), some (.inl x2), some (.inl x3), some (.inl x4), some (.inl x5), some (.inl x6), some (.inl x7), none] [] A := by
  unfold z_M_emit
  refine js_iload (pc1 := 1) rfl rfl rfl ?_
  refine js_iload (pc1 := 2) rfl rfl rfl ?_
  refine js_aload (pc1 := 3) rfl rfl rfl ?_
  refine js_gfr (pc1 := 6) (j := 4) (r := 229) rfl rfl rfl rfl rfl ?_
  refine js_iload (pc1 := 7) rfl rfl rfl ?_
  refine js_iload (pc1 := 8) rfl rfl rfl ?_
  refine js_cP (pc1 := 11) (as := [(.inl x1), (.inl x2)]) (S0 := [(.inr (.inr (some 229))), (.inl x2), (.inl x1)]) (m := 2) (L0 := [some (.inl x1), some (.inl x2)]) rfl rfl rfl rfl rfl rfl rfl rfl (zrc_s rfl) (by omega) (by omega) (z_M_row_ok N (by omega) (by omega) x1 hx1 x2 hx2 A) (fun v1 _ hv1 => ?_)
  refine jt_ald (pc1 := 12) rfl rfl rfl rfl rfl (fun v2 hv2 => ?_)
  refine js_cP (pc1 := 15) (as := [(.inl x1), (.inl x2), (.inl v2)]) (S0 := []) (m := 3) (L0 := [some (.inl x1), some (.inl x2), some (.inl v2)]) rfl rfl rfl rfl rfl rfl rfl rfl (zrc_s rfl) (by omega) (by omega) (z_M_place_ok N (by omega) (by omega) x1 hx1 x2 hx2 v2 hv2 A) (fun v3 _ hv3 => ?_)
  refine js_istore (pc1 := 17) (L1 := [some (.inr (.inr (some 226))), some (.inl x1), some (.inl x2), some (.inl x3), some (.inl x4), some (.inl x5), some (.inl x6), some (.inl x7), some (.inl v3)]) rfl rfl rfl rfl ?_
  refine js_aload (pc1 := 18) rfl rfl rfl ?_
  refine js_gfr (pc1 := 21) (j := 3) (r := 228) rfl rfl rfl rfl rfl ?_
  refine js_iload (pc1 := 23) rfl rfl rfl ?_
  refine js_iload (pc1 := 24) rfl rfl rfl ?_
  refine jt_ias (pc1 := 25) rfl rfl rfl rfl (fun A4 => ?_)
  refine js_aload (pc1 := 26) rfl rfl rfl ?_
  refine js_gfr (pc1 := 29) (j := 3) (r := 228) rfl rfl rfl rfl rfl ?_
  refine js_iload (pc1 := 31) rfl rfl rfl ?_
  refine js_iconst (pc1 := 32) rfl rfl ?_
  refine js_iadd (pc1 := 33) rfl rfl ?_
  refine js_iload (pc1 := 35) rfl rfl rfl ?_
  refine jt_ias (pc1 := 36) rfl rfl rfl rfl (fun A5 => ?_)
  refine js_aload (pc1 := 37) rfl rfl rfl ?_
  refine js_gfr (pc1 := 40) (j := 3) (r := 228) rfl rfl rfl rfl rfl ?_
  refine js_iload (pc1 := 42) rfl rfl rfl ?_
  refine js_iconst (pc1 := 43) rfl rfl ?_
  refine js_iadd (pc1 := 44) rfl rfl ?_
  refine js_iload (pc1 := 46) rfl rfl rfl ?_
  refine jt_ias (pc1 := 47) rfl rfl rfl rfl (fun A6 => ?_)
  refine js_aload (pc1 := 48) rfl rfl rfl ?_
  refine js_gfr (pc1 := 51) (j := 3) (r := 228) rfl rfl rfl rfl rfl ?_
  refine js_iload (pc1 := 53) rfl rfl rfl ?_
  refine js_iconst (pc1 := 54) rfl rfl ?_
  refine js_iadd (pc1 := 55) rfl rfl ?_
  refine js_iload (pc1 := 57) rfl rfl rfl ?_
  refine jt_ias (pc1 := 58) rfl rfl rfl rfl (fun A7 => ?_)
  refine js_aload (pc1 := 59) rfl rfl rfl ?_
  refine js_gfr (pc1 := 62) (j := 3) (r := 228) rfl rfl rfl rfl rfl ?_
  refine js_iload (pc1 := 64) rfl rfl rfl ?_
  refine js_iconst (pc1 := 65) rfl rfl ?_
  refine js_iadd (pc1 := 66) rfl rfl ?_
  refine js_iload (pc1 := 68) rfl rfl rfl ?_
  refine jt_ias (pc1 := 69) rfl rfl rfl rfl (fun A8 => ?_)
  refine js_aload (pc1 := 70) rfl rfl rfl ?_
  refine js_gfr (pc1 := 73) (j := 4) (r := 229) rfl rfl rfl rfl rfl ?_
  refine js_iload (pc1 := 74) rfl rfl rfl ?_
  refine js_iload (pc1 := 75) rfl rfl rfl ?_
  refine js_cP (pc1 := 78) (as := [(.inl x1), (.inl x2)]) (S0 := [(.inr (.inr (some 229)))]) (m := 2) (L0 := [some (.inl x1), some (.inl x2)]) rfl rfl rfl rfl rfl rfl rfl rfl (zrc_s rfl) (by omega) (by omega) (z_M_row_ok N (by omega) (by omega) x1 hx1 x2 hx2 A8) (fun v9 _ hv9 => ?_)
  refine js_dup2 (pc1 := 79) rfl rfl ?_
  refine jt_ald (pc1 := 80) rfl rfl rfl rfl rfl (fun v10 hv10 => ?_)
  refine js_iconst (pc1 := 81) rfl rfl ?_
  refine js_iadd (pc1 := 82) rfl rfl ?_
  refine jt_ias (pc1 := 83) rfl rfl rfl rfl (fun A11 => ?_)
  exact je_V rfl
theorem z_M_need_ok{d w : Nat} (N : Nat) (hd : 1 ≤ d) (hw : 20 ≤ w) (x1 : Int) (hx1 : zrg x1) (A : zA) : zG (z_M_need N x1 A) zPV d w 134 0 [some (.inr (.inr (some 226))), some (.inl x1)] [] A := by
  unfold z_M_need
  refine js_aload (pc1 := 1) rfl rfl rfl ?_
  refine js_cP (pc1 := 4) (as := [(.inr (.inr (some 226)))]) (S0 := []) (m := 1) (L0 := [some (.inr (.inr (some 226)))]) rfl rfl rfl rfl rfl rfl rfl rfl (zrc_o rfl rfl) (by omega) (by omega) (z_M_look_ok N (by omega) (by omega) A) (fun v1 _ hv1 => ?_)
  refine js_iload (pc1 := 5) rfl rfl rfl ?_
  refine jt_eq (pc1 := 8) (t1 := 13) hv1 hx1 rfl rfl rfl (fun c2 => ?_) (fun c2 => ?_)
  · refine js_aload (pc1 := 14) rfl rfl rfl ?_
    refine js_dupR (pc1 := 15) rfl rfl ?_
    refine js_gi (pc1 := 18) (j := 13) rfl rfl rfl rfl ?_
    refine js_iconst (pc1 := 19) rfl rfl ?_
    refine js_iadd (pc1 := 20) rfl rfl ?_
    refine jt_pi (pc1 := 23) (j := 13) rfl rfl rfl rfl rfl (fun A3 => ?_)
    exact je_V rfl
  · refine js_aload (pc1 := 9) rfl rfl rfl ?_
    refine js_iconst (pc1 := 10) rfl rfl ?_
    refine jt_pbl (pc1 := 13) (j := 16) rfl rfl rfl rfl rfl (Or.inr rfl) (fun A4 => ?_)
    refine js_aload (pc1 := 14) rfl rfl rfl ?_
    refine js_dupR (pc1 := 15) rfl rfl ?_
    refine js_gi (pc1 := 18) (j := 13) rfl rfl rfl rfl ?_
    refine js_iconst (pc1 := 19) rfl rfl ?_
    refine js_iadd (pc1 := 20) rfl rfl ?_
    refine jt_pi (pc1 := 23) (j := 13) rfl rfl rfl rfl rfl (fun A5 => ?_)
    exact je_V rfl
theorem z_M_enter_ok{d w : Nat} (N : Nat) (hd : 2 ≤ d) (hw : 41 ≤ w) (x1 : Int) (hx1 : zrg x1) (A : zA) : zG (z_M_enter N x1 A) zPV d w 82 0 [some (.inr (.inr (some 226))), some (.inl x1)] [] A := by
  unfold z_M_enter
  refine js_aload (pc1 := 1) rfl rfl rfl ?_
  refine js_iconst (pc1 := 3) rfl rfl ?_
  refine js_cV (pc1 := 6) (as := [(.inr (.inr (some 226))), (.inl 123)]) (S0 := []) (m := 2) (L0 := [some (.inr (.inr (some 226))), some (.inl 123)]) rfl rfl rfl rfl rfl rfl rfl rfl (zrc_o rfl rfl) (by omega) (by omega) (z_M_need_ok N (by omega) (by omega) 123 (zlit rfl) A) (fun A1 _ => ?_)
  refine js_aload (pc1 := 7) rfl rfl rfl ?_
  refine js_gi (pc1 := 10) (j := 17) rfl rfl rfl rfl ?_
  refine js_iconst (pc1 := 11) rfl rfl ?_
  refine jt_lt (pc1 := 14) (t1 := 20) (zi_rg _ _ _) (zlit rfl) rfl rfl rfl (fun c2 => ?_) (fun c2 => ?_)
  · refine js_aload (pc1 := 21) rfl rfl rfl ?_
    refine js_gfr (pc1 := 24) (j := 18) (r := 234) rfl rfl rfl rfl rfl ?_
    refine js_aload (pc1 := 25) rfl rfl rfl ?_
    refine js_gi (pc1 := 28) (j := 17) rfl rfl rfl rfl ?_
    refine js_iload (pc1 := 29) rfl rfl rfl ?_
    refine jt_ias (pc1 := 30) rfl rfl rfl rfl (fun A3 => ?_)
    refine js_aload (pc1 := 31) rfl rfl rfl ?_
    refine js_dupR (pc1 := 32) rfl rfl ?_
    refine js_gi (pc1 := 35) (j := 17) rfl rfl rfl rfl ?_
    refine js_iconst (pc1 := 36) rfl rfl ?_
    refine js_iadd (pc1 := 37) rfl rfl ?_
    refine jt_pi (pc1 := 40) (j := 17) rfl rfl rfl rfl rfl (fun A4 => ?_)
    exact je_V rfl
  · refine js_aload (pc1 := 15) rfl rfl rfl ?_
    refine js_iconst (pc1 := 16) rfl rfl ?_
    refine jt_pbl (pc1 := 19) (j := 16) rfl rfl rfl rfl rfl (Or.inr rfl) (fun A5 => ?_)
    exact je_V rfl
theorem z_M_leave_ok{d w : Nat} (N : Nat) (hd : 3 ≤ d) (hw : 62 ≤ w) (A : zA) : zG (z_M_leave N A) zPV d w 81 0 [some (.inr (.inr (some 226))), none] [] A := by
  unfold z_M_leave
  refine js_aload (pc1 := 1) rfl rfl rfl ?_
  refine js_dupR (pc1 := 2) rfl rfl ?_
  refine js_gi (pc1 := 5) (j := 13) rfl rfl rfl rfl ?_
  refine js_iconst (pc1 := 6) rfl rfl ?_
  refine js_iadd (pc1 := 7) rfl rfl ?_
  refine jt_pi (pc1 := 10) (j := 13) rfl rfl rfl rfl rfl (fun A1 => ?_)
  refine js_aload (pc1 := 11) rfl rfl rfl ?_
  refine js_gfr (pc1 := 14) (j := 18) (r := 234) rfl rfl rfl rfl rfl ?_
  refine js_aload (pc1 := 15) rfl rfl rfl ?_
  refine js_gi (pc1 := 18) (j := 17) rfl rfl rfl rfl ?_
  refine js_iconst (pc1 := 19) rfl rfl ?_
  refine js_isub (pc1 := 20) rfl rfl ?_
  refine jt_ald (pc1 := 21) rfl rfl rfl rfl rfl (fun v2 hv2 => ?_)
  refine js_istore (pc1 := 22) (L1 := [some (.inr (.inr (some 226))), some (.inl v2)]) rfl rfl rfl rfl ?_
  refine js_aload (pc1 := 23) rfl rfl rfl ?_
  refine js_dupR (pc1 := 24) rfl rfl ?_
  refine js_gi (pc1 := 27) (j := 17) rfl rfl rfl rfl ?_
  refine js_iconst (pc1 := 28) rfl rfl ?_
  refine js_isub (pc1 := 29) rfl rfl ?_
  refine jt_pi (pc1 := 32) (j := 17) rfl rfl rfl rfl rfl (fun A3 => ?_)
  refine js_iload (pc1 := 33) rfl rfl rfl ?_
  refine js_iconst (pc1 := 34) rfl rfl ?_
  refine jt_ne (pc1 := 37) (t1 := 60) hv2 (zlit rfl) rfl rfl rfl (fun c4 => ?_) (fun c4 => ?_)
  · refine js_aload (pc1 := 38) rfl rfl rfl ?_
    refine js_iconst (pc1 := 39) rfl rfl ?_
    refine js_aload (pc1 := 40) rfl rfl rfl ?_
    refine js_gi (pc1 := 43) (j := 14) rfl rfl rfl rfl ?_
    refine js_iconst (pc1 := 45) rfl rfl ?_
    refine js_iconst (pc1 := 46) rfl rfl ?_
    refine js_iconst (pc1 := 47) rfl rfl ?_
    refine js_iconst (pc1 := 48) rfl rfl ?_
    refine js_iconst (pc1 := 49) rfl rfl ?_
    refine js_cV (pc1 := 52) (as := [(.inr (.inr (some 226))), (.inl 1), (.inl (zi A3 226 14)), (.inl 9), (.inl 0), (.inl 0), (.inl 0), (.inl 0)]) (S0 := []) (m := 9) (L0 := [some (.inr (.inr (some 226))), some (.inl 1), some (.inl (zi A3 226 14)), some (.inl 9), some (.inl 0), some (.inl 0), some (.inl 0), some (.inl 0), none]) rfl rfl rfl rfl rfl rfl rfl rfl (zrc_o rfl rfl) (by omega) (by omega) (z_M_emit_ok N (by omega) (by omega) 1 (zlit rfl) (zi A3 226 14) (zi_rg _ _ _) 9 (zlit rfl) 0 (zlit rfl) 0 (zlit rfl) 0 (zlit rfl) 0 (zlit rfl) A3) (fun A5 _ => ?_)
    refine js_aload (pc1 := 53) rfl rfl rfl ?_
    refine js_iconst (pc1 := 54) rfl rfl ?_
    refine js_cV (pc1 := 57) (as := [(.inr (.inr (some 226))), (.inl 2)]) (S0 := []) (m := 2) (L0 := [some (.inr (.inr (some 226))), some (.inl 2)]) rfl rfl rfl rfl rfl rfl rfl rfl (zrc_o rfl rfl) (by omega) (by omega) (z_M_enter_ok N (by omega) (by omega) 2 (zlit rfl) A5) (fun A6 _ => ?_)
    refine js_goto (t1 := 98) rfl rfl ?_
    exact je_V rfl
  · refine js_iload (pc1 := 61) rfl rfl rfl ?_
    refine js_iconst (pc1 := 62) rfl rfl ?_
    refine jt_ne (pc1 := 65) (t1 := 83) hv2 (zlit rfl) rfl rfl rfl (fun c7 => ?_) (fun c7 => ?_)
    · refine js_aload (pc1 := 66) rfl rfl rfl ?_
      refine js_dupR (pc1 := 67) rfl rfl ?_
      refine js_gi (pc1 := 70) (j := 15) rfl rfl rfl rfl ?_
      refine js_iconst (pc1 := 71) rfl rfl ?_
      refine js_iadd (pc1 := 72) rfl rfl ?_
      refine jt_pi (pc1 := 75) (j := 15) rfl rfl rfl rfl rfl (fun A8 => ?_)
      refine js_aload (pc1 := 76) rfl rfl rfl ?_
      refine js_iconst (pc1 := 77) rfl rfl ?_
      refine jt_pi (pc1 := 80) (j := 14) rfl rfl rfl rfl rfl (fun A9 => ?_)
      refine js_goto (t1 := 98) rfl rfl ?_
      exact je_V rfl
    · refine js_aload (pc1 := 84) rfl rfl rfl ?_
      refine js_iconst (pc1 := 85) rfl rfl ?_
      refine js_aload (pc1 := 86) rfl rfl rfl ?_
      refine js_gi (pc1 := 89) (j := 14) rfl rfl rfl rfl ?_
      refine js_iconst (pc1 := 91) rfl rfl ?_
      refine js_iconst (pc1 := 92) rfl rfl ?_
      refine js_iconst (pc1 := 93) rfl rfl ?_
      refine js_iconst (pc1 := 94) rfl rfl ?_
      refine js_iconst (pc1 := 95) rfl rfl ?_
      refine js_cV (pc1 := 98) (as := [(.inr (.inr (some 226))), (.inl 1), (.inl (zi A3 226 14)), (.inl 12), (.inl 0), (.inl 0), (.inl 0), (.inl 0)]) (S0 := []) (m := 9) (L0 := [some (.inr (.inr (some 226))), some (.inl 1), some (.inl (zi A3 226 14)), some (.inl 12), some (.inl 0), some (.inl 0), some (.inl 0), some (.inl 0), none]) rfl rfl rfl rfl rfl rfl rfl rfl (zrc_o rfl rfl) (by omega) (by omega) (z_M_emit_ok N (by omega) (by omega) 1 (zlit rfl) (zi A3 226 14) (zi_rg _ _ _) 12 (zlit rfl) 0 (zlit rfl) 0 (zlit rfl) 0 (zlit rfl) 0 (zlit rfl) A3) (fun A10 _ => ?_)
      exact je_V rfl
theorem z_M_isVariable_ok{d w : Nat} (N : Nat) (hd : 0 ≤ d) (hw : 0 ≤ w) (x1 : Int) (hx1 : zrg x1) (A : zA) : zG (z_M_isVariable N x1 A) (zPp A) d w 135 0 [some (.inr (.inr (some 226))), some (.inl x1)] [] A := by
  unfold z_M_isVariable
  refine js_iload (pc1 := 1) rfl rfl rfl ?_
  refine js_iconst (pc1 := 3) rfl rfl ?_
  refine jt_lt (pc1 := 6) (t1 := 16) hx1 (zlit rfl) rfl rfl rfl (fun c1 => ?_) (fun c1 => ?_)
  · refine js_iconst (pc1 := 17) rfl rfl ?_
    exact je_P rfl (zfit3 rfl (Or.inl rfl)) rfl (zlit rfl)
  · refine js_iload (pc1 := 7) rfl rfl rfl ?_
    refine js_iconst (pc1 := 9) rfl rfl ?_
    refine jt_gt (pc1 := 12) (t1 := 16) hx1 (zlit rfl) rfl rfl rfl (fun c2 => ?_) (fun c2 => ?_)
    · refine js_iconst (pc1 := 17) rfl rfl ?_
      exact je_P rfl (zfit3 rfl (Or.inl rfl)) rfl (zlit rfl)
    · refine js_iconst (pc1 := 13) rfl rfl ?_
      refine js_goto (t1 := 17) rfl rfl ?_
      exact je_P rfl (zfit3 rfl (Or.inr rfl)) rfl (zlit rfl)
theorem z_M_isDigit_ok{d w : Nat} (N : Nat) (hd : 0 ≤ d) (hw : 0 ≤ w) (x1 : Int) (hx1 : zrg x1) (A : zA) : zG (z_M_isDigit N x1 A) (zPp A) d w 224 0 [some (.inr (.inr (some 226))), some (.inl x1)] [] A := by
  unfold z_M_isDigit
  refine js_iload (pc1 := 1) rfl rfl rfl ?_
  refine js_iconst (pc1 := 3) rfl rfl ?_
  refine jt_lt (pc1 := 6) (t1 := 16) hx1 (zlit rfl) rfl rfl rfl (fun c1 => ?_) (fun c1 => ?_)
  · refine js_iconst (pc1 := 17) rfl rfl ?_
    exact je_P rfl (zfit3 rfl (Or.inl rfl)) rfl (zlit rfl)
  · refine js_iload (pc1 := 7) rfl rfl rfl ?_
    refine js_iconst (pc1 := 9) rfl rfl ?_
    refine jt_gt (pc1 := 12) (t1 := 16) hx1 (zlit rfl) rfl rfl rfl (fun c2 => ?_) (fun c2 => ?_)
    · refine js_iconst (pc1 := 17) rfl rfl ?_
      exact je_P rfl (zfit3 rfl (Or.inl rfl)) rfl (zlit rfl)
    · refine js_iconst (pc1 := 13) rfl rfl ?_
      refine js_goto (t1 := 17) rfl rfl ?_
      exact je_P rfl (zfit3 rfl (Or.inr rfl)) rfl (zlit rfl)
theorem z_M_fresh_ok{d w : Nat} (N : Nat) (hd : 1 ≤ d) (hw : 21 ≤ w) (A : zA) : zG (z_M_fresh N A) zPI d w 225 0 [some (.inr (.inr (some 226)))] [] A := by
  unfold z_M_fresh
  refine js_aload (pc1 := 1) rfl rfl rfl ?_
  refine js_gfr (pc1 := 4) (j := 5) (r := 230) rfl rfl rfl rfl rfl ?_
  refine js_iconst (pc1 := 5) rfl rfl ?_
  refine js_aload (pc1 := 6) rfl rfl rfl ?_
  refine js_gi (pc1 := 9) (j := 14) rfl rfl rfl rfl ?_
  refine js_cP (pc1 := 12) (as := [(.inl 1), (.inl (zi A 226 14))]) (S0 := [(.inr (.inr (some 230)))]) (m := 2) (L0 := [some (.inl 1), some (.inl (zi A 226 14))]) rfl rfl rfl rfl rfl rfl rfl rfl (zrc_s rfl) (by omega) (by omega) (z_M_row_ok N (by omega) (by omega) 1 (zlit rfl) (zi A 226 14) (zi_rg _ _ _) A) (fun v1 _ hv1 => ?_)
  refine js_dup2 (pc1 := 13) rfl rfl ?_
  refine jt_ald (pc1 := 14) rfl rfl rfl rfl rfl (fun v2 hv2 => ?_)
  refine js_iconst (pc1 := 15) rfl rfl ?_
  refine js_iadd (pc1 := 16) rfl rfl ?_
  refine jt_ias (pc1 := 17) rfl rfl rfl rfl (fun A3 => ?_)
  refine js_aload (pc1 := 18) rfl rfl rfl ?_
  refine js_gfr (pc1 := 21) (j := 5) (r := 230) rfl rfl rfl rfl rfl ?_
  refine js_iconst (pc1 := 22) rfl rfl ?_
  refine js_aload (pc1 := 23) rfl rfl rfl ?_
  refine js_gi (pc1 := 26) (j := 14) rfl rfl rfl rfl ?_
  refine js_cP (pc1 := 29) (as := [(.inl 1), (.inl (zi A3 226 14))]) (S0 := [(.inr (.inr (some 230)))]) (m := 2) (L0 := [some (.inl 1), some (.inl (zi A3 226 14))]) rfl rfl rfl rfl rfl rfl rfl rfl (zrc_s rfl) (by omega) (by omega) (z_M_row_ok N (by omega) (by omega) 1 (zlit rfl) (zi A3 226 14) (zi_rg _ _ _) A3) (fun v4 _ hv4 => ?_)
  refine jt_ald (pc1 := 30) rfl rfl rfl rfl rfl (fun v5 hv5 => ?_)
  refine js_iconst (pc1 := 31) rfl rfl ?_
  refine js_isub (pc1 := 32) rfl rfl ?_
  exact je_I rfl (zfit0 _ rfl) (zval_w (v5 - 1)) (zw_rg (v5 - 1))
theorem z_M_push_ok{d w : Nat} (N : Nat) (hd : 0 ≤ d) (hw : 0 ≤ w) (x1 : Int) (hx1 : zrg x1) (A : zA) : zG (z_M_push N x1 A) zPV d w 226 0 [some (.inr (.inr (some 226))), some (.inl x1)] [] A := by
  unfold z_M_push
  refine js_aload (pc1 := 1) rfl rfl rfl ?_
  refine js_gfr (pc1 := 4) (j := 23) (r := 236) rfl rfl rfl rfl rfl ?_
  refine js_aload (pc1 := 5) rfl rfl rfl ?_
  refine js_gi (pc1 := 8) (j := 20) rfl rfl rfl rfl ?_
  refine js_iload (pc1 := 9) rfl rfl rfl ?_
  refine jt_ias (pc1 := 10) rfl rfl rfl rfl (fun A1 => ?_)
  refine js_aload (pc1 := 11) rfl rfl rfl ?_
  refine js_dupR (pc1 := 12) rfl rfl ?_
  refine js_gi (pc1 := 15) (j := 20) rfl rfl rfl rfl ?_
  refine js_iconst (pc1 := 16) rfl rfl ?_
  refine js_iadd (pc1 := 17) rfl rfl ?_
  refine jt_pi (pc1 := 20) (j := 20) rfl rfl rfl rfl rfl (fun A2 => ?_)
  exact je_V rfl
theorem z_M_opens_ok{d w : Nat} (N : Nat) (hd : 0 ≤ d) (hw : 0 ≤ w) (x1 : Int) (hx1 : zrg x1) (A : zA) : zG (z_M_opens N x1 A) zPV d w 227 0 [some (.inr (.inr (some 226))), some (.inl x1)] [] A := by
  unfold z_M_opens
  refine js_aload (pc1 := 1) rfl rfl rfl ?_
  refine js_gfr (pc1 := 4) (j := 22) (r := 235) rfl rfl rfl rfl rfl ?_
  refine js_aload (pc1 := 5) rfl rfl rfl ?_
  refine js_gi (pc1 := 8) (j := 19) rfl rfl rfl rfl ?_
  refine js_iload (pc1 := 9) rfl rfl rfl ?_
  refine jt_ias (pc1 := 10) rfl rfl rfl rfl (fun A1 => ?_)
  refine js_aload (pc1 := 11) rfl rfl rfl ?_
  refine js_dupR (pc1 := 12) rfl rfl ?_
  refine js_gi (pc1 := 15) (j := 19) rfl rfl rfl rfl ?_
  refine js_iconst (pc1 := 16) rfl rfl ?_
  refine js_iadd (pc1 := 17) rfl rfl ?_
  refine jt_pi (pc1 := 20) (j := 19) rfl rfl rfl rfl rfl (fun A2 => ?_)
  refine js_aload (pc1 := 21) rfl rfl rfl ?_
  refine js_dupR (pc1 := 22) rfl rfl ?_
  refine js_gi (pc1 := 25) (j := 21) rfl rfl rfl rfl ?_
  refine js_iconst (pc1 := 26) rfl rfl ?_
  refine js_iadd (pc1 := 27) rfl rfl ?_
  refine jt_pi (pc1 := 30) (j := 21) rfl rfl rfl rfl rfl (fun A3 => ?_)
  refine js_aload (pc1 := 31) rfl rfl rfl ?_
  refine js_gi (pc1 := 34) (j := 21) rfl rfl rfl rfl ?_
  refine js_iconst (pc1 := 35) rfl rfl ?_
  refine jt_le (pc1 := 38) (t1 := 43) (zi_rg _ _ _) (zlit rfl) rfl rfl rfl (fun c4 => ?_) (fun c4 => ?_)
  · refine js_aload (pc1 := 39) rfl rfl rfl ?_
    refine js_iconst (pc1 := 40) rfl rfl ?_
    refine jt_pbl (pc1 := 43) (j := 16) rfl rfl rfl rfl rfl (Or.inr rfl) (fun A5 => ?_)
    exact je_V rfl
  · exact je_V rfl
theorem z_M_work_ok{d w : Nat} (N : Nat) (hd : 2 ≤ d) (hw : 50 ≤ w) (x1 : Int) (hx1 : zrg x1) (A : zA) : zG (z_M_work N x1 A) zPV d w 275 0 [some (.inr (.inr (some 226))), some (.inl x1), none] [] A := by
  unfold z_M_work
  refine js_aload (pc1 := 1) rfl rfl rfl ?_
  refine js_dupR (pc1 := 2) rfl rfl ?_
  refine js_gi (pc1 := 5) (j := 20) rfl rfl rfl rfl ?_
  refine js_iconst (pc1 := 6) rfl rfl ?_
  refine js_isub (pc1 := 7) rfl rfl ?_
  refine jt_pi (pc1 := 10) (j := 20) rfl rfl rfl rfl rfl (fun A1 => ?_)
  refine js_aload (pc1 := 11) rfl rfl rfl ?_
  refine js_cI (pc1 := 14) (as := [(.inr (.inr (some 226)))]) (S0 := []) (m := 1) (L0 := [some (.inr (.inr (some 226)))]) rfl rfl rfl rfl rfl rfl rfl rfl (zrc_o rfl rfl) (by omega) (by omega) (z_M_fresh_ok N (by omega) (by omega) A1) (fun v2 A3 _ hv2 => ?_)
  refine js_istore (pc1 := 15) (L1 := [some (.inr (.inr (some 226))), some (.inl x1), some (.inl v2)]) rfl rfl rfl rfl ?_
  refine js_aload (pc1 := 16) rfl rfl rfl ?_
  refine js_iconst (pc1 := 17) rfl rfl ?_
  refine js_aload (pc1 := 18) rfl rfl rfl ?_
  refine js_gi (pc1 := 21) (j := 14) rfl rfl rfl rfl ?_
  refine js_iconst (pc1 := 22) rfl rfl ?_
  refine js_iload (pc1 := 23) rfl rfl rfl ?_
  refine js_aload (pc1 := 24) rfl rfl rfl ?_
  refine js_gfr (pc1 := 27) (j := 23) (r := 236) rfl rfl rfl rfl rfl ?_
  refine js_aload (pc1 := 28) rfl rfl rfl ?_
  refine js_gi (pc1 := 31) (j := 20) rfl rfl rfl rfl ?_
  refine js_iconst (pc1 := 32) rfl rfl ?_
  refine js_isub (pc1 := 33) rfl rfl ?_
  refine jt_ald (pc1 := 34) rfl rfl rfl rfl rfl (fun v4 hv4 => ?_)
  refine js_aload (pc1 := 35) rfl rfl rfl ?_
  refine js_gfr (pc1 := 38) (j := 23) (r := 236) rfl rfl rfl rfl rfl ?_
  refine js_aload (pc1 := 39) rfl rfl rfl ?_
  refine js_gi (pc1 := 42) (j := 20) rfl rfl rfl rfl ?_
  refine jt_ald (pc1 := 43) rfl rfl rfl rfl rfl (fun v5 hv5 => ?_)
  refine js_iload (pc1 := 44) rfl rfl rfl ?_
  refine js_cV (pc1 := 47) (as := [(.inr (.inr (some 226))), (.inl 1), (.inl (zi A3 226 14)), (.inl 2), (.inl v2), (.inl v4), (.inl v5), (.inl x1)]) (S0 := []) (m := 9) (L0 := [some (.inr (.inr (some 226))), some (.inl 1), some (.inl (zi A3 226 14)), some (.inl 2), some (.inl v2), some (.inl v4), some (.inl v5), some (.inl x1), none]) rfl rfl rfl rfl rfl rfl rfl rfl (zrc_o rfl rfl) (by omega) (by omega) (z_M_emit_ok N (by omega) (by omega) 1 (zlit rfl) (zi A3 226 14) (zi_rg _ _ _) 2 (zlit rfl) v2 hv2 v4 hv4 v5 hv5 x1 hx1 A3) (fun A6 _ => ?_)
  refine js_aload (pc1 := 48) rfl rfl rfl ?_
  refine js_gfr (pc1 := 51) (j := 23) (r := 236) rfl rfl rfl rfl rfl ?_
  refine js_aload (pc1 := 52) rfl rfl rfl ?_
  refine js_gi (pc1 := 55) (j := 20) rfl rfl rfl rfl ?_
  refine js_iconst (pc1 := 56) rfl rfl ?_
  refine js_isub (pc1 := 57) rfl rfl ?_
  refine js_iload (pc1 := 58) rfl rfl rfl ?_
  refine jt_ias (pc1 := 59) rfl rfl rfl rfl (fun A7 => ?_)
  exact je_V rfl
theorem z_M_whole_0_bok{d w : Nat} {r0 : zA → Option zA} (hr0 : ∀ (A : zA), zG (r0 A) zPV d w 228 0 [some (.inr (.inr (some 226)))] [] A) (N : Nat) (hd : 3 ≤ d) (hw : 72 ≤ w) (A : zA) : zG (z_M_whole_0_b r0 N A) zPV d w 228 0 [some (.inr (.inr (some 226)))] [] A := by
  unfold z_M_whole_0_b
  refine js_aload (pc1 := 1) rfl rfl rfl ?_
  refine js_gi (pc1 := 4) (j := 19) rfl rfl rfl rfl ?_
  refine ju_le (pc1 := 7) (t1 := 49) (zi_rg _ _ _) rfl rfl rfl (fun c1 => ?_) (fun c1 => ?_)
  · refine js_aload (pc1 := 8) rfl rfl rfl ?_
    refine js_gfr (pc1 := 11) (j := 22) (r := 235) rfl rfl rfl rfl rfl ?_
    refine js_aload (pc1 := 12) rfl rfl rfl ?_
    refine js_gi (pc1 := 15) (j := 19) rfl rfl rfl rfl ?_
    refine js_iconst (pc1 := 16) rfl rfl ?_
    refine js_isub (pc1 := 17) rfl rfl ?_
    refine jt_ald (pc1 := 18) rfl rfl rfl rfl rfl (fun v2 hv2 => ?_)
    refine ju_ne (pc1 := 21) (t1 := 49) hv2 rfl rfl rfl (fun c3 => ?_) (fun c3 => ?_)
    · refine js_aload (pc1 := 22) rfl rfl rfl ?_
      refine js_dupR (pc1 := 23) rfl rfl ?_
      refine js_gi (pc1 := 26) (j := 19) rfl rfl rfl rfl ?_
      refine js_iconst (pc1 := 27) rfl rfl ?_
      refine js_isub (pc1 := 28) rfl rfl ?_
      refine jt_pi (pc1 := 31) (j := 19) rfl rfl rfl rfl rfl (fun A4 => ?_)
      refine js_aload (pc1 := 32) rfl rfl rfl ?_
      refine js_dupR (pc1 := 33) rfl rfl ?_
      refine js_gi (pc1 := 36) (j := 21) rfl rfl rfl rfl ?_
      refine js_iconst (pc1 := 37) rfl rfl ?_
      refine js_isub (pc1 := 38) rfl rfl ?_
      refine jt_pi (pc1 := 41) (j := 21) rfl rfl rfl rfl rfl (fun A5 => ?_)
      refine js_aload (pc1 := 42) rfl rfl rfl ?_
      refine js_iconst (pc1 := 43) rfl rfl ?_
      refine js_cV (pc1 := 46) (as := [(.inr (.inr (some 226))), (.inl 1)]) (S0 := []) (m := 3) (L0 := [some (.inr (.inr (some 226))), some (.inl 1), none]) rfl rfl rfl rfl rfl rfl rfl rfl (zrc_o rfl rfl) (by omega) (by omega) (z_M_work_ok N (by omega) (by omega) 1 (zlit rfl) A5) (fun A6 _ => ?_)
      refine js_goto (t1 := 0) rfl rfl ?_
      exact hr0 A6
    · exact je_V rfl
  · exact je_V rfl
theorem z_M_whole_0_lok{d w : Nat} (N : Nat) (hd : 3 ≤ d) (hw : 72 ≤ w) (n : Nat) : ∀ (A : zA), zG (z_M_whole_0_l N n A) zPV d w 228 0 [some (.inr (.inr (some 226)))] [] A := by
  induction n with
  | zero => intros; exact zG_none
  | succ n ih =>
    intro  A
    exact z_M_whole_0_bok ih N hd hw  A
theorem z_M_whole_0_ok{d w : Nat} (N : Nat) (hd : 3 ≤ d) (hw : 72 ≤ w) (A : zA) : zG (z_M_whole_0 N A) zPV d w 228 0 [some (.inr (.inr (some 226)))] [] A := z_M_whole_0_lok N hd hw N  A
theorem z_M_whole_ok{d w : Nat} (N : Nat) (hd : 3 ≤ d) (hw : 72 ≤ w) (A : zA) : zG (z_M_whole N A) zPV d w 228 0 [some (.inr (.inr (some 226)))] [] A := by
  unfold z_M_whole
  exact z_M_whole_0_ok N hd hw A
theorem z_M_factor_236_ok{d w : Nat} (N : Nat) (hd : 4 ≤ d) (hw : 92 ≤ w) (A : zA) : zG (z_M_factor_236 N A) zPI d w 163 236 [some (.inr (.inr (some 226))), none, none, none] [] A := by
  unfold z_M_factor_236
  refine js_aload (pc1 := 237) rfl rfl rfl ?_
  refine js_gi (pc1 := 240) (j := 16) rfl rfl rfl rfl ?_
  refine ju_ne (pc1 := 243) (t1 := 247) (zi_rg _ _ _) rfl rfl rfl (fun c1 => ?_) (fun c1 => ?_)
  · refine js_aload (pc1 := 244) rfl rfl rfl ?_
    refine js_cV (pc1 := 247) (as := [(.inr (.inr (some 226)))]) (S0 := []) (m := 1) (L0 := [some (.inr (.inr (some 226)))]) rfl rfl rfl rfl rfl rfl rfl rfl (zrc_o rfl rfl) (by omega) (by omega) (z_M_whole_ok N (by omega) (by omega) A) (fun A2 _ => ?_)
    refine js_iconst (pc1 := 248) rfl rfl ?_
    exact je_I rfl (zfit3 rfl (Or.inl rfl)) rfl (zlit rfl)
  · refine js_iconst (pc1 := 248) rfl rfl ?_
    exact je_I rfl (zfit3 rfl (Or.inl rfl)) rfl (zlit rfl)
theorem z_M_factor_75_ok{d w : Nat} (N : Nat) (hd : 4 ≤ d) (hw : 92 ≤ w) (x2 : Int) (hx2 : zrg x2) (A : zA) : zG (z_M_factor_75 N x2 A) zPI d w 163 75 [some (.inr (.inr (some 226))), none, some (.inl x2), none] [] A := by
  unfold z_M_factor_75
  refine js_aload (pc1 := 76) rfl rfl rfl ?_
  refine js_aload (pc1 := 77) rfl rfl rfl ?_
  refine js_cI (pc1 := 80) (as := [(.inr (.inr (some 226)))]) (S0 := [(.inr (.inr (some 226)))]) (m := 1) (L0 := [some (.inr (.inr (some 226)))]) rfl rfl rfl rfl rfl rfl rfl rfl (zrc_o rfl rfl) (by omega) (by omega) (z_M_fresh_ok N (by omega) (by omega) A) (fun v1 A2 _ hv1 => ?_)
  refine js_cV (pc1 := 83) (as := [(.inr (.inr (some 226))), (.inl v1)]) (S0 := []) (m := 2) (L0 := [some (.inr (.inr (some 226))), some (.inl v1)]) rfl rfl rfl rfl rfl rfl rfl rfl (zrc_o rfl rfl) (by omega) (by omega) (z_M_push_ok N (by omega) (by omega) v1 hv1 A2) (fun A3 _ => ?_)
  refine js_aload (pc1 := 84) rfl rfl rfl ?_
  refine js_iconst (pc1 := 85) rfl rfl ?_
  refine js_aload (pc1 := 86) rfl rfl rfl ?_
  refine js_gi (pc1 := 89) (j := 14) rfl rfl rfl rfl ?_
  refine js_iconst (pc1 := 90) rfl rfl ?_
  refine js_aload (pc1 := 91) rfl rfl rfl ?_
  refine js_gfr (pc1 := 94) (j := 23) (r := 236) rfl rfl rfl rfl rfl ?_
  refine js_aload (pc1 := 95) rfl rfl rfl ?_
  refine js_gi (pc1 := 98) (j := 20) rfl rfl rfl rfl ?_
  refine js_iconst (pc1 := 99) rfl rfl ?_
  refine js_isub (pc1 := 100) rfl rfl ?_
  refine jt_ald (pc1 := 101) rfl rfl rfl rfl rfl (fun v4 hv4 => ?_)
  refine js_iload (pc1 := 102) rfl rfl rfl ?_
  refine js_iconst (pc1 := 103) rfl rfl ?_
  refine js_iconst (pc1 := 104) rfl rfl ?_
  refine js_cV (pc1 := 107) (as := [(.inr (.inr (some 226))), (.inl 1), (.inl (zi A3 226 14)), (.inl 0), (.inl v4), (.inl x2), (.inl 0), (.inl 0)]) (S0 := []) (m := 9) (L0 := [some (.inr (.inr (some 226))), some (.inl 1), some (.inl (zi A3 226 14)), some (.inl 0), some (.inl v4), some (.inl x2), some (.inl 0), some (.inl 0), none]) rfl rfl rfl rfl rfl rfl rfl rfl (zrc_o rfl rfl) (by omega) (by omega) (z_M_emit_ok N (by omega) (by omega) 1 (zlit rfl) (zi A3 226 14) (zi_rg _ _ _) 0 (zlit rfl) v4 hv4 x2 hx2 0 (zlit rfl) 0 (zlit rfl) A3) (fun A5 _ => ?_)
  refine js_goto (t1 := 236) rfl rfl ?_
  exact zG_to (L := [some (.inr (.inr (some 226))), none, none, none]) (S := []) ⟨rfl, trivial⟩ (rfl) (z_M_factor_236_ok N hd hw A5)
theorem z_M_factor_30_bok{d w : Nat} {r30 : Int → Int → zA → Option (Int × zA)} (hr30 : ∀ (x2 : Int) (hx2 : zrg x2) (x3 : Int) (hx3 : zrg x3) (A : zA), zG (r30 x2 x3 A) zPI d w 163 30 [some (.inr (.inr (some 226))), none, some (.inl x2), some (.inl x3)] [] A) (N : Nat) (hd : 4 ≤ d) (hw : 92 ≤ w) (x2 : Int) (hx2 : zrg x2) (x3 : Int) (hx3 : zrg x3) (A : zA) : zG (z_M_factor_30_b r30 N x2 x3 A) zPI d w 163 30 [some (.inr (.inr (some 226))), none, some (.inl x2), some (.inl x3)] [] A := by
  unfold z_M_factor_30_b
  refine js_iload (pc1 := 31) rfl rfl rfl ?_
  refine js_iconst (pc1 := 32) rfl rfl ?_
  refine jt_ge (pc1 := 35) (t1 := 75) hx3 (zlit rfl) rfl rfl rfl (fun c1 => ?_) (fun c1 => ?_)
  · refine js_aload (pc1 := 36) rfl rfl rfl ?_
    refine js_aload (pc1 := 37) rfl rfl rfl ?_
    refine js_cP (pc1 := 40) (as := [(.inr (.inr (some 226)))]) (S0 := [(.inr (.inr (some 226)))]) (m := 1) (L0 := [some (.inr (.inr (some 226)))]) rfl rfl rfl rfl rfl rfl rfl rfl (zrc_o rfl rfl) (by omega) (by omega) (z_M_look_ok N (by omega) (by omega) A) (fun v2 _ hv2 => ?_)
    refine js_cP (pc1 := 43) (as := [(.inr (.inr (some 226))), (.inl v2)]) (S0 := []) (m := 2) (L0 := [some (.inr (.inr (some 226))), some (.inl v2)]) rfl rfl rfl rfl rfl rfl rfl rfl (zrc_o rfl rfl) (by omega) (by omega) (z_M_isDigit_ok N (by omega) (by omega) v2 hv2 A) (fun v3 _ hv3 => ?_)
    refine ju_eq (pc1 := 46) (t1 := 75) hv3 rfl rfl rfl (fun c4 => ?_) (fun c4 => ?_)
    · exact zG_to (L := [some (.inr (.inr (some 226))), none, some (.inl x2), none]) (S := []) ⟨rfl, ⟨rfl, trivial⟩⟩ (rfl) (z_M_factor_75_ok N hd hw x2 hx2 A)
    · refine js_iconst (pc1 := 48) rfl rfl ?_
      refine js_iload (pc1 := 49) rfl rfl rfl ?_
      refine js_imul (pc1 := 50) rfl rfl ?_
      refine js_aload (pc1 := 51) rfl rfl rfl ?_
      refine js_cP (pc1 := 54) (as := [(.inr (.inr (some 226)))]) (S0 := [(.inl (10 * x2))]) (m := 1) (L0 := [some (.inr (.inr (some 226)))]) rfl rfl rfl rfl rfl rfl rfl rfl (zrc_o rfl rfl) (by omega) (by omega) (z_M_look_ok N (by omega) (by omega) A) (fun v5 _ hv5 => ?_)
      refine js_iadd (pc1 := 55) rfl rfl ?_
      refine js_iconst (pc1 := 57) rfl rfl ?_
      refine js_isub (pc1 := 58) rfl rfl ?_
      refine zG_w1 ?_
      refine js_istore (pc1 := 59) (L1 := [some (.inr (.inr (some 226))), none, some (.inl (zw (((10 * x2) + v5) - 48))), some (.inl x3)]) rfl rfl rfl rfl ?_
      refine js_aload (pc1 := 60) rfl rfl rfl ?_
      refine js_dupR (pc1 := 61) rfl rfl ?_
      refine js_gi (pc1 := 64) (j := 13) rfl rfl rfl rfl ?_
      refine js_iconst (pc1 := 65) rfl rfl ?_
      refine js_iadd (pc1 := 66) rfl rfl ?_
      refine jt_pi (pc1 := 69) (j := 13) rfl rfl rfl rfl rfl (fun A6 => ?_)
      refine js_iinc (pc1 := 72) (L1 := [some (.inr (.inr (some 226))), none, some (.inl (zw (((10 * x2) + v5) - 48))), some (.inl (x3 + 1))]) rfl rfl rfl rfl ?_
      refine js_goto (t1 := 30) rfl rfl ?_
      exact zG_to (L := [some (.inr (.inr (some 226))), none, some (.inl (zw (((10 * x2) + v5) - 48))), some (.inl (zw (x3 + 1)))]) (S := []) ⟨rfl, ⟨rfl, ⟨zval_w (x3 + 1), trivial⟩⟩⟩ (rfl) (hr30 (zw (((10 * x2) + v5) - 48)) (zw_rg (((10 * x2) + v5) - 48)) (zw (x3 + 1)) (zw_rg (x3 + 1)) A6)
  · exact zG_to (L := [some (.inr (.inr (some 226))), none, some (.inl x2), none]) (S := []) ⟨rfl, ⟨rfl, trivial⟩⟩ (rfl) (z_M_factor_75_ok N hd hw x2 hx2 A)
theorem z_M_factor_30_lok{d w : Nat} (N : Nat) (hd : 4 ≤ d) (hw : 92 ≤ w) (n : Nat) : ∀ (x2 : Int) (hx2 : zrg x2) (x3 : Int) (hx3 : zrg x3) (A : zA), zG (z_M_factor_30_l N n x2 x3 A) zPI d w 163 30 [some (.inr (.inr (some 226))), none, some (.inl x2), some (.inl x3)] [] A := by
  induction n with
  | zero => intros; exact zG_none
  | succ n ih =>
    intro x2 hx2 x3 hx3 A
    exact z_M_factor_30_bok ih N hd hw x2 hx2 x3 hx3 A
theorem z_M_factor_30_ok{d w : Nat} (N : Nat) (hd : 4 ≤ d) (hw : 92 ≤ w) (x2 : Int) (hx2 : zrg x2) (x3 : Int) (hx3 : zrg x3) (A : zA) : zG (z_M_factor_30 N x2 x3 A) zPI d w 163 30 [some (.inr (.inr (some 226))), none, some (.inl x2), some (.inl x3)] [] A := z_M_factor_30_lok N hd hw N x2 hx2 x3 hx3 A
theorem z_M_factor_148_ok{d w : Nat} (N : Nat) (hd : 4 ≤ d) (hw : 92 ≤ w) (s1 : Int) (hs1 : zrg s1) (A : zA) : zG (z_M_factor_148 N s1 A) zPI d w 163 148 [some (.inr (.inr (some 226))), none, none, none] [(.inl s1), (.inr (.inr (some 226)))] A := by
  unfold z_M_factor_148
  refine js_cV (pc1 := 151) (as := [(.inr (.inr (some 226))), (.inl s1)]) (S0 := []) (m := 2) (L0 := [some (.inr (.inr (some 226))), some (.inl s1)]) rfl rfl rfl rfl rfl rfl rfl rfl (zrc_o rfl rfl) (by omega) (by omega) (z_M_push_ok N (by omega) (by omega) s1 hs1 A) (fun A1 _ => ?_)
  refine js_goto (t1 := 236) rfl rfl ?_
  exact z_M_factor_236_ok N hd hw A1
theorem z_M_factor_132_ok{d w : Nat} (N : Nat) (hd : 4 ≤ d) (hw : 92 ≤ w) (x1 : Int) (hx1 : zrg x1) (A : zA) : zG (z_M_factor_132 N x1 A) zPI d w 163 132 [some (.inr (.inr (some 226))), some (.inl x1), none, none] [] A := by
  unfold z_M_factor_132
  refine js_aload (pc1 := 133) rfl rfl rfl ?_
  refine js_iload (pc1 := 134) rfl rfl rfl ?_
  refine js_iconst (pc1 := 136) rfl rfl ?_
  refine jt_ne (pc1 := 139) (t1 := 144) hx1 (zlit rfl) rfl rfl rfl (fun c1 => ?_) (fun c1 => ?_)
  · refine js_iconst (pc1 := 141) rfl rfl ?_
    refine js_goto (t1 := 148) rfl rfl ?_
    exact zG_to (L := [some (.inr (.inr (some 226))), none, none, none]) (S := [(.inl 6), (.inr (.inr (some 226)))]) ⟨rfl, trivial⟩ (rfl) (z_M_factor_148_ok N hd hw 6 (zlit rfl) A)
  · refine js_iload (pc1 := 145) rfl rfl rfl ?_
    refine js_iconst (pc1 := 147) rfl rfl ?_
    refine js_isub (pc1 := 148) rfl rfl ?_
    exact zG_to (L := [some (.inr (.inr (some 226))), none, none, none]) (S := [(.inl (zw (x1 - 97))), (.inr (.inr (some 226)))]) ⟨rfl, trivial⟩ (by simp only [zS, List.map_cons, List.map_nil, zval_w]) (z_M_factor_148_ok N hd hw (zw (x1 - 97)) (zw_rg (x1 - 97)) A)
theorem z_M_factor_154_ok{d w : Nat} (N : Nat) (hd : 4 ≤ d) (hw : 92 ≤ w) (x1 : Int) (hx1 : zrg x1) (A : zA) : zG (z_M_factor_154 N x1 A) zPI d w 163 154 [some (.inr (.inr (some 226))), some (.inl x1), none, none] [] A := by
  unfold z_M_factor_154
  refine js_iload (pc1 := 155) rfl rfl rfl ?_
  refine js_iconst (pc1 := 157) rfl rfl ?_
  refine jt_ne (pc1 := 160) (t1 := 167) hx1 (zlit rfl) rfl rfl rfl (fun c1 => ?_) (fun c1 => ?_)
  · refine js_aload (pc1 := 161) rfl rfl rfl ?_
    refine js_iconst (pc1 := 162) rfl rfl ?_
    refine js_cV (pc1 := 165) (as := [(.inr (.inr (some 226))), (.inl 1)]) (S0 := []) (m := 2) (L0 := [some (.inr (.inr (some 226))), some (.inl 1)]) rfl rfl rfl rfl rfl rfl rfl rfl (zrc_o rfl rfl) (by omega) (by omega) (z_M_opens_ok N (by omega) (by omega) 1 (zlit rfl) A) (fun A2 _ => ?_)
    refine js_iconst (pc1 := 166) rfl rfl ?_
    exact je_I rfl (zfit3 rfl (Or.inr rfl)) rfl (zlit rfl)
  · refine js_iload (pc1 := 168) rfl rfl rfl ?_
    refine js_iconst (pc1 := 170) rfl rfl ?_
    refine jt_ne (pc1 := 173) (t1 := 186) hx1 (zlit rfl) rfl rfl rfl (fun c3 => ?_) (fun c3 => ?_)
    · refine js_aload (pc1 := 174) rfl rfl rfl ?_
      refine js_iconst (pc1 := 176) rfl rfl ?_
      refine js_cV (pc1 := 179) (as := [(.inr (.inr (some 226))), (.inl 91)]) (S0 := []) (m := 2) (L0 := [some (.inr (.inr (some 226))), some (.inl 91)]) rfl rfl rfl rfl rfl rfl rfl rfl (zrc_o rfl rfl) (by omega) (by omega) (z_M_need_ok N (by omega) (by omega) 91 (zlit rfl) A) (fun A4 _ => ?_)
      refine js_aload (pc1 := 180) rfl rfl rfl ?_
      refine js_iconst (pc1 := 181) rfl rfl ?_
      refine js_cV (pc1 := 184) (as := [(.inr (.inr (some 226))), (.inl 2)]) (S0 := []) (m := 2) (L0 := [some (.inr (.inr (some 226))), some (.inl 2)]) rfl rfl rfl rfl rfl rfl rfl rfl (zrc_o rfl rfl) (by omega) (by omega) (z_M_opens_ok N (by omega) (by omega) 2 (zlit rfl) A4) (fun A5 _ => ?_)
      refine js_iconst (pc1 := 185) rfl rfl ?_
      exact je_I rfl (zfit3 rfl (Or.inr rfl)) rfl (zlit rfl)
    · refine js_iload (pc1 := 187) rfl rfl rfl ?_
      refine js_iconst (pc1 := 189) rfl rfl ?_
      refine jt_ne (pc1 := 192) (t1 := 231) hx1 (zlit rfl) rfl rfl rfl (fun c6 => ?_) (fun c6 => ?_)
      · refine js_aload (pc1 := 193) rfl rfl rfl ?_
        refine js_aload (pc1 := 194) rfl rfl rfl ?_
        refine js_cI (pc1 := 197) (as := [(.inr (.inr (some 226)))]) (S0 := [(.inr (.inr (some 226)))]) (m := 1) (L0 := [some (.inr (.inr (some 226)))]) rfl rfl rfl rfl rfl rfl rfl rfl (zrc_o rfl rfl) (by omega) (by omega) (z_M_fresh_ok N (by omega) (by omega) A) (fun v7 A8 _ hv7 => ?_)
        refine js_cV (pc1 := 200) (as := [(.inr (.inr (some 226))), (.inl v7)]) (S0 := []) (m := 2) (L0 := [some (.inr (.inr (some 226))), some (.inl v7)]) rfl rfl rfl rfl rfl rfl rfl rfl (zrc_o rfl rfl) (by omega) (by omega) (z_M_push_ok N (by omega) (by omega) v7 hv7 A8) (fun A9 _ => ?_)
        refine js_aload (pc1 := 201) rfl rfl rfl ?_
        refine js_iconst (pc1 := 202) rfl rfl ?_
        refine js_aload (pc1 := 203) rfl rfl rfl ?_
        refine js_gi (pc1 := 206) (j := 14) rfl rfl rfl rfl ?_
        refine js_iconst (pc1 := 207) rfl rfl ?_
        refine js_aload (pc1 := 208) rfl rfl rfl ?_
        refine js_gfr (pc1 := 211) (j := 23) (r := 236) rfl rfl rfl rfl rfl ?_
        refine js_aload (pc1 := 212) rfl rfl rfl ?_
        refine js_gi (pc1 := 215) (j := 20) rfl rfl rfl rfl ?_
        refine js_iconst (pc1 := 216) rfl rfl ?_
        refine js_isub (pc1 := 217) rfl rfl ?_
        refine jt_ald (pc1 := 218) rfl rfl rfl rfl rfl (fun v10 hv10 => ?_)
        refine js_iconst (pc1 := 219) rfl rfl ?_
        refine js_iconst (pc1 := 220) rfl rfl ?_
        refine js_iconst (pc1 := 221) rfl rfl ?_
        refine js_cV (pc1 := 224) (as := [(.inr (.inr (some 226))), (.inl 1), (.inl (zi A9 226 14)), (.inl 0), (.inl v10), (.inl 0), (.inl 0), (.inl 0)]) (S0 := []) (m := 9) (L0 := [some (.inr (.inr (some 226))), some (.inl 1), some (.inl (zi A9 226 14)), some (.inl 0), some (.inl v10), some (.inl 0), some (.inl 0), some (.inl 0), none]) rfl rfl rfl rfl rfl rfl rfl rfl (zrc_o rfl rfl) (by omega) (by omega) (z_M_emit_ok N (by omega) (by omega) 1 (zlit rfl) (zi A9 226 14) (zi_rg _ _ _) 0 (zlit rfl) v10 hv10 0 (zlit rfl) 0 (zlit rfl) 0 (zlit rfl) A9) (fun A11 _ => ?_)
        refine js_aload (pc1 := 225) rfl rfl rfl ?_
        refine js_iconst (pc1 := 226) rfl rfl ?_
        refine js_cV (pc1 := 229) (as := [(.inr (.inr (some 226))), (.inl 0)]) (S0 := []) (m := 2) (L0 := [some (.inr (.inr (some 226))), some (.inl 0)]) rfl rfl rfl rfl rfl rfl rfl rfl (zrc_o rfl rfl) (by omega) (by omega) (z_M_opens_ok N (by omega) (by omega) 0 (zlit rfl) A11) (fun A12 _ => ?_)
        refine js_iconst (pc1 := 230) rfl rfl ?_
        exact je_I rfl (zfit3 rfl (Or.inr rfl)) rfl (zlit rfl)
      · refine js_aload (pc1 := 232) rfl rfl rfl ?_
        refine js_iconst (pc1 := 233) rfl rfl ?_
        refine jt_pbl (pc1 := 236) (j := 16) rfl rfl rfl rfl rfl (Or.inr rfl) (fun A13 => ?_)
        exact zG_to (L := [some (.inr (.inr (some 226))), none, none, none]) (S := []) ⟨rfl, trivial⟩ (rfl) (z_M_factor_236_ok N hd hw A13)
theorem z_M_factor_ok{d w : Nat} (N : Nat) (hd : 4 ≤ d) (hw : 92 ≤ w) (A : zA) : zG (z_M_factor N A) zPI d w 163 0 [some (.inr (.inr (some 226))), none, none, none] [] A := by
  unfold z_M_factor
  refine js_aload (pc1 := 1) rfl rfl rfl ?_
  refine js_cP (pc1 := 4) (as := [(.inr (.inr (some 226)))]) (S0 := []) (m := 1) (L0 := [some (.inr (.inr (some 226)))]) rfl rfl rfl rfl rfl rfl rfl rfl (zrc_o rfl rfl) (by omega) (by omega) (z_M_look_ok N (by omega) (by omega) A) (fun v1 _ hv1 => ?_)
  refine js_istore (pc1 := 5) (L1 := [some (.inr (.inr (some 226))), some (.inl v1), none, none]) rfl rfl rfl rfl ?_
  refine js_aload (pc1 := 6) rfl rfl rfl ?_
  refine js_dupR (pc1 := 7) rfl rfl ?_
  refine js_gi (pc1 := 10) (j := 13) rfl rfl rfl rfl ?_
  refine js_iconst (pc1 := 11) rfl rfl ?_
  refine js_iadd (pc1 := 12) rfl rfl ?_
  refine jt_pi (pc1 := 15) (j := 13) rfl rfl rfl rfl rfl (fun A2 => ?_)
  refine js_aload (pc1 := 16) rfl rfl rfl ?_
  refine js_iload (pc1 := 17) rfl rfl rfl ?_
  refine js_cP (pc1 := 20) (as := [(.inr (.inr (some 226))), (.inl v1)]) (S0 := []) (m := 2) (L0 := [some (.inr (.inr (some 226))), some (.inl v1)]) rfl rfl rfl rfl rfl rfl rfl rfl (zrc_o rfl rfl) (by omega) (by omega) (z_M_isDigit_ok N (by omega) (by omega) v1 hv1 A2) (fun v3 _ hv3 => ?_)
  refine ju_eq (pc1 := 23) (t1 := 110) hv3 rfl rfl rfl (fun c4 => ?_) (fun c4 => ?_)
  · refine js_aload (pc1 := 111) rfl rfl rfl ?_
    refine js_iload (pc1 := 112) rfl rfl rfl ?_
    refine js_cP (pc1 := 115) (as := [(.inr (.inr (some 226))), (.inl v1)]) (S0 := []) (m := 2) (L0 := [some (.inr (.inr (some 226))), some (.inl v1)]) rfl rfl rfl rfl rfl rfl rfl rfl (zrc_o rfl rfl) (by omega) (by omega) (z_M_isVariable_ok N (by omega) (by omega) v1 hv1 A2) (fun v5 _ hv5 => ?_)
    refine ju_ne (pc1 := 118) (t1 := 132) hv5 rfl rfl rfl (fun c6 => ?_) (fun c6 => ?_)
    · refine js_iload (pc1 := 119) rfl rfl rfl ?_
      refine js_iconst (pc1 := 121) rfl rfl ?_
      refine jt_ne (pc1 := 124) (t1 := 154) hv1 (zlit rfl) rfl rfl rfl (fun c7 => ?_) (fun c7 => ?_)
      · refine js_aload (pc1 := 125) rfl rfl rfl ?_
        refine js_gi (pc1 := 128) (j := 14) rfl rfl rfl rfl ?_
        refine js_iconst (pc1 := 129) rfl rfl ?_
        refine jt_eq (pc1 := 132) (t1 := 154) (zi_rg _ _ _) (zlit rfl) rfl rfl rfl (fun c8 => ?_) (fun c8 => ?_)
        · exact z_M_factor_154_ok N hd hw v1 hv1 A2
        · exact z_M_factor_132_ok N hd hw v1 hv1 A2
      · exact z_M_factor_154_ok N hd hw v1 hv1 A2
    · exact z_M_factor_132_ok N hd hw v1 hv1 A2
  · refine js_iload (pc1 := 24) rfl rfl rfl ?_
    refine js_iconst (pc1 := 26) rfl rfl ?_
    refine js_isub (pc1 := 27) rfl rfl ?_
    refine zG_w1 ?_
    refine js_istore (pc1 := 28) (L1 := [some (.inr (.inr (some 226))), some (.inl v1), some (.inl (zw (v1 - 48))), none]) rfl rfl rfl rfl ?_
    refine js_iconst (pc1 := 29) rfl rfl ?_
    refine js_istore (pc1 := 30) (L1 := [some (.inr (.inr (some 226))), some (.inl v1), some (.inl (zw (v1 - 48))), some (.inl 1)]) rfl rfl rfl rfl ?_
    exact zG_to (L := [some (.inr (.inr (some 226))), none, some (.inl (zw (v1 - 48))), some (.inl 1)]) (S := []) ⟨rfl, ⟨rfl, ⟨rfl, trivial⟩⟩⟩ (rfl) (z_M_factor_30_ok N hd hw (zw (v1 - 48)) (zw_rg (v1 - 48)) 1 (zlit rfl) A2)
theorem z_M_operatorOf_ok{d w : Nat} (N : Nat) (hd : 0 ≤ d) (hw : 0 ≤ w) (x0 : Int) (hx0 : zrg x0) (A : zA) : zG (z_M_operatorOf N x0 A) (zPp A) d w 229 0 [some (.inl x0)] [] A := by
  unfold z_M_operatorOf
  refine js_iload (pc1 := 1) rfl rfl rfl ?_
  refine js_iconst (pc1 := 3) rfl rfl ?_
  refine jt_ne (pc1 := 6) (t1 := 10) hx0 (zlit rfl) rfl rfl rfl (fun c1 => ?_) (fun c1 => ?_)
  · refine js_iconst (pc1 := 7) rfl rfl ?_
    refine js_goto (t1 := 61) rfl rfl ?_
    exact je_P rfl (zfit0 _ rfl) rfl (zlit rfl)
  · refine js_iload (pc1 := 11) rfl rfl rfl ?_
    refine js_iconst (pc1 := 13) rfl rfl ?_
    refine jt_ne (pc1 := 16) (t1 := 20) hx0 (zlit rfl) rfl rfl rfl (fun c2 => ?_) (fun c2 => ?_)
    · refine js_iconst (pc1 := 17) rfl rfl ?_
      refine js_goto (t1 := 61) rfl rfl ?_
      exact je_P rfl (zfit0 _ rfl) rfl (zlit rfl)
    · refine js_iload (pc1 := 21) rfl rfl rfl ?_
      refine js_iconst (pc1 := 23) rfl rfl ?_
      refine jt_ne (pc1 := 26) (t1 := 30) hx0 (zlit rfl) rfl rfl rfl (fun c3 => ?_) (fun c3 => ?_)
      · refine js_iconst (pc1 := 27) rfl rfl ?_
        refine js_goto (t1 := 61) rfl rfl ?_
        exact je_P rfl (zfit0 _ rfl) rfl (zlit rfl)
      · refine js_iload (pc1 := 31) rfl rfl rfl ?_
        refine js_iconst (pc1 := 33) rfl rfl ?_
        refine jt_ne (pc1 := 36) (t1 := 40) hx0 (zlit rfl) rfl rfl rfl (fun c4 => ?_) (fun c4 => ?_)
        · refine js_iconst (pc1 := 37) rfl rfl ?_
          refine js_goto (t1 := 61) rfl rfl ?_
          exact je_P rfl (zfit0 _ rfl) rfl (zlit rfl)
        · refine js_iload (pc1 := 41) rfl rfl rfl ?_
          refine js_iconst (pc1 := 43) rfl rfl ?_
          refine jt_ne (pc1 := 46) (t1 := 50) hx0 (zlit rfl) rfl rfl rfl (fun c5 => ?_) (fun c5 => ?_)
          · refine js_iconst (pc1 := 47) rfl rfl ?_
            refine js_goto (t1 := 61) rfl rfl ?_
            exact je_P rfl (zfit0 _ rfl) rfl (zlit rfl)
          · refine js_iload (pc1 := 51) rfl rfl rfl ?_
            refine js_iconst (pc1 := 53) rfl rfl ?_
            refine jt_ne (pc1 := 56) (t1 := 60) hx0 (zlit rfl) rfl rfl rfl (fun c6 => ?_) (fun c6 => ?_)
            · refine js_iconst (pc1 := 57) rfl rfl ?_
              refine js_goto (t1 := 61) rfl rfl ?_
              exact je_P rfl (zfit0 _ rfl) rfl (zlit rfl)
            · refine js_iconst (pc1 := 61) rfl rfl ?_
              exact je_P rfl (zfit0 _ rfl) rfl (zlit rfl)
theorem z_M_strength_ok{d w : Nat} (N : Nat) (hd : 0 ≤ d) (hw : 0 ≤ w) (x0 : Int) (hx0 : zrg x0) (A : zA) : zG (z_M_strength N x0 A) (zPp A) d w 230 0 [some (.inl x0)] [] A := by
  unfold z_M_strength
  refine js_iload (pc1 := 1) rfl rfl rfl ?_
  refine js_iconst (pc1 := 2) rfl rfl ?_
  refine jt_eq (pc1 := 5) (t1 := 10) hx0 (zlit rfl) rfl rfl rfl (fun c1 => ?_) (fun c1 => ?_)
  · refine js_iconst (pc1 := 11) rfl rfl ?_
    refine js_goto (t1 := 24) rfl rfl ?_
    exact je_P rfl (zfit0 _ rfl) rfl (zlit rfl)
  · refine js_iload (pc1 := 6) rfl rfl rfl ?_
    refine js_iconst (pc1 := 7) rfl rfl ?_
    refine jt_ne (pc1 := 10) (t1 := 14) hx0 (zlit rfl) rfl rfl rfl (fun c2 => ?_) (fun c2 => ?_)
    · refine js_iconst (pc1 := 11) rfl rfl ?_
      refine js_goto (t1 := 24) rfl rfl ?_
      exact je_P rfl (zfit0 _ rfl) rfl (zlit rfl)
    · refine js_iload (pc1 := 15) rfl rfl rfl ?_
      refine js_iconst (pc1 := 16) rfl rfl ?_
      refine jt_ge (pc1 := 19) (t1 := 23) hx0 (zlit rfl) rfl rfl rfl (fun c3 => ?_) (fun c3 => ?_)
      · refine js_iconst (pc1 := 20) rfl rfl ?_
        refine js_goto (t1 := 24) rfl rfl ?_
        exact je_P rfl (zfit0 _ rfl) rfl (zlit rfl)
      · refine js_iconst (pc1 := 24) rfl rfl ?_
        exact je_P rfl (zfit0 _ rfl) rfl (zlit rfl)
theorem z_M_reduce_0_bok{d w : Nat} {r0 : Int → zA → Option zA} (hr0 : ∀ (x1 : Int) (hx1 : zrg x1) (A : zA), zG (r0 x1 A) zPV d w 231 0 [some (.inr (.inr (some 226))), some (.inl x1)] [] A) (N : Nat) (hd : 3 ≤ d) (hw : 72 ≤ w) (x1 : Int) (hx1 : zrg x1) (A : zA) : zG (z_M_reduce_0_b r0 N x1 A) zPV d w 231 0 [some (.inr (.inr (some 226))), some (.inl x1)] [] A := by
  unfold z_M_reduce_0_b
  refine js_aload (pc1 := 1) rfl rfl rfl ?_
  refine js_gi (pc1 := 4) (j := 19) rfl rfl rfl rfl ?_
  refine ju_le (pc1 := 7) (t1 := 73) (zi_rg _ _ _) rfl rfl rfl (fun c1 => ?_) (fun c1 => ?_)
  · refine js_aload (pc1 := 8) rfl rfl rfl ?_
    refine js_gfr (pc1 := 11) (j := 22) (r := 235) rfl rfl rfl rfl rfl ?_
    refine js_aload (pc1 := 12) rfl rfl rfl ?_
    refine js_gi (pc1 := 15) (j := 19) rfl rfl rfl rfl ?_
    refine js_iconst (pc1 := 16) rfl rfl ?_
    refine js_isub (pc1 := 17) rfl rfl ?_
    refine jt_ald (pc1 := 18) rfl rfl rfl rfl rfl (fun v2 hv2 => ?_)
    refine js_iconst (pc1 := 20) rfl rfl ?_
    refine jt_lt (pc1 := 23) (t1 := 73) hv2 (zlit rfl) rfl rfl rfl (fun c3 => ?_) (fun c3 => ?_)
    · exact je_V rfl
    · refine js_aload (pc1 := 24) rfl rfl rfl ?_
      refine js_gfr (pc1 := 27) (j := 22) (r := 235) rfl rfl rfl rfl rfl ?_
      refine js_aload (pc1 := 28) rfl rfl rfl ?_
      refine js_gi (pc1 := 31) (j := 19) rfl rfl rfl rfl ?_
      refine js_iconst (pc1 := 32) rfl rfl ?_
      refine js_isub (pc1 := 33) rfl rfl ?_
      refine jt_ald (pc1 := 34) rfl rfl rfl rfl rfl (fun v4 hv4 => ?_)
      refine js_iconst (pc1 := 36) rfl rfl ?_
      refine js_isub (pc1 := 37) rfl rfl ?_
      refine js_cP (pc1 := 40) (as := [(.inl (v4 - 10))]) (S0 := []) (m := 1) (L0 := [some (.inl (v4 - 10))]) rfl rfl rfl rfl rfl rfl rfl rfl (zrc_s rfl) (by omega) (by omega) (zG_to (L := [some (.inl (zw (v4 - 10)))]) (S := []) ⟨zval_w (v4 - 10), trivial⟩ rfl (z_M_strength_ok N (by omega) (by omega) (zw (v4 - 10)) (zw_rg (v4 - 10)) A)) (fun v5 _ hv5 => ?_)
      refine js_iload (pc1 := 41) rfl rfl rfl ?_
      refine jt_lt (pc1 := 44) (t1 := 73) hv5 hx1 rfl rfl rfl (fun c6 => ?_) (fun c6 => ?_)
      · exact je_V rfl
      · refine js_aload (pc1 := 45) rfl rfl rfl ?_
        refine js_dupR (pc1 := 46) rfl rfl ?_
        refine js_gi (pc1 := 49) (j := 19) rfl rfl rfl rfl ?_
        refine js_iconst (pc1 := 50) rfl rfl ?_
        refine js_isub (pc1 := 51) rfl rfl ?_
        refine jt_pi (pc1 := 54) (j := 19) rfl rfl rfl rfl rfl (fun A7 => ?_)
        refine js_aload (pc1 := 55) rfl rfl rfl ?_
        refine js_aload (pc1 := 56) rfl rfl rfl ?_
        refine js_gfr (pc1 := 59) (j := 22) (r := 235) rfl rfl rfl rfl rfl ?_
        refine js_aload (pc1 := 60) rfl rfl rfl ?_
        refine js_gi (pc1 := 63) (j := 19) rfl rfl rfl rfl ?_
        refine jt_ald (pc1 := 64) rfl rfl rfl rfl rfl (fun v8 hv8 => ?_)
        refine js_iconst (pc1 := 66) rfl rfl ?_
        refine js_isub (pc1 := 67) rfl rfl ?_
        refine js_cV (pc1 := 70) (as := [(.inr (.inr (some 226))), (.inl (v8 - 10))]) (S0 := []) (m := 3) (L0 := [some (.inr (.inr (some 226))), some (.inl (v8 - 10)), none]) rfl rfl rfl rfl rfl rfl rfl rfl (zrc_o rfl rfl) (by omega) (by omega) (zG_to (L := [some (.inr (.inr (some 226))), some (.inl (zw (v8 - 10))), none]) (S := []) ⟨rfl, ⟨zval_w (v8 - 10), trivial⟩⟩ rfl (z_M_work_ok N (by omega) (by omega) (zw (v8 - 10)) (zw_rg (v8 - 10)) A7)) (fun A9 _ => ?_)
        refine js_goto (t1 := 0) rfl rfl ?_
        exact hr0 x1 hx1 A9
  · exact je_V rfl
theorem z_M_reduce_0_lok{d w : Nat} (N : Nat) (hd : 3 ≤ d) (hw : 72 ≤ w) (n : Nat) : ∀ (x1 : Int) (hx1 : zrg x1) (A : zA), zG (z_M_reduce_0_l N n x1 A) zPV d w 231 0 [some (.inr (.inr (some 226))), some (.inl x1)] [] A := by
  induction n with
  | zero => intros; exact zG_none
  | succ n ih =>
    intro x1 hx1 A
    exact z_M_reduce_0_bok ih N hd hw x1 hx1 A
theorem z_M_reduce_0_ok{d w : Nat} (N : Nat) (hd : 3 ≤ d) (hw : 72 ≤ w) (x1 : Int) (hx1 : zrg x1) (A : zA) : zG (z_M_reduce_0 N x1 A) zPV d w 231 0 [some (.inr (.inr (some 226))), some (.inl x1)] [] A := z_M_reduce_0_lok N hd hw N x1 hx1 A
theorem z_M_reduce_ok{d w : Nat} (N : Nat) (hd : 3 ≤ d) (hw : 72 ≤ w) (x1 : Int) (hx1 : zrg x1) (A : zA) : zG (z_M_reduce N x1 A) zPV d w 231 0 [some (.inr (.inr (some 226))), some (.inl x1)] [] A := by
  unfold z_M_reduce
  exact z_M_reduce_0_ok N hd hw x1 hx1 A
theorem z_M_behind_70_ok{d w : Nat} (N : Nat) (hd : 4 ≤ d) (hw : 93 ≤ w) (x2 : Int) (hx2 : zrg x2) (A : zA) : zG (z_M_behind_70 N x2 A) zPI d w 164 70 [some (.inr (.inr (some 226))), none, some (.inl x2), none, none] [] A := by
  unfold z_M_behind_70
  refine js_aload (pc1 := 71) rfl rfl rfl ?_
  refine js_gfr (pc1 := 74) (j := 22) (r := 235) rfl rfl rfl rfl rfl ?_
  refine js_aload (pc1 := 75) rfl rfl rfl ?_
  refine js_gi (pc1 := 78) (j := 19) rfl rfl rfl rfl ?_
  refine js_iconst (pc1 := 80) rfl rfl ?_
  refine js_iload (pc1 := 81) rfl rfl rfl ?_
  refine js_iadd (pc1 := 82) rfl rfl ?_
  refine jt_ias (pc1 := 83) rfl rfl rfl rfl (fun A1 => ?_)
  refine js_aload (pc1 := 84) rfl rfl rfl ?_
  refine js_dupR (pc1 := 85) rfl rfl ?_
  refine js_gi (pc1 := 88) (j := 19) rfl rfl rfl rfl ?_
  refine js_iconst (pc1 := 89) rfl rfl ?_
  refine js_iadd (pc1 := 90) rfl rfl ?_
  refine jt_pi (pc1 := 93) (j := 19) rfl rfl rfl rfl rfl (fun A2 => ?_)
  refine js_aload (pc1 := 94) rfl rfl rfl ?_
  refine js_dupR (pc1 := 95) rfl rfl ?_
  refine js_gi (pc1 := 98) (j := 13) rfl rfl rfl rfl ?_
  refine js_iconst (pc1 := 99) rfl rfl ?_
  refine js_iadd (pc1 := 100) rfl rfl ?_
  refine jt_pi (pc1 := 103) (j := 13) rfl rfl rfl rfl rfl (fun A3 => ?_)
  refine js_iconst (pc1 := 104) rfl rfl ?_
  exact je_I rfl (zfit0 _ rfl) rfl (zlit rfl)
theorem z_M_behind_31_ok{d w : Nat} (N : Nat) (hd : 4 ≤ d) (hw : 93 ≤ w) (x2 : Int) (hx2 : zrg x2) (s1 : Int) (hs1 : zrg s1) (A : zA) : zG (z_M_behind_31 N x2 s1 A) zPI d w 164 31 [some (.inr (.inr (some 226))), none, some (.inl x2), none, none] [(.inl s1), (.inr (.inr (some 226)))] A := by
  unfold z_M_behind_31
  refine js_cV (pc1 := 34) (as := [(.inr (.inr (some 226))), (.inl s1)]) (S0 := []) (m := 2) (L0 := [some (.inr (.inr (some 226))), some (.inl s1)]) rfl rfl rfl rfl rfl rfl rfl rfl (zrc_o rfl rfl) (by omega) (by omega) (z_M_reduce_ok N (by omega) (by omega) s1 hs1 A) (fun A1 _ => ?_)
  refine js_iload (pc1 := 35) rfl rfl rfl ?_
  refine js_cP (pc1 := 38) (as := [(.inl x2)]) (S0 := []) (m := 1) (L0 := [some (.inl x2)]) rfl rfl rfl rfl rfl rfl rfl rfl (zrc_s rfl) (by omega) (by omega) (z_M_strength_ok N (by omega) (by omega) x2 hx2 A1) (fun v2 _ hv2 => ?_)
  refine js_iconst (pc1 := 39) rfl rfl ?_
  refine jt_ne (pc1 := 42) (t1 := 70) hv2 (zlit rfl) rfl rfl rfl (fun c3 => ?_) (fun c3 => ?_)
  · refine js_aload (pc1 := 43) rfl rfl rfl ?_
    refine js_gi (pc1 := 46) (j := 19) rfl rfl rfl rfl ?_
    refine ju_le (pc1 := 49) (t1 := 70) (zi_rg _ _ _) rfl rfl rfl (fun c4 => ?_) (fun c4 => ?_)
    · refine js_aload (pc1 := 50) rfl rfl rfl ?_
      refine js_gfr (pc1 := 53) (j := 22) (r := 235) rfl rfl rfl rfl rfl ?_
      refine js_aload (pc1 := 54) rfl rfl rfl ?_
      refine js_gi (pc1 := 57) (j := 19) rfl rfl rfl rfl ?_
      refine js_iconst (pc1 := 58) rfl rfl ?_
      refine js_isub (pc1 := 59) rfl rfl ?_
      refine jt_ald (pc1 := 60) rfl rfl rfl rfl rfl (fun v5 hv5 => ?_)
      refine js_iconst (pc1 := 62) rfl rfl ?_
      refine jt_lt (pc1 := 65) (t1 := 70) hv5 (zlit rfl) rfl rfl rfl (fun c6 => ?_) (fun c6 => ?_)
      · exact z_M_behind_70_ok N hd hw x2 hx2 A1
      · refine js_aload (pc1 := 66) rfl rfl rfl ?_
        refine js_iconst (pc1 := 67) rfl rfl ?_
        refine jt_pbl (pc1 := 70) (j := 16) rfl rfl rfl rfl rfl (Or.inr rfl) (fun A7 => ?_)
        exact z_M_behind_70_ok N hd hw x2 hx2 A7
    · exact z_M_behind_70_ok N hd hw x2 hx2 A1
  · exact z_M_behind_70_ok N hd hw x2 hx2 A1
