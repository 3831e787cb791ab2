/-! Things: dropTo and what reads -/
section
variable {N : Nat} {A : zA} {o t : Nat}
theorem Th_drop_run {n : Nat} (ho : tho.contains o = true) : ∀ (r t f : Nat) (A : zA), n + r = t → t ≤ 40000 → r < f → Own A → TT A o t → ∃ B, z_Th_dropTo_7_l N f o n ((t : Int) - 1) A = some B ∧ cF [o] A B ∧ TT B o n ∧ (∀ i, i < n → tk B o i = tk A o i ∧ tn B o i 6 = tn A o i 6) ∧ zi B o 3 = zi A o 3 ∧ zi B o 4 = zi A o 4 := by
  intro r
  induction r with
  | zero =>
    intro t f A h1 ht h2 h hT
    obtain ⟨g, rfl⟩ : ∃ g, f = g + 1 := ⟨f - 1, by omega⟩
    refine ⟨A, ?_, cF.refl _ h, by rw [show n = t by omega]; exact hT, fun _ _ => ⟨rfl, rfl⟩, rfl, rfl⟩
    show z_Th_dropTo_7_b (z_Th_dropTo_7_l N g) N o n ((t : Int) - 1) A = _
    unfold z_Th_dropTo_7_b
    rw [if_pos (by omega)]
  | succ r ih =>
    intro t f A h1 ht h2 h hT
    obtain ⟨g, rfl⟩ : ∃ g, f = g + 1 := ⟨f - 1, by omega⟩
    obtain ⟨u, rfl⟩ : ∃ u, t = u + 1 := ⟨t - 1, by omega⟩
    obtain ⟨⟨q, hTI⟩, hDI, hm⟩ := hT
    obtain ⟨p1, p2, p3⟩ := hTI.pw
    have hd := tho_dy ho
    have hfx := tho_fx ho
    have l0 := hTI.2.1
    have l1 := hTI.2.2.1
    have htq := hTI.2.2.2.1
    obtain ⟨s, s1, s2, s3⟩ := hTI.slot (i := u) (by omega)
    have e1 : ((u + 1 : Nat) : Int) - 1 = u := by omega
    have e2 : yv A o 0 ((u : Int) * 7 + 5) = s := by rw [← s1]; unfold tn; rw [Int.mul_comm]
    have w1 : zw ((u : Int) + (-1)) = (u : Int) - 1 := by rw [yb_w (by omega) (by omega)]; omega
    have k1 : z_Th_dropTo_7_l N (g + 1) o n (((u + 1 : Nat) : Int) - 1) A = z_Th_dropTo_7_l N g o n ((u : Int) - 1) (zsi (ys A o 1 s 0) o 2 (((u + 1 : Nat) : Int) - 1)) := by
      rw [e1]
      show z_Th_dropTo_7_b (z_Th_dropTo_7_l N g) N o n u A = _
      unfold z_Th_dropTo_7_b
      rw [if_neg (by omega), if_neg (by omega)]
      simp (disch := (first | decide | omega | assumption | ((repeat (first | apply Own.ys | apply Own.si | apply Own.rs)); assumption) | (simp only [yl_ys, yl_si, yl_rs]; omega))) only [zgr_d, zrD_d, e2, zwD_d, zlet_s, w1, zi_ys, hm, e1]
    rw [k1]
    have oB : Own (ys A o 1 s 0) := h
    have fC : cF [o] A (zsi (ys A o 1 s 0) o 2 (((u + 1 : Nat) : Int) - 1)) := (cF_ys h hd (by decide) (cont1 o)).trans (cF_si oB hfx (tho_ne ho) (cont1 o))
    have nC : ∀ (i : Nat) (j : Int), tn (zsi (ys A o 1 s 0) o 2 (((u + 1 : Nat) : Int) - 1)) o i j = tn A o i j := fun i j => by
      unfold tn
      rw [yv_si oB hd (by decide) hfx, yv_ys_o h hd (by decide) hd (by decide) (by omega)]
    have vC : ∀ e : Nat, yv (zsi (ys A o 1 s 0) o 2 (((u + 1 : Nat) : Int) - 1)) o 1 e = if e = s then 0 else yv A o 1 e := fun e => by
      rw [yv_si oB hd (by decide) hfx, yv_ys (by omega) (by omega), show zw 0 = 0 by decide]
      by_cases c : e = s
      · rw [if_pos c, if_pos (by omega)]
      · rw [if_neg c, if_neg (by omega)]
    have z2 : zi (zsi (ys A o 1 s 0) o 2 (((u + 1 : Nat) : Int) - 1)) o 2 = u := by rw [zi_si_s, e1, yb_w (by omega) (by omega)]
    have z3 : zi (zsi (ys A o 1 s 0) o 2 (((u + 1 : Nat) : Int) - 1)) o 3 = zi A o 3 := by rw [zi_si_j (by decide), zi_ys h hd (by decide) hfx]
    have z4 : zi (zsi (ys A o 1 s 0) o 2 (((u + 1 : Nat) : Int) - 1)) o 4 = zi A o 4 := by rw [zi_si_j (by decide), zi_ys h hd (by decide) hfx]
    have lC : ∀ f, yl (zsi (ys A o 1 s 0) o 2 (((u + 1 : Nat) : Int) - 1)) o f = yl A o f := fun _ => rfl
    generalize zsi (ys A o 1 s 0) o 2 (((u + 1 : Nat) : Int) - 1) = C at *
    have kC : ∀ i, tk C o i = tk A o i := fun i => by unfold tk; simp only [nC]
    have hTC : TT C o u := ⟨⟨q, TI_drop hTI lC (fun i _ j _ _ => nC i j) s1 vC⟩, fun i j hij hj => by rw [kC, kC]; exact hDI i j hij (by omega), z2⟩
    obtain ⟨B, b1, b2, b3, b4, b5, b6⟩ := ih u g C (by omega) (by omega) (by omega) fC.own hTC
    exact ⟨B, b1, fC.trans b2, b3, fun i hi => ⟨by rw [(b4 i hi).1, kC], by rw [(b4 i hi).2, nC]⟩, by rw [b5, z3], by rw [b6, z4]⟩
theorem Th_dropTo {n : Nat} (hN : 300000 ≤ N) (ho : tho.contains o = true) (h : Own A) (hT : TT A o t) (hn : n ≤ t) (ht : t ≤ 40000) : ∃ B, z_Th_dropTo N o n A = some B ∧ cF [o] A B ∧ TT B o n ∧ (∀ i, i < n → tk B o i = tk A o i ∧ tn B o i 6 = tn A o i 6) ∧ zi B o 3 = zi A o 3 ∧ zi B o 4 = zi A o 4 := by
  obtain ⟨B, b1, b2⟩ := Th_drop_run (N := N) (n := n) ho (t - n) t N A (by omega) ht (by omega) h hT
  refine ⟨B, ?_, b2⟩
  unfold z_Th_dropTo z_Th_dropTo_7
  rw [hT.2.2, yb_w (by omega) (by omega)]
  exact b1
theorem TT.l0 (hT : TT A o t) : 7 * (t : Int) ≤ yl A o 0 ∧ t ≤ 131072 := by
  obtain ⟨⟨q, hTI⟩, hDI, hm⟩ := hT
  obtain ⟨p1, p2, p3⟩ := hTI.pw
  have l0 := hTI.2.1
  have := hTI.2.2.2.1
  omega
variable {i : Nat}
theorem Th_isNumber (h : Own A) (ho : tho.contains o = true) (hT : TT A o t) (hi : i < t) : z_Th_isNumber N o i A = some (if (tk A o i).1 = 0 then 1 else 0) := by
  have hd := tho_dy ho
  have := hT.l0
  unfold z_Th_isNumber
  rw [if_neg (by omega), hT.2.2, if_pos (by omega)]
  simp (disch := (first | decide | omega | assumption | ((repeat (first | apply Own.ys | apply Own.si | apply Own.rs)); assumption) | (simp only [yl_ys, yl_si, yl_rs]; omega))) only [zgr_d, zrD_d]
  unfold tk tn
  simp only [Int.add_zero, Int.mul_comm (i : Int) 7]
  split <;> rfl
theorem Th_value (h : Own A) (ho : tho.contains o = true) (hT : TT A o t) (hi : i < t) : z_Th_value N o i A = some (tk A o i).2.1 := by
  have hd := tho_dy ho
  have := hT.l0
  unfold z_Th_value
  rw [if_neg (by omega), hT.2.2, if_pos (by omega)]
  simp (disch := (first | decide | omega | assumption | ((repeat (first | apply Own.ys | apply Own.si | apply Own.rs)); assumption) | (simp only [yl_ys, yl_si, yl_rs]; omega))) only [zgr_d, zrD_d]
  unfold tk tn
  simp only [Int.mul_comm (i : Int) 7]
theorem Th_has {x : Int} (hT : TT A o t) : z_Th_has N o x A = some (if 0 ≤ x ∧ x < t then 1 else 0) := by
  unfold z_Th_has
  rw [hT.2.2]
  repeat' split
  all_goals first | rfl | omega
theorem Th_kind (h : Own A) (ho : tho.contains o = true) (hT : TT A o t) (hi : i < t) : z_Th_kind N o i A = some (tk A o i).1 := by
  have hd := tho_dy ho
  have := hT.l0
  unfold z_Th_kind
  rw [Th_has hT, if_pos (by omega), zbP_s, if_neg (by decide)]
  simp (disch := (first | decide | omega | assumption | ((repeat (first | apply Own.ys | apply Own.si | apply Own.rs)); assumption) | (simp only [yl_ys, yl_si, yl_rs]; omega))) only [zgr_d, zrD_d]
  unfold tk tn
  simp only [Int.add_zero, Int.mul_comm (i : Int) 7]
theorem Th_field {j : Int} (h : Own A) (ho : tho.contains o = true) (hT : TT A o t) (hi : i < t) (h0 : 0 ≤ j) (h3 : j < 3) : z_Th_field N o i j A = some (tn A o i (1 + j)) := by
  have hd := tho_dy ho
  have := hT.l0
  unfold z_Th_field
  rw [Th_has hT, if_pos (by omega), zbP_s, if_neg (by decide), if_neg (by omega), if_pos h3]
  simp (disch := (first | decide | omega | assumption | ((repeat (first | apply Own.ys | apply Own.si | apply Own.rs)); assumption) | (simp only [yl_ys, yl_si, yl_rs]; omega))) only [zgr_d, zrD_d]
  unfold tn
  rw [show (i : Int) * 7 + 1 + j = 7 * i + (1 + j) by omega]
end
