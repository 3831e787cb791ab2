/-! Things.make, dropTo -/
def TT (A : zA) (o t : Nat) : Prop := (∃ q, TI A o q t) ∧ DI A o t ∧ zi A o 2 = t
section
variable {N : Nat} {A B : zA} {o q t : Nat} {k a b c : Int}
theorem Th_make_110 (h : Own A) (ho : tho.contains o = true) (hT : TI A o q t) (ht : t < 2 ^ (q + 7)) (hm : zi A o 2 = t) {s D : Nat} (hs : s = (hb q (HH k a b c) + D) % 2 ^ (q + 8)) (h0 : yv A o 1 s = 0) (hp : ∀ n, n < D → ¬ yv A o 1 ((hb q (HH k a b c) + n) % 2 ^ (q + 8) : Nat) = 0) (wk : zw k = k) (wa : zw a = a) (wb : zw b = b) (wc : zw c = c) : ∃ B, z_Th_make_110 N o k a b c (HH k a b c) s A = some ((t : Int), B) ∧ cF [o] A B ∧ TI B o q (t + 1) ∧ zi B o 2 = ((t + 1 : Nat) : Int) ∧ zi B o 3 = zi A o 3 ∧ zi B o 4 = zi A o 4 ∧ (∀ i, i < t → ∀ j : Int, 0 ≤ j → j < 7 → tn B o i j = tn A o i j) ∧ tk B o t = (k, a, b, c) ∧ tn B o t 6 = -2 := by
  obtain ⟨p1, p2, p3⟩ := hT.pw
  have hd := tho_dy ho
  have hfx := tho_fx ho
  have l0 := hT.2.1
  have l1 := hT.2.2.1
  have hsl : s < 2 ^ (q + 8) := by rw [hs]; exact Nat.mod_lt _ (by omega)
  unfold z_Th_make_110
  have w7 : zw ((t : Int) * 7) = 7 * t := by rw [yb_w (by omega) (by omega)]; omega
  rw [hm, w7]
  simp (disch := (first | decide | omega | assumption | ((repeat (first | apply Own.ys | apply Own.si | apply Own.rs)); assumption) | (simp only [yl_ys, yl_si, yl_rs]; omega))) only [zgr_d, zwD_d, zlet_s]
  generalize hC : ys (ys (ys (ys (ys (ys (ys A o 0 (7 * t) k) o 0 (7 * t + 1) a) o 0 (7 * t + 2) b) o 0 (7 * t + 3) c) o 0 (7 * t + 4) (HH k a b c)) o 0 (7 * t + 5) s) o 0 (7 * t + 6) (-2) = C
  have oC : Own C := by rw [← hC]; exact h
  have zC : ∀ j, zi C o j = zi A o j := fun j => by
    rw [← hC]
    simp (disch := (first | decide | omega | assumption | ((repeat (first | apply Own.ys | apply Own.si | apply Own.rs)); assumption) | (simp only [yl_ys, yl_si, yl_rs]; omega))) only [zi_ys]
  have fC : cF [o] A C := by
    rw [← hC]
    exact ((((((cF_ys h hd (by decide) (cont1 o)).trans (cF_ys h hd (by decide) (cont1 o))).trans (cF_ys h hd (by decide) (cont1 o))).trans (cF_ys h hd (by decide) (cont1 o))).trans (cF_ys h hd (by decide) (cont1 o))).trans (cF_ys h hd (by decide) (cont1 o))).trans (cF_ys h hd (by decide) (cont1 o))
  have lC : ∀ f, yl C o f = yl A o f := fun f => by rw [← hC]; rfl
  have sC : ∀ e, yv C o 1 e = yv A o 1 e := fun e => by
    rw [← hC]
    simp (disch := (first | decide | omega | assumption | ((repeat (first | apply Own.ys | apply Own.si | apply Own.rs)); assumption) | (simp only [yl_ys, yl_si, yl_rs]; omega))) only [yv_ys_o]
  have wH : zw (HH k a b c) = HH k a b c := by
    have := Int32.le_toInt (Int32.ofInt (zw ((((((k * 31) + a) * (-1640531535)) + b) * (-2048144789)) + (c * (-1028477387)))) ^^^ Int32.ofInt (zuh (zw ((((((k * 31) + a) * (-1640531535)) + b) * (-2048144789)) + (c * (-1028477387)))) 15))
    have h2 := Int32.toInt_lt (Int32.ofInt (zw ((((((k * 31) + a) * (-1640531535)) + b) * (-2048144789)) + (c * (-1028477387)))) ^^^ Int32.ofInt (zuh (zw ((((((k * 31) + a) * (-1640531535)) + b) * (-2048144789)) + (c * (-1028477387)))) 15))
    exact yb_w this h2
  have nC : ∀ (i : Nat) (j : Int), 0 ≤ j → j < 7 → tn C o i j = if i = t then (if j = 0 then k else if j = 1 then a else if j = 2 then b else if j = 3 then c else if j = 4 then HH k a b c else if j = 5 then (s : Int) else -2) else tn A o i j := fun i j j0 j1 => by
    unfold tn
    rw [← hC]
    have ws : zw (s : Int) = s := yb_w (by omega) (by omega)
    have w2 : zw (-2) = -2 := by decide
    by_cases ci : i = t
    · subst ci
      rw [if_pos rfl, yv_ys (by omega) (by omega), yv_ys (by omega) (by omega), yv_ys (by omega) (by omega), yv_ys (by omega) (by omega), yv_ys (by omega) (by omega), yv_ys (by omega) (by omega), yv_ys (by omega) (by omega), ws, w2, wk, wa, wb, wc, wH]
      repeat' split
      all_goals first | rfl | omega
    · rw [if_neg ci, yv_ys_n (by omega) (by omega) (by omega), yv_ys_n (by omega) (by omega) (by omega), yv_ys_n (by omega) (by omega) (by omega), yv_ys_n (by omega) (by omega) (by omega), yv_ys_n (by omega) (by omega) (by omega), yv_ys_n (by omega) (by omega) (by omega), yv_ys_n (by omega) (by omega) (by omega)]
  clear hC
  rw [zC 2, hm]
  have w1 : zw ((t : Int) + 1) = ((t + 1 : Nat) : Int) := by rw [yb_w (by omega) (by omega)]; omega
  have oD : Own (zsi C o 2 ((t : Int) + 1)) := oC
  have z2 : zi (zsi C o 2 ((t : Int) + 1)) o 2 = ((t + 1 : Nat) : Int) := by rw [zi_si_s, w1]
  rw [z2]
  have z3 : ∀ j, zi (ys (zsi C o 2 ((t : Int) + 1)) o 1 s ((t + 1 : Nat) : Int)) o j = zi (zsi C o 2 ((t : Int) + 1)) o j := fun j => zi_ys oD hd (by decide) hfx
  rw [z3 2, z2]
  have n3 : ∀ (i : Nat) (j : Int), tn (ys (zsi C o 2 ((t : Int) + 1)) o 1 s ((t + 1 : Nat) : Int)) o i j = tn C o i j := fun i j => by
    unfold tn
    rw [yv_ys_o oD hd (by decide) hd (by decide) (by omega), yv_si oC hd (by decide) hfx]
  have v3 : ∀ e : Nat, yv (ys (zsi C o 2 ((t : Int) + 1)) o 1 s ((t + 1 : Nat) : Int)) o 1 e = if e = s then (t : Int) + 1 else yv A o 1 e := fun e => by
    rw [yv_ys (by omega) (by omega), yv_si oC hd (by decide) hfx, sC, yb_w (by omega) (by omega)]
    by_cases c : e = s
    · rw [if_pos c, if_pos (by omega)]; omega
    · rw [if_neg c, if_neg (by omega)]
  have f3 : cF [o] A (ys (zsi C o 2 ((t : Int) + 1)) o 1 s ((t + 1 : Nat) : Int)) := (fC.trans (cF_si oC hfx (tho_ne ho) (cont1 o))).trans (cF_ys oD hd (by decide) (cont1 o))
  have l3 : ∀ f, yl (ys (zsi C o 2 ((t : Int) + 1)) o 1 s ((t + 1 : Nat) : Int)) o f = yl A o f := fun f => lC f
  have q3 : zi (ys (zsi C o 2 ((t : Int) + 1)) o 1 s ((t + 1 : Nat) : Int)) o 3 = zi A o 3 := by rw [z3, zi_si_j (by decide), zC]
  have q4 : zi (ys (zsi C o 2 ((t : Int) + 1)) o 1 s ((t + 1 : Nat) : Int)) o 4 = zi A o 4 := by rw [z3, zi_si_j (by decide), zC]
  have q2 : zi (ys (zsi C o 2 ((t : Int) + 1)) o 1 s ((t + 1 : Nat) : Int)) o 2 = ((t + 1 : Nat) : Int) := by rw [z3, z2]
  generalize ys (zsi C o 2 ((t : Int) + 1)) o 1 s ((t + 1 : Nat) : Int) = E at *
  have m0 := nC t 0 (by omega) (by omega)
  have m1 := nC t 1 (by omega) (by omega)
  have m2 := nC t 2 (by omega) (by omega)
  have m3 := nC t 3 (by omega) (by omega)
  have m4 := nC t 4 (by omega) (by omega)
  have m5 := nC t 5 (by omega) (by omega)
  have m6 := nC t 6 (by omega) (by omega)
  simp at m0 m1 m2 m3 m4 m5 m6
  refine ⟨E, ?_, f3, TI_ins (A := A) (s := s) (D := D) hT ht l3 (fun i hi j j0 j1 => ?_) ?_ ?_ ?_ h0 ?_ v3, q2, q3, q4, fun i hi j j0 j1 => ?_, ?_, ?_⟩
  · rw [yb_w (by omega) (by omega)]
    congr 2; omega
  · rw [n3, nC i j j0 (by omega), if_neg (by omega)]
  · rw [n3, n3, n3, n3, n3, m0, m1, m2, m3, m4]
  · rw [n3, m5]
  · rw [n3, m4]; exact hs
  · intro n hn
    rw [n3, m4]; exact hp n hn
  · rw [n3, nC i j j0 (by omega), if_neg (by omega)]
  · unfold tk
    rw [n3, n3, n3, n3, m0, m1, m2, m3]
  · rw [n3, m6]
/-- what is there is found -/
theorem TI.found (hT : TI A o q t) (hD : DI A o t) {D : Nat} (hs : yv A o 1 ((hb q (HH k a b c) + D) % 2 ^ (q + 8) : Nat) = 0 ∨ tk A o (yv A o 1 ((hb q (HH k a b c) + D) % 2 ^ (q + 8) : Nat) - 1).toNat = (k, a, b, c)) (hp : ∀ n, n < D → ¬ yv A o 1 ((hb q (HH k a b c) + n) % 2 ^ (q + 8) : Nat) = 0 ∧ tk A o (yv A o 1 ((hb q (HH k a b c) + n) % 2 ^ (q + 8) : Nat) - 1).toNat ≠ (k, a, b, c)) {i : Nat} (hi : i < t) (he : tk A o i = (k, a, b, c)) : yv A o 1 ((hb q (HH k a b c) + D) % 2 ^ (q + 8) : Nat) = i + 1 := by
  obtain ⟨s, d, g1, g2, g3, g4, g5, g6⟩ := hT.2.2.2.2.1 i hi
  have hH : tn A o i 4 = HH k a b c := by
    unfold tk at he
    rw [g3]
    simp only [Prod.mk.injEq] at he
    rw [he.1, he.2.1, he.2.2.1, he.2.2.2]
  rw [hH] at g5 g6
  rcases Nat.lt_trichotomy D d with c1 | c1 | c1
  · exfalso
    have := g6 D c1
    rcases hs with hs | hs
    · omega
    · exact hD (yv A o 1 ((hb q (HH k a b c) + D) % 2 ^ (q + 8) : Nat) - 1).toNat i (by omega) hi (by rw [hs, he])
  · rw [c1, ← g5, g4]
  · exfalso
    have := (hp d c1).2
    rw [← g5, g4] at this
    exact this (by rw [show ((i : Int) + 1 - 1).toNat = i by omega]; exact he)
theorem Th_make (hN : 300000 ≤ N) (h : Own A) (ho : tho.contains o = true) (hT : TT A o t) (ht : t < 40000) (wk : zw k = k) (wa : zw a = a) (wb : zw b = b) (wc : zw c = c) : ∃ (j t' : Nat) (B : zA), z_Th_make N o k a b c A = some ((j : Int), B) ∧ cF [o] A B ∧ TT B o t' ∧ j < t' ∧ tk B o j = (k, a, b, c) ∧ t ≤ t' ∧ t' ≤ t + 1 ∧ (∀ i, i < t → tk B o i = tk A o i ∧ tn B o i 6 = tn A o i 6) ∧ (t' = t ∨ (j = t ∧ tn B o t 6 = -2)) ∧ zi B o 3 = zi A o 3 ∧ zi B o 4 = zi A o 4 := by
  obtain ⟨⟨q, hTI⟩, hDI, hm⟩ := hT
  obtain ⟨p1, p2, p3⟩ := hTI.pw
  have hd := tho_dy ho
  have l0 := hTI.2.1
  have l1 := hTI.2.2.1
  have htq := hTI.2.2.2.1
  have eH : zxr (zw ((((((k * 31) + a) * (-1640531535)) + b) * (-2048144789)) + (c * (-1028477387)))) (zuh (zw ((((((k * 31) + a) * (-1640531535)) + b) * (-2048144789)) + (c * (-1028477387)))) 15) = HH k a b c := rfl
  unfold z_Th_make
  rw [eH]
  obtain ⟨D, d1, d2, d3, d4⟩ := Th_slotFor (N := N) (h := HH k a b c) (k := k) (a := a) (b := b) (c := c) hN h ho hTI
  rw [d2, zbP_s]
  have hsl : (hb q (HH k a b c) + D) % 2 ^ (q + 8) < 2 ^ (q + 8) := Nat.mod_lt _ (by omega)
  simp (disch := (first | decide | omega | assumption | ((repeat (first | apply Own.ys | apply Own.si | apply Own.rs)); assumption) | (simp only [yl_ys, yl_si, yl_rs]; omega))) only [zgr_d, zrD_d]
  by_cases cz : yv A o 1 ((hb q (HH k a b c) + D) % 2 ^ (q + 8) : Nat) = 0
  · have hnf : ∀ i, i < t → tk A o i ≠ (k, a, b, c) := fun i hi he => by
      have := hTI.found hDI d3 d4 hi he
      omega
    rw [if_pos cz, hm, if_pos (by omega)]
    simp (disch := (first | decide | omega | assumption | ((repeat (first | apply Own.ys | apply Own.si | apply Own.rs)); assumption) | (simp only [yl_ys, yl_si, yl_rs]; omega))) only [zgr_d, zln_d, l0]
    rw [yb_w (by omega) (by omega)]
    by_cases cg : 7 * ((2 ^ (q + 7) : Nat) : Int) < ((t : Int) + 1) * 7
    · rw [if_pos cg]
      have hq : q < 10 := by
        apply Classical.byContradiction
        intro hq
        have : 2 ^ 17 ≤ 2 ^ (q + 7) := Nat.pow_le_pow_right (by decide) (by omega)
        omega
      obtain ⟨C, c1, c2, c3, c4, c5⟩ := Th_grow hN ho h hTI hq hm
      rw [c1, zbV_s]
      have oC := c2.own
      obtain ⟨D', e1, e2, e3, e4⟩ := Th_slotFor (N := N) (h := HH k a b c) (k := k) (a := a) (b := b) (c := c) hN oC ho c3
      rw [e2, zbP_s]
      have kC : ∀ i, i < t → tk C o i = tk A o i := fun i hi => by
        unfold tk
        rw [c5 i hi 0 (by omega) (by omega) (by omega), c5 i hi 1 (by omega) (by omega) (by omega), c5 i hi 2 (by omega) (by omega) (by omega), c5 i hi 3 (by omega) (by omega) (by omega)]
      have dC : DI C o t := fun i j hij hj => by rw [kC i (by omega), kC j hj]; exact hDI i j hij hj
      obtain ⟨r1, r2, r3⟩ := c3.pw
      have hz : yv C o 1 ((hb (q + 1) (HH k a b c) + D') % 2 ^ (q + 1 + 8) : Nat) = 0 := by
        rcases e3 with e3 | e3
        · exact e3
        · rcases c3.2.2.2.2.2 ((hb (q + 1) (HH k a b c) + D') % 2 ^ (q + 1 + 8)) (Nat.mod_lt _ (by omega)) with g | ⟨i, i1, i2, i3⟩
          · exact g
          · exfalso
            rw [i2, show ((i : Int) + 1 - 1).toNat = i by omega, kC i i1] at e3
            exact hnf i i1 e3
      have e7 : 2 ^ (q + 1 + 7) = 2 * 2 ^ (q + 7) := by rw [show q + 1 + 7 = (q + 7) + 1 by omega, Nat.pow_succ]; omega
      obtain ⟨B, b1, b2, b3, b4, b5, b6, b7, b8, b9⟩ := Th_make_110 (N := N) (k := k) (a := a) (b := b) (c := c) oC ho c3 (by omega) (by rw [c4]; exact hm) rfl hz (fun n hn => (e4 n hn).1) wk wa wb wc
      have kB : ∀ i, i < t → tk B o i = tk A o i := fun i hi => by
        rw [← kC i hi]
        unfold tk
        rw [b7 i hi 0 (by omega) (by omega), b7 i hi 1 (by omega) (by omega), b7 i hi 2 (by omega) (by omega), b7 i hi 3 (by omega) (by omega)]
      refine ⟨t, t + 1, B, b1, c2.trans b2, ⟨⟨_, b3⟩, fun i j hij hj => ?_, b4⟩, by omega, b8, by omega, by omega, fun i hi => ⟨kB i hi, by rw [b7 i hi 6 (by omega) (by omega), c5 i hi 6 (by omega) (by omega) (by omega)]⟩, Or.inr ⟨rfl, b9⟩, by rw [b5, c4], by rw [b6, c4]⟩
      by_cases cj : j < t
      · rw [kB i (by omega), kB j cj]; exact hDI i j hij cj
      · rw [show j = t by omega, kB i (by omega), b8]; exact hnf i (by omega)
    · rw [if_neg cg]
      obtain ⟨B, b1, b2, b3, b4, b5, b6, b7, b8, b9⟩ := Th_make_110 (N := N) (k := k) (a := a) (b := b) (c := c) h ho hTI (by omega) hm rfl cz (fun n hn => (d4 n hn).1) wk wa wb wc
      have kB : ∀ i, i < t → tk B o i = tk A o i := fun i hi => by
        unfold tk
        rw [b7 i hi 0 (by omega) (by omega), b7 i hi 1 (by omega) (by omega), b7 i hi 2 (by omega) (by omega), b7 i hi 3 (by omega) (by omega)]
      refine ⟨t, t + 1, B, b1, b2, ⟨⟨_, b3⟩, fun i j hij hj => ?_, b4⟩, by omega, b8, by omega, by omega, fun i hi => ⟨kB i hi, b7 i hi 6 (by omega) (by omega)⟩, Or.inr ⟨rfl, b9⟩, b5, b6⟩
      by_cases cj : j < t
      · rw [kB i (by omega), kB j cj]; exact hDI i j hij cj
      · rw [show j = t by omega, kB i (by omega), b8]; exact hnf i (by omega)
  · rw [if_neg cz]
    rcases d3 with d3 | d3
    · exact absurd d3 cz
    · rcases hTI.2.2.2.2.2 _ hsl with g | ⟨i, i1, i2, i3⟩
      · exact absurd g cz
      · rw [i2] at d3 ⊢
        rw [show ((i : Int) + 1 - 1).toNat = i by omega] at d3
        refine ⟨i, t, A, ?_, cF.refl _ h, ⟨⟨q, hTI⟩, hDI, hm⟩, i1, d3, by omega, by omega, fun _ _ => ⟨rfl, rfl⟩, Or.inl rfl, rfl, rfl⟩
        rw [yb_w (by omega) (by omega)]
        congr 2; omega
end
