def qA (a j : Nat) : Prop := a = 231 ∨ a = 233 ∨ (252 ≤ a ∧ a ≤ 286) ∨ (a = 226 ∧ (j = 42 ∨ (62 ≤ j ∧ j ≤ 66) ∨ (80 ≤ j ∧ j ≤ 83)))
theorem qW_qA {w : Nat} : ∀ a j, qW w a j → qA a j := fun a j q => by
  rcases q with q | q | q
  · exact Or.inl q
  · exact Or.inr (Or.inl q)
  · rcases q with q | q | q | q | q | q | q | q | q | q | q | q
    · exact Or.inr (Or.inr (Or.inl (by omega)))
    · exact Or.inr (Or.inr (Or.inr ⟨q.1, by omega⟩))
    · exact Or.inr (Or.inr (Or.inl (by have := q.1; omega)))
    · exact Or.inr (Or.inr (Or.inl (by omega)))
    · exact Or.inr (Or.inr (Or.inl (by omega)))
    · exact Or.inr (Or.inr (Or.inl (by omega)))
    · exact Or.inr (Or.inr (Or.inl (by have := q.1; omega)))
    · exact Or.inr (Or.inr (Or.inl (by omega)))
    · exact Or.inr (Or.inr (Or.inl (by omega)))
    · exact Or.inr (Or.inr (Or.inl (by have := q.1; omega)))
    · exact Or.inr (Or.inr (Or.inl (by omega)))
    · exact Or.inr (Or.inr (Or.inl (by have := q.1; omega)))
theorem qW1_n {a j : Nat} (h : (a = 259 ∧ j < 2000) ∨ ((a = 260 ∨ a = 261) ∧ j = 0) ∨ (262 ≤ a ∧ a ≤ 265 ∧ j < 4000) ∨ (a = 266 ∧ j < 16000)) : ¬ qW 1 a j := fun q => by
  rcases q with q | q | q
  · omega
  · omega
  · rcases q with q | q | q | q | q | q | q | q | q | q | q | q
    · omega
    · omega
    · have := q.1; omega
    · omega
    · omega
    · omega
    · have := q.1; omega
    · omega
    · omega
    · omega
    · omega
    · have := q.1; have := q.2.1; omega
section
variable {N : Nat} {A : zA}
theorem r_hash0 : ∀ (r k f : Nat) (A : zA), k + r = 4096 → r < f → (∀ i : Nat, i < k → ri A 258 i = -1) → ∃ B, z_M_alike_7_l N f k A = z_M_alike_27 N B ∧ fr (fun a _ => a = 258) A B ∧ ∀ i : Nat, i < 4096 → ri B 258 i = -1 := by
  intro r
  induction r with
  | zero =>
    intro k f A e1 e2 h
    obtain ⟨g, rfl⟩ : ∃ g, f = g + 1 := ⟨f - 1, by omega⟩
    refine ⟨A, ?_, fr.refl _ _, fun i hi => h i (by omega)⟩
    show z_M_alike_7_b (z_M_alike_7_l N g) N k A = _
    unfold z_M_alike_7_b
    rw [if_neg (by omega)]
  | succ r ih =>
    intro k f A e1 e2 h
    obtain ⟨g, rfl⟩ : ∃ g, f = g + 1 := ⟨f - 1, by omega⟩
    have w1 : zw ((k : Int) + 1) = ((k + 1 : Nat) : Int) := by rw [yb_w (by omega) (by omega)]; omega
    obtain ⟨B, b1, b2, b3⟩ := ih (k + 1) g (rs A 258 k (-1)) (by omega) (by omega) (fun i hi => by
      rw [ri_rs (by omega) (by omega)]
      by_cases z : i = k
      · rw [if_pos (by omega)]; decide
      · rw [if_neg (by omega)]; exact h i (by omega))
    have f0 : fr (fun a _ => a = 258) A (rs A 258 k (-1)) := fr_rs rfl
    refine ⟨B, ?_, f0.trans b2, b3⟩
    rw [← b1]
    show z_M_alike_7_b (z_M_alike_7_l N g) N k A = _
    unfold z_M_alike_7_b
    rw [if_pos (by omega), zwr_ok (by omega) (by omega), w1]
end
section
variable {Q : Pr} {mt : Nat → Nat → Nat} {nd : Int → Nat} {sz : Nat → Nat}
theorem LV_st0 : LV (fun _ _ => False) st0 := ⟨fun i => by
  unfold st0
  dsimp only
  split
  · exact tAll_fst
  · exact tAll_num _, fun q hq => (by cases hq), fun q hq => (by cases hq)⟩
theorem wlk_lv : LV (QU (wlk Q mt).2.2.2.2.2 (fun _ _ => False)) (wlk Q mt) := wk_lv (pgO Q mt) 20 3 0 _ st0 _ LV_st0
theorem wlk_bd (hQ : WO Q) (hW : WN Q nd sz) (hm : MT Q nd mt) : (wlk Q mt).2.1.length ≤ 150 ∧ (wlk Q mt).2.2.2.1 ≤ 50 := by
  obtain ⟨m1, m2⟩ := hW.main hm
  have m2 : rsz (pgO Q mt) sz 3 0 (Q.2.1 3).length ≤ 150 := m2
  obtain ⟨b1, -, -, b4, -⟩ := wk_bd (hW.wb hm) (hQ.wf (mt := mt)) 20 false 3 0 (Q.2.1 3).length st0 (Or.inr rfl) m1 (Nat.le_refl _)
  rw [Nat.sub_zero] at b1 b4
  have b1 : (wlk Q mt).2.1.length ≤ 0 + rsz (pgO Q mt) sz 3 0 (Q.2.1 3).length := b1
  have b4 : 3 * (wlk Q mt).2.2.2.1 ≤ 3 * 0 + rsz (pgO Q mt) sz 3 0 (Q.2.1 3).length := b4
  exact ⟨by omega, by omega⟩
end
theorem RSd.mono2 {A B : zA} {w t t' : Nat} {D D' : Nat → T} {S : List (Int × Option T)} (h : RSd A w t D S) (hl : S.length ≤ 150) (h1 : ri B 260 w = ri A 260 w) (h2 : ∀ i : Nat, i < 2000 → ri B 259 (2000 * w + i) = ri A 259 (2000 * w + i)) (ht : t ≤ t') (hD : ∀ i, i < t → D' i = D i) : RSd B w t' D' S := by
  obtain ⟨L, l1, l2, l3⟩ := h
  have fL := fl_len L
  rw [l1, List.length_map] at hl
  refine ⟨L, ?_, fun q hq => ⟨(l2 q hq).1, (l2 q hq).2.1, fun j hj => by have := (l2 q hq).2.2 j hj; omega⟩, l3.mono h1 (fun i hi => h2 i (by omega))⟩
  rw [l1]
  apply List.map_congr_left
  intro q hq
  obtain ⟨x, y⟩ := q
  cases y with
  | none => rfl
  | some j => show (x, some (D j)) = (x, some (D' j)); rw [hD j ((l2 _ hq).2.2 j rfl)]
section
variable {N : Nat} {A : zA} {Q0 Q1 : Pr} {mt0 mt1 : Nat → Nat → Nat} {nd0 nd1 : Int → Nat} {sz0 sz1 : Nat → Nat}
theorem r_alike (hN : 300000 ≤ N) (hNk : kc 20 * 150 < N) (o0 : WO Q0) (n0 : WN Q0 nd0 sz0) (m0 : MT Q0 nd0 mt0) (o1 : WO Q1) (n1 : WN Q1 nd1 sz1) (m1 : MT Q1 nd1 mt1) (hT0 : zi A 226 6 = Q0.1) (hT1 : zi A 226 6 = Q1.1) (h0 : RSt A 0 Q0) (h1 : RSt A 1 Q1) : ∃ B, z_M_alike N A = some (cif (Sam (wlk Q0 mt0) (wlk Q1 mt1)) 1 0, B) ∧ fr qA A B := by
  unfold z_M_alike z_M_alike_7
  rw [zlet_s]
  have f1 : fr (fun a j => a = 226 ∧ j = 42) A (zsi A 226 42 0) := fr_si ⟨rfl, rfl⟩
  have v42 : zi (zsi A 226 42 0) 226 42 = 0 := by rw [zi_si_s]; decide
  generalize zsi A 226 42 0 = A1 at *
  obtain ⟨A2, b1, b2, b3⟩ := r_hash0 (N := N) 4096 0 N A1 (by omega) (by omega) (fun i hi => by omega)
  rw [show ((0 : Nat) : Int) = 0 from rfl] at b1
  rw [b1]
  have F2 : fr qA A A2 := (f1.mono (fun a j q => Or.inr (Or.inr (Or.inr ⟨q.1, Or.inl q.2⟩)))).trans (b2.mono (fun a j q => Or.inr (Or.inr (Or.inl (by omega)))))
  have hqA : ∀ {X : zA}, fr qA A X → zi X 226 6 = zi A 226 6 ∧ RSt X 0 Q0 ∧ RSt X 1 Q1 := fun f => ⟨f.i (fun q => by unfold qA at q; omega), h0.fr f (fun a j q => by unfold qA at q; omega), h1.fr f (fun a j q => by unfold qA at q; omega)⟩
  have hR2 : RTh A2 0 (fun _ => .nil) := by
    refine ⟨⟨by omega, ?_, fun h h0 h1 => ?_, fun i hi => by omega, fun i j hij hj => by omega⟩, ⟨fun i hi => by omega, fun i j hij hj => by omega⟩, fun i hi => by omega⟩
    · rw [b2.i (fun q => by omega)]; exact v42
    · have := b3 h.toNat (by omega)
      rw [show ((h.toNat : Nat) : Int) = h by omega] at this
      exact this
  obtain ⟨p1, p2, p3⟩ := hqA F2
  unfold z_M_alike_27
  obtain ⟨A3, t3, D3, c1, c2, c3, c4, c5, c6⟩ := r_walk (w := 0) (z := 0) hN hNk o0 n0 m0 (by omega) (by omega) (by rw [p1]; exact hT0) p2 hR2 (by omega)
  rw [show ((0 : Nat) : Int) = 0 from rfl] at c1
  rw [c1, zbV_s]
  have F3 := F2.trans (c6.mono qW_qA)
  obtain ⟨p4, p5, p6⟩ := hqA F3
  obtain ⟨A4, t4, D4, d1, d2, d3, d4, d5, d6⟩ := r_walk (w := 1) (z := 1) hN hNk o1 n1 m1 (by omega) (by omega) (by rw [p4]; exact hT1) p6 c2.1 (by omega)
  rw [show ((1 : Nat) : Int) = 1 from rfl] at d1
  rw [d1, zbV_s]
  have F4 := F3.trans (d6.mono qW_qA)
  have c2 : RW A3 0 0 0 0 t3 D3 (wlk Q0 mt0) := c2
  have d2 : RW A4 1 0 0 0 t4 D4 (wlk Q1 mt1) := d2
  obtain ⟨w1, w2⟩ := wlk_bd o0 n0 m0
  obtain ⟨w3, w4⟩ := wlk_bd o1 n1 m1
  have e0 : ri A4 261 0 = ri A3 261 0 := d6.e (qW1_n (by decide))
  have x0 : ri A3 261 0 ≤ 61 * (wlk Q0 mt0).2.2.2.1 := c2.2.2.2.2.2.2.2.1
  have x1 : ri A4 261 1 ≤ 61 * (wlk Q1 mt1).2.2.2.1 := d2.2.2.2.2.2.2.2.1
  have l3 := c2.1.1.1
  have hSR : SR A4 t4 D4 (wlk Q0 mt0) (wlk Q1 mt1) := by
    refine ⟨d2.1, c2.2.2.1.mono2 w1 (d6.e (qW1_n (by decide))) (fun i hi => d6.e (qW1_n (by omega))) d3 d5, d2.2.2.1, c2.2.2.2.2.2.1.mono (by show ri A3 261 0 ≤ ri A4 261 0; omega) (fun c hc => ?_) (fun q hq j hj _ => d6.e (qW1_n (by omega))) d3 d5, d2.2.2.2.2.2.1, by omega, by omega⟩
    have hc : (c : Int) < ri A3 261 0 := hc
    exact ⟨d6.e (qW1_n (by omega)), d6.e (qW1_n (by omega)), d6.e (qW1_n (by omega))⟩
  obtain ⟨B, g1, g2⟩ := r_said (N := N) hN hSR wlk_lv wlk_lv w1 w3
  refine ⟨B, g1, F4.trans (g2.mono (fun a j q => ?_))⟩
  rcases q with q | q | q
  · exact Or.inr (Or.inr (Or.inl (by omega)))
  · exact Or.inr (Or.inr (Or.inl (by omega)))
  · exact Or.inr (Or.inr (Or.inr ⟨q.1, by omega⟩))
end
