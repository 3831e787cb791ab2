/-! Things: one more, one less -/
section
variable {N : Nat} {A B : zA} {o q t : Nat}
theorem TI.slot (h : TI A o q t) {i : Nat} (hi : i < t) : ∃ s : Nat, tn A o i 5 = s ∧ s < 2 ^ (q + 8) ∧ yv A o 1 s = i + 1 := by
  obtain ⟨s, d, h1, h2, h3, h4, h5, h6⟩ := h.2.2.2.2.1 i hi
  exact ⟨s, h1, h2, h4⟩
theorem TI_ins {s D : Nat} (h : TI A o q t) (ht : t < 2 ^ (q + 7)) (hl : ∀ f, yl B o f = yl A o f) (hf : ∀ i, i < t → ∀ j : Int, 0 ≤ j → j ≤ 5 → tn B o i j = tn A o i j) (h4 : tn B o t 4 = HH (tn B o t 0) (tn B o t 1) (tn B o t 2) (tn B o t 3)) (h5 : tn B o t 5 = s) (hs : s = (hb q (tn B o t 4) + D) % 2 ^ (q + 8)) (h0 : yv A o 1 s = 0) (hp : ∀ n, n < D → ¬ yv A o 1 ((hb q (tn B o t 4) + n) % 2 ^ (q + 8) : Nat) = 0) (hv : ∀ e : Nat, yv B o 1 e = if e = s then (t : Int) + 1 else yv A o 1 e) : TI B o q (t + 1) := by
  obtain ⟨p1, p2, p3⟩ := h.pw
  have hsl : s < 2 ^ (q + 8) := by rw [hs]; exact Nat.mod_lt _ (by omega)
  refine ⟨h.1, by rw [hl]; exact h.2.1, by rw [hl]; exact h.2.2.1, by omega, fun i hi => ?_, fun e he => ?_⟩
  · by_cases c : i < t
    · obtain ⟨si, d, g1, g2, g3, g4, g5, g6⟩ := h.2.2.2.2.1 i c
      have ne : si ≠ s := fun z => by rw [z, h0] at g4; omega
      refine ⟨si, d, by rw [hf i c 5 (by omega) (by omega)]; exact g1, g2, ?_, by rw [hv, if_neg ne]; exact g4, ?_, fun n hn => ?_⟩
      · rw [hf i c 4 (by omega) (by omega), hf i c 0 (by omega) (by omega), hf i c 1 (by omega) (by omega), hf i c 2 (by omega) (by omega), hf i c 3 (by omega) (by omega)]; exact g3
      · rw [hf i c 4 (by omega) (by omega)]; exact g5
      · rw [hf i c 4 (by omega) (by omega)]
        have := g6 n hn
        rw [hv, if_neg (fun z => by rw [z, h0] at this; omega)]
        exact this
    · have : i = t := by omega
      subst this
      refine ⟨s, D, h5, hsl, h4, by rw [hv, if_pos rfl], hs, fun n hn => ?_⟩
      have h1 := hp n hn
      rcases h.2.2.2.2.2 ((hb q (tn B o i 4) + n) % 2 ^ (q + 8)) (Nat.mod_lt _ (by omega)) with g | ⟨i', i1, i2, i3⟩
      · exact absurd g h1
      · rw [hv, if_neg (fun z => by rw [z] at h1; exact h1 h0)]
        omega
  · by_cases c : e = s
    · exact Or.inr ⟨t, by omega, by rw [hv, if_pos c], by rw [h5, c]⟩
    · rw [hv, if_neg c]
      rcases h.2.2.2.2.2 e he with g | ⟨i', i1, i2, i3⟩
      · exact Or.inl g
      · exact Or.inr ⟨i', by omega, i2, by rw [hf i' i1 5 (by omega) (by omega)]; exact i3⟩
theorem TI_drop {s : Nat} (h : TI A o q (t + 1)) (hl : ∀ f, yl B o f = yl A o f) (hf : ∀ i, i < t → ∀ j : Int, 0 ≤ j → j ≤ 5 → tn B o i j = tn A o i j) (hs : tn A o t 5 = s) (hv : ∀ e : Nat, yv B o 1 e = if e = s then 0 else yv A o 1 e) : TI B o q t := by
  obtain ⟨s', z1, z2, z3⟩ := h.slot (i := t) (by omega)
  have : s' = s := by rw [hs] at z1; omega
  subst this
  refine ⟨h.1, by rw [hl]; exact h.2.1, by rw [hl]; exact h.2.2.1, by have := h.2.2.2.1; omega, fun i c => ?_, fun e he => ?_⟩
  · obtain ⟨si, d, g1, g2, g3, g4, g5, g6⟩ := h.2.2.2.2.1 i (by omega)
    have ne : si ≠ s' := fun z => by rw [z, z3] at g4; omega
    refine ⟨si, d, by rw [hf i c 5 (by omega) (by omega)]; exact g1, g2, ?_, by rw [hv, if_neg ne]; exact g4, ?_, fun n hn => ?_⟩
    · rw [hf i c 4 (by omega) (by omega), hf i c 0 (by omega) (by omega), hf i c 1 (by omega) (by omega), hf i c 2 (by omega) (by omega), hf i c 3 (by omega) (by omega)]; exact g3
    · rw [hf i c 4 (by omega) (by omega)]; exact g5
    · rw [hf i c 4 (by omega) (by omega)]
      have := g6 n hn
      rw [hv, if_neg (fun z => by rw [z, z3] at this; omega)]
      exact this
  · by_cases c : e = s'
    · exact Or.inl (by rw [hv, if_pos c])
    · rw [hv, if_neg c]
      rcases h.2.2.2.2.2 e he with g | ⟨i', i1, i2, i3⟩
      · exact Or.inl g
      · refine Or.inr ⟨i', ?_, i2, ?_⟩
        · have : i' ≠ t := fun z => c (by rw [z, z1] at i3; omega)
          omega
        · have : i' ≠ t := fun z => c (by rw [z, z1] at i3; omega)
          rw [hf i' (by omega) 5 (by omega) (by omega)]; exact i3
/-! grow -/
theorem Th_grow_in (h : Own A) (ho : tho.contains o = true) (hT : TI A o q t) {b0 D x : Nat} {r41 : Nat → Int → Int → zA → Option zA} (hD : D ≤ t) (hs : yv A o 1 ((b0 + D) % 2 ^ (q + 8) : Nat) = 0) (hb : ∀ n, n < D → ¬ yv A o 1 ((b0 + n) % 2 ^ (q + 8) : Nat) = 0) : ∀ (r n f : Nat), n + r = D → r < f → z_Th_grow_66_l r41 N f o ((2 ^ (q + 8) - 1 : Nat) : Int) x ((b0 + n) % 2 ^ (q + 8) : Nat) n A = z_Th_grow_93 r41 N o ((2 ^ (q + 8) - 1 : Nat) : Int) x ((b0 + D) % 2 ^ (q + 8) : Nat) A := by
  obtain ⟨p1, p2, p3⟩ := hT.pw
  have hd := tho_dy ho
  have ht := hT.2.2.2.1
  have l1 := hT.2.2.1
  have step : ∀ (n f : Nat), n ≤ t → z_Th_grow_66_l r41 N (f + 1) o ((2 ^ (q + 8) - 1 : Nat) : Int) x ((b0 + n) % 2 ^ (q + 8) : Nat) n A = if yv A o 1 ((b0 + n) % 2 ^ (q + 8) : Nat) = 0 then z_Th_grow_93 r41 N o ((2 ^ (q + 8) - 1 : Nat) : Int) x ((b0 + n) % 2 ^ (q + 8) : Nat) A else z_Th_grow_66_l r41 N f o ((2 ^ (q + 8) - 1 : Nat) : Int) x ((b0 + (n + 1)) % 2 ^ (q + 8) : Nat) ((n + 1 : Nat) : Int) A := by
    intro n f hn
    have hlt : (b0 + n) % 2 ^ (q + 8) < 2 ^ (q + 8) := Nat.mod_lt _ (by omega)
    have e1 : zan ((((b0 + n) % 2 ^ (q + 8) : Nat) : Int) + 1) ((2 ^ (q + 8) - 1 : Nat) : Int) = ((b0 + (n + 1)) % 2 ^ (q + 8) : Nat) := by
      have := zan_nat ((b0 + n) % 2 ^ (q + 8) + 1) (q + 8) (by have := hT.1; omega) (by omega)
      rw [show (((b0 + n) % 2 ^ (q + 8) : Nat) : Int) + 1 = (((b0 + n) % 2 ^ (q + 8) + 1 : Nat) : Int) by omega, this, Nat.mod_add_mod]
      rfl
    have e2 : zw ((n : Int) + 1) = ((n + 1 : Nat) : Int) := by rw [yb_w (by omega) (by omega)]; omega
    show z_Th_grow_66_b r41 (z_Th_grow_66_l r41 N f) N o ((2 ^ (q + 8) - 1 : Nat) : Int) x ((b0 + n) % 2 ^ (q + 8) : Nat) n A = _
    unfold z_Th_grow_66_b
    rw [if_pos (by omega)]
    simp (disch := (first | decide | omega | assumption | ((repeat (first | apply Own.ys | apply Own.si | apply Own.rs)); assumption) | (simp only [yl_ys, yl_si, yl_rs]; omega))) only [zgr_d, zrD_d, e1, e2]
  intro r
  induction r with
  | zero =>
    intro n f hn hf
    obtain ⟨g, rfl⟩ : ∃ g, f = g + 1 := ⟨f - 1, by omega⟩
    have : n = D := by omega
    subst this
    rw [step n g (by omega), if_pos hs]
  | succ r ih =>
    intro n f hn hf
    obtain ⟨g, rfl⟩ : ∃ g, f = g + 1 := ⟨f - 1, by omega⟩
    rw [step n g (by omega), if_neg (hb n (by omega))]
    exact ih (n + 1) g (by omega) (by omega)
/-- the loop of grow: things x .. t - 1 come in again -/
theorem Th_grow_run (hN : 300000 ≤ N) (ho : tho.contains o = true) : ∀ (r x f : Nat) (A : zA), x + r = t → r < f → Own A → TI A o q x → t ≤ 2 ^ (q + 7) → zi A o 2 = t → (∀ i, i < t → tn A o i 4 = HH (tn A o i 0) (tn A o i 1) (tn A o i 2) (tn A o i 3)) → ∃ B, z_Th_grow_41_l N f o ((2 ^ (q + 8) - 1 : Nat) : Int) x A = some B ∧ cF [o] A B ∧ TI B o q t ∧ (∀ j, zi B o j = zi A o j) ∧ (∀ i : Nat, i < t → ∀ j : Int, 0 ≤ j → j < 7 → j ≠ 5 → tn B o i j = tn A o i j) := by
  intro r
  induction r with
  | zero =>
    intro x f A hx hf h hT htq hm hH
    obtain ⟨g, rfl⟩ : ∃ g, f = g + 1 := ⟨f - 1, by omega⟩
    refine ⟨A, ?_, cF.refl _ h, by rw [show t = x by omega]; exact hT, fun _ => rfl, fun _ _ _ _ _ _ => rfl⟩
    show z_Th_grow_41_b (z_Th_grow_41_l N g) N o _ x A = _
    unfold z_Th_grow_41_b
    rw [if_neg (by omega)]
  | succ r ih =>
    intro x f A hx hf h hT htq hm hH
    obtain ⟨g, rfl⟩ : ∃ g, f = g + 1 := ⟨f - 1, by omega⟩
    obtain ⟨p1, p2, p3⟩ := hT.pw
    have hd := tho_dy ho
    have hfx := tho_fx ho
    have l0 := hT.2.1
    have l1 := hT.2.2.1
    obtain ⟨d, d1, d2⟩ := hT.free (hb q (tn A o x 4))
    obtain ⟨D, e1, e2, e3⟩ := least (fun n => decide (yv A o 1 ((hb q (tn A o x 4) + n) % 2 ^ (q + 8) : Nat) = 0)) d (by simp only [d2, decide_true])
    simp only [decide_eq_true_eq, decide_eq_false_iff_not] at e2 e3
    generalize hb0 : hb q (tn A o x 4) = b0 at *
    generalize hs : (b0 + D) % 2 ^ (q + 8) = s at *
    have hsl : s < 2 ^ (q + 8) := by rw [← hs]; exact Nat.mod_lt _ (by omega)
    have hz := zan_lt (tn A o x 4) (q + 8) (by have := hT.1; omega)
    have k1 : z_Th_grow_41_l N (g + 1) o ((2 ^ (q + 8) - 1 : Nat) : Int) x A = z_Th_grow_41_l N g o ((2 ^ (q + 8) - 1 : Nat) : Int) ((x + 1 : Nat) : Int) (ys (ys A o 1 s (x + 1)) o 0 (x * 7 + 5) s) := by
      show z_Th_grow_41_b (z_Th_grow_41_l N g) N o ((2 ^ (q + 8) - 1 : Nat) : Int) x A = _
      unfold z_Th_grow_41_b z_Th_grow_66
      rw [if_pos (by omega)]
      simp (disch := (first | decide | omega | assumption | ((repeat (first | apply Own.ys | apply Own.si | apply Own.rs)); assumption) | (simp only [yl_ys, yl_si, yl_rs]; omega))) only [zgr_d, zrD_d]
      have c1 : yv A o 0 ((x : Int) * 7 + 4) = tn A o x 4 := by unfold tn; rw [Int.mul_comm]
      have c2 : zan (tn A o x 4) ((2 ^ (q + 8) - 1 : Nat) : Int) = ((b0 + 0) % 2 ^ (q + 8) : Nat) := by
        have : b0 < 2 ^ (q + 8) := by rw [← hb0]; unfold hb; omega
        rw [show b0 + 0 = b0 from rfl, Nat.mod_eq_of_lt this, ← hb0]
        unfold hb; omega
      rw [c1, c2]
      have c3 := Th_grow_in (N := N) (r41 := z_Th_grow_41_l N g) (x := x) h ho hT (b0 := b0) (D := D) (by omega) (by rw [hs]; exact e2) (fun n hn => e3 n hn) D 0 N (by omega) (by omega)
      rw [show ((0 : Nat) : Int) = 0 from rfl] at c3
      rw [c3, hs]
      unfold z_Th_grow_93
      have w1 : zw ((x : Int) + 1) = ((x + 1 : Nat) : Int) := by rw [yb_w (by omega) (by omega)]; omega
      simp (disch := (first | decide | omega | assumption | ((repeat (first | apply Own.ys | apply Own.si | apply Own.rs)); assumption) | (simp only [yl_ys, yl_si, yl_rs]; omega))) only [zgr_d, zwD_d, w1]
    have o1 : Own (ys A o 1 s (x + 1)) := h
    have v1 : ∀ e : Nat, yv (ys (ys A o 1 s (x + 1)) o 0 (x * 7 + 5) s) o 1 e = if e = s then (x : Int) + 1 else yv A o 1 e := fun e => by
      rw [yv_ys_o o1 hd (by decide) hd (by decide) (by omega), yv_ys (by omega) (by omega), yb_w (by omega) (by omega)]
      by_cases c : e = s
      · rw [if_pos c, if_pos (by omega)]
      · rw [if_neg c, if_neg (by omega)]
    have v2 : ∀ (i : Nat) (j : Int), 0 ≤ j → j < 7 → tn (ys (ys A o 1 s (x + 1)) o 0 (x * 7 + 5) s) o i j = if i = x ∧ j = 5 then (s : Int) else tn A o i j := fun i j j0 j1 => by
      unfold tn
      rw [yv_ys (by omega) (by omega), yv_ys_o h hd (by decide) hd (by decide) (by omega), yb_w (by omega) (by omega)]
      by_cases c : i = x ∧ j = 5
      · rw [if_pos c, if_pos (by omega)]
      · rw [if_neg c, if_neg (by omega)]
    have z1 : ∀ j, zi (ys (ys A o 1 s (x + 1)) o 0 (x * 7 + 5) s) o j = zi A o j := fun j => by
      rw [zi_ys o1 hd (by decide) hfx, zi_ys h hd (by decide) hfx]
    have f1 : cF [o] A (ys (ys A o 1 s (x + 1)) o 0 (x * 7 + 5) s) := (cF_ys h hd (by decide) (cont1 o)).trans (cF_ys o1 hd (by decide) (cont1 o))
    have l2 : ∀ f, yl (ys (ys A o 1 s (x + 1)) o 0 (x * 7 + 5) s) o f = yl A o f := fun _ => rfl
    rw [k1]
    generalize ys (ys A o 1 s (x + 1)) o 0 (x * 7 + 5) s = C at *
    have v3 : ∀ (i : Nat) (j : Int), 0 ≤ j → j < 7 → j ≠ 5 → tn C o i j = tn A o i j := fun i j j0 j1 j2 => by rw [v2 i j j0 j1, if_neg (fun z => j2 z.2)]
    have hTC : TI C o q (x + 1) := by
      refine TI_ins (A := A) (s := s) (D := D) hT (by omega) l2 (fun i hi j j0 j1 => ?_) ?_ ?_ ?_ e2 ?_ v1
      · rw [v2 i j j0 (by omega), if_neg (by omega)]
      · rw [v3 x 4 (by omega) (by omega) (by omega), v3 x 0 (by omega) (by omega) (by omega), v3 x 1 (by omega) (by omega) (by omega), v3 x 2 (by omega) (by omega) (by omega), v3 x 3 (by omega) (by omega) (by omega)]
        exact hH x (by omega)
      · rw [v2 x 5 (by omega) (by omega), if_pos ⟨rfl, rfl⟩]
      · rw [v3 x 4 (by omega) (by omega) (by omega), hb0, hs]
      · intro n hn
        rw [v3 x 4 (by omega) (by omega) (by omega), hb0]
        exact e3 n hn
    obtain ⟨B, b1, b2, b3, b4, b5⟩ := ih (x + 1) g C (by omega) (by omega) f1.own hTC htq (by rw [z1]; exact hm) (fun i hi => by
      rw [v3 i 4 (by omega) (by omega) (by omega), v3 i 0 (by omega) (by omega) (by omega), v3 i 1 (by omega) (by omega) (by omega), v3 i 2 (by omega) (by omega) (by omega), v3 i 3 (by omega) (by omega) (by omega)]
      exact hH i hi)
    exact ⟨B, b1, f1.trans b2, b3, fun j => (b4 j).trans (z1 j), fun i hi j j0 j1 j2 => (b5 i hi j j0 j1 j2).trans (v3 i j j0 j1 j2)⟩
theorem Th_grow (hN : 300000 ≤ N) (ho : tho.contains o = true) (h : Own A) (hT : TI A o q t) (hq : q < 10) (hm : zi A o 2 = t) : ∃ B, z_Th_grow N o A = some B ∧ cF [o] A B ∧ TI B o (q + 1) t ∧ (∀ j, zi B o j = zi A o j) ∧ (∀ i : Nat, i < t → ∀ j : Int, 0 ≤ j → j < 7 → j ≠ 5 → tn B o i j = tn A o i j) := by
  obtain ⟨p1, p2, p3⟩ := hT.pw
  have hd := tho_dy ho
  have hfx := tho_fx ho
  have l0 := hT.2.1
  have l1 := hT.2.2.1
  have ht := hT.2.2.2.1
  have pq : 2 ^ (q + 7) ≤ 2 ^ 16 := Nat.pow_le_pow_right (by decide) (by omega)
  have e8 : 2 ^ (q + 1 + 8) = 2 * 2 ^ (q + 8) := by rw [show q + 1 + 8 = (q + 8) + 1 by omega, Nat.pow_succ]; omega
  have e7 : 2 ^ (q + 1 + 7) = 2 * 2 ^ (q + 7) := by rw [show q + 1 + 7 = (q + 7) + 1 by omega, Nat.pow_succ]; omega
  unfold z_Th_grow
  rw [zgr_d h hd (by decide), zgr_d h hd (by decide), zln_d h hd (by decide), l0, yb_w (by omega) (by omega), yg_run h hd (by decide) (by omega) (by omega)]
  have f1 : cF [o] A (yg A o 0 (7 * ((2 ^ (q + 7) : Nat) : Int) * 2)) := cF_yg h hd (by decide) (cont1 o) (by omega) (by omega) (by omega)
  have a1 : yl (yg A o 0 (7 * ((2 ^ (q + 7) : Nat) : Int) * 2)) o 0 = 7 * ((2 ^ (q + 7) : Nat) : Int) * 2 := yg_yl h hd (by decide) (by omega)
  have a2 : yl (yg A o 0 (7 * ((2 ^ (q + 7) : Nat) : Int) * 2)) o 1 = yl A o 1 := yg_ylo h (dy_of hd (by decide)) (by omega)
  have a3 : ∀ i : Nat, i < t → ∀ j : Int, 0 ≤ j → j < 7 → tn (yg A o 0 (7 * ((2 ^ (q + 7) : Nat) : Int) * 2)) o i j = tn A o i j := fun i hi j j0 j1 => by
    unfold tn
    exact yg_yv h hd (by decide) (by omega) (by omega)
  have a4 : ∀ j, zi (yg A o 0 (7 * ((2 ^ (q + 7) : Nat) : Int) * 2)) o j = zi A o j := fun j => yg_fi h (fx_lt hfx)
  generalize yg A o 0 (7 * ((2 ^ (q + 7) : Nat) : Int) * 2) = C at *
  have hC := f1.own
  rw [zgr_d hC hd (by decide), zln_d hC hd (by decide), a2, l1]
  have hz : zna C 0 (((2 ^ (q + 8) : Nat) : Int) * 2) = fun (K : Nat → zA → Option zA) => K C.1.length (znw C (true, 0, (((2 ^ (q + 8) : Nat) : Int) * 2).toNat)) := by
    funext K; unfold zna; rw [if_pos (by omega)]
  rw [hz]
  simp only [zlet_s]
  have e5 : zsr (znw C (true, 0, (((2 ^ (q + 8) : Nat) : Int) * 2).toNat)) o 1 (some C.1.length) = yz C o 1 (((2 ^ (q + 8) : Nat) : Int) * 2) := rfl
  rw [e5]
  have f2 : cF [o] C (yz C o 1 (((2 ^ (q + 8) : Nat) : Int) * 2)) := cF_yz hC hd (by decide) (cont1 o) (by omega) (by omega) (by omega)
  have b1 : yl (yz C o 1 (((2 ^ (q + 8) : Nat) : Int) * 2)) o 1 = ((2 ^ (q + 8) : Nat) : Int) * 2 := yz_yl hC (dy_of hd (by decide)) (by omega)
  have b2 : yl (yz C o 1 (((2 ^ (q + 8) : Nat) : Int) * 2)) o 0 = yl C o 0 := yz_ylo hC (dy_of hd (by decide)) (by omega)
  have b3 : ∀ (i : Nat) (j : Int), tn (yz C o 1 (((2 ^ (q + 8) : Nat) : Int) * 2)) o i j = tn C o i j := fun i j => yz_yvo hC (dy_of hd (by decide)) (by omega) _
  have b4 : ∀ j, zi (yz C o 1 (((2 ^ (q + 8) : Nat) : Int) * 2)) o j = zi C o j := fun j => yz_fi hC (fx_lt hfx)
  have b5 : ∀ e, yv (yz C o 1 (((2 ^ (q + 8) : Nat) : Int) * 2)) o 1 e = 0 := fun e => yz_yv hC (dy_of hd (by decide))
  generalize yz C o 1 (((2 ^ (q + 8) : Nat) : Int) * 2) = D at *
  have hD := f2.own
  rw [zgr_d hD hd (by decide), zln_d hD hd (by decide), b1, yb_w (by omega) (by omega)]
  have hT0 : TI D o (q + 1) 0 := ⟨by omega, by rw [b2, a1, e7]; omega, by rw [b1, e8]; omega, by omega, fun i hi => by omega, fun s hs => Or.inl (b5 _)⟩
  unfold z_Th_grow_41
  have e6 : ((2 ^ (q + 8) : Nat) : Int) * 2 - 1 = ((2 ^ (q + 1 + 8) - 1 : Nat) : Int) := by omega
  rw [e6]
  obtain ⟨B, r1, r2, r3, r4, r5⟩ := Th_grow_run (t := t) hN ho t 0 N D (by omega) (by omega) hD hT0 (by omega) (by rw [b4, a4]; exact hm) (fun i hi => by
    simp only [b3]
    rw [a3 i hi 4 (by omega) (by omega), a3 i hi 0 (by omega) (by omega), a3 i hi 1 (by omega) (by omega), a3 i hi 2 (by omega) (by omega), a3 i hi 3 (by omega) (by omega)]
    obtain ⟨s, d, g1, g2, g3, g4⟩ := hT.2.2.2.2.1 i hi
    exact g3)
  rw [show ((0 : Nat) : Int) = 0 from rfl] at r1
  refine ⟨B, r1, (f1.trans f2).trans r2, r3, fun j => by rw [r4, b4, a4], fun i hi j j0 j1 j2 => by rw [r5 i hi j j0 j1 j2, b3, a3 i hi j j0 j1]⟩
end
