/-! Things: slotFor -/
def tho : List Nat := [103, 111]
theorem tho_dy {o : Nat} (h : tho.contains o = true) : dyo.contains o = true := by
  have : ∀ q ∈ tho, dyo.contains q = true := by decide
  exact this o (List.contains_iff_mem.mp h)
theorem tho_fx {o : Nat} (h : tho.contains o = true) : fx o = true := by
  have : ∀ q ∈ tho, fx q = true := by decide
  exact this o (List.contains_iff_mem.mp h)
theorem tho_ne {o : Nat} (ho : tho.contains o = true) : o ≠ 0 := fun q => by rw [q] at ho; cases ho
def tn (A : zA) (o i : Nat) (j : Int) : Int := yv A o 0 (7 * i + j)
def tk (A : zA) (o i : Nat) : Int × Int × Int × Int := (tn A o i 0, tn A o i 1, tn A o i 2, tn A o i 3)
def HH (x1 x2 x3 x4 : Int) : Int := zxr (zw ((((((x1 * 31) + x2) * (-1640531535)) + x3) * (-2048144789)) + (x4 * (-1028477387)))) (zuh (zw ((((((x1 * 31) + x2) * (-1640531535)) + x3) * (-2048144789)) + (x4 * (-1028477387)))) 15)
def hb (q : Nat) (h : Int) : Nat := (zan h ((2 ^ (q + 8) - 1 : Nat) : Int)).toNat
def TI (A : zA) (o q t : Nat) : Prop := q ≤ 10 ∧ yl A o 0 = 7 * ((2 ^ (q + 7) : Nat) : Int) ∧ yl A o 1 = ((2 ^ (q + 8) : Nat) : Int) ∧ t ≤ 2 ^ (q + 7) ∧
  (∀ i, i < t → ∃ s d : Nat, tn A o i 5 = s ∧ s < 2 ^ (q + 8) ∧ tn A o i 4 = HH (tn A o i 0) (tn A o i 1) (tn A o i 2) (tn A o i 3) ∧ yv A o 1 s = i + 1 ∧ s = (hb q (tn A o i 4) + d) % 2 ^ (q + 8) ∧ ∀ n, n < d → 1 ≤ yv A o 1 ((hb q (tn A o i 4) + n) % 2 ^ (q + 8) : Nat) ∧ yv A o 1 ((hb q (tn A o i 4) + n) % 2 ^ (q + 8) : Nat) ≤ i) ∧
  (∀ s : Nat, s < 2 ^ (q + 8) → yv A o 1 s = 0 ∨ ∃ i, i < t ∧ yv A o 1 s = i + 1 ∧ tn A o i 5 = s)
def DI (A : zA) (o t : Nat) : Prop := ∀ i j, i < j → j < t → tk A o i ≠ tk A o j
theorem mod_ne {h i j M : Nat} (h1 : i < j) (h2 : j < i + M) : (h + i) % M ≠ (h + j) % M := by
  intro e
  have h3 := Nat.sub_mod_eq_zero_of_mod_eq e.symm
  rw [show h + j - (h + i) = j - i by omega, Nat.mod_eq_of_lt (by omega)] at h3
  omega
theorem least (p : Nat → Bool) : ∀ t, p t = true → ∃ d, d ≤ t ∧ p d = true ∧ ∀ n, n < d → p n = false := by
  intro t
  induction t using Nat.strongRecOn with
  | ind t ih =>
    intro ht
    by_cases c : ∃ n, n < t ∧ p n = true
    · obtain ⟨n, h1, h2⟩ := c
      obtain ⟨d, d1, d2, d3⟩ := ih n h1 h2
      exact ⟨d, by omega, d2, d3⟩
    · refine ⟨t, Nat.le_refl _, ht, fun n hn => ?_⟩
      cases hp : p n with
      | false => rfl
      | true => exact absurd ⟨n, hn, hp⟩ c
section
variable {N : Nat} {A : zA} {o q t : Nat}
theorem TI.pw (h : TI A o q t) : 256 ≤ 2 ^ (q + 8) ∧ 2 ^ (q + 8) ≤ 262144 ∧ 2 ^ (q + 8) = 2 * 2 ^ (q + 7) := by
  have h1 : 2 ^ 8 ≤ 2 ^ (q + 8) := Nat.pow_le_pow_right (by decide) (by omega)
  have h2 : 2 ^ (q + 8) ≤ 2 ^ 18 := Nat.pow_le_pow_right (by decide) (by have := h.1; omega)
  refine ⟨by omega, by omega, ?_⟩
  rw [show q + 8 = (q + 7) + 1 by omega, Nat.pow_succ]; omega
/-- there is an empty slot near -/
theorem TI.free (h : TI A o q t) (b : Nat) : ∃ d, d ≤ t ∧ yv A o 1 ((b + d) % 2 ^ (q + 8) : Nat) = 0 := by
  obtain ⟨p1, p2, p3⟩ := h.pw
  have ht := h.2.2.2.1
  have hc : ¬ ∀ d, d ≤ t → ¬ yv A o 1 ((b + d) % 2 ^ (q + 8) : Nat) = 0 := by
    intro hc
    have hs : ∀ d, d ≤ t → ∃ i, i < t ∧ yv A o 1 ((b + d) % 2 ^ (q + 8) : Nat) = i + 1 ∧ tn A o i 5 = ((b + d) % 2 ^ (q + 8) : Nat) := fun d hd => by
      rcases h.2.2.2.2.2 ((b + d) % 2 ^ (q + 8)) (Nat.mod_lt _ (by omega)) with h1 | h1
      · exact absurd h1 (hc d hd)
      · exact h1
    have := pig t (t + 1) (fun d => (yv A o 1 ((b + d) % 2 ^ (q + 8) : Nat) - 1).toNat) (fun d hd => by
      obtain ⟨i, h1, h2, h3⟩ := hs d (by omega)
      show (yv A o 1 ((b + d) % 2 ^ (q + 8) : Nat) - 1).toNat < t
      omega) (fun d e hde he hq => by
      obtain ⟨i, h1, h2, h3⟩ := hs d (by omega)
      obtain ⟨j, g1, g2, g3⟩ := hs e (by omega)
      have hq : (yv A o 1 ((b + d) % 2 ^ (q + 8) : Nat) - 1).toNat = (yv A o 1 ((b + e) % 2 ^ (q + 8) : Nat) - 1).toNat := hq
      have : i = j := by omega
      subst this
      rw [h3] at g3
      exact mod_ne (h := b) (M := 2 ^ (q + 8)) hde (by omega) (by omega))
    omega
  exact Classical.byContradiction (fun hn => hc (fun d hd hz => hn ⟨d, hd, hz⟩))
section
variable {k a b c : Int} {h : Int}
/-- where a search stops -/
theorem TI.stop (hT : TI A o q t) (b0 : Nat) (k a b c : Int) : ∃ D, D ≤ t ∧ (yv A o 1 ((b0 + D) % 2 ^ (q + 8) : Nat) = 0 ∨ tk A o (yv A o 1 ((b0 + D) % 2 ^ (q + 8) : Nat) - 1).toNat = (k, a, b, c)) ∧ ∀ n, n < D → ¬ yv A o 1 ((b0 + n) % 2 ^ (q + 8) : Nat) = 0 ∧ tk A o (yv A o 1 ((b0 + n) % 2 ^ (q + 8) : Nat) - 1).toNat ≠ (k, a, b, c) := by
  obtain ⟨d, d1, d2⟩ := hT.free b0
  obtain ⟨D, e1, e2, e3⟩ := least (fun n => decide (yv A o 1 ((b0 + n) % 2 ^ (q + 8) : Nat) = 0) || decide (tk A o (yv A o 1 ((b0 + n) % 2 ^ (q + 8) : Nat) - 1).toNat = (k, a, b, c))) d (by simp only [d2, decide_true, Bool.true_or])
  refine ⟨D, by omega, ?_, fun n hn => ?_⟩
  · simpa only [Bool.or_eq_true, decide_eq_true_eq] using e2
  · have := e3 n hn
    simpa only [Bool.or_eq_false_iff, decide_eq_false_iff_not] using this
theorem Th_slot_run (h : Own A) (ho : tho.contains o = true) (hT : TI A o q t) {b0 D : Nat} (hD : D ≤ t) (hs : yv A o 1 ((b0 + D) % 2 ^ (q + 8) : Nat) = 0 ∨ tk A o (yv A o 1 ((b0 + D) % 2 ^ (q + 8) : Nat) - 1).toNat = (k, a, b, c)) (hb : ∀ n, n < D → ¬ yv A o 1 ((b0 + n) % 2 ^ (q + 8) : Nat) = 0 ∧ tk A o (yv A o 1 ((b0 + n) % 2 ^ (q + 8) : Nat) - 1).toNat ≠ (k, a, b, c)) : ∀ (r n f : Nat), n + r = D → r < f → z_Th_slotFor_18_l N f o k a b c ((2 ^ (q + 8) - 1 : Nat) : Int) ((b0 + n) % 2 ^ (q + 8) : Nat) n A = some (((b0 + D) % 2 ^ (q + 8) : Nat) : Int) := by
  obtain ⟨p1, p2, p3⟩ := hT.pw
  have hd := tho_dy ho
  have ht := hT.2.2.2.1
  have l0 := hT.2.1
  have l1 := hT.2.2.1
  have step : ∀ (n f : Nat), n ≤ t → z_Th_slotFor_18_l N (f + 1) o k a b c ((2 ^ (q + 8) - 1 : Nat) : Int) ((b0 + n) % 2 ^ (q + 8) : Nat) n A = if yv A o 1 ((b0 + n) % 2 ^ (q + 8) : Nat) = 0 ∨ tk A o (yv A o 1 ((b0 + n) % 2 ^ (q + 8) : Nat) - 1).toNat = (k, a, b, c) then some (((b0 + n) % 2 ^ (q + 8) : Nat) : Int) else z_Th_slotFor_18_l N f o k a b c ((2 ^ (q + 8) - 1 : Nat) : Int) ((b0 + (n + 1)) % 2 ^ (q + 8) : Nat) ((n + 1 : Nat) : Int) A := by
    intro n f hn
    have hlt : (b0 + n) % 2 ^ (q + 8) < 2 ^ (q + 8) := Nat.mod_lt _ (by omega)
    have e1 : zan ((((b0 + n) % 2 ^ (q + 8) : Nat) : Int) + 1) ((2 ^ (q + 8) - 1 : Nat) : Int) = ((b0 + (n + 1)) % 2 ^ (q + 8) : Nat) := by
      have := zan_nat ((b0 + n) % 2 ^ (q + 8) + 1) (q + 8) (by have := hT.1; omega) (by omega)
      rw [show (((b0 + n) % 2 ^ (q + 8) : Nat) : Int) + 1 = (((b0 + n) % 2 ^ (q + 8) + 1 : Nat) : Int) by omega, this, Nat.mod_add_mod]
      rfl
    have e2 : zw ((n : Int) + 1) = ((n + 1 : Nat) : Int) := by rw [yb_w (by omega) (by omega)]; omega
    show z_Th_slotFor_18_b (z_Th_slotFor_18_l N f) N o k a b c ((2 ^ (q + 8) - 1 : Nat) : Int) ((b0 + n) % 2 ^ (q + 8) : Nat) n A = _
    unfold z_Th_slotFor_18_b
    rw [if_pos (by omega)]
    simp (disch := (first | decide | omega | assumption | ((repeat (first | apply Own.ys | apply Own.si | apply Own.rs)); assumption) | (simp only [yl_ys, yl_si, yl_rs]; omega))) only [zgr_d, zrD_d, e1, e2]
    rcases hT.2.2.2.2.2 ((b0 + n) % 2 ^ (q + 8)) hlt with hz | ⟨i, i1, i2, i3⟩
    · rw [if_pos hz, if_pos (Or.inl hz)]
    · rw [if_neg (by omega), i2]
      have e3 : zw (((i : Int) + 1 - 1) * 7) = 7 * i := by rw [yb_w (by omega) (by omega)]; omega
      rw [e3]
      simp (disch := (first | decide | omega | assumption | ((repeat (first | apply Own.ys | apply Own.si | apply Own.rs)); assumption) | (simp only [yl_ys, yl_si, yl_rs]; omega))) only [zrD_d]
      rw [show ((i : Int) + 1 - 1).toNat = i by omega]
      unfold tk tn
      rw [Int.add_zero]
      by_cases c0 : yv A o 0 (7 * i) = k
      · by_cases c1 : yv A o 0 (7 * i + 1) = a
        · by_cases c2 : yv A o 0 (7 * i + 2) = b
          · by_cases c3 : yv A o 0 (7 * i + 3) = c
            · rw [if_pos c0, if_pos c1, if_pos c2, if_pos c3, if_pos (Or.inr (by rw [c0, c1, c2, c3]))]
            · rw [if_pos c0, if_pos c1, if_pos c2, if_neg c3, if_neg (by rintro (z | z); omega; cases z; exact c3 rfl)]
          · rw [if_pos c0, if_pos c1, if_neg c2, if_neg (by rintro (z | z); omega; cases z; exact c2 rfl)]
        · rw [if_pos c0, if_neg c1, if_neg (by rintro (z | z); omega; cases z; exact c1 rfl)]
      · rw [if_neg c0, if_neg (by rintro (z | z); omega; cases z; exact c0 rfl)]
  intro r
  induction r with
  | zero =>
    intro n f hn hf
    obtain ⟨g, rfl⟩ : ∃ g, f = g + 1 := ⟨f - 1, by omega⟩
    have : n = D := by omega
    subst this
    rw [step n g (by omega), if_pos hs]
  | succ r ih =>
    intro n f hn hf
    obtain ⟨g, rfl⟩ : ∃ g, f = g + 1 := ⟨f - 1, by omega⟩
    rw [step n g (by omega), if_neg (fun z => by
      rcases z with z | z
      · exact (hb n (by omega)).1 z
      · exact (hb n (by omega)).2 z)]
    exact ih (n + 1) g (by omega) (by omega)
theorem Th_slotFor (hN : 300000 ≤ N) (hO : Own A) (ho : tho.contains o = true) (hT : TI A o q t) : ∃ D, D ≤ t ∧ z_Th_slotFor N o h k a b c A = some (((hb q h + D) % 2 ^ (q + 8) : Nat) : Int) ∧ (yv A o 1 ((hb q h + D) % 2 ^ (q + 8) : Nat) = 0 ∨ tk A o (yv A o 1 ((hb q h + D) % 2 ^ (q + 8) : Nat) - 1).toNat = (k, a, b, c)) ∧ ∀ n, n < D → ¬ yv A o 1 ((hb q h + n) % 2 ^ (q + 8) : Nat) = 0 ∧ tk A o (yv A o 1 ((hb q h + n) % 2 ^ (q + 8) : Nat) - 1).toNat ≠ (k, a, b, c) := by
  obtain ⟨p1, p2, p3⟩ := hT.pw
  obtain ⟨D, d1, d2, d3⟩ := hT.stop (hb q h) k a b c
  refine ⟨D, d1, ?_, d2, d3⟩
  have ht := hT.2.2.2.1
  have l1 := hT.2.2.1
  unfold z_Th_slotFor z_Th_slotFor_18
  rw [zgr_d hO (tho_dy ho) (by decide), zln_d hO (tho_dy ho) (by decide), l1, yb_w (by omega) (by omega)]
  have hz := zan_lt h (q + 8) (by have := hT.1; omega)
  have e1 : ((2 ^ (q + 8) : Nat) : Int) - 1 = ((2 ^ (q + 8) - 1 : Nat) : Int) := by omega
  rw [e1]
  have e2 : zan h ((2 ^ (q + 8) - 1 : Nat) : Int) = ((hb q h + 0) % 2 ^ (q + 8) : Nat) := by
    have : hb q h < 2 ^ (q + 8) := by unfold hb; omega
    rw [show hb q h + 0 = hb q h from rfl, Nat.mod_eq_of_lt this]
    unfold hb; omega
  rw [e2]
  exact Th_slot_run hO ho hT d1 d2 d3 D 0 N (by omega) (by omega)
end
end
