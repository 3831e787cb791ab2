/-! the reference's walk from its beginning -/
def qW (w : Nat) (a j : Nat) : Prop := a = 231 ∨ a = 233 ∨ rQ w 0 0 0 0 (fun _ => True) a j
section
variable {N w z : Nat}
theorem set_run {v : Int} (hv : zw v = v) : ∀ (r k f : Nat) (A : zA), k + r = 60 → r < f → zi A 226 62 = 0 → ∃ B, z_M_walk_96_l N f w z v k A = z_M_walk_122 N w z 3 0 B ∧ fr (fun a j => a = 267 ∨ (a = 268 ∧ 6 ≤ j)) A B ∧ (∀ i : Nat, k ≤ i → i < 60 → rpl B 0 i = v) ∧ (∀ i : Nat, i < k → rpl B 0 i = rpl A 0 i) := by
  intro r
  induction r with
  | zero =>
    intro k f A h1 h2 hd
    obtain ⟨g, rfl⟩ : ∃ g, f = g + 1 := ⟨f - 1, by omega⟩
    refine ⟨A, ?_, fr.refl _ _, fun i a b => by omega, fun _ _ => rfl⟩
    show z_M_walk_96_b (z_M_walk_96_l N g) N w z v k A = _
    unfold z_M_walk_96_b
    rw [if_neg (by omega)]
  | succ r ih =>
    intro k f A h1 h2 hd
    obtain ⟨g, rfl⟩ : ∃ g, f = g + 1 := ⟨f - 1, by omega⟩
    have w1 : zw ((k : Int) + 1) = ((k + 1 : Nat) : Int) := by rw [yb_w (by omega) (by omega)]; omega
    have st : z_M_walk_96_l N (g + 1) w z v k A = z_M_walk_96_l N g w z v ((k + 1 : Nat) : Int) (rse A 0 k v) := by
      show z_M_walk_96_b (z_M_walk_96_l N g) N w z v k A = _
      unfold z_M_walk_96_b
      rw [if_pos (by omega), M_set (dp := 0) hd (by omega) (by omega), zbV_s, w1]
    have ep := fun i hi => rpl_rse (A := A) (dp := 0) (r := k) (i := i) (v := v) (by omega) hi hv
    have f1 : fr (fun a j => a = 267 ∨ (a = 268 ∧ 6 ≤ j)) A (rse A 0 k v) := by
      unfold rse
      rw [if_neg (by omega)]
      split
      · exact fr_rs (Or.inl rfl)
      · exact fr_rs (Or.inr ⟨rfl, by omega⟩)
    generalize rse A 0 k v = A1 at *
    obtain ⟨B, b1, b2, b3, b4⟩ := ih (k + 1) g A1 (by omega) (by omega) (by rw [f1.i (fun q => by omega)]; exact hd)
    refine ⟨B, by rw [st, b1], f1.trans b2, fun i i1 i2 => ?_, fun i hi => ?_⟩
    · by_cases c : i = k
      · rw [b4 i (by omega), ep i (by omega), if_pos c]
      · exact b3 i (by omega) i2
    · rw [b4 i (by omega), ep i (by omega), if_neg (by omega)]
end
theorem rQ_top {w dp lv yw nc : Nat} {Z : Nat → Prop} : ∀ a j, rQ w dp lv yw nc Z a j → rQ w 0 0 0 0 (fun _ => True) a j := rQ_mono (Nat.zero_le _) (Nat.zero_le _) (Nat.zero_le _) (Nat.zero_le _) (fun _ _ => trivial)
section
variable {N w z t : Nat} {A : zA} {D : Nat → T} {Q : Pr} {mt : Nat → Nat → Nat} {nd : Int → Nat} {sz : Nat → Nat}
theorem r_walk27 (hN : 300000 ≤ N) (hNk : kc 20 * 150 < N) (hQ : WO Q) (hW : WN Q nd sz) (hm : MT Q nd mt) (hw2 : w < 2) (hz : z < 3) (h : RSt A z Q) (hM : ∀ q, exP Q q → RMt A Q mt q) (hR : RTh A t D) (ht : t ≤ 8000) : ∃ (B : zA) (t' : Nat) (D' : Nat → T), z_M_walk_27 N w z A = some B ∧ RW B w 0 0 0 t' D' (wk (pgO Q mt) 20 false 3 0 (Q.2.1 3).length st0) ∧ t ≤ t' ∧ t' ≤ t + 3152 ∧ (∀ i, i < t → D' i = D i) ∧ fr (rQ w 0 0 0 0 (fun _ => True)) A B := by
  unfold z_M_walk_27
  rw [zwr_ok (by omega) (by omega), zwr_ok (by omega) (by omega)]
  simp only [zlet_s]
  have f1 : fr (fun a j => (a = 226 ∧ (j = 66 ∨ j = 81 ∨ j = 64 ∨ j = 65 ∨ j = 80 ∨ j = 62)) ∨ ((a = 260 ∨ a = 261) ∧ j = w)) A (zsi (zsi (zsi (zsi (zsi (zsi (rs (rs A 260 w 0) 261 w 0) 226 66 0) 226 81 0) 226 64 0) 226 65 0) 226 80 0) 226 62 0) := (((((((fr_rs (Or.inr ⟨Or.inl rfl, by omega⟩)).trans (fr_rs (Or.inr ⟨Or.inr rfl, by omega⟩))).trans (fr_si (Or.inl ⟨rfl, by omega⟩))).trans (fr_si (Or.inl ⟨rfl, by omega⟩))).trans (fr_si (Or.inl ⟨rfl, by omega⟩))).trans (fr_si (Or.inl ⟨rfl, by omega⟩))).trans (fr_si (Or.inl ⟨rfl, by omega⟩))).trans (fr_si (Or.inl ⟨rfl, by omega⟩))
  have z0 : zw 0 = 0 := by decide
  have v62 : zi (zsi (zsi (zsi (zsi (zsi (zsi (rs (rs A 260 w 0) 261 w 0) 226 66 0) 226 81 0) 226 64 0) 226 65 0) 226 80 0) 226 62 0) 226 62 = 0 := by rw [zi_si_s, z0]
  have v80 : zi (zsi (zsi (zsi (zsi (zsi (zsi (rs (rs A 260 w 0) 261 w 0) 226 66 0) 226 81 0) 226 64 0) 226 65 0) 226 80 0) 226 62 0) 226 80 = 0 := by rw [zi_si_j (by decide), zi_si_s, z0]
  have v65 : zi (zsi (zsi (zsi (zsi (zsi (zsi (rs (rs A 260 w 0) 261 w 0) 226 66 0) 226 81 0) 226 64 0) 226 65 0) 226 80 0) 226 62 0) 226 65 = 0 := by rw [zi_si_j (by decide), zi_si_j (by decide), zi_si_s, z0]
  have v64 : zi (zsi (zsi (zsi (zsi (zsi (zsi (rs (rs A 260 w 0) 261 w 0) 226 66 0) 226 81 0) 226 64 0) 226 65 0) 226 80 0) 226 62 0) 226 64 = 0 := by rw [zi_si_j (by decide), zi_si_j (by decide), zi_si_j (by decide), zi_si_s, z0]
  have v81 : zi (zsi (zsi (zsi (zsi (zsi (zsi (rs (rs A 260 w 0) 261 w 0) 226 66 0) 226 81 0) 226 64 0) 226 65 0) 226 80 0) 226 62 0) 226 81 = 0 := by rw [zi_si_j (by decide), zi_si_j (by decide), zi_si_j (by decide), zi_si_j (by decide), zi_si_s, z0]
  have v66 : zi (zsi (zsi (zsi (zsi (zsi (zsi (rs (rs A 260 w 0) 261 w 0) 226 66 0) 226 81 0) 226 64 0) 226 65 0) 226 80 0) 226 62 0) 226 66 = 0 := by rw [zi_si_j (by decide), zi_si_j (by decide), zi_si_j (by decide), zi_si_j (by decide), zi_si_j (by decide), zi_si_s, z0]
  have v261 : ri (zsi (zsi (zsi (zsi (zsi (zsi (rs (rs A 260 w 0) 261 w 0) 226 66 0) 226 81 0) 226 64 0) 226 65 0) 226 80 0) 226 62 0) 261 w = 0 := by rw [ri_si_o (by decide), ri_si_o (by decide), ri_si_o (by decide), ri_si_o (by decide), ri_si_o (by decide), ri_si_o (by decide), ri_rs_s, z0]
  have v260 : ri (zsi (zsi (zsi (zsi (zsi (zsi (rs (rs A 260 w 0) 261 w 0) 226 66 0) 226 81 0) 226 64 0) 226 65 0) 226 80 0) 226 62 0) 260 w = 0 := by rw [ri_si_o (by decide), ri_si_o (by decide), ri_si_o (by decide), ri_si_o (by decide), ri_si_o (by decide), ri_si_o (by decide), ri_rs_o (by decide), ri_rs_s, z0]
  generalize zsi (zsi (zsi (zsi (zsi (zsi (rs (rs A 260 w 0) 261 w 0) 226 66 0) 226 81 0) 226 64 0) 226 65 0) 226 80 0) 226 62 0 = A1 at *
  have hR1 : RTh A1 t D := hR.fr f1 (fun a j q => by unfold qT; omega)
  obtain ⟨j, t2, A2, D2, b1, b2, b3, b4, b5, b6, b7, b8⟩ := r_make (k := 7) (x := 0) (y := 0) (z := 0) hN hR1 (by omega) (Or.inr (Or.inr (Or.inr (Or.inl ⟨by decide, rfl, rfl, rfl⟩)))) (by decide) (by decide) zwi0 zwi0 zwi0
  have b4 : D2 j = tFst := b4
  have l2 := b2.1.1
  rw [b1, zbI_s]
  have f3 : fr (fun a j => a = 226 ∧ j = 63) A2 (zsi A2 226 63 j) := fr_si ⟨rfl, rfl⟩
  have v63 : zi (zsi A2 226 63 j) 226 63 = j := by rw [zi_si_s, yb_w (by omega) (by omega)]
  have hR3 : RTh (zsi A2 226 63 j) t2 D2 := b2.fr f3 (fun a j q => by unfold qT; omega)
  generalize zsi A2 226 63 j = A3 at *
  obtain ⟨i, t4, A4, D4, c1, c2, c3, c4, c5, c6, c7, c8⟩ := r_make (k := 0) (x := 0) (y := 0) (z := 0) hN hR3 (by omega) (Or.inl ⟨rfl, rfl, rfl⟩) (by decide) (by decide) zwi0 zwi0 zwi0
  have c4 : D4 i = tNum 0 := c4
  have l4 := c2.1.1
  rw [c1, zbI_s]
  have i4 : ∀ x, x ≠ 42 → x ≠ 63 → zi A4 226 x = zi A1 226 x := fun x h1 h2 => by rw [c8.i (fun q => by unfold qT at q; omega), f3.i (fun q => by omega), b8.i (fun q => by unfold qT at q; omega)]
  have e4 : ∀ a e, 258 < a → ri A4 a e = ri A1 a e := fun a e ha => by rw [c8.e (fun q => by unfold qT at q; omega), f3.e (fun q => by omega), b8.e (fun q => by unfold qT at q; omega)]
  have k63 : zi A4 226 63 = j := by rw [c8.i (fun q => by unfold qT at q; omega)]; exact v63
  obtain ⟨A5, d1, d2, d3, d4⟩ := set_run (N := N) (w := w) (z := z) (v := (i : Int)) (yb_w (by omega) (by omega)) 60 0 N A4 (by omega) (by omega) (by rw [i4 62 (by omega) (by omega)]; exact v62)
  rw [show ((0 : Nat) : Int) = 0 from rfl] at d1
  unfold z_M_walk_96
  rw [d1]
  have i5 : ∀ x, x ≠ 42 → x ≠ 63 → zi A5 226 x = zi A1 226 x := fun x h1 h2 => by rw [d2.i (fun q => by omega)]; exact i4 x h1 h2
  have e5 : ∀ a e, 258 < a → a ≠ 267 → a ≠ 268 → ri A5 a e = ri A1 a e := fun a e ha h1 h2 => by rw [d2.e (fun q => by omega)]; exact e4 a e ha
  have hR5 : RTh A5 t4 D4 := c2.fr d2 (fun a j q => by unfold qT; omega)
  have hrw : RW A5 w 0 0 0 t4 D4 st0 := by
    refine ⟨hR5, fun x hx => ?_, ⟨[], rfl, fun q hq => (by cases hq), ?_, fun x hx => absurd hx (Nat.not_lt_zero x)⟩, ⟨?_, fun x hx => absurd hx (Nat.not_lt_zero x)⟩, ⟨?_, ?_, ?_, ?_, ?_⟩, fun q hq => (by cases hq), ?_, ?_, by decide⟩
    · show ix t4 D4 (rpl A5 0 x) (if x = 60 then tFst else tNum 0)
      by_cases c : x = 60
      · rw [if_pos c]
        unfold rpl
        rw [if_pos c, d2.i (fun q => by omega), k63]
        exact ⟨j, by omega, rfl, by rw [c7 j b3]; exact b4⟩
      · rw [if_neg c, d3 x (by omega) (by omega)]
        exact ⟨i, c3, rfl, c4⟩
    · rw [e5 260 _ (by omega) (by omega) (by omega)]; exact v260
    · rw [i5 81 (by omega) (by omega)]; exact v81
    · rw [i5 62 (by omega) (by omega)]; exact v62
    · rw [i5 66 (by omega) (by omega)]; exact v66
    · rw [i5 80 (by omega) (by omega)]; exact v80
    · rw [i5 64 (by omega) (by omega)]; exact v64
    · rw [i5 65 (by omega) (by omega)]; exact v65
    · rw [e5 261 _ (by omega) (by omega) (by omega), v261]; decide
    · rw [e5 261 _ (by omega) (by omega) (by omega), v261]; decide
  have F5 : fr (rQ w 0 0 0 0 (fun _ => True)) A A5 := (((f1.mono (fun a j q => ?_)).trans (b8.mono qT_rQ)).trans (f3.mono (fun a j q => rQ_f ⟨q.1, Or.inr (Or.inl (by omega))⟩))).trans ((c8.mono qT_rQ).trans (d2.mono (fun a j q => ?_)))
  · have hP5 : PrR A5 z (exP Q) (pgO Q mt) := (h.pr hM).fr F5 (fun a j q => by have := rQ_no q; omega)
    obtain ⟨m1, m2⟩ := hW.main hm
    have hG := gr_all (N := N) (w := w) (z := z) hN (hQ.wf (mt := mt)) (hW.wb hm) hQ.low (fun q => (hW.1 q).1) hw2 hz 20
    have m2' : rsz (pgO Q mt) sz 3 0 (Q.2.1 3).length ≤ 150 := m2
    obtain ⟨B, t', D', k, g1, g2, g3, g4, g5⟩ := hG 0 3 0 (Q.2.1 3).length 0 0 t4 D4 st0 A5 (Or.inr rfl) m1 (Nat.le_refl _) (by omega) (by omega) hrw hP5 ⟨⟨by rw [Nat.sub_zero]; omega, by decide, by rw [Nat.sub_zero]; show (0 : Int) + _ ≤ _; omega, by decide, by rw [Nat.sub_zero]; show (0 : Int) + _ ≤ _; omega, by show 0 ≤ 150; decide, fun q hq => (by cases hq), fun _ => by rw [Nat.sub_zero]; refine ⟨by show 0 + _ ≤ _; omega, by show 0 + _ ≤ _; omega, by show 3 * (0 : Int) + _ ≤ _; omega⟩⟩, by rw [Nat.sub_zero]; omega⟩
    rw [Nat.sub_zero] at g1 g5
    have hk : k ≤ kc 20 * 150 := Nat.le_trans g1 (Nat.mul_le_mul_left _ m2')
    have hPB := g4.pr hP5
    have h62 : zi B 226 62 = 0 := g3.2.2.2.2.1.1
    refine ⟨B, t', D', ?_, g3, by have := g4.1; omega, by omega, fun x hx => by rw [g4.2.1 x (by omega), c7 x (by omega), b7 x hx], F5.trans (g4.2.2.1.mono rQ_top)⟩
    unfold z_M_walk_122
    obtain ⟨u, hu⟩ : ∃ u, N = (u + 1) + k := ⟨N - k - 1, by omega⟩
    have g2 := g2 (u + 1)
    rw [← hu] at g2
    rw [show ((3 : Nat) : Int) = 3 from rfl, show ((0 : Nat) : Int) = 0 from rfl] at g2
    rw [g2]
    show z_M_walk_122_b (z_M_walk_122_l N u) N w z 3 ((Q.2.1 3).length : Int) B = _
    unfold z_M_walk_122_b
    have hn : ri B 229 (4 * (z : Int) + 3) = (Q.2.1 3).length := (hPB 3 (Or.inr rfl)).1
    rw [h62, if_neg (by decide), z_M_row_e (by omega) (by omega), zbP_s, zrd_ok (by omega) (by omega), hn, if_neg (by omega)]
  · rcases q with q | q
    · exact rQ_f ⟨q.1, by omega⟩
    · exact rQ_ct q
  · rcases q with q | q
    · exact rQ_sh q
    · exact rQ_own ⟨q.1, by omega⟩
theorem r_walk (hN : 300000 ≤ N) (hNk : kc 20 * 150 < N) (hQ : WO Q) (hW : WN Q nd sz) (hm : MT Q nd mt) (hw2 : w < 2) (hz : z < 3) (hT : zi A 226 6 = Q.1) (h : RSt A z Q) (hR : RTh A t D) (ht : t ≤ 8000) : ∃ (B : zA) (t' : Nat) (D' : Nat → T), z_M_walk N w z A = some B ∧ RW B w 0 0 0 t' D' (wk (pgO Q mt) 20 false 3 0 (Q.2.1 3).length st0) ∧ t ≤ t' ∧ t' ≤ t + 3152 ∧ (∀ i, i < t → D' i = D i) ∧ fr (qW w) A B := by
  obtain ⟨B, b1, b2, b3, b4⟩ := r_walk2 (N := N) (w := w) hN hQ hW hm hz 4 0 N A (by omega) (by omega) hT h (fun q hq => by omega)
  rw [show ((0 : Nat) : Int) = 0 from rfl] at b1
  unfold z_M_walk z_M_walk_2
  rw [b1]
  obtain ⟨C, t', D', c1, c2, c3, c4, c5, c6⟩ := r_walk27 hN hNk hQ hW hm hw2 hz b2 b3 (hR.fr b4 (fun a j q => by unfold qT; omega)) ht
  exact ⟨C, t', D', c1, c2, c3, c4, c5, (b4.mono (fun a j q => by
    rcases q with q | q
    · exact Or.inl q
    · exact Or.inr (Or.inl q))).trans (c6.mono (fun a j q => Or.inr (Or.inr q)))⟩
end
