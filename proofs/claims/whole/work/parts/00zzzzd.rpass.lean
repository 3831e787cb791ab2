/-! pass of the reference -/
def qP1 (a j : Nat) : Prop := qCp 1 a j ∨ (a = 226 ∧ 33 ≤ j ∧ j ≤ 35) ∨ a = 231 ∨ a = 233 ∨ (239 ≤ a ∧ a ≤ 251)
def qPa (a j : Nat) : Prop := qTc a j ∨ qP1 a j
section
variable {N : Nat} {A : zA} {p : Nat} {Q Qn QB : Pr} {x1 : Int}
theorem qP1_in {p a j : Nat} (hp : p < 4) (z : qIn p a j) : qP1 a j := by unfold qIn qRo at z; unfold qP1 qCp; omega
theorem r_change {c0 : Nat} (hN : 300000 ≤ N) (hG : GQ Q) (hp : exP Q p) (h : RPG A Qn QB) (hs : RSt A 1 Q) (hT : Qn.1 = Q.1) (h1 : Qn.2.1 p = Q.2.1 p) (h2 : Qn.2.2 p = Q.2.2 p) (hc0 : c0 ≤ (if x1 = 3 then 36000 else 150) * p) (h33 : zi A 226 33 = c0) (hx0 : 0 ≤ x1) (hx4 : x1 ≤ 4) : ∃ B, (if x1 = 0 then z_M_constants N p A else if x1 = 1 then z_M_common N p A else if x1 = 2 then z_M_dead N p A else if x1 = 3 then z_M_hoist N p A else z_M_inline N p A) = some B ∧ RSt B 1 (ps1 x1 Q p).1 ∧ zi B 226 33 = ((c0 + (ps1 x1 Q p).2 : Nat) : Int) ∧ RL B 1 ∧ fr qP1 A B := by
  have hp4 : p < 4 := by have := exP3 hG.1 hp; omega
  have hb : c0 ≤ 36000 * p := by
    refine Nat.le_trans hc0 (Nat.mul_le_mul_right p ?_)
    split <;> omega
  unfold ps1
  by_cases c0' : x1 = 0
  · rw [if_neg (by omega)] at hc0
    obtain ⟨B, b1, b2, b3, b4, b5⟩ := r_constants (N := N) hN hG hp h hs hT h1 h2 (by omega) h33
    rw [if_pos c0', if_pos c0']
    exact ⟨B, b1, b2, b3, b4, b5.mono (fun a j z => by
      rcases z with z | z
      · rcases z with z | z
        · exact qP1_in hp4 z
        · unfold qP1; omega
      · unfold qP1; omega)⟩
  rw [if_neg c0', if_neg c0']
  by_cases c1 : x1 = 1
  · rw [if_neg (by omega)] at hc0
    obtain ⟨B, b1, b2, b3, b4, b5⟩ := r_common (N := N) hN hG hp h hs hT h2 (by omega) h33
    rw [if_pos c1, if_pos c1]
    exact ⟨B, b1, b2, b3, b4, b5.mono (fun a j z => by
      rcases z with z | z
      · exact qP1_in hp4 z
      · unfold qN9 qNm at z; unfold qP1; omega)⟩
  rw [if_neg c1, if_neg c1]
  by_cases c2 : x1 = 2
  · rw [if_neg (by omega)] at hc0
    obtain ⟨B, b1, b2, b3, b4, b5⟩ := r_dead (N := N) hN hG hp h hs hT h1 h2 (by omega) h33
    rw [if_pos c2, if_pos c2]
    exact ⟨B, b1, b2, b3, b4, b5.mono (fun a j z => by
      rcases z with z | z
      · exact qP1_in hp4 z
      · unfold qP1; omega)⟩
  rw [if_neg c2, if_neg c2]
  by_cases c3 : x1 = 3
  · obtain ⟨B, b1, b2, b3, b4, b5⟩ := r_hoist (N := N) hN hG hp h hs (by omega) h33
    rw [if_pos c3, if_pos c3]
    exact ⟨B, b1, b2, b3, b4, b5.mono (fun a j z => by
      rcases z with z | z
      · exact qP1_in hp4 z
      · unfold qP1; omega)⟩
  rw [if_neg c3, if_neg c3]
  rw [if_neg c3] at hc0
  obtain ⟨B, b1, b2, b3, b4, b5⟩ := r_inline (N := N) hN hG hp h hs hT h1 h2 (by omega) h33
  exact ⟨B, b1, b2, b3, b4, b5.mono (fun a j z => qP1_in hp4 z)⟩
theorem r_pass_run (hN : 300000 ≤ N) (hG : GQ Q) (hGB : GQ QB) (hx0 : 0 ≤ x1) (hx4 : x1 ≤ 4) : ∀ (n q f : Nat) (B : zA), q + n = 4 → n < f → RPG B Q QB → RSt B 1 (psS x1 Q q).1 → zi B 226 33 = ((psS x1 Q q).2 : Int) → ∃ C, z_M_pass_33_l N f x1 q B = z_M_pass_111 N C ∧ RPG C Q QB ∧ RSt C 1 (psS x1 Q 4).1 ∧ zi C 226 33 = ((psS x1 Q 4).2 : Int) ∧ fr qP1 B C := by
  intro n
  induction n with
  | zero =>
    intro q f B h1 h2 hR hs h33
    obtain ⟨u, rfl⟩ : ∃ u, f = u + 1 := ⟨f - 1, by omega⟩
    have : q = 4 := by omega
    subst this
    refine ⟨B, ?_, hR, hs, h33, fr.refl _ _⟩
    show z_M_pass_33_b (z_M_pass_33_l N u) N x1 (4 : Nat) B = _
    unfold z_M_pass_33_b
    rw [if_neg (by decide)]
  | succ n ih =>
    intro q f B h1 h2 hR hs h33
    obtain ⟨u, rfl⟩ : ∃ u, f = u + 1 := ⟨f - 1, by omega⟩
    obtain ⟨i1, i2, i3, i4⟩ := psS_ok (x := x1) hG q (by omega)
    have w1 : zw ((q : Int) + 1) = ((q + 1 : Nat) : Int) := by rw [yb_w (by omega) (by omega)]; omega
    have e : psS x1 Q (q + 1) = cif (exP Q q) ((ps1 x1 (psS x1 Q q).1 q).1, (psS x1 Q q).2 + (ps1 x1 (psS x1 Q q).1 q).2) (psS x1 Q q) := rfl
    have st : z_M_pass_33_l N (u + 1) x1 q B = z_M_pass_33_b (z_M_pass_33_l N u) N x1 q B := rfl
    unfold z_M_pass_33_b at st
    rw [if_pos (by omega), r_thr hR.2.2.1, zbP_s, w1] at st
    by_cases c : exP Q q
    · rw [cif_pos c] at e
      rw [cif_pos (ex_thr.mpr c), if_neg (by decide)] at st
      have c' : exP (psS x1 Q q).1 q := by unfold exP at *; rw [i2]; exact c
      obtain ⟨C, d1, d2, d3, d4, d5⟩ := r_change (N := N) (x1 := x1) hN i1 c' hR hs i2.symm (i3 q (Nat.le_refl _)).1.symm (i3 q (Nat.le_refl _)).2.symm i4 h33 hx0 hx4
      have hR2 : RPG C Q QB := hR.edit hG.1 hGB.1 d5 (fun a j z => by unfold qP1 qCp at z; omega) d4
      obtain ⟨D, e1, e2, e3, e4, e5⟩ := ih (q + 1) u C (by omega) (by omega) hR2 (by rw [e]; exact d2) (by rw [e]; exact d3)
      refine ⟨D, ?_, e2, e3, e4, d5.trans e5⟩
      rw [st, ← e1]
      by_cases c0 : x1 = 0
      · rw [if_pos c0] at d1 ⊢
        rw [d1, zbV_s]
      rw [if_neg c0] at d1 ⊢
      by_cases c1 : x1 = 1
      · rw [if_pos c1] at d1 ⊢
        rw [d1, zbV_s]
      rw [if_neg c1] at d1 ⊢
      by_cases c2 : x1 = 2
      · rw [if_pos c2] at d1 ⊢
        rw [d1, zbV_s]
      rw [if_neg c2] at d1 ⊢
      by_cases c3 : x1 = 3
      · rw [if_pos c3] at d1 ⊢
        rw [d1, zbV_s]
      rw [if_neg c3] at d1 ⊢
      rw [d1, zbV_s]
    · rw [cif_neg c] at e
      rw [cif_neg (fun z => c (ex_thr.mp z)), if_pos rfl] at st
      rw [st]
      exact ih (q + 1) u B (by omega) (by omega) hR (by rw [e]; exact hs) (by rw [e]; exact h33)
theorem r_pass (hN : 300000 ≤ N) (hNk : kc 20 * 150 < N) (hG : GQ Q) (hGB : GQ QB) (h : RPG A Q QB) : (¬ (0 ≤ x1 ∧ x1 ≤ 4) → ∃ B, z_M_pass N x1 A = some (0, B) ∧ zi B 226 0 = 1 ∧ RPG B Q QB ∧ fr (fun a j => a = 226 ∧ j = 0) A B) ∧ ((0 ≤ x1 ∧ x1 ≤ 4) → ∃ B, z_M_pass N x1 A = some (cif (Sam (wlC Q) (wlC (pasQ x1 Q))) ((psS x1 Q 4).2 : Int) (-1), B) ∧ zi B 226 0 = 0 ∧ fr qPa A B ∧ ((Sam (wlC Q) (wlC (pasQ x1 Q)) ∧ RPG B (pasQ x1 Q) QB ∧ zi B 226 7 = zw (zi A 226 7 + 1) ∧ zi B 226 8 = zi A 226 8) ∨ (¬ Sam (wlC Q) (wlC (pasQ x1 Q)) ∧ RPG B Q QB ∧ zi B 226 7 = zi A 226 7 ∧ zi B 226 8 = zw (zi A 226 8 + 1)))) := by
  have f0 : fr (fun a j => a = 226 ∧ j = 0) A (zsi A 226 0 0) := fr_si ⟨rfl, rfl⟩
  have v0 : zi (zsi A 226 0 0) 226 0 = 0 := by rw [zi_si_s]; decide
  have i0 : ∀ j, j ≠ 0 → zi (zsi A 226 0 0) 226 j = zi A 226 j := fun j hj => zi_si_j hj
  have h1 := h.f0 f0 (fun a j q => by omega)
  unfold z_M_pass
  rw [zlet_s]
  generalize hA1 : zsi A 226 0 0 = A1 at *
  refine ⟨fun hn => ?_, fun hx => ?_⟩
  · have f1 : fr (fun a j => a = 226 ∧ j = 0) A1 (zsi A1 226 0 1) := fr_si ⟨rfl, rfl⟩
    have e14 : z_M_pass_14 N A1 = some (0, zsi A1 226 0 1) := by
      unfold z_M_pass_14 z_M_fail
      rw [zlet_s, zbI_s]
    refine ⟨zsi A1 226 0 1, ?_, by rw [zi_si_s]; decide, h1.f0 f1 (fun a j q => by omega), f0.trans f1⟩
    by_cases c : x1 < 0
    · rw [if_pos c, e14]
    · rw [if_neg c, if_pos (by omega), e14]
  · rw [if_neg (by omega), if_neg (by omega)]
    obtain ⟨C, c1, c2, c3, c4⟩ := r_copyState' (N := N) (x := 0) (y := 1) hN (by omega) (by omega) (by omega) h1.2.2.2.1 hG.1 h1.1
    rw [show ((0 : Nat) : Int) = 0 from rfl, show ((1 : Nat) : Int) = 1 from rfl] at c1
    have f3 : fr (fun a j => a = 226 ∧ j = 33) C (zsi C 226 33 0) := fr_si ⟨rfl, rfl⟩
    have v3 : zi (zsi C 226 33 0) 226 33 = ((psS x1 Q 0).2 : Int) := by rw [zi_si_s]; rfl
    rw [c1, zbV_s, zlet_s]
    have hR1 : RPG C Q QB := h1.edit hG.1 hGB.1 c4 (fun a j z => by unfold qCp at z; omega) c3
    have hR2 : RPG (zsi C 226 33 0) Q QB := hR1.edit hG.1 hGB.1 f3 (fun a j z => by omega) (c3.fr f3 (fun q hq z => by omega))
    have hs2 : RSt (zsi C 226 33 0) 1 (psS x1 Q 0).1 := rp_rst (fun q hq => (rst_rp c2 (show exP Q q from hq)).fr (by have := (hG.1.2 q hq).2.2.1; show (Q.2.1 q).length ≤ 240; omega) f3 (fun a j z y => by unfold qRo at y; omega))
    generalize zsi C 226 33 0 = D at *
    obtain ⟨E, e1, e2, e3, e4, e5⟩ := r_pass_run (N := N) (x1 := x1) hN hG hGB hx.1 hx.2 4 0 N D (by omega) (by omega) hR2 hs2 v3
    have e1 : z_M_pass_33 N x1 0 D = z_M_pass_111 N E := e1
    obtain ⟨j1, j2, j3, j4⟩ := psS_ok (x := x1) hG 4 (Nat.le_refl _)
    obtain ⟨F, g1, g2, g3⟩ := r_settle (N := N) (A := E) (Q := Q) (Q1 := pasQ x1 Q) hN hNk hG j1 e2 e3 j2
    rw [e1]
    unfold z_M_pass_111
    rw [g1, zbI_s, e4]
    have FE : fr qP1 A1 E := ((c4.mono (fun a j z => Or.inl z)).trans (f3.mono (fun a j z => Or.inr (Or.inl (by omega))))).trans e5
    have iE : ∀ j, j = 7 ∨ j = 8 → zi E 226 j = zi A 226 j := fun j hj => by rw [FE.i (fun z => by unfold qP1 qCp at z; omega), i0 j (by omega)]
    refine ⟨F, ?_, ?_, ((f0.mono (fun a j z => Or.inl (Or.inr (Or.inr z)))).trans (FE.mono (fun a j z => Or.inr z))).trans (g2.mono (fun a j z => Or.inl (Or.inl z))), ?_⟩
    · by_cases c : Sam (wlC Q) (wlC (pasQ x1 Q))
      · rw [cif_pos c, cif_pos c, if_neg (by decide)]
      · rw [cif_neg c, cif_neg c, if_pos rfl]
    · rw [g2.i (fun z => by unfold qSt qA qCp at z; revert z; decide), FE.i (fun z => by unfold qP1 qCp at z; omega), v0]
    · rw [iE 7 (Or.inl rfl), iE 8 (Or.inr rfl)] at g3
      exact g3
end
