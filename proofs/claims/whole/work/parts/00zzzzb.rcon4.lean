/-! CONSTANTS of the reference, from its beginning to its end -/
section
variable {N : Nat} {A : zA} {p : Nat}
theorem r_k19 (hp : p < 4) : ∀ (r i f : Nat) (B : zA), i + r = 60 → r < f → (∀ q : Nat, q < i → ri B 239 q = (if p = 3 then 1 else 0) ∧ ri B 240 q = 0) → ∃ C, z_M_constants_19_l N f p i B = z_M_constants_58 N p 0 0 C ∧ KnR C (kn0 p) ∧ fr (fun a _ => a = 239 ∨ a = 240) B C := by
  intro r
  induction r with
  | zero =>
    intro i f B h1 h2 hq
    obtain ⟨u, rfl⟩ : ∃ u, f = u + 1 := ⟨f - 1, by omega⟩
    have : i = 60 := by omega
    subst this
    refine ⟨B, ?_, fun r hr => ?_, fr.refl _ _⟩
    · show z_M_constants_19_b (z_M_constants_19_l N u) N p (60 : Nat) B = _
      unfold z_M_constants_19_b
      rw [if_neg (by decide)]
    · obtain ⟨q1, q2⟩ := hq r hr
      unfold kn0
      by_cases e : p = 3
      · rw [if_pos e] at q1 ⊢
        exact ⟨fun v hv => ⟨q1, by rw [q2]; exact Option.some.inj hv⟩, fun z => (by cases z)⟩
      · rw [if_neg e] at q1 ⊢
        exact ⟨fun v hv => (by cases hv), fun _ => q1⟩
  | succ r ih =>
    intro i f B h1 h2 hq
    obtain ⟨u, rfl⟩ : ∃ u, f = u + 1 := ⟨f - 1, by omega⟩
    have w1 : zw ((i : Int) + 1) = ((i + 1 : Nat) : Int) := by rw [yb_w (by omega) (by omega)]; omega
    have st : z_M_constants_19_l N (u + 1) p i B = z_M_constants_19_l N u p ((i + 1 : Nat) : Int) (rs (rs B 239 i (if p = 3 then 1 else 0)) 240 i 0) := by
      show z_M_constants_19_b (z_M_constants_19_l N u) N p i B = _
      unfold z_M_constants_19_b
      rw [if_pos (by omega)]
      by_cases e : p = 3
      · rw [if_pos (by omega), if_pos e, zwr_ok (by omega) (by omega), zwr_ok (by omega) (by omega), w1]
      · rw [if_neg (by omega), if_neg e, zwr_ok (by omega) (by omega), zwr_ok (by omega) (by omega), w1]
    have f1 : fr (fun a _ => a = 239 ∨ a = 240) B (rs (rs B 239 i (if p = 3 then 1 else 0)) 240 i 0) := (fr_rs (Or.inl rfl)).trans (fr_rs (Or.inr rfl))
    obtain ⟨C, c1, c2, c3⟩ := ih (i + 1) u _ (by omega) (by omega) (fun q hq' => by
      by_cases e : q = i
      · subst e
        rw [ri_rs_o (by decide), ri_rs_s, ri_rs_s]
        refine ⟨?_, by decide⟩
        by_cases e : p = 3
        · rw [if_pos e]; decide
        · rw [if_neg e]; decide
      · rw [ri_rs_o (by decide), ri_rs_n (by omega) (by omega) (by omega), ri_rs_n (by omega) (by omega) (by omega), ri_rs_o (by decide)]
        exact hq q (by omega) : ∀ q : Nat, q < i + 1 → ri (rs (rs B 239 i (if p = 3 then 1 else 0)) 240 i 0) 239 q = (if p = 3 then 1 else 0) ∧ ri (rs (rs B 239 i (if p = 3 then 1 else 0)) 240 i 0) 240 q = 0)
    exact ⟨C, by rw [st]; exact c1, c2, f1.trans c3⟩
def qCt (p : Nat) (a j : Nat) : Prop := qCn p 0 a j ∨ a = 231 ∨ a = 233
theorem r_constants {Q Qn QB : Pr} {c0 : Nat} (hN : 300000 ≤ N) (hG : GQ Q) (hp : exP Q p) (h : RPG A Qn QB) (hs : RSt A 1 Q) (hT : Qn.1 = Q.1) (h1 : Qn.2.1 p = Q.2.1 p) (h2 : Qn.2.2 p = Q.2.2 p) (hc0 : c0 ≤ 100000) (h33 : zi A 226 33 = c0) : ∃ B, z_M_constants N p A = some B ∧ RSt B 1 (conQ Q p) ∧ zi B 226 33 = ((c0 + (conL (Q.2.1 p) p).2.2 : Nat) : Int) ∧ RL B 1 ∧ fr (qCt p) A B := by
  have hp3 := exP3 hG.1 hp
  have hpn : exP Qn p := by unfold exP at *; omega
  have hX := rst_rp h.1 hpn
  rw [h1, h2, show 4 * 0 + p = p by omega] at hX
  obtain ⟨g7, g60, hl, gok⟩ := hG.1.2 p hp
  have hb := hG.n.2.1 p hp
  have hlv : lvl (wnC Q).1 p ≤ 20 := by
    unfold lvl
    by_cases e : p = 3
    · rw [if_pos e]; exact Nat.le_refl _
    · rw [if_neg e]; exact (hG.n.1 p).2
  have hx1 := rst_rp hs hp
  obtain ⟨B, b1, b2, b3⟩ := r_matchL (N := N) (A := A) (z := 0) (p := p) (r := p) hN (by omega) (by omega) (by omega) hX (by omega) hb
  rw [show ((0 : Nat) : Int) = 0 from rfl] at b1
  have f9 : fr (fun a j => a = 229 ∧ j = 4 + p) B (rs B 229 ((4 + p : Nat) : Int) 0) := fr_rs ⟨rfl, by omega⟩
  have v9 : ri (rs B 229 ((4 + p : Nat) : Int) 0) 229 ((4 + p : Nat) : Int) = 0 := by rw [ri_rs_s]; decide
  generalize hF : rs B 229 ((4 + p : Nat) : Int) 0 = F at *
  obtain ⟨D, d1, d2, d3⟩ := r_k19 (N := N) (p := p) (by omega) 60 0 N F (by omega) (by omega) (fun q hq => absurd hq (Nat.not_lt_zero _))
  rw [show ((0 : Nat) : Int) = 0 from rfl] at d1
  have hXD : RP D p (Q.2.1 p) (Q.2.2 p) := ((hX.fr (by omega) b3 (fun a q z y => by unfold qRo at y; omega)).fr (by omega) f9 (fun a q z y => by unfold qRo at y; omega)).fr (by omega) d3 (fun a q z y => by unfold qRo at y; omega)
  have hD0 : RoS D p (Q.2.1 p) (Q.2.2 p) c0 (kn0 p, [], 0) := by
    refine ⟨hXD, fun q hq q8 => ?_, ⟨?_, ?_, fun k hk => absurd hk (Nat.not_lt_zero k)⟩, d2, ?_⟩
    · rw [d3.e (fun z => by omega), f9.e (fun z => by omega)]; exact b2 q hq q8
    · rw [d3.e (fun z => by omega), v9]; rfl
    · rw [d3.e (fun z => by omega), f9.e (fun z => by omega), b3.e (fun z => by omega)]; exact hx1.2.1
    · rw [d3.i (fun z => by omega), f9.i (fun z => by omega), b3.i (fun z => by omega), h33]; rfl
  obtain ⟨K, cc, k1, k2, k3, k4⟩ := r_con (N := N) (c0 := c0) hN (show p < 4 by omega) gok g60 hl (lvl (wnC Q).1 p) 0 (Q.2.1 p).length (Bl_L hb) (Nat.le_refl _) (kn0 p, [], 0) 0 D (by omega) (kn0_ok p) (by show 0 + _ ≤ _; omega) (by show c0 + 0 + _ ≤ _; omega) hD0
  have k3 : RoS K p (Q.2.1 p) (Q.2.2 p) c0 (conL (Q.2.1 p) p) := k3
  have hend : z_M_constants_58 N p 0 0 D = some K := by
    unfold z_M_constants_58
    obtain ⟨u, hu⟩ : ∃ u, N = (u + 1) + cc := ⟨N - 1 - cc, by omega⟩
    have k2 := k2 (u + 1)
    rw [← hu, show ((0 : Nat) : Int) = 0 from rfl] at k2
    rw [k2]
    show z_M_constants_58_b (z_M_constants_58_l N u) N p 0 ((Q.2.1 p).length : Int) K = _
    unfold z_M_constants_58_b
    rw [z_M_row_e (by omega) (by omega), zbP_s, zrd_ok (by omega) (by omega), show (4 : Int) * 0 + p = p by omega, k3.1.1, if_neg (by omega)]
  have fK : fr (qCt p) A K := (((b3.mono (fun a j z => by
    rcases z with z | z
    · exact Or.inr (Or.inl z.1)
    · exact Or.inr (Or.inr z))).trans (f9.mono (fun a j z => Or.inl (Or.inl (Or.inl (Or.inr ⟨Or.inl z.1, z.2⟩)))))).trans (d3.mono (fun a j z => Or.inl (z.elim (fun y => Or.inr (Or.inl y)) (fun y => Or.inr (Or.inr (Or.inl y))))))).trans (k4.mono (fun a j z => Or.inl z))
  obtain ⟨i1, -⟩ := con_inv hG hp
  refine ⟨K, ?_, rst_put hG.1 hs fK (fun q hq hq4 a j z y => by unfold qCt qCn qIn qRo at z; unfold qRo at y; omega) k3.2.2.1, k3.2.2.2.2, fun q hq => ?_, fK⟩
  · unfold z_M_constants z_M_constants_19
    rw [b1, zbV_s, z_M_row_e (by omega) (by omega), zbP_s, zwr_ok (by omega) (by omega), show (4 : Int) * 1 + p = ((4 + p : Nat) : Int) by omega, hF, d1, hend]
  · by_cases e : q = p
    · subst e
      have := k3.2.2.1.1
      unfold rn
      rw [show (4 : Int) * ((1 : Nat) : Int) + q = ((4 + q : Nat) : Int) by omega, this]
      omega
    · have : rn K (4 * ((1 : Nat) : Int) + q) = rn A (4 * ((1 : Nat) : Int) + q) := fK.e (fun z => by unfold qCt qCn qIn qRo at z; omega)
      rw [this]
      exact h.2.2.2.2.1 q hq
end
