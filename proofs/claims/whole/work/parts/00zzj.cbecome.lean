/-! the class's rows -/
def rwl (R : Nat) : List Nat := (List.range 14).map (fun r => R + r)
theorem rwl_mem {R a : Nat} : (rwl R).contains a = true ↔ R ≤ a ∧ a ≤ R + 13 := by
  unfold rwl
  rw [List.contains_iff_mem, List.mem_map]
  constructor
  · rintro ⟨r, h, rfl⟩
    have := List.mem_range.mp h
    omega
  · intro h
    exact ⟨a - R, List.mem_range.mpr (by omega), by omega⟩
theorem rwl_n {R a : Nat} (h : a < R ∨ R + 13 < a) : (rwl R).contains a = false := nc_of (fun q => by have := rwl_mem.mp q; omega)
def okR (R : Nat) : Prop := R = 7 ∨ R = 21 ∨ R = 35
def CPI (A : zA) (R : Nat) : Prop := ∀ p : Nat, p < 4 → PI A (R + 2 + 3 * p)
def CSt (A : zA) (R : Nat) (Q : Pr) (mt : Nat → Nat → Nat) : Prop := zi A R 1 = Q.1 ∧ PrC A R (exP Q) (pgO Q mt)
theorem okR.fx {R : Nat} (h : okR R) : fx R = true ∧ R ≠ 0 ∧ R ≤ 35 := by
  rcases h with rfl | rfl | rfl <;> decide
section
variable {N : Nat} {A B : zA} {R R' : Nat} {Q : Pr} {mt : Nat → Nat → Nat} {S : List Nat}
theorem CPI.fr (h : CPI A R) (hR : okR R) (f : cF S A B) (hs : ∀ a, R ≤ a → a ≤ R + 13 → S.contains a = false) : CPI B R := fun p hp => by
  obtain ⟨r1, r2, r3, r4, r5, r6⟩ := rws_fr hR hp
  exact (h p hp).fr r6 f (hs _ (by omega) (by omega))
theorem CSt.fr (h : CSt A R Q mt) (hQ : WO Q) (hR : okR R) (f : cF S A B) (hs : ∀ a, R ≤ a → a ≤ R + 13 → S.contains a = false) : CSt B R Q mt := ⟨by rw [f.i hR.fx.1 (hs R (by omega) (by omega))]; exact h.1, h.2.fr f (fun p hp => hs _ (by omega) (by have := exP3 hQ hp; omega))⟩
theorem c_has {p : Nat} (h : zi A R 1 = Q.1) (hQ : WO Q) (hp : p < 4) : z_Ro_has N R p A = some (if p < Q.1 ∨ p = 3 then 1 else 0) := by
  unfold z_Ro_has
  rw [h]
  have := hQ.1
  by_cases c : p = 3
  · rw [if_pos (by omega), if_pos (Or.inr c)]
  · rw [if_neg (by omega), if_neg (by omega)]
    by_cases c2 : p < Q.1
    · rw [if_pos (by omega), if_pos (Or.inl c2)]
    · rw [if_neg (by omega), if_neg (by omega)]
theorem c_become_run (hR : okR R) (hR' : okR R') (hne : R ≠ R') (hQ : WO Q) : ∀ (r p f : Nat) (A : zA), p + r = 4 → r < f → Own A → CPI A R → CSt A R' Q mt → zi A R 1 = Q.1 → (∀ q, q < p → exP Q q → PrC A R (fun x => x = q) (pgO Q mt)) → ∃ B, z_Ro_become_10_l N f R R' p A = some B ∧ CPI B R ∧ CSt B R Q mt ∧ cF (rwl R) A B := by
  intro r
  induction r with
  | zero =>
    intro p f A h1 h2 hO hI hC hz hD
    obtain ⟨g, rfl⟩ : ∃ g, f = g + 1 := ⟨f - 1, by omega⟩
    refine ⟨A, ?_, hI, ⟨hz, fun q hq => hD q (by have := exP3 hQ hq; omega) hq q rfl⟩, cF.refl _ hO⟩
    show z_Ro_become_10_b (z_Ro_become_10_l N g) N R R' p A = _
    unfold z_Ro_become_10_b
    rw [if_neg (by omega)]
  | succ r ih =>
    intro p f A h1 h2 hO hI hC hz hD
    obtain ⟨g, rfl⟩ : ∃ g, f = g + 1 := ⟨f - 1, by omega⟩
    have w1 : zw ((p : Int) + 1) = ((p + 1 : Nat) : Int) := by rw [yb_w (by omega) (by omega)]; omega
    obtain ⟨r1, r2, r3, r4, r5, r6⟩ := rws_fr hR (show p < 4 by omega)
    obtain ⟨t1, t2, t3, t4, t5, t6⟩ := rws_fr hR' (show p < 4 by omega)
    have hh := c_has (N := N) hC.1 hQ (show p < 4 by omega)
    by_cases c : p < Q.1 ∨ p = 3
    · rw [if_pos c] at hh
      obtain ⟨p1, p2, p3, p4, p5⟩ := hC.2 p c
      have ho' : R + 2 + 3 * p ≠ R' + 2 + 3 * p := by omega
      obtain ⟨B, b1, b2, b3, b4, b5, b6, b7⟩ := Pt_become (N := N) (o := R + 2 + 3 * p) (p := R' + 2 + 3 * p) hO r6 t6 (by omega) (hI p (by omega)) p2
      have st : z_Ro_become_10_l N (g + 1) R R' p A = z_Ro_become_10_l N g R R' ((p + 1 : Nat) : Int) B := by
        show z_Ro_become_10_b (z_Ro_become_10_l N g) N R R' p A = _
        unfold z_Ro_become_10_b
        rw [if_pos (by omega), hh, zbP_s, if_neg (by decide), zgf_s r1, zfe_p hR (by omega), zcs_s r5, zgf_s t1, zfe_p hR' (by omega), zcs_s t5, b1, zbV_s, w1]
      have out : ∀ a, a ≠ R + 2 + 3 * p → ([R + 2 + 3 * p] : List Nat).contains a = false := fun a ha => cont2 ha
      have hI' : CPI B R := fun q hq => by
        by_cases e : q = p
        · rw [e]; exact b3
        · obtain ⟨-, -, -, -, -, u6⟩ := rws_fr hR hq
          exact (hI q hq).fr u6 b2 (out _ (by omega))
      have hRR : ∀ a, R' ≤ a → a ≤ R' + 13 → a ≠ R + 2 + 3 * p := fun a a1 a2 => by
        unfold okR at hR hR'
        omega
      have hC' : CSt B R' Q mt := hC.fr hQ hR' b2 (fun a a1 a2 => out _ (hRR a a1 a2))
      obtain ⟨C, c1, c2, c3, c4⟩ := ih (p + 1) g B (by omega) (by omega) b2.own hI' hC' (by rw [b2.i hR.fx.1 (out _ (by omega))]; exact hz) (fun q hq hx => by
        by_cases e : q = p
        · subst e
          intro x hx'
          subst hx'
          refine ⟨r6, b3, by rw [b4]; exact p3, by rw [b5]; exact p4, fun k hk => ?_⟩
          have hk' : (k : Int) < cn A (R' + 2 + 3 * x) := by rw [p3]; omega
          obtain ⟨i1, i2, i3⟩ := p5 k hk
          refine ⟨by rw [b6 k 0 (by omega) hk' (by omega) (by omega)]; exact i1, fun i hi => ?_, fun k8 => by rw [b7 k (by omega) hk']; exact i3 k8⟩
          have := nbk_le ((pgO Q mt).1 x k)
          rw [b6 k ((i : Int) + 1) (by omega) hk' (by omega) (by omega)]; exact i2 i hi
        · exact (hD q (by omega) hx).fr b2 (fun x hx' => out _ (by omega)))
      refine ⟨C, by rw [st, c1], c2, c3, (b2.mono (fun a ha => ?_)).trans c4⟩
      simp only [List.contains_iff_mem, List.mem_cons, List.not_mem_nil, or_false] at ha
      exact rwl_mem.mpr (by omega)
    · rw [if_neg c] at hh
      have st : z_Ro_become_10_l N (g + 1) R R' p A = z_Ro_become_10_l N g R R' ((p + 1 : Nat) : Int) A := by
        show z_Ro_become_10_b (z_Ro_become_10_l N g) N R R' p A = _
        unfold z_Ro_become_10_b
        rw [if_pos (by omega), hh, zbP_s, if_pos rfl, w1]
      obtain ⟨C, c1, c2, c3, c4⟩ := ih (p + 1) g A (by omega) (by omega) hO hI hC hz (fun q hq hx => by
        by_cases e : q = p
        · rw [e] at hx; exact absurd hx c
        · exact hD q (by omega) hx)
      exact ⟨C, by rw [st, c1], c2, c3, c4⟩
theorem c_become (hN : 300000 ≤ N) (hR : okR R) (hR' : okR R') (hne : R ≠ R') (hQ : WO Q) (hO : Own A) (hI : CPI A R) (hC : CSt A R' Q mt) : ∃ B, z_Ro_become N R R' A = some B ∧ CPI B R ∧ CSt B R Q mt ∧ cF (rwl R) A B := by
  obtain ⟨x1, x2, x3⟩ := hR.fx
  have h3 := hQ.1
  unfold z_Ro_become z_Ro_become_10
  rw [zlet_s, hC.1]
  have f1 : cF [R] A (zsi A R 1 Q.1) := cF_si hO x1 x2 (cont1 R)
  have v1 : zi (zsi A R 1 Q.1) R 1 = Q.1 := by rw [zi_si_s, yb_w (by omega) (by omega)]
  have out : ∀ a, a ≠ R → ([R] : List Nat).contains a = false := fun a ha => cont2 ha
  have hI1 : CPI (zsi A R 1 Q.1) R := fun p hp => by
    obtain ⟨-, -, -, -, -, u6⟩ := rws_fr hR hp
    exact (hI p hp).fr u6 f1 (out _ (by omega))
  have hC1 := hC.fr hQ hR' f1 (fun a a1 a2 => out _ (by unfold okR at hR hR'; omega))
  generalize zsi A R 1 Q.1 = A1 at *
  obtain ⟨B, b1, b2, b3, b4⟩ := c_become_run (N := N) hR hR' hne hQ 4 0 N A1 (by omega) (by omega) f1.own hI1 hC1 v1 (fun q hq => by omega)
  refine ⟨B, b1, b2, b3, (f1.mono (fun a ha => ?_)).trans b4⟩
  simp only [List.contains_iff_mem, List.mem_cons, List.not_mem_nil, or_false] at ha
  exact rwl_mem.mpr (by omega)
end
