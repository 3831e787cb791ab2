/-! programs -/
abbrev Pr : Type := Nat × (Nat → List It) × (Nat → Nat)
def exP (Q : Pr) (p : Nat) : Prop := p < Q.1 ∨ p = 3
def itm (X : List It) (k : Nat) : It := X.getD k (0, 0, 0, 0, 0)
def pgO (Q : Pr) (mt : Nat → Nat → Nat) : Pg := (fun p k => (itm (Q.2.1 p) k).1, fun p k i => ig (itm (Q.2.1 p) k) (i + 1), mt, fun p => (Q.2.1 p).length, Q.2.2)
def szL (sz : Nat → Nat) (X : List It) : Nat := (X.map (fun i => 1 + if i.1 = 7 then sz i.2.2.1.toNat else 0)).sum
/-- an item is such as it must be -/
def okI (T p g : Nat) (i : It) : Prop := 0 ≤ i.1 ∧ i.1 ≤ 12 ∧ (∀ j : Nat, j < nbk i.1 → -2147483648 ≤ ig i (j + 1) ∧ ig i (j + 1) < 2147483648 ∧ (isr i.1 j → 0 ≤ ig i (j + 1) ∧ ig i (j + 1) < g)) ∧ (i.1 = 2 → 0 ≤ ig i 4 ∧ ig i 4 ≤ 5) ∧ (i.1 = 7 → 0 ≤ ig i 2 ∧ ig i 2 < T ∧ ig i 2 < p)
def lvl (nd : Int → Nat) (p : Nat) : Nat := if p = 3 then 20 else nd p
def WN (Q : Pr) (nd : Int → Nat) (sz : Nat → Nat) : Prop := (∀ q, 1 ≤ nd q ∧ nd q ≤ 20) ∧ (∀ q, exP Q q → bal nd (lvl nd q) (Q.2.1 q)) ∧ (∀ q, q < Q.1 → szL sz (Q.2.1 q) ≤ sz q ∧ sz q ≤ 150) ∧ szL sz (Q.2.1 3) ≤ 150
def WO (Q : Pr) : Prop := Q.1 ≤ 3 ∧ ∀ p, exP Q p → 7 ≤ Q.2.2 p ∧ Q.2.2 p ≤ 60 ∧ (Q.2.1 p).length ≤ 150 ∧ ∀ i ∈ Q.2.1 p, okI Q.1 p (Q.2.2 p) i
def MT (Q : Pr) (nd : Int → Nat) (mt : Nat → Nat → Nat) : Prop := ∀ p, exP Q p → Bl nd ((pgO Q mt).1 p) (fun k => (pgO Q mt).2.1 p k 1) (mt p) (lvl nd p) 0 (Q.2.1 p).length
section
variable {Q : Pr} {mt : Nat → Nat → Nat} {nd : Int → Nat} {sz : Nat → Nat}
theorem itm_get {X : List It} {k : Nat} (h : k < X.length) : itm X k = X[k] := by
  unfold itm
  rw [List.getD_eq_getElem?_getD, List.getElem?_eq_getElem h]
  rfl
theorem itm_mem {X : List It} {k : Nat} (h : k < X.length) : itm X k ∈ X := by rw [itm_get h]; exact List.getElem_mem h
theorem exP3 (h : WO Q) {p : Nat} (hp : exP Q p) : p ≤ 3 := by
  have := h.1
  unfold exP at hp
  omega
theorem WO.wf (h : WO Q) : WfP (pgO Q mt) (exP Q) := fun p hp => by
  obtain ⟨h1, h2, h3, h4⟩ := h.2 p hp
  refine ⟨h1, h2, h3, fun k hk => ?_⟩
  have hk : k < (Q.2.1 p).length := hk
  obtain ⟨o1, o2, o3, o4, o5⟩ := h4 _ (itm_mem hk)
  have := h.1
  exact ⟨o1, o2, o3, o4, fun q => ⟨(o5 q).1, by have := (o5 q).2.1; show ig _ 2 < 3; omega, Or.inl (by have := o5 q; show (ig _ 2).toNat < _; omega)⟩⟩
theorem WO.low (h : WO Q) : ∀ p k, exP Q p → k < (pgO Q mt).2.2.2.1 p → (pgO Q mt).1 p k = 7 → (pgO Q mt).2.1 p k 1 < p := fun p k hp hk q => ((h.2 p hp).2.2.2 _ (itm_mem hk)).2.2.2.2 q |>.2.2
theorem szL_cons (i : It) (X : List It) : szL sz (i :: X) = (1 + if i.1 = 7 then sz i.2.2.1.toNat else 0) + szL sz X := rfl
theorem rsz_szL {p : Nat} : ∀ (l a : Nat), a + l = (Q.2.1 p).length → rsz (pgO Q mt) sz p a l = szL sz ((Q.2.1 p).drop a)
  | 0, a, h => by rw [List.drop_eq_nil_of_le (by omega)]; rfl
  | l + 1, a, h => by
    rw [List.drop_eq_getElem_cons (by omega), szL_cons, ← rsz_szL l (a + 1) (by omega)]
    show cst (pgO Q mt) sz p a + _ = _
    have : itm (Q.2.1 p) a = (Q.2.1 p)[a]'(by omega) := itm_get (by omega)
    rw [← this]
    rfl
theorem rsz_all {p : Nat} : rsz (pgO Q mt) sz p 0 (Q.2.1 p).length = szL sz (Q.2.1 p) := by
  rw [rsz_szL _ 0 (by omega), List.drop_zero]
theorem WN.wb (h : WN Q nd sz) (hm : MT Q nd mt) : WB (pgO Q mt) sz (exP Q) nd := fun q hq h3 => by
  obtain ⟨h1, h2, h3', h4⟩ := h
  refine ⟨?_, ?_⟩
  · have := hm q hq
    unfold lvl at this
    rw [if_neg (by omega)] at this
    exact this
  · show rsz (pgO Q mt) sz q 0 (Q.2.1 q).length ≤ _
    rw [rsz_all]
    exact (h3' q (by unfold exP at hq; omega)).1
theorem WN.main (h : WN Q nd sz) (hm : MT Q nd mt) : Bl nd ((pgO Q mt).1 3) (fun k => (pgO Q mt).2.1 3 k 1) ((pgO Q mt).2.2.1 3) 20 0 ((pgO Q mt).2.2.2.1 3) ∧ rsz (pgO Q mt) sz 3 0 ((pgO Q mt).2.2.2.1 3) ≤ 150 := by
  refine ⟨?_, ?_⟩
  · have := hm 3 (Or.inr rfl)
    unfold lvl at this
    rw [if_pos rfl] at this
    exact this
  · show rsz (pgO Q mt) sz 3 0 (Q.2.1 3).length ≤ _
    rw [rsz_all]
    exact h.2.2.2
end
/-! mates stay within -/
section
variable {nd : Int → Nat} {kd nm : Nat → Int} {mt : Nat → Nat}
theorem Bs_lt {n : Nat} {In : Nat → Nat → Prop} (hI : ∀ x y, In x y → ∀ k, x ≤ k → k < y → 8 ≤ kd k → mt k < y) : ∀ l a b, Bs nd kd nm mt n In l a b → ∀ k, a ≤ k → k < b → 8 ≤ kd k → mt k < b := by
  intro l
  induction l with
  | zero => intro a b h k k1 k2; have : a = b := h; omega
  | succ l ih =>
    intro a b h k k1 k2 k8
    rcases h with h | ⟨hab, ⟨h, h'⟩ | h | h⟩
    · omega
    · by_cases q : k = a
      · subst q; omega
      · exact ih _ _ h' k (by omega) k2 k8
    · obtain ⟨q1, q2, q3, q4, q5, q6, q7, q8, q9, q10⟩ := h
      by_cases z1 : k = a
      · rw [z1]; omega
      · by_cases z2 : k < mt a
        · have := hI _ _ q8 k (by omega) z2 k8; omega
        · by_cases z3 : k = mt a
          · rw [z3]; omega
          · by_cases z4 : k < mt (mt a)
            · have := hI _ _ q9 k (by omega) z4 k8; omega
            · by_cases z5 : k = mt (mt a)
              · rw [z5, q7]; omega
              · exact ih _ _ q10 k (by omega) k2 k8
    · obtain ⟨q1, q2, q3, q4, q5, q6, q7, q8, q9, q10⟩ := h
      by_cases z1 : k = a
      · rw [z1]; omega
      · by_cases z2 : k < mt a
        · have := q8 k (by omega) z2; omega
        · by_cases z3 : k = mt a
          · rw [z3]; omega
          · by_cases z4 : k < mt (mt a)
            · have := hI _ _ q9 k (by omega) z4 k8; omega
            · by_cases z5 : k = mt (mt a)
              · rw [z5, q7]; omega
              · exact ih _ _ q10 k (by omega) k2 k8
theorem Bl_lt : ∀ n a b, Bl nd kd nm mt n a b → ∀ k, a ≤ k → k < b → 8 ≤ kd k → mt k < b := by
  intro n
  induction n with
  | zero => intro a b h k k1 k2 k8; have := h.2 k k1 k2; omega
  | succ n ih => intro a b h; exact Bs_lt ih _ a b h
end
/-- the reference's rows z hold a program -/
def RSt (A : zA) (z : Nat) (Q : Pr) : Prop := ∀ p, exP Q p → rn A (4 * z + p) = (Q.2.1 p).length ∧ ri A 230 (4 * z + p) = Q.2.2 p ∧ ∀ k : Nat, k < (Q.2.1 p).length → ri A 228 (rad (4 * z + p) k 0) = (itm (Q.2.1 p) k).1 ∧ ∀ i : Nat, i < nbk (itm (Q.2.1 p) k).1 → ri A 228 (rad (4 * z + p) k ((i : Int) + 1)) = ig (itm (Q.2.1 p) k) (i + 1)
theorem RSt.fr {A B : zA} {z : Nat} {Q : Pr} {F : Nat → Nat → Prop} (h : RSt A z Q) (f : fr F A B) (hq : ∀ a j, F a j → a ≠ 228 ∧ a ≠ 229 ∧ a ≠ 230) : RSt B z Q := fun p hp => by
  have e : ∀ a e, (a = 228 ∨ a = 229 ∨ a = 230) → ri B a e = ri A a e := fun a e ha => f.e (fun z => by have := hq _ _ z; omega)
  obtain ⟨h1, h2, h3⟩ := h p hp
  refine ⟨by unfold rn at *; rw [e _ _ (by omega)]; exact h1, by rw [e _ _ (by omega)]; exact h2, fun k hk => ⟨by rw [e _ _ (by omega)]; exact (h3 k hk).1, fun i hi => by rw [e _ _ (by omega)]; exact (h3 k hk).2 i hi⟩⟩
def RMt (A : zA) (Q : Pr) (mt : Nat → Nat → Nat) (p : Nat) : Prop := ∀ k : Nat, k < (Q.2.1 p).length → 8 ≤ (itm (Q.2.1 p) k).1 → ri A 231 (240 * p + k) = mt p k
theorem RSt.pr {A : zA} {z : Nat} {Q : Pr} {mt : Nat → Nat → Nat} (h : RSt A z Q) (hm : ∀ p, exP Q p → RMt A Q mt p) : PrR A z (exP Q) (pgO Q mt) := fun p hp => by
  obtain ⟨h1, h2, h3⟩ := h p hp
  exact ⟨h1, fun k hk => ⟨(h3 k hk).1, (h3 k hk).2, fun q => hm p hp k hk q⟩⟩
section
variable {N : Nat} {A : zA} {z : Nat} {Q : Pr} {mt : Nat → Nat → Nat} {nd : Int → Nat} {sz : Nat → Nat}
theorem r_match {p : Nat} (hN : 300000 ≤ N) (hQ : WO Q) (hW : WN Q nd sz) (hm : MT Q nd mt) (hz : z < 3) (hp : exP Q p) (h : RSt A z Q) : ∃ B, z_M_match N z p A = some B ∧ RMt B Q mt p ∧ fr (fun a j => (a = 231 ∧ 240 * p ≤ j ∧ j < 240 * p + 240) ∨ a = 233) A B := by
  have h3 := exP3 hQ hp
  have hl := (hQ.2 p hp).2.2.1
  obtain ⟨h1, h2, h4⟩ := h p hp
  obtain ⟨B, b1, b2, b3⟩ := M_match_ok (N := N) (nd := nd) (kd := (pgO Q mt).1 p) (nm := fun k => (pgO Q mt).2.1 p k 1) (X := Q.2.1 p) (p := (p : Int)) (z := (z : Int)) (n := lvl nd p) (by omega) (by omega) (by omega) (by omega) (by omega) (hW.2.1 p hp) h1 (by omega) (fun k hk => (h4 k (by omega)).1) (fun j hj => by
    refine ⟨?_, fun _ => ?_⟩
    · show _ = (itm (Q.2.1 p) j).1
      rw [itm_get hj]
    · show _ = ig (itm (Q.2.1 p) j) 2
      rw [itm_get hj]
      rfl)
  have hu := Bl_uniq _ _ _ b3 (hm p hp)
  have hlt := Bl_lt _ _ _ (hm p hp)
  refine ⟨B, b1, fun k hk k8 => ?_, ?_⟩
  · have u1 := hu k (by omega) hk k8
    have u2 := hlt k (by omega) hk k8
    omega
  · obtain ⟨c1, c2, c3⟩ := b2
    refine ⟨c1.1, by rw [c1.2.1], fun a j q => ⟨?_, by unfold zml; rw [c1.2.1]⟩⟩
    by_cases q1 : a = 231
    · subst q1
      have := c2 (j : Int) (by omega) (by
        by_cases w : j < 240 * p
        · left; omega
        · right
          have : ¬ j < 240 * p + 240 := fun w' => q (Or.inl ⟨rfl, by omega, w'⟩)
          omega)
      unfold ri at this
      rw [Int.toNat_natCast] at this
      unfold zi at this
      exact Int32.toInt_inj.mp this
    · exact c1.2.2 a j (by
        have : a ≠ 233 := fun w => q (Or.inr w)
        simp only [List.contains_cons, List.contains_nil, Bool.or_false, Bool.or_eq_false_iff, beq_eq_false_iff_ne]
        exact ⟨q1, this⟩) (fun _ => rfl)
theorem r_isThere {p : Nat} (hT : zi A 226 6 = Q.1) : z_M_isThere N p A = some (if p < Q.1 ∨ p = 3 then 1 else 0) := by
  unfold z_M_isThere
  rw [if_neg (by omega), hT]
  by_cases c1 : p < Q.1
  · rw [if_pos (by omega), if_pos (Or.inl c1)]
  · rw [if_neg (by omega)]
    by_cases c2 : p = 3
    · rw [if_pos (by omega), if_pos (Or.inr c2)]
    · rw [if_neg (by omega), if_neg (by omega)]
/-- all parts are matched, then the walk begins -/
theorem r_walk2 {w : Nat} (hN : 300000 ≤ N) (hQ : WO Q) (hW : WN Q nd sz) (hm : MT Q nd mt) (hz : z < 3) : ∀ (r p f : Nat) (A : zA), p + r = 4 → r < f → zi A 226 6 = Q.1 → RSt A z Q → (∀ q, q < p → exP Q q → RMt A Q mt q) → ∃ B, z_M_walk_2_l N f w z p A = z_M_walk_27 N w z B ∧ RSt B z Q ∧ (∀ q, exP Q q → RMt B Q mt q) ∧ fr (fun a _ => a = 231 ∨ a = 233) A B := by
  intro r
  induction r with
  | zero =>
    intro p f A h1 h2 hT h hM
    obtain ⟨g, rfl⟩ : ∃ g, f = g + 1 := ⟨f - 1, by omega⟩
    refine ⟨A, ?_, h, fun q hq => hM q (by have := exP3 hQ hq; omega) hq, fr.refl _ _⟩
    show z_M_walk_2_b (z_M_walk_2_l N g) N w z p A = _
    unfold z_M_walk_2_b
    rw [if_neg (by omega)]
  | succ r ih =>
    intro p f A h1 h2 hT h hM
    obtain ⟨g, rfl⟩ : ∃ g, f = g + 1 := ⟨f - 1, by omega⟩
    have w1 : zw ((p : Int) + 1) = ((p + 1 : Nat) : Int) := by rw [yb_w (by omega) (by omega)]; omega
    have st : z_M_walk_2_l N (g + 1) w z p A = z_M_walk_2_b (z_M_walk_2_l N g) N w z p A := rfl
    unfold z_M_walk_2_b at st
    rw [if_pos (by omega), r_isThere hT, zbP_s, w1] at st
    by_cases c : p < Q.1 ∨ p = 3
    · rw [if_pos c, if_neg (by decide)] at st
      obtain ⟨B, b1, b2, b3⟩ := r_match (N := N) hN hQ hW hm hz c h
      rw [b1, zbV_s] at st
      obtain ⟨C, c1, c2, c3, c4⟩ := ih (p + 1) g B (by omega) (by omega) (by rw [b3.i (fun q => by omega)]; exact hT) (h.fr b3 (fun a j q => by omega)) (fun q hq hx => by
        by_cases e : q = p
        · rw [e]; exact b2
        · intro k hk k8
          have := (hQ.2 q hx).2.2.1
          rw [b3.e (fun z => by omega)]
          exact hM q (by omega) hx k hk k8)
      exact ⟨C, by rw [st, c1], c2, c3, (b3.mono (fun a j q => by omega)).trans c4⟩
    · rw [if_neg c, if_pos rfl] at st
      obtain ⟨C, c1, c2, c3, c4⟩ := ih (p + 1) g A (by omega) (by omega) hT h (fun q hq hx => by
        by_cases e : q = p
        · rw [e] at hx; exact absurd hx c
        · exact hM q (by omega) hx)
      exact ⟨C, by rw [st, c1], c2, c3, c4⟩
end
