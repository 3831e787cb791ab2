/-! what a whole text says -/
def tmn (Tx : Nat → Int) (L a : Nat) (Q : Pr) : Option Pr := (tss Tx L (tst Tx L true Q.1 5) 120 (a, [], 7)).bind fun s => if s.1 < L then none else some (updG Q 3 s.2.1 s.2.2)
def tpp (Tx : Nat → Int) (L : Nat) : Nat → Nat → Pr → Option Pr
  | 0 => fun a Q => tmn Tx L a Q
  | r + 1 => fun a Q => if Tx a = 80 + (Q.1 : Int) ∧ Tx (a + 1) = 123 then (tbk Tx L (tst Tx L false Q.1 4) (a + 1, [], 7)).bind fun s => tpp Tx L r s.1 (Q.1 + 1, (updG Q Q.1 s.2.1 s.2.2).2) else tmn Tx L a Q
def Q00 : Pr := (0, fun _ => [], fun _ => 7)
/-- procedures are such as they must be; what isn't there is empty -/
def WQ0 (Q : Pr) : Prop := (∀ q, q < Q.1 → 7 ≤ Q.2.2 q ∧ bal ndc (4 + 5 * q) (Q.2.1 q) ∧ (∀ i ∈ Q.2.1 q, okE q (Q.2.2 q) i)) ∧ ∀ q, Q.1 ≤ q → q < 3 → Q.2.1 q = [] ∧ Q.2.2 q = 7
def WQ (Q : Pr) : Prop := Q.1 ≤ 3 ∧ WQ0 Q ∧ 7 ≤ Q.2.2 3 ∧ bal ndc (5 + 5 * Q.1) (Q.2.1 3) ∧ ∀ i ∈ Q.2.1 3, okE Q.1 (Q.2.2 3) i
theorem WQ0_00 : WQ0 Q00 := ⟨fun q hq => absurd hq (Nat.not_lt_zero q), fun q _ _ => ⟨rfl, rfl⟩⟩
section
variable {Tx : Nat → Int} {L : Nat}
theorem tmn_ok {a : Nat} {Q Q' : Pr} (hT : TXT Tx L) (ha : a ≤ L) (hQ : Q.1 ≤ 3) (hw : WQ0 Q) (h : tmn Tx L a Q = some Q') : WQ Q' ∧ Q'.1 = Q.1 := by
  unfold tmn at h
  cases h1 : tss Tx L (tst Tx L true Q.1 5) 120 (a, [], 7) with
  | none => rw [h1] at h; cases h
  | some s =>
    rw [h1, Option.bind_some] at h
    split at h
    · cases h
    · cases h
      obtain ⟨g1, g2, g3, Y, g4, g5, g6⟩ := ts_ss (cl := Q.1) (n := 5 + 5 * Q.1) (fun s s' q1 q2 q3 => ts_st hT hQ 5 s s' q1 q2 q3) 120 (a, [], 7) s ha (Nat.le_refl 7) h1
      have g4 : s.2.1 = Y := g4
      refine ⟨⟨hQ, ⟨fun q hq => ?_, fun q hq hq3 => ?_⟩, ?_, ?_, ?_⟩, rfl⟩
      · have hq : q < Q.1 := hq
        have n3 : q ≠ 3 := by omega
        have := hw.1 q hq
        unfold updG
        simp only [if_neg n3]
        exact this
      · have hq : Q.1 ≤ q := hq
        have n3 : q ≠ 3 := by omega
        have := hw.2 q hq hq3
        unfold updG
        simp only [if_neg n3]
        exact this
      · show 7 ≤ (if 3 = 3 then s.2.2 else Q.2.2 3)
        rw [if_pos rfl]
        exact g3
      · show bal ndc (5 + 5 * Q.1) (if 3 = 3 then s.2.1 else Q.2.1 3)
        rw [if_pos rfl, g4]
        exact g5
      · intro i hi
        have hi : i ∈ (if 3 = 3 then s.2.1 else Q.2.1 3) := hi
        rw [if_pos rfl, g4] at hi
        show okE Q.1 (if 3 = 3 then s.2.2 else Q.2.2 3) i
        rw [if_pos rfl]
        exact g6 i hi
theorem tpp_ok (hT : TXT Tx L) : ∀ (r a : Nat) (Q Q' : Pr), a ≤ L → Q.1 + r = 3 → WQ0 Q → tpp Tx L r a Q = some Q' → WQ Q'
  | 0, a, Q, Q', ha, hr, hw, h => (tmn_ok hT ha (by omega) hw h).1
  | r + 1, a, Q, Q', ha, hr, hw, h => by
    have h : (if Tx a = 80 + (Q.1 : Int) ∧ Tx (a + 1) = 123 then (tbk Tx L (tst Tx L false Q.1 4) (a + 1, [], 7)).bind fun s => tpp Tx L r s.1 (Q.1 + 1, (updG Q Q.1 s.2.1 s.2.2).2) else tmn Tx L a Q) = some Q' := h
    split at h
    · next c =>
      have hl : a + 1 < L := hT.lt (k := a + 1) (by rw [c.2]; decide)
      cases h1 : tbk Tx L (tst Tx L false Q.1 4) (a + 1, [], 7) with
      | none => rw [h1] at h; cases h
      | some s =>
        rw [h1, Option.bind_some] at h
        obtain ⟨g0, g1, g2, g3, Y, g4, g5, g6⟩ := ts_bk (cl := Q.1) (n := 4 + 5 * Q.1) (s := (a + 1, [], 7)) hT (fun s s' q1 q2 q3 => ts_st hT (by omega) 4 s s' q1 q2 q3) (by show a + 1 ≤ L; omega) (Nat.le_refl 7) h1
        have g4 : s.2.1 = Y := g4
        refine tpp_ok hT r s.1 _ Q' g2 (by show Q.1 + 1 + r = 3; omega) ⟨fun q hq => ?_, fun q hq hq3 => ?_⟩ h
        · have hq : q < Q.1 + 1 := hq
          unfold updG
          by_cases e : q = Q.1
          · simp only [if_pos e]
            rw [e, g4]
            exact ⟨g3, g5, g6⟩
          · simp only [if_neg e]
            exact hw.1 q (by omega)
        · have hq : Q.1 + 1 ≤ q := hq
          have e : q ≠ Q.1 := by omega
          unfold updG
          simp only [if_neg e]
          exact hw.2 q (by omega) hq3
    · exact (tmn_ok hT ha (by omega) hw h).1
end
/-! limits -/
def szA (Q : Pr) : Nat → Nat → Nat
  | 0 => fun _ => 0
  | p + 1 => fun j => if j = p ∧ (p < Q.1 ∨ p = 3) then szL (szA Q p) (Q.2.1 p) else szA Q p j
theorem szA_lo {Q : Pr} : ∀ {p j : Nat}, p ≤ j → szA Q p j = 0
  | 0, j, _ => rfl
  | p + 1, j, h => by
    show (if j = p ∧ (p < Q.1 ∨ p = 3) then _ else _) = _
    rw [if_neg (by omega)]
    exact szA_lo (by omega)
theorem szA_up {Q : Pr} {p j : Nat} (hj : j < p) : szA Q (p + 1) j = szA Q p j := by
  show (if j = p ∧ (p < Q.1 ∨ p = 3) then _ else _) = _
  rw [if_neg (by omega)]
theorem szA_up' {Q : Pr} : ∀ {r p j : Nat}, j < p → szA Q (p + r) j = szA Q p j
  | 0, p, j, _ => rfl
  | r + 1, p, j, h => by rw [show p + (r + 1) = p + r + 1 by omega, szA_up (by omega), szA_up' h]
theorem szL_congr {f g : Nat → Nat} : ∀ {X : List It}, (∀ i ∈ X, i.1 = 7 → f i.2.2.1.toNat = g i.2.2.1.toNat) → szL f X = szL g X := by
  intro X h
  unfold szL
  refine congrArg List.sum (List.map_congr_left (fun i hi => ?_))
  split
  · next c => rw [h i hi c]
  · rfl
/-- the program keeps within the limits (of while in while apart) -/
def LQ (Q : Pr) : Prop := ∀ p, exP Q p → Q.2.2 p ≤ 60 ∧ szA Q 4 p ≤ 150
theorem LQ_ok {Q : Pr} (hW : WQ Q) (hL : LQ Q) : GQ Q := by
  obtain ⟨h3, ⟨hp, he⟩, m1, m2, m3⟩ := hW
  have sz : ∀ p, exP Q p → szL (szA Q 4) (Q.2.1 p) = szA Q 4 p := fun p hp' => by
    have hp3 : p ≤ 3 := by unfold exP at hp'; omega
    have e : szA Q 4 p = szL (szA Q p) (Q.2.1 p) := by
      obtain ⟨r, hr⟩ : ∃ r, 4 = p + 1 + r := ⟨3 - p, by omega⟩
      rw [hr, szA_up' (by omega)]
      show (if p = p ∧ (p < Q.1 ∨ p = 3) then _ else _) = _
      rw [if_pos ⟨rfl, hp'⟩]
    rw [e]
    refine szL_congr (fun i hi h7 => ?_)
    have hlt : i.2.2.1.toNat < p := by
      rcases Nat.lt_or_ge p Q.1 with q | q
      · have := (hp p q).2.2 i hi
        have := this.2.2.2.2.2 h7
        have t : ig i 2 = i.2.2.1 := rfl
        omega
      · have e3 : p = 3 := by unfold exP at hp'; omega
        subst e3
        have := (m3 i hi).2.2.2.2.2 h7
        have t : ig i 2 = i.2.2.1 := rfl
        omega
    obtain ⟨r, hr⟩ : ∃ r, 4 = p + r := ⟨4 - p, by omega⟩
    rw [hr, szA_up' hlt]
  have len : ∀ X : List It, X.length ≤ szL (szA Q 4) X := fun X => by
    unfold szL
    induction X with
    | nil => exact Nat.le_refl _
    | cons i X ih =>
      rw [List.map_cons, List.sum_cons, List.length_cons]
      omega
  have bl : ∀ q, exP Q q → bal ndc (lvl ndc q) (Q.2.1 q) := fun q hq => by
    unfold lvl
    by_cases e : q = 3
    · rw [if_pos e, e]
      exact bal_mono _ _ m2 20 (by omega)
    · rw [if_neg e]
      have hq' : q < Q.1 := by unfold exP at hq; omega
      refine bal_mono _ _ (hp q hq').2.1 _ ?_
      unfold ndc
      rcases (show q = 0 ∨ q = 1 ∨ q = 2 by omega) with rfl | rfl | rfl <;> decide
  refine ⟨⟨h3, fun p hp' => ?_⟩, ndc, szA Q 4, fun q => ndc_rg q, bl, fun q hq => ?_, ?_⟩
  · obtain ⟨l1, l2⟩ := hL p hp'
    have ls := len (Q.2.1 p)
    rw [sz p hp'] at ls
    by_cases e : p < Q.1
    · obtain ⟨q1, q2, q3⟩ := hp p e
      exact ⟨q1, l1, by omega, fun i hi => (q3 i hi).I l1 (by omega) (Nat.le_refl _) (by omega)⟩
    · have e3 : p = 3 := by unfold exP at hp'; omega
      subst e3
      exact ⟨m1, l1, by omega, fun i hi => (m3 i hi).I l1 (Nat.le_refl _) h3 h3⟩
  · have hq' : exP Q q := Or.inl hq
    rw [sz q hq']
    exact ⟨Nat.le_refl _, (hL q hq').2⟩
  · rw [sz 3 (Or.inr rfl)]
    exact (hL 3 (Or.inr rfl)).2
