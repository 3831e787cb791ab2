/-! room -/
theorem sum_le_of {α : Type} (f g : α → Int) : ∀ l : List α, (∀ x ∈ l, f x ≤ g x) → (l.map f).sum ≤ (l.map g).sum
  | [], _ => Int.le_refl _
  | x :: l, h => by
    have h1 := h x List.mem_cons_self
    have h2 := sum_le_of f g l (fun y hy => h y (List.mem_cons_of_mem _ hy))
    rw [List.map_cons, List.map_cons, List.sum_cons, List.sum_cons]
    omega
def bnd (s : Nat × Nat) : Int := if s.1 = 103 ∨ s.1 = 111 then (if s.2 = 0 then 917504 else 262144) else if s.1 = 209 then 10000 else 2400
theorem bnd_sum : (SL.map bnd).sum = 2456096 := by decide
theorem tt_len {A : zA} {o t : Nat} (h : TT A o t) : yl A o 0 ≤ 917504 ∧ yl A o 1 ≤ 262144 := by
  obtain ⟨⟨q, hq, h0, h1, -⟩, -⟩ := h
  have e : (2 : Nat) ^ (q + 8) = 2 * 2 ^ (q + 7) := by rw [show q + 8 = (q + 7) + 1 by omega, Nat.pow_succ]; omega
  have m : (2 : Nat) ^ (q + 7) ≤ 2 ^ 17 := Nat.pow_le_pow_right (by decide) (by omega)
  have m17 : (2 : Nat) ^ 17 = 131072 := by decide
  omega
section
variable {A B : zA} {L : Nat} {xs : Nat → Int32}
theorem sy_le (h : IN B) : sy B ≤ 2456096 := by
  obtain ⟨R, R', Q, QB, Tx, L, inp, ic, ou, s, c1, c2, g, hC, hR⟩ := h
  obtain ⟨⟨r, m2, m3, ⟨hO, ⟨t, -, t1⟩, -, -⟩, p7, pR, pR', -, -⟩, -, ⟨⟨t', t2, -⟩, p95⟩, ⟨⟨d1, d2, d3, d4, d5⟩, -⟩, -⟩ := hC
  have pp : ∀ X, X = 7 ∨ X = 21 ∨ X = 35 → CPI B X := fun X hX => by
    unfold RR at r
    rcases hX with rfl | rfl | rfl
    · exact p7
    · rcases r with ⟨e1, e2⟩ | ⟨e1, e2⟩
      · rw [e1] at pR; exact pR
      · rw [e2] at pR'; exact pR'
    · rcases r with ⟨e1, e2⟩ | ⟨e1, e2⟩
      · rw [e2] at pR'; exact pR'
      · rw [e1] at pR; exact pR
  have key : ∀ X p, (X = 7 ∨ X = 21 ∨ X = 35) → p < 4 → yl B (X + 2 + 3 * p) 0 ≤ 2400 ∧ yl B (X + 2 + 3 * p) 1 ≤ 2400 := fun X p hX hp => by
    obtain ⟨-, -, -, i1, -, i2⟩ := pp X hX p hp
    omega
  have a1 := tt_len t1
  have a2 := tt_len t2
  rw [← bnd_sum]
  unfold sy
  refine sum_le_of _ _ SL (fun s hs => ?_)
  have q0 := key 7 0 (by omega) (by decide)
  have q1 := key 7 1 (by omega) (by decide)
  have q2 := key 7 2 (by omega) (by decide)
  have q3 := key 7 3 (by omega) (by decide)
  have q4 := key 21 0 (by omega) (by decide)
  have q5 := key 21 1 (by omega) (by decide)
  have q6 := key 21 2 (by omega) (by decide)
  have q7 := key 21 3 (by omega) (by decide)
  have q8 := key 35 0 (by omega) (by decide)
  have q9 := key 35 1 (by omega) (by decide)
  have qa := key 35 2 (by omega) (by decide)
  have qb := key 35 3 (by omega) (by decide)
  have r0 := p95 197 (by omega)
  have r1 := p95 200 (by omega)
  have r2 := p95 203 (by omega)
  have r3 := p95 206 (by omega)
  simp only [Nat.reduceAdd, Nat.reduceMul] at q0 q1 q2 q3 q4 q5 q6 q7 q8 q9 qa qb
  unfold SL at hs
  simp only [List.mem_cons, List.not_mem_nil, or_false] at hs
  unfold bnd
  rcases hs with rfl | rfl | rfl | rfl | rfl | rfl | rfl | rfl | rfl | rfl | rfl | rfl | rfl | rfl | rfl | rfl | rfl | rfl | rfl | rfl | rfl | rfl | rfl | rfl | rfl | rfl | rfl | rfl | rfl | rfl | rfl | rfl | rfl | rfl | rfl | rfl | rfl | rfl
  all_goals simp
  all_goals omega
theorem t1_le (A : zA) (o f : Nat) : 0 ≤ t1 A o f ∧ t1 A o f ≤ 1 := by
  unfold t1
  split <;> decide
theorem sy_0 : 0 ≤ sy (zA0 L xs) := by
  unfold sy
  have : ∀ l : List (Nat × Nat), 0 ≤ (l.map (fun s => yl (zA0 L xs) s.1 s.2)).sum := fun l => by
    induction l with
    | nil => exact Int.le_refl _
    | cons x l ih =>
      rw [List.map_cons, List.sum_cons]
      have : 0 ≤ yl (zA0 L xs) x.1 x.2 := by
        unfold yl
        split
        · exact Int.natCast_nonneg _
        · exact Int.le_refl _
      omega
  exact this SL
theorem len_parts : ∀ l : List zK, l.length = (l.filter (fun s => decide (4 < s.2.2))).length + (l.filter (fun s => decide (s.2.2 ≤ 4))).length
  | [] => rfl
  | s :: l => by
    have := len_parts l
    rw [List.filter_cons, List.filter_cons, List.length_cons]
    by_cases c : 4 < s.2.2
    · rw [if_pos (decide_eq_true c), if_neg (by simp; omega), List.length_cons]
      omega
    · rw [if_neg (by simp; omega), if_pos (by simp; omega), List.length_cons]
      omega
def zK0 : List zK := (List.range 295).map (fun a => (zsh (a + 1)).getD (false, 0, 0))
theorem tot_k : ((zK0.filter (fun s => decide (4 < s.2.2))).map (fun s => (s.2.2 : Int))).sum ≤ 300000 := by decide +kernel
theorem len_k : zK0.length = 295 := by decide +kernel
theorem tot_0 : tot (zA0 L xs) ≤ 300000 + L := by
  have hk := tot_k
  unfold tot big
  show (((((true, 0, L) : zK) :: zK0).filter (fun s => decide (4 < s.2.2))).map (fun s => (s.2.2 : Int))).sum ≤ _
  rw [List.filter_cons]
  split
  · rw [List.map_cons, List.sum_cons]
    exact Int.le_trans (Int.add_le_add_left tot_k (L : Int)) (by omega)
  · exact Int.le_trans tot_k (by omega)
theorem len_0 : (big (zA0 L xs)).length ≤ 296 ∧ smc (zA0 L xs) ≤ 296 := by
  have h1 := len_parts (zA0 L xs).1
  have h2 : (zA0 L xs).1.length = 296 := by
    show (((true, 0, L) : zK) :: zK0).length = 296
    rw [List.length_cons, len_k]
  unfold big smc
  omega
/-- there is room for all of it -/
theorem room (h : IN B) (hr : Rm (zA0 L xs) B) (hs : smc B ≤ smc (zA0 L xs) + 1600) : B.1.length ≤ 400000 ∧ tot B + ((big B).length : Int) + 6 * (smc B : Int) ≤ 7293073 + L := by
  have a1 := sy_le h
  have a2 := sy_0 (L := L) (xs := xs)
  have a3 := tot_0 (L := L) (xs := xs)
  obtain ⟨a4, a5⟩ := len_0 (L := L) (xs := xs)
  obtain ⟨r1, r2⟩ := hr
  have b1 := t1_le B 114 3
  have b2 := t1_le B 114 4
  have b3 := t1_le B 117 3
  have b4 := t1_le B 117 4
  have c1 := t1_le (zA0 L xs) 114 3
  have c2 := t1_le (zA0 L xs) 114 4
  have c3 := t1_le (zA0 L xs) 117 3
  have c4 := t1_le (zA0 L xs) 117 4
  unfold ty at r1 r2
  have hl := len_parts B.1
  have hl : B.1.length = (big B).length + smc B := hl
  omega
end
