/-! mates depend on the kinds alone -/
def ubd (k : Int) : Int := if k = 8 ∨ k = 10 then 1 else if k = 12 then -1 else 0
def ub (kd : Nat → Int) : Nat → Int
  | 0 => 0
  | k + 1 => ub kd k + ubd (kd k)
def clo (k : Int) : Prop := k = 9 ∨ k = 11 ∨ k = 12
def Bq (kd : Nat → Int) (a b : Nat) : Prop := ub kd b = ub kd a ∧ ∀ k, a ≤ k → k < b → ub kd a ≤ ub kd k ∧ (clo (kd k) → ub kd a + 1 ≤ ub kd k)
section
variable {nd : Int → Nat} {kd nm : Nat → Int} {mt mt' : Nat → Nat}
theorem ub_s (k : Nat) : ub kd (k + 1) = ub kd k + ubd (kd k) := rfl
theorem Bq_nil (a : Nat) : Bq kd a a := ⟨rfl, fun k h1 h2 => by omega⟩
theorem Bq_app {a b c : Nat} (h : Bq kd a b) (g : Bq kd b c) : Bq kd a c := by
  refine ⟨g.1.trans h.1, fun k h1 h2 => ?_⟩
  by_cases q : k < b
  · exact h.2 k h1 q
  · have := g.2 k (by omega) h2
    rw [h.1] at this
    exact this
theorem Bq_one {a : Nat} (h0 : 0 ≤ kd a) (h7 : kd a ≤ 7) : Bq kd a (a + 1) := by
  refine ⟨?_, fun k h1 h2 => ?_⟩
  · rw [ub_s]
    unfold ubd
    rw [if_neg (by omega), if_neg (by omega)]
    omega
  · have : k = a := by omega
    subst this
    exact ⟨Int.le_refl _, fun q => by unfold clo at q; omega⟩
theorem Bq_pl {a : Nat} : ∀ b, a ≤ b → (∀ k, a ≤ k → k < b → 0 ≤ kd k ∧ kd k ≤ 6) → Bq kd a b := by
  intro b
  induction b with
  | zero => intro h _; rw [show a = 0 by omega]; exact Bq_nil 0
  | succ b ih =>
    intro h h1
    by_cases q : a = b + 1
    · rw [q]; exact Bq_nil _
    · have := h1 b (by omega) (by omega)
      exact Bq_app (ih (by omega) (fun k k1 k2 => h1 k k1 (by omega))) (Bq_one this.1 (by omega))
theorem Bq_blk {a m e : Nat} (h1 : kd a = 8 ∨ kd a = 10) (h2 : kd m = 9 ∨ kd m = 11) (h3 : kd e = 12) (h4 : a < m) (h5 : m < e) (p1 : Bq kd (a + 1) m) (p2 : Bq kd (m + 1) e) : Bq kd a (e + 1) := by
  have da : ub kd (a + 1) = ub kd a + 1 := by rw [ub_s]; unfold ubd; rw [if_pos h1]
  have dm : ub kd (m + 1) = ub kd m := by rw [ub_s]; unfold ubd; rw [if_neg (by omega), if_neg (by omega)]; omega
  have de : ub kd (e + 1) = ub kd e - 1 := by rw [ub_s]; unfold ubd; rw [if_neg (by omega), if_pos h3]; omega
  have q1 := p1.1
  have q2 := p2.1
  refine ⟨by omega, fun k k1 k2 => ?_⟩
  by_cases c1 : k = a
  · subst c1
    exact ⟨Int.le_refl _, fun q => by unfold clo at q; omega⟩
  · by_cases c2 : k < m
    · have := (p1.2 k (by omega) c2).1
      exact ⟨by omega, fun _ => by omega⟩
    · by_cases c3 : k = m
      · subst c3
        exact ⟨by omega, fun _ => by omega⟩
      · by_cases c4 : k < e
        · have := (p2.2 k (by omega) c4).1
          exact ⟨by omega, fun _ => by omega⟩
        · have : k = e := by omega
          subst this
          exact ⟨by omega, fun _ => by omega⟩
theorem Bs_bq {n : Nat} {In : Nat → Nat → Prop} (hI : ∀ x y, In x y → Bq kd x y) : ∀ l a b, Bs nd kd nm mt n In l a b → Bq kd a b := by
  intro l
  induction l with
  | zero => intro a b h; have : a = b := h; rw [this]; exact Bq_nil _
  | succ l ih =>
    intro a b h
    rcases h with h | ⟨hab, ⟨h, h'⟩ | h | h⟩
    · rw [h]; exact Bq_nil _
    · exact Bq_app (Bq_one (by omega) (by omega)) (ih _ _ h')
    · obtain ⟨q1, q2, q3, q4, q5, q6, q7, q8, q9, q10⟩ := h
      exact Bq_app (Bq_blk (Or.inl q1) (Or.inl q5) q6 q2 q3 (hI _ _ q8) (hI _ _ q9)) (ih _ _ q10)
    · obtain ⟨q1, q2, q3, q4, q5, q6, q7, q8, q9, q10⟩ := h
      exact Bq_app (Bq_blk (Or.inr q1) (Or.inr q5) q6 q2 q3 (Bq_pl _ (by omega) (fun k k1 k2 => q8 k (by omega) k2)) (hI _ _ q9)) (ih _ _ q10)
theorem Bl_bq : ∀ n a b, Bl nd kd nm mt n a b → Bq kd a b := by
  intro n
  induction n with
  | zero => intro a b h; exact Bq_pl b h.1 h.2
  | succ n ih => intro a b h; exact Bs_bq ih _ a b h
theorem Bq_same {x m m' : Nat} (h1 : Bq kd x m) (h2 : Bq kd x m') (hx : x ≤ m) (hx' : x ≤ m') (c1 : clo (kd m)) (c2 : clo (kd m')) : m = m' := by
  rcases Nat.lt_trichotomy m m' with q | q | q
  · have := (h2.2 m hx q).2 c1
    have := h1.1
    omega
  · exact q
  · have := (h1.2 m' hx' q).2 c2
    have := h2.1
    omega
theorem Bs_uniq {n : Nat} {In Jn : Nat → Nat → Prop} (hI : ∀ x y, In x y → Bq kd x y) (hJ : ∀ x y, Jn x y → Bq kd x y) (hIJ : ∀ x y, In x y → Jn x y → ∀ k, x ≤ k → k < y → 8 ≤ kd k → mt k = mt' k) : ∀ l a b, Bs nd kd nm mt n In l a b → Bs nd kd nm mt' n Jn l a b → ∀ k, a ≤ k → k < b → 8 ≤ kd k → mt k = mt' k := by
  intro l
  induction l with
  | zero => intro a b h _ k k1 k2; have : a = b := h; omega
  | succ l ih =>
    intro a b h g k k1 k2 k8
    -- a block on both sides
    have blk : ∀ m e m' e', a < m → m < e → e < b → a < m' → m' < e' → mt a = m → mt m = e → mt e = a → mt' a = m' → mt' m' = e' → mt' e' = a → clo (kd m) → clo (kd m') → kd e = 12 → kd e' = 12 → Bq kd (a + 1) m → Bq kd (a + 1) m' → Bq kd (m + 1) e → Bq kd (m' + 1) e' → (m = m' → ∀ k, a + 1 ≤ k → k < m → 8 ≤ kd k → mt k = mt' k) → (m = m' → e = e' → ∀ k, m + 1 ≤ k → k < e → 8 ≤ kd k → mt k = mt' k) → (e = e' → ∀ k, e + 1 ≤ k → k < b → 8 ≤ kd k → mt k = mt' k) → mt k = mt' k := by
      intro m e m' e' a1 a2 a3 a4 a5 t1 t2 t3 t4 t5 t6 c1 c2 c3 c4 b1 b2 b3 b4 r1 r2 r3
      have e1 : m = m' := Bq_same b1 b2 (by omega) (by omega) c1 c2
      subst e1
      have e2 : e = e' := Bq_same b3 b4 (by omega) (by omega) (Or.inr (Or.inr c3)) (Or.inr (Or.inr c4))
      subst e2
      by_cases z1 : k = a
      · rw [z1, t1, t4]
      · by_cases z2 : k < m
        · exact r1 rfl k (by omega) z2 k8
        · by_cases z3 : k = m
          · rw [z3, t2, t5]
          · by_cases z4 : k < e
            · exact r2 rfl rfl k (by omega) z4 k8
            · by_cases z5 : k = e
              · rw [z5, t3, t6]
              · exact r3 rfl k (by omega) k2 k8
    rcases h with h | ⟨hab, ⟨h, h'⟩ | h | h⟩
    · omega
    · rcases g with g | ⟨-, ⟨g, g'⟩ | g | g⟩
      · omega
      · by_cases q : k = a
        · subst q; omega
        · exact ih _ _ h' g' k (by omega) k2 k8
      · have := g.1; omega
      · have := g.1; omega
    · rcases g with g | ⟨-, ⟨g, g'⟩ | g | g⟩
      · omega
      · have := h.1; omega
      · obtain ⟨q1, q2, q3, q4, q5, q6, q7, q8, q9, q10⟩ := h
        obtain ⟨p1, p2, p3, p4, p5, p6, p7, p8, p9, p10⟩ := g
        refine blk (mt a) (mt (mt a)) (mt' a) (mt' (mt' a)) q2 q3 q4 p2 p3 rfl rfl q7 rfl rfl p7 (Or.inl q5) (Or.inl p5) q6 p6 (hI _ _ q8) (hJ _ _ p8) (hI _ _ q9) (hJ _ _ p9) (fun z => ?_) (fun z z' => ?_) (fun z => ?_)
        · rw [← z] at p8; exact hIJ _ _ q8 p8
        · rw [← z', ← z] at p9; exact hIJ _ _ q9 p9
        · rw [← z] at p10; exact ih _ _ q10 p10
      · have := h.1; have := g.1; omega
    · rcases g with g | ⟨-, ⟨g, g'⟩ | g | g⟩
      · omega
      · have := h.1; omega
      · have := h.1; have := g.1; omega
      · obtain ⟨q1, q2, q3, q4, q5, q6, q7, q8, q9, q10⟩ := h
        obtain ⟨p1, p2, p3, p4, p5, p6, p7, p8, p9, p10⟩ := g
        refine blk (mt a) (mt (mt a)) (mt' a) (mt' (mt' a)) q2 q3 q4 p2 p3 rfl rfl q7 rfl rfl p7 (Or.inr (Or.inl q5)) (Or.inr (Or.inl p5)) q6 p6 (Bq_pl _ (by omega) (fun k k1 k2 => q8 k (by omega) k2)) (Bq_pl _ (by omega) (fun k k1 k2 => p8 k (by omega) k2)) (hI _ _ q9) (hJ _ _ p9) (fun z k k1 k2 k8 => ?_) (fun z z' => ?_) (fun z => ?_)
        · have := q8 k (by omega) k2; omega
        · rw [← z', ← z] at p9; exact hIJ _ _ q9 p9
        · rw [← z] at p10; exact ih _ _ q10 p10
theorem Bl_uniq : ∀ n a b, Bl nd kd nm mt n a b → Bl nd kd nm mt' n a b → ∀ k, a ≤ k → k < b → 8 ≤ kd k → mt k = mt' k := by
  intro n
  induction n with
  | zero => intro a b h _ k k1 k2 k8; have := h.2 k k1 k2; omega
  | succ n ih => intro a b h g; exact Bs_uniq (Bl_bq n) (Bl_bq n) ih _ a b h g
end
