/-! rows of 61 places: copies, fills -/
def on1 (c : Nat) (A B : zA) : Prop := B.1 = A.1 ∧ B.2.2.2 = A.2.2.2 ∧ (∀ a j, a ≠ c → zmi B a j = zmi A a j) ∧ (∀ a j, a ≠ c → zml B a j = zml A a j)
section
variable {c : Nat} {A B C : zA}
theorem on1.refl (c : Nat) (A : zA) : on1 c A A := ⟨rfl, rfl, fun _ _ _ => rfl, fun _ _ _ => rfl⟩
theorem on1.trans (h : on1 c A B) (g : on1 c B C) : on1 c A C := ⟨g.1.trans h.1, g.2.1.trans h.2.1, fun a j ha => (g.2.2.1 a j ha).trans (h.2.2.1 a j ha), fun a j ha => (g.2.2.2 a j ha).trans (h.2.2.2 a j ha)⟩
theorem on1_rs {e z : Int} : on1 c A (rs A c e z) := ⟨rfl, rfl, fun a j ha => by
  unfold rs zsi zmi zup
  simp only
  rw [if_neg (fun q => ha q.1)], fun _ _ _ => rfl⟩
theorem on1.i (h : on1 c A B) {a j : Nat} (ha : a ≠ c) : zi B a j = zi A a j := by unfold zi; rw [h.2.2.1 a j ha]
theorem on1.e (h : on1 c A B) {a : Nat} {e : Int} (ha : a ≠ c) : ri B a e = ri A a e := h.i ha
theorem on1.r (h : on1 c A B) (a j : Nat) : zmr B a j = zmr A a j := by unfold zmr; rw [h.2.1]
theorem on1.own (h : on1 c A B) (hO : Own A) : Own B := by
  obtain ⟨B1, B2, B3, B4⟩ := B
  obtain ⟨h1, h2, h3⟩ := h
  simp only at h1 h2
  subst h1 h2
  exact hO
theorem on1.cF (h : on1 c A B) (hO : Own A) (hc : fx c = true) (h0 : c ≠ 0) : cF [c] A B := by
  have yc1 : ∀ o f, yc B o f = yc A o f := fun o f => by unfold yc; rw [h.r]
  have yl1 : ∀ o f, yl B o f = yl A o f := fun o f => by unfold yl; rw [yc1, h.1]
  have rm : Rm A B := by
    have e0 : big B = big A := by unfold big; rw [h.1]
    have e1 : tot B = tot A := by unfold tot; rw [e0]
    have e2 : sy B = sy A := by unfold sy; simp only [yl1]
    have e3 : ty B = ty A := by unfold ty t1; simp only [h.r]
    unfold Rm
    rw [e1, e2, e3, e0]
    exact ⟨Int.le_refl _, Int.le_refl _⟩
  refine ⟨h.own hO, ⟨rm, fun _ => by unfold smc; rw [h.1], fun s z => by rw [h.1]; exact z⟩, fun a j ha hs => ?_, fun o f hd hs => ⟨yl1 o f, fun e => ?_⟩⟩
  · have : a ≠ c := fun q => by rw [q, cont1] at hs; cases hs
    exact ⟨h.2.2.1 a j this, h.2.2.2 a j this, h.r a j⟩
  · unfold yv
    rw [yc1]
    exact h.e (hO.ne3 hd hc h0)
def fp (A : zA) (a b n : Nat) : zA := zcp A a 0 b 0 n
theorem on1_fp {a b n : Nat} : on1 b A (fp A a b n) := ⟨rfl, rfl, fun x j hx => by
  unfold fp zcp zmi
  simp only
  rw [if_neg (fun q => hx q.1)], fun x j hx => by
  unfold fp zcp zml
  simp only
  rw [if_neg (fun q => hx q.1)]⟩
theorem ri_fp {a b n : Nat} {i : Int} (h0 : 0 ≤ i) : ri (fp A a b n) b i = if i < n then ri A a i else ri A b i := by
  unfold ri zi fp zcp zmi
  simp only
  by_cases q : i < n
  · rw [if_pos q, if_pos ⟨trivial, by omega, by omega⟩, Nat.sub_zero, Nat.zero_add]
  · rw [if_neg q, if_neg (by omega)]
theorem zcy_f {R : Type} {K : zA → Option R} {a b m m' : Nat} {n : Int} (hO : Own A) (ha : zsh a = some (true, 0, m)) (hb : zsh b = some (true, 0, m')) (hab : a ≠ b) (h4 : 4 ≤ a) (h4' : 4 ≤ b) (h0 : 0 ≤ n) (h1 : n ≤ m) (h2 : n ≤ m') : zcy A a 0 b 0 n K = K (fp A a b n.toNat) := by
  unfold zcy
  rw [hO.1 _ _ ha, hO.1 _ _ hb]
  simp only
  rw [if_pos ⟨trivial, by simp, h4, h4', hab, by decide, by decide, h0, by omega, by omega⟩]
  rfl
/-- a fill -/
theorem fill_run {N : Nat} {x m : Nat} {v : Int} (hs : zsh x = some (true, 0, m)) (h4 : 4 ≤ x) (hm : m < 1000000) : ∀ (r n f : Nat) (A : zA), n + r = m → r < f → Own A → ∃ B, z_Ar_fill_5_l N f x v n m A = some B ∧ on1 x A B ∧ (∀ i : Nat, i < m → ri B x i = if i < n then ri A x i else zw v) := by
  intro r
  induction r with
  | zero =>
    intro n f A h1 h2 hO
    obtain ⟨g, rfl⟩ : ∃ g, f = g + 1 := ⟨f - 1, by omega⟩
    refine ⟨A, ?_, on1.refl _ _, fun i hi => by rw [if_pos (by omega)]⟩
    show z_Ar_fill_5_b (z_Ar_fill_5_l N g) N x v n m A = _
    unfold z_Ar_fill_5_b
    rw [if_neg (by omega)]
  | succ r ih =>
    intro n f A h1 h2 hO
    obtain ⟨g, rfl⟩ : ∃ g, f = g + 1 := ⟨f - 1, by omega⟩
    have w1 : zw ((n : Int) + 1) = ((n + 1 : Nat) : Int) := by rw [yb_w (by omega) (by omega)]; omega
    obtain ⟨B, b1, b2, b3⟩ := ih (n + 1) g (rs A x n v) (by omega) (by omega) hO
    refine ⟨B, ?_, on1_rs.trans b2, fun i hi => ?_⟩
    · show z_Ar_fill_5_b (z_Ar_fill_5_l N g) N x v n m A = _
      unfold z_Ar_fill_5_b
      rw [if_pos (by omega), zwD_f hO hs h4 (by omega) (by omega), w1]
      exact b1
    · rw [b3 i hi, ri_rs (by omega) (by omega)]
      repeat' split
      all_goals first | rfl | omega
theorem Ar_fill {N : Nat} {x m : Nat} {v : Int} (hN : 300000 ≤ N) (hs : zsh x = some (true, 0, m)) (h4 : 4 ≤ x) (hm : m < 100000) (hO : Own A) : ∃ B, z_Ar_fill N x v A = some B ∧ on1 x A B ∧ (∀ i : Nat, i < m → ri B x i = zw v) := by
  unfold z_Ar_fill z_Ar_fill_5 zln
  rw [hO.1 _ _ hs]
  simp only
  rw [if_pos (by omega)]
  obtain ⟨B, b1, b2, b3⟩ := fill_run (N := N) (v := v) hs h4 (by omega) m 0 N A (by omega) (by omega) hO
  exact ⟨B, b1, b2, fun i hi => by rw [b3 i hi, if_neg (by omega)]⟩
theorem zfe_k {R : Type} {r : Nat} {K : Nat → Option R} (hr : r < 72) : zfe 120 r K = K (121 + r) := by
  have e1 : zsh 120 = some (true, 7, 72) := by decide
  have e2 : zfr 120 r = bif Nat.blt r 72 then some (121 + r) else none := rfl
  have e3 : Nat.blt r 72 = true := Nat.blt_eq.mpr hr
  unfold zfe
  rw [e1]
  simp only
  rw [if_pos ⟨by decide, by decide, by omega, by omega⟩]
  unfold zgf
  rw [Int.toNat_natCast, e2, e3]
  rfl
end
section
variable {N : Nat} {A : zA} {x y : Nat}
theorem Wk_copyAll (hO : Own A) (hx : zsh x = some (true, 0, 61)) (hy : zsh y = some (true, 0, 61)) (hn : x ≠ y) (h4 : 4 ≤ x) (h4' : 4 ≤ y) : z_Wk_copyAll N x y A = some (fp A x y 61) := by
  unfold z_Wk_copyAll
  rw [zcy_f hO hx hy hn h4 h4' (by decide) (by decide) (by decide)]
  rfl
theorem Wk_copyShared (hO : Own A) (hx : zsh x = some (true, 0, 61)) (hy : zsh y = some (true, 0, 61)) (hn : x ≠ y) (h4 : 4 ≤ x) (h4' : 4 ≤ y) : ∃ B, z_Wk_copyShared N x y A = some B ∧ on1 y A B ∧ ∀ i : Nat, i < 61 → ri B y i = if i < 6 ∨ i = 60 then ri A x i else ri A y i := by
  unfold z_Wk_copyShared
  rw [zcy_f hO hx hy hn h4 h4' (by decide) (by decide) (by decide)]
  have hO1 : Own (fp A x y (6 : Int).toNat) := on1_fp.own hO
  rw [zrD_f hO1 hx (by decide) (by decide), zwD_f hO1 hy h4' (by decide) (by decide)]
  refine ⟨_, rfl, on1_fp.trans on1_rs, fun i hi => ?_⟩
  rw [ri_rs (by decide) (by omega), on1_fp.e hn, ri_fp (by omega)]
  have := ri_rg A x 60
  by_cases q : i = 60
  · rw [if_pos (by omega), if_pos (by omega), yb_w this.1 this.2, q]; rfl
  · rw [if_neg (by omega)]
    by_cases q2 : i < 6
    · rw [if_pos (by show (i : Int) < 6; omega), if_pos (by omega)]
    · rw [if_neg (by show ¬ (i : Int) < 6; omega), if_neg (by omega)]
end
