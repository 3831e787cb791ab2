/-! the reference's plain items -/
/-- part p of a program lies in the reference's rows z -/
def PrR (A : zA) (z : Nat) (ex : Nat → Prop) (P : Pg) : Prop := ∀ p, ex p → rn A (4 * z + p) = P.2.2.2.1 p ∧ ∀ k : Nat, k < P.2.2.2.1 p → ri A 228 (rad (4 * z + p) k 0) = P.1 p k ∧ (∀ i : Nat, i < nbk (P.1 p k) → ri A 228 (rad (4 * z + p) k ((i : Int) + 1)) = P.2.1 p k i) ∧ (8 ≤ P.1 p k → ri A 231 (240 * p + k) = P.2.2.1 p k)
theorem PrR.fr {A B : zA} {z : Nat} {ex : Nat → Prop} {P : Pg} {Q : Nat → Nat → Prop} (h : PrR A z ex P) (f : fr Q A B) (hq : ∀ a j, Q a j → a ≠ 228 ∧ a ≠ 229 ∧ a ≠ 231) : PrR B z ex P := fun p hp => by
  have e : ∀ a e, (a = 228 ∨ a = 229 ∨ a = 231) → ri B a e = ri A a e := fun a e ha => f.e (fun z => by have := hq _ _ z; omega)
  obtain ⟨h1, h2⟩ := h p hp
  refine ⟨by unfold rn; rw [e _ _ (by omega)]; exact h1, fun k hk => ?_⟩
  obtain ⟨g1, g2, g3⟩ := h2 k hk
  exact ⟨by rw [e _ _ (by omega)]; exact g1, fun i hi => by rw [e _ _ (by omega)]; exact g2 i hi, fun q => by rw [e _ _ (by omega)]; exact g3 q⟩
/-- what plain items may change -/
def qX (w dp yw : Nat) (a j : Nat) : Prop := qT a j ∨ qP dp a j ∨ qD w yw a j ∨ (a = 226 ∧ (j = 64 ∨ j = 65))
theorem zwi0 : zw 0 = 0 := by decide
section
variable {N : Nat} {A : zA} {w sc dp lv t : Nat} {D : Nat → T} {s : St}
theorem worked_e {o x y : Int} (ho : 0 ≤ o ∧ o ≤ 5) (h3 : ¬ (o = 3 ∧ y = 0)) (hy : zw y = y) : z_M_worked N o x y A = some (wkO o x y) := by
  unfold z_M_worked wkO
  by_cases c0 : o = 0
  · rw [if_pos (by omega), if_pos c0, if_pos c0]
  by_cases c1 : o = 1
  · rw [if_pos (by omega), if_neg c0, if_pos c1, if_neg c0, if_pos c1]
  by_cases c2 : o = 2
  · rw [if_pos (by omega), if_neg c0, if_neg c1, if_neg c0, if_neg c1, if_pos c2]
  by_cases c3 : o = 3
  · have y0 : ¬ y = 0 := fun q => h3 ⟨c3, q⟩
    rw [if_neg (by omega), if_pos c3, if_neg c0, if_neg c1, if_neg c2, if_pos c3, if_neg y0, hy, if_neg y0]
  by_cases c4 : o = 4
  · rw [if_neg (by omega), if_neg c3, if_pos c4, if_neg c0, if_neg c1, if_neg c2, if_neg c3, if_pos c4]
    split <;> rfl
  · rw [if_neg (by omega), if_neg c3, if_neg c4, if_neg c0, if_neg c1, if_neg c2, if_neg c3, if_neg c4]
    split <;> rfl
theorem M_isNumber {j : Nat} (h : RTh A t D) (hj : j < t) : z_M_isNumber N j A = some (if tkd (D j) = 0 then 1 else 0) := by
  have ht := h.1.1
  unfold z_M_isNumber
  rw [zrd_ok (by omega) (by omega)]
  by_cases c : ri A 252 j = 0
  · rw [if_pos c, if_pos ((h.kd hj).2.2.mp c)]
  · rw [if_neg c, if_neg (fun z => c ((h.kd hj).2.2.mpr z))]
theorem num_val {j : Nat} (h : RTh A t D) (hj : j < t) (hk : tkd (D j) = 0) : ri A 253 j = tvl (D j) := by
  have := h.kd hj
  exact (this.2.1 (by rw [← this.1]; exact hk)).symm
theorem r_index {j : Nat} (hN : 300000 ≤ N) (h : RW A w sc dp lv t D s) (hw : w < 2) (hj : j < t) (hl : sc = 0 → s.2.1.length < 999) (hy : s.2.2.1.length ≤ 900) : ∃ B, z_M_index N w j A = some B ∧ RW B w sc dp lv t D (sCel (Nat.blt 0 sc) (D j) s) ∧ fr (qD w s.2.2.1.length) A B := by
  have ht := h.1.1.1
  obtain ⟨B, b1, b2, b3⟩ := r_dem (x2 := 4) (wd := 1) hN h hw (Or.inr ⟨rfl, rfl⟩) hj rfl hl hy
  unfold z_M_index z_M_index_28
  rw [M_isNumber h.1 hj, zbP_s, b1, zbV_s]
  by_cases c : tkd (D j) = 0
  · have hv := num_val h.1 hj c
    rw [if_pos c, if_neg (by decide)]
    rw [zrd_ok (by omega) (by omega), hv]
    by_cases c1 : tvl (D j) < 0
    · rw [if_pos c1]
      refine ⟨B, rfl, ?_, b3⟩
      unfold sCel
      rw [if_neg (by omega)]
      exact b2
    · rw [if_neg c1, zrd_ok (by omega) (by omega), hv]
      by_cases c2 : 7 < tvl (D j)
      · rw [if_pos c2]
        refine ⟨B, rfl, ?_, b3⟩
        unfold sCel
        rw [if_neg (by omega)]
        exact b2
      · rw [if_neg c2]
        refine ⟨A, rfl, ?_, fr.refl _ _⟩
        unfold sCel
        rw [if_pos (by omega)]
        exact h
  · rw [if_neg c, if_pos rfl]
    refine ⟨B, rfl, ?_, b3⟩
    unfold sCel
    rw [if_neg (fun z => c z.1)]
    exact b2
theorem r_work53 {o : Int} {x y : Nat} {b : Int} (hN : 300000 ≤ N) (h : RW A w sc dp lv t D s) (ht : t < 16000) (hx : x < t) (hy : y < t) (ho : 0 ≤ o ∧ o ≤ 5) (hb : b = if tkd (D y) = 0 ∧ tvl (D y) = 0 then 1 else 0) : ∃ (j t' : Nat) (B : zA) (D' : Nat → T), z_M_workOf_53 N o x y b A = some ((j : Int), B) ∧ RW B w sc dp lv t' D' s ∧ j < t' ∧ D' j = wkT o (D x) (D y) ∧ t ≤ t' ∧ t' ≤ t + 1 ∧ (∀ i, i < t → D' i = D i) ∧ fr qT A B := by
  have fin : ∃ (j t' : Nat) (B : zA) (D' : Nat → T), z_M_workOf_105 N o x y A = some ((j : Int), B) ∧ RW B w sc dp lv t' D' s ∧ j < t' ∧ D' j = tWrk o (D x) (D y) ∧ t ≤ t' ∧ t' ≤ t + 1 ∧ (∀ i, i < t → D' i = D i) ∧ fr qT A B := by
    obtain ⟨j, t', B, D', b1, b2, b3, b4, b5, b6, b7, b8⟩ := r_make (k := 1) (x := o) (y := x) (z := y) hN h.1 ht (Or.inr (Or.inl ⟨rfl, by dsimp only; omega, by dsimp only; omega, by dsimp only; omega, by dsimp only; omega⟩)) (by decide) (by decide) (yb_w (by omega) (by omega)) (yb_w (by omega) (by omega)) (yb_w (by omega) (by omega))
    refine ⟨j, t', B, D', ?_, h.th b8 b2 b5 b7, b3, ?_, b5, b6, b7, b8⟩
    · unfold z_M_workOf_105
      rw [b1, zbI_s]
    · rw [b4]; rfl
  unfold z_M_workOf_53
  rw [M_isNumber h.1 hx, zbP_s]
  unfold wkT
  by_cases c1 : tkd (D x) = 0
  · rw [if_pos c1, if_neg (by decide), M_isNumber h.1 hy, zbP_s]
    by_cases c2 : tkd (D y) = 0
    · rw [if_pos c2, if_neg (by decide)]
      have vx := num_val h.1 hx c1
      have vy := num_val h.1 hy c2
      have wy : zw (tvl (D y)) = tvl (D y) := by rw [← vy]; exact yb_w (ri_rg _ _ _).1 (ri_rg _ _ _).2
      have num : ¬ (o = 3 ∧ tvl (D y) = 0) → ∃ (j t' : Nat) (B : zA) (D' : Nat → T), z_M_workOf_80 N o x y A = some ((j : Int), B) ∧ RW B w sc dp lv t' D' s ∧ j < t' ∧ D' j = tNum (wkO o (tvl (D x)) (tvl (D y))) ∧ t ≤ t' ∧ t' ≤ t + 1 ∧ (∀ i, i < t → D' i = D i) ∧ fr qT A B := fun q => by
        have rg := wkO_rg o (tvl (D x)) (tvl (D y))
        obtain ⟨j, t', B, D', b1, b2, b3, b4, b5, b6, b7, b8⟩ := r_make (k := 0) (x := wkO o (tvl (D x)) (tvl (D y))) (y := 0) (z := 0) hN h.1 ht (Or.inl ⟨rfl, rfl, rfl⟩) (by decide) (by decide) (yb_w rg.1 rg.2) zwi0 zwi0
        refine ⟨j, t', B, D', ?_, h.th b8 b2 b5 b7, b3, ?_, b5, b6, b7, b8⟩
        · unfold z_M_workOf_80
          rw [zrd_ok (by omega) (by omega), zrd_ok (by omega) (by omega), vx, vy, worked_e ho q wy, zbP_s, b1, zbI_s]
        · rw [b4]; rfl
      by_cases c3 : o = 3
      · rw [if_pos c3]
        by_cases c4 : tvl (D y) = 0
        · rw [if_pos ⟨c2, c4⟩] at hb
          rw [if_neg (show ¬ b = 0 by omega), if_neg (show ¬ (tkd (D x) = 0 ∧ tkd (D y) = 0 ∧ ¬ (o = 3 ∧ tvl (D y) = 0)) from fun z => z.2.2 ⟨c3, c4⟩)]
          exact fin
        · rw [if_neg (fun z => c4 z.2)] at hb
          rw [if_pos hb, if_pos (show tkd (D x) = 0 ∧ tkd (D y) = 0 ∧ ¬ (o = 3 ∧ tvl (D y) = 0) from ⟨c1, c2, fun z => c4 z.2⟩)]
          exact num (fun z => c4 z.2)
      · rw [if_neg c3, if_pos (show tkd (D x) = 0 ∧ tkd (D y) = 0 ∧ ¬ (o = 3 ∧ tvl (D y) = 0) from ⟨c1, c2, fun z => c3 z.1⟩)]
        exact num (fun z => c3 z.1)
    · rw [if_neg c2, if_pos rfl, if_neg (fun z => c2 z.2.1)]
      exact fin
  · rw [if_neg c1, if_pos rfl, if_neg (fun z => c1 z.1)]
    exact fin
theorem r_workOf {o : Int} {x y : Nat} (hN : 300000 ≤ N) (h : RW A w sc dp lv t D s) (hw : w < 2) (ht : t < 16000) (hl : sc = 0 → s.2.1.length < 999) (hyl : s.2.2.1.length ≤ 900) (hx : x < t) (hy : y < t) (ho : 0 ≤ o ∧ o ≤ 5) : ∃ (j t' : Nat) (B : zA) (D' : Nat → T), z_M_workOf N w o x y A = some ((j : Int), B) ∧ RW B w sc dp lv t' D' (sDiv (Nat.blt 0 sc) o (D y) s) ∧ j < t' ∧ D' j = wkT o (D x) (D y) ∧ t ≤ t' ∧ t' ≤ t + 1 ∧ (∀ i, i < t → D' i = D i) ∧ fr (qX w dp s.2.2.1.length) A B := by
  have dem : ∀ b : Int, (b = if tkd (D y) = 0 ∧ tvl (D y) = 0 then 1 else 0) → ∃ (j t' : Nat) (B : zA) (D' : Nat → T), z_M_workOf_45 N w o x y b A = some ((j : Int), B) ∧ RW B w sc dp lv t' D' (sDem (Nat.blt 0 sc) 0 (D y) s) ∧ j < t' ∧ D' j = wkT o (D x) (D y) ∧ t ≤ t' ∧ t' ≤ t + 1 ∧ (∀ i, i < t → D' i = D i) ∧ fr (qX w dp s.2.2.1.length) A B := fun b hb => by
    obtain ⟨A1, a1, a2, a3⟩ := r_dem (x2 := 3) (wd := 0) hN h hw (Or.inl ⟨rfl, rfl⟩) hy rfl hl hyl
    obtain ⟨j, t', B, D', b1, b2, b3, b4, b5, b6, b7, b8⟩ := r_work53 (b := b) hN a2 ht hx hy ho hb
    refine ⟨j, t', B, D', ?_, b2, b3, b4, b5, b6, b7, (a3.mono (fun a j z => Or.inr (Or.inr (Or.inl z)))).trans (b8.mono (fun a j z => Or.inl z))⟩
    unfold z_M_workOf_45
    rw [a1, zbV_s, b1]
  have nod : ∀ b : Int, (b = if tkd (D y) = 0 ∧ tvl (D y) = 0 then 1 else 0) → ∃ (j t' : Nat) (B : zA) (D' : Nat → T), z_M_workOf_53 N o x y b A = some ((j : Int), B) ∧ RW B w sc dp lv t' D' s ∧ j < t' ∧ D' j = wkT o (D x) (D y) ∧ t ≤ t' ∧ t' ≤ t + 1 ∧ (∀ i, i < t → D' i = D i) ∧ fr (qX w dp s.2.2.1.length) A B := fun b hb => by
    obtain ⟨j, t', B, D', b1, b2, b3, b4, b5, b6, b7, b8⟩ := r_work53 (b := b) hN h ht hx hy ho hb
    exact ⟨j, t', B, D', b1, b2, b3, b4, b5, b6, b7, b8.mono (fun a j z => Or.inl z)⟩
  have key : ∀ b : Int, (b = if tkd (D y) = 0 ∧ tvl (D y) = 0 then 1 else 0) → ∃ (j t' : Nat) (B : zA) (D' : Nat → T), z_M_workOf_24 N w o x y b A = some ((j : Int), B) ∧ RW B w sc dp lv t' D' (sDiv (Nat.blt 0 sc) o (D y) s) ∧ j < t' ∧ D' j = wkT o (D x) (D y) ∧ t ≤ t' ∧ t' ≤ t + 1 ∧ (∀ i, i < t → D' i = D i) ∧ fr (qX w dp s.2.2.1.length) A B := fun b hb => by
    unfold z_M_workOf_24 sDiv
    by_cases c3 : o = 3
    · rw [if_pos c3]
      by_cases c0 : b = 0
      · rw [if_pos c0, M_isNumber h.1 hy, zbP_s]
        by_cases c2 : tkd (D y) = 0
        · have c4 : ¬ tvl (D y) = 0 := fun z => by rw [if_pos ⟨c2, z⟩] at hb; omega
          rw [if_pos c2, if_neg (by decide), if_neg (fun z => z.2 ⟨c2, c4⟩)]
          exact nod b hb
        · rw [if_neg c2, if_pos rfl, if_pos ⟨c3, fun z => c2 z.1⟩]
          exact dem b hb
      · rw [if_neg c0]
        have c5 : tkd (D y) = 0 ∧ tvl (D y) = 0 := Classical.byContradiction (fun z => by rw [if_neg z] at hb; exact c0 hb)
        rw [if_pos ⟨c3, fun z => z.2 c5.2⟩]
        exact dem b hb
    · rw [if_neg c3, if_neg (fun z => c3 z.1)]
      exact nod b hb
  unfold z_M_workOf
  rw [M_isNumber h.1 hy, zbP_s]
  by_cases c2 : tkd (D y) = 0
  · rw [if_pos c2, if_neg (by decide), zrd_ok (by omega) (by omega), num_val h.1 hy c2]
    by_cases c4 : tvl (D y) = 0
    · rw [if_pos c4]; exact key 1 (by rw [if_pos ⟨c2, c4⟩])
    · rw [if_neg c4]; exact key 0 (by rw [if_neg (fun z => c4 z.2)])
  · rw [if_neg c2, if_pos rfl]
    exact key 0 (by rw [if_neg (fun z => c2 z.1)])
end
