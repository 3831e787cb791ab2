/-! the class's walker: plain items -/
theorem cden_kd {D : Nat → T} {n : Nd} {i : Nat} (h : wn n i) : tkd (cden D n) = n.1 := by
  obtain ⟨k, a, b, c⟩ := n
  unfold wn at h
  unfold cden
  simp only at h ⊢
  rcases h with h | h | h | h | h | h | h | h <;> obtain ⟨rfl, h⟩ := h <;> rfl
theorem cden_vl {D : Nat → T} {n : Nd} (h : n.1 = 0) : tvl (cden D n) = n.2.1 := by
  unfold cden
  rw [if_pos h]
  rfl
def nbk (k : Int) : Nat := if k = 2 then 4 else if k ≤ 4 ∨ k = 7 then 2 else if k = 5 ∨ k = 6 ∨ k = 8 ∨ k = 11 then 1 else 0
theorem nbk_le (k : Int) : nbk k ≤ 4 := by
  unfold nbk
  repeat' split
  all_goals omega
def isr (k : Int) (i : Nat) : Prop := ¬ (k = 0 ∧ i = 1) ∧ ¬ (k = 2 ∧ i = 3) ∧ ¬ (k = 7 ∧ i = 1)
/-- part p of a program lies in the class's rows R -/
def PrC (A : zA) (R : Nat) (ex : Nat → Prop) (P : Pg) : Prop := ∀ p, ex p → pto.contains (R + 2 + 3 * p) = true ∧ PI A (R + 2 + 3 * p) ∧ cn A (R + 2 + 3 * p) = P.2.2.2.1 p ∧ cr A (R + 2 + 3 * p) = P.2.2.2.2 p ∧ ∀ k : Nat, k < P.2.2.2.1 p → cw A (R + 2 + 3 * p) k 0 = P.1 p k ∧ (∀ i : Nat, i < nbk (P.1 p k) → cw A (R + 2 + 3 * p) k ((i : Int) + 1) = P.2.1 p k i) ∧ (8 ≤ P.1 p k → yv A (R + 2 + 3 * p) 1 k = P.2.2.1 p k)
/-- its numbers are such as they must be -/
def WfP (P : Pg) (ex : Nat → Prop) : Prop := ∀ p, ex p → 7 ≤ P.2.2.2.2 p ∧ P.2.2.2.2 p ≤ 60 ∧ P.2.2.2.1 p ≤ 150 ∧ ∀ k : Nat, k < P.2.2.2.1 p → 0 ≤ P.1 p k ∧ P.1 p k ≤ 12 ∧ (∀ i : Nat, i < nbk (P.1 p k) → -2147483648 ≤ P.2.1 p k i ∧ P.2.1 p k i < 2147483648 ∧ (isr (P.1 p k) i → 0 ≤ P.2.1 p k i ∧ P.2.1 p k i < P.2.2.2.2 p)) ∧ (P.1 p k = 2 → 0 ≤ P.2.1 p k 3 ∧ P.2.1 p k 3 ≤ 5) ∧ (P.1 p k = 7 → 0 ≤ P.2.1 p k 1 ∧ P.2.1 p k 1 < 3 ∧ ex (P.2.1 p k 1).toNat)
theorem PrC.fr {A B : zA} {R : Nat} {ex : Nat → Prop} {P : Pg} {S : List Nat} (h : PrC A R ex P) (hf : cF S A B) (hs : ∀ p, ex p → S.contains (R + 2 + 3 * p) = false) : PrC B R ex P := fun p hp => by
  obtain ⟨h1, h2, h3, h4, h5⟩ := h p hp
  have hs := hs p hp
  have fx := pto_fx h1
  refine ⟨h1, h2.fr h1 hf hs, by unfold cn; rw [hf.i fx hs]; exact h3, by unfold cr; rw [hf.i fx hs]; exact h4, fun k hk => ?_⟩
  have v : ∀ e f, f < 2 → yv B (R + 2 + 3 * p) f e = yv A (R + 2 + 3 * p) f e := fun e f hf2 => hf.v (dy_of (pto_dy h1) hf2) hs
  unfold cw
  simp only [v _ 0 (by decide), v _ 1 (by decide)]
  exact h5 k hk
section
variable {N : Nat} {A : zA} {R : Nat} {ex : Nat → Prop} {P : Pg} {p k : Nat}
theorem pc_kind (hO : Own A) (h : PrC A R ex P) (hp : ex p) (hk : k < P.2.2.2.1 p) : z_Pt_kind N (R + 2 + 3 * p) k A = some (P.1 p k) := by
  obtain ⟨h1, h2, h3, h4, h5⟩ := h p hp
  rw [Pt_kind1 hO h1 h2 (by omega) (by rw [h3]; omega), ← (h5 k hk).1]
  unfold cw
  rw [Int.add_zero]
theorem pc_num {i : Nat} (hO : Own A) (h : PrC A R ex P) (hp : ex p) (hk : k < P.2.2.2.1 p) (hi : i < nbk (P.1 p k)) : z_Pt_number N (R + 2 + 3 * p) k i A = some (P.2.1 p k i) := by
  obtain ⟨h1, h2, h3, h4, h5⟩ := h p hp
  have hi4 : i < 4 := by have := nbk_le (P.1 p k); omega
  rw [Pt_number hO h1 h2, if_pos (by rw [h3]; omega), ← (h5 k hk).2.1 i hi]
  unfold cw
  rw [show (5 : Int) * k + 1 + i = 5 * k + (i + 1) by omega]
theorem pc_reg {i : Nat} (hO : Own A) (h : PrC A R ex P) (hw : WfP P ex) (hp : ex p) (hk : k < P.2.2.2.1 p) (hi : i < nbk (P.1 p k)) (hr : isr (P.1 p k) i) : z_Pt_register N (R + 2 + 3 * p) k i A = some (P.2.1 p k i) := by
  obtain ⟨h1, h2, h3, h4, h5⟩ := h p hp
  obtain ⟨w1, w2, w3, w4⟩ := hw p hp
  have hi4 : i < 4 := by have := nbk_le (P.1 p k); omega
  have hv := ((w4 k hk).2.2.1 i hi).2.2 hr
  have e : yv A (R + 2 + 3 * p) 0 (5 * k + 1 + i) = P.2.1 p k i := by
    rw [← (h5 k hk).2.1 i hi]
    unfold cw
    rw [show (5 : Int) * k + 1 + i = 5 * k + (i + 1) by omega]
  rw [Pt_register hO h1 h2, e, if_pos (by rw [h3]; omega)]
theorem pc_any {i : Int} (hO : Own A) (h : PrC A R ex P) (hp : ex p) : ∃ v, z_Pt_register N (R + 2 + 3 * p) k i A = some v ∧ 0 ≤ v ∧ v < 60 := by
  obtain ⟨h1, h2, h3, h4, h5⟩ := h p hp
  rw [Pt_register hO h1 h2]
  refine ⟨_, rfl, ?_⟩
  split <;> omega
theorem pc_mate (hO : Own A) (h : PrC A R ex P) (hp : ex p) (hk : k < P.2.2.2.1 p) (h8 : 8 ≤ P.1 p k) : z_Pt_mate N (R + 2 + 3 * p) k A = some (P.2.2.1 p k : Int) := by
  obtain ⟨h1, h2, h3, h4, h5⟩ := h p hp
  rw [Pt_mate hO h1 h2, if_pos (by rw [h3]; omega), (h5 k hk).2.2 h8]
theorem workOf_e {o s t : Int} (ho : 0 ≤ o ∧ o ≤ 5) (ht : zw t = t) : z_PC_workOf N o s t A = some (wkO o s t) := by
  unfold z_PC_workOf wkO
  rw [ht]
  repeat' split
  all_goals first | rfl | omega
end
section
variable {N : Nat} {A : zA} {sil : Bool} {lv c ta R t : Nat} {D : Nat → T} {s : St}
theorem w_isn {j : Nat} (h : CW A sil c ta R t D s) (hj : j < t) : z_Th_isNumber N 111 j A = some (if tkd (D j) = 0 then 1 else 0) := by
  obtain ⟨hO, hT, hG, -⟩ := h.1
  rw [Th_isNumber hO (by decide) hT hj, (hG.1 j hj).2, cden_kd (hG.1 j hj).1]
theorem w_val {j : Nat} (h : CW A sil c ta R t D s) (hj : j < t) (hk : tkd (D j) = 0) : z_Th_value N 111 j A = some (tvl (D j)) := by
  obtain ⟨hO, hT, hG, -⟩ := h.1
  have h1 := hG.1 j hj
  have : (tk A 111 j).1 = 0 := by rw [← hk, h1.2, cden_kd h1.1]
  rw [Th_value hO (by decide) hT hj, h1.2, cden_vl this]
theorem w_vrg {j : Nat} (h : CW A sil c ta R t D s) (hj : j < t) (hk : tkd (D j) = 0) : -2147483648 ≤ tvl (D j) ∧ tvl (D j) < 2147483648 := by
  obtain ⟨hO, hT, hG, -⟩ := h.1
  have h1 := hG.1 j hj
  have : (tk A 111 j).1 = 0 := by rw [← hk, h1.2, cden_kd h1.1]
  rw [h1.2, cden_vl this]
  exact ri_rg _ _ _
theorem wkO_rg (o s t : Int) : -2147483648 ≤ wkO o s t ∧ wkO o s t < 2147483648 := by
  unfold wkO
  have h1 := yb_wrg (s + t)
  have h2 := yb_wrg (s - t)
  have h3 := yb_wrg (s * t)
  have h4 := Int32.le_toInt (Int32.ofInt s / Int32.ofInt t)
  have h5 := Int32.toInt_lt (Int32.ofInt s / Int32.ofInt t)
  have h6 : zdv s t = (Int32.ofInt s / Int32.ofInt t).toInt := rfl
  repeat' split
  all_goals omega
theorem zw_id {z : Int} (h : -2147483648 ≤ z ∧ z < 2147483648) : zw z = z := yb_w h.1 h.2
theorem zw0 : zw 0 = 0 := by decide
theorem w_work61 {o : Int} {x y : Nat} {b : Int} (hN : 300000 ≤ N) (h : CW A sil c ta R t D s) (hc : okc lv c) (hl : lv ≤ 24) (hta : okt ta) (ht : t < 38000) (hx : x < t) (hy : y < t) (ho : 0 ≤ o ∧ o ≤ 5) (hb : b = if o = 3 ∧ tkd (D y) = 0 ∧ tvl (D y) = 0 then 1 else 0) : ∃ (j t' : Nat) (B : zA) (D' : Nat → T), z_Wk_worked_61 N o x y b A = some ((j : Int), B) ∧ CW B sil c ta R t' D' s ∧ j < t' ∧ D' j = wkT o (D x) (D y) ∧ t' ≤ t + 1 ∧ WX 24 c ta t t' D D' A B := by
  unfold z_Wk_worked_61 z_Wk_worked_119
  have mk : ∃ (j t' : Nat) (B : zA) (D' : Nat → T), (zbI (z_Th_make N 111 1 o x y A) fun v1 A2 => some (v1, A2)) = some ((j : Int), B) ∧ CW B sil c ta R t' D' s ∧ j < t' ∧ D' j = tWrk o (D x) (D y) ∧ t' ≤ t + 1 ∧ WX 24 c ta t t' D D' A B := by
    obtain ⟨j, t', B, D', b1, b2, b3, b4, b5, b6, b7⟩ := w_make (k := 1) (x := o) (y := x) (z := y) hN h hc hl hta (by omega) (Or.inr (Or.inl ⟨rfl, by dsimp only; omega, by dsimp only; omega, by dsimp only; omega, by dsimp only; omega⟩)) (by decide) (yb_w (by omega) (by omega)) (yb_w (by omega) (by omega)) (yb_w (by omega) (by omega))
    refine ⟨j, t', B, D', by rw [b1, zbI_s], b2, b3, ?_, b5, b6⟩
    rw [b4]
    rfl
  rw [w_isn h hx, zbP_s, w_isn h hy, zbP_s]
  unfold wkT
  by_cases c1 : tkd (D x) = 0
  · rw [if_pos c1, if_neg (by decide)]
    by_cases c2 : tkd (D y) = 0
    · rw [if_pos c2, if_neg (by decide)]
      by_cases c3 : o = 3 ∧ tvl (D y) = 0
      · rw [if_pos ⟨c3.1, c2, c3.2⟩] at hb
        rw [hb, if_neg (by decide), if_neg (fun q => q.2.2 c3)]
        exact mk
      · rw [if_neg (fun q => c3 ⟨q.1, q.2.2⟩)] at hb
        rw [hb, if_pos rfl, w_val h hx c1, zbP_s, w_val h hy c2, zbP_s, workOf_e ho (zw_id (w_vrg h hy c2)), zbP_s, if_pos ⟨c1, c2, c3⟩]
        obtain ⟨j, t', B, D', b1, b2, b3, b4, b5, b6, b7⟩ := w_make (k := 0) (x := wkO o (tvl (D x)) (tvl (D y))) (y := 0) (z := 0) hN h hc hl hta (by omega) (Or.inl ⟨rfl, rfl, rfl⟩) zw0 (zw_id (wkO_rg _ _ _)) zw0 zw0
        refine ⟨j, t', B, D', by rw [b1, zbI_s], b2, b3, ?_, b5, b6⟩
        rw [b4]
        rfl
    · rw [if_neg c2, if_pos rfl, if_neg (fun q => c2 q.2.1)]
      exact mk
  · rw [if_neg c1, if_pos rfl, if_neg (fun q => c1 q.1)]
    exact mk
theorem w_worked {o : Int} {x y : Nat} (hN : 300000 ≤ N) (h : CW A sil c ta R t D s) (hc : okc lv c) (hl : lv ≤ 24) (hta : okt ta) (ht : t < 38000) (hlen : sil = false → s.2.1.length < 150 ∧ s.2.2.1.length < 150) (hx : x < t) (hy : y < t) (ho : 0 ≤ o ∧ o ≤ 5) : ∃ (j t' : Nat) (B : zA) (D' : Nat → T), z_Wk_worked N o x y A = some ((j : Int), B) ∧ CW B sil c ta R t' D' (sDiv sil o (D y) s) ∧ j < t' ∧ D' j = wkT o (D x) (D y) ∧ t' ≤ t + 1 ∧ WX 24 c ta t t' D D' A B := by
  unfold z_Wk_worked z_Wk_worked_32 z_Wk_worked_55 sDiv
  have dm : ∀ b : Int, b = (if o = 3 ∧ tkd (D y) = 0 ∧ tvl (D y) = 0 then 1 else 0) → ∃ (j t' : Nat) (B : zA) (D' : Nat → T), (zbV (z_Wk_demand N 0 y A) fun A1 => z_Wk_worked_61 N o x y b A1) = some ((j : Int), B) ∧ CW B sil c ta R t' D' (sDem sil 0 (D y) s) ∧ j < t' ∧ D' j = wkT o (D x) (D y) ∧ t' ≤ t + 1 ∧ WX 24 c ta t t' D D' A B := fun b hb => by
    obtain ⟨B, b1, b2, b3⟩ := w_dem (N := N) (w := 0) (j := y) hN h hc hl hta (by omega) hlen hy (Or.inl rfl)
    obtain ⟨j, t', C, D', c1, c2, c3, c4, c5, c6⟩ := w_work61 hN b2 hc hl hta ht hx hy ho hb
    exact ⟨j, t', C, D', by rw [b1, zbV_s, c1], c2, c3, c4, c5, b3.trans c6⟩
  by_cases c3 : o = 3
  · rw [if_pos c3, w_isn h hy, zbP_s]
    by_cases k2 : tkd (D y) = 0
    · rw [if_pos k2, if_neg (by decide), w_val h hy k2, zbP_s]
      by_cases v2 : tvl (D y) = 0
      · rw [if_pos v2, if_pos c3, if_neg (by decide), if_pos ⟨c3, fun q => q.2 v2⟩]
        exact dm 1 (by rw [if_pos ⟨c3, k2, v2⟩])
      · rw [if_neg v2, if_pos c3, if_pos rfl, zbP_s, if_neg (by decide), if_neg (fun q => q.2 ⟨k2, v2⟩)]
        exact w_work61 hN h hc hl hta ht hx hy ho (by rw [if_neg (fun q => v2 q.2.2)])
    · rw [if_neg k2, if_pos rfl, if_pos c3, if_pos rfl, zbP_s, if_pos rfl, if_pos ⟨c3, fun q => k2 q.1⟩]
      exact dm 0 (by rw [if_neg (fun q => k2 q.2.1)])
  · rw [if_neg c3, if_neg c3, if_neg (fun q => c3 q.1)]
    exact w_work61 hN h hc hl hta ht hx hy ho (by rw [if_neg (fun q => c3 q.1)])
theorem w_cell {x : Nat} (hN : 300000 ≤ N) (h : CW A sil c ta R t D s) (hc : okc lv c) (hl : lv ≤ 24) (hta : okt ta) (ht : t < 38000) (hlen : sil = false → s.2.1.length < 150 ∧ s.2.2.1.length < 150) (hx : x < t) : ∃ B, z_Wk_demandCell N x A = some B ∧ CW B sil c ta R t D (sCel sil (D x) s) ∧ WX 24 c ta t t D D A B := by
  unfold z_Wk_demandCell z_Wk_demandCell_35 sCel
  have dm : ∃ B, (zbV (z_Wk_demand N 1 x A) fun A1 => some A1) = some B ∧ CW B sil c ta R t D (sDem sil 1 (D x) s) ∧ WX 24 c ta t t D D A B := by
    obtain ⟨B, b1, b2, b3⟩ := w_dem (N := N) (w := 1) (j := x) hN h hc hl hta (by omega) hlen hx (Or.inr rfl)
    exact ⟨B, by rw [b1, zbV_s], b2, b3⟩
  rw [w_isn h hx, zbP_s]
  by_cases c1 : tkd (D x) = 0
  · rw [if_pos c1, if_neg (by decide), w_val h hx c1, zbP_s, zbP_s]
    by_cases c2 : tvl (D x) < 0
    · rw [if_pos c2, if_neg (fun q => by omega)]
      exact dm
    · rw [if_neg c2]
      by_cases c3 : tvl (D x) < 8
      · rw [if_pos c3, if_pos ⟨c1, by omega, c3⟩]
        exact ⟨A, rfl, h, WX.refl h.1.1⟩
      · rw [if_neg c3, if_neg (fun q => c3 q.2.2)]
        exact dm
  · rw [if_neg c1, if_pos rfl, if_neg (fun q => c1 q.1)]
    exact dm
end
