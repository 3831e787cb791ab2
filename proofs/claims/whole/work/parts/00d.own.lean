/-! the class's arrays that are made anew: each belongs to one field of one object -/
def dyo : List Nat := [9, 12, 15, 18, 23, 26, 29, 32, 37, 40, 43, 46, 103, 111, 197, 200, 203, 206, 209]
def dy (o f : Nat) : Bool := (dyo.contains o && Nat.blt f 2) || ((Nat.beq o 114 || Nat.beq o 117) && (Nat.beq f 3 || Nat.beq f 4))
def fx (a : Nat) : Bool := Nat.blt a 296 && !(dyo.any fun o => Nat.beq a (o + 1) || Nat.beq a (o + 2))
def Own (A : zA) : Prop :=
  (∀ a s, zsh a = some s → A.1[a]? = some s) ∧
  (∀ o f c, dy o f = true → zmr A o f = some c → (∃ n, A.1[c]? = some (true, 0, n) ∧ n ≤ 1000000) ∧ ((dyo.contains o = true ∧ f < 2 ∧ c = o + 1 + f) ∨ 296 ≤ c)) ∧
  (∀ o f, dyo.contains o = true → f < 2 → ∃ c, zmr A o f = some c) ∧
  (∀ o f o' f' c, dy o f = true → dy o' f' = true → zmr A o f = some c → zmr A o' f' = some c → o = o' ∧ f = f')
theorem dy_of {o f : Nat} (h : dyo.contains o = true) (hf : f < 2) : dy o f = true := by
  unfold dy
  rw [h, Nat.blt_eq.mpr hf]
  rfl
theorem fx_ne {a o f : Nat} (h : fx a = true) (ho : dyo.contains o = true) (hf : f < 2) : o + 1 + f ≠ a := by
  intro e
  subst e
  unfold fx at h
  simp only [Bool.and_eq_true, Bool.not_eq_true', List.any_eq_false, Bool.or_eq_true, Nat.beq_eq] at h
  have := h.2 o (List.contains_iff_mem.mp ho)
  omega
theorem fx_lt {a : Nat} (h : fx a = true) : a < 296 := by
  unfold fx at h
  simp only [Bool.and_eq_true] at h
  exact Nat.blt_eq.mp h.1
def yc (A : zA) (o f : Nat) : Nat := (zmr A o f).getD 0
def yl (A : zA) (o f : Nat) : Int := match A.1[yc A o f]? with
  | some (_, _, n) => (n : Int)
  | none => 0
def yv (A : zA) (o f : Nat) (e : Int) : Int := ri A (yc A o f) e
def ys (A : zA) (o f : Nat) (e z : Int) : zA := rs A (yc A o f) e z
section
variable {A : zA} {o f : Nat}
theorem Own.at (h : Own A) (ho : dyo.contains o = true) (hf : f < 2) : zmr A o f = some (yc A o f) ∧ (∃ n : Nat, A.1[yc A o f]? = some (true, 0, n) ∧ n ≤ 1000000 ∧ yl A o f = n) ∧ (yc A o f = o + 1 + f ∨ 296 ≤ yc A o f) := by
  obtain ⟨c, hc⟩ := h.2.2.1 o f ho hf
  have e : yc A o f = c := by unfold yc; rw [hc]; rfl
  obtain ⟨⟨n, h1, h2⟩, h3⟩ := h.2.1 o f c (dy_of ho hf) hc
  refine ⟨by rw [e]; exact hc, ⟨n, by rw [e]; exact h1, h2, ?_⟩, ?_⟩
  · unfold yl; rw [e, h1]
  · rw [e]; rcases h3 with h3 | h3
    · exact Or.inl h3.2.2
    · exact Or.inr h3
theorem Own.ge4 (h : Own A) (ho : dyo.contains o = true) (hf : f < 2) : 4 ≤ yc A o f := by
  have hm : ∀ q ∈ dyo, 9 ≤ q := by decide
  have := hm o (List.contains_iff_mem.mp ho)
  rcases (h.at ho hf).2.2 with q | q <;> omega
theorem Own.ne (h : Own A) (ho : dyo.contains o = true) (hf : f < 2) {a : Nat} (ha : fx a = true) : yc A o f ≠ a := by
  rcases (h.at ho hf).2.2 with q | q
  · rw [q]; exact fx_ne ha ho hf
  · have := fx_lt ha; omega
theorem Own.ne2 (h : Own A) (ho : dyo.contains o = true) (hf : f < 2) {o' f' : Nat} (ho' : dyo.contains o' = true) (hf' : f' < 2) (hn : ¬ (o = o' ∧ f = f')) : yc A o f ≠ yc A o' f' := by
  intro e
  exact hn (h.2.2.2 o f o' f' _ (dy_of ho hf) (dy_of ho' hf') (h.at ho hf).1 (by rw [e]; exact (h.at ho' hf').1))
theorem Own.lmx (h : Own A) (ho : dyo.contains o = true) (hf : f < 2) : 0 ≤ yl A o f ∧ yl A o f ≤ 1000000 := by
  obtain ⟨n, h1, h2, h3⟩ := (h.at ho hf).2.1
  omega
variable {R : Type} {e z : Int}
theorem zgr_d {K : Nat → Option R} (h : Own A) (ho : dyo.contains o = true) (hf : f < 2) : zgr A o f K = K (yc A o f) := by
  unfold zgr; rw [(h.at ho hf).1]
theorem zrD_d {K : Int → Option R} (h : Own A) (ho : dyo.contains o = true) (hf : f < 2) (h0 : 0 ≤ e) (h1 : e < yl A o f) : zrD A (yc A o f) e K = K (yv A o f e) := by
  obtain ⟨n, g1, g2, g3⟩ := (h.at ho hf).2.1
  unfold zrD
  rw [g1]
  simp only
  rw [if_pos ⟨trivial, h0, by omega⟩]
  rfl
theorem zwD_d {K : zA → Option R} (h : Own A) (ho : dyo.contains o = true) (hf : f < 2) (h0 : 0 ≤ e) (h1 : e < yl A o f) : zwD A (yc A o f) e z K = K (ys A o f e z) := by
  obtain ⟨n, g1, g2, g3⟩ := (h.at ho hf).2.1
  unfold zwD
  rw [g1]
  simp only
  rw [if_pos ⟨trivial, h.ge4 ho hf, h0, by omega⟩]
  rfl
theorem zln_d {K : Int → Option R} (h : Own A) (ho : dyo.contains o = true) (hf : f < 2) : zln A (yc A o f) K = K (yl A o f) := by
  obtain ⟨n, g1, g2, g3⟩ := (h.at ho hf).2.1
  unfold zln
  rw [g1]
  simp only
  rw [if_pos g2, g3]
theorem zrD_f {K : Int → Option R} {a n : Nat} (h : Own A) (hs : zsh a = some (true, 0, n)) (h0 : 0 ≤ e) (h1 : e < n) : zrD A a e K = K (ri A a e) := by
  unfold zrD
  rw [h.1 _ _ hs]
  simp only
  rw [if_pos ⟨trivial, h0, h1⟩]
  rfl
theorem zwD_f {K : zA → Option R} {a n : Nat} (h : Own A) (hs : zsh a = some (true, 0, n)) (ha : 4 ≤ a) (h0 : 0 ≤ e) (h1 : e < n) : zwD A a e z K = K (rs A a e z) := by
  unfold zwD
  rw [h.1 _ _ hs]
  simp only
  rw [if_pos ⟨trivial, ha, h0, h1⟩]
  rfl
variable {a j k : Nat} {e' : Int} {o' f' : Nat}
theorem Own.si (h : Own A) {w : Int} : Own (zsi A a j w) := h
theorem Own.rs (h : Own A) {w : Int} : Own (rs A a e w) := h
theorem Own.ys (h : Own A) {w : Int} : Own (ys A o f e w) := h
theorem yl_si {w : Int} : yl (zsi A a j w) o f = yl A o f := rfl
theorem yl_rs {w : Int} : yl (rs A a e w) o f = yl A o f := rfl
theorem yl_ys {w : Int} : yl (ys A o' f' e w) o f = yl A o f := rfl
theorem yc_si {w : Int} : yc (zsi A a j w) o f = yc A o f := rfl
theorem yc_rs {w : Int} : yc (rs A a e w) o f = yc A o f := rfl
theorem yc_ys {w : Int} : yc (ys A o' f' e w) o f = yc A o f := rfl
theorem zi_ys (h : Own A) (ho : dyo.contains o = true) (hf : f < 2) (ha : fx a = true) : zi (ys A o f e z) a k = zi A a k := zi_si_o (fun q => h.ne ho hf ha q.symm)
theorem ri_ys (h : Own A) (ho : dyo.contains o = true) (hf : f < 2) (ha : fx a = true) : ri (ys A o f e z) a e' = ri A a e' := zi_si_o (fun q => h.ne ho hf ha q.symm)
theorem yv_si {w : Int} (h : Own A) (ho : dyo.contains o = true) (hf : f < 2) (ha : fx a = true) : yv (zsi A a j w) o f e = yv A o f e := zi_si_o (h.ne ho hf ha)
theorem yv_rs {w : Int} (h : Own A) (ho : dyo.contains o = true) (hf : f < 2) (ha : fx a = true) : yv (rs A a e' w) o f e = yv A o f e := zi_si_o (h.ne ho hf ha)
theorem yv_ys_o (h : Own A) (ho : dyo.contains o = true) (hf : f < 2) (ho' : dyo.contains o' = true) (hf' : f' < 2) (hn : ¬ (o = o' ∧ f = f')) : yv (ys A o' f' e' z) o f e = yv A o f e := zi_si_o (h.ne2 ho hf ho' hf' hn)
theorem yv_ys_s : yv (ys A o f e z) o f e = zw z := zi_si_s
theorem yv_ys_n (h0 : 0 ≤ e') (h1 : 0 ≤ e) (h : e ≠ e') : yv (ys A o f e' z) o f e = yv A o f e := zi_si_j (by omega)
theorem yv_ys (h0 : 0 ≤ e') (h1 : 0 ≤ e) : yv (ys A o f e' z) o f e = if e = e' then zw z else yv A o f e := by
  by_cases h : e = e'
  · rw [if_pos h, h]; exact yv_ys_s
  · rw [if_neg h]; exact yv_ys_n h0 h1 h
end
/-- the parts -/
def pto : List Nat := [9, 12, 15, 18, 23, 26, 29, 32, 37, 40, 43, 46, 197, 200, 203, 206]
theorem pto_dy {o : Nat} (h : pto.contains o = true) : dyo.contains o = true := by
  have : ∀ q ∈ pto, dyo.contains q = true := by decide
  exact this o (List.contains_iff_mem.mp h)
theorem pto_fx {o : Nat} (h : pto.contains o = true) : fx o = true := by
  have : ∀ q ∈ pto, fx q = true := by decide
  exact this o (List.contains_iff_mem.mp h)
def cn (A : zA) (o : Nat) : Int := zi A o 2
def cr (A : zA) (o : Nat) : Int := zi A o 3
def PI (A : zA) (o : Nat) : Prop := 0 ≤ cn A o ∧ cn A o ≤ 240 ∧ cn A o ≤ yl A o 1 ∧ yl A o 0 = 5 * yl A o 1 ∧ 16 ≤ yl A o 1 ∧ yl A o 1 ≤ 480
section
variable {N : Nat} {A : zA} {o : Nat} {k i : Int}
theorem Pt_kind (h : Own A) (ho : pto.contains o = true) (hp : PI A o) : z_Pt_kind N o k A = some (if 0 ≤ k ∧ k < cn A o then yv A o 0 (5 * k) else 12) := by
  obtain ⟨p1, p2, p3, p4, p5, p6⟩ := hp
  unfold z_Pt_kind
  unfold cn at *
  split
  · rw [if_neg (by omega)]
  · split
    · rw [if_pos (by omega), zgr_d h (pto_dy ho) (by decide), zrD_d h (pto_dy ho) (by decide) (by omega) (by omega)]
      rw [Int.mul_comm]
    · rw [if_neg (by omega)]
theorem Pt_kind1 (h : Own A) (ho : pto.contains o = true) (hp : PI A o) (h0 : 0 ≤ k) (h1 : k < cn A o) : z_Pt_kind N o k A = some (yv A o 0 (5 * k)) := by
  rw [Pt_kind h ho hp, if_pos ⟨h0, h1⟩]
theorem Pt_has : z_Pt_has N o k A = some (if 0 ≤ k ∧ k < cn A o then 1 else 0) := by
  unfold z_Pt_has cn
  split
  · rw [if_neg (by omega)]
  · split
    · rw [if_pos (by omega)]
    · rw [if_neg (by omega)]
theorem Pt_number (h : Own A) (ho : pto.contains o = true) (hp : PI A o) : z_Pt_number N o k i A = some (if 0 ≤ k ∧ k < cn A o ∧ 0 ≤ i ∧ i < 4 then yv A o 0 (5 * k + 1 + i) else 0) := by
  obtain ⟨p1, p2, p3, p4, p5, p6⟩ := hp
  unfold z_Pt_number z_Pt_number_26
  unfold cn at *
  split
  · rw [if_pos rfl, if_neg (by omega)]
  · split
    · split
      · rw [if_pos rfl, if_neg (by omega)]
      · split
        · rw [if_neg (by decide), if_pos (by omega), zgr_d h (pto_dy ho) (by decide), zrD_d h (pto_dy ho) (by decide) (by omega) (by omega), Int.mul_comm]
        · rw [if_pos rfl, if_neg (by omega)]
    · rw [if_pos rfl, if_neg (by omega)]
theorem Pt_register (h : Own A) (ho : pto.contains o = true) (hp : PI A o) : z_Pt_register N o k i A = some (if 0 ≤ k ∧ k < cn A o ∧ 0 ≤ i ∧ i < 4 ∧ 0 ≤ yv A o 0 (5 * k + 1 + i) ∧ yv A o 0 (5 * k + 1 + i) < 60 then yv A o 0 (5 * k + 1 + i) else 0) := by
  obtain ⟨p1, p2, p3, p4, p5, p6⟩ := hp
  by_cases c : 0 ≤ k ∧ k < cn A o ∧ 0 ≤ i ∧ i < 4
  · obtain ⟨c1, c2, c3, c4⟩ := c
    simp only [c1, c2, c3, c4, true_and]
    unfold z_Pt_register z_Pt_register_26 z_Pt_register_47
    unfold cn at *
    rw [if_neg (by omega), if_pos c2, if_neg (by omega), if_pos c4, if_neg (by decide), zgr_d h (pto_dy ho) (by decide), zrD_d h (pto_dy ho) (by decide) (by omega) (by omega), Int.mul_comm]
    repeat' split
    all_goals first | omega | rfl
  · rw [if_neg (fun q => c ⟨q.1, q.2.1, q.2.2.1, q.2.2.2.1⟩)]
    unfold z_Pt_register z_Pt_register_26 z_Pt_register_47
    unfold cn at *
    repeat' split
    all_goals first | omega | rfl
theorem Pt_mate (h : Own A) (ho : pto.contains o = true) (hp : PI A o) : z_Pt_mate N o k A = some (if 0 ≤ k ∧ k < cn A o then yv A o 1 k else k) := by
  obtain ⟨p1, p2, p3, p4, p5, p6⟩ := hp
  unfold z_Pt_mate
  unfold cn at *
  split
  · rw [if_neg (by omega)]
  · split
    · rw [if_pos (by omega), zgr_d h (pto_dy ho) (by decide), zrD_d h (pto_dy ho) (by decide) (by omega) (by omega)]
    · rw [if_neg (by omega)]
theorem Pt_setNumber {v : Int} (h : Own A) (ho : pto.contains o = true) (hp : PI A o) (h0 : 0 ≤ k) (h1 : k < cn A o) (h2 : 0 ≤ i) (h3 : i < 4) : z_Pt_setNumber N o k i v A = some (ys A o 0 (5 * k + 1 + i) v) := by
  obtain ⟨p1, p2, p3, p4, p5, p6⟩ := hp
  unfold z_Pt_setNumber
  unfold cn at *
  rw [if_neg (by omega), if_pos h1, if_neg (by omega), if_pos h3, zgr_d h (pto_dy ho) (by decide), zwD_d h (pto_dy ho) (by decide) (by omega) (by omega), Int.mul_comm]
theorem Pt_written (h : Own A) (ho : pto.contains o = true) (hp : PI A o) (h0 : 0 ≤ k) (h1 : k < cn A o) : z_Pt_written N o k A = some (if yv A o 0 (5 * k) ≤ 3 ∨ yv A o 0 (5 * k) = 5 then (if 0 ≤ yv A o 0 (5 * k + 1) ∧ yv A o 0 (5 * k + 1) < 60 then yv A o 0 (5 * k + 1) else 0) else -1) := by
  unfold z_Pt_written z_Pt_written_16
  rw [Pt_kind1 h ho hp h0 h1, Pt_register h ho hp]
  simp only [zbP_s, Int.add_zero, h0, h1, true_and, show (0:Int) ≤ 0 from Int.le_refl 0, show (0:Int) < 4 by decide]
  generalize yv A o 0 (5 * k) = q
  generalize yv A o 0 (5 * k + 1) = q
  repeat' split
  all_goals first | omega | rfl
end
