/-! a machine for the kernel: MJ, but ints may be unknown (.retAddr k stands for the k-th unknown), cells and what they hold lie in lists of lists, and what was asked of unknowns is written down -/
section MQA
variable {α R : Type}
noncomputable def mq_get (l : List (Nat × α)) (k : Nat) : Option α := List.rec (motive := fun _ => Option α) none (fun p _ ih => bif Nat.beq p.1 k then some p.2 else ih) l
noncomputable def mq_putK (l : List (Nat × α)) (k : Nat) (v : α) : (List (Nat × α) → R) → R := List.rec (motive := fun _ => (List (Nat × α) → R) → R) (fun c => c [(k, v)]) (fun p r ih c => bif Nat.beq p.1 k then c ((k, v) :: r) else ih (fun r' => c (p :: r'))) l
noncomputable def mq_put (l : List (Nat × α)) (k : Nat) (v : α) : List (Nat × α) := mq_putK l k v id
theorem mq_putK_all (k : Nat) (v : α) : ∀ (l : List (Nat × α)) (Q : Type) (c : List (Nat × α) → Q), mq_putK l k v c = c (mq_put l k v)
  | [], _, c => rfl
  | p :: r, Q, c => by
    have ih1 := mq_putK_all k v r Q
    have ih2 := mq_putK_all k v r (List (Nat × α))
    show (bif Nat.beq p.1 k then c ((k, v) :: r) else mq_putK r k v (fun r' => c (p :: r'))) = c (bif Nat.beq p.1 k then id ((k, v) :: r) else mq_putK r k v (fun r' => id (p :: r')))
    cases Nat.beq p.1 k with
    | true => rfl
    | false =>
      show mq_putK r k v (fun r' => c (p :: r')) = c (mq_putK r k v (fun r' => id (p :: r')))
      rw [ih1, ih2]
      rfl
theorem mq_putK_eq (k : Nat) (v : α) (l : List (Nat × α)) (c : List (Nat × α) → R) : mq_putK l k v c = c (mq_put l k v) := mq_putK_all k v l R c
theorem mq_get_cons (p : Nat × α) (r : List (Nat × α)) (k : Nat) : mq_get (p :: r) k = if p.1 = k then some p.2 else mq_get r k := by
  show (bif Nat.beq p.1 k then some p.2 else mq_get r k) = _
  by_cases h : p.1 = k
  · rw [if_pos h, h, Nat.beq_refl]
    rfl
  · have : Nat.beq p.1 k = false := mp_beq h
    rw [if_neg h, this]
    rfl
theorem mq_put_cons (p : Nat × α) (r : List (Nat × α)) (k : Nat) (v : α) : mq_put (p :: r) k v = if p.1 = k then (k, v) :: r else p :: mq_put r k v := by
  show (bif Nat.beq p.1 k then id ((k, v) :: r) else mq_putK r k v (fun r' => id (p :: r'))) = _
  by_cases h : p.1 = k
  · rw [if_pos h, h, Nat.beq_refl]
    rfl
  · have : Nat.beq p.1 k = false := mp_beq h
    rw [if_neg h, this, mq_putK_eq]
    rfl
theorem mq_get_put (k : Nat) (v : α) (j : Nat) : ∀ l : List (Nat × α), mq_get (mq_put l k v) j = if j = k then some v else mq_get l j
  | [] => by
    show mq_get [(k, v)] j = _
    rw [mq_get_cons]
    by_cases h : j = k
    · rw [if_pos h, if_pos h.symm]
    · rw [if_neg h, if_neg (fun z => h z.symm)]
  | p :: r => by
    have ih := mq_get_put k v j r
    rw [mq_put_cons]
    by_cases h : p.1 = k
    · rw [if_pos h, mq_get_cons, mq_get_cons]
      by_cases hj : j = k
      · rw [if_pos hj, if_pos hj.symm]
      · rw [if_neg hj, if_neg (fun z => hj z.symm), if_neg (by rw [h]; exact fun z => hj z.symm)]
    · rw [if_neg h, mq_get_cons, mq_get_cons, ih]
      by_cases hj : p.1 = j
      · rw [if_pos hj, if_pos hj, if_neg (by rw [← hj]; exact h)]
      · rw [if_neg hj, if_neg hj]
abbrev mq_M (α : Type) : Type := List (Nat × List (Nat × α))
noncomputable def mq_sub (m : mq_M α) (a : Nat) : List (Nat × α) := match mq_get m (a / 16) with
  | some l => l
  | none => []
noncomputable def mq_g2 (m : mq_M α) (a : Nat) : Option α := mq_get (mq_sub m a) (a % 16)
noncomputable def mq_p2K (m : mq_M α) (a : Nat) (v : α) (c : mq_M α → R) : R := mq_putK (mq_sub m a) (a % 16) v (fun l => mq_putK m (a / 16) l c)
noncomputable def mq_p2 (m : mq_M α) (a : Nat) (v : α) : mq_M α := mq_put m (a / 16) (mq_put (mq_sub m a) (a % 16) v)
theorem mq_p2K_eq (m : mq_M α) (a : Nat) (v : α) (c : mq_M α → R) : mq_p2K m a v c = c (mq_p2 m a v) := by
  unfold mq_p2K mq_p2
  rw [mq_putK_eq, mq_putK_eq]
theorem mq_g2_p2 (m : mq_M α) (a : Nat) (v : α) (b : Nat) : mq_g2 (mq_p2 m a v) b = if b = a then some v else mq_g2 m b := by
  unfold mq_g2 mq_p2
  have e : mq_sub (mq_put m (a / 16) (mq_put (mq_sub m a) (a % 16) v)) b = if b / 16 = a / 16 then mq_put (mq_sub m a) (a % 16) v else mq_sub m b := by
    unfold mq_sub
    rw [mq_get_put]
    by_cases h : b / 16 = a / 16
    · rw [if_pos h, if_pos h]
    · rw [if_neg h, if_neg h]
  rw [e]
  by_cases h : b / 16 = a / 16
  · rw [if_pos h, mq_get_put]
    by_cases h2 : b % 16 = a % 16
    · rw [if_pos h2, if_pos (by omega)]
    · rw [if_neg h2, if_neg (by omega)]
      unfold mq_sub
      rw [h]
  · rw [if_neg h, if_neg (by omega)]
end MQA
/-- a cell: array or not; kind or class; how long; what an array held at first; what was written -/
abbrev mq_C : Type := Bool × Nat × Nat × Value × mq_M Value
abbrev mq_H : Type := Nat × mq_M mq_C
/-- what was asked, or made, of unknowns -/
abbrev mq_F : Type := (ClassFile.Cond × Bool × Value × Value) ⊕ (Nat × Nat × Value × Value)
/-- answers to come; the next unknown; what was written down -/
abbrev mq_X : Type := List Nat × Nat × List mq_F
noncomputable def mq_look (P : mj_Pr) (c : mq_C) (j : Nat) : Value := match mq_g2 c.2.2.2.2 j with
  | some v => v
  | none => bif c.1 then c.2.2.2.1 else (P.dfl c.2.1).getD j .null
noncomputable def mq_cell (h : mq_H) (a : Nat) : Option mq_C := bif Nat.blt a h.1 then mq_g2 h.2 a else none
def mq_v (ρ : Nat → Int32) (v : Value) : Value := match v with
  | .retAddr k => .int (ρ k)
  | .int x => .int x
  | .long x => .long x
  | .float x => .float x
  | .double x => .double x
  | .ref x => .ref x
  | .null => .null
noncomputable def mq_c (P : mj_Pr) (ρ : Nat → Int32) (c : mq_C) : mj_C := (c.1, c.2.1, (List.range c.2.2.1).map (fun j => mq_v ρ (mq_look P c j)))
noncomputable def mq_h (P : mj_Pr) (ρ : Nat → Int32) (h : mq_H) : mj_H := (List.range h.1).map (fun a => mq_c P ρ ((mq_g2 h.2 a).getD (true, 0, 0, .null, [])))
def mq_l (ρ : Nat → Int32) (L : mj_L) : mj_L := L.map (Option.map (mq_v ρ))
def mq_s (ρ : Nat → Int32) (S : List Value) : List Value := S.map (mq_v ρ)
def mq_e (ρ : Nat → Int32) (v : Value) : Int32 := match v with
  | .int x => x
  | .retAddr k => ρ k
  | _ => 0
def mq_isI (v : Value) : Bool := match v with
  | .int _ => true
  | .retAddr _ => true
  | _ => false
theorem mq_v_int {ρ : Nat → Int32} {v : Value} (h : mq_isI v = true) : mq_v ρ v = .int (mq_e ρ v) := by
  cases v <;> first | rfl | cases h
def mq_f (c : Nat) (x y : Int32) : Int32 := match c with
  | 0 => x + y
  | 1 => x - y
  | 2 => x * y
  | 3 => x &&& y
  | 4 => x ^^^ y
  | 5 => x >>> (y &&& 31)
  | 6 => (x.toUInt32 >>> (y.toUInt32 &&& Int32.toUInt32 31)).toInt32
  | _ => (x.toUInt32 % 65536).toInt32
def mq_fh (ρ : Nat → Int32) (f : mq_F) : Prop := match f with
  | .inl (c, b, x, y) => mj_cnd c (mq_e ρ x) (mq_e ρ y) = b
  | .inr (40, k, x, y) => (mq_e ρ x).toInt < (mq_e ρ y).toInt ∨ (k : Int) < (mq_e ρ x).toInt
  | .inr (42, _, x, _) => mj_fit 2 (.int (mq_e ρ x)) = true
  | .inr (c, k, x, y) => ρ k = mq_f c (mq_e ρ x) (mq_e ρ y)
def mq_Ok (ρ : Nat → Int32) (E : List mq_F) : Prop := ∀ f ∈ E, mq_fh ρ f
/-! cells -/
theorem mq_h_len (P : mj_Pr) (ρ : Nat → Int32) (h : mq_H) : (mq_h P ρ h).length = h.1 := by simp [mq_h]
theorem mq_h_at {P : mj_Pr} {ρ : Nat → Int32} {h : mq_H} {a : Nat} {c : mq_C} (hc : mq_cell h a = some c) : (mq_h P ρ h)[a]? = some (mq_c P ρ c) ∧ a < h.1 ∧ mq_g2 h.2 a = some c := by
  unfold mq_cell at hc
  cases hb : Nat.blt a h.1 with
  | false =>
    rw [hb] at hc
    cases hc
  | true =>
    rw [hb] at hc
    have hc : mq_g2 h.2 a = some c := hc
    have hl : a < h.1 := Nat.blt_eq.mp hb
    exact ⟨by simp [mq_h, hl, hc], hl, hc⟩
theorem mq_h_set {P : mj_Pr} {ρ : Nat → Int32} {h : mq_H} {a : Nat} {c : mq_C} : mq_h P ρ (h.1, mq_p2 h.2 a c) = (mq_h P ρ h).set a (mq_c P ρ c) := by
  refine List.ext_getElem? fun j => ?_
  by_cases hj : j < h.1
  · by_cases e : a = j
    · subst e
      rw [List.getElem?_set_self (by rw [mq_h_len]; exact hj)]
      simp [mq_h, hj, mq_g2_p2]
    · rw [List.getElem?_set_ne e]
      simp only [mq_h, List.getElem?_map, List.getElem?_range hj, Option.map_some, mq_g2_p2]
      rw [if_neg (fun z => e z.symm)]
  · rw [List.getElem?_eq_none (by rw [mq_h_len]; omega), List.getElem?_eq_none (by rw [List.length_set, mq_h_len]; omega)]
theorem mq_h_push {P : mj_Pr} {ρ : Nat → Int32} {h : mq_H} {c : mq_C} : mq_h P ρ (h.1 + 1, mq_p2 h.2 h.1 c) = mq_h P ρ h ++ [mq_c P ρ c] := by
  refine List.ext_getElem? fun j => ?_
  by_cases hj : j < h.1
  · rw [List.getElem?_append_left (by rw [mq_h_len]; exact hj)]
    simp only [mq_h, List.getElem?_map, List.getElem?_range hj, List.getElem?_range (Nat.lt_succ_of_lt hj), Option.map_some, mq_g2_p2]
    rw [if_neg (by omega)]
  · by_cases e : j = h.1
    · subst e
      rw [List.getElem?_append_right (by rw [mq_h_len]; exact Nat.le_refl _), mq_h_len, Nat.sub_self]
      simp [mq_h, mq_g2_p2]
    · rw [List.getElem?_eq_none (by rw [mq_h_len]; show h.1 + 1 ≤ j; omega), List.getElem?_eq_none (by rw [List.length_append, mq_h_len]; simp; omega)]
theorem mq_c_at {P : mj_Pr} {ρ : Nat → Int32} {c : mq_C} {j : Nat} (hj : j < c.2.2.1) : (mq_c P ρ c).2.2[j]? = some (mq_v ρ (mq_look P c j)) := by simp [mq_c, hj]
theorem mq_c_set {P : mj_Pr} {ρ : Nat → Int32} {b : Bool} {u n : Nat} {dv : Value} {m : mq_M Value} {j : Nat} {v : Value} : mq_c P ρ (b, u, n, dv, mq_p2 m j v) = (b, u, (mq_c P ρ (b, u, n, dv, m)).2.2.set j (mq_v ρ v)) := by
  show (b, u, _) = (b, u, _)
  congr 2
  refine List.ext_getElem? fun i => ?_
  by_cases hi : i < n
  · by_cases e : j = i
    · subst e
      rw [List.getElem?_set_self (by simp [mq_c, hi])]
      simp [hi, mq_look, mq_g2_p2]
    · rw [List.getElem?_set_ne e]
      simp only [mq_c, List.getElem?_map, List.getElem?_range hi, Option.map_some, mq_look, mq_g2_p2]
      rw [if_neg (fun z => e z.symm)]
  · rw [List.getElem?_eq_none (by simp; omega), List.getElem?_eq_none (by simp [mq_c]; omega)]
theorem mq_c_len {P : mj_Pr} {ρ : Nat → Int32} {c : mq_C} : (mq_c P ρ c).2.2.length = c.2.2.1 := by simp [mq_c]
