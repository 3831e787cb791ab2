/-! HOIST, on lists -/
def spl (i : It) (r : Int) : Prop := (i.1 = 7 ∧ r < 6) ∨ (i.1 ≠ 7 ∧ wri i = r)
def stdy (X : List It) (t e k : Nat) : Prop := hrm (itm X k) ∧ 7 ≤ wri (itm X k) ∧ (∀ m, t < m → m ≤ e → m ≠ k → ¬ spl (itm X m) (wri (itm X k))) ∧ ∀ n : Nat, (n : Int) < rdk (itm X k).1 → ∀ m, t < m → m ≤ e → ¬ spl (itm X m) (ig (itm X k) ((frk (itm X k).1).toNat + n + 1))
def mup (X : List It) (t k : Nat) : List It := X.take t ++ (itm X k :: ((X.drop t).take (k - t) ++ X.drop (k + 1)))
theorem mup_len {X : List It} {t k : Nat} (h1 : t ≤ k) (h2 : k < X.length) : (mup X t k).length = X.length := by
  unfold mup
  rw [List.length_append, List.length_cons, List.length_append, List.length_take, List.length_take, List.length_drop, List.length_drop]
  omega
theorem mup_itm {X : List It} {t k m : Nat} (h1 : t ≤ k) (h2 : k < X.length) (hm : m < X.length) : itm (mup X t k) m = if m < t then itm X m else if m = t then itm X k else if m ≤ k then itm X (m - 1) else itm X m := by
  have hl := mup_len h1 h2
  rw [itm_get (by omega)]
  have ht : (X.take t).length = t := by rw [List.length_take]; omega
  have hd : ((X.drop t).take (k - t)).length = k - t := by rw [List.length_take, List.length_drop]; omega
  unfold mup
  by_cases c : m < t
  · rw [if_pos c, List.getElem_append_left (by omega), List.getElem_take, itm_get hm]
  · rw [if_neg c, List.getElem_append_right (by omega)]
    by_cases c1 : m = t
    · rw [if_pos c1]
      have : m - (X.take t).length = 0 := by omega
      simp only [this]
      rfl
    · rw [if_neg c1]
      obtain ⟨j, hj⟩ : ∃ j, m - (X.take t).length = j + 1 := ⟨m - (X.take t).length - 1, by omega⟩
      simp only [hj, List.getElem_cons_succ]
      by_cases c2 : m ≤ k
      · rw [if_pos c2, List.getElem_append_left (by omega), List.getElem_take, List.getElem_drop, itm_get (by omega)]
        congr 1
        omega
      · rw [if_neg c2, List.getElem_append_right (by omega), List.getElem_drop, itm_get hm]
        congr 1
        omega
theorem cut1 {X : List It} {k : Nat} (h : k < X.length) : X = X.take k ++ ([itm X k] ++ X.drop (k + 1)) := by
  have h1 : X.drop k = X[k] :: X.drop (k + 1) := List.drop_eq_getElem_cons h
  have h3 := List.take_append_drop k X
  rw [h1] at h3
  rw [itm_get h]
  exact h3.symm
section
variable {nd : Int → Nat}
theorem split1 {a b : It} (hab : a.1 ≠ b.1) {V R : List It} : ∀ {U P : List It}, U ++ a :: V = P ++ b :: R → (∃ V', P = U ++ a :: V' ∧ V = V' ++ b :: R) ∨ (∃ U', U = P ++ b :: U' ∧ U' ++ a :: V = R) := by
  intro U
  induction U with
  | nil =>
    intro P h
    cases P with
    | nil => exact absurd (congrArg Prod.fst (List.cons.inj h).1) hab
    | cons p P =>
      have e := List.cons.inj h
      exact Or.inl ⟨P, by rw [← e.1]; rfl, e.2⟩
  | cons u U ih =>
    intro P h
    cases P with
    | nil =>
      have e := List.cons.inj h
      exact Or.inr ⟨U, by rw [← e.1]; rfl, e.2⟩
    | cons p P =>
      have e := List.cons.inj h
      rcases ih e.2 with ⟨V', q1, q2⟩ | ⟨U', q1, q2⟩
      · exact Or.inl ⟨V', by rw [← e.1, q1]; rfl, q2⟩
      · exact Or.inr ⟨U', by rw [← e.1, q1]; rfl, q2⟩
/-- a plain item may stand ahead of an opening turn -/
theorem bal_ins {i : It} (hi : 0 ≤ i.1 ∧ i.1 ≤ 6) : ∀ n X, bal nd n X → bal nd n X ∧ ∀ U a V, X = U ++ a :: V → (a.1 = 8 ∨ a.1 = 10) → bal nd n (U ++ i :: a :: V) := by
  apply bal_ind
  · intro n
    refine ⟨bal_nil n, fun U a V h _ => ?_⟩
    have := congrArg List.length h
    rw [List.length_append, List.length_cons] at this
    simp at this
  · intro n j X hj ih
    refine ⟨bal_cons hj ih.1, fun U a V h ha => ?_⟩
    cases U with
    | nil =>
      exfalso
      have e := (List.cons.inj h).1
      rcases hj with hj | ⟨m, -, hj, -⟩
      · rw [e] at hj; omega
      · rw [e] at hj; omega
    | cons u U =>
      have e := List.cons.inj h
      rw [List.cons_append, ← e.1]
      exact bal_cons hj (ih.2 U a V e.2 ha)
  · intro n a0 P b Q c X ha0 hb hc ihP ihQ ihX
    refine ⟨bal_if ha0 hb hc ihP.1 ihQ.1 ihX.1, fun U a V h ha => ?_⟩
    cases U with
    | nil =>
      rw [List.nil_append] at h ⊢
      rw [← h]
      exact bal_cons (Or.inl hi) (bal_if ha0 hb hc ihP.1 ihQ.1 ihX.1)
    | cons u U =>
      have e := List.cons.inj h
      rcases split1 (by omega) e.2.symm with ⟨V', q1, q2⟩ | ⟨U', q1, q2⟩
      · rw [List.cons_append, ← e.1, q2]
        have := bal_if ha0 hb hc (ihP.2 U a V' q1 ha) ihQ.1 ihX.1
        simpa using this
      · rcases split1 (by omega) q2 with ⟨V', p1, p2⟩ | ⟨U'', p1, p2⟩
        · rw [List.cons_append, ← e.1, q1, p2]
          have := bal_if ha0 hb hc ihP.1 (ihQ.2 U' a V' p1 ha) ihX.1
          simpa using this
        · rw [List.cons_append, ← e.1, q1, p1]
          have := bal_if ha0 hb hc ihP.1 ihQ.1 (ihX.2 U'' a V p2.symm ha)
          simpa using this
  · intro n a0 P b Q c X ha0 hb hc hPp ihP ihQ ihX
    refine ⟨bal_wh ha0 hb hc hPp ihQ.1 ihX.1, fun U a V h ha => ?_⟩
    cases U with
    | nil =>
      rw [List.nil_append] at h ⊢
      rw [← h]
      exact bal_cons (Or.inl hi) (bal_wh ha0 hb hc hPp ihQ.1 ihX.1)
    | cons u U =>
      have e := List.cons.inj h
      rcases split1 (by omega) e.2.symm with ⟨V', q1, q2⟩ | ⟨U', q1, q2⟩
      · exfalso
        have := hPp a (by rw [q1]; exact List.mem_append.mpr (Or.inr List.mem_cons_self))
        omega
      · rcases split1 (by omega) q2 with ⟨V', p1, p2⟩ | ⟨U'', p1, p2⟩
        · rw [List.cons_append, ← e.1, q1, p2]
          have := bal_wh ha0 hb hc hPp (ihQ.2 U' a V' p1 ha) ihX.1
          simpa using this
        · rw [List.cons_append, ← e.1, q1, p1]
          have := bal_wh ha0 hb hc hPp ihQ.1 (ihX.2 U'' a V p2.symm ha)
          simpa using this
theorem bal_mup {n t k : Nat} {X : List It} (h : bal nd n X) (h1 : t < k) (h2 : k < X.length) (ht : (itm X t).1 = 8 ∨ (itm X t).1 = 10) (hk : 0 ≤ (itm X k).1 ∧ (itm X k).1 ≤ 6) : bal nd n (mup X t k) := by
  obtain ⟨-, r⟩ := bal_run n X h
  obtain ⟨m, m1, m2, m3⟩ := r _ [itm X k] _ (cut1 h2) (by simp) (fun i hi => by rw [List.mem_singleton] at hi; rw [hi]; omega)
  have h3 := m3 [] (bal_nil m)
  rw [List.nil_append] at h3
  -- an opening turn stands at t
  have e : X.take k ++ X.drop (k + 1) = X.take t ++ itm X t :: ((X.drop (t + 1)).take (k - t - 1) ++ X.drop (k + 1)) := by
    have h4 : (X.take k).take t = X.take t := by rw [List.take_take]; congr 1; omega
    have h5 := cut1 (X := X.take k) (k := t) (by rw [List.length_take]; omega)
    have h6 : itm (X.take k) t = itm X t := by rw [itm_get (by rw [List.length_take]; omega), List.getElem_take, itm_get (by omega)]
    rw [h4, h6] at h5
    rw [h5, List.drop_take]
    simp only [List.append_assoc, List.cons_append, List.nil_append]
    rw [show k - (t + 1) = k - t - 1 by omega]
  have h7 := (bal_ins hk n _ h3).2 _ _ _ e ht
  have e2 : mup X t k = X.take t ++ itm X k :: itm X t :: ((X.drop (t + 1)).take (k - t - 1) ++ X.drop (k + 1)) := by
    unfold mup
    have h8 : X.drop t = itm X t :: X.drop (t + 1) := by rw [itm_get (by omega)]; exact List.drop_eq_getElem_cons (by omega)
    rw [h8, show k - t = (k - t - 1) + 1 by omega, List.take_succ_cons]
    rfl
  rw [e2]
  exact h7
theorem szL_mup {sz : Nat → Nat} {t k : Nat} {X : List It} (h1 : t ≤ k) (h2 : k < X.length) : szL sz (mup X t k) = szL sz X := by
  have e1 : szL sz X = szL sz (X.take t) + (szL sz ((X.drop t).take (k - t)) + (szL sz [itm X k] + szL sz (X.drop (k + 1)))) := by
    rw [← szL_app, ← szL_app, ← szL_app]
    congr 1
    have h3 := cut1 h2
    have h4 : X.take k = X.take t ++ (X.drop t).take (k - t) := by
      have := List.take_append_drop t (X.take k)
      rw [List.take_take, List.drop_take, show min t k = t by omega] at this
      exact this.symm
    rw [h4, List.append_assoc] at h3
    exact h3
  unfold mup
  have e2 : szL sz (itm X k :: ((X.drop t).take (k - t) ++ X.drop (k + 1))) = szL sz [itm X k] + szL sz ((X.drop t).take (k - t) ++ X.drop (k + 1)) := szL_app [itm X k] _
  rw [szL_app, e2, szL_app, e1]
  omega
theorem mup_mem {t k : Nat} {X : List It} (h2 : k < X.length) : ∀ i ∈ mup X t k, i ∈ X := fun i hi => by
  unfold mup at hi
  rcases List.mem_append.mp hi with z | z
  · exact List.mem_of_mem_take z
  · rcases List.mem_cons.mp z with z | z
    · rw [z]; exact itm_mem h2
    · rcases List.mem_append.mp z with z | z
      · exact List.mem_of_mem_drop (List.mem_of_mem_take z)
      · exact List.mem_of_mem_drop z
end
/-- the items ahead of DO, one after the other -/
noncomputable def hw1 (e : Nat) (s : List It × Nat) (k : Nat) : List It × Nat := cif (stdy s.1 s.2 e k) (mup s.1 s.2 k, s.2 + 1) s
noncomputable def hwS (e w : Nat) (X : List It) : Nat → List It × Nat
  | 0 => (X, w)
  | j + 1 => hw1 e (hwS e w X j) (w + 1 + j)
/-- what holds of it: m is where DO stands -/
def HW (X0 X : List It) (w t m : Nat) (k : Nat) : Prop := X.length = X0.length ∧ w ≤ t ∧ t < k ∧ (itm X t).1 = 10 ∧ (∀ q, t < q → q < m → 0 ≤ (itm X q).1 ∧ (itm X q).1 ≤ 6) ∧ (∀ q, k ≤ q → itm X q = itm X0 q) ∧ (∀ q, q < w → itm X q = itm X0 q) ∧ (∀ q, w ≤ q → q < t → 0 ≤ (itm X q).1 ∧ (itm X q).1 ≤ 6) ∧ (∀ nd n, bal nd n X0 → bal nd n X) ∧ (∀ sz, szL sz X = szL sz X0) ∧ ∀ i ∈ X, i ∈ X0
theorem hwS_inv {e w m : Nat} {X : List It} (hm : m < X.length) (hw : (itm X w).1 = 10) (hp : ∀ q, w < q → q < m → 0 ≤ (itm X q).1 ∧ (itm X q).1 ≤ 6) : ∀ j, w + 1 + j ≤ m → HW X (hwS e w X j).1 w (hwS e w X j).2 m (w + 1 + j) := by
  intro j
  induction j with
  | zero => intro _; exact ⟨rfl, Nat.le_refl _, by show w < w + 1 + 0; omega, hw, hp, fun _ _ => rfl, fun _ _ => rfl, fun q a b => by have b : q < w := b; omega, fun _ _ h => h, fun _ => rfl, fun _ h => h⟩
  | succ j ih =>
    intro hj
    have h0 := ih (by omega)
    show HW X (hw1 e (hwS e w X j) (w + 1 + j)).1 w (hw1 e (hwS e w X j) (w + 1 + j)).2 m (w + 1 + (j + 1))
    generalize hwS e w X j = s at *
    obtain ⟨a1, a2, a3, a4, a5, a6, a7, a8, a9, a10, a11⟩ := h0
    unfold hw1
    by_cases c : stdy s.1 s.2 e (w + 1 + j)
    · rw [cif_pos c]
      have hk : w + 1 + j < s.1.length := by omega
      have hki := a5 (w + 1 + j) (by omega) (by omega)
      have hit := fun q (hq : q < s.1.length) => mup_itm (X := s.1) (t := s.2) (k := w + 1 + j) (m := q) (by omega) hk hq
      refine ⟨by rw [mup_len (by omega) hk]; exact a1, by dsimp only; omega, by dsimp only; omega, ?_, fun q q1 q2 => ?_, fun q q1 => ?_, fun q q1 => ?_, fun q q1 q2 => ?_, fun nd n hb => bal_mup (a9 nd n hb) (by omega) hk (Or.inr a4) hki, fun sz => by rw [szL_mup (by omega) hk]; exact a10 sz, fun i hi => a11 i (mup_mem hk i hi)⟩
      · dsimp only
        rw [hit _ (by omega), if_neg (by omega), if_neg (by omega), if_pos (by omega), show s.2 + 1 - 1 = s.2 by omega]
        exact a4
      · dsimp only at q1 ⊢
        rw [hit q (by omega), if_neg (by omega), if_neg (by omega)]
        by_cases z : q ≤ w + 1 + j
        · rw [if_pos z]; exact a5 (q - 1) (by omega) (by omega)
        · rw [if_neg z]; exact a5 q (by omega) q2
      · dsimp only
        by_cases hq : q < s.1.length
        · rw [hit q hq, if_neg (by omega), if_neg (by omega), if_neg (by omega)]; exact a6 q (by omega)
        · unfold itm
          rw [List.getD_eq_getElem?_getD, List.getD_eq_getElem?_getD, List.getElem?_eq_none (by rw [mup_len (by omega) hk]; omega), List.getElem?_eq_none (by omega)]
      · dsimp only
        rw [hit q (by omega), if_pos (by omega)]; exact a7 q q1
      · dsimp only at q2 ⊢
        rw [hit q (by omega)]
        by_cases z : q < s.2
        · rw [if_pos z]; exact a8 q q1 z
        · rw [if_neg z, if_pos (by omega)]; exact hki
    · rw [cif_neg c]
      exact ⟨a1, a2, by omega, a4, a5, fun q q1 => a6 q (by omega), a7, a8, a9, a10, a11⟩
