/-! CODE of the class: its letters while it is being made -/
/-- is item j a jump ahead; where its number lies among its letters -/
def pnd (X : List It) (j : Nat) : Prop := (itm X j).1 = 8 ∨ (itm X j).1 = 9 ∨ (itm X j).1 = 11
def psh (X : List It) (j : Nat) : Nat := if (itm X j).1 = 9 then 0 else 1
/-- the letters of item j when k items have been made, calls not yet led -/
noncomputable def itK (Q : Pr) (p k j : Nat) : List (Int × Int) :=
  if (itm (Q.2.1 p) j).1 = 7 then [(1, ig (itm (Q.2.1 p) j) 1), (15, ig (itm (Q.2.1 p) j) 2)]
  else if (itm (Q.2.1 p) j).1 = 8 ∨ (itm (Q.2.1 p) j).1 = 11 then [(1, ig (itm (Q.2.1 p) j) 1), (13, if mtL (Q.2.1 p) j < k then (adr Q p (mtL (Q.2.1 p) j) : Int) + 1 else 0)]
  else if (itm (Q.2.1 p) j).1 = 9 then [(14, if mtL (Q.2.1 p) j < k then (adr Q p (mtL (Q.2.1 p) j) : Int) else 0)]
  else itc Q p j
noncomputable def rkC (Q : Pr) (p k : Nat) : Nat → List (Int × Int)
  | 0 => []
  | m + 1 => rkC Q p k m ++ itK Q p k m
section
variable {Q : Pr} {p : Nat}
theorem itK_len (k : Nat) {j : Nat} (h0 : 0 ≤ (itm (Q.2.1 p) j).1) (h12 : (itm (Q.2.1 p) j).1 ≤ 12) : (itK Q p k j).length = nlk (Q.2.1 p) j := by
  unfold itK
  by_cases c7 : (itm (Q.2.1 p) j).1 = 7
  · rw [if_pos c7]
    unfold nlk
    rw [if_neg (by omega), if_neg (by omega), if_neg (by omega), if_neg (by omega), if_neg (by omega)]
    rfl
  rw [if_neg c7]
  by_cases c8 : (itm (Q.2.1 p) j).1 = 8 ∨ (itm (Q.2.1 p) j).1 = 11
  · rw [if_pos c8]
    show (2 : Nat) = nlk (Q.2.1 p) j
    unfold nlk
    rw [if_neg (by omega), if_neg (by omega), if_neg (by omega), if_neg (by omega), if_neg (by omega)]
  rw [if_neg c8]
  by_cases c9 : (itm (Q.2.1 p) j).1 = 9
  · rw [if_pos c9]
    show (1 : Nat) = nlk (Q.2.1 p) j
    unfold nlk
    rw [if_neg (by omega), if_neg (by omega), if_neg (by omega), if_pos c9]
  rw [if_neg c9]
  exact itc_len h0 h12
theorem rkC_len (hQ : WO Q) (hp : exP Q p) (k : Nat) : ∀ m, m ≤ (Q.2.1 p).length → (rkC Q p k m).length = adk (Q.2.1 p) m
  | 0, _ => rfl
  | m + 1, h => by
    obtain ⟨o1, o2, -⟩ := (hQ.2 p hp).2.2.2 _ (itm_mem (show m < (Q.2.1 p).length by omega))
    show (rkC Q p k m ++ itK Q p k m).length = adk (Q.2.1 p) m + nlk (Q.2.1 p) m
    rw [List.length_append, rkC_len hQ hp k m (by omega), itK_len k o1 o2]
theorem itK_a (k : Nat) {j : Nat} (c : (itm (Q.2.1 p) j).1 = 8 ∨ (itm (Q.2.1 p) j).1 = 11) : itK Q p k j = [(1, ig (itm (Q.2.1 p) j) 1), (13, if mtL (Q.2.1 p) j < k then (adr Q p (mtL (Q.2.1 p) j) : Int) + 1 else 0)] := by
  unfold itK
  rw [if_neg (show ¬ (itm (Q.2.1 p) j).1 = 7 by omega), if_pos c]
theorem itK_b (k : Nat) {j : Nat} (c : (itm (Q.2.1 p) j).1 = 9) : itK Q p k j = [(14, if mtL (Q.2.1 p) j < k then (adr Q p (mtL (Q.2.1 p) j) : Int) else 0)] := by
  unfold itK
  rw [if_neg (show ¬ (itm (Q.2.1 p) j).1 = 7 by omega), if_neg (show ¬ ((itm (Q.2.1 p) j).1 = 8 ∨ (itm (Q.2.1 p) j).1 = 11) by omega), if_pos c]
theorem itK_c (k k' : Nat) {j : Nat} (h : ¬ pnd (Q.2.1 p) j) : itK Q p k j = itK Q p k' j := by
  unfold pnd at h
  unfold itK
  rw [if_neg (show ¬ ((itm (Q.2.1 p) j).1 = 8 ∨ (itm (Q.2.1 p) j).1 = 11) by omega), if_neg (show ¬ (itm (Q.2.1 p) j).1 = 9 by omega), if_neg (show ¬ ((itm (Q.2.1 p) j).1 = 8 ∨ (itm (Q.2.1 p) j).1 = 11) by omega), if_neg (show ¬ (itm (Q.2.1 p) j).1 = 9 by omega)]
theorem ltK_s {m k : Nat} (h : m ≠ k) {a b : Int} : (if m < k + 1 then a else b) = if m < k then a else b := by
  by_cases e : m < k
  · rw [if_pos e, if_pos (show m < k + 1 by omega)]
  · rw [if_neg e, if_neg (show ¬ m < k + 1 by omega)]
/-- nothing changes where nothing was awaited -/
theorem itK_same {k j : Nat} (h : ¬ (pnd (Q.2.1 p) j ∧ mtL (Q.2.1 p) j = k)) : itK Q p (k + 1) j = itK Q p k j := by
  by_cases c : pnd (Q.2.1 p) j
  · have hm : mtL (Q.2.1 p) j ≠ k := fun q => h ⟨c, q⟩
    by_cases c9 : (itm (Q.2.1 p) j).1 = 9
    · rw [itK_b _ c9, itK_b _ c9, ltK_s hm]
    · have c8 : (itm (Q.2.1 p) j).1 = 8 ∨ (itm (Q.2.1 p) j).1 = 11 := by unfold pnd at c; omega
      rw [itK_a _ c8, itK_a _ c8, ltK_s hm]
  · exact itK_c _ _ c
theorem rkC_same {k : Nat} : ∀ m, (∀ j, j < m → ¬ (pnd (Q.2.1 p) j ∧ mtL (Q.2.1 p) j = k)) → rkC Q p (k + 1) m = rkC Q p k m
  | 0, _ => rfl
  | m + 1, h => by
    show rkC Q p (k + 1) m ++ itK Q p (k + 1) m = rkC Q p k m ++ itK Q p k m
    rw [rkC_same m (fun j hj => h j (by omega)), itK_same (h m (by omega))]
theorem sn_app1 {l m : List (Int × Int)} {v : Nat} {y : Int} (h : v < l.length) : sn (l ++ m) v y = sn l v y ++ m := by
  unfold sn
  rw [cdA_l h, List.set_append_left _ _ h]
theorem sn_app2 {l m : List (Int × Int)} {v : Nat} {y : Int} : sn (l ++ m) (l.length + v) y = l ++ sn m v y := by
  unfold sn
  rw [cdA_r (by omega), Nat.add_sub_cancel_left, List.set_append_right _ _ (by omega), Nat.add_sub_cancel_left]
/-- item j's own letters: its number is put in -/
theorem itK_set {k j : Nat} (hp : pnd (Q.2.1 p) j) (hm : mtL (Q.2.1 p) j = k) : itK Q p (k + 1) j = sn (itK Q p k j) (psh (Q.2.1 p) j) (if (itm (Q.2.1 p) j).1 = 9 then (adr Q p k : Int) else (adr Q p k : Int) + 1) := by
  unfold psh
  by_cases c9 : (itm (Q.2.1 p) j).1 = 9
  · rw [itK_b _ c9, itK_b _ c9, hm, if_pos (show k < k + 1 by omega), if_pos c9, if_pos c9]
    rfl
  · have c8 : (itm (Q.2.1 p) j).1 = 8 ∨ (itm (Q.2.1 p) j).1 = 11 := by unfold pnd at hp; omega
    rw [itK_a _ c8, itK_a _ c8, hm, if_pos (show k < k + 1 by omega), if_neg c9, if_neg c9]
    rfl
theorem rkC_set (hQ : WO Q) (hp : exP Q p) {k j : Nat} (hj : pnd (Q.2.1 p) j) (hm : mtL (Q.2.1 p) j = k) (hu : ∀ i, pnd (Q.2.1 p) i → mtL (Q.2.1 p) i = k → i < (Q.2.1 p).length → i = j) : ∀ m, j < m → m ≤ (Q.2.1 p).length → rkC Q p (k + 1) m = sn (rkC Q p k m) (adk (Q.2.1 p) j + psh (Q.2.1 p) j) (if (itm (Q.2.1 p) j).1 = 9 then (adr Q p k : Int) else (adr Q p k : Int) + 1)
  | 0, h, _ => by omega
  | m + 1, h, hl => by
    show rkC Q p (k + 1) m ++ itK Q p (k + 1) m = sn (rkC Q p k m ++ itK Q p k m) _ _
    by_cases e : j = m
    · subst e
      have := rkC_len hQ hp k j (by omega)
      rw [← this, sn_app2, itK_set hj hm, rkC_same j (fun i hi q => by have := hu i q.1 q.2 (by omega); omega)]
    · obtain ⟨o1, o2, -⟩ := (hQ.2 p hp).2.2.2 _ (itm_mem (show j < (Q.2.1 p).length by omega))
      have l1 := rkC_len hQ hp k m (by omega)
      have l2 := adk_mono (X := Q.2.1 p) (show j + 1 ≤ m by omega)
      have l3 : adk (Q.2.1 p) (j + 1) = adk (Q.2.1 p) j + nlk (Q.2.1 p) j := rfl
      have l4 : psh (Q.2.1 p) j < nlk (Q.2.1 p) j := by
        unfold pnd at hj
        unfold psh nlk
        rw [if_neg (show ¬ (itm (Q.2.1 p) j).1 = 2 by omega), if_neg (show ¬ ((itm (Q.2.1 p) j).1 = 3 ∨ (itm (Q.2.1 p) j).1 = 4) by omega), if_neg (show ¬ (itm (Q.2.1 p) j).1 = 10 by omega)]
        by_cases c9 : (itm (Q.2.1 p) j).1 = 9
        · rw [if_pos c9, if_pos c9]; decide
        · rw [if_neg c9, if_neg c9, if_neg (show ¬ (itm (Q.2.1 p) j).1 = 12 by omega)]; decide
      rw [sn_app1 (by omega), rkC_set hQ hp hj hm hu m (by omega) (by omega), itK_same (fun q => by have := hu m q.1 q.2 (by omega); omega)]
/-- calls are led -/
noncomputable def pch (Q : Pr) (x : Int × Int) : Int × Int := if x.1 = 15 ∧ 0 ≤ x.2 ∧ x.2 < 3 then (15, (ofP Q x.2.toNat : Int)) else x
theorem itK_pch (hG : GQ Q) (hp : exP Q p) {j : Nat} (hj : j < (Q.2.1 p).length) : (itK Q p (Q.2.1 p).length j).map (pch Q) = itc Q p j := by
  obtain ⟨o1, o2, o3, o4, o5⟩ := (hG.1.2 p hp).2.2.2 _ (itm_mem hj)
  have pt := mt_pt (hG.n.2.1 p hp) hj
  have h3 := hG.1.1
  have ne : ∀ a b : Int, a ≠ 15 → pch Q (a, b) = (a, b) := fun a b h => if_neg (fun z => h z.1)
  have nd : ∀ x : Int × Int, x.1 ≠ 15 → pch Q x = x := fun x h => if_neg (fun z => h z.1)
  by_cases c7 : (itm (Q.2.1 p) j).1 = 7
  · have o5 := o5 c7
    unfold itK
    rw [if_pos c7]
    unfold itc
    rw [if_neg (by omega), if_neg (by omega), if_neg (by omega), if_neg (by omega), if_neg (by omega), if_neg (by omega), if_neg (by omega), if_pos c7]
    have e : pch Q (15, ig (itm (Q.2.1 p) j) 2) = (15, (ofP Q (ig (itm (Q.2.1 p) j) 2).toNat : Int)) := if_pos ⟨rfl, by show 0 ≤ ig (itm (Q.2.1 p) j) 2; omega, by show ig (itm (Q.2.1 p) j) 2 < 3; omega⟩
    simp only [List.map_cons, List.map_nil]
    rw [ne 1 _ (by decide), e]
  by_cases c8 : (itm (Q.2.1 p) j).1 = 8 ∨ (itm (Q.2.1 p) j).1 = 11
  · have hm : mtL (Q.2.1 p) j < (Q.2.1 p).length := by
      rcases c8 with c | c
      · have := pt.1 c; omega
      · have := pt.2.2.2.1 c; omega
    rw [itK_a _ c8, if_pos hm]
    simp only [List.map_cons, List.map_nil]
    rw [ne 1 _ (by decide), ne 13 _ (by decide)]
    unfold itc
    rcases c8 with c | c
    · rw [if_neg (by omega), if_neg (by omega), if_neg (by omega), if_neg (by omega), if_neg (by omega), if_neg (by omega), if_neg (by omega), if_neg (by omega), if_pos c]
    · rw [if_neg (by omega), if_neg (by omega), if_neg (by omega), if_neg (by omega), if_neg (by omega), if_neg (by omega), if_neg (by omega), if_neg (by omega), if_neg (by omega), if_neg (by omega), if_pos c]
  by_cases c9 : (itm (Q.2.1 p) j).1 = 9
  · have hm : mtL (Q.2.1 p) j < (Q.2.1 p).length := by have := pt.2.1 c9; omega
    rw [itK_b _ c9, if_pos hm]
    simp only [List.map_cons, List.map_nil]
    rw [ne 14 _ (by decide)]
    unfold itc
    rw [if_neg (by omega), if_neg (by omega), if_neg (by omega), if_neg (by omega), if_neg (by omega), if_neg (by omega), if_neg (by omega), if_neg (by omega), if_neg (by omega), if_pos c9]
  have eK : itK Q p (Q.2.1 p).length j = itc Q p j := by
    unfold itK
    rw [if_neg c7, if_neg c8, if_neg c9]
  rw [eK]
  unfold itc
  by_cases c0 : (itm (Q.2.1 p) j).1 = 0
  · rw [if_pos c0]; simp only [List.map_cons, List.map_nil]; rw [ne 0 _ (by decide), ne 2 _ (by decide)]
  rw [if_neg c0]
  by_cases c1 : (itm (Q.2.1 p) j).1 = 1
  · rw [if_pos c1]; simp only [List.map_cons, List.map_nil]; rw [ne 1 _ (by decide), ne 2 _ (by decide)]
  rw [if_neg c1]
  by_cases c2 : (itm (Q.2.1 p) j).1 = 2
  · have o4 := o4 c2
    rw [if_pos c2]; simp only [List.map_cons, List.map_nil]; rw [ne 1 _ (by decide), ne 1 _ (by decide), ne (3 + ig (itm (Q.2.1 p) j) 4) _ (by omega), ne 2 _ (by decide)]
  rw [if_neg c2]
  by_cases c3 : (itm (Q.2.1 p) j).1 = 3
  · rw [if_pos c3]; simp only [List.map_cons, List.map_nil]; rw [ne 1 _ (by decide), ne 9 _ (by decide), ne 2 _ (by decide)]
  rw [if_neg c3]
  by_cases c4 : (itm (Q.2.1 p) j).1 = 4
  · rw [if_pos c4]; simp only [List.map_cons, List.map_nil]; rw [ne 1 _ (by decide), ne 1 _ (by decide), ne 10 _ (by decide)]
  rw [if_neg c4]
  by_cases c5 : (itm (Q.2.1 p) j).1 = 5
  · rw [if_pos c5]; simp only [List.map_cons, List.map_nil]; rw [ne 11 _ (by decide), ne 2 _ (by decide)]
  rw [if_neg c5]
  by_cases c6 : (itm (Q.2.1 p) j).1 = 6
  · rw [if_pos c6]; simp only [List.map_cons, List.map_nil]; rw [ne 1 _ (by decide), ne 12 _ (by decide)]
  rw [if_neg c6, if_neg c7, if_neg (show ¬ (itm (Q.2.1 p) j).1 = 8 by omega), if_neg c9, if_neg (show ¬ (itm (Q.2.1 p) j).1 = 11 by omega)]
  by_cases c12 : (itm (Q.2.1 p) j).1 = 12
  · rw [if_pos c12]
    by_cases cm : (itm (Q.2.1 p) (mtL (Q.2.1 p) j)).1 = 10
    · rw [if_pos cm]; simp only [List.map_cons, List.map_nil]; rw [ne 14 _ (by decide)]
    · rw [if_neg cm]; rfl
  · rw [if_neg c12]; rfl
theorem rkC_pch (hG : GQ Q) (hp : exP Q p) : ∀ m, m ≤ (Q.2.1 p).length → (rkC Q p (Q.2.1 p).length m).map (pch Q) = pcd Q p m
  | 0, _ => rfl
  | m + 1, h => by
    show (rkC Q p (Q.2.1 p).length m ++ itK Q p (Q.2.1 p).length m).map (pch Q) = pcd Q p m ++ itc Q p m
    rw [List.map_append, rkC_pch hG hp m (by omega), itK_pch hG hp (by omega)]
end
