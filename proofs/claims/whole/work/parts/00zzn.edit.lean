/-! one number of an item is changed -/
def flt (k : Int) : Int := if k ≤ 7 then 0 else k
theorem flt_8 {k : Int} (h : 8 ≤ k) : flt k = k := by unfold flt; rw [if_neg (by omega)]
theorem flt_7 {k : Int} (h : k ≤ 7) : flt k = 0 := by unfold flt; rw [if_pos h]
theorem Bl_flat {nd : Int → Nat} {kd nm nm' : Nat → Int} {mt : Nat → Nat} : ∀ n a b, Bl nd kd nm mt n a b → Bl (fun _ => 0) (fun k => flt (kd k)) nm' mt n a b := by
  have key : ∀ (n : Nat) (In Jn : Nat → Nat → Prop), (∀ x y, In x y → Jn x y) → ∀ l a b, Bs nd kd nm mt n In l a b → Bs (fun _ => 0) (fun k => flt (kd k)) nm' mt n Jn l a b := by
    intro n In Jn hIJ l
    induction l with
    | zero => intro a b h; exact h
    | succ l ih =>
      intro a b h
      rcases h with h | ⟨hab, ⟨h, h'⟩ | h | h⟩
      · exact Or.inl h
      · refine Or.inr ⟨hab, Or.inl ⟨Or.inl ?_, ih _ _ h'⟩⟩
        dsimp only
        rw [flt_7 (by omega)]
        decide
      · obtain ⟨q1, q2, q3, q4, q5, q6, q7, q8, q9, q10⟩ := h
        exact Or.inr ⟨hab, Or.inr (Or.inl ⟨by dsimp only; rw [flt_8 (by omega)]; exact q1, q2, q3, q4, by dsimp only; rw [flt_8 (by omega)]; exact q5, by dsimp only; rw [flt_8 (by omega)]; exact q6, q7, hIJ _ _ q8, hIJ _ _ q9, ih _ _ q10⟩)⟩
      · obtain ⟨q1, q2, q3, q4, q5, q6, q7, q8, q9, q10⟩ := h
        exact Or.inr ⟨hab, Or.inr (Or.inr ⟨by dsimp only; rw [flt_8 (by omega)]; exact q1, q2, q3, q4, by dsimp only; rw [flt_8 (by omega)]; exact q5, by dsimp only; rw [flt_8 (by omega)]; exact q6, q7, fun k k1 k2 => by
          have := q8 k k1 k2
          dsimp only
          rw [flt_7 (by omega)]
          decide, hIJ _ _ q9, ih _ _ q10⟩)⟩
  intro n
  induction n with
  | zero => intro a b h; exact ⟨h.1, fun k k1 k2 => by have := h.2 k k1 k2; dsimp only; rw [flt_7 (by omega)]; decide⟩
  | succ n ih => intro a b h; exact key n _ _ ih _ a b h
theorem Bl_uniq2 {nd nd' : Int → Nat} {kd kd' nm nm' : Nat → Int} {mt mt' : Nat → Nat} {n n' a b : Nat} (h : Bl nd kd nm mt n a b) (g : Bl nd' kd' nm' mt' n' a b) (hk : ∀ k, a ≤ k → k < b → flt (kd k) = flt (kd' k)) : ∀ k, a ≤ k → k < b → 8 ≤ kd k → mt k = mt' k := by
  have h1 := Bl_mono (Bl_flat (nm' := fun _ => 0) _ _ _ h) (Nat.le_max_left n n')
  have g0 := Bl_congr (kd' := fun k => flt (kd k)) (nm' := fun _ => 0) (mt' := mt') (Bl_flat (nm' := fun _ => 0) _ _ _ g) (fun k k1 k2 => ⟨hk k k1 k2, rfl, fun _ => rfl⟩)
  have g1 := Bl_mono g0 (Nat.le_max_right n n')
  intro k k1 k2 k8
  exact Bl_uniq _ _ _ h1 g1 k k1 k2 (by rw [flt_8 k8]; exact k8)
/-- mates that are linked are the mates -/
theorem mtC_eq {Q : Pr} {p : Nat} {nd' : Int → Nat} {kd nm : Nat → Int} {mt' : Nat → Nat} {n' : Nat} (hG : GQ Q) (hp : exP Q p) (hk : ∀ k, k < (Q.2.1 p).length → flt (kd k) = flt (itm (Q.2.1 p) k).1) (h : Bl nd' kd nm mt' n' 0 (Q.2.1 p).length) : ∀ k, k < (Q.2.1 p).length → 8 ≤ kd k → mt' k = mtC Q p k := by
  intro k k1 k8
  exact Bl_uniq2 h (hG.m p hp) (fun k _ k2 => hk k k2) k (by omega) k1 k8
def setN (i : It) (w : Nat) (v : Int) : It := match w with
  | 0 => (i.1, v, i.2.2)
  | 1 => (i.1, i.2.1, v, i.2.2.2)
  | 2 => (i.1, i.2.1, i.2.2.1, v, i.2.2.2.2)
  | _ => (i.1, i.2.1, i.2.2.1, i.2.2.2.1, v)
theorem setN_1 (i : It) (w : Nat) (v : Int) : (setN i w v).1 = i.1 := by
  unfold setN
  split <;> rfl
theorem setN_g (i : It) {w j : Nat} (v : Int) (hw : w < 4) (hj : j < 4) : ig (setN i w v) (j + 1) = if j = w then v else ig i (j + 1) := by
  obtain ⟨a, b, c, d, e⟩ := i
  rcases (show w = 0 ∨ w = 1 ∨ w = 2 ∨ w = 3 by omega) with rfl | rfl | rfl | rfl <;> rcases (show j = 0 ∨ j = 1 ∨ j = 2 ∨ j = 3 by omega) with rfl | rfl | rfl | rfl <;> rfl
def updP (Q : Pr) (p : Nat) (X : List It) : Pr := (Q.1, fun q => if q = p then X else Q.2.1 q, Q.2.2)
theorem szL_sk {sz : Nat → Nat} {X Y : List It} (h : X.map sk = Y.map sk) : szL sz X = szL sz Y := by
  have e : ∀ Z : List It, szL sz Z = ((Z.map sk).map (fun q => 1 + if q.1 = 7 then sz q.2.toNat else 0)).sum := fun Z => by
    unfold szL
    rw [List.map_map]
    congr 1
    apply List.map_congr_left
    intro i _
    show _ = 1 + if (sk i).1 = 7 then sz (sk i).2.toNat else 0
    unfold sk
    dsimp only
    by_cases c : i.1 = 7
    · rw [if_pos c, if_pos c, if_pos c]
    · rw [if_neg c, if_neg c]
  rw [e, e, h]
section
variable {Q : Pr} {p : Nat} {X : List It}
theorem updP_o {q : Nat} (h : q ≠ p) : (updP Q p X).2.1 q = Q.2.1 q := by
  show (if q = p then X else Q.2.1 q) = _
  rw [if_neg h]
theorem updP_s : (updP Q p X).2.1 p = X := by
  show (if p = p then X else Q.2.1 p) = _
  rw [if_pos rfl]
/-- a part of the same make -/
theorem GQ.upd (hG : GQ Q) (hp : exP Q p) (hk : (Q.2.1 p).map sk = X.map sk) (hi : ∀ i ∈ X, okI Q.1 p (Q.2.2 p) i) : GQ (updP Q p X) := by
  obtain ⟨⟨o1, o2⟩, nd, sz, n1, n2, n3, n4⟩ := hG
  have hl : X.length = (Q.2.1 p).length := by
    have := congrArg List.length hk
    rw [List.length_map, List.length_map] at this
    omega
  refine ⟨⟨o1, fun q hq => ?_⟩, nd, sz, n1, fun q hq => ?_, fun q hq => ?_, ?_⟩
  · obtain ⟨a, b, c, d⟩ := o2 q hq
    refine ⟨a, b, ?_, ?_⟩
    · by_cases e : q = p
      · rw [e, updP_s, hl]; rw [e] at c; exact c
      · rw [updP_o e]; exact c
    · by_cases e : q = p
      · rw [e, updP_s]; exact hi
      · rw [updP_o e]; exact d
  · by_cases e : q = p
    · rw [e, updP_s]; exact bal_sk _ _ (n2 p hp) X hk
    · rw [updP_o e]; exact n2 q hq
  · by_cases e : q = p
    · rw [e, updP_s, ← szL_sk hk]; rw [e] at hq; exact n3 p hq
    · rw [updP_o e]; exact n3 q hq
  · by_cases e : 3 = p
    · rw [e, updP_s, ← szL_sk hk]; rw [e] at n4; exact n4
    · rw [updP_o e]; exact n4
end
theorem set_sk {X : List It} {k : Nat} {i' : It} (h : k < X.length) (he : sk i' = sk (itm X k)) : X.map sk = (X.set k i').map sk := by
  apply List.ext_getElem
  · rw [List.length_map, List.length_map, List.length_set]
  · intro j h1 h2
    rw [List.getElem_map, List.getElem_map, List.getElem_set]
    by_cases c : k = j
    · subst c
      rw [if_pos rfl, he, itm_get h]
    · rw [if_neg c]
theorem itm_set {X : List It} {k j : Nat} {i' : It} (hj : j < X.length) : itm (X.set k i') j = if j = k then i' else itm X j := by
  rw [itm_get (by rw [List.length_set]; exact hj), List.getElem_set, itm_get hj]
  by_cases c : k = j
  · rw [if_pos c, if_pos c.symm]
  · rw [if_neg c, if_neg (fun z => c z.symm)]
/-! the class's static rows -/
def rdk (k : Int) : Int := if k = 2 ∨ k = 4 then 2 else if k = 1 ∨ k = 3 ∨ k = 6 ∨ k = 7 ∨ k = 8 ∨ k = 11 then 1 else 0
def frk (k : Int) : Int := if k = 1 ∨ k = 2 ∨ k = 3 then 1 else 0
def STA (A : zA) : Prop := ∀ k : Nat, k < 13 → ri A 1 k = rdk k ∧ ri A 2 k = frk k ∧ ri A 3 k = nbk k
theorem STA.fr {S : List Nat} {A B : zA} (h : STA A) (f : cF S A B) (h1 : S.contains 1 = false) (h2 : S.contains 2 = false) (h3 : S.contains 3 = false) : STA B := fun k hk => by
  rw [f.e (by decide) h1, f.e (by decide) h2, f.e (by decide) h3]
  exact h k hk
