/-! CODE: what it is -/
section
variable {nd : Int → Nat} {kd nm : Nat → Int} {mt : Nat → Nat}
/-- what mates are, place by place -/
def PtF (kd : Nat → Int) (mt : Nat → Nat) (a b k : Nat) : Prop :=
  (kd k = 8 → k < mt k ∧ mt k < mt (mt k) ∧ mt (mt k) < b ∧ kd (mt k) = 9 ∧ kd (mt (mt k)) = 12 ∧ mt (mt (mt k)) = k) ∧
  (kd k = 9 → a ≤ mt (mt k) ∧ mt (mt k) < k ∧ k < mt k ∧ mt k < b ∧ kd (mt (mt k)) = 8 ∧ kd (mt k) = 12 ∧ mt (mt (mt k)) = k) ∧
  (kd k = 10 → k < mt k ∧ mt k < mt (mt k) ∧ mt (mt k) < b ∧ kd (mt k) = 11 ∧ kd (mt (mt k)) = 12 ∧ mt (mt (mt k)) = k) ∧
  (kd k = 11 → a ≤ mt (mt k) ∧ mt (mt k) < k ∧ k < mt k ∧ mt k < b ∧ kd (mt (mt k)) = 10 ∧ kd (mt k) = 12 ∧ mt (mt (mt k)) = k) ∧
  (kd k = 12 → a ≤ mt k ∧ mt k < mt (mt k) ∧ mt (mt k) < k ∧ ((kd (mt k) = 8 ∧ kd (mt (mt k)) = 9) ∨ (kd (mt k) = 10 ∧ kd (mt (mt k)) = 11)) ∧ mt (mt (mt k)) = k)
theorem PtF.w {a b a' b' k : Nat} (h : PtF kd mt a b k) (ha : a' ≤ a) (hb : b ≤ b') : PtF kd mt a' b' k := by
  obtain ⟨h1, h2, h3, h4, h5⟩ := h
  refine ⟨fun q => ?_, fun q => ?_, fun q => ?_, fun q => ?_, fun q => ?_⟩
  · have := h1 q; exact ⟨this.1, this.2.1, by omega, this.2.2.2⟩
  · have := h2 q; exact ⟨by omega, this.2.1, this.2.2.1, by omega, this.2.2.2.2⟩
  · have := h3 q; exact ⟨this.1, this.2.1, by omega, this.2.2.2⟩
  · have := h4 q; exact ⟨by omega, this.2.1, this.2.2.1, by omega, this.2.2.2.2⟩
  · have := h5 q; exact ⟨by omega, this.2⟩
theorem PtF.pl {a b k : Nat} (h : 0 ≤ kd k ∧ kd k ≤ 7) : PtF kd mt a b k := ⟨fun q => by omega, fun q => by omega, fun q => by omega, fun q => by omega, fun q => by omega⟩
theorem Bl_pt : ∀ n a b, Bl nd kd nm mt n a b → ∀ k, a ≤ k → k < b → PtF kd mt a b k := Bl_rec (P := fun _ a b => ∀ k, a ≤ k → k < b → PtF kd mt a b k)
  (fun n a k h1 h2 => by omega)
  (fun n a b hab hk hb ih k h1 h2 => by
    by_cases e : k = a
    · rw [e]
      exact PtF.pl (by rcases hk with hk | hk <;> omega)
    · exact (ih k (by omega) h2).w (by omega) (Nat.le_refl _))
  (fun n a b k8 h1 h2 h3 k9 k12 hm b1 b2 b3 i1 i2 i3 k q1 q2 => by
    by_cases e1 : k = a
    · subst e1
      exact ⟨fun _ => ⟨h1, h2, h3, k9, k12, hm⟩, fun q => by omega, fun q => by omega, fun q => by omega, fun q => by omega⟩
    by_cases e2 : k = mt a
    · subst e2
      rw [← hm] at q1
      exact ⟨fun q => by omega, fun _ => by rw [hm]; exact ⟨Nat.le_refl _, h1, h2, h3, k8, k12, rfl⟩, fun q => by omega, fun q => by omega, fun q => by omega⟩
    by_cases e3 : k = mt (mt a)
    · subst e3
      exact ⟨fun q => by omega, fun q => by omega, fun q => by omega, fun q => by omega, fun _ => by rw [hm]; exact ⟨Nat.le_refl _, h1, h2, Or.inl ⟨k8, k9⟩, rfl⟩⟩
    rcases Nat.lt_or_ge k (mt a) with q | q
    · exact (i1 k (by omega) q).w (by omega) (by omega)
    · rcases Nat.lt_or_ge k (mt (mt a)) with q' | q'
      · exact (i2 k (by omega) q').w (by omega) (by omega)
      · exact (i3 k (by omega) q2).w (by omega) (Nat.le_refl _))
  (fun n a b k8 h1 h2 h3 k9 k12 hm hpl b1 b2 b3 i1 i2 i3 k q1 q2 => by
    by_cases e1 : k = a
    · subst e1
      exact ⟨fun q => by omega, fun q => by omega, fun _ => ⟨h1, h2, h3, k9, k12, hm⟩, fun q => by omega, fun q => by omega⟩
    by_cases e2 : k = mt a
    · subst e2
      rw [← hm] at q1
      exact ⟨fun q => by omega, fun q => by omega, fun q => by omega, fun _ => by rw [hm]; exact ⟨Nat.le_refl _, h1, h2, h3, k8, k12, rfl⟩, fun q => by omega⟩
    by_cases e3 : k = mt (mt a)
    · subst e3
      exact ⟨fun q => by omega, fun q => by omega, fun q => by omega, fun q => by omega, fun _ => by rw [hm]; exact ⟨Nat.le_refl _, h1, h2, Or.inr ⟨k8, k9⟩, rfl⟩⟩
    rcases Nat.lt_or_ge k (mt a) with q | q
    · exact (i1 k (by omega) q).w (by omega) (by omega)
    · rcases Nat.lt_or_ge k (mt (mt a)) with q' | q'
      · exact (i2 k (by omega) q').w (by omega) (by omega)
      · exact (i3 k (by omega) q2).w (by omega) (Nat.le_refl _))
end
theorem mt_pt {X : List It} {nd : Int → Nat} {n : Nat} (hb : bal nd n X) {k : Nat} (hk : k < X.length) : PtF (fun k => (itm X k).1) (mtL X) 0 X.length k := Bl_pt _ _ _ (Bl_L hb) k (Nat.zero_le _) hk
noncomputable def nlk (X : List It) (k : Nat) : Nat := if (itm X k).1 = 2 then 4 else if (itm X k).1 = 3 ∨ (itm X k).1 = 4 then 3 else if (itm X k).1 = 10 then 0 else if (itm X k).1 = 9 then 1 else if (itm X k).1 = 12 then (if (itm X (mtL X k)).1 = 10 then 1 else 0) else 2
theorem nlk_le (X : List It) (k : Nat) : nlk X k ≤ 4 := by
  unfold nlk
  repeat' split
  all_goals omega
/-- where item k's letters begin, in its part -/
noncomputable def adk (X : List It) : Nat → Nat
  | 0 => 0
  | k + 1 => adk X k + nlk X k
theorem adk_le (X : List It) : ∀ k, adk X k ≤ 4 * k
  | 0 => Nat.le_refl _
  | k + 1 => by
    have := adk_le X k
    have := nlk_le X k
    show adk X k + nlk X k ≤ 4 * (k + 1)
    omega
theorem adk_mono {X : List It} {j : Nat} : ∀ {k : Nat}, j ≤ k → adk X j ≤ adk X k
  | 0, h => by rw [show j = 0 by omega]; exact Nat.le_refl _
  | k + 1, h => by
    rcases Nat.lt_or_ge j (k + 1) with q | q
    · have := adk_mono (X := X) (show j ≤ k by omega)
      show adk X j ≤ adk X k + nlk X k
      omega
    · rw [show j = k + 1 by omega]; exact Nat.le_refl _
/-- where procedure q's letters begin -/
noncomputable def ofP (Q : Pr) : Nat → Nat
  | 0 => adk (Q.2.1 3) (Q.2.1 3).length + 1
  | q + 1 => ofP Q q + adk (Q.2.1 q) (Q.2.1 q).length + 2
noncomputable def adr (Q : Pr) (p k : Nat) : Nat := (if p = 3 then 0 else ofP Q p + 1) + adk (Q.2.1 p) k
noncomputable def itc (Q : Pr) (p k : Nat) : List (Int × Int) :=
  if (itm (Q.2.1 p) k).1 = 0 then [(0, ig (itm (Q.2.1 p) k) 2), (2, ig (itm (Q.2.1 p) k) 1)]
  else if (itm (Q.2.1 p) k).1 = 1 then [(1, ig (itm (Q.2.1 p) k) 2), (2, ig (itm (Q.2.1 p) k) 1)]
  else if (itm (Q.2.1 p) k).1 = 2 then [(1, ig (itm (Q.2.1 p) k) 2), (1, ig (itm (Q.2.1 p) k) 3), (3 + ig (itm (Q.2.1 p) k) 4, 0), (2, ig (itm (Q.2.1 p) k) 1)]
  else if (itm (Q.2.1 p) k).1 = 3 then [(1, ig (itm (Q.2.1 p) k) 2), (9, 0), (2, ig (itm (Q.2.1 p) k) 1)]
  else if (itm (Q.2.1 p) k).1 = 4 then [(1, ig (itm (Q.2.1 p) k) 1), (1, ig (itm (Q.2.1 p) k) 2), (10, 0)]
  else if (itm (Q.2.1 p) k).1 = 5 then [(11, 0), (2, ig (itm (Q.2.1 p) k) 1)]
  else if (itm (Q.2.1 p) k).1 = 6 then [(1, ig (itm (Q.2.1 p) k) 1), (12, 0)]
  else if (itm (Q.2.1 p) k).1 = 7 then [(1, ig (itm (Q.2.1 p) k) 1), (15, (ofP Q (ig (itm (Q.2.1 p) k) 2).toNat : Int))]
  else if (itm (Q.2.1 p) k).1 = 8 then [(1, ig (itm (Q.2.1 p) k) 1), (13, (adr Q p (mtL (Q.2.1 p) k) : Int) + 1)]
  else if (itm (Q.2.1 p) k).1 = 9 then [(14, (adr Q p (mtL (Q.2.1 p) k) : Int))]
  else if (itm (Q.2.1 p) k).1 = 11 then [(1, ig (itm (Q.2.1 p) k) 1), (13, (adr Q p (mtL (Q.2.1 p) k) : Int) + 1)]
  else if (itm (Q.2.1 p) k).1 = 12 then (if (itm (Q.2.1 p) (mtL (Q.2.1 p) k)).1 = 10 then [(14, (adr Q p (mtL (Q.2.1 p) k) : Int))] else [])
  else []
theorem itc_len {Q : Pr} {p k : Nat} (h0 : 0 ≤ (itm (Q.2.1 p) k).1) (h12 : (itm (Q.2.1 p) k).1 ≤ 12) : (itc Q p k).length = nlk (Q.2.1 p) k := by
  unfold itc nlk
  generalize (itm (Q.2.1 p) k).1 = c at *
  rcases (show c = 0 ∨ c = 1 ∨ c = 2 ∨ c = 3 ∨ c = 4 ∨ c = 5 ∨ c = 6 ∨ c = 7 ∨ c = 8 ∨ c = 9 ∨ c = 10 ∨ c = 11 ∨ c = 12 by omega) with rfl | rfl | rfl | rfl | rfl | rfl | rfl | rfl | rfl | rfl | rfl | rfl | rfl <;> try rfl
  simp
  split <;> rfl
noncomputable def pcd (Q : Pr) (p : Nat) : Nat → List (Int × Int)
  | 0 => []
  | k + 1 => pcd Q p k ++ itc Q p k
noncomputable def cdq (Q : Pr) : Nat → List (Int × Int)
  | 0 => pcd Q 3 (Q.2.1 3).length ++ [(17, 0)]
  | q + 1 => cdq Q q ++ ((2, 6) :: (pcd Q q (Q.2.1 q).length ++ [(16, 0)]))
/-- the code of a program -/
noncomputable def cod (Q : Pr) : List (Int × Int) := cdq Q Q.1
section
variable {Q : Pr}
theorem pcd_len (hQ : WO Q) {p : Nat} (hp : exP Q p) : ∀ k, k ≤ (Q.2.1 p).length → (pcd Q p k).length = adk (Q.2.1 p) k
  | 0, _ => rfl
  | k + 1, h => by
    obtain ⟨o1, o2, -⟩ := (hQ.2 p hp).2.2.2 _ (itm_mem (show k < (Q.2.1 p).length by omega))
    show (pcd Q p k ++ itc Q p k).length = adk (Q.2.1 p) k + nlk (Q.2.1 p) k
    rw [List.length_append, pcd_len hQ hp k (by omega), itc_len o1 o2]
theorem cdq_len (hQ : WO Q) : ∀ q, q ≤ Q.1 → (cdq Q q).length = ofP Q q
  | 0, _ => by
    show (pcd Q 3 (Q.2.1 3).length ++ [(17, 0)]).length = adk (Q.2.1 3) (Q.2.1 3).length + 1
    rw [List.length_append, pcd_len hQ (Or.inr rfl) _ (Nat.le_refl _)]
    rfl
  | q + 1, h => by
    show (cdq Q q ++ ((2, 6) :: (pcd Q q (Q.2.1 q).length ++ [(16, 0)]))).length = ofP Q q + adk (Q.2.1 q) (Q.2.1 q).length + 2
    rw [List.length_append, cdq_len hQ q (by omega), List.length_cons, List.length_append, pcd_len hQ (Or.inl (by omega)) _ (Nat.le_refl _)]
    simp only [List.length_cons, List.length_nil]
    omega
theorem ofP_le (hQ : WO Q) : ∀ q, q ≤ Q.1 → ofP Q q ≤ 601 + 602 * q
  | 0, _ => by
    have := adk_le (Q.2.1 3) (Q.2.1 3).length
    have := (hQ.2 3 (Or.inr rfl)).2.2.1
    show adk (Q.2.1 3) (Q.2.1 3).length + 1 ≤ _
    omega
  | q + 1, h => by
    have := ofP_le hQ q (by omega)
    have := adk_le (Q.2.1 q) (Q.2.1 q).length
    have := (hQ.2 q (Or.inl (by omega))).2.2.1
    show ofP Q q + adk (Q.2.1 q) (Q.2.1 q).length + 2 ≤ _
    omega
theorem cod_len (hQ : WO Q) : (cod Q).length ≤ 2407 := by
  have h1 := cdq_len hQ Q.1 (Nat.le_refl _)
  have h2 := ofP_le hQ Q.1 (Nat.le_refl _)
  have h3 := hQ.1
  unfold cod
  omega
theorem adr_le (hQ : WO Q) {p k : Nat} (hp : exP Q p) (hk : k ≤ 150) : adr Q p k ≤ 2406 := by
  have h3 := hQ.1
  have h1 := adk_le (Q.2.1 p) k
  unfold adr
  split
  · omega
  · have hp' : p < Q.1 := by unfold exP at hp; omega
    have := ofP_le hQ p (by omega)
    omega
end
