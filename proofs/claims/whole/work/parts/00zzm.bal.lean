/-! balanced rows: what may be put in the place of what -/
section
variable {nd : Int → Nat}
theorem bal_nil : ∀ n, bal nd n []
  | 0 => fun i hi => (by cases hi)
  | _ + 1 => ⟨[], rfl, fun s hs => (by cases hs)⟩
theorem bal_app : ∀ {n : Nat} {X Y : List It}, bal nd n X → bal nd n Y → bal nd n (X ++ Y)
  | 0, _, _, h, g => fun i hi => by
    rcases List.mem_append.mp hi with z | z
    · exact h i z
    · exact g i z
  | _ + 1, _, _, ⟨ss, h1, h2⟩, ⟨tt, g1, g2⟩ => ⟨ss ++ tt, by rw [List.flatten_append, h1, g1], fun s hs => by
    rcases List.mem_append.mp hs with z | z
    · exact h2 s z
    · exact g2 s z⟩
def lf (nd : Int → Nat) (n : Nat) (i : It) : Prop := (0 ≤ i.1 ∧ i.1 ≤ 6) ∨ (∃ m, n = m + 1 ∧ i.1 = 7 ∧ nd i.2.2.1 ≤ m)
theorem bal_one {n : Nat} {i : It} (h : lf nd n i) : bal nd n [i] := by
  cases n with
  | zero =>
    intro j hj
    rw [List.mem_singleton] at hj
    rw [hj]
    rcases h with h | ⟨m, h, -⟩
    · exact h
    · cases h
  | succ n =>
    refine ⟨[[i]], by simp, fun s hs => Or.inl ⟨i, by rw [List.mem_singleton] at hs; exact hs, ?_⟩⟩
    rcases h with h | ⟨m, h, h1, h2⟩
    · exact Or.inl h
    · cases h; exact Or.inr ⟨h1, h2⟩
theorem bal_cons {n : Nat} {i : It} {X : List It} (h : lf nd n i) (g : bal nd n X) : bal nd n (i :: X) := bal_app (bal_one h) g
theorem bal_if {n : Nat} {a b c : It} {P Q X : List It} (ha : a.1 = 8) (hb : b.1 = 9) (hc : c.1 = 12) (hP : bal nd n P) (hQ : bal nd n Q) (hX : bal nd (n + 1) X) : bal nd (n + 1) (a :: (P ++ b :: (Q ++ c :: X))) := by
  have : bal nd (n + 1) (a :: (P ++ b :: (Q ++ [c]))) := ⟨[a :: (P ++ b :: (Q ++ [c]))], by simp, fun s hs => by
    rw [List.mem_singleton] at hs
    exact Or.inr (Or.inl ⟨a, P, b, Q, c, hs, ha, hb, hc, hP, hQ⟩)⟩
  have := bal_app this hX
  simpa using this
theorem bal_wh {n : Nat} {a b c : It} {P Q X : List It} (ha : a.1 = 10) (hb : b.1 = 11) (hc : c.1 = 12) (hP : ∀ i ∈ P, 0 ≤ i.1 ∧ i.1 ≤ 6) (hQ : bal nd n Q) (hX : bal nd (n + 1) X) : bal nd (n + 1) (a :: (P ++ b :: (Q ++ c :: X))) := by
  have : bal nd (n + 1) (a :: (P ++ b :: (Q ++ [c]))) := ⟨[a :: (P ++ b :: (Q ++ [c]))], by simp, fun s hs => by
    rw [List.mem_singleton] at hs
    exact Or.inr (Or.inr ⟨a, P, b, Q, c, hs, ha, hb, hc, hP, hQ⟩)⟩
  have := bal_app this hX
  simpa using this
theorem bal_plain {n : Nat} : ∀ {X : List It}, (∀ i ∈ X, 0 ≤ i.1 ∧ i.1 ≤ 6) → bal nd n X
  | [], _ => bal_nil n
  | i :: X, h => bal_cons (Or.inl (h i List.mem_cons_self)) (bal_plain (fun j hj => h j (List.mem_cons_of_mem _ hj)))
theorem lf_mono {n m : Nat} {i : It} (h : lf nd n i) (hnm : n ≤ m) : lf nd m i := by
  rcases h with h | ⟨k, h, h1, h2⟩
  · exact Or.inl h
  · exact Or.inr ⟨m - 1, by omega, h1, by omega⟩
theorem bal_mono : ∀ n X, bal nd n X → ∀ m, n ≤ m → bal nd m X := by
  apply bal_ind
  · intro n m _; exact bal_nil m
  · intro n i X hi ih m hm; exact bal_cons (lf_mono hi hm) (ih m hm)
  · intro n a P b Q c X ha hb hc ihP ihQ ihX m hm
    obtain ⟨k, rfl⟩ : ∃ k, m = k + 1 := ⟨m - 1, by omega⟩
    exact bal_if ha hb hc (ihP k (by omega)) (ihQ k (by omega)) (ihX (k + 1) hm)
  · intro n a P b Q c X ha hb hc hP _ ihQ ihX m hm
    obtain ⟨k, rfl⟩ : ∃ k, m = k + 1 := ⟨m - 1, by omega⟩
    exact bal_wh ha hb hc hP (ihQ k (by omega)) (ihX (k + 1) hm)
theorem bal_self : ∀ n X, bal nd n X → bal nd n X := fun _ _ h => h
/-- the first of a row -/
theorem bal_inv {n : Nat} {i : It} {X : List It} (h : bal nd n (i :: X)) (h7 : i.1 ≤ 7) : lf nd n i ∧ bal nd n X := by
  cases n with
  | zero => exact ⟨Or.inl (h i List.mem_cons_self), fun j hj => h j (List.mem_cons_of_mem _ hj)⟩
  | succ n =>
    obtain ⟨ss, h1, h2⟩ := h
    cases ss with
    | nil => cases h1
    | cons s ss =>
      rw [List.flatten_cons] at h1
      rcases h2 s List.mem_cons_self with ⟨j, rfl, hj⟩ | ⟨a, P, b, Q, c, rfl, ha, -⟩ | ⟨a, P, b, Q, c, rfl, ha, -⟩
      · have e := List.cons.inj h1
        refine ⟨?_, ⟨ss, e.2, fun t ht => h2 t (List.mem_cons_of_mem _ ht)⟩⟩
        rw [e.1]
        rcases hj with hj | hj
        · exact Or.inl hj
        · exact Or.inr ⟨n, rfl, hj.1, hj.2⟩
      · have e := (List.cons.inj h1).1
        rw [e] at h7; omega
      · have e := (List.cons.inj h1).1
        rw [e] at h7; omega
theorem bal_spl {n : Nat} : ∀ {W V : List It}, bal nd n (W ++ V) → (∀ i ∈ W, i.1 ≤ 7) → bal nd n W ∧ bal nd n V
  | [], _, h, _ => ⟨bal_nil n, h⟩
  | i :: W, V, h, h7 => by
    obtain ⟨a, b⟩ := bal_inv (X := W ++ V) h (h7 i List.mem_cons_self)
    obtain ⟨c, d⟩ := bal_spl b (fun j hj => h7 j (List.mem_cons_of_mem _ hj))
    exact ⟨bal_cons a c, d⟩
/-- a run that has no turn in it lies on one side of a turn -/
theorem run_split {b : It} (hb : 7 < b.1) {W V R : List It} (hW : W ≠ []) (h7 : ∀ i ∈ W, i.1 ≤ 7) : ∀ {U P : List It}, U ++ (W ++ V) = P ++ b :: R → (∃ V', P = U ++ (W ++ V') ∧ V = V' ++ b :: R) ∨ (∃ U', U = P ++ b :: U' ∧ U' ++ (W ++ V) = R) := by
  -- a run against the rest
  have key : ∀ {W P : List It}, (∀ i ∈ W, i.1 ≤ 7) → W ++ V = P ++ b :: R → ∃ V', P = W ++ V' ∧ V = V' ++ b :: R := by
    intro W
    induction W with
    | nil => intro P _ h; exact ⟨P, rfl, h⟩
    | cons i W ih =>
      intro P h7 h
      cases P with
      | nil =>
        have := (List.cons.inj h).1
        have h0 := h7 i List.mem_cons_self
        rw [this] at h0; omega
      | cons p P =>
        have e := List.cons.inj h
        obtain ⟨V', q1, q2⟩ := ih (fun j hj => h7 j (List.mem_cons_of_mem _ hj)) e.2
        exact ⟨V', by rw [← e.1, q1]; rfl, q2⟩
  intro U
  induction U with
  | nil => intro P h; exact Or.inl (key h7 h)
  | cons u U ih =>
    intro P h
    cases P with
    | nil =>
      have e := List.cons.inj h
      exact Or.inr ⟨U, by rw [← e.1]; rfl, e.2⟩
    | cons p P =>
      have e := List.cons.inj h
      rcases ih e.2 with ⟨V', q1, q2⟩ | ⟨U', q1, q2⟩
      · exact Or.inl ⟨V', by rw [← e.1, q1]; rfl, q2⟩
      · exact Or.inr ⟨U', by rw [← e.1, q1]; rfl, q2⟩
/-- in the place of a run, another -/
theorem bal_run : ∀ n X, bal nd n X → bal nd n X ∧ ∀ U W V : List It, X = U ++ (W ++ V) → W ≠ [] → (∀ i ∈ W, i.1 ≤ 7) → ∃ m, m ≤ n ∧ bal nd m W ∧ ∀ W', bal nd m W' → bal nd n (U ++ (W' ++ V)) := by
  apply bal_ind
  · intro n
    refine ⟨bal_nil n, fun U W V h hW _ => ?_⟩
    exfalso
    have := congrArg List.length h
    rw [List.length_append, List.length_append] at this
    have : W.length = 0 := by simp only [List.length_nil] at this; omega
    exact hW (List.eq_nil_of_length_eq_zero this)
  · intro n i X hi ih
    refine ⟨bal_cons hi ih.1, fun U W V h hW h7 => ?_⟩
    cases U with
    | nil =>
      have hb : bal nd n (W ++ V) := by rw [List.nil_append] at h; rw [← h]; exact bal_cons hi ih.1
      obtain ⟨a, b⟩ := bal_spl hb h7
      exact ⟨n, Nat.le_refl _, a, fun W' hW' => by rw [List.nil_append]; exact bal_app hW' b⟩
    | cons u U =>
      have e := List.cons.inj h
      obtain ⟨m, m1, m2, m3⟩ := ih.2 U W V e.2 hW h7
      refine ⟨m, m1, m2, fun W' hW' => ?_⟩
      rw [List.cons_append, ← e.1]
      exact bal_cons hi (m3 W' hW')
  · intro n a P b Q c X ha hb hc ihP ihQ ihX
    refine ⟨bal_if ha hb hc ihP.1 ihQ.1 ihX.1, fun U W V h hW h7 => ?_⟩
    cases U with
    | nil =>
      exfalso
      cases W with
      | nil => exact hW rfl
      | cons w W =>
        have e := (List.cons.inj h).1
        have := h7 w List.mem_cons_self
        rw [← e] at this; omega
    | cons u U =>
      have e := List.cons.inj h
      rcases run_split (by omega) hW h7 e.2.symm with ⟨V', q1, q2⟩ | ⟨U', q1, q2⟩
      · obtain ⟨m, m1, m2, m3⟩ := ihP.2 U W V' q1 hW h7
        refine ⟨m, by omega, m2, fun W' hW' => ?_⟩
        rw [List.cons_append, ← e.1, q2]
        have := bal_if ha hb hc (m3 W' hW') ihQ.1 ihX.1
        simpa using this
      · rcases run_split (by omega) hW h7 q2 with ⟨V', p1, p2⟩ | ⟨U'', p1, p2⟩
        · obtain ⟨m, m1, m2, m3⟩ := ihQ.2 U' W V' p1 hW h7
          refine ⟨m, by omega, m2, fun W' hW' => ?_⟩
          rw [List.cons_append, ← e.1, q1, p2]
          have := bal_if ha hb hc ihP.1 (m3 W' hW') ihX.1
          simpa using this
        · obtain ⟨m, m1, m2, m3⟩ := ihX.2 U'' W V p2.symm hW h7
          refine ⟨m, by omega, m2, fun W' hW' => ?_⟩
          rw [List.cons_append, ← e.1, q1, p1]
          have := bal_if ha hb hc ihP.1 ihQ.1 (m3 W' hW')
          simpa using this
  · intro n a P b Q c X ha hb hc hPp ihP ihQ ihX
    refine ⟨bal_wh ha hb hc hPp ihQ.1 ihX.1, fun U W V h hW h7 => ?_⟩
    cases U with
    | nil =>
      exfalso
      cases W with
      | nil => exact hW rfl
      | cons w W =>
        have e := (List.cons.inj h).1
        have := h7 w List.mem_cons_self
        rw [← e] at this; omega
    | cons u U =>
      have e := List.cons.inj h
      rcases run_split (by omega) hW h7 e.2.symm with ⟨V', q1, q2⟩ | ⟨U', q1, q2⟩
      · refine ⟨0, by omega, fun i hi => hPp i (by rw [q1]; exact List.mem_append.mpr (Or.inr (List.mem_append.mpr (Or.inl hi)))), fun W' hW' => ?_⟩
        rw [List.cons_append, ← e.1, q2]
        have := bal_wh (P := U ++ (W' ++ V')) ha hb hc (fun i hi => by
          rcases List.mem_append.mp hi with z | z
          · exact hPp i (by rw [q1]; exact List.mem_append.mpr (Or.inl z))
          · rcases List.mem_append.mp z with z | z
            · exact hW' i z
            · exact hPp i (by rw [q1]; exact List.mem_append.mpr (Or.inr (List.mem_append.mpr (Or.inr z))))) ihQ.1 ihX.1
        simpa using this
      · rcases run_split (by omega) hW h7 q2 with ⟨V', p1, p2⟩ | ⟨U'', p1, p2⟩
        · obtain ⟨m, m1, m2, m3⟩ := ihQ.2 U' W V' p1 hW h7
          refine ⟨m, by omega, m2, fun W' hW' => ?_⟩
          rw [List.cons_append, ← e.1, q1, p2]
          have := bal_wh ha hb hc hPp (m3 W' hW') ihX.1
          simpa using this
        · obtain ⟨m, m1, m2, m3⟩ := ihX.2 U'' W V p2.symm hW h7
          refine ⟨m, by omega, m2, fun W' hW' => ?_⟩
          rw [List.cons_append, ← e.1, q1, p1]
          have := bal_wh ha hb hc hPp ihQ.1 (m3 W' hW')
          simpa using this
/-- kinds and what is called are all that counts -/
def sk (i : It) : Int × Int := (i.1, if i.1 = 7 then i.2.2.1 else 0)
theorem sk_1 {i j : It} (h : sk i = sk j) : i.1 = j.1 := (Prod.mk.inj h).1
theorem sk_7 {i j : It} (h : sk i = sk j) (h7 : i.1 = 7) : i.2.2.1 = j.2.2.1 := by
  have h1 := sk_1 h
  have := (Prod.mk.inj h).2
  rw [if_pos h7, if_pos (by rw [← h1]; exact h7)] at this
  exact this
theorem lf_sk {n : Nat} {i j : It} (h : lf nd n i) (he : sk i = sk j) : lf nd n j := by
  have h1 := sk_1 he
  rcases h with h | ⟨m, h, h2, h3⟩
  · exact Or.inl (by rw [← h1]; exact h)
  · exact Or.inr ⟨m, h, by rw [← h1]; exact h2, by rw [← sk_7 he h2]; exact h3⟩
theorem bal_sk : ∀ n X, bal nd n X → ∀ Y : List It, X.map sk = Y.map sk → bal nd n Y := by
  have dec : ∀ {a b c : It} {P Q X Y : List It}, (a :: (P ++ b :: (Q ++ c :: X))).map sk = Y.map sk → ∃ a' P' b' Q' c' X', Y = a' :: (P' ++ b' :: (Q' ++ c' :: X')) ∧ sk a = sk a' ∧ sk b = sk b' ∧ sk c = sk c' ∧ P.map sk = P'.map sk ∧ Q.map sk = Q'.map sk ∧ X.map sk = X'.map sk := by
    intro a b c P Q X Y h
    rw [List.map_cons, List.map_append, List.map_cons, List.map_append, List.map_cons] at h
    obtain ⟨a', Y1, rfl, e1, e2⟩ := List.map_eq_cons_iff.mp h.symm
    obtain ⟨P', Y2, rfl, e3, e4⟩ := List.map_eq_append_iff.mp e2
    obtain ⟨b', Y3, rfl, e5, e6⟩ := List.map_eq_cons_iff.mp e4
    obtain ⟨Q', Y4, rfl, e7, e8⟩ := List.map_eq_append_iff.mp e6
    obtain ⟨c', X', rfl, e9, e10⟩ := List.map_eq_cons_iff.mp e8
    exact ⟨a', P', b', Q', c', X', rfl, e1.symm, e5.symm, e9.symm, e3.symm, e7.symm, e10.symm⟩
  apply bal_ind
  · intro n Y h
    have : Y = [] := by
      have := congrArg List.length h
      rw [List.length_map, List.length_map] at this
      exact List.eq_nil_of_length_eq_zero this.symm
    rw [this]; exact bal_nil n
  · intro n i X hi ih Y h
    rw [List.map_cons] at h
    obtain ⟨j, Y', rfl, e1, e2⟩ := List.map_eq_cons_iff.mp h.symm
    exact bal_cons (lf_sk hi e1.symm) (ih Y' e2.symm)
  · intro n a P b Q c X ha hb hc ihP ihQ ihX Y h
    obtain ⟨a', P', b', Q', c', X', rfl, e1, e2, e3, e4, e5, e6⟩ := dec h
    exact bal_if (by rw [← sk_1 e1]; exact ha) (by rw [← sk_1 e2]; exact hb) (by rw [← sk_1 e3]; exact hc) (ihP P' e4) (ihQ Q' e5) (ihX X' e6)
  · intro n a P b Q c X ha hb hc hP ihP ihQ ihX Y h
    obtain ⟨a', P', b', Q', c', X', rfl, e1, e2, e3, e4, e5, e6⟩ := dec h
    refine bal_wh (by rw [← sk_1 e1]; exact ha) (by rw [← sk_1 e2]; exact hb) (by rw [← sk_1 e3]; exact hc) (fun i hi => ?_) (ihQ Q' e5) (ihX X' e6)
    have : sk i ∈ P.map sk := by rw [e4]; exact List.mem_map.mpr ⟨i, hi, rfl⟩
    obtain ⟨j, j1, j2⟩ := List.mem_map.mp this
    rw [← sk_1 j2]
    exact hP j j1
end
