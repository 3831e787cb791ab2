/-! rows: balanced ones, as lists and by places -/
def bal (nd : Int → Nat) : Nat → List It → Prop
  | 0 => fun X => ∀ i ∈ X, 0 ≤ i.1 ∧ i.1 ≤ 6
  | n + 1 => fun X => ∃ ss : List (List It), X = ss.flatten ∧ ∀ s ∈ ss,
      (∃ i, s = [i] ∧ ((0 ≤ i.1 ∧ i.1 ≤ 6) ∨ (i.1 = 7 ∧ nd i.2.2.1 ≤ n))) ∨
      (∃ a P b Q c, s = a :: (P ++ b :: (Q ++ [c])) ∧ a.1 = 8 ∧ b.1 = 9 ∧ c.1 = 12 ∧ bal nd n P ∧ bal nd n Q) ∨
      (∃ a P b Q c, s = a :: (P ++ b :: (Q ++ [c])) ∧ a.1 = 10 ∧ b.1 = 11 ∧ c.1 = 12 ∧ (∀ i ∈ P, 0 ≤ i.1 ∧ i.1 ≤ 6) ∧ bal nd n Q)
def Bs (nd : Int → Nat) (kd nm : Nat → Int) (mt : Nat → Nat) (n : Nat) (In : Nat → Nat → Prop) : Nat → Nat → Nat → Prop
  | 0 => fun a b => a = b
  | l + 1 => fun a b => a = b ∨ (a < b ∧
      ((((0 ≤ kd a ∧ kd a ≤ 6) ∨ (kd a = 7 ∧ nd (nm a) ≤ n)) ∧ Bs nd kd nm mt n In l (a + 1) b) ∨
      (kd a = 8 ∧ a < mt a ∧ mt a < mt (mt a) ∧ mt (mt a) < b ∧ kd (mt a) = 9 ∧ kd (mt (mt a)) = 12 ∧ mt (mt (mt a)) = a ∧ In (a + 1) (mt a) ∧ In (mt a + 1) (mt (mt a)) ∧ Bs nd kd nm mt n In l (mt (mt a) + 1) b) ∨
      (kd a = 10 ∧ a < mt a ∧ mt a < mt (mt a) ∧ mt (mt a) < b ∧ kd (mt a) = 11 ∧ kd (mt (mt a)) = 12 ∧ mt (mt (mt a)) = a ∧ (∀ k, a < k → k < mt a → 0 ≤ kd k ∧ kd k ≤ 6) ∧ In (mt a + 1) (mt (mt a)) ∧ Bs nd kd nm mt n In l (mt (mt a) + 1) b)))
def Bl (nd : Int → Nat) (kd nm : Nat → Int) (mt : Nat → Nat) : Nat → Nat → Nat → Prop
  | 0 => fun a b => a ≤ b ∧ ∀ k, a ≤ k → k < b → 0 ≤ kd k ∧ kd k ≤ 6
  | n + 1 => fun a b => Bs nd kd nm mt n (Bl nd kd nm mt n) (b - a) a b
section
variable {nd : Int → Nat} {kd nm : Nat → Int} {mt : Nat → Nat}
theorem Bs_le {n : Nat} {In : Nat → Nat → Prop} : ∀ {l a b : Nat}, Bs nd kd nm mt n In l a b → a ≤ b
  | 0, a, b, h => by unfold Bs at h; omega
  | l + 1, a, b, h => by unfold Bs at h; omega
theorem Bl_le {n a b : Nat} (h : Bl nd kd nm mt n a b) : a ≤ b := by
  cases n with
  | zero => exact h.1
  | succ n => exact Bs_le h
theorem Bs_mono {n : Nat} {In : Nat → Nat → Prop} : ∀ {l l' a b : Nat}, Bs nd kd nm mt n In l a b → l ≤ l' → Bs nd kd nm mt n In l' a b
  | 0, 0, a, b, h, _ => h
  | 0, l' + 1, a, b, h, _ => Or.inl h
  | l + 1, 0, a, b, h, q => by omega
  | l + 1, l' + 1, a, b, h, q => by
    have ih := fun a b (h : Bs nd kd nm mt n In l a b) => Bs_mono h (show l ≤ l' by omega)
    rcases h with h | ⟨h0, h | h | h⟩
    · exact Or.inl h
    · exact Or.inr ⟨h0, Or.inl ⟨h.1, ih _ _ h.2⟩⟩
    · obtain ⟨h1, h2, h3, h4, h5, h6, h7, h8, h9, h10⟩ := h
      exact Or.inr ⟨h0, Or.inr (Or.inl ⟨h1, h2, h3, h4, h5, h6, h7, h8, h9, ih _ _ h10⟩)⟩
    · obtain ⟨h1, h2, h3, h4, h5, h6, h7, h8, h9, h10⟩ := h
      exact Or.inr ⟨h0, Or.inr (Or.inr ⟨h1, h2, h3, h4, h5, h6, h7, h8, h9, ih _ _ h10⟩)⟩
/-- the length is enough -/
theorem Bs_down {n : Nat} {In : Nat → Nat → Prop} : ∀ {l a b : Nat}, Bs nd kd nm mt n In l a b → Bs nd kd nm mt n In (b - a) a b
  | 0, a, b, h => by
    have : a = b := h
    subst this
    rw [Nat.sub_self]; exact h
  | l + 1, a, b, h => by
    rcases h with h | ⟨h0, h | h | h⟩
    · subst h
      rw [Nat.sub_self]; exact rfl
    · have := Bs_down h.2
      obtain ⟨m, hm⟩ : ∃ m, b - a = m + 1 := ⟨b - a - 1, by omega⟩
      rw [hm]
      exact Or.inr ⟨h0, Or.inl ⟨h.1, Bs_mono this (by omega)⟩⟩
    · obtain ⟨h1, h2, h3, h4, h5, h6, h7, h8, h9, h10⟩ := h
      have := Bs_down h10
      obtain ⟨m, hm⟩ : ∃ m, b - a = m + 1 := ⟨b - a - 1, by omega⟩
      rw [hm]
      exact Or.inr ⟨h0, Or.inr (Or.inl ⟨h1, h2, h3, h4, h5, h6, h7, h8, h9, Bs_mono this (by omega)⟩)⟩
    · obtain ⟨h1, h2, h3, h4, h5, h6, h7, h8, h9, h10⟩ := h
      have := Bs_down h10
      obtain ⟨m, hm⟩ : ∃ m, b - a = m + 1 := ⟨b - a - 1, by omega⟩
      rw [hm]
      exact Or.inr ⟨h0, Or.inr (Or.inr ⟨h1, h2, h3, h4, h5, h6, h7, h8, h9, Bs_mono this (by omega)⟩)⟩
theorem Bs_app {n : Nat} {In : Nat → Nat → Prop} : ∀ {l l' a b c : Nat}, Bs nd kd nm mt n In l a b → Bs nd kd nm mt n In l' b c → Bs nd kd nm mt n In (l + l') a c
  | 0, l', a, b, c, h, g => by
    have : a = b := h
    subst this
    rw [Nat.zero_add]; exact g
  | l + 1, l', a, b, c, h, g => by
    have hb := Bs_le g
    rw [show l + 1 + l' = (l + l') + 1 by omega]
    rcases h with h | ⟨h0, h | h | h⟩
    · subst h
      exact Bs_mono g (by omega)
    · exact Or.inr ⟨by omega, Or.inl ⟨h.1, Bs_app h.2 g⟩⟩
    · obtain ⟨h1, h2, h3, h4, h5, h6, h7, h8, h9, h10⟩ := h
      exact Or.inr ⟨by omega, Or.inr (Or.inl ⟨h1, h2, h3, by omega, h5, h6, h7, h8, h9, Bs_app h10 g⟩)⟩
    · obtain ⟨h1, h2, h3, h4, h5, h6, h7, h8, h9, h10⟩ := h
      exact Or.inr ⟨by omega, Or.inr (Or.inr ⟨h1, h2, h3, by omega, h5, h6, h7, h8, h9, Bs_app h10 g⟩)⟩
theorem Bl_app {n a b c : Nat} (h : Bl nd kd nm mt n a b) (g : Bl nd kd nm mt n b c) : Bl nd kd nm mt n a c := by
  cases n with
  | zero =>
    refine ⟨Nat.le_trans h.1 g.1, fun k h1 h2 => ?_⟩
    by_cases q : k < b
    · exact h.2 k h1 q
    · exact g.2 k (by omega) h2
  | succ n => exact Bs_down (Bs_app h g)
theorem Bl_plain : ∀ {n a b : Nat}, a ≤ b → (∀ k, a ≤ k → k < b → 0 ≤ kd k ∧ kd k ≤ 6) → Bl nd kd nm mt n a b
  | 0, a, b, h, g => ⟨h, g⟩
  | n + 1, a, b, h, g => by
    have key : ∀ l a, a ≤ b → b - a = l → (∀ k, a ≤ k → k < b → 0 ≤ kd k ∧ kd k ≤ 6) → Bs nd kd nm mt n (Bl nd kd nm mt n) l a b := by
      intro l
      induction l with
      | zero => intro a h1 h2 _; exact (show a = b by omega)
      | succ l ih =>
        intro a h1 h2 h3
        exact Or.inr ⟨by omega, Or.inl ⟨Or.inl (h3 a (Nat.le_refl _) (by omega)), ih (a + 1) (by omega) (by omega) (fun k q1 q2 => h3 k (by omega) q2)⟩⟩
    exact key (b - a) a h rfl g
theorem Bs_congr {n : Nat} {In Jn : Nat → Nat → Prop} {kd' nm' : Nat → Int} {mt' : Nat → Nat} : ∀ {l a b : Nat}, Bs nd kd nm mt n In l a b → (∀ k, a ≤ k → k < b → kd' k = kd k ∧ nm' k = nm k ∧ (8 ≤ kd k → mt' k = mt k)) → (∀ x y, a ≤ x → y ≤ b → In x y → Jn x y) → Bs nd kd' nm' mt' n Jn l a b
  | 0, a, b, h, _, _ => h
  | l + 1, a, b, h, q, hI => by
    rcases h with h | ⟨h0, h | h | h⟩
    · exact Or.inl h
    · obtain ⟨q1, q2, q3⟩ := q a (Nat.le_refl _) h0
      refine Or.inr ⟨h0, Or.inl ⟨by rw [q1, q2]; exact h.1, Bs_congr h.2 (fun k k1 k2 => q k (by omega) k2) (fun x y x1 y1 => hI x y (by omega) y1)⟩⟩
    · obtain ⟨h1, h2, h3, h4, h5, h6, h7, h8, h9, h10⟩ := h
      obtain ⟨q1, q2, q3⟩ := q a (Nat.le_refl _) h0
      obtain ⟨r1, r2, r3⟩ := q (mt a) (by omega) (by omega)
      obtain ⟨s1, s2, s3⟩ := q (mt (mt a)) (by omega) (by omega)
      have q3 := q3 (by omega)
      have r3 := r3 (by omega)
      have s3 := s3 (by omega)
      refine Or.inr ⟨h0, Or.inr (Or.inl ?_)⟩
      rw [q3, r3, s3, q1, r1, s1]
      exact ⟨h1, h2, h3, h4, h5, h6, h7, hI _ _ (by omega) (by omega) h8, hI _ _ (by omega) (by omega) h9, Bs_congr h10 (fun k k1 k2 => q k (by omega) k2) (fun x y x1 y1 => hI x y (by omega) y1)⟩
    · obtain ⟨h1, h2, h3, h4, h5, h6, h7, h8, h9, h10⟩ := h
      obtain ⟨q1, q2, q3⟩ := q a (Nat.le_refl _) h0
      obtain ⟨r1, r2, r3⟩ := q (mt a) (by omega) (by omega)
      obtain ⟨s1, s2, s3⟩ := q (mt (mt a)) (by omega) (by omega)
      have q3 := q3 (by omega)
      have r3 := r3 (by omega)
      have s3 := s3 (by omega)
      refine Or.inr ⟨h0, Or.inr (Or.inr ?_)⟩
      rw [q3, r3, s3, q1, r1, s1]
      exact ⟨h1, h2, h3, h4, h5, h6, h7, fun k k1 k2 => by rw [(q k (by omega) (by omega)).1]; exact h8 k k1 k2, hI _ _ (by omega) (by omega) h9, Bs_congr h10 (fun k k1 k2 => q k (by omega) k2) (fun x y x1 y1 => hI x y (by omega) y1)⟩
theorem Bl_congr {kd' nm' : Nat → Int} {mt' : Nat → Nat} : ∀ {n a b : Nat}, Bl nd kd nm mt n a b → (∀ k, a ≤ k → k < b → kd' k = kd k ∧ nm' k = nm k ∧ (8 ≤ kd k → mt' k = mt k)) → Bl nd kd' nm' mt' n a b
  | 0, a, b, h, q => ⟨h.1, fun k h1 h2 => by rw [(q k h1 h2).1]; exact h.2 k h1 h2⟩
  | n + 1, a, b, h, q => Bs_congr h q (fun x y h1 h2 hb => Bl_congr hb (fun k k1 k2 => q k (by omega) (by omega)))
theorem Bl_mono : ∀ {n m a b : Nat}, Bl nd kd nm mt n a b → n ≤ m → Bl nd kd nm mt m a b
  | 0, m, a, b, h, _ => Bl_plain h.1 h.2
  | n + 1, 0, a, b, h, q => by omega
  | n + 1, m + 1, a, b, h, q => by
    have key : ∀ l a, Bs nd kd nm mt n (Bl nd kd nm mt n) l a b → Bs nd kd nm mt m (Bl nd kd nm mt m) l a b := by
      intro l
      induction l with
      | zero => intro a h; exact h
      | succ l ih =>
        intro a h
        rcases h with h | ⟨h0, h | h | h⟩
        · exact Or.inl h
        · exact Or.inr ⟨h0, Or.inl ⟨by omega, ih _ h.2⟩⟩
        · obtain ⟨h1, h2, h3, h4, h5, h6, h7, h8, h9, h10⟩ := h
          exact Or.inr ⟨h0, Or.inr (Or.inl ⟨h1, h2, h3, h4, h5, h6, h7, Bl_mono h8 (by omega), Bl_mono h9 (by omega), ih _ h10⟩)⟩
        · obtain ⟨h1, h2, h3, h4, h5, h6, h7, h8, h9, h10⟩ := h
          exact Or.inr ⟨h0, Or.inr (Or.inr ⟨h1, h2, h3, h4, h5, h6, h7, h8, Bl_mono h9 (by omega), ih _ h10⟩)⟩
    exact key _ _ h
theorem Bl_if {n a m e : Nat} (h1 : kd a = 8) (h2 : mt a = m) (h3 : mt m = e) (h4 : mt e = a) (h5 : kd m = 9) (h6 : kd e = 12) (h7 : a < m) (h8 : m < e) (hP : Bl nd kd nm mt n (a + 1) m) (hQ : Bl nd kd nm mt n (m + 1) e) : Bl nd kd nm mt (n + 1) a (e + 1) := by
  show Bs nd kd nm mt n (Bl nd kd nm mt n) (e + 1 - a) a (e + 1)
  obtain ⟨l, hl⟩ : ∃ l, e + 1 - a = l + 1 := ⟨e - a, by omega⟩
  rw [hl]
  refine Or.inr ⟨by omega, Or.inr (Or.inl ?_)⟩
  rw [h2, h3, h4]
  exact ⟨h1, h7, h8, by omega, h5, h6, rfl, hP, hQ, Bs_mono (l := 0) (show e + 1 = e + 1 from rfl) (by omega)⟩
theorem Bl_wh {n a m e : Nat} (h1 : kd a = 10) (h2 : mt a = m) (h3 : mt m = e) (h4 : mt e = a) (h5 : kd m = 11) (h6 : kd e = 12) (h7 : a < m) (h8 : m < e) (hP : ∀ k, a < k → k < m → 0 ≤ kd k ∧ kd k ≤ 6) (hQ : Bl nd kd nm mt n (m + 1) e) : Bl nd kd nm mt (n + 1) a (e + 1) := by
  show Bs nd kd nm mt n (Bl nd kd nm mt n) (e + 1 - a) a (e + 1)
  obtain ⟨l, hl⟩ : ∃ l, e + 1 - a = l + 1 := ⟨e - a, by omega⟩
  rw [hl]
  refine Or.inr ⟨by omega, Or.inr (Or.inr ?_)⟩
  rw [h2, h3, h4]
  exact ⟨h1, h7, h8, by omega, h5, h6, rfl, hP, hQ, Bs_mono (l := 0) (show e + 1 = e + 1 from rfl) (by omega)⟩
theorem Bl_one {n a : Nat} (h : (0 ≤ kd a ∧ kd a ≤ 6) ∨ (kd a = 7 ∧ nd (nm a) ≤ n)) : Bl nd kd nm mt (n + 1) a (a + 1) := by
  show Bs nd kd nm mt n (Bl nd kd nm mt n) (a + 1 - a) a (a + 1)
  rw [show a + 1 - a = 0 + 1 by omega]
  exact Or.inr ⟨by omega, Or.inl ⟨h, rfl⟩⟩
/-- an induction over balanced rows -/
theorem bal_ind (M : Nat → List It → Prop)
    (h0 : ∀ n, M n [])
    (h1 : ∀ n i X, ((0 ≤ i.1 ∧ i.1 ≤ 6) ∨ (∃ m, n = m + 1 ∧ i.1 = 7 ∧ nd i.2.2.1 ≤ m)) → M n X → M n (i :: X))
    (h2 : ∀ n a P b Q c X, a.1 = 8 → b.1 = 9 → c.1 = 12 → M n P → M n Q → M (n + 1) X → M (n + 1) (a :: (P ++ b :: (Q ++ c :: X))))
    (h3 : ∀ n a P b Q c X, a.1 = 10 → b.1 = 11 → c.1 = 12 → (∀ i ∈ P, 0 ≤ i.1 ∧ i.1 ≤ 6) → M n P → M n Q → M (n + 1) X → M (n + 1) (a :: (P ++ b :: (Q ++ c :: X)))) :
    ∀ n X, bal nd n X → M n X := by
  have pl : ∀ n X, (∀ i ∈ X, 0 ≤ i.1 ∧ i.1 ≤ 6) → M n X := by
    intro n X
    induction X with
    | nil => intro _; exact h0 n
    | cons i X ih => intro h; exact h1 n i X (Or.inl (h i (List.mem_cons_self ..))) (ih (fun j hj => h j (List.mem_cons_of_mem _ hj)))
  intro n
  induction n with
  | zero => intro X h; exact pl 0 X h
  | succ n ih =>
    intro X h
    obtain ⟨ss, rfl, hs⟩ := h
    induction ss with
    | nil => exact h0 _
    | cons s ss ih2 =>
      have g := ih2 (fun t ht => hs t (List.mem_cons_of_mem _ ht))
      rw [List.flatten_cons]
      rcases hs s (List.mem_cons_self ..) with ⟨i, rfl, hi⟩ | ⟨a, P, b, Q, c, rfl, ha, hb, hc, hP, hQ⟩ | ⟨a, P, b, Q, c, rfl, ha, hb, hc, hP, hQ⟩
      · refine h1 _ i _ ?_ g
        rcases hi with hi | hi
        · exact Or.inl hi
        · exact Or.inr ⟨n, rfl, hi.1, hi.2⟩
      · have := h2 n a P b Q c ss.flatten ha hb hc (ih P hP) (ih Q hQ) g
        simpa using this
      · have := h3 n a P b Q c ss.flatten ha hb hc hP (pl n P hP) (ih Q hQ) g
        simpa using this
end
