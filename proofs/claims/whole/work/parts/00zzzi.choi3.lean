/-! HOIST as a whole -/
noncomputable def mtL (X : List It) : Nat → Nat := Classical.epsilon (fun mt : Nat → Nat => ∃ (nd : Int → Nat) (n : Nat), Bl nd (fun k => (itm X k).1) (fun k => ig (itm X k) 2) mt n 0 X.length)
theorem Bl_nm {X : List It} {nd : Int → Nat} {nm nm' : Nat → Int} {mt : Nat → Nat} : ∀ n a b, Bl nd (fun k => (itm X k).1) nm mt n a b → Bl (fun _ => 0) (fun k => (itm X k).1) nm' mt n a b := by
  have key : ∀ (n : Nat) (In Jn : Nat → Nat → Prop), (∀ x y, In x y → Jn x y) → ∀ l a b, Bs nd (fun k => (itm X k).1) nm mt n In l a b → Bs (fun _ => 0) (fun k => (itm X k).1) nm' mt n Jn l a b := by
    intro n In Jn hIJ l
    induction l with
    | zero => intro a b h; exact h
    | succ l ih =>
      intro a b h
      rcases h with h | ⟨hab, ⟨h, h'⟩ | h | h⟩
      · exact Or.inl h
      · refine Or.inr ⟨hab, Or.inl ⟨?_, ih _ _ h'⟩⟩
        rcases h with h | h
        · exact Or.inl h
        · exact Or.inr ⟨h.1, Nat.zero_le _⟩
      · obtain ⟨q1, q2, q3, q4, q5, q6, q7, q8, q9, q10⟩ := h
        exact Or.inr ⟨hab, Or.inr (Or.inl ⟨q1, q2, q3, q4, q5, q6, q7, hIJ _ _ q8, hIJ _ _ q9, ih _ _ q10⟩)⟩
      · obtain ⟨q1, q2, q3, q4, q5, q6, q7, q8, q9, q10⟩ := h
        exact Or.inr ⟨hab, Or.inr (Or.inr ⟨q1, q2, q3, q4, q5, q6, q7, q8, hIJ _ _ q9, ih _ _ q10⟩)⟩
  intro n
  induction n with
  | zero => intro a b h; exact h
  | succ n ih => intro a b h; exact key n _ _ ih _ a b h
theorem mtL_eq {X : List It} {nd : Int → Nat} {n : Nat} {nm : Nat → Int} {mt : Nat → Nat} (h : Bl nd (fun k => (itm X k).1) nm mt n 0 X.length) : ∀ k, k < X.length → 8 ≤ (itm X k).1 → mt k = mtL X k := by
  have ex : ∃ (nd : Int → Nat) (n : Nat), Bl nd (fun k => (itm X k).1) (fun k => ig (itm X k) 2) (mtL X) n 0 X.length := by
    refine Classical.epsilon_spec (p := fun mt : Nat → Nat => ∃ (nd : Int → Nat) (n : Nat), Bl nd (fun k => (itm X k).1) (fun k => ig (itm X k) 2) mt n 0 X.length) ⟨mt, fun _ => 0, n, ?_⟩
    exact Bl_nm _ _ _ h
  obtain ⟨nd', n', h'⟩ := ex
  intro k k1 k8
  exact Bl_uniq2 h h' (fun _ _ _ => rfl) k (by omega) k1 k8
/-- what stands at a WHILE's turns -/
theorem Bs_at {nd : Int → Nat} {kd nm : Nat → Int} {mt : Nat → Nat} {n : Nat} {In : Nat → Nat → Prop} {k : Nat} (h10 : kd k = 10) (hI : ∀ x y, In x y → x ≤ k → k < y → k < mt k ∧ mt k < mt (mt k) ∧ mt (mt k) < y ∧ kd (mt k) = 11 ∧ kd (mt (mt k)) = 12 ∧ ∀ q, k < q → q < mt k → 0 ≤ kd q ∧ kd q ≤ 6) : ∀ l a b, Bs nd kd nm mt n In l a b → a ≤ k → k < b → k < mt k ∧ mt k < mt (mt k) ∧ mt (mt k) < b ∧ kd (mt k) = 11 ∧ kd (mt (mt k)) = 12 ∧ ∀ q, k < q → q < mt k → 0 ≤ kd q ∧ kd q ≤ 6 := by
  intro l
  induction l with
  | zero => intro a b h h1 h2; have : a = b := h; omega
  | succ l ih =>
    intro a b h h1 h2
    rcases h with h | ⟨hab, ⟨h, h'⟩ | h | h⟩
    · omega
    · by_cases c : k = a
      · subst c; omega
      · exact ih _ _ h' (by omega) h2
    · obtain ⟨q1, q2, q3, q4, q5, q6, q7, q8, q9, q10⟩ := h
      by_cases c1 : k = a
      · subst c1; omega
      · by_cases c2 : k < mt a
        · obtain ⟨r1, r2, r3, r4⟩ := hI _ _ q8 (by omega) c2
          exact ⟨r1, r2, by omega, r4⟩
        · by_cases c3 : k = mt a
          · rw [c3] at h10; omega
          · by_cases c4 : k < mt (mt a)
            · obtain ⟨r1, r2, r3, r4⟩ := hI _ _ q9 (by omega) c4
              exact ⟨r1, r2, by omega, r4⟩
            · by_cases c5 : k = mt (mt a)
              · rw [c5] at h10; omega
              · exact ih _ _ q10 (by omega) h2
    · obtain ⟨q1, q2, q3, q4, q5, q6, q7, q8, q9, q10⟩ := h
      by_cases c1 : k = a
      · subst c1
        exact ⟨q2, q3, q4, q5, q6, q8⟩
      · by_cases c2 : k < mt a
        · have := q8 k (by omega) c2; omega
        · by_cases c3 : k = mt a
          · rw [c3] at h10; omega
          · by_cases c4 : k < mt (mt a)
            · obtain ⟨r1, r2, r3, r4⟩ := hI _ _ q9 (by omega) c4
              exact ⟨r1, r2, by omega, r4⟩
            · by_cases c5 : k = mt (mt a)
              · rw [c5] at h10; omega
              · exact ih _ _ q10 (by omega) h2
theorem Bl_at {nd : Int → Nat} {kd nm : Nat → Int} {mt : Nat → Nat} {k : Nat} (h10 : kd k = 10) : ∀ n a b, Bl nd kd nm mt n a b → a ≤ k → k < b → k < mt k ∧ mt k < mt (mt k) ∧ mt (mt k) < b ∧ kd (mt k) = 11 ∧ kd (mt (mt k)) = 12 ∧ ∀ q, k < q → q < mt k → 0 ≤ kd q ∧ kd q ≤ 6 := by
  intro n
  induction n with
  | zero => intro a b h h1 h2; have := h.2 k h1 h2; omega
  | succ n ih => intro a b h; exact Bs_at h10 ih _ a b h
/-- a WHILE's turns, by the list's mates -/
theorem mtL_at {X : List It} {nd : Int → Nat} {n w : Nat} {nm : Nat → Int} {mt : Nat → Nat} (h : Bl nd (fun k => (itm X k).1) nm mt n 0 X.length) (hw : w < X.length) (h10 : (itm X w).1 = 10) : w < mtL X w ∧ mtL X w < mtL X (mtL X w) ∧ mtL X (mtL X w) < X.length ∧ (itm X (mtL X w)).1 = 11 ∧ (itm X (mtL X (mtL X w))).1 = 12 ∧ ∀ q, w < q → q < mtL X w → 0 ≤ (itm X q).1 ∧ (itm X q).1 ≤ 6 := by
  obtain ⟨a1, a2, a3, a4, a5, a6⟩ := Bl_at (kd := fun k => (itm X k).1) (k := w) h10 _ _ _ h (by omega) hw
  have e1 := mtL_eq h w hw (by omega)
  have e2 := mtL_eq h (mt w) (by omega) (by omega)
  rw [← e1, ← e2]
  exact ⟨a1, a2, a3, a4, a5, a6⟩
noncomputable def hoS (X : List It) : Nat → List It × Nat
  | 0 => (X, 0)
  | d + 1 => if (itm (hoS X d).1 (X.length - 1 - d)).1 = 10 then ((hwS (mtL (hoS X d).1 (mtL (hoS X d).1 (X.length - 1 - d))) (X.length - 1 - d) (hoS X d).1 (mtL (hoS X d).1 (X.length - 1 - d) - (X.length - 1 - d + 1))).1, (hoS X d).2 + ((hwS (mtL (hoS X d).1 (mtL (hoS X d).1 (X.length - 1 - d))) (X.length - 1 - d) (hoS X d).1 (mtL (hoS X d).1 (X.length - 1 - d) - (X.length - 1 - d + 1))).2 - (X.length - 1 - d))) else hoS X d
def HOI (X0 X : List It) : Prop := X.length = X0.length ∧ (∀ nd n, bal nd n X0 → bal nd n X) ∧ (∀ sz, szL sz X = szL sz X0) ∧ ∀ i ∈ X, i ∈ X0
theorem bal_Bl {X : List It} {nd : Int → Nat} {n : Nat} (h : bal nd n X) : ∃ mt, Bl nd (fun k => (itm X k).1) (fun k => ig (itm X k) 2) mt n 0 X.length := by
  obtain ⟨mt, b⟩ := bal_mt _ _ h 0 (fun k => (itm X k).1) (fun k => ig (itm X k) 2) (fun j hj => by rw [Nat.zero_add, itm_get hj]; exact ⟨rfl, fun _ => rfl⟩)
  rw [Nat.zero_add] at b
  exact ⟨mt, b⟩
theorem hoS_inv {X : List It} {nd : Int → Nat} {n : Nat} (hb : bal nd n X) (hX : X.length ≤ 240) : ∀ d, d ≤ X.length → HOI X (hoS X d).1 ∧ (hoS X d).2 ≤ 240 * d := by
  intro d
  induction d with
  | zero => intro _; exact ⟨⟨rfl, fun _ _ h => h, fun _ => rfl, fun _ h => h⟩, Nat.le_refl _⟩
  | succ d ih =>
    intro hd
    obtain ⟨⟨i1, i2, i3, i4⟩, i5⟩ := ih (by omega)
    show HOI X (if _ then _ else _ : List It × Nat).1 ∧ (if _ then _ else _ : List It × Nat).2 ≤ 240 * (d + 1)
    by_cases c : (itm (hoS X d).1 (X.length - 1 - d)).1 = 10
    · rw [if_pos c]
      obtain ⟨mt, hBl⟩ := bal_Bl (i2 _ _ hb)
      obtain ⟨a1, a2, a3, a4, a5, a6⟩ := mtL_at hBl (show X.length - 1 - d < (hoS X d).1.length by omega) c
      obtain ⟨b1, b2, b3, b4, b5, b6, b7, b8, b9, b10, b11⟩ := hwS_inv (e := mtL (hoS X d).1 (mtL (hoS X d).1 (X.length - 1 - d))) (w := X.length - 1 - d) (m := mtL (hoS X d).1 (X.length - 1 - d)) (X := (hoS X d).1) (by omega) c a6 (mtL (hoS X d).1 (X.length - 1 - d) - (X.length - 1 - d + 1)) (by omega)
      refine ⟨⟨by rw [b1]; exact i1, fun nd n h => b9 nd n (i2 nd n h), fun sz => by rw [b10, i3], fun i hi => i4 i (b11 i hi)⟩, ?_⟩
      dsimp only
      omega
    · rw [if_neg c]
      exact ⟨⟨i1, i2, i3, i4⟩, by omega⟩
/-! the class -/
section
variable {N : Nat} {A : zA} {o : Nat} {X : List It} {g T p h : Nat}
theorem cp_mate {k : Nat} (hO : Own A) (ho : pto.contains o = true) (hx : CP A o X g) (hk : k < X.length) : z_Pt_mate N o k A = some (yv A o 1 k) := by
  obtain ⟨⟨p1, p2, p3, p4, p5, p6⟩, x2, -⟩ := hx
  have hd := pto_dy ho
  unfold cn at x2 p3
  unfold z_Pt_mate
  rw [if_neg (by omega), if_pos (by omega), zgr_d hO hd (by decide), zrD_d hO hd (by decide) (by omega) (by omega)]
def CM (A : zA) (o : Nat) (X : List It) : Prop := ∀ k : Nat, k < X.length → 8 ≤ (itm X k).1 → yv A o 1 k = mtL X k
theorem c_hoist_run {nd : Int → Nat} {n : Nat} (hN : 300000 ≤ N) (ho : pto.contains o = true) (hoc : 3 < o) (h109 : o ≠ 109) (hok : okL T p h X) (h60 : h ≤ 60) (hl : X.length ≤ 150) (hb : bal nd n X) (hSA : STA A) : ∀ (r d f : Nat) (B : zA), d + r = X.length → r < f → Own B → STA B → cF [o, 109] A B → CP B o (hoS X d).1 g → CM B o (hoS X d).1 → ∃ C, z_Mv_hoist_9_l N f o ((hoS X d).2 : Int) ((X.length : Int) - 1 - d) B = some (((hoS X X.length).2 : Int), C) ∧ CP C o (hoS X X.length).1 g ∧ CM C o (hoS X X.length).1 ∧ cF [o, 109] A C := by
  have i1 : ∀ {Y Z : zA}, cF [109] Y Z → cF [o, 109] Y Z := fun f => f.mono (fun a ha => by
    simp only [List.contains_iff_mem, List.mem_cons, List.not_mem_nil, or_false] at ha ⊢
    exact Or.inr ha)
  have i2 : ∀ {Y Z : zA}, cF [o] Y Z → cF [o, 109] Y Z := fun f => f.mono (fun a ha => by
    simp only [List.contains_iff_mem, List.mem_cons, List.not_mem_nil, or_false] at ha ⊢
    exact Or.inl ha)
  have n3 : ∀ a, a ≤ 3 → ([o, 109] : List Nat).contains a = false := fun a ha => nc_of (fun q => by
    simp only [List.contains_iff_mem, List.mem_cons, List.not_mem_nil, or_false] at q
    omega)
  intro r
  induction r with
  | zero =>
    intro d f B h1 h2 hO hS hF hc hm
    obtain ⟨u, rfl⟩ : ∃ u, f = u + 1 := ⟨f - 1, by omega⟩
    have : d = X.length := by omega
    subst this
    refine ⟨B, ?_, hc, hm, hF⟩
    show z_Mv_hoist_9_b (z_Mv_hoist_9_l N u) N o _ _ B = _
    unfold z_Mv_hoist_9_b
    rw [if_pos (by omega)]
  | succ r ih =>
    intro d f B h1 h2 hO hS hF hc hm
    obtain ⟨u, rfl⟩ : ∃ u, f = u + 1 := ⟨f - 1, by omega⟩
    obtain ⟨⟨j1, j2, j3, j4⟩, j5⟩ := hoS_inv hb (by omega) d (by omega)
    obtain ⟨w, hw⟩ : ∃ w : Nat, X.length - 1 - d = w := ⟨_, rfl⟩
    have ew : (X.length : Int) - 1 - d = w := by omega
    have hwl : w < (hoS X d).1.length := by omega
    have hsucc : hoS X (d + 1) = if (itm (hoS X d).1 w).1 = 10 then ((hwS (mtL (hoS X d).1 (mtL (hoS X d).1 w)) w (hoS X d).1 (mtL (hoS X d).1 w - (w + 1))).1, (hoS X d).2 + ((hwS (mtL (hoS X d).1 (mtL (hoS X d).1 w)) w (hoS X d).1 (mtL (hoS X d).1 w - (w + 1))).2 - w)) else hoS X d := by rw [← hw]; rfl
    have wd : zw ((w : Int) + -1) = (X.length : Int) - 1 - ((d + 1 : Nat) : Int) := by rw [yb_w (by omega) (by omega)]; omega
    have st : z_Mv_hoist_9_l N (u + 1) o ((hoS X d).2 : Int) ((X.length : Int) - 1 - d) B = z_Mv_hoist_9_b (z_Mv_hoist_9_l N u) N o ((hoS X d).2 : Int) ((X.length : Int) - 1 - d) B := rfl
    unfold z_Mv_hoist_9_b at st
    rw [ew] at st ⊢
    rw [if_neg (by omega), cp_kind hO ho hc hwl, zbP_s, wd] at st
    by_cases c : (itm (hoS X d).1 w).1 = 10
    · rw [if_pos c] at hsucc st
      obtain ⟨mt, hBl⟩ := bal_Bl (j2 _ _ hb)
      obtain ⟨a1, a2, a3, a4, a5, a6⟩ := mtL_at hBl hwl c
      have m1 := hm w hwl (by omega)
      have m2 := hm (mtL (hoS X d).1 w) (by omega) (by omega)
      obtain ⟨b1, b2, b3, b4, b5, b6, b7, b8, b9, b10, b11⟩ := hwS_inv (e := mtL (hoS X d).1 (mtL (hoS X d).1 w)) (w := w) (m := mtL (hoS X d).1 w) (X := (hoS X d).1) (by omega) c a6 (mtL (hoS X d).1 w - (w + 1)) (by omega)
      generalize hmm : mtL (hoS X d).1 w = m at *
      generalize hee : mtL (hoS X d).1 m = e at *
      have hok' : okL T p h (hoS X d).1 := fun i hi => hok i (j4 i hi)
      obtain ⟨B1, f1, f2, f3⟩ := Ar_fill (N := N) (x := 109) (m := 60) (v := 0) hN (by decide) (by decide) (by decide) hO
      have F1 : cF [109] B B1 := f2.cF hO (by decide) (by decide)
      have hc1 := hc.fr ho F1 (cont2 h109)
      obtain ⟨B2, g1, g2, g3⟩ := c_count (N := N) (a := w + 1) (b := e) hN ho hok' h60 (by omega) (by omega) h109 (e - (w + 1)) (w + 1) N B1 (by omega) (Nat.le_refl _) (by omega) F1.own hc1 (fun q hq => by rw [f3 q hq, Nat.sub_self]; show zw 0 = ((0 : Nat) : Int); decide)
      have hc2 := hc1.fr ho g2 (cont2 h109)
      have F2 := (i1 F1).trans (i1 g2)
      have hS2 := hS.fr F2 (n3 _ (by decide)) (n3 _ (by decide)) (n3 _ (by decide))
      obtain ⟨C, c1, c2, c3⟩ := c_ahead_run (N := N) (A := A) (w := w) (m := m) (e := e) hN ho hoc h109 hok' h60 (by omega) c a6 a1 a2 a3 a5 (m - (w + 1)) 0 N B2 (by omega) (by omega) g2.own hS2 (hF.trans F2) hc2 (by show WR B2 (hoS X d).1 (w + 1) (e - (w + 1)); exact g3)
      have hah : z_Mv_hoistAhead N o w B = some ((((hwS e w (hoS X d).1 (m - (w + 1))).2 - w : Nat) : Int), C) := by
        unfold z_Mv_hoistAhead z_Pt_endOf z_Mv_countWriters z_Mv_countWriters_11 z_Mv_hoistAhead_27
        have c1 : z_Mv_hoistAhead_27_l N N o w m (((w - w : Nat)) : Int) ((w + 1 + 0 : Nat) : Int) B2 = _ := c1
        rw [Nat.sub_self, Nat.add_zero, show ((0 : Nat) : Int) = 0 from rfl] at c1
        have w1 : zw ((w : Int) + 1) = ((w + 1 : Nat) : Int) := by rw [yb_w (by omega) (by omega)]; omega
        rw [cp_mate hO ho hc hwl, m1, zbP_s, zbP_s, cp_mate hO ho hc (show m < (hoS X d).1.length by omega), m2, zbP_s, zbP_s, w1, f1, zbV_s, g1, zbV_s, c1]
      have hbal := b9 _ _ (j2 _ _ hb)
      obtain ⟨D, d1, d2, d3, mt', d4, d5⟩ := CP_link (N := N) hN c3.own ho c2 hbal
      have hmv : zw (((hoS X d).2 : Int) + (((hwS e w (hoS X d).1 (m - (w + 1))).2 - w : Nat) : Int)) = (((hoS X (d + 1)).2 : Nat) : Int) := by
        rw [hsucc, yb_w (by omega) (by omega)]
        show _ = (((hoS X d).2 + ((hwS e w (hoS X d).1 (m - (w + 1))).2 - w) : Nat) : Int)
        omega
      rw [hah, zbI_s, d1, zbV_s, hmv] at st
      have F3 := c3.trans (i2 d3)
      have := ih (d + 1) u D (by omega) (by omega) d3.own (hSA.fr F3 (n3 _ (by decide)) (n3 _ (by decide)) (n3 _ (by decide))) F3 (by rw [hsucc]; exact d2) (by rw [hsucc]; exact fun k hk k8 => by rw [d5 k hk k8]; exact congrArg _ (mtL_eq d4 k hk k8))
      rw [st]; exact this
    · rw [if_neg c] at hsucc st
      have := ih (d + 1) u B (by omega) (by omega) hO hS hF (by rw [hsucc]; exact hc) (by rw [hsucc]; exact hm)
      rw [hsucc] at this
      rw [st]
      exact this
end
