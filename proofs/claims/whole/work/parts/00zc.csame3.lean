/-- both tales stand in the class's cells -/
def SA (A : zA) (t : Nat) (D : Nat → T) (s1 s2 : St) : Prop := Own A ∧ TT A 111 t ∧ GT (tk A 111) t D ∧ CSd A 114 t D s1.2.1 ∧ CSd A 117 t D s2.2.1 ∧ CCc A 114 t D s1.2.2.2.2.2 ∧ CCc A 117 t D s2.2.2.2.2.2 ∧ TAI A 114 ∧ TAI A 117
theorem SA.lk {A B : zA} {t : Nat} {D : Nat → T} {s1 s2 : St} (h : SA A t D s1 s2) (f : LKF A B) : SA B t D s1 s2 := by
  obtain ⟨h1, h2, h3, h4, h5, h6, h7, h8, h9⟩ := h
  obtain ⟨t1, t2⟩ := f.tt h2
  have F := f.1
  have i1 : ∀ a j, fx a = true → a ≠ 111 → zi B a j = zi A a j := fun a j ha hn => F.i ha (cont2 hn)
  have e1 : ∀ (a : Nat) (e : Int), fx a = true → a ≠ 111 → ri B a e = ri A a e := fun a e ha hn => F.e ha (cont2 hn)
  have m1 : ∀ a j, fx a = true → a ≠ 111 → zmr B a j = zmr A a j := fun a j ha hn => F.r ha (cont2 hn)
  exact ⟨F.own, t1, h3.take (Nat.le_refl _) (fun i _ => t2 i), h4.mono (i1 _ _ (by decide) (by decide)) (fun i => ⟨e1 _ _ (by decide) (by decide), e1 _ _ (by decide) (by decide)⟩) (Nat.le_refl _) (fun _ _ => rfl), h5.mono (i1 _ _ (by decide) (by decide)) (fun i => ⟨e1 _ _ (by decide) (by decide), e1 _ _ (by decide) (by decide)⟩) (Nat.le_refl _) (fun _ _ => rfl), h6.mono (m1 _ _ (by decide) (by decide)) (fun e => ⟨F.v (by decide) (by decide), F.v (by decide) (by decide)⟩) (Nat.le_refl _) (fun _ _ => rfl), h7.mono (m1 _ _ (by decide) (by decide)) (fun e => ⟨F.v (by decide) (by decide), F.v (by decide) (by decide)⟩) (Nat.le_refl _) (fun _ _ => rfl), h8.mono (m1 _ _ (by decide) (by decide)) (m1 _ _ (by decide) (by decide)) (F.n (by decide) (by decide)) (F.n (by decide) (by decide)), h9.mono (m1 _ _ (by decide) (by decide)) (m1 _ _ (by decide) (by decide)) (F.n (by decide) (by decide)) (F.n (by decide) (by decide))⟩
section
variable {N : Nat} {A : zA} {t : Nat} {D : Nat → T} {s1 s2 : St}
theorem ixo_eq {x y : Int} {u v : Option T} (hi : ∀ i j, i < t → j < t → D i = D j → i = j) (hx : ixo t D x u) (hy : ixo t D y v) : x = y ↔ u = v := by
  cases u with
  | none =>
    cases v with
    | none => have hx : x = -1 := hx; have hy : y = -1 := hy; constructor; intro _; rfl; intro _; omega
    | some b => have hx : x = -1 := hx; obtain ⟨j, j1, j2, j3⟩ := hy; constructor; intro q; omega; intro q; cases q
  | some a =>
    obtain ⟨i, i1, i2, i3⟩ := hx
    cases v with
    | none => have hy : y = -1 := hy; constructor; intro q; omega; intro q; cases q
    | some b =>
      obtain ⟨j, j1, j2, j3⟩ := hy
      constructor
      · intro q
        have : i = j := by omega
        rw [← i3, ← j3, this]
      · intro q
        injection q with q
        have := hi i j i1 j1 (by rw [i3, j3, q])
        omega
theorem says_run (h : SA A t D s1 s2) (hl : s1.2.1.length = s2.2.1.length) (hl2 : s1.2.1.length ≤ 150) : ∀ (r n f : Nat), n + r = s1.2.1.length → r < f → (∀ k (hk : k < s1.2.1.length), k < n → s1.2.1[k] = s2.2.1[k]'(by omega)) → z_Ta_saysWhat_19_l N f 114 117 1 n A = some (cif (s1.2.1 = s2.2.1) 1 0) := by
  obtain ⟨h1, h2, h3, h4, h5, h6, h7, h8, h9⟩ := h
  have hinj := h3.inj
  intro r
  induction r with
  | zero =>
    intro n f e1 e2 e3
    obtain ⟨g, rfl⟩ : ∃ g, f = g + 1 := ⟨f - 1, by omega⟩
    have hn := h4.1
    show z_Ta_saysWhat_19_b (z_Ta_saysWhat_19_l N g) N 114 117 1 n A = _
    unfold z_Ta_saysWhat_19_b
    rw [if_neg (by decide), if_neg (by omega), if_pos (Or.inr rfl), cif_pos (List.ext_getElem hl (fun k k1 k2 => e3 k k1 (by omega)))]
  | succ r ih =>
    intro n f e1 e2 e3
    obtain ⟨g, rfl⟩ : ∃ g, f = g + 1 := ⟨f - 1, by omega⟩
    have hn := h4.1
    have w1 : zw ((n : Int) + 1) = ((n + 1 : Nat) : Int) := by rw [yb_w (by omega) (by omega)]; omega
    obtain ⟨a1, a2⟩ := h4.2 n (by omega)
    obtain ⟨b1, b2⟩ := h5.2 n (by omega)
    have a1 : ri A 115 n = s1.2.1[n].1 := a1
    have b1 : ri A 118 n = (s2.2.1[n]'(by omega)).1 := b1
    have hth := ixo_eq hinj a2 b2
    have hth : ri A 116 n = ri A 119 n ↔ (s1.2.1[n]'(by omega)).2 = (s2.2.1[n]'(by omega)).2 := hth
    have stop : ∀ g', 0 < g' → z_Ta_saysWhat_19_l N g' 114 117 0 ((n + 1 : Nat) : Int) A = some 0 := fun g' hg' => by
      obtain ⟨g'', rfl⟩ : ∃ g'', g' = g'' + 1 := ⟨g' - 1, by omega⟩
      show z_Ta_saysWhat_19_b (z_Ta_saysWhat_19_l N g'') N 114 117 0 _ A = _
      unfold z_Ta_saysWhat_19_b
      rw [if_pos rfl, if_pos (Or.inl rfl)]
    show z_Ta_saysWhat_19_b (z_Ta_saysWhat_19_l N g) N 114 117 1 n A = _
    unfold z_Ta_saysWhat_19_b
    rw [if_neg (by decide), if_pos (by omega), zgf_s (show zfr 114 0 = some 115 by decide), zrD_f h1 (show zsh 115 = some (true, 0, 150) by decide) (by omega) (by omega), zgf_s (show zfr 117 0 = some 118 by decide), zrD_f h1 (show zsh 118 = some (true, 0, 150) by decide) (by omega) (by omega), zgf_s (show zfr 114 1 = some 116 by decide), zrD_f h1 (show zsh 116 = some (true, 0, 150) by decide) (by omega) (by omega), zgf_s (show zfr 117 1 = some 119 by decide), zrD_f h1 (show zsh 119 = some (true, 0, 150) by decide) (by omega) (by omega), w1]
    by_cases q : s1.2.1[n]'(by omega) = s2.2.1[n]'(by omega)
    · rw [if_pos (by rw [a1, b1, q]), if_pos (hth.mpr (by rw [q]))]
      exact ih (n + 1) g (by omega) (by omega) (fun k hk hkn => by
        by_cases z : k = n
        · subst z; exact q
        · exact e3 k hk (by omega))
    · have hne : ¬ s1.2.1 = s2.2.1 := fun z => q (by simp only [z])
      rw [cif_neg hne]
      by_cases q2 : ri A 115 n = ri A 118 n
      · rw [if_pos q2, if_neg (fun z => q (Prod.ext (by rw [← a1, ← b1, q2]) (hth.mp z)))]
        exact stop g (by omega)
      · rw [if_neg q2]
        exact stop g (by omega)
theorem Ta_saysWhat (hN : 300000 ≤ N) (h : SA A t D s1 s2) (hl2 : s1.2.1.length ≤ 150) : z_Ta_saysWhat N 114 117 A = some (cif (s1.2.1 = s2.2.1) 1 0) := by
  have n1 := h.2.2.2.1.1
  have n2 := h.2.2.2.2.1.1
  unfold z_Ta_saysWhat z_Ta_saysWhat_19
  by_cases q : s1.2.1.length = s2.2.1.length
  · rw [if_pos (by omega)]
    have := says_run (N := N) h q hl2 s1.2.1.length 0 N (by omega) (by omega) (fun k hk h0 => by omega)
    exact this
  · rw [if_neg (by omega), cif_neg (fun z => q (by rw [z]))]
    obtain ⟨g, rfl⟩ : ∃ g, N = g + 1 := ⟨N - 1, by omega⟩
    show z_Ta_saysWhat_19_b (z_Ta_saysWhat_19_l (g + 1) g) (g + 1) 114 117 0 0 A = _
    unfold z_Ta_saysWhat_19_b
    rw [if_pos rfl, if_pos (Or.inl rfl)]
/-- what a tale tells of a loop that it knows -/
theorem tale_rd {ta : Nat} {cc : List (Int × Nat × T × T)} {q : Int × Nat × T × T} (hO : Own A) (hta : okt ta) (hT : TAI A ta) (hC : CCc A ta t D cc) (hq : q ∈ cc) : ∃ x y : Nat, x < t ∧ y < t ∧ D x = q.2.2.1 ∧ D y = q.2.2.2 ∧ z_Ta_beganAs N ta q.1 q.2.1 A = some (x : Int) ∧ z_Ta_hadBecome N ta q.1 q.2.1 A = some (y : Int) := by
  obtain ⟨a1, a2, a3, a4, a5, a6, a7, a8, a9, a10, a11⟩ := hta.fx
  obtain ⟨g1, g2, g3, ⟨x, x1, x2, x3⟩, ⟨y, y1, y2, y3⟩, g6⟩ := hC q hq
  rcases hT with ⟨t3, t4⟩ | ⟨t3, t4, t5, t6⟩
  · exact absurd t3 g6
  · have hi : z_Ta_indexOf N q.1 q.2.1 A = some (q.1 * 61 + q.2.1) := by
      unfold z_Ta_indexOf
      rw [if_neg (by omega), if_pos g2, if_neg (by omega), if_pos (by omega), yb_w (by omega) (by omega)]
    have rd : ∀ f, dy ta f = true → zmr A ta f ≠ none → yl A ta f = 3050 → (zgr A ta f fun p4 => zrD A p4 (q.1 * 61 + q.2.1) fun v5 => some v5) = some (yv A ta f (q.1 * 61 + q.2.1)) := fun f hd hn hl => by
      cases hc : zmr A ta f with
      | none => exact absurd hc hn
      | some cell =>
        have e : yc A ta f = cell := by unfold yc; rw [hc]; rfl
        obtain ⟨⟨n, k1, k2⟩, k3⟩ := hO.2.1 ta f cell hd hc
        have hn' : yl A ta f = n := by unfold yl; rw [e, k1]
        rw [zgr_s hc]
        unfold zrD
        rw [k1]
        simp only
        rw [if_pos ⟨trivial, by omega, by omega⟩]
        unfold yv
        rw [e]
        rfl
    refine ⟨x, y, x1, y1, x3, y3, ?_, ?_⟩
    · unfold z_Ta_beganAs
      rw [hi, zbP_s, if_neg t3, if_neg (by omega), rd 3 a7 t3 t5, x2]
    · unfold z_Ta_hadBecome
      rw [hi, zbP_s, if_neg t4, if_neg (by omega), rd 4 a8 t4 t6, y2]
theorem circlesAlike {i : Nat} {V : List Nat} {q1 q2 : Int × Nat × T × T} (h : SA A t D s1 s2) (ht : t ≤ 40000) (hV : CHN A t V) (hi : i < t) (hq1 : q1 ∈ s1.2.2.2.2.2) (hq2 : q2 ∈ s2.2.2.2.2.2) (e1 : D i = tCir q1.1 q1.2.1) (e2 : D i = tCir q2.1 q2.2.1) : ∃ B V' fl, z_Wk_circlesAlike N i A = some (fl, B) ∧ LKF A B ∧ CHN B t V' ∧ (∃ x, V' = V ++ x) ∧ (∀ j, j ∈ V' → j ∈ V ∨ D j = q1.2.2.1 ∨ D j = q1.2.2.2) ∧ (∃ j ∈ V', D j = q1.2.2.1) ∧ (∃ j ∈ V', D j = q1.2.2.2) ∧ ((fl = 1 ∧ q1.2.2 = q2.2.2) ∨ (fl = 0 ∧ q1.2.2 ≠ q2.2.2)) := by
  have hs := h
  obtain ⟨h1, h2, h3, h4, h5, h6, h7, h8, h9⟩ := h
  have hinj := h3.inj
  have hg := h3.1 i hi
  have hkd : (tk A 111 i).1 = 7 := by rw [← cden_kd hg.1 (D := D), ← hg.2, e1]; rfl
  have hd : cden D (tk A 111 i) = tCir (tn A 111 i 1) (tn A 111 i 2) := by
    have e0 : tk A 111 i = ((tk A 111 i).1, tn A 111 i 1, tn A 111 i 2, tn A 111 i 3) := rfl
    rw [e0, hkd]; rfl
  rw [hg.2, hd] at e1 e2
  obtain ⟨f1, f2⟩ := tCir_inj e1
  obtain ⟨f3, f4⟩ := tCir_inj e2
  unfold z_Wk_circlesAlike
  rw [Th_field h1 (by decide) h2 hi (by decide) (by decide), zbP_s, Th_field h1 (by decide) h2 hi (by decide) (by decide), zbP_s, show (1 : Int) + 0 = 1 from rfl, show (1 : Int) + 1 = 2 from rfl]
  obtain ⟨x, y, x1, y1, x2, y2, x3, y3⟩ := tale_rd (N := N) h1 (Or.inl rfl) h8 h6 hq1
  rw [← f1, ← f2] at x3 y3
  rw [x3, zbP_s, y3, zbP_s]
  obtain ⟨B, b1, b2, b3⟩ := Th_reachA (N := N) h1 h2 ht hV x1
  rw [b1, zbV_s]
  obtain ⟨C, c1, c2, c3⟩ := Th_reachA (N := N) b2.1.own (b2.tt h2).1 ht b3 y1
  rw [c1, zbV_s]
  have L := b2.trans c2
  have hC := hs.lk L
  obtain ⟨x', y', x1', y1', x2', y2', x3', y3'⟩ := tale_rd (N := N) hC.1 (Or.inr rfl) hC.2.2.2.2.2.2.2.2 hC.2.2.2.2.2.2.1 hq2
  rw [← f3, ← f4] at x3' y3'
  rw [x3', zbP_s, y3', zbP_s]
  have hp : ∃ z, addv (addv V x) y = V ++ z := by
    obtain ⟨a, ha⟩ := addv_pre V x
    obtain ⟨b, hb⟩ := addv_pre (addv V x) y
    exact ⟨a ++ b, by rw [hb, ha, List.append_assoc]⟩
  have hm : ∀ j, j ∈ addv (addv V x) y → j ∈ V ∨ D j = q1.2.2.1 ∨ D j = q1.2.2.2 := fun j hj => by
    rw [addv_mem, addv_mem] at hj
    rcases hj with (hj | rfl) | rfl
    · exact Or.inl hj
    · exact Or.inr (Or.inl x2)
    · exact Or.inr (Or.inr y2)
  have hx : ∃ j ∈ addv (addv V x) y, D j = q1.2.2.1 := ⟨x, addv_mem.mpr (Or.inl (addv_mem.mpr (Or.inr rfl))), x2⟩
  have hy : ∃ j ∈ addv (addv V x) y, D j = q1.2.2.2 := ⟨y, addv_mem.mpr (Or.inr rfl), y2⟩
  have ex : (x : Int) = x' ↔ q1.2.2.1 = q2.2.2.1 := by
    constructor
    · intro z
      have : x = x' := by omega
      rw [← x2, ← x2', this]
    · intro z
      have := hinj x x' x1 x1' (by rw [x2, x2', z])
      omega
  have ey : (y : Int) = y' ↔ q1.2.2.2 = q2.2.2.2 := by
    constructor
    · intro z
      have : y = y' := by omega
      rw [← y2, ← y2', this]
    · intro z
      have := hinj y y' y1 y1' (by rw [y2, y2', z])
      omega
  by_cases zx : q1.2.2.1 = q2.2.2.1
  · rw [if_pos (ex.mpr zx)]
    by_cases zy : q1.2.2.2 = q2.2.2.2
    · rw [if_pos (ey.mpr zy)]
      exact ⟨C, _, 1, rfl, L, c3, hp, hm, hx, hy, Or.inl ⟨rfl, Prod.ext zx zy⟩⟩
    · rw [if_neg (fun z => zy (ey.mp z))]
      exact ⟨C, _, 0, rfl, L, c3, hp, hm, hx, hy, Or.inr ⟨rfl, fun z => zy (by rw [z])⟩⟩
  · rw [if_neg (fun z => zx (ex.mp z))]
    exact ⟨C, _, 0, rfl, L, c3, hp, hm, hx, hy, Or.inr ⟨rfl, fun z => zx (by rw [z])⟩⟩
end
