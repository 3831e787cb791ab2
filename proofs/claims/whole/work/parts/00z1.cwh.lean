/-! WHILE: rows of circling ones -/
theorem back_ix {t0 t2 : Nat} {D D2 : Nat → T} {x : Int} {u : T} (hi : ∀ i j, i < t2 → j < t2 → D2 i = D2 j → i = j) (ht : t0 ≤ t2) (hD : ∀ i, i < t0 → D2 i = D i) (h2 : ix t2 D2 x u) (h0 : ∃ j, j < t0 ∧ D j = u) : ix t0 D x u := by
  obtain ⟨j, j1, j2, j3⟩ := h2
  obtain ⟨k, k1, k2⟩ := h0
  have : j = k := hi j k j1 (by omega) (by rw [j3, hD k k1, k2])
  subst this
  exact ⟨j, k1, j2, k2⟩
section
variable {A B : zA} {c ta R t0 t2 : Nat} {D D2 : Nat → T}
theorem CSd.back {l : List (Int × Option T)} (hi : ∀ i j, i < t2 → j < t2 → D2 i = D2 j → i = j) (ht : t0 ≤ t2) (hD : ∀ i, i < t0 → D2 i = D i) (h2 : CSd B ta t2 D2 l) (h0 : CSd A ta t0 D l) : CSd B ta t0 D l := ⟨h2.1, fun k hk => ⟨(h2.2 k hk).1, by
  have q2 := (h2.2 k hk).2
  have q0 := (h0.2 k hk).2
  generalize l[k].2 = u at *
  cases u with
  | none => exact q2
  | some v =>
    obtain ⟨j, j1, j2, j3⟩ := q0
    exact back_ix hi ht hD q2 ⟨j, j1, j3⟩⟩⟩
theorem CWy.back {l : List (Int × T)} (hi : ∀ i j, i < t2 → j < t2 → D2 i = D2 j → i = j) (ht : t0 ≤ t2) (hD : ∀ i, i < t0 → D2 i = D i) (h2 : CWy B t2 D2 l) (h0 : CWy A t0 D l) : CWy B t0 D l := ⟨h2.1, fun k hk => by
  obtain ⟨j, j1, j2, j3, j4⟩ := h2.2 k hk
  obtain ⟨i, i1, i2, i3, i4⟩ := h0.2 k hk
  have : j = i := hi j i j1 (by omega) (by rw [j3, hD i i1, i3])
  subst this
  exact ⟨j, i1, j2, i3, j4⟩⟩
theorem CCc.back {l : List (Int × Nat × T × T)} (hi : ∀ i j, i < t2 → j < t2 → D2 i = D2 j → i = j) (ht : t0 ≤ t2) (hD : ∀ i, i < t0 → D2 i = D i) (h2 : CCc B ta t2 D2 l) (h0 : CCc A ta t0 D l) : CCc B ta t0 D l := fun q hq => by
  obtain ⟨g1, g2, g3, g4, g5, g6⟩ := h2 q hq
  obtain ⟨k1, k2, k3, ⟨j, j1, -, j3⟩, ⟨i, i1, -, i3⟩, k6⟩ := h0 q hq
  exact ⟨g1, g2, g3, back_ix hi ht hD g4 ⟨j, j1, j3⟩, back_ix hi ht hD g5 ⟨i, i1, i3⟩, g6⟩
end
def CV (A : zA) (sil : Bool) (c ta R t : Nat) (D : Nat → T) (s : St) : Prop := CT A t D ∧ CR A c ta R ∧ CSd A ta t D s.2.1 ∧ CWy A t D s.2.2.1 ∧ CFl A sil s.2.2.2.1 s.2.2.2.2.1 ∧ CCc A ta t D s.2.2.2.2.2 ∧ TAI A ta
theorem CW.v {A : zA} {sil : Bool} {c ta R t : Nat} {D : Nat → T} {s : St} (h : CW A sil c ta R t D s) : CV A sil c ta R t D s := ⟨h.1, h.2.1, h.2.2.2⟩
theorem CV.w {A : zA} {sil : Bool} {c ta R t : Nat} {D : Nat → T} {s s' : St} (h : CV A sil c ta R t D s) (hs : s'.2 = s.2) (hp : CPl A c t D s'.1) : CW A sil c ta R t D s' := by
  unfold CW
  rw [hs]
  exact ⟨h.1, h.2.1, hp, h.2.2⟩
/-- circling ones of a set -/
def CY (A : zA) (y t : Nat) (D : Nat → T) (w : Int) (S : Nat → Bool) : Prop := ∀ i : Nat, i < 61 → (S i = true → ix t D (ri A y i) (tCir w i)) ∧ (S i = false → ri A y i = -1)
section
variable {N : Nat} {A : zA} {sil : Bool} {lv c ta R0 t : Nat} {D : Nat → T} {s : St}
/-- writing c alone keeps the rest -/
theorem CV.on {B : zA} (h : CV A sil c ta R0 t D s) (hc : okc lv c) (hl : lv ≤ 24) (hta : okt ta) (o1 : on1 c A B) : CV B sil c ta R0 t D s ∧ cF [c] A B := by
  obtain ⟨c1, c2, c3, c4, c5⟩ := hc.fx (by omega)
  obtain ⟨a1, a2, a3, a4, a5, a6, a7, a8, a9, a10, a11⟩ := hta.fx
  obtain ⟨h1, h2, h4, h5, h6, h7, h8⟩ := h
  have hF : cF [c] A B := o1.cF h1.1 c1 (by omega)
  have n1 : ∀ a, a ≠ c → ([c] : List Nat).contains a = false := fun a ha => cont2 ha
  exact ⟨⟨h1.fr hF (n1 _ (by omega)), ⟨by rw [o1.r]; exact h2.1, by rw [o1.r]; exact h2.2.1, by rw [o1.r]; exact h2.2.2⟩, h4.mono (o1.i (by omega)) (fun i => ⟨o1.e (by omega), o1.e (by omega)⟩) (Nat.le_refl _) (fun _ _ => rfl), h5.mono (o1.i (by omega)) (fun i => o1.e (by omega)) (Nat.le_refl _) (fun _ _ => rfl), h6.mono (o1.i (by omega)) (o1.i (by omega)) (o1.i (by omega)), h7.mono (o1.r _ _) (fun e => ⟨hF.v a7 (n1 _ (by omega)), hF.v a8 (n1 _ (by omega))⟩) (Nat.le_refl _) (fun _ _ => rfl), h8.mono (o1.r _ _) (o1.r _ _) (hF.n a7 (n1 _ (by omega))) (hF.n a8 (n1 _ (by omega)))⟩, hF⟩
/-- writing a row of this level keeps the walker's cells -/
theorem CV.row {B : zA} {y : Nat} (h : CV A sil c ta R0 t D s) (hc : okc lv c) (hl : lv ≤ 23) (hta : okt ta) (hy : okr lv y) (o1 : on1 y A B) : CV B sil c ta R0 t D s ∧ cF [y] A B := by
  obtain ⟨c1, c2, c3, c4, c5⟩ := hc.fx (show lv ≤ 24 by omega)
  obtain ⟨y1, y2, y3, y4⟩ := hy.fx hl
  obtain ⟨a1, a2, a3, a4, a5, a6, a7, a8, a9, a10, a11⟩ := hta.fx
  have hy1 := hy.1
  have hy2 := hy.2
  obtain ⟨h1, h2, h4, h5, h6, h7, h8⟩ := h
  have hF : cF [y] A B := o1.cF h1.1 y1 (by omega)
  have n1 : ∀ a, a ≠ y → ([y] : List Nat).contains a = false := fun a ha => cont2 ha
  exact ⟨⟨h1.fr hF (n1 _ (by omega)), ⟨by rw [o1.r]; exact h2.1, by rw [o1.r]; exact h2.2.1, by rw [o1.r]; exact h2.2.2⟩, h4.mono (o1.i (by omega)) (fun i => ⟨o1.e (by omega), o1.e (by omega)⟩) (Nat.le_refl _) (fun _ _ => rfl), h5.mono (o1.i (by omega)) (fun i => o1.e (by omega)) (Nat.le_refl _) (fun _ _ => rfl), h6.mono (o1.i (by omega)) (o1.i (by omega)) (o1.i (by omega)), h7.mono (o1.r _ _) (fun e => ⟨hF.v a7 (n1 _ (by omega)), hF.v a8 (n1 _ (by omega))⟩) (Nat.le_refl _) (fun _ _ => rfl), h8.mono (o1.r _ _) (o1.r _ _) (hF.n a7 (n1 _ (by omega))) (hF.n a8 (n1 _ (by omega)))⟩, hF⟩
theorem beg_run {x y : Nat} (hx : zsh x = some (true, 0, 61)) (hy : zsh y = some (true, 0, 61)) (hcs : zsh c = some (true, 0, 61)) (h4 : 4 ≤ c) (hxc : x ≠ c) (hyc : y ≠ c) : ∀ (r n f : Nat) (A : zA), n + r = 61 → r < f → Own A → zmr A 110 5 = some c → ∃ B, z_Wk_begin_2_l N f x y n A = some B ∧ on1 c A B ∧ (∀ i : Nat, i < 61 → ri B c i = if i < n then ri A c i else if ri A y i = -1 then ri A x i else ri A y i) := by
  intro r
  induction r with
  | zero =>
    intro n f A h1 h2 hO hm
    obtain ⟨g, rfl⟩ : ∃ g, f = g + 1 := ⟨f - 1, by omega⟩
    refine ⟨A, ?_, on1.refl _ _, fun i hi => by rw [if_pos (by omega)]⟩
    show z_Wk_begin_2_b (z_Wk_begin_2_l N g) N x y n A = _
    unfold z_Wk_begin_2_b
    rw [if_neg (by omega)]
  | succ r ih =>
    intro n f A h1 h2 hO hm
    obtain ⟨g, rfl⟩ : ∃ g, f = g + 1 := ⟨f - 1, by omega⟩
    have w1 : zw ((n : Int) + 1) = ((n + 1 : Nat) : Int) := by rw [yb_w (by omega) (by omega)]; omega
    have gx := ri_rg A x n
    have gy := ri_rg A y n
    obtain ⟨B, b1, b2, b3⟩ := ih (n + 1) g (rs A c n (if ri A y n = -1 then ri A x n else ri A y n)) (by omega) (by omega) hO hm
    refine ⟨B, ?_, on1_rs.trans b2, fun i hi => ?_⟩
    · show z_Wk_begin_2_b (z_Wk_begin_2_l N g) N x y n A = _
      unfold z_Wk_begin_2_b
      rw [if_pos (by omega), zgr_s hm, zrD_f hO hy (by omega) (by omega), w1]
      split
      · rename_i q
        rw [zrD_f hO hx (by omega) (by omega), zwD_f hO hcs h4 (by omega) (by omega)]
        rw [if_pos q] at b1
        exact b1
      · rename_i q
        rw [zrD_f hO hy (by omega) (by omega), zwD_f hO hcs h4 (by omega) (by omega)]
        rw [if_neg q] at b1
        exact b1
    · rw [b3 i hi, ri_rs (by omega) (by omega), ri_rs_o hxc, ri_rs_o hyc]
      by_cases z : i = n
      · subst z
        rw [if_pos (by omega), if_pos rfl, if_neg (Nat.lt_irrefl i)]
        split
        · exact yb_w gx.1 gx.2
        · exact yb_w gy.1 gy.2
      · rw [if_neg (show ¬ (i : Int) = n by omega)]
        by_cases z2 : i < n
        · rw [if_pos (by omega), if_pos z2]
        · rw [if_neg (by omega), if_neg z2]
theorem w_begin {x y : Nat} {w : Int} {S : Nat → Bool} {f : Nat → T} (hN : 300000 ≤ N) (h : CV A sil c ta R0 t D s) (hc : okc lv c) (hl : lv ≤ 23) (hta : okt ta) (hx : okr lv x) (hy : okr lv y) (hf : CPl A x t D f) (hS : CY A y t D w S) : ∃ B, z_Wk_begin N x y A = some B ∧ CW B sil c ta R0 t D ((fun i => if S i then tCir w i else f i), s.2) ∧ WX 24 c ta t t D D A B ∧ on1 c A B := by
  obtain ⟨c1, c2, c3, c4, c5⟩ := hc.fx (show lv ≤ 24 by omega)
  obtain ⟨x1, x2, x3, x4⟩ := hx.fx hl
  obtain ⟨y1, y2, y3, y4⟩ := hy.fx hl
  have hx1 := hx.1
  have hy1 := hy.1
  obtain ⟨B, b1, b2, b3⟩ := beg_run (N := N) x2 y2 c2 (by omega) (by omega) (by omega) 61 0 N A (by omega) (by omega) h.1.1 h.2.1.1
  obtain ⟨v1, v2⟩ := h.on hc (by omega) hta b2
  refine ⟨B, b1, v1.w rfl (fun i hi => ?_), ⟨Nat.le_refl _, fun _ _ => rfl, v2.mono (fun a ha => ?_)⟩, b2⟩
  · rw [b3 i hi, if_neg (by omega)]
    dsimp only
    obtain ⟨k1, k2⟩ := hS i hi
    cases hs : S i with
    | true =>
      obtain ⟨j, j1, j2, j3⟩ := k1 hs
      rw [if_pos rfl, if_neg (by omega)]
      exact ⟨j, j1, j2, j3⟩
    | false =>
      rw [if_pos (k2 hs), if_neg (by decide)]
      exact hf i hi
  · simp only [List.contains_iff_mem, List.mem_cons, List.not_mem_nil, or_false] at ha
    exact wl_mem.mpr (by omega)
theorem lea_run {y : Nat} (hy : zsh y = some (true, 0, 61)) (hcs : zsh c = some (true, 0, 61)) (h4 : 4 ≤ y) (hyc : c ≠ y) : ∀ (r n f : Nat) (fl : Int) (A : zA), n + r = 61 → r < f → Own A → zmr A 110 5 = some c → (fl = 0 ∨ fl = 1) → ∃ B v, z_Wk_leaveUnchanged_4_l N f y fl n A = some (v, B) ∧ on1 y A B ∧ (∀ i : Nat, i < 61 → ri B y i = if n ≤ i ∧ ri A y i ≠ -1 ∧ ri A y i = ri A c i then -1 else ri A y i) ∧ (v = 0 ∨ v = 1) ∧ (v = 0 ↔ fl = 0 ∧ ∀ i : Nat, n ≤ i → i < 61 → ¬ (ri A y i ≠ -1 ∧ ri A y i = ri A c i)) := by
  intro r
  induction r with
  | zero =>
    intro n f fl A h1 h2 hO hm hfl
    obtain ⟨g, rfl⟩ : ∃ g, f = g + 1 := ⟨f - 1, by omega⟩
    refine ⟨A, fl, ?_, on1.refl _ _, fun i hi => by rw [if_neg (by omega)], hfl, ⟨fun q => ⟨q, fun i h1 h2 => by omega⟩, fun q => q.1⟩⟩
    show z_Wk_leaveUnchanged_4_b (z_Wk_leaveUnchanged_4_l N g) N y fl n A = _
    unfold z_Wk_leaveUnchanged_4_b
    rw [if_neg (by omega), if_pos hfl]
  | succ r ih =>
    intro n f fl A h1 h2 hO hm hfl
    obtain ⟨g, rfl⟩ : ∃ g, f = g + 1 := ⟨f - 1, by omega⟩
    have w1 : zw ((n : Int) + 1) = ((n + 1 : Nat) : Int) := by rw [yb_w (by omega) (by omega)]; omega
    have key : z_Wk_leaveUnchanged_4_l N (g + 1) y fl n A = if ri A y n = -1 then z_Wk_leaveUnchanged_4_l N g y fl ((n + 1 : Nat) : Int) A else if ri A y n = ri A c n then z_Wk_leaveUnchanged_4_l N g y 1 ((n + 1 : Nat) : Int) (rs A y n (-1)) else z_Wk_leaveUnchanged_4_l N g y fl ((n + 1 : Nat) : Int) A := by
      show z_Wk_leaveUnchanged_4_b (z_Wk_leaveUnchanged_4_l N g) N y fl n A = _
      unfold z_Wk_leaveUnchanged_4_b
      rw [if_pos (by omega), zrD_f hO hy (by omega) (by omega), zrD_f hO hy (by omega) (by omega), zgr_s hm, zrD_f hO hcs (by omega) (by omega), zwD_f hO hy h4 (by omega) (by omega), w1]
    rw [key]
    by_cases q1 : ri A y n = -1
    · rw [if_pos q1]
      obtain ⟨B, v, b1, b2, b3, b4, b5⟩ := ih (n + 1) g fl A (by omega) (by omega) hO hm hfl
      refine ⟨B, v, b1, b2, fun i hi => ?_, b4, b5.trans ⟨fun z => ⟨z.1, fun i i1 i2 => ?_⟩, fun z => ⟨z.1, fun i i1 i2 => z.2 i (by omega) i2⟩⟩⟩
      · rw [b3 i hi]
        by_cases z : i = n
        · subst z
          rw [if_neg (by omega), if_neg (by omega)]
        · by_cases z2 : n ≤ i ∧ ri A y i ≠ -1 ∧ ri A y i = ri A c i
          · rw [if_pos z2, if_pos (by omega)]
          · rw [if_neg z2, if_neg (by omega)]
      · by_cases z3 : i = n
        · subst z3; omega
        · exact z.2 i (by omega) i2
    · rw [if_neg q1]
      by_cases q2 : ri A y n = ri A c n
      · rw [if_pos q2]
        obtain ⟨B, v, b1, b2, b3, b4, b5⟩ := ih (n + 1) g 1 (rs A y n (-1)) (by omega) (by omega) hO hm (Or.inr rfl)
        have e : ∀ i : Nat, ri (rs A y n (-1)) y i = if i = n then -1 else ri A y i := fun i => by
          rw [ri_rs (by omega) (by omega)]
          by_cases z : i = n
          · rw [if_pos (by omega), if_pos z]; decide
          · rw [if_neg (by omega), if_neg z]
        refine ⟨B, v, b1, on1_rs.trans b2, fun i hi => ?_, b4, ⟨fun z => ?_, fun z => absurd ⟨q1, q2⟩ (z.2 n (Nat.le_refl _) (by omega))⟩⟩
        · rw [b3 i hi, e, ri_rs_o hyc]
          by_cases z : i = n
          · subst z
            rw [if_pos rfl, if_neg (by omega), if_pos ⟨Nat.le_refl _, q1, q2⟩]
          · rw [if_neg z]
            by_cases z2 : n ≤ i ∧ ri A y i ≠ -1 ∧ ri A y i = ri A c i
            · rw [if_pos z2, if_pos (by omega)]
            · rw [if_neg z2, if_neg (by omega)]
        · have := (b5.mp z).1; omega
      · rw [if_neg q2]
        obtain ⟨B, v, b1, b2, b3, b4, b5⟩ := ih (n + 1) g fl A (by omega) (by omega) hO hm hfl
        refine ⟨B, v, b1, b2, fun i hi => ?_, b4, b5.trans ⟨fun z => ⟨z.1, fun i i1 i2 => ?_⟩, fun z => ⟨z.1, fun i i1 i2 => z.2 i (by omega) i2⟩⟩⟩
        · rw [b3 i hi]
          by_cases z : i = n
          · subst z
            rw [if_neg (by omega), if_neg (by omega)]
          · by_cases z2 : n ≤ i ∧ ri A y i ≠ -1 ∧ ri A y i = ri A c i
            · rw [if_pos z2, if_pos (by omega)]
            · rw [if_neg z2, if_neg (by omega)]
        · by_cases z3 : i = n
          · subst z3; omega
          · exact z.2 i (by omega) i2
end
