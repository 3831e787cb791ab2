/-! two walks that said the same -/
def chd (cc : List (Int × Nat × T × T)) (u v : T) : Prop :=
  (∃ o s t, u = tWrk o s t ∧ (v = s ∨ v = t)) ∨ (∃ s t, u = tLod s t ∧ (v = s ∨ v = t)) ∨ (∃ s t r, u = tSto s t r ∧ (v = s ∨ v = t ∨ v = r)) ∨ (∃ s t r, u = tCho s t r ∧ (v = s ∨ v = t ∨ v = r)) ∨ (∃ q ∈ cc, u = tCir q.1 q.2.1 ∧ (v = q.2.2.1 ∨ v = q.2.2.2))
def Rch (sd : List (Int × Option T)) (cc : List (Int × Nat × T × T)) (u : T) : Prop := ∀ S : T → Prop, (∀ q ∈ sd, ∀ x, q.2 = some x → S x) → (∀ u v, S u → chd cc u v → S v) → S u
/-- said alike, and all that circles in what was said went alike -/
def Sam (s1 s2 : St) : Prop := s1.2.1 = s2.2.1 ∧ ∀ u, Rch s1.2.1 s1.2.2.2.2.2 u → ∀ q1 ∈ s1.2.2.2.2.2, ∀ q2 ∈ s2.2.2.2.2.2, u = tCir q1.1 q1.2.1 → u = tCir q2.1 q2.2.1 → q1.2.2 = q2.2.2
theorem tCir_inj {w w' r r' : Int} (h : tCir w r = tCir w' r') : w = w' ∧ r = r' := by
  obtain ⟨-, h2, h3, -⟩ := tnd_inj h
  injection h3 with h4 h5
  exact ⟨h2, h4⟩
theorem Rch.said {sd : List (Int × Option T)} {cc : List (Int × Nat × T × T)} {q : Int × Option T} {x : T} (hq : q ∈ sd) (hx : q.2 = some x) : Rch sd cc x := fun _ h1 _ => h1 q hq x hx
theorem Rch.step {sd : List (Int × Option T)} {cc : List (Int × Nat × T × T)} {u v : T} (h : Rch sd cc u) (hc : chd cc u v) : Rch sd cc v := fun S h1 h2 => h2 u v (h S h1 h2) hc
/-- what a list of reached things must be, at the end -/
theorem Rch.of {sd : List (Int × Option T)} {cc : List (Int × Nat × T × T)} (S : T → Prop) (h1 : ∀ q ∈ sd, ∀ x, q.2 = some x → S x) (h2 : ∀ u v, S u → chd cc u v → S v) {u : T} (h : Rch sd cc u) : S u := h S h1 h2
/-! the class: the chain of things reached -/
def CHN (A : zA) (t : Nat) (V : List Nat) : Prop := V.Nodup ∧ (∀ i ∈ V, i < t) ∧ (∀ i, i < t → i ∉ V → tn A 111 i 6 = -2) ∧ (∀ k (h : k < V.length), tn A 111 V[k] 6 = if h' : k + 1 < V.length then (V[k + 1] : Int) else -1) ∧ zi A 111 3 = (if h' : 0 < V.length then (V[0] : Int) else -1) ∧ zi A 111 4 = (if h' : 0 < V.length then (V[V.length - 1] : Int) else -1)
/-- only links and ends of the chain changed -/
def LKF (A B : zA) : Prop := cF [111] A B ∧ (∀ i j, 0 ≤ j → j < 6 → tn B 111 i j = tn A 111 i j) ∧ (∀ e, yv B 111 1 e = yv A 111 1 e) ∧ (∀ f, yl B 111 f = yl A 111 f) ∧ zi B 111 2 = zi A 111 2
theorem LKF.refl {A : zA} (h : Own A) : LKF A A := ⟨cF.refl _ h, fun _ _ _ _ => rfl, fun _ => rfl, fun _ => rfl, rfl⟩
theorem LKF.trans {A B C : zA} (h : LKF A B) (g : LKF B C) : LKF A C := ⟨h.1.trans g.1, fun i j h0 h1 => (g.2.1 i j h0 h1).trans (h.2.1 i j h0 h1), fun e => (g.2.2.1 e).trans (h.2.2.1 e), fun f => (g.2.2.2.1 f).trans (h.2.2.2.1 f), g.2.2.2.2.trans h.2.2.2.2⟩
theorem LKF.tt {A B : zA} {t : Nat} (h : LKF A B) (hT : TT A 111 t) : TT B 111 t ∧ (∀ i, tk B 111 i = tk A 111 i) := by
  obtain ⟨f1, f2, f3, f4, f5⟩ := h
  have kB : ∀ i, tk B 111 i = tk A 111 i := fun i => by
    unfold tk
    rw [f2 i 0 (by omega) (by omega), f2 i 1 (by omega) (by omega), f2 i 2 (by omega) (by omega), f2 i 3 (by omega) (by omega)]
  obtain ⟨⟨q, q1, q2, q3, q4, q5, q6⟩, d1, d2⟩ := hT
  refine ⟨⟨⟨q, q1, by rw [f4]; exact q2, by rw [f4]; exact q3, q4, fun i hi => ?_, fun s hs => ?_⟩, fun i j hij hj => by rw [kB, kB]; exact d1 i j hij hj, by rw [f5]; exact d2⟩, kB⟩
  · rw [f2 i 5 (by omega) (by omega), f2 i 4 (by omega) (by omega), f2 i 0 (by omega) (by omega), f2 i 1 (by omega) (by omega), f2 i 2 (by omega) (by omega), f2 i 3 (by omega) (by omega)]
    simp only [f3]
    exact q5 i hi
  · rw [f3]
    rcases q6 s hs with z | ⟨i, i1, i2, i3⟩
    · exact Or.inl z
    · exact Or.inr ⟨i, i1, i2, by rw [f2 i 5 (by omega) (by omega)]; exact i3⟩
section
variable {N : Nat} {A : zA} {t : Nat} {V : List Nat}
theorem Th_reach {j : Nat} (h : Own A) (hT : TT A 111 t) (ht : t ≤ 40000) (hV : CHN A t V) (hj : j < t) : ∃ B, z_Th_reach N 111 j A = some B ∧ LKF A B ∧ CHN B t (if j ∈ V then V else V ++ [j]) := by
  have hd : dyo.contains 111 = true := by decide
  have hfx : fx 111 = true := by decide
  have hl0 := hT.l0
  obtain ⟨v1, v2, v3, v4, v5, v6⟩ := hV
  have rd : ∀ i : Nat, yv A 111 0 ((i : Int) * 7 + 6) = tn A 111 i 6 := fun i => by unfold tn; rw [Int.mul_comm]
  unfold z_Th_reach
  rw [Th_has hT, if_pos (by omega), zbP_s, if_neg (by decide)]
  simp (disch := (first | decide | omega | assumption | ((repeat (first | apply Own.ys | apply Own.si | apply Own.rs)); assumption) | (simp only [yl_ys, yl_si, yl_rs]; omega))) only [zgr_d, zrD_d, rd]
  by_cases hm : j ∈ V
  · obtain ⟨k, hk, he⟩ := List.getElem_of_mem hm
    have := v4 k hk
    rw [he] at this
    have hne : ¬ tn A 111 j 6 = -2 := by
      rw [this]
      split
      · omega
      · decide
    rw [if_neg hne, if_pos hm]
    exact ⟨A, rfl, LKF.refl h, v1, v2, v3, v4, v5, v6⟩
  · rw [if_pos (v3 j hj hm), if_neg hm]
    -- writing the new one's link and the end
    have fin : ∀ X : zA, Own X → (∀ i, yl X 111 i = yl A 111 i) → z_Th_reach_60 N 111 j X = some (zsi (ys X 111 0 ((j : Int) * 7 + 6) (-1)) 111 4 j) := fun X hX hlX => by
      unfold z_Th_reach_60
      have : yl X 111 0 = yl A 111 0 := hlX 0
      simp (disch := (first | decide | omega | assumption | ((repeat (first | apply Own.ys | apply Own.si | apply Own.rs)); assumption) | (simp only [yl_ys, yl_si, yl_rs]; omega))) only [zgr_d, zwD_d, zlet_s]
    have ff : ∀ X : zA, Own X → LKF X (zsi (ys X 111 0 ((j : Int) * 7 + 6) (-1)) 111 4 j) ∧ (∀ i : Nat, tn (zsi (ys X 111 0 ((j : Int) * 7 + 6) (-1)) 111 4 j) 111 i 6 = if i = j then -1 else tn X 111 i 6) ∧ zi (zsi (ys X 111 0 ((j : Int) * 7 + 6) (-1)) 111 4 j) 111 3 = zi X 111 3 ∧ zi (zsi (ys X 111 0 ((j : Int) * 7 + 6) (-1)) 111 4 j) 111 4 = j := fun X hX => by
      have oY : Own (ys X 111 0 ((j : Int) * 7 + 6) (-1)) := hX
      refine ⟨⟨(cF_ys hX hd (by decide) (by decide)).trans (cF_si oY hfx (by decide) (by decide)), fun i k k0 k1 => ?_, fun e => ?_, fun _ => rfl, ?_⟩, fun i => ?_, ?_, ?_⟩
      · unfold tn
        rw [yv_si oY hd (by decide) hfx, yv_ys_n (by omega) (by omega) (by omega)]
      · rw [yv_si oY hd (by decide) hfx, yv_ys_o hX hd (by decide) hd (by decide) (by decide)]
      · rw [zi_si_j (by decide), zi_ys hX hd (by decide) hfx]
      · unfold tn
        rw [yv_si oY hd (by decide) hfx, yv_ys (by omega) (by omega)]
        by_cases q : i = j
        · rw [if_pos q, if_pos (by omega)]; decide
        · rw [if_neg q, if_neg (by omega)]
      · rw [zi_si_j (by decide), zi_ys hX hd (by decide) hfx]
      · rw [zi_si_s, yb_w (by omega) (by omega)]
    have nd' : (V ++ [j]).Nodup := List.nodup_append.mpr ⟨v1, by simp, fun a ha b hb => by
      rw [List.mem_singleton] at hb
      intro q
      rw [q, hb] at ha
      exact hm ha⟩
    have mem' : ∀ i ∈ V ++ [j], i < t := fun i hi => by
      rcases List.mem_append.mp hi with hi | hi
      · exact v2 i hi
      · rw [List.mem_singleton] at hi; omega
    cases hVn : V.length with
    | zero =>
      have hnil : V = [] := List.eq_nil_of_length_eq_zero hVn
      subst hnil
      rw [v6]
      have e1 : z_Th_has N 111 (if h' : 0 < ([] : List Nat).length then (([] : List Nat)[([] : List Nat).length - 1] : Int) else -1) A = some 0 := by
        rw [dif_neg (by simp), Th_has hT, if_neg (by omega)]
      rw [e1, zbP_s, if_pos rfl, zlet_s]
      have oX : Own (zsi A 111 3 j) := h
      rw [fin _ oX (fun _ => rfl)]
      obtain ⟨k1, k2, k3, k4⟩ := ff _ oX
      have LX : LKF A (zsi A 111 3 j) := ⟨cF_si h hfx (by decide) (by decide), fun i k _ _ => yv_si h hd (by decide) hfx, fun e => yv_si h hd (by decide) hfx, fun _ => rfl, zi_si_j (by decide)⟩
      refine ⟨_, rfl, LX.trans k1, nd', mem', fun i hi hni => ?_, fun k hk => ?_, ?_, ?_⟩
      · rw [k2 i, if_neg (fun q => hni (by rw [q]; simp))]
        have : tn (zsi A 111 3 j) 111 i 6 = tn A 111 i 6 := yv_si h hd (by decide) hfx
        rw [this]
        exact v3 i hi (by simp)
      · simp only [List.nil_append, List.length_singleton] at hk ⊢
        have : k = 0 := by omega
        subst this
        rw [dif_neg (by omega)]
        simp only [List.getElem_cons_zero]
        rw [k2 j, if_pos rfl]
      · rw [k3, zi_si_s, yb_w (by omega) (by omega)]
        simp
      · rw [k4]
        simp
    | succ n =>
      have hpos : 0 < V.length := by omega
      have hlast : V.length - 1 < V.length := by omega
      rw [dif_pos hpos] at v6
      have hL := v2 _ (List.getElem_mem hlast)
      generalize hLe : V[V.length - 1] = L at *
      rw [v6, Th_has hT, if_pos (by omega), zbP_s, if_neg (by decide)]
      simp (disch := (first | decide | omega | assumption | ((repeat (first | apply Own.ys | apply Own.si | apply Own.rs)); assumption) | (simp only [yl_ys, yl_si, yl_rs]; omega))) only [zgr_d, zwD_d]
      have oX : Own (ys A 111 0 ((L : Int) * 7 + 6) j) := h
      rw [fin _ oX (fun _ => rfl)]
      obtain ⟨k1, k2, k3, k4⟩ := ff _ oX
      have tX : ∀ (i : Nat) (k : Int), 0 ≤ k → k < 7 → tn (ys A 111 0 ((L : Int) * 7 + 6) j) 111 i k = if i = L ∧ k = 6 then (j : Int) else tn A 111 i k := fun i k k0 k1 => by
        unfold tn
        rw [yv_ys (by omega) (by omega), yb_w (by omega) (by omega)]
        by_cases q : i = L ∧ k = 6
        · rw [if_pos q, if_pos (by omega)]
        · rw [if_neg q, if_neg (by omega)]
      have LX : LKF A (ys A 111 0 ((L : Int) * 7 + 6) j) := ⟨cF_ys h hd (by decide) (by decide), fun i k h0 h1 => by rw [tX i k h0 (by omega), if_neg (by omega)], fun e => yv_ys_o h hd (by decide) hd (by decide) (by decide), fun _ => rfl, zi_ys h hd (by decide) hfx⟩
      refine ⟨_, rfl, LX.trans k1, nd', mem', fun i hi hni => ?_, fun k hk => ?_, ?_, ?_⟩
      · have hni' : i ∉ V ∧ i ≠ j := by
          constructor
          · intro q; exact hni (List.mem_append.mpr (Or.inl q))
          · intro q; exact hni (List.mem_append.mpr (Or.inr (by simp [q])))
        rw [k2 i, if_neg hni'.2, tX i 6 (by omega) (by omega), if_neg (fun q => hni'.1 (by rw [q.1, ← hLe]; exact List.getElem_mem hlast))]
        exact v3 i hi hni'.1
      · have hk2 : k < V.length + 1 := by simpa using hk
        by_cases q : k < V.length
        · rw [dif_pos (show k + 1 < (V ++ [j]).length by simp; omega)]
          simp only [List.getElem_append_left q]
          have hkj : V[k] ≠ j := fun z => hm (by rw [← z]; exact List.getElem_mem q)
          rw [k2, if_neg hkj, tX _ 6 (by omega) (by omega)]
          by_cases q2 : k = V.length - 1
          · subst q2
            rw [if_pos ⟨hLe, rfl⟩]
            simp only [List.getElem_append_right (show V.length ≤ V.length - 1 + 1 by omega)]
            simp
          · have hne : ¬ (V[k] = L ∧ (6 : Int) = 6) := fun z => by
              have z1 := z.1
              rw [← hLe] at z1
              exact (List.pairwise_iff_getElem.mp v1) k (V.length - 1) q hlast (by omega) z1
            rw [if_neg hne, v4 k q, dif_pos (by omega)]
            simp only [List.getElem_append_left (show k + 1 < V.length by omega)]
        · have : k = V.length := by omega
          subst this
          rw [dif_neg (show ¬ V.length + 1 < (V ++ [j]).length by simp)]
          simp only [List.getElem_append_right (Nat.le_refl _), Nat.sub_self, List.getElem_singleton]
          rw [k2 j, if_pos rfl]
      · rw [k3, zi_ys h hd (by decide) hfx, v5, dif_pos hpos, dif_pos (by simp)]
        simp only [List.getElem_append_left hpos]
      · rw [k4, dif_pos (by simp)]
        simp
theorem Th_reach' {x : Int} (h : Own A) (hT : TT A 111 t) (ht : t ≤ 40000) (hV : CHN A t V) (hx : x = -1) : z_Th_reach N 111 x A = some A := by
  unfold z_Th_reach
  rw [Th_has hT, if_neg (by omega), zbP_s, if_pos rfl]
end
