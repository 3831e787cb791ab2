/-! the class's walker: what is said -/
section
variable {N : Nat} {A : zA} {sil : Bool} {lv c ta R t : Nat} {D : Nat → T} {s : St}
theorem zgf_s {R : Type} {a j r : Nat} {K : Nat → Option R} (h : zfr a j = some r) : zgf a j K = K r := by unfold zgf; rw [h]
theorem zcs_s {R : Type} {r : Nat} {q : zK} {K : Option R} (h : zsh r = some q) : zcs r q K = K := by unfold zcs; rw [if_pos h]
theorem zgr_s {R : Type} {a j r : Nat} {K : Nat → Option R} (h : zmr A a j = some r) : zgr A a j K = K r := by unfold zgr; rw [h]
theorem Ta_say {w x : Int} {u : Option T} (hO : Own A) (hta : okt ta) (hs : CSd A ta t D s.2.1) (hl : s.2.1.length < 150) (hx : ixo t D x u) (ht : t < 39000) (hw0 : 0 ≤ w) (hw : w < 10) : ∃ B, z_Ta_say N ta w x A = some B ∧ cF [ta, ta + 1, ta + 2] A B ∧ CSd B ta t D (s.2.1 ++ [(w, u)]) ∧ (∀ j, zmr B ta j = zmr A ta j) ∧ (∀ f, dy ta f = true → ∀ e, yv B ta f e = yv A ta f e ∧ yl B ta f = yl A ta f) := by
  obtain ⟨a1, a2, a3, a4, a5, a6, a7, a8, a9, a10, a11, a12⟩ := hta.fx
  have hn := hs.1
  have hxr : -1 ≤ x ∧ x < 40000 := by
    cases u with
    | none => have : x = -1 := hx; omega
    | some v => obtain ⟨j, h1, h2, h3⟩ := hx; omega
  unfold z_Ta_say
  rw [if_pos (by omega), zgf_s a11, zwD_f hO a5 (by omega) (by omega) (by omega), zgf_s a12]
  have z1 : zi (rs A (ta + 1) (zi A ta 2) w) ta 2 = zi A ta 2 := zi_rs_o (by omega)
  rw [z1, zwD_f (A := rs A (ta + 1) (zi A ta 2) w) hO a6 (by omega) (by omega) (by omega), zlet_s]
  have z2 : zi (rs (rs A (ta + 1) (zi A ta 2) w) (ta + 2) (zi A ta 2) x) ta 2 = zi A ta 2 := by rw [zi_rs_o (by omega), z1]
  rw [z2]
  have f1 : cF [ta, ta + 1, ta + 2] A (zsi (rs (rs A (ta + 1) (zi A ta 2) w) (ta + 2) (zi A ta 2) x) ta 2 (zi A ta 2 + 1)) := ((cF_rs hO a2 (by omega) (by simp)).trans (cF_rs hO a3 (by omega) (by simp))).trans (cF_si hO a1 (by omega) (by simp))
  refine ⟨_, rfl, f1, ⟨?_, fun k hk => ?_⟩, fun _ => rfl, fun f hd e => ⟨?_, rfl⟩⟩
  · rw [zi_si_s, hn, yb_w (by omega) (by omega), List.length_append, List.length_singleton]; omega
  · rw [List.length_append, List.length_singleton] at hk
    rw [ri_si_o (by omega), ri_si_o (by omega), ri_rs_o (by omega), ri_rs (by omega) (by omega), ri_rs (by omega) (by omega), ri_rs_o (by omega), hn]
    by_cases q : k = s.2.1.length
    · subst q
      rw [if_pos rfl, if_pos rfl, yb_w (by omega) (by omega), yb_w (by omega) (by omega)]
      simp only [List.getElem_append_right (Nat.le_refl _), Nat.sub_self, List.getElem_singleton]
      exact ⟨trivial, hx⟩
    · rw [if_neg (by omega), if_neg (by omega)]
      simp only [List.getElem_append_left (show k < s.2.1.length by omega)]
      exact hs.2 k (by omega)
  · have q0 := hO.ne3 hd a1 (by omega)
    have q1 := hO.ne3 hd a2 (by omega)
    have q2 := hO.ne3 hd a3 (by omega)
    show ri (zsi (rs (rs A (ta + 1) (zi A ta 2) w) (ta + 2) (zi A ta 2) x) ta 2 (zi A ta 2 + 1)) (yc A ta f) e = ri A (yc A ta f) e
    rw [ri_si_o q0, ri_rs_o q2, ri_rs_o q1]
theorem w_tale {B : zA} {l : List (Int × Option T)} (h : CW A sil c ta R t D s) (hc : okc lv c) (hl : lv ≤ 24) (hta : okt ta) (hf : cF [ta, ta + 1, ta + 2] A B) (hs : CSd B ta t D l) (hm : ∀ j, zmr B ta j = zmr A ta j) (hy : ∀ f, dy ta f = true → ∀ e, yv B ta f e = yv A ta f e ∧ yl B ta f = yl A ta f) : CW B sil c ta R t D (s.1, l, s.2.2) ∧ WX 24 c ta t t D D A B := by
  obtain ⟨c1, c2, c3, c4, c5⟩ := hc.fx hl
  obtain ⟨a1, a2, a3, a4, a5, a6, a7, a8, a9, a10, a11⟩ := hta.fx
  obtain ⟨h1, h2, h3, h4, h5, h6, h7, h8⟩ := h
  have n1 : ∀ a, a ≠ ta → a ≠ ta + 1 → a ≠ ta + 2 → ([ta, ta + 1, ta + 2] : List Nat).contains a = false := fun a q1 q2 q3 => nc_of (by simp only [List.contains_iff_mem, List.mem_cons, List.not_mem_nil, or_false]; omega)
  have i1 : ∀ j, zi B 110 j = zi A 110 j := fun j => hf.i (by decide) (n1 _ (by omega) (by omega) (by omega))
  have m1 : ∀ j, zmr B 110 j = zmr A 110 j := fun j => hf.r (by decide) (n1 _ (by omega) (by omega) (by omega))
  refine ⟨⟨h1.fr hf (n1 _ (by omega) (by omega) (by omega)), ⟨by rw [m1]; exact h2.1, by rw [m1]; exact h2.2.1, by rw [m1]; exact h2.2.2⟩, h3.mono (fun i hi => hf.e c1 (n1 _ (by omega) (by omega) (by omega))) (Nat.le_refl _) (fun _ _ => rfl), hs, h5.mono (i1 _) (fun i => hf.e (by decide) (n1 _ (by omega) (by omega) (by omega))) (Nat.le_refl _) (fun _ _ => rfl), h6.mono (i1 _) (i1 _) (i1 _), h7.mono (hm _) (fun e => ⟨(hy 3 a7 e).1, (hy 4 a8 e).1⟩) (Nat.le_refl _) (fun _ _ => rfl), h8.mono (hm _) (hm _) (hy 3 a7 0).2 (hy 4 a8 0).2⟩, Nat.le_refl _, fun _ _ => rfl, hf.mono (fun a ha => ?_)⟩
  simp only [List.contains_iff_mem, List.mem_cons, List.not_mem_nil, or_false] at ha
  exact wl_mem.mpr (by omega)
/-- frames of what says: the kept rows stay -/
def tl (ta : Nat) : List Nat := [ta, ta + 1, ta + 2]
theorem w_say {w x : Int} {u : Option T} (h : CW A sil c ta R t D s) (hc : okc lv c) (hl : lv ≤ 24) (hta : okt ta) (ht : t < 39000) (hlen : sil = false → s.2.1.length < 150) (hx : ixo t D x u) (hw0 : 0 ≤ w) (hw : w < 10) : ∃ B, z_Wk_say N w x A = some B ∧ CW B sil c ta R t D (sSay sil w u s) ∧ WX 24 c ta t t D D A B ∧ cF (tl ta) A B := by
  obtain ⟨a1, a2, a3, a4, a5, a6, a7, a8, a9, a10, a11⟩ := hta.fx
  unfold z_Wk_say
  have hs := h.2.2.2.2.2.1.1
  cases sil with
  | true =>
    rw [if_pos rfl] at hs
    rw [hs, if_neg (by decide)]
    exact ⟨A, rfl, h, WX.refl h.1.1, cF.refl _ h.1.1⟩
  | false =>
    have hs : zi A 110 10 = 0 := hs
    rw [if_pos hs, zgr_s h.2.1.2.1, zcs_s a4]
    obtain ⟨B, b1, b2, b3, b4, b5⟩ := Ta_say (N := N) h.1.1 hta h.2.2.2.1 (hlen rfl) hx ht hw0 hw
    rw [b1, zbV_s]
    obtain ⟨q1, q2⟩ := w_tale h hc hl hta b2 b3 b4 b5
    exact ⟨B, rfl, q1, q2, b2⟩
/-- demand: the search on this way -/
theorem dem_run {w : Int} {j : Nat} (h : CW A false c ta R t D s) (hw : w = 0 ∨ w = 1) (hj : j < t) (ht : t < 39000) (hlen : s.2.2.1.length < 150) : ∀ (r n f : Nat), n + r = s.2.2.1.length → r + 1 < f → (∀ k (hk : k < s.2.2.1.length), k < n → s.2.2.1[k] ≠ (w, D j)) → z_Wk_demand_35_l N f w j (2 * j + w) 0 n A = z_Wk_demand_73 N w j (2 * j + w) (cif ((w, D j) ∈ s.2.2.1) 1 0) A := by
  obtain ⟨y1, y2⟩ := h.2.2.2.2.1
  have hinj := h.1.2.2.1.inj
  intro r
  induction r with
  | zero =>
    intro n f h1 h2 h3
    obtain ⟨g, rfl⟩ : ∃ g, f = g + 1 := ⟨f - 1, by omega⟩
    show z_Wk_demand_35_b (z_Wk_demand_35_l N g) N w j (2 * j + w) 0 n A = _
    unfold z_Wk_demand_35_b
    rw [if_neg (by omega), cif_neg (fun hm => ?_)]
    obtain ⟨k, hk, he⟩ := List.getElem_of_mem hm
    exact h3 k hk (by omega) he
  | succ r ih =>
    intro n f h1 h2 h3
    obtain ⟨g, rfl⟩ : ∃ g, f = g + 1 := ⟨f - 1, by omega⟩
    obtain ⟨j', k1, k2, k3, k4⟩ := y2 n (by omega)
    have w1 : zw ((n : Int) + 1) = ((n + 1 : Nat) : Int) := by rw [yb_w (by omega) (by omega)]; omega
    show z_Wk_demand_35_b (z_Wk_demand_35_l N g) N w j (2 * j + w) 0 n A = _
    unfold z_Wk_demand_35_b
    rw [if_pos (by omega), if_pos rfl, zrd_ok (by omega) (by omega), k2, w1]
    by_cases q : s.2.2.1[n]'(by omega) = (w, D j)
    · rw [q] at k2 k3 k4 ⊢
      have : j' = j := hinj j' j k1 hj k3
      subst this
      rw [if_pos rfl, cif_pos (by rw [← q]; exact List.getElem_mem _)]
      obtain ⟨g', rfl⟩ : ∃ g', g = g' + 1 := ⟨g - 1, by omega⟩
      show z_Wk_demand_35_b (z_Wk_demand_35_l N g') N w j' (2 * j' + w) 1 ((n + 1 : Nat) : Int) A = _
      unfold z_Wk_demand_35_b
      split
      · rw [if_neg (by decide)]
      · rfl
    · rw [if_neg (fun e => q ?_)]
      · exact ih (n + 1) g (by omega) (by omega) (fun k hk hkn => by
          by_cases z : k = n
          · subst z; exact q
          · exact h3 k hk (by omega))
      · have e1 : j' = j := by omega
        have e2 : (s.2.2.1[n]'(by omega)).1 = w := by omega
        rw [← e2, ← e1, k3]
theorem w_dem {w : Int} {j : Nat} (hN : 300000 ≤ N) (h : CW A sil c ta R t D s) (hc : okc lv c) (hl : lv ≤ 24) (hta : okt ta) (ht : t < 39000) (hlen : sil = false → s.2.1.length < 150 ∧ s.2.2.1.length < 150) (hj : j < t) (hw : w = 0 ∨ w = 1) : ∃ B, z_Wk_demand N w j A = some B ∧ CW B sil c ta R t D (sDem sil w (D j) s) ∧ WX 24 c ta t t D D A B := by
  obtain ⟨a1, a2, a3, a4, a5, a6, a7, a8, a9, a10, a11⟩ := hta.fx
  obtain ⟨c1, c2, c3, c4, c5⟩ := hc.fx hl
  have hs := h.2.2.2.2.2.1.1
  have hwl := h.2.2.2.2.1.1
  have w2 : zw (2 * (j : Int) + w) = 2 * j + w := yb_w (by omega) (by omega)
  unfold z_Wk_demand z_Wk_demand_35
  rw [w2]
  cases sil with
  | true =>
    rw [if_pos rfl] at hs
    rw [hs, if_neg (by decide)]
    obtain ⟨g, rfl⟩ : ∃ g, N = g + 1 := ⟨N - 1, by omega⟩
    refine ⟨A, ?_, h, WX.refl h.1.1⟩
    show z_Wk_demand_35_b (z_Wk_demand_35_l (g + 1) g) (g + 1) w j (2 * j + w) 1 0 A = _
    unfold z_Wk_demand_35_b z_Wk_demand_73
    rw [if_neg (show ¬ (1 : Int) = 0 by decide), if_neg (show ¬ (1 : Int) = 0 by decide)]
    split <;> rfl
  | false =>
    have hs : zi A 110 10 = 0 := hs
    obtain ⟨l1, l2⟩ := hlen rfl
    rw [if_pos hs, if_pos (by omega)]
    have k1 := dem_run (N := N) h hw hj ht l2 s.2.2.1.length 0 N (by omega) (by omega) (fun k hk h0 => by omega)
    rw [show ((0 : Nat) : Int) = 0 from rfl] at k1
    rw [k1]
    unfold z_Wk_demand_73 sDem
    simp only [Bool.false_eq_true, if_false]
    by_cases q : (w, D j) ∈ s.2.2.1
    · simp only [cif_pos q]
      rw [if_neg (by decide)]
      exact ⟨A, rfl, h, WX.refl h.1.1⟩
    · simp only [cif_neg q]
      rw [if_pos trivial, zwr_ok (by omega) (by omega), zlet_s]
      obtain ⟨h1, h2, h3, h4, h5, h6, h7, h8⟩ := h
      have hO := h1.1
      have f1 : cF [194, 110] A (zsi (rs A 194 (zi A 110 7) (2 * j + w)) 110 7 (zi (rs A 194 (zi A 110 7) (2 * j + w)) 110 7 + 1)) := (cF_rs hO (by decide) (by decide) (by decide)).trans (cF_si hO (by decide) (by decide) (by decide))
      have n1 : ∀ a, a ≠ 194 → a ≠ 110 → ([194, 110] : List Nat).contains a = false := fun a q1 q2 => nc_of (by simp only [List.contains_iff_mem, List.mem_cons, List.not_mem_nil, or_false]; omega)
      have z1 : ∀ j', j' ≠ 7 → zi (zsi (rs A 194 (zi A 110 7) (2 * j + w)) 110 7 (zi (rs A 194 (zi A 110 7) (2 * j + w)) 110 7 + 1)) 110 j' = zi A 110 j' := fun j' hj' => by rw [zi_si_j hj', zi_rs_o (by decide)]
      have z7 : zi (zsi (rs A 194 (zi A 110 7) (2 * j + w)) 110 7 (zi (rs A 194 (zi A 110 7) (2 * j + w)) 110 7 + 1)) 110 7 = s.2.2.1.length + 1 := by rw [zi_si_s, zi_rs_o (by decide), hwl, yb_w (by omega) (by omega)]
      have e1 : ∀ k : Nat, ri (zsi (rs A 194 (zi A 110 7) (2 * j + w)) 110 7 (zi (rs A 194 (zi A 110 7) (2 * j + w)) 110 7 + 1)) 194 k = if k = s.2.2.1.length then 2 * (j : Int) + w else ri A 194 k := fun k => by
        rw [ri_si_o (by decide), ri_rs (by omega) (by omega), hwl, w2]
        by_cases z : k = s.2.2.1.length
        · rw [if_pos z, if_pos (by omega)]
        · rw [if_neg z, if_neg (by omega)]
      have mm : ∀ a j', zmr (zsi (rs A 194 (zi A 110 7) (2 * j + w)) 110 7 (zi (rs A 194 (zi A 110 7) (2 * j + w)) 110 7 + 1)) a j' = zmr A a j' := fun _ _ => rfl
      generalize zsi (rs A 194 (zi A 110 7) (2 * j + w)) 110 7 (zi (rs A 194 (zi A 110 7) (2 * j + w)) 110 7 + 1) = B at *
      have hB : CW B false c ta R t D (s.1, s.2.1, s.2.2.1 ++ [(w, D j)], s.2.2.2) := by
        refine ⟨h1.fr f1 (by decide), ⟨by rw [mm]; exact h2.1, by rw [mm]; exact h2.2.1, by rw [mm]; exact h2.2.2⟩, h3.mono (fun i hi => f1.e c1 (n1 _ (by omega) (by omega))) (Nat.le_refl _) (fun _ _ => rfl), h4.mono (f1.i a1 (n1 _ (by omega) (by omega))) (fun i => ⟨f1.e a2 (n1 _ (by omega) (by omega)), f1.e a3 (n1 _ (by omega) (by omega))⟩) (Nat.le_refl _) (fun _ _ => rfl), ⟨by rw [z7, List.length_append, List.length_singleton]; omega, fun k hk => ?_⟩, h6.mono (z1 _ (by decide)) (z1 _ (by decide)) (z1 _ (by decide)), h7.mono (mm _ _) (fun e => ⟨f1.v a7 (n1 _ (by omega) (by omega)), f1.v a8 (n1 _ (by omega) (by omega))⟩) (Nat.le_refl _) (fun _ _ => rfl), h8.mono (mm _ _) (mm _ _) (f1.n a7 (n1 _ (by omega) (by omega))) (f1.n a8 (n1 _ (by omega) (by omega)))⟩
        rw [List.length_append, List.length_singleton] at hk
        rw [e1]
        by_cases z : k = s.2.2.1.length
        · subst z
          rw [if_pos rfl]
          simp only [List.getElem_append_right (Nat.le_refl _), Nat.sub_self, List.getElem_singleton]
          exact ⟨j, hj, rfl, rfl, hw⟩
        · rw [if_neg z]
          simp only [List.getElem_append_left (show k < s.2.2.1.length by omega)]
          exact h5.2 k (by omega)
      rw [zgr_s hB.2.1.2.1, zcs_s a4]
      obtain ⟨C, b1, b2, b3, b4, b5⟩ := Ta_say (N := N) (w := w) (x := j) (u := some (D j)) hB.1.1 hta hB.2.2.2.1 l1 ⟨j, hj, rfl, rfl⟩ ht (by omega) (by omega)
      rw [b1, zbV_s]
      obtain ⟨q1, q2⟩ := w_tale hB hc hl hta b2 b3 b4 b5
      refine ⟨C, rfl, q1, WX.trans ⟨Nat.le_refl _, fun _ _ => rfl, f1.mono (fun a ha => ?_)⟩ q2⟩
      simp only [List.contains_iff_mem, List.mem_cons, List.not_mem_nil, or_false] at ha
      exact wl_mem.mpr (by omega)
end
