/-! Part.link -/
def LK (o a b : Nat) (A B : zA) : Prop := cF [o] A B ∧ (∀ j, zi B o j = zi A o j) ∧ (∀ f, yl B o f = yl A o f) ∧ (∀ e, yv B o 0 e = yv A o 0 e) ∧ (∀ e : Int, 0 ≤ e → (e < a ∨ b ≤ e) → yv B o 1 e = yv A o 1 e)
section
variable {N : Nat} {A : zA} {o : Nat}
theorem LK.refl (h : Own A) (a b : Nat) : LK o a b A A := ⟨cF.refl _ h, fun _ => rfl, fun _ => rfl, fun _ => rfl, fun _ _ _ => rfl⟩
theorem LK.trans {a b c d : Nat} {B C : zA} (h : LK o a b A B) (g : LK o c d B C) (e f : Nat) (h1 : e ≤ a) (h2 : b ≤ f) (h3 : e ≤ c) (h4 : d ≤ f) : LK o e f A C := by
  refine ⟨h.1.trans g.1, fun j => (g.2.1 j).trans (h.2.1 j), fun j => (g.2.2.1 j).trans (h.2.2.1 j), fun j => (g.2.2.2.1 j).trans (h.2.2.2.1 j), fun x x0 x1 => ?_⟩
  rw [g.2.2.2.2 x x0 (by omega), h.2.2.2.2 x x0 (by omega)]
theorem LK.mono {a b : Nat} {B : zA} (h : LK o a b A B) (e f : Nat) (h1 : e ≤ a) (h2 : b ≤ f) : LK o e f A B := ⟨h.1, h.2.1, h.2.2.1, h.2.2.2.1, fun x x0 x1 => h.2.2.2.2 x x0 (by omega)⟩
theorem LK.pi {a b : Nat} {B : zA} (h : LK o a b A B) (hp : PI A o) : PI B o := hp.of (h.2.1 2) (h.2.2.1 0) (h.2.2.1 1)
theorem LK.cw {a b : Nat} {B : zA} (h : LK o a b A B) (k i : Int) : cw B o k i = cw A o k i := h.2.2.2.1 _
theorem LK_ys (h : Own A) (ho : pto.contains o = true) {k : Nat} {v : Int} : LK o k (k + 1) A (ys A o 1 k v) := by
  refine ⟨cF_ys h (pto_dy ho) (by decide) (cont1 o), fun j => zi_ys h (pto_dy ho) (by decide) (pto_fx ho), fun _ => rfl, fun e => yv_ys_o h (pto_dy ho) (by decide) (pto_dy ho) (by decide) (by omega), fun e e0 e1 => yv_ys_n (by omega) e0 (by omega)⟩
section
variable {t a : Nat} {x : Int} (h : Own A) (ho : pto.contains o = true) (hp : PI A o) (hk : (a : Int) < cn A o)
variable {kk : Int}
theorem lk_plain (h : Own A) (ho : pto.contains o = true) (hp : PI A o) (hk : (a : Int) < cn A o) (hc : cw A o a 0 = kk) (h0 : 0 ≤ kk) (h7 : kk ≤ 7) : z_Pt_link_4_l N (t + 1) o x a A = z_Pt_link_4_l N t o x ((a + 1 : Nat) : Int) A := by
  obtain ⟨p1, p2, p3, p4, p5, p6⟩ := hp
  have hkind : z_Pt_kind N o a A = some kk := by
    rw [Pt_kind1 h ho ⟨p1, p2, p3, p4, p5, p6⟩ (by omega) hk, ← hc]; unfold cw; rw [Int.add_zero]
  show z_Pt_link_4_b (z_Pt_link_4_l N t) N o x a A = _
  unfold z_Pt_link_4_b z_Pt_link_84
  unfold cn at *
  rw [if_pos hk, hkind, zbP_s, if_neg (by omega), if_neg (by omega), Pt_has, zbP_s]
  have e1 : zw ((a : Int) + 1) = ((a + 1 : Nat) : Int) := by rw [yb_w (by omega) (by omega)]; omega
  rw [if_neg (show ¬ kk = 9 by omega), if_neg (show ¬ kk = 11 by omega), if_neg (show ¬ kk = 12 by omega), e1, zbP_s]
  split <;> split <;> rfl
theorem lk_open (h : Own A) (ho : pto.contains o = true) (hp : PI A o) (hk : (a : Int) < cn A o) (hc : cw A o a 0 = kk) (h8 : kk = 8 ∨ kk = 10) : z_Pt_link_4_l N (t + 1) o x a A = z_Pt_link_4_l N t o a ((a + 1 : Nat) : Int) (ys A o 1 a x) := by
  obtain ⟨p1, p2, p3, p4, p5, p6⟩ := hp
  have hkind : z_Pt_kind N o a A = some kk := by
    rw [Pt_kind1 h ho ⟨p1, p2, p3, p4, p5, p6⟩ (by omega) hk, ← hc]; unfold cw; rw [Int.add_zero]
  show z_Pt_link_4_b (z_Pt_link_4_l N t) N o x a A = _
  unfold z_Pt_link_4_b z_Pt_link_30
  unfold cn at *
  have e1 : zw ((a : Int) + 1) = ((a + 1 : Nat) : Int) := by rw [yb_w (by omega) (by omega)]; omega
  rw [if_pos hk, hkind, zbP_s, zgr_d h (pto_dy ho) (by decide), zwD_d h (pto_dy ho) (by decide) (by omega) (by omega), e1]
  rcases h8 with rfl | rfl
  · rw [if_pos rfl]
  · rw [if_neg (by decide), if_pos rfl]
theorem lk_mid {y : Nat} (h : Own A) (ho : pto.contains o = true) (hp : PI A o) (hk : (a : Int) < cn A o) (hc : cw A o a 0 = kk) (h9 : kk = 9 ∨ kk = 11) (hy : y < a) : z_Pt_link_4_l N (t + 1) o y a A = z_Pt_link_4_l N t o y ((a + 1 : Nat) : Int) (ys (ys A o 1 a (yv A o 1 y)) o 1 y a) := by
  obtain ⟨p1, p2, p3, p4, p5, p6⟩ := hp
  have hkind : z_Pt_kind N o a A = some kk := by
    rw [Pt_kind1 h ho ⟨p1, p2, p3, p4, p5, p6⟩ (by omega) hk, ← hc]; unfold cw; rw [Int.add_zero]
  show z_Pt_link_4_b (z_Pt_link_4_l N t) N o y a A = _
  unfold z_Pt_link_4_b z_Pt_link_62
  unfold cn at *
  have e1 : zw ((a : Int) + 1) = ((a + 1 : Nat) : Int) := by rw [yb_w (by omega) (by omega)]; omega
  have hd := pto_dy ho
  rw [if_pos hk, hkind, zbP_s, if_neg (by omega), if_neg (by omega), Pt_has, zbP_s]
  unfold cn
  rw [if_pos (show (0 : Int) ≤ y ∧ (y : Int) < zi A o 2 by omega), if_neg (by decide)]
  simp (disch := (first | decide | omega | assumption | ((repeat (first | apply Own.ys | apply Own.si | apply Own.rs)); assumption) | (simp only [yl_ys, yl_si, yl_rs]; omega))) only [zgr_d, zrD_d, zwD_d, e1]
  rcases h9 with rfl | rfl
  · rw [if_pos rfl]
  · rw [if_neg (by decide), if_pos rfl]
theorem lk_end {y m : Nat} (h : Own A) (ho : pto.contains o = true) (hp : PI A o) (hk : (a : Int) < cn A o) (hc : cw A o a 0 = 12) (hy : y < m) (hm : m < a) (hv : yv A o 1 y = m) : z_Pt_link_4_l N (t + 1) o y a A = z_Pt_link_4_l N t o (yv A o 1 m) ((a + 1 : Nat) : Int) (ys (ys A o 1 m a) o 1 a y) := by
  obtain ⟨p1, p2, p3, p4, p5, p6⟩ := hp
  have hkind : z_Pt_kind N o a A = some 12 := by
    rw [Pt_kind1 h ho ⟨p1, p2, p3, p4, p5, p6⟩ (by omega) hk, ← hc]; unfold cw; rw [Int.add_zero]
  have hd := pto_dy ho
  show z_Pt_link_4_b (z_Pt_link_4_l N t) N o y a A = _
  unfold z_Pt_link_4_b z_Pt_link_84 z_Pt_link_126 z_Pt_link_145
  unfold cn at *
  have e1 : zw ((a : Int) + 1) = ((a + 1 : Nat) : Int) := by rw [yb_w (by omega) (by omega)]; omega
  have hz : ∀ k : Nat, k < a → z_Pt_has N o k A = some 1 := fun k hk2 => by
    rw [Pt_has]; unfold cn; rw [if_pos (by omega)]
  rw [if_pos hk, hkind, zbP_s, if_neg (by omega), if_neg (by omega), hz y (by omega)]
  simp (disch := (first | decide | omega | assumption | ((repeat (first | apply Own.ys | apply Own.si | apply Own.rs)); assumption) | (simp only [yl_ys, yl_si, yl_rs]; omega))) only [zbP_s, if_neg, if_true, zgr_d, zrD_d, hv, hz m hm, zwD_d, e1]
end
/-- link goes over balanced rows and leaves their mates -/
theorem Pt_link_run {nd : Int → Nat} {kd nm : Nat → Int} (ho : pto.contains o = true) : ∀ n X, bal nd n X → ∀ (t a : Nat) (x : Int) (A : zA), Own A → PI A o → ((a + X.length : Nat) : Int) ≤ cn A o → -1 ≤ x → x < a → (∀ k : Nat, (k : Int) < cn A o → cw A o k 0 = kd k) → (∀ j (hj : j < X.length), X[j].1 = kd (a + j) ∧ (X[j].1 = 7 → X[j].2.2.1 = nm (a + j))) → ∃ B, z_Pt_link_4_l N (t + X.length) o x a A = z_Pt_link_4_l N t o x ((a + X.length : Nat) : Int) B ∧ LK o a (a + X.length) A B ∧ Bl nd kd nm (fun k => (yv B o 1 k).toNat + 1000 * (-yv B o 1 k).toNat) n a (a + X.length) := by
  apply bal_ind
  · intro n t a x A h hp _ _ _ _ _
    exact ⟨A, rfl, LK.refl h _ _, Bl_plain (Nat.le_refl _) (fun k h1 h2 => by simp only [List.length_nil] at h2; omega)⟩
  · intro n i X hi ih t a x A h hp hl hx hx2 hkd hX
    have g0 := hX 0 (by simp)
    simp only [List.getElem_cons_zero, Nat.add_zero] at g0
    have hr : 0 ≤ i.1 ∧ i.1 ≤ 7 := by rcases hi with hi | ⟨m, -, hi, -⟩ <;> omega
    rw [List.length_cons] at hl ⊢
    obtain ⟨B, b1, b2, b3⟩ := ih t (a + 1) x A h hp (by omega) hx (by omega) hkd (fun j hj => by
      have := hX (j + 1) (by simp; omega)
      simp only [List.getElem_cons_succ] at this
      rw [show a + 1 + j = a + (j + 1) by omega]; exact this)
    have e : a + 1 + X.length = a + (X.length + 1) := by omega
    rw [e] at b1 b2 b3
    refine ⟨B, ?_, b2.mono _ _ (by omega) (by omega), ?_⟩
    · rw [show t + (X.length + 1) = (t + X.length) + 1 by omega, lk_plain h ho hp (by omega) (hkd a (by omega)) (by omega) (by omega)]
      exact b1
    · refine Bl_app ?_ b3
      rcases hi with hi | ⟨m, rfl, hi, hi2⟩
      · exact Bl_plain (by omega) (fun k k1 k2 => by rw [show k = a by omega, ← g0.1]; exact hi)
      · exact Bl_one (Or.inr ⟨by rw [← g0.1]; exact hi, by rw [← g0.2 hi]; exact hi2⟩)
  · intro n ia P ib Q ic X ha hb hc ihP ihQ ihX t a x A h hp hl hx hx2 hkd hX
    have hlen : (ia :: (P ++ ib :: (Q ++ ic :: X))).length = P.length + Q.length + X.length + 3 := by simp only [List.length_cons, List.length_append]; omega
    rw [hlen] at hl ⊢
    have hd := pto_dy ho
    generalize hm : a + 1 + P.length = m
    generalize he : m + 1 + Q.length = e
    have ga : ia.1 = kd a := by have := (hX 0 (by rw [hlen]; omega)).1; simpa using this
    have gm : ib.1 = kd m := by
      have := (hX (1 + P.length) (by rw [hlen]; omega)).1
      rw [show a + (1 + P.length) = m by omega] at this
      rw [← this]
      simp [List.getElem_cons, List.getElem_append]
    have ge : ic.1 = kd e := by
      have := (hX (1 + P.length + (1 + Q.length)) (by rw [hlen]; omega)).1
      rw [show a + (1 + P.length + (1 + Q.length)) = e by omega] at this
      rw [← this]
      simp only [List.getElem_cons, List.getElem_append]
      rw [dif_neg (by omega), dif_neg (by omega), dif_neg (by omega), dif_neg (by omega), dif_pos (by omega)]
    have gP : ∀ j (hj : j < P.length), P[j].1 = kd (a + 1 + j) ∧ (P[j].1 = 7 → P[j].2.2.1 = nm (a + 1 + j)) := fun j hj => by
      have := hX (j + 1) (by rw [hlen]; omega)
      rw [show a + 1 + j = a + (j + 1) by omega]
      simp only [List.getElem_cons_succ, List.getElem_append, dif_pos hj] at this
      exact this
    have gQ : ∀ j (hj : j < Q.length), Q[j].1 = kd (m + 1 + j) ∧ (Q[j].1 = 7 → Q[j].2.2.1 = nm (m + 1 + j)) := fun j hj => by
      have := hX (P.length + 1 + j + 1) (by rw [hlen]; omega)
      rw [show m + 1 + j = a + (P.length + 1 + j + 1) by omega]
      simp only [List.getElem_cons_succ, List.getElem_append, List.getElem_cons] at this
      rw [dif_neg (by omega), dif_neg (by omega), dif_pos (by omega)] at this
      simp only [show P.length + 1 + j - P.length - 1 = j by omega] at this
      exact this
    have gX : ∀ j (hj : j < X.length), X[j].1 = kd (e + 1 + j) ∧ (X[j].1 = 7 → X[j].2.2.1 = nm (e + 1 + j)) := fun j hj => by
      have := hX (P.length + 1 + Q.length + 1 + j + 1) (by rw [hlen]; omega)
      rw [show e + 1 + j = a + (P.length + 1 + Q.length + 1 + j + 1) by omega]
      simp only [List.getElem_cons_succ, List.getElem_append, List.getElem_cons] at this
      rw [dif_neg (by omega), dif_neg (by omega), dif_neg (by omega), dif_neg (by omega)] at this
      simp only [show P.length + 1 + Q.length + 1 + j - P.length - 1 - Q.length - 1 = j by omega] at this
      exact this
    have w1 : ∀ z : Int, -1 ≤ z → z < 300 → zw z = z := fun z z0 z1 => yb_w (by omega) (by omega)
    have hn := hp.2.1
    -- open
    have f1 := lk_open (N := N) (t := t + P.length + Q.length + X.length + 2) (x := x) h ho hp (a := a) (by omega) (hkd a (by omega)) (by omega)
    have k1 : LK o a (a + 1) A (ys A o 1 a x) := LK_ys h ho
    have v1 : yv (ys A o 1 a x) o 1 a = x := by rw [yv_ys_s, w1 _ (by omega) (by omega)]
    generalize ys A o 1 a x = A1 at *
    have cn1 : ∀ {B : zA} {c d : Nat} {C : zA}, LK o c d C B → cn B o = cn C o := fun q => q.2.1 2
    have kd1 : ∀ {B : zA} {c d : Nat} {C : zA}, LK o c d C B → (∀ k : Nat, (k : Int) < cn C o → cw C o k 0 = kd k) → (∀ k : Nat, (k : Int) < cn B o → cw B o k 0 = kd k) := fun q g k hk => by rw [q.cw]; exact g k (by rw [← cn1 q]; exact hk)
    obtain ⟨B1, b1, b2, b3⟩ := ihP (t + Q.length + X.length + 2) (a + 1) a A1 k1.1.own (k1.pi hp) (by rw [cn1 k1]; omega) (by omega) (by omega) (kd1 k1 hkd) gP
    rw [hm] at b1 b2 b3
    have k2 := k1.trans b2 a m (Nat.le_refl _) (by omega) (by omega) (Nat.le_refl _)
    have v2 : yv B1 o 1 a = x := by rw [b2.2.2.2.2 a (by omega) (by omega), v1]
    -- middle
    have f2 := lk_mid (N := N) (t := t + Q.length + X.length + 1) (a := m) (y := a) k2.1.own ho (k2.pi hp) (by rw [cn1 k2]; omega) (kd1 k2 hkd m (by rw [cn1 k2]; omega)) (by omega) (by omega)
    rw [v2] at f2
    have k3 : LK o m (m + 1) B1 (ys B1 o 1 m x) := LK_ys k2.1.own ho
    have v3 : yv (ys B1 o 1 m x) o 1 m = x := by rw [yv_ys_s, w1 _ (by omega) (by omega)]
    generalize ys B1 o 1 m x = B2 at *
    have k4 : LK o a (a + 1) B2 (ys B2 o 1 a m) := LK_ys k3.1.own ho
    have v4 : yv (ys B2 o 1 a m) o 1 a = m := by rw [yv_ys_s, w1 _ (by omega) (by omega)]
    generalize ys B2 o 1 a m = A2 at *
    have v5 : yv A2 o 1 m = x := by rw [k4.2.2.2.2 m (by omega) (by omega), v3]
    have k5 := (k2.trans k3 a (m + 1) (by omega) (by omega) (by omega) (by omega)).trans k4 a (m + 1) (by omega) (by omega) (by omega) (by omega)
    obtain ⟨B3, c1, c2, c3⟩ := ihQ (t + X.length + 1) (m + 1) a A2 k5.1.own (k5.pi hp) (by rw [cn1 k5]; omega) (by omega) (by omega) (kd1 k5 hkd) gQ
    rw [he] at c1 c2 c3
    have k6 := k5.trans c2 a e (by omega) (by omega) (by omega) (by omega)
    have v6 : yv B3 o 1 a = m := by rw [c2.2.2.2.2 a (by omega) (by omega), v4]
    have v7 : yv B3 o 1 m = x := by rw [c2.2.2.2.2 m (by omega) (by omega), v5]
    -- end
    have f3 := lk_end (N := N) (t := t + X.length) (a := e) (y := a) (m := m) k6.1.own ho (k6.pi hp) (by rw [cn1 k6]; omega) (by rw [kd1 k6 hkd e (by rw [cn1 k6]; omega), ← ge]; exact hc) (by omega) (by omega) v6
    rw [v7] at f3
    have k7 : LK o m (m + 1) B3 (ys B3 o 1 m e) := LK_ys k6.1.own ho
    have v8 : yv (ys B3 o 1 m e) o 1 m = e := by rw [yv_ys_s, w1 _ (by omega) (by omega)]
    generalize ys B3 o 1 m e = B4 at *
    have k8 : LK o e (e + 1) B4 (ys B4 o 1 e a) := LK_ys k7.1.own ho
    have v9 : yv (ys B4 o 1 e a) o 1 e = a := by rw [yv_ys_s, w1 _ (by omega) (by omega)]
    generalize ys B4 o 1 e a = A3 at *
    have k9 := (k6.trans k7 a (e + 1) (by omega) (by omega) (by omega) (by omega)).trans k8 a (e + 1) (by omega) (by omega) (by omega) (by omega)
    obtain ⟨B5, d1, d2, d3⟩ := ihX t (e + 1) x A3 k9.1.own (k9.pi hp) (by rw [cn1 k9]; omega) (by omega) (by omega) (kd1 k9 hkd) gX
    have hL : a + (P.length + Q.length + X.length + 3) = e + 1 + X.length := by omega
    rw [hL]
    have ya : yv B5 o 1 a = m := by rw [d2.2.2.2.2 a (by omega) (by omega), k8.2.2.2.2 a (by omega) (by omega), k7.2.2.2.2 a (by omega) (by omega), v6]
    have ym : yv B5 o 1 m = e := by rw [d2.2.2.2.2 m (by omega) (by omega), k8.2.2.2.2 m (by omega) (by omega), v8]
    have ye : yv B5 o 1 e = a := by rw [d2.2.2.2.2 e (by omega) (by omega), v9]
    have yQ : ∀ k : Nat, m + 1 ≤ k → k < e → yv B5 o 1 k = yv B3 o 1 k := fun k q1 q2 => by rw [d2.2.2.2.2 k (by omega) (by omega), k8.2.2.2.2 k (by omega) (by omega), k7.2.2.2.2 k (by omega) (by omega)]
    have yP : ∀ k : Nat, a + 1 ≤ k → k < m → yv B5 o 1 k = yv B1 o 1 k := fun k q1 q2 => by rw [d2.2.2.2.2 k (by omega) (by omega), k8.2.2.2.2 k (by omega) (by omega), k7.2.2.2.2 k (by omega) (by omega), c2.2.2.2.2 k (by omega) (by omega), k4.2.2.2.2 k (by omega) (by omega), k3.2.2.2.2 k (by omega) (by omega)]
    refine ⟨B5, ?_, k9.trans d2 _ _ (by omega) (by omega) (by omega) (by omega), Bl_app ?_ d3⟩
    · rw [show t + (P.length + Q.length + X.length + 3) = t + P.length + Q.length + X.length + 2 + 1 by omega, f1, show t + P.length + Q.length + X.length + 2 = t + Q.length + X.length + 2 + P.length by omega, b1, show t + Q.length + X.length + 2 = t + Q.length + X.length + 1 + 1 by omega, f2, show t + Q.length + X.length + 1 = t + X.length + 1 + Q.length by omega, c1, f3]
      exact d1
    · exact Bl_if (m := m) (by rw [← ga]; exact ha) (by rw [ya]; omega) (by rw [ym]; omega) (by rw [ye]; omega) (by rw [← gm]; exact hb) (by rw [← ge]; exact hc) (by omega) (by omega) (Bl_congr b3 (fun k q1 q2 => ⟨rfl, rfl, fun _ => by rw [yP k q1 q2]⟩)) (Bl_congr c3 (fun k q1 q2 => ⟨rfl, rfl, fun _ => by rw [yQ k q1 q2]⟩))
  · intro n ia P ib Q ic X ha hb hc hPp ihP ihQ ihX t a x A h hp hl hx hx2 hkd hX
    have hlen : (ia :: (P ++ ib :: (Q ++ ic :: X))).length = P.length + Q.length + X.length + 3 := by simp only [List.length_cons, List.length_append]; omega
    rw [hlen] at hl ⊢
    have hd := pto_dy ho
    generalize hm : a + 1 + P.length = m
    generalize he : m + 1 + Q.length = e
    have ga : ia.1 = kd a := by have := (hX 0 (by rw [hlen]; omega)).1; simpa using this
    have gm : ib.1 = kd m := by
      have := (hX (1 + P.length) (by rw [hlen]; omega)).1
      rw [show a + (1 + P.length) = m by omega] at this
      rw [← this]
      simp [List.getElem_cons, List.getElem_append]
    have ge : ic.1 = kd e := by
      have := (hX (1 + P.length + (1 + Q.length)) (by rw [hlen]; omega)).1
      rw [show a + (1 + P.length + (1 + Q.length)) = e by omega] at this
      rw [← this]
      simp only [List.getElem_cons, List.getElem_append]
      rw [dif_neg (by omega), dif_neg (by omega), dif_neg (by omega), dif_neg (by omega), dif_pos (by omega)]
    have gP : ∀ j (hj : j < P.length), P[j].1 = kd (a + 1 + j) ∧ (P[j].1 = 7 → P[j].2.2.1 = nm (a + 1 + j)) := fun j hj => by
      have := hX (j + 1) (by rw [hlen]; omega)
      rw [show a + 1 + j = a + (j + 1) by omega]
      simp only [List.getElem_cons_succ, List.getElem_append, dif_pos hj] at this
      exact this
    have gQ : ∀ j (hj : j < Q.length), Q[j].1 = kd (m + 1 + j) ∧ (Q[j].1 = 7 → Q[j].2.2.1 = nm (m + 1 + j)) := fun j hj => by
      have := hX (P.length + 1 + j + 1) (by rw [hlen]; omega)
      rw [show m + 1 + j = a + (P.length + 1 + j + 1) by omega]
      simp only [List.getElem_cons_succ, List.getElem_append, List.getElem_cons] at this
      rw [dif_neg (by omega), dif_neg (by omega), dif_pos (by omega)] at this
      simp only [show P.length + 1 + j - P.length - 1 = j by omega] at this
      exact this
    have gX : ∀ j (hj : j < X.length), X[j].1 = kd (e + 1 + j) ∧ (X[j].1 = 7 → X[j].2.2.1 = nm (e + 1 + j)) := fun j hj => by
      have := hX (P.length + 1 + Q.length + 1 + j + 1) (by rw [hlen]; omega)
      rw [show e + 1 + j = a + (P.length + 1 + Q.length + 1 + j + 1) by omega]
      simp only [List.getElem_cons_succ, List.getElem_append, List.getElem_cons] at this
      rw [dif_neg (by omega), dif_neg (by omega), dif_neg (by omega), dif_neg (by omega)] at this
      simp only [show P.length + 1 + Q.length + 1 + j - P.length - 1 - Q.length - 1 = j by omega] at this
      exact this
    have w1 : ∀ z : Int, -1 ≤ z → z < 300 → zw z = z := fun z z0 z1 => yb_w (by omega) (by omega)
    have hn := hp.2.1
    -- open
    have f1 := lk_open (N := N) (t := t + P.length + Q.length + X.length + 2) (x := x) h ho hp (a := a) (by omega) (hkd a (by omega)) (by omega)
    have k1 : LK o a (a + 1) A (ys A o 1 a x) := LK_ys h ho
    have v1 : yv (ys A o 1 a x) o 1 a = x := by rw [yv_ys_s, w1 _ (by omega) (by omega)]
    generalize ys A o 1 a x = A1 at *
    have cn1 : ∀ {B : zA} {c d : Nat} {C : zA}, LK o c d C B → cn B o = cn C o := fun q => q.2.1 2
    have kd1 : ∀ {B : zA} {c d : Nat} {C : zA}, LK o c d C B → (∀ k : Nat, (k : Int) < cn C o → cw C o k 0 = kd k) → (∀ k : Nat, (k : Int) < cn B o → cw B o k 0 = kd k) := fun q g k hk => by rw [q.cw]; exact g k (by rw [← cn1 q]; exact hk)
    obtain ⟨B1, b1, b2, b3⟩ := ihP (t + Q.length + X.length + 2) (a + 1) a A1 k1.1.own (k1.pi hp) (by rw [cn1 k1]; omega) (by omega) (by omega) (kd1 k1 hkd) gP
    rw [hm] at b1 b2 b3
    have k2 := k1.trans b2 a m (Nat.le_refl _) (by omega) (by omega) (Nat.le_refl _)
    have v2 : yv B1 o 1 a = x := by rw [b2.2.2.2.2 a (by omega) (by omega), v1]
    -- middle
    have f2 := lk_mid (N := N) (t := t + Q.length + X.length + 1) (a := m) (y := a) k2.1.own ho (k2.pi hp) (by rw [cn1 k2]; omega) (kd1 k2 hkd m (by rw [cn1 k2]; omega)) (by omega) (by omega)
    rw [v2] at f2
    have k3 : LK o m (m + 1) B1 (ys B1 o 1 m x) := LK_ys k2.1.own ho
    have v3 : yv (ys B1 o 1 m x) o 1 m = x := by rw [yv_ys_s, w1 _ (by omega) (by omega)]
    generalize ys B1 o 1 m x = B2 at *
    have k4 : LK o a (a + 1) B2 (ys B2 o 1 a m) := LK_ys k3.1.own ho
    have v4 : yv (ys B2 o 1 a m) o 1 a = m := by rw [yv_ys_s, w1 _ (by omega) (by omega)]
    generalize ys B2 o 1 a m = A2 at *
    have v5 : yv A2 o 1 m = x := by rw [k4.2.2.2.2 m (by omega) (by omega), v3]
    have k5 := (k2.trans k3 a (m + 1) (by omega) (by omega) (by omega) (by omega)).trans k4 a (m + 1) (by omega) (by omega) (by omega) (by omega)
    obtain ⟨B3, c1, c2, c3⟩ := ihQ (t + X.length + 1) (m + 1) a A2 k5.1.own (k5.pi hp) (by rw [cn1 k5]; omega) (by omega) (by omega) (kd1 k5 hkd) gQ
    rw [he] at c1 c2 c3
    have k6 := k5.trans c2 a e (by omega) (by omega) (by omega) (by omega)
    have v6 : yv B3 o 1 a = m := by rw [c2.2.2.2.2 a (by omega) (by omega), v4]
    have v7 : yv B3 o 1 m = x := by rw [c2.2.2.2.2 m (by omega) (by omega), v5]
    -- end
    have f3 := lk_end (N := N) (t := t + X.length) (a := e) (y := a) (m := m) k6.1.own ho (k6.pi hp) (by rw [cn1 k6]; omega) (by rw [kd1 k6 hkd e (by rw [cn1 k6]; omega), ← ge]; exact hc) (by omega) (by omega) v6
    rw [v7] at f3
    have k7 : LK o m (m + 1) B3 (ys B3 o 1 m e) := LK_ys k6.1.own ho
    have v8 : yv (ys B3 o 1 m e) o 1 m = e := by rw [yv_ys_s, w1 _ (by omega) (by omega)]
    generalize ys B3 o 1 m e = B4 at *
    have k8 : LK o e (e + 1) B4 (ys B4 o 1 e a) := LK_ys k7.1.own ho
    have v9 : yv (ys B4 o 1 e a) o 1 e = a := by rw [yv_ys_s, w1 _ (by omega) (by omega)]
    generalize ys B4 o 1 e a = A3 at *
    have k9 := (k6.trans k7 a (e + 1) (by omega) (by omega) (by omega) (by omega)).trans k8 a (e + 1) (by omega) (by omega) (by omega) (by omega)
    obtain ⟨B5, d1, d2, d3⟩ := ihX t (e + 1) x A3 k9.1.own (k9.pi hp) (by rw [cn1 k9]; omega) (by omega) (by omega) (kd1 k9 hkd) gX
    have hL : a + (P.length + Q.length + X.length + 3) = e + 1 + X.length := by omega
    rw [hL]
    have ya : yv B5 o 1 a = m := by rw [d2.2.2.2.2 a (by omega) (by omega), k8.2.2.2.2 a (by omega) (by omega), k7.2.2.2.2 a (by omega) (by omega), v6]
    have ym : yv B5 o 1 m = e := by rw [d2.2.2.2.2 m (by omega) (by omega), k8.2.2.2.2 m (by omega) (by omega), v8]
    have ye : yv B5 o 1 e = a := by rw [d2.2.2.2.2 e (by omega) (by omega), v9]
    have yQ : ∀ k : Nat, m + 1 ≤ k → k < e → yv B5 o 1 k = yv B3 o 1 k := fun k q1 q2 => by rw [d2.2.2.2.2 k (by omega) (by omega), k8.2.2.2.2 k (by omega) (by omega), k7.2.2.2.2 k (by omega) (by omega)]
    have yP : ∀ k : Nat, a + 1 ≤ k → k < m → yv B5 o 1 k = yv B1 o 1 k := fun k q1 q2 => by rw [d2.2.2.2.2 k (by omega) (by omega), k8.2.2.2.2 k (by omega) (by omega), k7.2.2.2.2 k (by omega) (by omega), c2.2.2.2.2 k (by omega) (by omega), k4.2.2.2.2 k (by omega) (by omega), k3.2.2.2.2 k (by omega) (by omega)]
    refine ⟨B5, ?_, k9.trans d2 _ _ (by omega) (by omega) (by omega) (by omega), Bl_app ?_ d3⟩
    · rw [show t + (P.length + Q.length + X.length + 3) = t + P.length + Q.length + X.length + 2 + 1 by omega, f1, show t + P.length + Q.length + X.length + 2 = t + Q.length + X.length + 2 + P.length by omega, b1, show t + Q.length + X.length + 2 = t + Q.length + X.length + 1 + 1 by omega, f2, show t + Q.length + X.length + 1 = t + X.length + 1 + Q.length by omega, c1, f3]
      exact d1
    · exact Bl_wh (m := m) (by rw [← ga]; exact ha) (by rw [ya]; omega) (by rw [ym]; omega) (by rw [ye]; omega) (by rw [← gm]; exact hb) (by rw [← ge]; exact hc) (by omega) (by omega) (fun k q1 q2 => by have := gP (k - (a + 1)) (by omega); rw [show a + 1 + (k - (a + 1)) = k by omega] at this; rw [← this.1]; exact hPp _ (List.getElem_mem _)) (Bl_congr c3 (fun k q1 q2 => ⟨rfl, rfl, fun _ => by rw [yQ k q1 q2]⟩))
theorem Pt_link_ok {nd : Int → Nat} {kd nm : Nat → Int} {n : Nat} {X : List It} (ho : pto.contains o = true) (hN : 1000 ≤ N) (hb : bal nd n X) (h : Own A) (hp : PI A o) (hl : cn A o = X.length) (hkd : ∀ k : Nat, (k : Int) < cn A o → cw A o k 0 = kd k) (hX : ∀ j (hj : j < X.length), X[j].1 = kd j ∧ (X[j].1 = 7 → X[j].2.2.1 = nm j)) : ∃ B, z_Pt_link N o A = some B ∧ LK o 0 X.length A B ∧ Bl nd kd nm (fun k => (yv B o 1 k).toNat + 1000 * (-yv B o 1 k).toNat) n 0 X.length := by
  have hc := hp.2.1
  obtain ⟨B, b1, b2, b3⟩ := Pt_link_run (N := N) ho n X hb (N - X.length) 0 (-1) A h hp (by omega) (by omega) (by omega) hkd (fun j hj => by rw [Nat.zero_add]; exact hX j hj)
  rw [Nat.zero_add] at b1 b2 b3
  refine ⟨B, ?_, b2, b3⟩
  unfold z_Pt_link z_Pt_link_4
  rw [show N - X.length + X.length = N by omega] at b1
  rw [show ((0 : Nat) : Int) = 0 from rfl] at b1
  rw [b1]
  obtain ⟨m, hm⟩ : ∃ m, N - X.length = m + 1 := ⟨N - X.length - 1, by omega⟩
  rw [hm]
  show z_Pt_link_4_b _ N o _ _ B = _
  unfold z_Pt_link_4_b
  rw [if_neg (by have := b2.2.1 2; unfold cn at hl; omega)]
end
