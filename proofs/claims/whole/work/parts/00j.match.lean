/-! the reference: what may change: cells of a list, fields of 226 -/
def rF (l m : List Nat) (A B : zA) : Prop := B.1 = A.1 ∧ B.2.2 = A.2.2 ∧ ∀ a j, l.contains a = false → (a = 226 → m.contains j = false) → zmi B a j = zmi A a j
section
variable {l m : List Nat} {A B C : zA}
theorem rF.refl (l m : List Nat) (A : zA) : rF l m A A := ⟨rfl, rfl, fun _ _ _ _ => rfl⟩
theorem rF.trans (h : rF l m A B) (g : rF l m B C) : rF l m A C := ⟨g.1.trans h.1, g.2.1.trans h.2.1, fun a j h1 h2 => (g.2.2 a j h1 h2).trans (h.2.2 a j h1 h2)⟩
theorem rF.i (h : rF l m A B) {a j : Nat} (h1 : l.contains a = false) (h2 : a ≠ 226) : zi B a j = zi A a j := by
  unfold zi; rw [h.2.2 a j h1 (fun q => absurd q h2)]
theorem rF.e (h : rF l m A B) {a : Nat} {e : Int} (h1 : l.contains a = false) (h2 : a ≠ 226) : ri B a e = ri A a e := h.i h1 h2
theorem rF.f (h : rF l m A B) {j : Nat} (h1 : l.contains 226 = false) (h2 : m.contains j = false) : zi B 226 j = zi A 226 j := by
  unfold zi; rw [h.2.2 226 j h1 (fun _ => h2)]
theorem rF.mono {l' m' : List Nat} (h : rF l m A B) (h1 : ∀ a, l.contains a = true → l'.contains a = true) (h2 : ∀ a, m.contains a = true → m'.contains a = true) : rF l' m' A B := by
  refine ⟨h.1, h.2.1, fun a j g1 g2 => h.2.2 a j ?_ (fun q => ?_)⟩
  · cases hc : l.contains a with
    | false => rfl
    | true => rw [h1 a hc] at g1; cases g1
  · cases hc : m.contains j with
    | false => rfl
    | true => have := g2 q; rw [h2 j hc] at this; cases this
theorem rF_rs {a : Nat} {e z : Int} (h : l.contains a = true) : rF l m A (rs A a e z) := by
  refine ⟨rfl, rfl, fun b j h1 h2 => ?_⟩
  unfold rs zsi zmi zup
  simp only
  rw [if_neg (fun q => by rw [q.1, h] at h1; cases h1)]
theorem rF_si {j : Nat} {z : Int} (h : m.contains j = true) : rF l m A (zsi A 226 j z) := by
  refine ⟨rfl, rfl, fun b k h1 h2 => ?_⟩
  unfold zsi zmi zup
  simp only
  rw [if_neg (fun q => by have := h2 q.1; rw [q.2, h] at this; cases this)]
end
/-! match -/
def MK (p : Int) (x a b : Nat) (A B : zA) : Prop := rF [231, 233] [] A B ∧ (∀ e : Int, 0 ≤ e → (e < 240 * p + a ∨ 240 * p + b ≤ e) → ri B 231 e = ri A 231 e) ∧ (∀ e : Int, 0 ≤ e → e < x → ri B 233 e = ri A 233 e)
section
variable {N : Nat} {A : zA} {p : Int} {x : Nat}
theorem MK.refl (a b : Nat) : MK p x a b A A := ⟨rF.refl _ _ _, fun _ _ _ => rfl, fun _ _ _ => rfl⟩
theorem MK.trans {a b c d x' : Nat} {B C : zA} (h : MK p x a b A B) (g : MK p x' c d B C) (e f y : Nat) (h1 : e ≤ a) (h2 : b ≤ f) (h3 : e ≤ c) (h4 : d ≤ f) (h5 : y ≤ x) (h6 : y ≤ x') : MK p y e f A C := by
  refine ⟨h.1.trans g.1, fun q x0 x1 => ?_, fun q x0 x1 => ?_⟩
  · rw [g.2.1 q x0 (by omega), h.2.1 q x0 (by omega)]
  · rw [g.2.2 q x0 (by omega), h.2.2 q x0 (by omega)]
theorem MK.mono {a b : Nat} {B : zA} (h : MK p x a b A B) (e f y : Nat) (h1 : e ≤ a) (h2 : b ≤ f) (h3 : y ≤ x) : MK p y e f A B := ⟨h.1, fun q x0 x1 => h.2.1 q x0 (by omega), fun q x0 x1 => h.2.2 q x0 (by omega)⟩
theorem MK_m {k : Nat} {v : Int} (hp : 0 ≤ p) : MK p x k (k + 1) A (rs A 231 (240 * p + k) v) := ⟨rF_rs (by decide), fun e e0 e1 => ri_rs_n (by omega) e0 (by omega), fun e _ _ => ri_rs_o (by decide)⟩
theorem MK_o {k : Nat} {e v : Int} (hx : x ≤ e) : MK p x k k A (rs A 233 e v) := ⟨rF_rs (by decide), fun q _ _ => ri_rs_o (by decide), fun q q0 q1 => ri_rs_n (by omega) q0 (by omega)⟩
variable {z : Int} {t a : Nat} {kk : Int}
section
variable (hp : 0 ≤ p) (hp4 : p < 4) (hz : 0 ≤ z) (hz3 : z < 3)
theorem mk_kind (hp : 0 ≤ p) (hp4 : p < 4) (hz : 0 ≤ z) (hz3 : z < 3) (ha : a < 240) : z_M_field N z p a 0 A = some (ri A 228 (rad (4 * z + p) a 0)) := z_M_field_e (by omega) (by omega) (by omega) (by omega) (by omega) (by omega)
theorem mk_plain (hp : 0 ≤ p) (hp4 : p < 4) (hz : 0 ≤ z) (hz3 : z < 3) (hn : rn A (4 * z + p) ≤ 240) (ha : (a : Int) < rn A (4 * z + p)) (hc : ri A 228 (rad (4 * z + p) a 0) = kk) (h0 : 0 ≤ kk) (h7 : kk ≤ 7) : z_M_match_5_l N (t + 1) z p x a A = z_M_match_5_l N t z p x ((a + 1 : Nat) : Int) A := by
  show z_M_match_5_b (z_M_match_5_l N t) N z p x a A = _
  unfold z_M_match_5_b
  have e1 : zw ((a : Int) + 1) = ((a + 1 : Nat) : Int) := by rw [yb_w (by omega) (by omega)]; omega
  unfold rn at *
  rw [z_M_row_e (by omega) (by omega), zbP_s, zrd_ok (by omega) (by omega), if_pos ha, mk_kind hp hp4 hz hz3 (by omega), zbP_s, hc, if_neg (by omega), if_neg (by omega), if_neg (by omega), if_neg (by omega), if_neg (by omega), e1]
theorem mk_open (hp : 0 ≤ p) (hp4 : p < 4) (hz : 0 ≤ z) (hz3 : z < 3) (hn : rn A (4 * z + p) ≤ 240) (ha : (a : Int) < rn A (4 * z + p)) (hc : ri A 228 (rad (4 * z + p) a 0) = kk) (h8 : kk = 8 ∨ kk = 10) (hx : x ≤ a) : z_M_match_5_l N (t + 1) z p x a A = z_M_match_5_l N t z p ((x + 1 : Nat) : Int) ((a + 1 : Nat) : Int) (rs A 233 x a) := by
  show z_M_match_5_b (z_M_match_5_l N t) N z p x a A = _
  unfold z_M_match_5_b z_M_match_45
  have e1 : zw ((a : Int) + 1) = ((a + 1 : Nat) : Int) := by rw [yb_w (by omega) (by omega)]; omega
  have e2 : zw ((x : Int) + 1) = ((x + 1 : Nat) : Int) := by rw [yb_w (by omega) (by omega)]; omega
  unfold rn at *
  rw [z_M_row_e (by omega) (by omega), zbP_s, zrd_ok (by omega) (by omega), if_pos ha, mk_kind hp hp4 hz hz3 (by omega), zbP_s, hc, zwr_ok (by omega) (by omega), e1, e2]
  rcases h8 with rfl | rfl
  · rw [if_pos rfl]
  · rw [if_neg (by decide), if_pos rfl]
theorem mk_mid {y : Nat} (hp : 0 ≤ p) (hp4 : p < 4) (hz : 0 ≤ z) (hz3 : z < 3) (hn : rn A (4 * z + p) ≤ 240) (ha : (a : Int) < rn A (4 * z + p)) (hc : ri A 228 (rad (4 * z + p) a 0) = kk) (h9 : kk = 9 ∨ kk = 11) (hx : x < a) (hy : y < a) (ho : ri A 233 x = y) : z_M_match_5_l N (t + 1) z p ((x + 1 : Nat) : Int) a A = z_M_match_5_l N t z p ((x + 1 : Nat) : Int) ((a + 1 : Nat) : Int) (rs (rs A 231 (240 * p + y) a) 233 x (y * 1000 + a)) := by
  show z_M_match_5_b (z_M_match_5_l N t) N z p ((x + 1 : Nat) : Int) a A = _
  unfold z_M_match_5_b z_M_match_73
  have e1 : zw ((a : Int) + 1) = ((a + 1 : Nat) : Int) := by rw [yb_w (by omega) (by omega)]; omega
  have e2 : ((x + 1 : Nat) : Int) - 1 = x := by omega
  unfold rn at *
  rw [z_M_row_e (by omega) (by omega), zbP_s, zrd_ok (by omega) (by omega), if_pos ha, mk_kind hp hp4 hz hz3 (by omega), zbP_s, hc, e2]
  simp (disch := (first | decide | omega | assumption | ((repeat (first | apply Own.ys | apply Own.si | apply Own.rs)); assumption) | (simp only [yl_ys, yl_si, yl_rs]; omega))) only [zrd_ok, ho, zwr_ok, ri_rs_o, e1]
  rcases h9 with rfl | rfl
  · rw [if_neg (by decide), if_neg (by decide), if_pos rfl]
  · rw [if_neg (by decide), if_neg (by decide), if_neg (by decide), if_pos rfl]
theorem zdv_n {x y : Nat} (hx : x < 2147483648) (hy : y < 2147483648) (h0 : 0 < y) : zdv x y = ((x / y : Nat) : Int) := by
  unfold zdv
  have hx1 : (Int32.ofInt (x : Int)).toInt = x := Int32.toInt_ofInt_of_le (by omega) (by omega)
  have hy1 : (Int32.ofInt (y : Int)).toInt = y := Int32.toInt_ofInt_of_le (by omega) (by omega)
  rw [Int32.toInt_div_of_ne_right _ _ (fun q => by have := congrArg Int32.toInt q; rw [hy1] at this; have : (y : Int) = -1 := this; omega), hx1, hy1]
  rfl
theorem zrm_n {x y : Nat} (hx : x < 2147483648) (hy : y < 2147483648) (h0 : 0 < y) : zrm x y = ((x % y : Nat) : Int) := by
  have hd := zdv_n hx hy h0
  unfold zdv at hd
  have hx1 : (Int32.ofInt (x : Int)).toInt = x := Int32.toInt_ofInt_of_le (by omega) (by omega)
  have e1 : Int32.ofInt (x : Int) / Int32.ofInt (y : Int) = Int32.ofInt ((x / y : Nat) : Int) := by rw [← hd, Int32.ofInt_toInt]
  unfold zrm
  rw [e1, ← Int32.ofInt_mul, ← Int32.ofInt_sub]
  have hm := Nat.div_add_mod x y
  have hc : x / y * y = y * (x / y) := Nat.mul_comm _ _
  have hlt := Nat.mod_lt x h0
  rw [show (x : Int) - ((x / y : Nat) : Int) * (y : Int) = ((x % y : Nat) : Int) by
    have : ((x / y : Nat) : Int) * (y : Int) = ((x / y * y : Nat) : Int) := (Int.natCast_mul _ _).symm
    rw [this, hc]; omega]
  exact Int32.toInt_ofInt_of_le (by omega) (by omega)
theorem mk_end {y m : Nat} (hp : 0 ≤ p) (hp4 : p < 4) (hz : 0 ≤ z) (hz3 : z < 3) (hn : rn A (4 * z + p) ≤ 240) (ha : (a : Int) < rn A (4 * z + p)) (hc : ri A 228 (rad (4 * z + p) a 0) = 12) (hx : x < a) (hy : y < a) (hm : m < a) (ho : ri A 233 x = y * 1000 + m) : z_M_match_5_l N (t + 1) z p ((x + 1 : Nat) : Int) a A = z_M_match_5_l N t z p x ((a + 1 : Nat) : Int) (rs (rs A 231 (240 * p + m) a) 231 (240 * p + a) y) := by
  show z_M_match_5_b (z_M_match_5_l N t) N z p ((x + 1 : Nat) : Int) a A = _
  unfold z_M_match_5_b
  have e1 : zw ((a : Int) + 1) = ((a + 1 : Nat) : Int) := by rw [yb_w (by omega) (by omega)]; omega
  have e2 : ((x + 1 : Nat) : Int) + (-1) = x := by omega
  have e3 : zw (x : Int) = x := yb_w (by omega) (by omega)
  have e4 : ¬ zw 1000 = 0 := by decide
  unfold rn at *
  have d1 : zdv ((y : Int) * 1000 + m) 1000 = y := by
    have := zdv_n (x := y * 1000 + m) (y := 1000) (by omega) (by omega) (by omega)
    rw [show ((y * 1000 + m : Nat) : Int) = (y : Int) * 1000 + m by omega] at this
    rw [show ((1000 : Nat) : Int) = 1000 from rfl] at this
    rw [this]; omega
  have d2 : zrm ((y : Int) * 1000 + m) 1000 = m := by
    have := zrm_n (x := y * 1000 + m) (y := 1000) (by omega) (by omega) (by omega)
    rw [show ((y * 1000 + m : Nat) : Int) = (y : Int) * 1000 + m by omega] at this
    rw [show ((1000 : Nat) : Int) = 1000 from rfl] at this
    rw [this]; omega
  rw [z_M_row_e (by omega) (by omega), zbP_s, zrd_ok (by omega) (by omega), if_pos ha, mk_kind hp hp4 hz hz3 (by omega), zbP_s, hc, if_neg (by decide), if_neg (by decide), if_neg (by decide), if_neg (by decide), if_pos rfl, e2]
  simp (disch := (first | decide | omega | assumption | ((repeat (first | apply Own.ys | apply Own.si | apply Own.rs)); assumption) | (simp only [yl_ys, yl_si, yl_rs]; omega))) only [zrd_ok, ho, d1, d2, zwr_ok, ri_rs_o, e1, e3, if_neg e4]
end
theorem M_match_run {nd : Int → Nat} {kd nm : Nat → Int} {p z : Int} (hp : 0 ≤ p) (hp4 : p < 4) (hz : 0 ≤ z) (hz3 : z < 3) : ∀ n X, bal nd n X → ∀ (t a x : Nat) (A : zA), rn A (4 * z + p) ≤ 240 → ((a + X.length : Nat) : Int) ≤ rn A (4 * z + p) → x ≤ a → (∀ k : Nat, (k : Int) < rn A (4 * z + p) → ri A 228 (rad (4 * z + p) k 0) = kd k) → (∀ j (hj : j < X.length), X[j].1 = kd (a + j) ∧ (X[j].1 = 7 → X[j].2.2.1 = nm (a + j))) → ∃ B, z_M_match_5_l N (t + X.length) z p x a A = z_M_match_5_l N t z p x ((a + X.length : Nat) : Int) B ∧ MK p x a (a + X.length) A B ∧ Bl nd kd nm (fun k => (ri B 231 (240 * p + k)).toNat + 1000 * (-ri B 231 (240 * p + k)).toNat) n a (a + X.length) := by
  apply bal_ind
  · intro n t a x A _ _ _ _ _
    exact ⟨A, rfl, MK.refl _ _, Bl_plain (Nat.le_refl _) (fun k h1 h2 => by simp only [List.length_nil] at h2; omega)⟩
  · intro n i X hi ih t a x A hn hl hx hkd hX
    have g0 := hX 0 (by simp)
    simp only [List.getElem_cons_zero, Nat.add_zero] at g0
    have hr : 0 ≤ i.1 ∧ i.1 ≤ 7 := by rcases hi with hi | ⟨m, -, hi, -⟩ <;> omega
    rw [List.length_cons] at hl ⊢
    obtain ⟨B, b1, b2, b3⟩ := ih t (a + 1) x A hn (by omega) (by omega) hkd (fun j hj => by
      have := hX (j + 1) (by simp; omega)
      simp only [List.getElem_cons_succ] at this
      rw [show a + 1 + j = a + (j + 1) by omega]; exact this)
    have e : a + 1 + X.length = a + (X.length + 1) := by omega
    rw [e] at b1 b2 b3
    refine ⟨B, ?_, b2.mono _ _ _ (by omega) (by omega) (by omega), ?_⟩
    · rw [show t + (X.length + 1) = (t + X.length) + 1 by omega, mk_plain hp hp4 hz hz3 hn (by omega) (hkd a (by omega)) (by omega) (by omega)]
      exact b1
    · refine Bl_app ?_ b3
      rcases hi with hi | ⟨m, rfl, hi, hi2⟩
      · exact Bl_plain (by omega) (fun k k1 k2 => by rw [show k = a by omega, ← g0.1]; exact hi)
      · exact Bl_one (Or.inr ⟨by rw [← g0.1]; exact hi, by rw [← g0.2 hi]; exact hi2⟩)
  · intro n ia P ib Q ic X ha hb hc ihP ihQ ihX t a x A hn hl hx hkd hX
    have hlen : (ia :: (P ++ ib :: (Q ++ ic :: X))).length = P.length + Q.length + X.length + 3 := by simp only [List.length_cons, List.length_append]; omega
    rw [hlen] at hl ⊢
    generalize hm : a + 1 + P.length = m
    generalize he : m + 1 + Q.length = e
    have ga : ia.1 = kd a := by have := (hX 0 (by rw [hlen]; omega)).1; simpa using this
    have gm : ib.1 = kd m := by
      have := (hX (1 + P.length) (by rw [hlen]; omega)).1
      rw [show a + (1 + P.length) = m by omega] at this
      rw [← this]
      simp [List.getElem_cons, List.getElem_append]
    have ge : ic.1 = kd e := by
      have := (hX (1 + P.length + (1 + Q.length)) (by rw [hlen]; omega)).1
      rw [show a + (1 + P.length + (1 + Q.length)) = e by omega] at this
      rw [← this]
      simp only [List.getElem_cons, List.getElem_append]
      rw [dif_neg (by omega), dif_neg (by omega), dif_neg (by omega), dif_neg (by omega), dif_pos (by omega)]
    have gP : ∀ j (hj : j < P.length), P[j].1 = kd (a + 1 + j) ∧ (P[j].1 = 7 → P[j].2.2.1 = nm (a + 1 + j)) := fun j hj => by
      have := hX (j + 1) (by rw [hlen]; omega)
      rw [show a + 1 + j = a + (j + 1) by omega]
      simp only [List.getElem_cons_succ, List.getElem_append, dif_pos hj] at this
      exact this
    have gQ : ∀ j (hj : j < Q.length), Q[j].1 = kd (m + 1 + j) ∧ (Q[j].1 = 7 → Q[j].2.2.1 = nm (m + 1 + j)) := fun j hj => by
      have := hX (P.length + 1 + j + 1) (by rw [hlen]; omega)
      rw [show m + 1 + j = a + (P.length + 1 + j + 1) by omega]
      simp only [List.getElem_cons_succ, List.getElem_append, List.getElem_cons] at this
      rw [dif_neg (by omega), dif_neg (by omega), dif_pos (by omega)] at this
      simp only [show P.length + 1 + j - P.length - 1 = j by omega] at this
      exact this
    have gX : ∀ j (hj : j < X.length), X[j].1 = kd (e + 1 + j) ∧ (X[j].1 = 7 → X[j].2.2.1 = nm (e + 1 + j)) := fun j hj => by
      have := hX (P.length + 1 + Q.length + 1 + j + 1) (by rw [hlen]; omega)
      rw [show e + 1 + j = a + (P.length + 1 + Q.length + 1 + j + 1) by omega]
      simp only [List.getElem_cons_succ, List.getElem_append, List.getElem_cons] at this
      rw [dif_neg (by omega), dif_neg (by omega), dif_neg (by omega), dif_neg (by omega)] at this
      simp only [show P.length + 1 + Q.length + 1 + j - P.length - 1 - Q.length - 1 = j by omega] at this
      exact this
    have w1 : ∀ z : Int, -1 ≤ z → z < 300000 → zw z = z := fun z z0 z1 => yb_w (by omega) (by omega)
    have rn1 : ∀ {B C : zA}, rF [231, 233] [] C B → rn B (4 * z + p) = rn C (4 * z + p) := fun q => q.e (by decide) (by decide)
    have kd1 : ∀ {B C : zA}, rF [231, 233] [] C B → (∀ k : Nat, (k : Int) < rn C (4 * z + p) → ri C 228 (rad (4 * z + p) k 0) = kd k) → (∀ k : Nat, (k : Int) < rn B (4 * z + p) → ri B 228 (rad (4 * z + p) k 0) = kd k) := fun q g k hk => by rw [q.e (by decide) (by decide)]; exact g k (by rw [← rn1 q]; exact hk)
    -- open
    have f1 := mk_open (N := N) (t := t + P.length + Q.length + X.length + 2) (x := x) hp hp4 hz hz3 hn (a := a) (by omega) (hkd a (by omega)) (by omega) hx
    have k1 : MK p x a a A (rs A 233 x a) := MK_o (by omega)
    have v1 : ri (rs A 233 x a) 233 x = a := by rw [ri_rs_s, w1 _ (by omega) (by omega)]
    generalize rs A 233 x a = A1 at *
    obtain ⟨B1, b1, b2, b3⟩ := ihP (t + Q.length + X.length + 2) (a + 1) (x + 1) A1 (by rw [rn1 k1.1]; exact hn) (by rw [rn1 k1.1]; omega) (by omega) (kd1 k1.1 hkd) gP
    rw [hm] at b1 b2 b3
    have k2 := k1.trans b2 a m x (Nat.le_refl _) (by omega) (by omega) (Nat.le_refl _) (by omega) (by omega)
    have v2 : ri B1 233 x = a := by rw [b2.2.2 x (by omega) (by omega), v1]
    -- middle
    have f2 := mk_mid (N := N) (t := t + Q.length + X.length + 1) (a := m) (y := a) hp hp4 hz hz3 (by rw [rn1 k2.1]; exact hn) (by rw [rn1 k2.1]; omega) (kd1 k2.1 hkd m (by rw [rn1 k2.1]; omega)) (by omega) (by omega) (by omega) v2
    have k3 : MK p x a (a + 1) B1 (rs B1 231 (240 * p + a) m) := MK_m hp
    have v3 : ri (rs B1 231 (240 * p + a) m) 231 (240 * p + a) = m := by rw [ri_rs_s, w1 _ (by omega) (by omega)]
    generalize rs B1 231 (240 * p + a) m = B2 at *
    have k4 : MK p x m m B2 (rs B2 233 x (a * 1000 + m)) := MK_o (by omega)
    have v4 : ri (rs B2 233 x (a * 1000 + m)) 233 x = a * 1000 + m := by rw [ri_rs_s, w1 _ (by omega) (by omega)]
    have v4b : ri (rs B2 233 x (a * 1000 + m)) 231 (240 * p + a) = m := by rw [ri_rs_o (by decide), v3]
    generalize rs B2 233 x (a * 1000 + m) = A2 at *
    have k5 := (k2.trans k3 a (m + 1) x (by omega) (by omega) (by omega) (by omega) (by omega) (by omega)).trans k4 a (m + 1) x (by omega) (by omega) (by omega) (by omega) (by omega) (by omega)
    obtain ⟨B3, c1, c2, c3⟩ := ihQ (t + X.length + 1) (m + 1) (x + 1) A2 (by rw [rn1 k5.1]; exact hn) (by rw [rn1 k5.1]; omega) (by omega) (kd1 k5.1 hkd) gQ
    rw [he] at c1 c2 c3
    have k6 := k5.trans c2 a e x (by omega) (by omega) (by omega) (by omega) (by omega) (by omega)
    have v6 : ri B3 231 (240 * p + a) = m := by rw [c2.2.1 _ (by omega) (by omega), v4b]
    have v7 : ri B3 233 x = a * 1000 + m := by rw [c2.2.2 x (by omega) (by omega), v4]
    -- end
    have f3 := mk_end (N := N) (t := t + X.length) (a := e) (y := a) (m := m) hp hp4 hz hz3 (by rw [rn1 k6.1]; exact hn) (by rw [rn1 k6.1]; omega) (by rw [kd1 k6.1 hkd e (by rw [rn1 k6.1]; omega), ← ge]; exact hc) (by omega) (by omega) (by omega) v7
    have k7 : MK p x m (m + 1) B3 (rs B3 231 (240 * p + m) e) := MK_m hp
    have v8 : ri (rs B3 231 (240 * p + m) e) 231 (240 * p + m) = e := by rw [ri_rs_s, w1 _ (by omega) (by omega)]
    generalize rs B3 231 (240 * p + m) e = B4 at *
    have k8 : MK p x e (e + 1) B4 (rs B4 231 (240 * p + e) a) := MK_m hp
    have v9 : ri (rs B4 231 (240 * p + e) a) 231 (240 * p + e) = a := by rw [ri_rs_s, w1 _ (by omega) (by omega)]
    generalize rs B4 231 (240 * p + e) a = A3 at *
    have k9 := (k6.trans k7 a (e + 1) x (by omega) (by omega) (by omega) (by omega) (by omega) (by omega)).trans k8 a (e + 1) x (by omega) (by omega) (by omega) (by omega) (by omega) (by omega)
    obtain ⟨B5, d1, d2, d3⟩ := ihX t (e + 1) x A3 (by rw [rn1 k9.1]; exact hn) (by rw [rn1 k9.1]; omega) (by omega) (kd1 k9.1 hkd) gX
    have hL : a + (P.length + Q.length + X.length + 3) = e + 1 + X.length := by omega
    rw [hL]
    have ya : ri B5 231 (240 * p + a) = m := by rw [d2.2.1 _ (by omega) (by omega), k8.2.1 _ (by omega) (by omega), k7.2.1 _ (by omega) (by omega), v6]
    have ym : ri B5 231 (240 * p + m) = e := by rw [d2.2.1 _ (by omega) (by omega), k8.2.1 _ (by omega) (by omega), v8]
    have ye : ri B5 231 (240 * p + e) = a := by rw [d2.2.1 _ (by omega) (by omega), v9]
    have yQ : ∀ k : Nat, m + 1 ≤ k → k < e → ri B5 231 (240 * p + k) = ri B3 231 (240 * p + k) := fun k q1 q2 => by rw [d2.2.1 _ (by omega) (by omega), k8.2.1 _ (by omega) (by omega), k7.2.1 _ (by omega) (by omega)]
    have yP : ∀ k : Nat, a + 1 ≤ k → k < m → ri B5 231 (240 * p + k) = ri B1 231 (240 * p + k) := fun k q1 q2 => by rw [d2.2.1 _ (by omega) (by omega), k8.2.1 _ (by omega) (by omega), k7.2.1 _ (by omega) (by omega), c2.2.1 _ (by omega) (by omega), k4.2.1 _ (by omega) (by omega), k3.2.1 _ (by omega) (by omega)]
    refine ⟨B5, ?_, k9.trans d2 _ _ x (by omega) (by omega) (by omega) (by omega) (by omega) (by omega), Bl_app ?_ d3⟩
    · rw [show t + (P.length + Q.length + X.length + 3) = t + P.length + Q.length + X.length + 2 + 1 by omega, f1, show t + P.length + Q.length + X.length + 2 = t + Q.length + X.length + 2 + P.length by omega, b1, show t + Q.length + X.length + 2 = t + Q.length + X.length + 1 + 1 by omega, f2, show t + Q.length + X.length + 1 = t + X.length + 1 + Q.length by omega, c1, f3]
      exact d1
    · exact Bl_if (m := m) (by rw [← ga]; exact ha) (by rw [ya]; omega) (by rw [ym]; omega) (by rw [ye]; omega) (by rw [← gm]; exact hb) (by rw [← ge]; exact hc) (by omega) (by omega) (Bl_congr b3 (fun k q1 q2 => ⟨rfl, rfl, fun _ => by rw [yP k q1 q2]⟩)) (Bl_congr c3 (fun k q1 q2 => ⟨rfl, rfl, fun _ => by rw [yQ k q1 q2]⟩))
  · intro n ia P ib Q ic X ha hb hc hPp ihP ihQ ihX t a x A hn hl hx hkd hX
    have hlen : (ia :: (P ++ ib :: (Q ++ ic :: X))).length = P.length + Q.length + X.length + 3 := by simp only [List.length_cons, List.length_append]; omega
    rw [hlen] at hl ⊢
    generalize hm : a + 1 + P.length = m
    generalize he : m + 1 + Q.length = e
    have ga : ia.1 = kd a := by have := (hX 0 (by rw [hlen]; omega)).1; simpa using this
    have gm : ib.1 = kd m := by
      have := (hX (1 + P.length) (by rw [hlen]; omega)).1
      rw [show a + (1 + P.length) = m by omega] at this
      rw [← this]
      simp [List.getElem_cons, List.getElem_append]
    have ge : ic.1 = kd e := by
      have := (hX (1 + P.length + (1 + Q.length)) (by rw [hlen]; omega)).1
      rw [show a + (1 + P.length + (1 + Q.length)) = e by omega] at this
      rw [← this]
      simp only [List.getElem_cons, List.getElem_append]
      rw [dif_neg (by omega), dif_neg (by omega), dif_neg (by omega), dif_neg (by omega), dif_pos (by omega)]
    have gP : ∀ j (hj : j < P.length), P[j].1 = kd (a + 1 + j) ∧ (P[j].1 = 7 → P[j].2.2.1 = nm (a + 1 + j)) := fun j hj => by
      have := hX (j + 1) (by rw [hlen]; omega)
      rw [show a + 1 + j = a + (j + 1) by omega]
      simp only [List.getElem_cons_succ, List.getElem_append, dif_pos hj] at this
      exact this
    have gQ : ∀ j (hj : j < Q.length), Q[j].1 = kd (m + 1 + j) ∧ (Q[j].1 = 7 → Q[j].2.2.1 = nm (m + 1 + j)) := fun j hj => by
      have := hX (P.length + 1 + j + 1) (by rw [hlen]; omega)
      rw [show m + 1 + j = a + (P.length + 1 + j + 1) by omega]
      simp only [List.getElem_cons_succ, List.getElem_append, List.getElem_cons] at this
      rw [dif_neg (by omega), dif_neg (by omega), dif_pos (by omega)] at this
      simp only [show P.length + 1 + j - P.length - 1 = j by omega] at this
      exact this
    have gX : ∀ j (hj : j < X.length), X[j].1 = kd (e + 1 + j) ∧ (X[j].1 = 7 → X[j].2.2.1 = nm (e + 1 + j)) := fun j hj => by
      have := hX (P.length + 1 + Q.length + 1 + j + 1) (by rw [hlen]; omega)
      rw [show e + 1 + j = a + (P.length + 1 + Q.length + 1 + j + 1) by omega]
      simp only [List.getElem_cons_succ, List.getElem_append, List.getElem_cons] at this
      rw [dif_neg (by omega), dif_neg (by omega), dif_neg (by omega), dif_neg (by omega)] at this
      simp only [show P.length + 1 + Q.length + 1 + j - P.length - 1 - Q.length - 1 = j by omega] at this
      exact this
    have w1 : ∀ z : Int, -1 ≤ z → z < 300000 → zw z = z := fun z z0 z1 => yb_w (by omega) (by omega)
    have rn1 : ∀ {B C : zA}, rF [231, 233] [] C B → rn B (4 * z + p) = rn C (4 * z + p) := fun q => q.e (by decide) (by decide)
    have kd1 : ∀ {B C : zA}, rF [231, 233] [] C B → (∀ k : Nat, (k : Int) < rn C (4 * z + p) → ri C 228 (rad (4 * z + p) k 0) = kd k) → (∀ k : Nat, (k : Int) < rn B (4 * z + p) → ri B 228 (rad (4 * z + p) k 0) = kd k) := fun q g k hk => by rw [q.e (by decide) (by decide)]; exact g k (by rw [← rn1 q]; exact hk)
    -- open
    have f1 := mk_open (N := N) (t := t + P.length + Q.length + X.length + 2) (x := x) hp hp4 hz hz3 hn (a := a) (by omega) (hkd a (by omega)) (by omega) hx
    have k1 : MK p x a a A (rs A 233 x a) := MK_o (by omega)
    have v1 : ri (rs A 233 x a) 233 x = a := by rw [ri_rs_s, w1 _ (by omega) (by omega)]
    generalize rs A 233 x a = A1 at *
    obtain ⟨B1, b1, b2, b3⟩ := ihP (t + Q.length + X.length + 2) (a + 1) (x + 1) A1 (by rw [rn1 k1.1]; exact hn) (by rw [rn1 k1.1]; omega) (by omega) (kd1 k1.1 hkd) gP
    rw [hm] at b1 b2 b3
    have k2 := k1.trans b2 a m x (Nat.le_refl _) (by omega) (by omega) (Nat.le_refl _) (by omega) (by omega)
    have v2 : ri B1 233 x = a := by rw [b2.2.2 x (by omega) (by omega), v1]
    -- middle
    have f2 := mk_mid (N := N) (t := t + Q.length + X.length + 1) (a := m) (y := a) hp hp4 hz hz3 (by rw [rn1 k2.1]; exact hn) (by rw [rn1 k2.1]; omega) (kd1 k2.1 hkd m (by rw [rn1 k2.1]; omega)) (by omega) (by omega) (by omega) v2
    have k3 : MK p x a (a + 1) B1 (rs B1 231 (240 * p + a) m) := MK_m hp
    have v3 : ri (rs B1 231 (240 * p + a) m) 231 (240 * p + a) = m := by rw [ri_rs_s, w1 _ (by omega) (by omega)]
    generalize rs B1 231 (240 * p + a) m = B2 at *
    have k4 : MK p x m m B2 (rs B2 233 x (a * 1000 + m)) := MK_o (by omega)
    have v4 : ri (rs B2 233 x (a * 1000 + m)) 233 x = a * 1000 + m := by rw [ri_rs_s, w1 _ (by omega) (by omega)]
    have v4b : ri (rs B2 233 x (a * 1000 + m)) 231 (240 * p + a) = m := by rw [ri_rs_o (by decide), v3]
    generalize rs B2 233 x (a * 1000 + m) = A2 at *
    have k5 := (k2.trans k3 a (m + 1) x (by omega) (by omega) (by omega) (by omega) (by omega) (by omega)).trans k4 a (m + 1) x (by omega) (by omega) (by omega) (by omega) (by omega) (by omega)
    obtain ⟨B3, c1, c2, c3⟩ := ihQ (t + X.length + 1) (m + 1) (x + 1) A2 (by rw [rn1 k5.1]; exact hn) (by rw [rn1 k5.1]; omega) (by omega) (kd1 k5.1 hkd) gQ
    rw [he] at c1 c2 c3
    have k6 := k5.trans c2 a e x (by omega) (by omega) (by omega) (by omega) (by omega) (by omega)
    have v6 : ri B3 231 (240 * p + a) = m := by rw [c2.2.1 _ (by omega) (by omega), v4b]
    have v7 : ri B3 233 x = a * 1000 + m := by rw [c2.2.2 x (by omega) (by omega), v4]
    -- end
    have f3 := mk_end (N := N) (t := t + X.length) (a := e) (y := a) (m := m) hp hp4 hz hz3 (by rw [rn1 k6.1]; exact hn) (by rw [rn1 k6.1]; omega) (by rw [kd1 k6.1 hkd e (by rw [rn1 k6.1]; omega), ← ge]; exact hc) (by omega) (by omega) (by omega) v7
    have k7 : MK p x m (m + 1) B3 (rs B3 231 (240 * p + m) e) := MK_m hp
    have v8 : ri (rs B3 231 (240 * p + m) e) 231 (240 * p + m) = e := by rw [ri_rs_s, w1 _ (by omega) (by omega)]
    generalize rs B3 231 (240 * p + m) e = B4 at *
    have k8 : MK p x e (e + 1) B4 (rs B4 231 (240 * p + e) a) := MK_m hp
    have v9 : ri (rs B4 231 (240 * p + e) a) 231 (240 * p + e) = a := by rw [ri_rs_s, w1 _ (by omega) (by omega)]
    generalize rs B4 231 (240 * p + e) a = A3 at *
    have k9 := (k6.trans k7 a (e + 1) x (by omega) (by omega) (by omega) (by omega) (by omega) (by omega)).trans k8 a (e + 1) x (by omega) (by omega) (by omega) (by omega) (by omega) (by omega)
    obtain ⟨B5, d1, d2, d3⟩ := ihX t (e + 1) x A3 (by rw [rn1 k9.1]; exact hn) (by rw [rn1 k9.1]; omega) (by omega) (kd1 k9.1 hkd) gX
    have hL : a + (P.length + Q.length + X.length + 3) = e + 1 + X.length := by omega
    rw [hL]
    have ya : ri B5 231 (240 * p + a) = m := by rw [d2.2.1 _ (by omega) (by omega), k8.2.1 _ (by omega) (by omega), k7.2.1 _ (by omega) (by omega), v6]
    have ym : ri B5 231 (240 * p + m) = e := by rw [d2.2.1 _ (by omega) (by omega), k8.2.1 _ (by omega) (by omega), v8]
    have ye : ri B5 231 (240 * p + e) = a := by rw [d2.2.1 _ (by omega) (by omega), v9]
    have yQ : ∀ k : Nat, m + 1 ≤ k → k < e → ri B5 231 (240 * p + k) = ri B3 231 (240 * p + k) := fun k q1 q2 => by rw [d2.2.1 _ (by omega) (by omega), k8.2.1 _ (by omega) (by omega), k7.2.1 _ (by omega) (by omega)]
    have yP : ∀ k : Nat, a + 1 ≤ k → k < m → ri B5 231 (240 * p + k) = ri B1 231 (240 * p + k) := fun k q1 q2 => by rw [d2.2.1 _ (by omega) (by omega), k8.2.1 _ (by omega) (by omega), k7.2.1 _ (by omega) (by omega), c2.2.1 _ (by omega) (by omega), k4.2.1 _ (by omega) (by omega), k3.2.1 _ (by omega) (by omega)]
    refine ⟨B5, ?_, k9.trans d2 _ _ x (by omega) (by omega) (by omega) (by omega) (by omega) (by omega), Bl_app ?_ d3⟩
    · rw [show t + (P.length + Q.length + X.length + 3) = t + P.length + Q.length + X.length + 2 + 1 by omega, f1, show t + P.length + Q.length + X.length + 2 = t + Q.length + X.length + 2 + P.length by omega, b1, show t + Q.length + X.length + 2 = t + Q.length + X.length + 1 + 1 by omega, f2, show t + Q.length + X.length + 1 = t + X.length + 1 + Q.length by omega, c1, f3]
      exact d1
    · exact Bl_wh (m := m) (by rw [← ga]; exact ha) (by rw [ya]; omega) (by rw [ym]; omega) (by rw [ye]; omega) (by rw [← gm]; exact hb) (by rw [← ge]; exact hc) (by omega) (by omega) (fun k q1 q2 => by have := gP (k - (a + 1)) (by omega); rw [show a + 1 + (k - (a + 1)) = k by omega] at this; rw [← this.1]; exact hPp _ (List.getElem_mem _)) (Bl_congr c3 (fun k q1 q2 => ⟨rfl, rfl, fun _ => by rw [yQ k q1 q2]⟩))
theorem M_match_ok {nd : Int → Nat} {kd nm : Nat → Int} {n : Nat} {X : List It} {p z : Int} (hN : 1000 ≤ N) (hp : 0 ≤ p) (hp4 : p < 4) (hz : 0 ≤ z) (hz3 : z < 3) (hb : bal nd n X) (hl : rn A (4 * z + p) = X.length) (hn : X.length ≤ 240) (hkd : ∀ k : Nat, (k : Int) < rn A (4 * z + p) → ri A 228 (rad (4 * z + p) k 0) = kd k) (hX : ∀ j (hj : j < X.length), X[j].1 = kd j ∧ (X[j].1 = 7 → X[j].2.2.1 = nm j)) : ∃ B, z_M_match N z p A = some B ∧ MK p 0 0 X.length A B ∧ Bl nd kd nm (fun k => (ri B 231 (240 * p + k)).toNat + 1000 * (-ri B 231 (240 * p + k)).toNat) n 0 X.length := by
  obtain ⟨B, b1, b2, b3⟩ := M_match_run (N := N) hp hp4 hz hz3 n X hb (N - X.length) 0 0 A (by omega) (by omega) (by omega) hkd (fun j hj => by rw [Nat.zero_add]; exact hX j hj)
  rw [Nat.zero_add] at b1 b2 b3
  refine ⟨B, ?_, b2, b3⟩
  unfold z_M_match z_M_match_5
  rw [show N - X.length + X.length = N by omega] at b1
  rw [show ((0 : Nat) : Int) = 0 from rfl] at b1
  rw [b1]
  obtain ⟨m, hm⟩ : ∃ m, N - X.length = m + 1 := ⟨N - X.length - 1, by omega⟩
  rw [hm]
  show z_M_match_5_b _ N z p _ _ B = _
  unfold z_M_match_5_b
  have := b2.1.e (a := 229) (e := 4 * z + p) (by decide) (by decide)
  unfold rn at hl
  rw [z_M_row_e (by omega) (by omega), zbP_s, zrd_ok (by omega) (by omega), if_neg (by omega)]
end
