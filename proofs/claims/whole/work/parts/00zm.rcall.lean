/-! the reference's loop, step by step; CALL -/
def kc : Nat → Nat
  | 0 => 3
  | n + 1 => 64 * kc n
theorem kc_pos : ∀ n, 3 ≤ kc n
  | 0 => by unfold kc; omega
  | n + 1 => by have := kc_pos n; unfold kc; omega
theorem kc_mono (n : Nat) : kc n ≤ kc (n + 1) := by
  show kc n ≤ 64 * kc n
  omega
def RU (N w z p a p' a' k : Nat) (A B : zA) : Prop := ∀ f, z_M_walk_122_l N (f + k) w z p a A = z_M_walk_122_l N f w z p' a' B
theorem RU.trans {N w z p a p1 a1 p2 a2 k1 k2 : Nat} {A B C : zA} (h : RU N w z p a p1 a1 k1 A B) (g : RU N w z p1 a1 p2 a2 k2 B C) : RU N w z p a p2 a2 (k1 + k2) A C := fun f => by
  rw [show f + (k1 + k2) = (f + k2) + k1 by omega, h (f + k2), g f]
theorem RU.refl {N w z p a : Nat} {A : zA} : RU N w z p a p a 0 A A := fun _ => rfl
def BR (P : Pg) (sz : Nat → Nat) (sil : Bool) (p a l t : Nat) (s : St) : Prop := BG P sz sil p a l t s ∧ t + 21 * rsz P sz p a l ≤ 15900
def GR (N w z : Nat) (P : Pg) (sz : Nat → Nat) (ex : Nat → Prop) (nd : Int → Nat) (R : Bool → Nat → Nat → Nat → St → St) (n : Nat) : Prop := ∀ (sc p a b dp lv t : Nat) (D : Nat → T) (s : St) (A : zA), ex p → Bl nd (P.1 p) (fun k => P.2.1 p k 1) (P.2.2.1 p) n a b → b ≤ P.2.2.2.1 p → dp + p ≤ 3 → lv + n ≤ 29 ∧ sc ≤ lv → RW A w sc dp lv t D s → PrR A z ex P → BR P sz (Nat.blt 0 sc) p a (b - a) t s → ∃ (B : zA) (t' : Nat) (D' : Nat → T) (k : Nat), k ≤ kc n * rsz P sz p a (b - a) ∧ RU N w z p a p b k A B ∧ RW B w sc dp lv t' D' (R (Nat.blt 0 sc) p a b s) ∧ FQ w sc dp lv t t' D D' s A B ∧ t' ≤ t + 21 * rsz P sz p a (b - a)
section
variable {N w z p a f : Nat} {A : zA} {P : Pg} {ex : Nat → Prop}
theorem ws (hP : PrR A z ex P) (hp : ex p) (hp3 : p ≤ 3) (hz : z < 3) (ha : a < P.2.2.2.1 p) (hl : P.2.2.2.1 p ≤ 150) : z_M_walk_122_l N (f + 1) w z p a A = (if P.1 p a < 7 then zbV (z_M_step N w z p a A) fun A6 => z_M_walk_122_l N f w z p ((a + 1 : Nat) : Int) A6 else (if P.1 p a = 7 then zbP (z_M_field N z p a 2 A) fun v8 => zbP (z_M_field N z p a 1 A) fun v9 => zbP (z_M_get N v9 A) fun v10 => zbV (z_M_enterPart N p ((a + 1 : Nat) : Int) v8 v10 A) fun A11 => z_M_walk_122_l N f w z v8 0 A11 else (if P.1 p a = 8 then zbP (z_M_field N z p a 1 A) fun v13 => zbP (z_M_get N v13 A) fun v14 => zbI (z_M_choose N w p a v14 A) fun v15 A16 => z_M_walk_122_l N f w z p v15 A16 else (if P.1 p a = 9 then zbI (z_M_other N w p a A) fun v18 A19 => z_M_walk_122_l N f w z p v18 A19 else (if P.1 p a = 12 then zbI (z_M_ends N w p a A) fun v21 A22 => z_M_walk_122_l N f w z p v21 A22 else (if P.1 p a = 10 then zbV (z_M_circling N A) fun A24 => z_M_walk_122_l N f w z p ((a + 1 : Nat) : Int) A24 else zbV (z_M_says N w (-8) A) fun A25 => zbP (z_M_field N z p a 1 A25) fun v26 => zbP (z_M_get N v26 A25) fun v27 => zbV (z_M_says N w v27 A25) fun A28 => zbV (z_M_lay_276 N A28) fun A29 => z_M_walk_122_l N f w z p ((a + 1 : Nat) : Int) A29)))))) := by
  have w1 : zw ((a : Int) + 1) = ((a + 1 : Nat) : Int) := by rw [yb_w (by omega) (by omega)]; omega
  have hr : z_M_row N z p A = some ((4 : Int) * z + p) := z_M_row_e (by omega) (by omega)
  have hn : ri A 229 (4 * z + p) = P.2.2.2.1 p := (hP p hp).1
  have e1 : z_M_walk_122_l N (f + 1) w z p a A = z_M_walk_145 (z_M_walk_122_l N f) N w z p a A := by
    show z_M_walk_122_b (z_M_walk_122_l N f) N w z p a A = _
    unfold z_M_walk_122_b
    split
    · rfl
    · rw [hr, zbP_s, zrd_ok (by omega) (by omega), hn, if_pos (by omega)]
  rw [e1]
  unfold z_M_walk_145
  rw [hr, zbP_s, zrd_ok (by omega) (by omega), hn, if_pos (by omega), hP.k0 hp hp3 hz ha hl, zbP_s, w1]
/-- the way back from a part -/
theorem ws_back {dp p' a' : Nat} (hn : rn A (4 * z + p) = a) (hp3 : p ≤ 3) (hz : z < 3) (hd : zi A 226 62 = dp + 1) (hd3 : dp < 3) (h1 : ri A 269 dp = p') (h2 : ri A 270 dp = a') : RU N w z p a p' a' 1 A (zsi A 226 62 dp) := fun f => by
  have hr : z_M_row N z p A = some ((4 : Int) * z + p) := z_M_row_e (by omega) (by omega)
  unfold rn at hn
  show z_M_walk_122_b (z_M_walk_122_l N f) N w z p a A = _
  unfold z_M_walk_122_b
  rw [hd, if_pos (by omega)]
  unfold z_M_walk_145
  rw [hr, zbP_s, zrd_ok (by omega) (by omega), hn, if_neg (by omega), zlet_s, hd, show ((dp : Int) + 1 - 1) = dp by omega]
  have e : zi (zsi A 226 62 dp) 226 62 = dp := by rw [zi_si_s, yb_w (by omega) (by omega)]
  rw [e, zrd_ok (by omega) (by omega), zrd_ok (by omega) (by omega), ri_si_o (by decide), ri_si_o (by decide), h1, h2]
end
section
variable {N : Nat}
theorem ent_run {dp q : Nat} {j v : Int} (hd3 : dp < 3) (hv : zw v = v) : ∀ (r k f : Nat) (A : zA), k + r = 60 → 6 ≤ k → r < f → zi A 226 62 = dp + 1 → ∃ B, z_M_enterPart_44_l N f q j v k A = z_M_enterPart_74 N q j B ∧ fr (fun a j => a = 268 ∧ 60 * (dp + 1) + 6 ≤ j) A B ∧ (∀ i : Nat, k ≤ i → i < 60 → ri B 268 (60 * (dp + 1) + i) = v) ∧ ∀ i : Nat, i < k → ri B 268 (60 * (dp + 1) + i) = ri A 268 (60 * (dp + 1) + i) := by
  intro r
  induction r with
  | zero =>
    intro k f A h1 h6 h2 hd
    obtain ⟨g, rfl⟩ : ∃ g, f = g + 1 := ⟨f - 1, by omega⟩
    refine ⟨A, ?_, fr.refl _ _, fun i a b => by omega, fun _ _ => rfl⟩
    show z_M_enterPart_44_b (z_M_enterPart_44_l N g) N q j v k A = _
    unfold z_M_enterPart_44_b
    rw [if_neg (by omega)]
  | succ r ih =>
    intro k f A h1 h6 h2 hd
    obtain ⟨g, rfl⟩ : ∃ g, f = g + 1 := ⟨f - 1, by omega⟩
    have w1 : zw ((k : Int) + 1) = ((k + 1 : Nat) : Int) := by rw [yb_w (by omega) (by omega)]; omega
    have st : z_M_enterPart_44_l N (g + 1) q j v k A = z_M_enterPart_44_l N g q j v ((k + 1 : Nat) : Int) (rs A 268 (60 * (dp + 1) + k) v) := by
      show z_M_enterPart_44_b (z_M_enterPart_44_l N g) N q j v k A = _
      unfold z_M_enterPart_44_b
      rw [if_pos (by omega), hd, zwr_ok (by omega) (by omega), w1]
    have f1 : fr (fun a j => a = 268 ∧ 60 * (dp + 1) + 6 ≤ j) A (rs A 268 (60 * (dp + 1) + k) v) := fr_rs ⟨rfl, by omega⟩
    have ev : ∀ i : Nat, ri (rs A 268 (60 * (dp + 1) + k) v) 268 (60 * (dp + 1) + i) = if i = k then v else ri A 268 (60 * (dp + 1) + i) := fun i => by
      rw [ri_rs (by omega) (by omega), hv]
      by_cases c : i = k
      · rw [if_pos c, if_pos (by omega)]
      · rw [if_neg c, if_neg (by omega)]
    have z62 : zi (rs A 268 (60 * (dp + 1) + k) v) 226 62 = dp + 1 := by rw [zi_rs_o (by decide)]; exact hd
    generalize rs A 268 (60 * (dp + 1) + k) v = A1 at *
    obtain ⟨B, b1, b2, b3, b4⟩ := ih (k + 1) g A1 (by omega) (by omega) (by omega) z62
    refine ⟨B, by rw [st, b1], f1.trans b2, fun i i1 i2 => ?_, fun i hi => ?_⟩
    · by_cases c : i = k
      · rw [b4 i (by omega), ev, if_pos c]
      · exact b3 i (by omega) i2
    · rw [b4 i (by omega), ev, if_neg (by omega)]
def qE (dp : Nat) (a j : Nat) : Prop := qT a j ∨ (a = 226 ∧ j = 62) ∨ (a = 268 ∧ 60 * (dp + 1) + 6 ≤ j) ∨ ((a = 269 ∨ a = 270) ∧ dp ≤ j)
theorem r_enter {A : zA} {w sc dp lv t p a q j x : Nat} {D : Nat → T} {s : St} (hN : 300000 ≤ N) (h : RW A w sc dp lv t D s) (hd3 : dp < 3) (ht : t < 16000) (hp : p ≤ 3) (ha : a ≤ 240) (hq : q ≤ 3) (hj : j < t) (hu : D j = s.1 x) : ∃ (B : zA) (t' : Nat) (D' : Nat → T), z_M_enterPart N p a q j A = some B ∧ RW B w sc (dp + 1) lv t' D' (clP s.1 x, s.2) ∧ t ≤ t' ∧ t' ≤ t + 1 ∧ (∀ i, i < t → D' i = D i) ∧ fr (qE dp) A B ∧ ri B 269 dp = p ∧ ri B 270 dp = a := by
  have h62 := h.2.2.2.2.1.1
  have hl0 := h.1.1.1
  unfold z_M_enterPart z_M_enterPart_44
  rw [h62, zwr_ok (by omega) (by omega), zi_rs_o (by decide), h62, zwr_ok (by omega) (by omega), zlet_s]
  have e62 : zi (rs (rs A 269 dp p) 270 dp a) 226 62 = dp := by rw [zi_rs_o (by decide), zi_rs_o (by decide)]; exact h62
  rw [e62]
  have f0 : fr (fun a j => (a = 269 ∨ a = 270) ∧ dp ≤ j) A (rs (rs A 269 dp p) 270 dp a) := (fr_rs ⟨Or.inl rfl, by omega⟩).trans (fr_rs ⟨Or.inr rfl, by omega⟩)
  have v9 : ri (rs (rs A 269 dp p) 270 dp a) 269 dp = p := by rw [ri_rs_o (by decide), ri_rs_s, yb_w (by omega) (by omega)]
  have v0 : ri (rs (rs A 269 dp p) 270 dp a) 270 dp = a := by rw [ri_rs_s, yb_w (by omega) (by omega)]
  have h1 := h.lev f0 (fun a j q => by omega)
  generalize rs (rs A 269 dp p) 270 dp a = A1 at *
  have f1 : fr (fun a j => a = 226 ∧ j = 62) A1 (zsi A1 226 62 (dp + 1)) := fr_si ⟨rfl, rfl⟩
  have g62 : zi (zsi A1 226 62 (dp + 1)) 226 62 = dp + 1 := by rw [zi_si_s, yb_w (by omega) (by omega)]
  have hT1 : RTh (zsi A1 226 62 (dp + 1)) t D := h1.1.fr f1 (fun a j q => by unfold qT; omega)
  generalize zsi A1 226 62 (dp + 1) = A2 at *
  obtain ⟨k, t', A3, D', b1, b2, b3, b4, b5, b6, b7, b8⟩ := r_make (k := 0) (x := 0) (y := 0) (z := 0) hN hT1 ht (Or.inl ⟨rfl, rfl, rfl⟩) (by decide) (by decide) zwi0 zwi0 zwi0
  have b4 : D' k = tNum 0 := b4
  rw [b1, zbI_s]
  have k62 : zi A3 226 62 = dp + 1 := by rw [b8.i (fun z => by unfold qT at z; omega)]; exact g62
  have ht' : t' ≤ 16000 := b2.1.1
  obtain ⟨A4, c1, c2, c3, c4⟩ := ent_run (N := N) (dp := dp) (q := q) (j := (j : Int)) (v := (k : Int)) hd3 (yb_w (by omega) (by omega)) 54 6 N A3 (by omega) (by omega) (by omega) k62
  rw [show ((6 : Nat) : Int) = 6 from rfl] at c1
  rw [c1]
  unfold z_M_enterPart_74
  have l62 : zi A4 226 62 = dp + 1 := by rw [c2.i (fun z => by omega)]; exact k62
  rw [l62, zwr_ok (by omega) (by omega), zi_rs_o (by decide), l62, zwr_ok (by omega) (by omega)]
  have f4 : fr (fun a j => (a = 268 ∧ 60 * (dp + 1) + 6 ≤ j) ∨ (a = 269 ∧ dp + 1 ≤ j)) A4 (rs (rs A4 268 (60 * (dp + 1) + 6) j) 269 (dp + 1) q) := (fr_rs (Or.inl ⟨rfl, by omega⟩)).trans (fr_rs (Or.inr ⟨rfl, by omega⟩))
  have v5 : ∀ i : Nat, 6 ≤ i → i < 60 → ri (rs (rs A4 268 (60 * (dp + 1) + 6) j) 269 (dp + 1) q) 268 (60 * (dp + 1) + i) = if i = 6 then (j : Int) else k := fun i i1 i2 => by
    rw [ri_rs_o (by decide), ri_rs (by omega) (by omega), yb_w (by omega) (by omega)]
    by_cases c : i = 6
    · rw [if_pos c, if_pos (by omega)]
    · rw [if_neg c, if_neg (by omega)]
      exact c3 i i1 i2
  generalize rs (rs A4 268 (60 * (dp + 1) + 6) j) 269 (dp + 1) q = B at *
  have c2' := c2.mono (Q' := fun a j => (a = 268 ∧ 60 * (dp + 1) + 6 ≤ j) ∨ (a = 269 ∧ dp + 1 ≤ j)) (fun a j q => Or.inl q)
  have fB := c2'.trans f4
  -- what stays between A1 and B
  have e : ∀ a e, 258 < a → a ≠ 268 → a ≠ 269 → ri B a e = ri A1 a e := fun a e h0 h8 h9 => by
    rw [fB.e (fun z => by omega), b8.e (fun z => by unfold qT at z; omega), f1.e (fun z => by omega)]
  have i : ∀ j, j ≠ 42 → j ≠ 62 → zi B 226 j = zi A1 226 j := fun j h4 h6 => by
    rw [fB.i (fun z => by omega), b8.i (fun z => by unfold qT at z; omega), f1.i (fun z => by omega)]
  have e62B : zi B 226 62 = dp + 1 := by rw [fB.i (fun z => by omega)]; exact k62
  have hTB : RTh B t' D' := b2.fr fB (fun a j q => by unfold qT; omega)
  obtain ⟨x1, x2, x3, x4, x5, x6, x7, x8, x9⟩ := h1
  refine ⟨B, t', D', rfl, ⟨hTB, fun i' hi => ?_, x3.mono (e _ _ (by omega) (by omega) (by omega)) (fun _ => e _ _ (by omega) (by omega) (by omega)) b5 b7, x4.mono (i _ (by omega) (by omega)) (fun _ _ => e _ _ (by omega) (by omega) (by omega)) b5 b7, ?_, x6.mono (by rw [e 261 _ (by omega) (by omega) (by omega)]; omega) (fun c _ => ⟨e _ _ (by omega) (by omega) (by omega), e _ _ (by omega) (by omega) (by omega), e _ _ (by omega) (by omega) (by omega)⟩) (fun _ _ _ _ _ => e _ _ (by omega) (by omega) (by omega)) b5 b7, by rw [e 261 _ (by omega) (by omega) (by omega)]; exact x7, by rw [e 261 _ (by omega) (by omega) (by omega)]; exact x8, x9⟩, b5, b6, b7, ?_, ?_, ?_⟩
  · show ix t' D' (rpl B (dp + 1) i') (clP s.1 x i')
    unfold clP
    by_cases c : i' < 6 ∨ i' = 60
    · rw [if_pos c]
      have := (x2 i' hi).mono b5 b7
      have er : rpl B (dp + 1) i' = rpl A1 dp i' := by
        unfold rpl
        rcases c with c | c
        · rw [if_neg (by omega), if_pos c, if_neg (by omega), if_pos c, e 267 _ (by omega) (by omega) (by omega)]
        · rw [if_pos c, if_pos c, i 63 (by omega) (by omega)]
      rw [er]
      exact this
    · rw [if_neg c]
      unfold rpl
      rw [if_neg (by omega), if_neg (by omega)]
      have := v5 i' (by omega) (by omega)
      rw [show ((60 : Int) * ((dp + 1 : Nat) : Int) + i') = 60 * (dp + 1) + i' by omega, this]
      by_cases c6 : i' = 6
      · rw [if_pos c6, if_pos c6]
        exact ⟨j, by omega, rfl, by rw [b7 j hj]; exact hu⟩
      · rw [if_neg c6, if_neg c6]
        exact ⟨k, b3, rfl, b4⟩
  · unfold RFl
    dsimp only
    rw [e62B, i 66 (by omega) (by omega), i 80 (by omega) (by omega), i 64 (by omega) (by omega), i 65 (by omega) (by omega)]
    exact ⟨by omega, x5.2⟩
  · have g0 := f0.mono (Q' := qE dp) (fun a j q => Or.inr (Or.inr (Or.inr q)))
    have g1 := f1.mono (Q' := qE dp) (fun a j q => Or.inr (Or.inl q))
    have g2 := b8.mono (Q' := qE dp) (fun a j q => Or.inl q)
    have g3 := fB.mono (Q' := qE dp) (fun a j q => by
      rcases q with q | q
      · exact Or.inr (Or.inr (Or.inl q))
      · exact Or.inr (Or.inr (Or.inr ⟨Or.inl q.1, by omega⟩)))
    exact ((g0.trans g1).trans g2).trans g3
  · rw [fB.e (fun z => by omega), b8.e (fun z => by unfold qT at z; omega), f1.e (fun z => by omega)]
    exact v9
  · rw [fB.e (fun z => by omega), b8.e (fun z => by unfold qT at z; omega), f1.e (fun z => by omega)]
    exact v0
end
