/-! the class's parser: constants, works, digits -/
section
variable {N : Nat} {A B : zA} {p g : Nat} {X : List It}
theorem pto_ne0 (hp : pto.contains p = true) : p ≠ 0 := by
  have : ∀ q ∈ pto, q ≠ 0 := by decide
  exact this p (List.contains_iff_mem.mp hp)
theorem fresh_f (hO : Own A) (hp : pto.contains p = true) (hI : PI A p) : z_Pa_fresh N p A = some (cr A p, zsi A p 3 (cr A p + 1)) ∧ cF [p] A (zsi A p 3 (cr A p + 1)) ∧ PI (zsi A p 3 (cr A p + 1)) p := by
  refine ⟨rfl, cF_si hO (pto_fx hp) (pto_ne0 hp) (cont1 p), hI.of (zi_si_j (by decide)) rfl rfl⟩
theorem fresh_cp (hO : Own A) (hp : pto.contains p = true) (hx : CP A p X g) (hg : g < 2000000) : CP (zsi A p 3 (cr A p + 1)) p X (g + 1) := by
  obtain ⟨x1, x2, x3, x4⟩ := hx
  refine ⟨x1.of (zi_si_j (by decide)) rfl rfl, by unfold cn at *; rw [zi_si_j (by decide)]; exact x2, ?_, fun k hk => ?_⟩
  · unfold cr at *
    rw [zi_si_s, x3, yb_w (by omega) (by omega)]
    omega
  · unfold cw
    rw [yv_si hO (pto_dy hp) (by decide) (pto_fx hp)]
    refine ⟨(x4 k hk).1, fun i hi => ?_⟩
    rw [yv_si hO (pto_dy hp) (by decide) (pto_fx hp)]
    exact (x4 k hk).2 i hi
theorem work_f {x y z : Int} (hO : Own A) (hp : pto.contains p = true) (hI : PI A p) : ∃ u B, z_Pa_work N p x y z A = some (u, B) ∧ cF [p] A B ∧ PI B p := by
  obtain ⟨f1, f2, f3⟩ := fresh_f (N := N) hO hp hI
  unfold z_Pa_work
  rw [f1, zbI_s]
  obtain ⟨B, b1, b2, b3, b4⟩ := Pt_add' (N := N) (x := 2) (y := cr A p) (z := x) f2.own hp f3
  rw [b1, zbV_s]
  have c1 := b3.1
  have c2 := b3.2.1
  have e : zw (zi B p 2 - 1) = cn B p - 1 := yb_w (by unfold cn at *; omega) (by unfold cn at *; omega)
  rw [e, Pt_setNumber b2.own hp b3 (by omega) (by omega) (by omega) (by omega), zbV_s]
  have e2 : cn (ys B p 0 (5 * (cn B p - 1) + 1 + 2) y) p = cn B p := zi_ys b2.own (pto_dy hp) (by decide) (pto_fx hp)
  have I2 : PI (ys B p 0 (5 * (cn B p - 1) + 1 + 2) y) p := b3.of e2 rfl rfl
  have e' : zw (zi (ys B p 0 (5 * (cn B p - 1) + 1 + 2) y) p 2 - 1) = cn B p - 1 := by
    show zw (cn (ys B p 0 (5 * (cn B p - 1) + 1 + 2) y) p - 1) = _
    rw [e2]
    exact yb_w (by omega) (by omega)
  rw [e', Pt_setNumber b2.own.ys hp I2 (by omega) (by omega) (by omega) (by omega), zbV_s]
  refine ⟨_, _, rfl, ((f2.trans b2).trans (cF_ys b2.own (pto_dy hp) (by decide) (cont1 p))).trans (cF_ys b2.own.ys (pto_dy hp) (by decide) (cont1 p)), I2.of (zi_ys b2.own.ys (pto_dy hp) (by decide) (pto_fx hp)) rfl rfl⟩
theorem work_cp {x y z : Int} (hO : Own A) (hp : pto.contains p = true) (hx : CP A p X g) (hl : X.length < 240) (hg : g < 2000000) (wx : zw x = x) (wy : zw y = y) (wz : zw z = z) : ∃ B, z_Pa_work N p x y z A = some ((g : Int), B) ∧ cF [p] A B ∧ CP B p (X ++ [(2, (g : Int), x, y, z)]) (g + 1) := by
  obtain ⟨f1, f2, f3⟩ := fresh_f (N := N) hO hp hx.1
  have h2 := fresh_cp hO hp hx hg
  have hd := pto_dy hp
  have eg := hx.2.2.1
  unfold z_Pa_work
  rw [f1, zbI_s]
  generalize zsi A p 3 (cr A p + 1) = C at *
  rw [eg]
  obtain ⟨x1, x2, x3, x4⟩ := h2
  obtain ⟨B, b1, b2, b3, b4, b5, b6, ⟨b71, b72, b73, -, -⟩, b8⟩ := Pt_add (N := N) (x := 2) (y := (g : Int)) (z := x) f2.own hp x1 (by omega)
  rw [b1, zbV_s]
  have e : zw (zi B p 2 - 1) = cn B p - 1 := yb_w (by unfold cn at *; omega) (by unfold cn at *; omega)
  rw [e, Pt_setNumber b2.own hp b3 (by omega) (by omega) (by omega) (by omega), zbV_s]
  have e2 : cn (ys B p 0 (5 * (cn B p - 1) + 1 + 2) y) p = cn B p := zi_ys b2.own hd (by decide) (pto_fx hp)
  have I2 : PI (ys B p 0 (5 * (cn B p - 1) + 1 + 2) y) p := b3.of e2 rfl rfl
  have e' : zw (zi (ys B p 0 (5 * (cn B p - 1) + 1 + 2) y) p 2 - 1) = cn B p - 1 := by
    show zw (cn (ys B p 0 (5 * (cn B p - 1) + 1 + 2) y) p - 1) = _
    rw [e2]
    exact yb_w (by omega) (by omega)
  rw [e', Pt_setNumber b2.own.ys hp I2 (by omega) (by omega) (by omega) (by omega), zbV_s]
  refine ⟨_, rfl, ((f2.trans b2).trans (cF_ys b2.own hd (by decide) (cont1 p))).trans (cF_ys b2.own.ys hd (by decide) (cont1 p)), ?_⟩
  have e3 : cn (ys (ys B p 0 (5 * (cn B p - 1) + 1 + 2) y) p 0 (5 * (cn B p - 1) + 1 + 3) z) p = cn B p := by rw [show cn (ys (ys B p 0 (5 * (cn B p - 1) + 1 + 2) y) p 0 (5 * (cn B p - 1) + 1 + 3) z) p = cn (ys B p 0 (5 * (cn B p - 1) + 1 + 2) y) p from zi_ys b2.own.ys hd (by decide) (pto_fx hp), e2]
  have e4 : cr (ys (ys B p 0 (5 * (cn B p - 1) + 1 + 2) y) p 0 (5 * (cn B p - 1) + 1 + 3) z) p = cr B p := by rw [show cr (ys (ys B p 0 (5 * (cn B p - 1) + 1 + 2) y) p 0 (5 * (cn B p - 1) + 1 + 3) z) p = cr (ys B p 0 (5 * (cn B p - 1) + 1 + 2) y) p from zi_ys b2.own.ys hd (by decide) (pto_fx hp), show cr (ys B p 0 (5 * (cn B p - 1) + 1 + 2) y) p = cr B p from zi_ys b2.own hd (by decide) (pto_fx hp)]
  have em : cn B p - 1 = (X.length : Int) := by omega
  rw [em] at e3 e4 I2 ⊢
  refine ⟨I2.of (zi_ys b2.own.ys hd (by decide) (pto_fx hp)) rfl rfl, by rw [e3, List.length_append]; simp only [List.length_cons, List.length_nil]; omega, by rw [e4, b5]; exact x3, fun m hm => ?_⟩
  rw [List.length_append] at hm
  have hm : m < X.length + 1 := hm
  have rd : ∀ i : Int, 0 ≤ i → i < 5 → ∀ k : Nat, k ≤ X.length → cw (ys (ys B p 0 (5 * (X.length : Int) + 1 + 2) y) p 0 (5 * (X.length : Int) + 1 + 3) z) p k i = if 5 * (k : Int) + i = 5 * (X.length : Int) + 1 + 3 then zw z else if 5 * (k : Int) + i = 5 * (X.length : Int) + 1 + 2 then zw y else cw B p k i := fun i i0 i5 k hk => by
    unfold cw
    rw [yv_ys (by omega) (by omega), yv_ys (by omega) (by omega)]
  by_cases c : m < X.length
  · rw [itm_app1 c]
    have hb := nbk_le (itm X m).1
    refine ⟨?_, fun i hi => ?_⟩
    · rw [rd 0 (by omega) (by omega) m (by omega), if_neg (by omega), if_neg (by omega), b6 m 0 (by omega) (by omega) (by omega) (by omega)]
      exact (x4 m c).1
    · rw [rd _ (by omega) (by omega) m (by omega), if_neg (by omega), if_neg (by omega), b6 m _ (by omega) (by omega) (by omega) (by omega)]
      exact (x4 m c).2 i hi
  · have : m = X.length := by omega
    subst this
    rw [itm_app2]
    refine ⟨?_, fun i hi => ?_⟩
    · rw [rd 0 (by omega) (by omega) _ (Nat.le_refl _), if_neg (by omega), if_neg (by omega), ← x2, b71]
      exact (by decide : zw 2 = 2)
    · have hi : i < 4 := hi
      rw [rd _ (by omega) (by omega) _ (Nat.le_refl _)]
      rcases (show i = 0 ∨ i = 1 ∨ i = 2 ∨ i = 3 by omega) with rfl | rfl | rfl | rfl
      · rw [if_neg (by omega), if_neg (by omega), ← x2]
        show cw B p (cn C p) 1 = (g : Int)
        rw [b72]
        exact yb_w (by omega) (by omega)
      · rw [if_neg (by omega), if_neg (by omega), ← x2]
        show cw B p (cn C p) 2 = x
        rw [b73]
        exact wx
      · rw [if_neg (by omega), if_pos (by omega)]
        exact wy
      · rw [if_pos (by omega)]
        exact wz
end
section
variable {N : Nat} {Tx : Nat → Int} {L mn cl p K b : Nat} {A B : zA} {o : Option Ps}
theorem w300 {r : Int} (h0 : 0 ≤ r) (h1 : r ≤ 99999) : zw r = r := yb_w (by omega) (by omega)
theorem cz_const {v : Int} (hT : TXT Tx L) (hp : pto.contains p = true) (h : CZ Tx L mn cl p K (b + 1) A o) (hv : o ≠ none → 0 ≤ v ∧ v ≤ 99999) : ∃ u B, z_Pa_constant N p v A = some (u, B) ∧ CZv Tx L mn cl p K b B u (o.map (tcn v)) ∧ cF [p] A B := by
  obtain ⟨f1, f2, f3⟩ := fresh_f (N := N) h.1 hp h.2.1
  unfold z_Pa_constant
  rw [f1, zbI_s]
  cases o with
  | none =>
    obtain ⟨B, b1, b2, b3, b4⟩ := Pt_add' (N := N) (x := 0) (y := cr A p) (z := v) f2.own hp f3
    rw [b1, zbV_s]
    exact ⟨_, _, rfl, ⟨cz_part h hp (f2.trans b2) b3 (fun _ => rfl) (fun s' e => by cases e), fun w e => by cases e⟩, f2.trans b2⟩
  | some s =>
    obtain ⟨q1, q2, q3, q4, q5, q6⟩ := h.2.2.2.2.2 s rfl
    have := hT.1
    have hv := hv (by intro e; cases e)
    have h2 := fresh_cp h.1 hp q4 (by omega)
    have eg := q4.2.2.1
    obtain ⟨B, b1, b2, b3⟩ := CP_add (N := N) (x := 0) (y := cr A p) (z := v) f2.own hp h2 (by omega) (by decide) (by rw [eg]; exact yb_w (by omega) (by omega)) (w300 hv.1 hv.2) (by decide)
    rw [b1, zbV_s]
    rw [eg] at b2
    refine ⟨_, _, rfl, ⟨cz_part h hp (f2.trans b3) b2.1 (fun e => by cases e) (fun s' e => ?_), fun w e => ?_⟩, f2.trans b3⟩
    · cases e
      refine ⟨s, rfl, rfl, b2, ?_, ?_⟩
      · show (s.2.1 ++ [(0, (s.2.2 : Int), v, 0, 0)]).length + b ≤ 2 * s.1
        rw [List.length_append]
        simp only [List.length_cons, List.length_nil]
        omega
      · show s.2.2 + 1 ≤ 7 + (s.2.1 ++ [(0, (s.2.2 : Int), v, 0, 0)]).length
        rw [List.length_append]
        simp only [List.length_cons, List.length_nil]
        omega
    · cases e
      exact ⟨eg, by show (0 : Int) ≤ (s.2.2 : Int); omega, by show (s.2.2 : Int) ≤ 300; omega⟩
theorem cz_work {x v z : Int} {o : Option (Int × Ps)} (hT : TXT Tx L) (hp : pto.contains p = true) (h : CZv Tx L mn cl p K (b + 1) A v o) (hx : 0 ≤ x ∧ x ≤ 300) (hz : 0 ≤ z ∧ z ≤ 5) : ∃ u B, z_Pa_work N p x v z A = some (u, B) ∧ CZv Tx L mn cl p K b B u (o.map (fun w => twk z x w.1 w.2)) ∧ cF [p] A B := by
  obtain ⟨h, hv⟩ := h
  cases o with
  | none =>
    obtain ⟨u, B, b1, b2, b3⟩ := work_f (N := N) (x := x) (y := v) (z := z) h.1 hp h.2.1
    exact ⟨u, B, b1, ⟨cz_part h hp b2 b3 (fun _ => rfl) (fun s' e => by cases e), fun w e => by cases e⟩, b2⟩
  | some w =>
    obtain ⟨r, s⟩ := w
    obtain ⟨e1, e2, e3⟩ := hv _ rfl
    have e1 : v = r := e1
    have e2 : 0 ≤ r := e2
    have e3 : r ≤ 300 := e3
    obtain ⟨q1, q2, q3, q4, q5, q6⟩ := h.2.2.2.2.2 s rfl
    have := hT.1
    subst e1
    obtain ⟨B, b1, b2, b3⟩ := work_cp (N := N) (x := x) (y := v) (z := z) h.1 hp q4 (by omega) (by omega) (w300 hx.1 (by omega)) (w300 e2 (by omega)) (w300 hz.1 (by omega))
    refine ⟨_, B, b1, ⟨cz_part h hp b2 b3.1 (fun e => by cases e) (fun s' e => ?_), fun w e => ?_⟩, b2⟩
    · cases e
      refine ⟨s, rfl, rfl, b3, ?_, ?_⟩
      · show (s.2.1 ++ [(2, (s.2.2 : Int), x, v, z)]).length + b ≤ 2 * s.1
        rw [List.length_append]
        simp only [List.length_cons, List.length_nil]
        omega
      · show s.2.2 + 1 ≤ 7 + (s.2.1 ++ [(2, (s.2.2 : Int), x, v, z)]).length
        rw [List.length_append]
        simp only [List.length_cons, List.length_nil]
        omega
    · cases e
      exact ⟨rfl, by show (0 : Int) ≤ (s.2.2 : Int); omega, by show (s.2.2 : Int) ≤ 300; omega⟩
/-- A[..] -/
theorem cz_get {v : Int} {o : Option (Int × Ps)} (hT : TXT Tx L) (hp : pto.contains p = true) (h : CZv Tx L mn cl p K (b + 1) A v o) : ∃ u B, (zbI (z_Pa_fresh N p A) fun v16 A17 => zbV (z_Pt_add N p 3 v16 v A17) fun A18 => some (v16, A18)) = some (u, B) ∧ CZv Tx L mn cl p K b B u (o.map (fun w => tge w.1 w.2)) ∧ cF [p] A B := by
  obtain ⟨h, hv⟩ := h
  obtain ⟨f1, f2, f3⟩ := fresh_f (N := N) h.1 hp h.2.1
  rw [f1, zbI_s]
  cases o with
  | none =>
    obtain ⟨B, b1, b2, b3, b4⟩ := Pt_add' (N := N) (x := 3) (y := cr A p) (z := v) f2.own hp f3
    rw [b1, zbV_s]
    exact ⟨_, _, rfl, ⟨cz_part h hp (f2.trans b2) b3 (fun _ => rfl) (fun s' e => by cases e), fun w e => by cases e⟩, f2.trans b2⟩
  | some w =>
    obtain ⟨r, s⟩ := w
    obtain ⟨e1, e2, e3⟩ := hv _ rfl
    have e1 : v = r := e1
    have e2 : 0 ≤ r := e2
    have e3 : r ≤ 300 := e3
    subst e1
    obtain ⟨q1, q2, q3, q4, q5, q6⟩ := h.2.2.2.2.2 s rfl
    have := hT.1
    have h2 := fresh_cp h.1 hp q4 (by omega)
    have eg := q4.2.2.1
    obtain ⟨B, b1, b2, b3⟩ := CP_add (N := N) (x := 3) (y := cr A p) (z := v) f2.own hp h2 (by omega) (by decide) (by rw [eg]; exact yb_w (by omega) (by omega)) (w300 e2 (by omega)) (by decide)
    rw [b1, zbV_s]
    rw [eg] at b2
    refine ⟨_, _, rfl, ⟨cz_part h hp (f2.trans b3) b2.1 (fun e => by cases e) (fun s' e => ?_), fun w e => ?_⟩, f2.trans b3⟩
    · cases e
      refine ⟨s, rfl, rfl, b2, ?_, ?_⟩
      · show (s.2.1 ++ [(3, (s.2.2 : Int), v, 0, 0)]).length + b ≤ 2 * s.1
        rw [List.length_append]
        simp only [List.length_cons, List.length_nil]
        omega
      · show s.2.2 + 1 ≤ 7 + (s.2.1 ++ [(3, (s.2.2 : Int), v, 0, 0)]).length
        rw [List.length_append]
        simp only [List.length_cons, List.length_nil]
        omega
    · cases e
      exact ⟨eg, by show (0 : Int) ≤ (s.2.2 : Int); omega, by show (s.2.2 : Int) ≤ 300; omega⟩
/-- digits -/
theorem tdg_rg (hT : TXT Tx L) : ∀ (n : Nat) (v : Int) (a : Nat), 0 ≤ v → a ≤ L → 0 ≤ (tdg Tx n v a).1 ∧ (tdg Tx n v a).1 + 1 ≤ (v + 1) * 10 ^ n ∧ a ≤ (tdg Tx n v a).2 ∧ (tdg Tx n v a).2 ≤ L ∧ (1 ≤ n → 48 ≤ Tx a → Tx a ≤ 57 → a < (tdg Tx n v a).2)
  | 0, v, a, h, ha => ⟨h, by show v + 1 ≤ (v + 1) * 10 ^ 0; omega, Nat.le_refl _, ha, fun q => by omega⟩
  | n + 1, v, a, h, ha => by
    unfold tdg
    split
    · next c =>
      have hl := hT.lt (k := a) (by omega)
      obtain ⟨i1, i2, i3, i4, i5⟩ := tdg_rg hT n (10 * v + (Tx a - 48)) (a + 1) (by omega) (by omega)
      refine ⟨i1, ?_, by omega, i4, fun _ _ _ => by omega⟩
      have : (10 * v + (Tx a - 48) + 1) * 10 ^ n ≤ (10 * v + 10) * 10 ^ n := Int.mul_le_mul_of_nonneg_right (by omega) (Int.le_of_lt (Int.pow_pos (by decide)))
      have e : (v + 1) * 10 ^ (n + 1) = (10 * v + 10) * 10 ^ n := by
        rw [Int.pow_succ, Int.mul_comm ((10 : Int) ^ n) 10, ← Int.mul_assoc]
        congr 1
        omega
      omega
    · next c =>
      refine ⟨h, ?_, Nat.le_refl _, ha, fun _ q1 q2 => absurd ⟨q1, q2⟩ c⟩
      have h1 : (1 : Int) ≤ 10 ^ (n + 1) := Int.pow_pos (by decide)
      have := Int.mul_le_mul_of_nonneg_left h1 (show (0 : Int) ≤ v + 1 by omega)
      show v + 1 ≤ _
      omega
theorem cz_digits (hT : TXT Tx L) (hp : pto.contains p = true) : ∀ (n M : Nat) (v x : Int) (A : zA) (o : Option Ps) (K b : Nat), n < M → x = 5 - (n : Int) → n ≤ 5 → K + n ≤ 100000 → (o ≠ none → 0 ≤ v ∧ (v + 1) * 10 ^ n ≤ 100000) → CZ Tx L mn cl p K b A o → ∃ u B, z_Pa_digits_4_l N M v x A = some (u, B) ∧ cF [5] A B ∧ CZ Tx L mn cl p (K + n) b B (o.map fun s => ((tdg Tx n v s.1).2, s.2)) ∧ ∀ s, o = some s → u = (tdg Tx n v s.1).1
  | 0, M + 1, v, x, A, o, K, b, hM, hx, _, hK, hv, h => by
    unfold z_Pa_digits_4_l z_Pa_digits_4_b
    rw [if_neg (by omega)]
    refine ⟨v, A, rfl, cF.refl _ h.1, ?_, fun s e => rfl⟩
    have : (o.map fun s => ((tdg Tx 0 v s.1).2, s.2)) = o := by cases o <;> rfl
    rw [this]; exact h
  | n + 1, M + 1, v, x, A, o, K, b, hM, hx, h5, hK, hv, h => by
    obtain ⟨w, w1, w2, w3, w4⟩ := cz_peek (N := N) hT h
    unfold z_Pa_digits_4_l z_Pa_digits_4_b
    rw [if_pos (by omega), w1, zbP_s]
    have stop : (w < 48 ∨ 57 < w) → ∃ u B, some (v, A) = some (u, B) ∧ cF [5] A B ∧ CZ Tx L mn cl p (K + (n + 1)) b B (o.map fun s => ((tdg Tx (n + 1) v s.1).2, s.2)) ∧ ∀ s, o = some s → u = (tdg Tx (n + 1) v s.1).1 := fun q => by
      have e : ∀ s, o = some s → tdg Tx (n + 1) v s.1 = (v, s.1) := fun s hs => by
        have := w4 s hs
        show (if 48 ≤ Tx s.1 ∧ Tx s.1 ≤ 57 then _ else _) = _
        rw [if_neg (by omega)]
      refine ⟨v, A, rfl, cF.refl _ h.1, ?_, fun s hs => by rw [e s hs]⟩
      have : (o.map fun s => ((tdg Tx (n + 1) v s.1).2, s.2)) = o := by
        cases o with
        | none => rfl
        | some s => rw [Option.map_some, e s rfl]
      rw [this]
      exact h.mono (by omega) (by omega) (Nat.le_refl _)
    by_cases c1 : w < 48
    · rw [if_pos c1]; exact stop (Or.inl c1)
    rw [if_neg c1]
    rw [zbP_s]
    by_cases c2 : 57 < w
    · rw [if_pos c2]; exact stop (Or.inr c2)
    rw [if_neg c2, zbP_s, zlet_s]
    have hx1 : zw (x + 1) = x + 1 := yb_w (by omega) (by omega)
    rw [hx1]
    cases o with
    | none =>
      obtain ⟨q, f⟩ := cz_stepN hp h (by omega)
      obtain ⟨u, B, b1, b2, b3, b4⟩ := cz_digits hT hp n M (zw (10 * v + (w - 48))) (x + 1) _ none (K + 1) b (by omega) (by omega) (by omega) (by omega) (fun e => absurd rfl e) q
      refine ⟨u, B, b1, f.trans b2, ?_, fun s e => by cases e⟩
      exact CZ.mono b3 (by omega) (by omega) (Nat.le_refl _)
    | some s =>
      have ev := w4 s rfl
      obtain ⟨hv0, hv1⟩ := hv (by intro e; cases e)
      have hl := hT.lt (k := s.1) (by omega)
      obtain ⟨q, f⟩ := cz_step hp h hl hT.1
      have p1 : (1 : Int) ≤ 10 ^ n := Int.pow_pos (by decide)
      have p2 : (v + 1) * 10 ^ (n + 1) = (10 * v + 10) * 10 ^ n := by
        rw [Int.pow_succ, Int.mul_comm ((10 : Int) ^ n) 10, ← Int.mul_assoc]
        congr 1
        omega
      have p3 : (10 * v + 10) * 1 ≤ (10 * v + 10) * 10 ^ n := Int.mul_le_mul_of_nonneg_left p1 (by omega)
      have p4 : (10 * v + (w - 48) + 1) * 10 ^ n ≤ (10 * v + 10) * 10 ^ n := Int.mul_le_mul_of_nonneg_right (by omega) (by omega)
      have hw : zw (10 * v + (w - 48)) = 10 * v + (w - 48) := yb_w (by omega) (by omega)
      rw [hw]
      obtain ⟨u, B, b1, b2, b3, b4⟩ := cz_digits hT hp n M (10 * v + (w - 48)) (x + 1) _ (some (tav s)) K (b + 2) (by omega) (by omega) (by omega) (by omega) (fun _ => ⟨by omega, by omega⟩) q
      have e : tdg Tx (n + 1) v s.1 = tdg Tx n (10 * v + (w - 48)) (s.1 + 1) := by
        show (if 48 ≤ Tx s.1 ∧ Tx s.1 ≤ 57 then _ else _) = _
        rw [if_pos (by omega), ← ev]
      refine ⟨u, B, b1, f.trans b2, ?_, fun s' e' => ?_⟩
      · rw [Option.map_some, e]
        exact CZ.mono b3 (by omega) (by omega) (by omega)
      · cases e'
        rw [e]
        exact b4 _ rfl
end
