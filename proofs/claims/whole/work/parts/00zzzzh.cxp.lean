/-! the class's parser: expressions -/
def CRec (Tx : Nat → Int) (L mn cl p : Nat) (R : Nat → Int → zA → Option (Int × zA)) (x : Int) (F : Ps → Option (Int × Ps)) (c : Nat) : Prop := ∀ (A : zA) (o : Option Ps) (K b : Nat), K + c ≤ 50000 → CZ Tx L mn cl p K b A o → ∃ v B, R p x A = some (v, B) ∧ cF [5, p] A B ∧ CZv Tx L mn cl p (K + c) b B v (o.bind F)
section
variable {N : Nat} {Tx : Nat → Int} {L mn cl p K b : Nat} {A B : zA} {o : Option Ps}
theorem cS5 : ∀ a, ([5] : List Nat).contains a = true → ([5, p] : List Nat).contains a = true := fun a h => by
  simp at h ⊢
  exact Or.inl h
theorem cSp : ∀ a, ([p] : List Nat).contains a = true → ([5, p] : List Nat).contains a = true := fun a h => by
  simp at h ⊢
  exact Or.inr h
theorem CZ.low {s : Ps} {K' b' : Nat} (h : CZ Tx L mn cl p K b A (some s)) (hK : 120 ≤ K') (hK2 : K' ≤ 100000) (hb : b' ≤ b) : L ≤ 120 → CZ Tx L mn cl p K' b' A (some s) := fun hL => by
  obtain ⟨h1, h2, h3, h4, h5, h6⟩ := h
  obtain ⟨q1, q2, q3, q4, q5, q6⟩ := h6 s rfl
  refine ⟨h1, h2, h3, by omega, h5, fun s' hs => ?_⟩
  cases hs
  exact ⟨q1, q2, q3, q4, by omega, q6⟩
theorem CZ.up {s : Ps} {b' : Nat} (h : CZ Tx L mn cl p K b A (some s)) (hb : s.2.1.length + b' ≤ 2 * s.1) : CZ Tx L mn cl p K b' A (some s) := by
  obtain ⟨h1, h2, h3, h4, h5, h6⟩ := h
  obtain ⟨q1, q2, q3, q4, q5, q6⟩ := h6 s rfl
  refine ⟨h1, h2, h3, h4, h5, fun s' hs => ?_⟩
  cases hs
  exact ⟨q1, q2, q3, q4, hb, q6⟩
theorem CZv.mono {v : Int} {o : Option (Int × Ps)} {K' b' : Nat} (h : CZv Tx L mn cl p K b A v o) (hK : K ≤ K') (hK2 : K' ≤ 100000) (hb : b' ≤ b) : CZv Tx L mn cl p K' b' A v o := ⟨CZ.mono h.1 hK hK2 hb, h.2⟩
theorem CZv.low0 {v : Int} {w : Int × Ps} {K' b' : Nat} (h : CZv Tx L mn cl p K b A v (some w)) (hK : 120 ≤ K') (hK2 : K' ≤ 100000) (hb : b' ≤ b) (hL : L ≤ 120) : CZv Tx L mn cl p K' b' A v (some w) := ⟨CZ.low h.1 hK hK2 hb hL, h.2⟩
theorem cz_pr_stop {rec : Nat → Int → zA → Option (Int × zA)} {x w x4 : Int} : ∀ {M : Nat}, 0 < M → zi A 5 3 = 1 → z_Pa_product_10_l rec N M p x w x4 A = some (w, A)
  | M + 1, _, h => by
    unfold z_Pa_product_10_l z_Pa_product_10_b
    split
    · rw [if_neg (by rw [h]; decide)]
    · rfl
theorem cz_pr_loop {rec : Nat → Int → zA → Option (Int × zA)} {x : Int} {F : Ps → Option (Int × Ps)} {c : Nat} (hT : TXT Tx L) (hp : pto.contains p = true) (hF : CRec Tx L mn cl p rec x F c) : ∀ (n M : Nat) (w x4 : Int) (A : zA) (o : Option (Int × Ps)) (K b : Nat), n < M → x4 = 120 - (n : Int) → n ≤ 120 → K + c ≤ 50000 → CZv Tx L mn cl p K b A w o → ∃ v B, z_Pa_product_10_l rec N M p x w x4 A = some (v, B) ∧ cF [5, p] A B ∧ CZv Tx L mn cl p (K + c) b B v (o.bind (tlo Tx 42 47 2 3 F n))
  | 0, M + 1, w, x4, A, o, K, b, hM, hx, h5, hK, h => by
    unfold z_Pa_product_10_l z_Pa_product_10_b
    rw [if_neg (by omega)]
    have : o.bind (tlo Tx 42 47 2 3 F 0) = o := by cases o <;> rfl
    rw [this]
    exact ⟨w, A, rfl, cF.refl _ h.1.1, h.mono (by omega) (by omega) (Nat.le_refl _)⟩
  | n + 1, M + 1, w, x4, A, none, K, b, hM, hx, h5, hK, h => by
    rw [cz_pr_stop (Nat.succ_pos M) (h.1.2.2.2.2.1 rfl)]
    exact ⟨w, A, rfl, cF.refl _ h.1.1, h.mono (by omega) (by omega) (Nat.le_refl _)⟩
  | n + 1, M + 1, w, x4, A, some (r, s), K, b, hM, hx, h5, hK, h => by
    obtain ⟨hz, hv⟩ := h
    obtain ⟨e1, e2, e3⟩ := hv _ rfl
    have e1 : w = r := e1
    have e2 : 0 ≤ r := e2
    have e3 : r ≤ 300 := e3
    subst e1
    have hz' : CZ Tx L mn cl p K b A (some s) := hz
    obtain ⟨q1, q2, q3, q4, q5, q6⟩ := hz'.2.2.2.2.2 s rfl
    obtain ⟨u, u1, u2, u3, u4⟩ := cz_peek (N := N) hT hz'
    have u4 := u4 s rfl
    have K1 := hz'.2.2.2.1.1
    have go : ∀ op : Int, op = (if Tx s.1 = 42 then 2 else 3) → (Tx s.1 = 42 ∨ Tx s.1 = 47) → ∃ v B, z_Pa_product_56 rec (z_Pa_product_10_l rec N M) N p x w x4 op A = some (v, B) ∧ cF [5, p] A B ∧ CZv Tx L mn cl p (K + c) b B v ((some (w, s)).bind (tlo Tx 42 47 2 3 F (n + 1))) := fun op hop hc => by
      unfold z_Pa_product_56
      rw [zlet_s]
      obtain ⟨z1, f1⟩ := cz_step hp hz' (hT.lt (k := s.1) (by omega)) hT.1
      obtain ⟨v2, B, b1, b2, b3⟩ := hF _ (some (tav s)) K (b + 2) hK z1
      have b1 : rec p x (zsi A 5 2 (zi A 5 2 + 1)) = some (v2, B) := b1
      rw [b1, zbI_s]
      have hop2 : 0 ≤ op ∧ op ≤ 5 := by
        rw [hop]
        split <;> decide
      obtain ⟨v4, C, c1, c2, c3⟩ := cz_work (N := N) (b := b + 1) hT hp b3 ⟨e2, e3⟩ hop2
      rw [c1, zbI_s]
      have f2 : cF [5, p] A C := ((f1.mono cS5).trans b2).trans (c3.mono cSp)
      have e : (some (w, s)).bind (tlo Tx 42 47 2 3 F (n + 1)) = (F (tav s)).bind fun u => tlo Tx 42 47 2 3 F n (twk op w u.1 u.2) := by
        show (if Tx s.1 = 42 ∨ Tx s.1 = 47 then _ else _) = _
        rw [if_pos hc, hop]
      rw [e]
      have c2 : CZv Tx L mn cl p (K + c) (b + 1) C v4 ((F (tav s)).map fun u => twk op w u.1 u.2) := c2
      rw [show zw (x4 + 1) = x4 + 1 from yb_w (by omega) (by omega)]
      revert c2
      cases hFs : F (tav s) with
      | none =>
        intro c2
        rw [cz_pr_stop (by omega) (c2.1.2.2.2.2.1 rfl)]
        exact ⟨v4, C, rfl, f2, c2.mono (Nat.le_refl _) (by omega) (by omega)⟩
      | some u =>
        intro c2
        obtain ⟨v, D, d1, d2, d3⟩ := cz_pr_loop hT hp hF n M v4 (x4 + 1) C (some (twk op w u.1 u.2)) K b (by omega) (by omega) (by omega) hK (c2.low0 K1 (by omega) (by omega) hT.1)
        exact ⟨v, D, d1, f2.trans d2, d3⟩
    unfold z_Pa_product_10_l z_Pa_product_10_b
    rw [if_pos (by omega), if_pos q1, u1, zbP_s]
    by_cases c1 : u = 42
    · rw [if_pos c1]
      unfold z_Pa_product_42
      rw [u1, zbP_s, if_pos c1]
      exact go 2 (by rw [if_pos (by omega)]) (by omega)
    · rw [if_neg c1, zbP_s]
      by_cases c2 : u = 47
      · rw [if_pos c2]
        unfold z_Pa_product_42
        rw [u1, zbP_s, if_neg c1]
        exact go 3 (by rw [if_neg (by omega)]) (by omega)
      · rw [if_neg c2]
        have e : (some (w, s)).bind (tlo Tx 42 47 2 3 F (n + 1)) = some (w, s) := by
          show (if Tx s.1 = 42 ∨ Tx s.1 = 47 then _ else _) = _
          rw [if_neg (by omega)]
        rw [e]
        exact ⟨w, A, rfl, cF.refl _ hz.1, CZv.mono ⟨hz, hv⟩ (by omega) (by omega) (Nat.le_refl _)⟩
theorem cz_pr {rec : Nat → Int → zA → Option (Int × zA)} {x : Int} {F : Ps → Option (Int × Ps)} {c : Nat} (hN : 300000 ≤ N) (hT : TXT Tx L) (hp : pto.contains p = true) (hF : CRec Tx L mn cl p rec x F c) : CRec Tx L mn cl p (z_Pa_product rec N) x (tpr Tx F) c := fun A o K b hK h => by
  obtain ⟨v, B, b1, b2, b3⟩ := hF A o K b hK h
  have b1 : rec p x A = some (v, B) := b1
  unfold z_Pa_product
  rw [b1, zbI_s]
  have e : o.bind (tpr Tx F) = (o.bind F).bind (tlo Tx 42 47 2 3 F 120) := by cases o <;> rfl
  rw [e]
  unfold z_Pa_product_10
  revert b3
  cases hs : o.bind F with
  | none =>
    intro b3
    rw [cz_pr_stop (by omega) (b3.1.2.2.2.2.1 rfl)]
    exact ⟨v, B, rfl, b2, b3⟩
  | some w =>
    intro b3
    have K1 := h.2.2.2.1.1
    obtain ⟨u, D, d1, d2, d3⟩ := cz_pr_loop (N := N) hT hp hF 120 N v 0 B (some w) K b (by omega) (by omega) (by omega) hK (b3.low0 K1 (by omega) (Nat.le_refl _) hT.1)
    exact ⟨u, D, d1, b2.trans d2, d3⟩
theorem cz_sm_stop {rec : Nat → Int → zA → Option (Int × zA)} {x w x4 : Int} : ∀ {M : Nat}, 0 < M → zi A 5 3 = 1 → z_Pa_sum_10_l rec N M p x w x4 A = some (w, A)
  | M + 1, _, h => by
    unfold z_Pa_sum_10_l z_Pa_sum_10_b
    split
    · rw [if_neg (by rw [h]; decide)]
    · rfl
theorem cz_sm_loop {rec : Nat → Int → zA → Option (Int × zA)} {x : Int} {F : Ps → Option (Int × Ps)} {c : Nat} (hT : TXT Tx L) (hp : pto.contains p = true) (hF : CRec Tx L mn cl p (z_Pa_product rec N) x F c) : ∀ (n M : Nat) (w x4 : Int) (A : zA) (o : Option (Int × Ps)) (K b : Nat), n < M → x4 = 120 - (n : Int) → n ≤ 120 → K + c ≤ 50000 → CZv Tx L mn cl p K b A w o → ∃ v B, z_Pa_sum_10_l rec N M p x w x4 A = some (v, B) ∧ cF [5, p] A B ∧ CZv Tx L mn cl p (K + c) b B v (o.bind (tlo Tx 43 45 0 1 F n))
  | 0, M + 1, w, x4, A, o, K, b, hM, hx, h5, hK, h => by
    unfold z_Pa_sum_10_l z_Pa_sum_10_b
    rw [if_neg (by omega)]
    have : o.bind (tlo Tx 43 45 0 1 F 0) = o := by cases o <;> rfl
    rw [this]
    exact ⟨w, A, rfl, cF.refl _ h.1.1, h.mono (by omega) (by omega) (Nat.le_refl _)⟩
  | n + 1, M + 1, w, x4, A, none, K, b, hM, hx, h5, hK, h => by
    rw [cz_sm_stop (Nat.succ_pos M) (h.1.2.2.2.2.1 rfl)]
    exact ⟨w, A, rfl, cF.refl _ h.1.1, h.mono (by omega) (by omega) (Nat.le_refl _)⟩
  | n + 1, M + 1, w, x4, A, some (r, s), K, b, hM, hx, h5, hK, h => by
    obtain ⟨hz, hv⟩ := h
    obtain ⟨e1, e2, e3⟩ := hv _ rfl
    have e1 : w = r := e1
    have e2 : 0 ≤ r := e2
    have e3 : r ≤ 300 := e3
    subst e1
    have hz' : CZ Tx L mn cl p K b A (some s) := hz
    obtain ⟨q1, q2, q3, q4, q5, q6⟩ := hz'.2.2.2.2.2 s rfl
    obtain ⟨u, u1, u2, u3, u4⟩ := cz_peek (N := N) hT hz'
    have u4 := u4 s rfl
    have K1 := hz'.2.2.2.1.1
    have go : ∀ op : Int, op = (if Tx s.1 = 43 then 0 else 1) → (Tx s.1 = 43 ∨ Tx s.1 = 45) → ∃ v B, z_Pa_sum_56 rec (z_Pa_sum_10_l rec N M) N p x w x4 op A = some (v, B) ∧ cF [5, p] A B ∧ CZv Tx L mn cl p (K + c) b B v ((some (w, s)).bind (tlo Tx 43 45 0 1 F (n + 1))) := fun op hop hc => by
      unfold z_Pa_sum_56
      rw [zlet_s]
      obtain ⟨z1, f1⟩ := cz_step hp hz' (hT.lt (k := s.1) (by omega)) hT.1
      obtain ⟨v2, B, b1, b2, b3⟩ := hF _ (some (tav s)) K (b + 2) hK z1
      have b1 : (z_Pa_product rec N) p x (zsi A 5 2 (zi A 5 2 + 1)) = some (v2, B) := b1
      rw [b1, zbI_s]
      have hop2 : 0 ≤ op ∧ op ≤ 5 := by
        rw [hop]
        split <;> decide
      obtain ⟨v4, C, c1, c2, c3⟩ := cz_work (N := N) (b := b + 1) hT hp b3 ⟨e2, e3⟩ hop2
      rw [c1, zbI_s]
      have f2 : cF [5, p] A C := ((f1.mono cS5).trans b2).trans (c3.mono cSp)
      have e : (some (w, s)).bind (tlo Tx 43 45 0 1 F (n + 1)) = (F (tav s)).bind fun u => tlo Tx 43 45 0 1 F n (twk op w u.1 u.2) := by
        show (if Tx s.1 = 43 ∨ Tx s.1 = 45 then _ else _) = _
        rw [if_pos hc, hop]
      rw [e]
      have c2 : CZv Tx L mn cl p (K + c) (b + 1) C v4 ((F (tav s)).map fun u => twk op w u.1 u.2) := c2
      rw [show zw (x4 + 1) = x4 + 1 from yb_w (by omega) (by omega)]
      revert c2
      cases hFs : F (tav s) with
      | none =>
        intro c2
        rw [cz_sm_stop (by omega) (c2.1.2.2.2.2.1 rfl)]
        exact ⟨v4, C, rfl, f2, c2.mono (Nat.le_refl _) (by omega) (by omega)⟩
      | some u =>
        intro c2
        obtain ⟨v, D, d1, d2, d3⟩ := cz_sm_loop hT hp hF n M v4 (x4 + 1) C (some (twk op w u.1 u.2)) K b (by omega) (by omega) (by omega) hK (c2.low0 K1 (by omega) (by omega) hT.1)
        exact ⟨v, D, d1, f2.trans d2, d3⟩
    unfold z_Pa_sum_10_l z_Pa_sum_10_b
    rw [if_pos (by omega), if_pos q1, u1, zbP_s]
    by_cases c1 : u = 43
    · rw [if_pos c1]
      unfold z_Pa_sum_42
      rw [u1, zbP_s, if_pos c1]
      exact go 0 (by rw [if_pos (by omega)]) (by omega)
    · rw [if_neg c1, zbP_s]
      by_cases c2 : u = 45
      · rw [if_pos c2]
        unfold z_Pa_sum_42
        rw [u1, zbP_s, if_neg c1]
        exact go 1 (by rw [if_neg (by omega)]) (by omega)
      · rw [if_neg c2]
        have e : (some (w, s)).bind (tlo Tx 43 45 0 1 F (n + 1)) = some (w, s) := by
          show (if Tx s.1 = 43 ∨ Tx s.1 = 45 then _ else _) = _
          rw [if_neg (by omega)]
        rw [e]
        exact ⟨w, A, rfl, cF.refl _ hz.1, CZv.mono ⟨hz, hv⟩ (by omega) (by omega) (Nat.le_refl _)⟩
theorem cz_sm {rec : Nat → Int → zA → Option (Int × zA)} {x : Int} {F : Ps → Option (Int × Ps)} {c : Nat} (hN : 300000 ≤ N) (hT : TXT Tx L) (hp : pto.contains p = true) (hF : CRec Tx L mn cl p (z_Pa_product rec N) x (tpr Tx F) c) : CRec Tx L mn cl p (z_Pa_sum rec N) x (tsm Tx F) c := fun A o K b hK h => by
  obtain ⟨v, B, b1, b2, b3⟩ := hF A o K b hK h
  have b1 : (z_Pa_product rec N) p x A = some (v, B) := b1
  unfold z_Pa_sum
  rw [b1, zbI_s]
  have e : o.bind (tsm Tx F) = (o.bind (tpr Tx F)).bind (tlo Tx 43 45 0 1 (tpr Tx F) 120) := by cases o <;> rfl
  rw [e]
  unfold z_Pa_sum_10
  revert b3
  cases hs : o.bind (tpr Tx F) with
  | none =>
    intro b3
    rw [cz_sm_stop (by omega) (b3.1.2.2.2.2.1 rfl)]
    exact ⟨v, B, rfl, b2, b3⟩
  | some w =>
    intro b3
    have K1 := h.2.2.2.1.1
    obtain ⟨u, D, d1, d2, d3⟩ := cz_sm_loop (N := N) hT hp hF 120 N v 0 B (some w) K b (by omega) (by omega) (by omega) hK (b3.low0 K1 (by omega) (Nat.le_refl _) hT.1)
    exact ⟨u, D, d1, b2.trans d2, d3⟩
/-- a whole expression -/
theorem cz_xp {rec : Nat → Int → zA → Option (Int × zA)} {x : Int} {F : Ps → Option (Int × Ps)} {c : Nat} (hN : 300000 ≤ N) (hT : TXT Tx L) (hp : pto.contains p = true) (hF : CRec Tx L mn cl p rec x F c) : CRec Tx L mn cl p (z_Pa_expression rec N) x (txp Tx F) c := fun A o K b hK h => by
  have hS := cz_sm (N := N) hN hT hp (cz_pr (N := N) hN hT hp hF)
  obtain ⟨v, B, b1, b2, b3⟩ := hS A o K b hK h
  unfold z_Pa_expression
  rw [b1, zbI_s]
  obtain ⟨u, u1, u2, u3, u4⟩ := cz_peek (N := N) hT b3.1
  rw [u1, zbP_s]
  have e : o.bind (txp Tx F) = (o.bind (tsm Tx F)).bind fun w => if Tx w.2.1 = 60 ∨ Tx w.2.1 = 61 then (tsm Tx F (tav w.2)).bind fun u => some (twk (if Tx w.2.1 = 60 then 4 else 5) w.1 u.1 u.2) else some w := by cases o <;> rfl
  rw [e]
  revert b3 u4
  cases hs : o.bind (tsm Tx F) with
  | none =>
    intro b3 u4
    rw [if_neg (by rw [b3.1.2.2.2.2.1 rfl]; decide)]
    exact ⟨v, B, rfl, b2, b3⟩
  | some w =>
    intro b3 u4
    obtain ⟨r, s⟩ := w
    have u5 : u = Tx s.1 := u4 s rfl
    obtain ⟨e1, e2, e3⟩ := b3.2 _ rfl
    have e1 : v = r := e1
    have e2 : 0 ≤ r := e2
    have e3 : r ≤ 300 := e3
    subst e1
    have hz : CZ Tx L mn cl p K b B (some s) := (b3.low0 h.2.2.2.1.1 (by omega) (Nat.le_refl _) hT.1).1
    rw [if_pos (hz.2.2.2.2.2 s rfl).1]
    have go : ∀ op : Int, op = (if Tx s.1 = 60 then 4 else 5) → (Tx s.1 = 60 ∨ Tx s.1 = 61) → ∃ v' C, z_Pa_expression_36 rec N p x v u B = some (v', C) ∧ cF [5, p] A C ∧ CZv Tx L mn cl p (K + c) b C v' ((some (v, s)).bind fun w => if Tx w.2.1 = 60 ∨ Tx w.2.1 = 61 then (tsm Tx F (tav w.2)).bind fun u => some (twk (if Tx w.2.1 = 60 then 4 else 5) w.1 u.1 u.2) else some w) := fun op hop hc => by
      unfold z_Pa_expression_36
      rw [zlet_s]
      obtain ⟨z1, f1⟩ := cz_step hp hz (hT.lt (k := s.1) (by omega)) hT.1
      obtain ⟨v2, C, c1, c2, c3⟩ := hS _ (some (tav s)) K (b + 2) hK z1
      rw [c1, zbI_s]
      have hop2 : 0 ≤ op ∧ op ≤ 5 := by
        rw [hop]
        split <;> decide
      obtain ⟨v4, D, d1, d2, d3⟩ := cz_work (N := N) (b := b + 1) hT hp c3 ⟨e2, e3⟩ hop2
      have eo : (if u = 60 then z_Pa_expression_67 rec N p v v2 4 C else z_Pa_expression_67 rec N p v v2 5 C) = z_Pa_expression_67 rec N p v v2 op C := by
        rw [hop, u5]
        split <;> rfl
      rw [eo]
      unfold z_Pa_expression_67
      rw [d1, zbI_s]
      refine ⟨v4, D, rfl, ((b2.trans (f1.mono cS5)).trans c2).trans (d3.mono cSp), ?_⟩
      have e : ((some (v, s)).bind fun w => if Tx w.2.1 = 60 ∨ Tx w.2.1 = 61 then (tsm Tx F (tav w.2)).bind fun u => some (twk (if Tx w.2.1 = 60 then 4 else 5) w.1 u.1 u.2) else some w) = ((some (tav s)).bind (tsm Tx F)).map fun w => twk op v w.1 w.2 := by
        show (if Tx s.1 = 60 ∨ Tx s.1 = 61 then _ else _) = _
        rw [if_pos hc, hop]
        show (tsm Tx F (tav s)).bind _ = (tsm Tx F (tav s)).map _
        cases tsm Tx F (tav s) <;> rfl
      rw [e]
      exact d2.mono (Nat.le_refl _) (by omega) (by omega)
    by_cases c1 : u = 60
    · rw [if_pos c1]
      exact go 4 (by rw [if_pos (by omega)]) (by omega)
    · rw [if_neg c1]
      by_cases c2 : u = 61
      · rw [if_pos c2]
        exact go 5 (by rw [if_neg (by omega)]) (by omega)
      · rw [if_neg c2]
        refine ⟨v, B, rfl, b2, ?_⟩
        have e : ((some (v, s)).bind fun w => if Tx w.2.1 = 60 ∨ Tx w.2.1 = 61 then (tsm Tx F (tav w.2)).bind fun u => some (twk (if Tx w.2.1 = 60 then 4 else 5) w.1 u.1 u.2) else some w) = some (v, s) := by
          show (if Tx s.1 = 60 ∨ Tx s.1 = 61 then _ else _) = _
          rw [if_neg (by omega)]
        rw [e]
        exact b3
end
