section
variable {N w sc dp lv : Nat}
theorem r_aloud {C : zA} {s s3 : St} {S : Nat → Bool} {t0 : Nat} {D0 : Nat → T} (hN : 300000 ≤ N) (hd : dp ≤ 3) (hl : lv < 29) (hw2 : w < 2) (ht : t0 + 61 < 16000) (hsc : sc ≤ 40) (gW : 0 ≤ s.2.2.2.1) (gW2 : s.2.2.2.1 < 20000) (gI : 0 ≤ s.2.2.2.2.1) (gI2 : s.2.2.2.2.1 < 20000) (h : RC C w (sc + 1) dp (lv + 1) t0 D0 s3) (q1 : s3.2.1 = s.2.1) (q2 : s3.2.2.1 = s.2.2.1) (q3 : s3.2.2.2.2.2 = s.2.2.2.2.2) (hM : MKS C lv S) (hI : WI C lv t0 s.2.2.2.1 s.2.2.2.2.1 s.2.2.1.length D0 s.1 1) (h261 : ri C 261 w ≤ 61 * s.2.2.2.1) (gC : CI s) (hlen : sc = 0 → s.2.1.length < 1000 ∧ s.2.2.2.1 ≤ 50) : ∃ (B : zA) (t' : Nat) (D' : Nat → T), z_M_aloud N w C = some B ∧ RW B w sc dp (lv + 1) t' D' (sSay (Nat.blt 0 sc) 6 none (sBeg s.2.2.2.1 S s)) ∧ t0 ≤ t' ∧ t' ≤ t0 + 61 ∧ (∀ i, i < t0 → D' i = D0 i) ∧ fr (rQ w dp lv s.2.2.1.length (ri C 261 w).toNat (fz t0 s.2.2.2.1 D0)) C B ∧ ri C 261 w ≤ ri B 261 w ∧ (0 < sc → ri B 261 w = ri C 261 w) ∧ ri B 271 lv = 3 ∧ ri B 273 lv = s.2.2.1.length ∧ ri B 280 lv = 0 ∧ (sc = 0 → ri B 274 lv = ri C 261 w ∧ ri B 275 lv = ri B 261 w ∧ ri B 261 w = ri C 261 w + cnt S 61 ∧ OPN B w t' (ri C 261 w).toNat D' s.2.2.2.1 S s.1 61) := by
  obtain ⟨W1, W2, W3, W4, W5, W6, W7⟩ := hI
  have hl0 : ri C 261 w ≥ 0 := h.2.2.2.2.2.1
  have h66 : zi C 226 66 = (lv : Int) + 1 := by have := h.2.2.2.1.2.1; omega
  have wlv : zw ((lv : Int) + 1 - 1) = lv := by rw [yb_w (by omega) (by omega)]; omega
  unfold z_M_aloud
  rw [h66, wlv, zwr_ok (by omega) (by omega), zlet_s, zi_rs_o (by decide)]
  have h80 : zi C 226 80 = (sc : Int) + 1 := by have := h.2.2.2.1.2.2.1; omega
  rw [h80, show (sc : Int) + 1 - 1 = sc by omega]
  -- the level is aloud; no longer silent
  have f1 : fr (fun a j => a = 280 ∧ j = lv) C (rs C 280 lv 0) := fr_rs ⟨rfl, by omega⟩
  have h1 := h.pf f1 (fun a j q => Or.inr (Or.inr (by omega)))
  have v1 : ri (rs C 280 lv 0) 280 lv = 0 := by rw [ri_rs_s]; decide
  generalize rs C 280 lv 0 = A1 at *
  have f2 : fr qC A1 (zsi A1 226 80 sc) := fr_si ⟨rfl, Or.inr (Or.inr rfl)⟩
  have e80 : zi (zsi A1 226 80 sc) 226 80 = sc := by rw [zi_si_s, yb_w (by omega) (by omega)]
  have eo : ∀ j, j ≠ 80 → zi (zsi A1 226 80 sc) 226 j = zi A1 226 j := fun j hj => zi_si_j hj
  have h2 : RC (zsi A1 226 80 sc) w sc dp (lv + 1) t0 D0 s3 := by
    refine h1.upd (f := s3.1) f2 ?_ h1.2.2.2.2.2.2.1 h1.2.2.2.2.2.2.2
    have := h1.2.2.2.1
    unfold RFl at this ⊢
    rw [eo 62 (by omega), eo 66 (by omega), e80, eo 64 (by omega), eo 65 (by omega)]
    exact ⟨this.1, this.2.1, rfl, this.2.2.2⟩
  generalize zsi A1 226 80 sc = A2 at *
  obtain ⟨A3, c1, c2, c3⟩ := c_say0 (N := N) (c := -7) (wd := 6) h2 hw2 ⟨by decide, by decide⟩ (by decide) (fun q => by rw [q1]; exact (hlen q).1)
  rw [c1, zbV_s]
  have F3 : ∀ a e, 226 < a → a ≠ 259 → a ≠ 260 → a ≠ 280 → ri A3 a e = ri C a e := fun a e a1 a2 a3 a4 => by rw [c3.e (fun q => by unfold qS at q; omega), f2.e (fun q => by unfold qC at q; omega), f1.e (fun q => by omega)]
  have sv3 : SV A3 278 lv t0 D0 s.1 := W7.mono (fun i hi => F3 _ _ (by omega) (by omega) (by omega) (by omega)) (Nat.le_refl _) (fun _ _ => rfl)
  obtain ⟨A4, d1, d2, d3⟩ := c_take_278 hN c2 hd (by omega) sv3
  rw [d1, zbV_s]
  have F4 : ∀ a e, 226 < a → a ≠ 259 → a ≠ 260 → a ≠ 280 → a ≠ 267 → a ≠ 268 → ri A4 a e = ri C a e := fun a e a1 a2 a3 a4 a5 a6 => by rw [d3.e (fun q => by unfold qP at q; omega), F3 a e a1 a2 a3 a4]
  rw [zrd_ok (by omega) (by omega), F4 261 _ (by omega) (by omega) (by omega) (by omega) (by omega) (by omega), zwr_ok (by omega) (by omega)]
  have f5 : fr (fun a j => a = 274 ∧ j = lv) A4 (rs A4 274 lv (ri C 261 w)) := fr_rs ⟨rfl, by omega⟩
  have d5 := d2.rc.pf f5 (fun a j q => Or.inr (Or.inr (by omega)))
  have v5 : ri (rs A4 274 lv (ri C 261 w)) 274 lv = ri C 261 w := by rw [ri_rs_s, yb_w (by omega) (by omega)]
  generalize rs A4 274 lv (ri C 261 w) = A5 at *
  have F5 : ∀ a e, 226 < a → a ≠ 259 → a ≠ 260 → a ≠ 280 → a ≠ 267 → a ≠ 268 → a ≠ 274 → ri A5 a e = ri C a e := fun a e a1 a2 a3 a4 a5 a6 a7 => by rw [f5.e (fun q => by omega), F4 a e a1 a2 a3 a4 a5 a6]
  have L5 : ∀ j, zml A5 279 j = zml C 279 j := fun j => by rw [f5.l (fun q => by omega), d3.l (fun q => by unfold qP at q; omega), c3.l (fun q => by unfold qS at q; omega), f2.l (fun q => by unfold qC at q; omega), f1.l (fun q => by omega)]
  have M5 : MKS A5 lv S := fun i hi => by rw [L5]; exact hM i hi
  have sv5 : SV A5 278 lv t0 D0 s.1 := W7.mono (fun i hi => F5 _ _ (by omega) (by omega) (by omega) (by omega) (by omega) (by omega) (by omega)) (Nat.le_refl _) (fun _ _ => rfl)
  have e261 : ri A5 261 w = ri C 261 w := F5 _ _ (by omega) (by omega) (by omega) (by omega) (by omega) (by omega) (by omega)
  obtain ⟨A7, t', D', t1, t2, t3, t4, t5, t6⟩ := r_turn (S := S) (f0 := s.1) (W := s.2.2.2.1) (I := s.2.2.2.2.1) hN hd (show lv < 30 by omega) gW (by omega) gI (by omega) (by omega) d5 sv5 (by rw [F5 281 _ (by omega) (by omega) (by omega) (by omega) (by omega) (by omega) (by omega)]; exact W4) (by rw [F5 282 _ (by omega) (by omega) (by omega) (by omega) (by omega) (by omega) (by omega)]; exact W5) M5 (by rw [e261]; exact h261)
  rw [t1, zbV_s]
  have es : sBeg s.2.2.2.1 S (s.1, (s.1, (sSay (Nat.blt 0 sc) 6 none s3).2).2.1, (s.1, (sSay (Nat.blt 0 sc) 6 none s3).2).2.2.1, s.2.2.2.1, s.2.2.2.2.1, (s.1, (sSay (Nat.blt 0 sc) 6 none s3).2).2.2.2.2.2) = sSay (Nat.blt 0 sc) 6 none (sBeg s.2.2.2.1 S s) := by
    unfold sSay
    cases Nat.blt 0 sc
    · simp only [Bool.false_eq_true, if_false, q1, q2, q3]
      try rfl
    · simp only [if_true, q1, q2, q3]
      try rfl
  have hyw : (s.1, (sSay (Nat.blt 0 sc) 6 none s3).2).2.2.1.length = s.2.2.1.length := by
    show (sSay (Nat.blt 0 sc) 6 none s3).2.2.1.length = _
    rw [say22.1, q2]
  rw [es] at t2
  rw [hyw] at t6
  have hqx : ∀ a j, qX w dp s.2.2.1.length a j → ¬ (261 ≤ a ∧ a ≤ 266) ∧ ¬ (269 ≤ a ∧ a ≤ 283) := fun a j z => by
    rcases z with (z | z) | (z | z | z) | ((z | z) | z | z) | z
    all_goals omega
  have M7 : MKS A7 lv S := fun i hi => by rw [t6.l (fun z => (hqx _ _ z).2 (by omega))]; exact M5 i hi
  have sv7 : SV A7 278 lv t' D' s.1 := sv5.mono (fun i hi => t6.e (fun z => (hqx _ _ z).2 (by omega))) t3 t5
  have g261 : ri A7 261 w = ri C 261 w := by rw [t6.e (fun z => (hqx _ _ z).1 (by omega))]; exact e261
  have k71 : ri A7 271 lv = 3 := by rw [t6.e (fun z => (hqx _ _ z).2 (by omega)), F5 271 _ (by omega) (by omega) (by omega) (by omega) (by omega) (by omega) (by omega)]; exact W1
  have k73 : ri A7 273 lv = s.2.2.1.length := by rw [t6.e (fun z => (hqx _ _ z).2 (by omega)), F5 273 _ (by omega) (by omega) (by omega) (by omega) (by omega) (by omega) (by omega)]; exact W2
  have k80 : ri A7 280 lv = 0 := by rw [t6.e (fun z => (hqx _ _ z).2 (by omega)), f5.e (fun q => by omega), d3.e (fun q => by unfold qP at q; omega), c3.e (fun q => by unfold qS at q; omega), f2.e (fun q => by unfold qC at q; omega)]; exact v1
  have k74 : ri A7 274 lv = ri C 261 w := by rw [t6.e (fun z => (hqx _ _ z).2 (by omega))]; exact v5
  have F7 : fr (rQ w dp lv s.2.2.1.length (ri C 261 w).toNat (fz t0 s.2.2.2.1 D0)) C A7 := (((((f1.mono (fun a j q => rQ_lv ⟨by omega, by omega⟩)).trans (f2.mono (fun a j q => rQ_f ⟨q.1, Or.inr (by have := q.2; omega)⟩))).trans (c3.mono qS_rQ)).trans (d3.mono qP_rQ)).trans (f5.mono (fun a j q => rQ_lv ⟨by omega, by omega⟩))).trans (t6.mono qX_rQ)
  by_cases c0 : sc = 0
  · subst c0
    obtain ⟨l1, l2⟩ := hlen rfl
    obtain ⟨nc0, hnc⟩ : ∃ nc0 : Nat, ri C 261 w = nc0 := ⟨(ri C 261 w).toNat, by omega⟩
    have sy := say22 (sil := Nat.blt 0 0) (w := 6) (x := none) (s := sBeg s.2.2.2.1 S s)
    rw [hnc] at F7 h261 ⊢
    obtain ⟨B, b1, b2, b3, b4, b5, b6⟩ := rec_run (N := N) (nc0 := nc0) (S := S) (f0 := s.1) (W := s.2.2.2.1) hd (show lv < 30 by omega) hw2 gW l2 (by rw [sy.1]; rfl) (fun q hq => by
      rw [sy.1] at hq
      have : q ∈ s.2.2.2.2.2 := hq
      have := gC q this
      omega) (fun i hi hSi => by
      rw [sy.2]
      show (if S i then tCir s.2.2.2.1 i else s.1 i) = _
      rw [if_pos hSi]) h261 61 0 N A7 (by omega) (by omega) t2 M7 sv7 (by rw [g261, hnc]; rfl) (fun i hi => by omega)
    rw [show ((0 : Nat) : Int) = 0 from rfl] at b1
    unfold z_M_aloud_57
    refine ⟨B, t', D', b1, b2, t3, t4, t5, F7.trans (b6.mono (fun a j q => ?_)), by omega, fun q => by omega, ?_, ?_, ?_, fun _ => ⟨?_, by rw [b3, b4], by rw [b3]; omega, by rw [Int.toNat_natCast]; exact b5⟩⟩
    · rw [Int.toNat_natCast]
      rcases q with q | q | q | q
      · exact rQ_ct ⟨Or.inr q.1, q.2⟩
      · exact rQ_rc ⟨q.1, by omega, q.2.2.1, q.2.2.2⟩
      · obtain ⟨qa, qb, qc, v, i, qd, qe, qf⟩ := q
        refine rQ_co ⟨qa, qb, qc, fun z => ?_⟩
        obtain ⟨z1, V, r, z2, z3⟩ := z
        have hv : j - 16000 * w = v := by omega
        rw [hv] at z1 z3
        rw [t5 v z1, z3] at qf
        have := (tCir_inj qf).1
        omega
      · exact rQ_lv ⟨by omega, by omega⟩
    · rw [b6.e (fun q => by have := qO_no q; omega)]; exact k71
    · rw [b6.e (fun q => by have := qO_no q; omega)]; exact k73
    · rw [b6.e (fun q => by have := qO_no q; omega)]; exact k80
    · rw [b6.e (fun q => by have := qO_no q; omega), k74, hnc]
  · have g80 : zi A7 226 80 = sc := t2.2.2.2.2.1.2.2.1
    have f8 : fr (fun a j => a = 275 ∧ j = lv) A7 (rs A7 275 lv (ri C 261 w)) := fr_rs ⟨rfl, by omega⟩
    refine ⟨rs A7 275 lv (ri C 261 w), t', D', ?_, t2.lev f8 (fun a j q => by omega), t3, t4, t5, F7.trans (f8.mono (fun a j q => rQ_lv ⟨by omega, by omega⟩)), by rw [ri_rs_o (by decide)]; omega, fun _ => by rw [ri_rs_o (by decide)]; exact g261, by rw [ri_rs_o (by decide)]; exact k71, by rw [ri_rs_o (by decide)]; exact k73, by rw [ri_rs_o (by decide)]; exact k80, fun q => absurd q c0⟩
    obtain ⟨u, rfl⟩ : ∃ u, N = u + 1 := ⟨N - 1, by omega⟩
    show z_M_aloud_57_b (z_M_aloud_57_l (u + 1) u) (u + 1) w lv 0 A7 = _
    unfold z_M_aloud_57_b
    rw [if_pos (by decide), if_neg (by omega), zrd_ok (by omega) (by omega), g261, zwr_ok (by omega) (by omega)]
end
