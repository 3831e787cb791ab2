/-! Walker.walk -/
def st0 : St := (fun i => if i = 60 then tFst else tNum 0, [], [], 0, 0, [])
section
variable {N : Nat} {A : zA} {ta R0 t : Nat} {D : Nat → T} {P : Pg} {sz : Nat → Nat} {ex : Nat → Prop} {nd : Int → Nat}
theorem ct_make {k x y z : Int} (hN : 300000 ≤ N) (h : CT A t D) (ht : t < 39000) (hn : wn (k, x, y, z) t) (wk : zw k = k) (wx : zw x = x) (wy : zw y = y) (wz : zw z = z) : ∃ (j t' : Nat) (B : zA) (D' : Nat → T), z_Th_make N 111 k x y z A = some ((j : Int), B) ∧ CT B t' D' ∧ j < t' ∧ D' j = cden D (k, x, y, z) ∧ t ≤ t' ∧ t' ≤ t + 1 ∧ (∀ i, i < t → D' i = D i) ∧ cF [111] A B := by
  obtain ⟨hO, hTT, hGT, hLK⟩ := h
  obtain ⟨j, t', B, b1, b2, b3, b4, b5, b6, b7, b8, b9, b10, b11⟩ := Th_make hN hO (by decide) hTT (by omega) wk wx wy wz
  have kB : ∀ i, i < t → tk B 111 i = tk A 111 i := fun i hi => (b8 i hi).1
  by_cases c1 : t' = t
  · subst c1
    have hG : GT (tk B 111) t' D := hGT.take (Nat.le_refl _) kB
    refine ⟨j, t', B, D, b1, ⟨b2.own, b3, hG, fun i hi => by rw [(b8 i hi).2]; exact hLK i hi⟩, b4, ?_, by omega, by omega, fun _ _ => rfl, b2⟩
    rw [(hG.1 j b4).2, b5]
  · obtain ⟨rfl, b9'⟩ := b9.resolve_left c1
    have : t' = j + 1 := by omega
    subst this
    have hG := hGT.ext kB b5 hn (fun i hi he => b3.2.1 i j hi (by omega) (by rw [kB i hi, b5]; exact he))
    refine ⟨j, j + 1, B, _, b1, ⟨b2.own, b3, hG, fun i hi => ?_⟩, by omega, ?_, by omega, by omega, fun i hi => by rw [if_neg (by omega)], b2⟩
    · by_cases z : i < j
      · rw [(b8 i z).2]; exact hLK i z
      · rw [show i = j by omega]; exact b9'
    · rw [if_pos rfl]
theorem walk33 (hN : 300000 ≤ N) (hR0 : R0 = 7 ∨ R0 = 21 ∨ R0 = 35) (hex : ∀ p, ex p → p ≤ 3) (hw : WfP P ex) (hW : WB P sz ex nd) (hnd : ∀ q, 1 ≤ nd q) (h3 : ex 3) (hB : Bl nd (P.1 3) (fun k => P.2.1 3 k 1) (P.2.2.1 3) 20 0 (P.2.2.2.1 3)) (hz : rsz P sz 3 0 (P.2.2.2.1 3) ≤ 150) (hta : okt ta) (hT : TAI A ta) (hC : CT A t D) (ht : t ≤ 20000) (hm : zmr A 110 9 = some R0) (hP : PrC A R0 ex P) : ∃ (B : zA) (t' : Nat) (D' : Nat → T), z_Wk_walk_33 N R0 ta A = some B ∧ CW B false 193 ta R0 t' D' (wk P 20 false 3 0 (P.2.2.2.1 3) st0) ∧ t ≤ t' ∧ t' ≤ t + 3152 ∧ (∀ i, i < t → D' i = D i) ∧ cF (wl 0 193 ta) A B ∧ PrC B R0 ex P := by
  obtain ⟨a1, a2, a3, a4, a5, a6, a7, a8, a9, a10, a11, a12⟩ := hta.fx
  have n110 : ∀ a, a ≠ 110 → ([110] : List Nat).contains a = false := fun a ha => cont2 ha
  have nta : ∀ a, a ≠ ta → ([ta] : List Nat).contains a = false := fun a ha => cont2 ha
  have n193 : ∀ a, a ≠ 193 → ([193] : List Nat).contains a = false := fun a ha => cont2 ha
  have n111 : ∀ a, a ≠ 111 → ([111] : List Nat).contains a = false := fun a ha => cont2 ha
  have w110 : ∀ {X Y : zA}, cF [110] X Y → cF (wl 0 193 ta) X Y := fun h => h.mono (fun a ha => c1_wl (by omega) ha)
  have w111 : ∀ {X Y : zA}, cF [111] X Y → cF (wl 0 193 ta) X Y := fun h => h.mono (fun a ha => c1_wl (by omega) ha)
  have w193 : ∀ {X Y : zA}, cF [193] X Y → cF (wl 0 193 ta) X Y := fun h => h.mono (fun a ha => c1_wl (by omega) ha)
  have wta : ∀ {X Y : zA}, cF [ta] X Y → cF (wl 0 193 ta) X Y := fun h => h.mono (fun a ha => by
    simp only [List.contains_iff_mem, List.mem_cons, List.not_mem_nil, or_false] at ha
    exact wl_mem.mpr (by omega))
  unfold z_Wk_walk_33 z_Ta_clear
  rw [zlet_s]
  have F1 := cF_sr (A := A) (j := 8) (r := some ta) hC.1
  have m1 : zmr (zsr A 110 8 (some ta)) 110 8 = some ta := by rw [zmr_sr, if_pos ⟨rfl, rfl⟩]
  have m9 : zmr (zsr A 110 8 (some ta)) 110 9 = some R0 := by rw [zmr_sr, if_neg (by decide)]; exact hm
  have T1 : TAI (zsr A 110 8 (some ta)) ta := hT.mono (F1.r a1 (n110 _ (by omega))) (F1.r a1 (n110 _ (by omega))) (F1.n a7 (n110 _ (by omega))) (F1.n a8 (n110 _ (by omega)))
  rw [zgr_s m1, zcs_s a4, zlet_s]
  have hC1 := hC.fr F1 (by decide)
  generalize zsr A 110 8 (some ta) = A1 at *
  have F2 : cF [ta] A1 (zsi A1 ta 2 0) := cF_si hC1.1 a1 (by omega) (cont1 ta)
  have hC2 := hC1.fr F2 (nta _ (by omega))
  have z2 : zi (zsi A1 ta 2 0) ta 2 = 0 := by rw [zi_si_s]; decide
  have T2 : TAI (zsi A1 ta 2 0) ta := T1
  have m2 : ∀ j, zmr (zsi A1 ta 2 0) 110 j = zmr A1 110 j := fun _ => rfl
  rw [zbV_s]
  simp only [zlet_s]
  generalize zsi A1 ta 2 0 = A2 at *
  have hO2 := hC2.1
  have F3 : cF [110] A2 (zsi (zsi (zsi (zsi A2 110 7 0) 110 10 0) 110 11 0) 110 12 0) := (((cF_si hO2 (by decide) (by decide) (by decide)).trans (cF_si hO2 (by decide) (by decide) (by decide))).trans (cF_si hO2 (by decide) (by decide) (by decide))).trans (cF_si hO2 (by decide) (by decide) (by decide))
  have y7 : zi (zsi (zsi (zsi (zsi A2 110 7 0) 110 10 0) 110 11 0) 110 12 0) 110 7 = 0 := by rw [zi_si_j (by decide), zi_si_j (by decide), zi_si_j (by decide), zi_si_s]; decide
  have y10 : zi (zsi (zsi (zsi (zsi A2 110 7 0) 110 10 0) 110 11 0) 110 12 0) 110 10 = 0 := by rw [zi_si_j (by decide), zi_si_j (by decide), zi_si_s]; decide
  have y11 : zi (zsi (zsi (zsi (zsi A2 110 7 0) 110 10 0) 110 11 0) 110 12 0) 110 11 = 0 := by rw [zi_si_j (by decide), zi_si_s]; decide
  have y12 : zi (zsi (zsi (zsi (zsi A2 110 7 0) 110 10 0) 110 11 0) 110 12 0) 110 12 = 0 := by rw [zi_si_s]; decide
  have m3 : ∀ a j, zmr (zsi (zsi (zsi (zsi A2 110 7 0) 110 10 0) 110 11 0) 110 12 0) a j = zmr A2 a j := fun _ _ => rfl
  have T3 : TAI (zsi (zsi (zsi (zsi A2 110 7 0) 110 10 0) 110 11 0) 110 12 0) ta := T2
  generalize zsi (zsi (zsi (zsi A2 110 7 0) 110 10 0) 110 11 0) 110 12 0 = A3 at *
  have hC3 := hC2.fr F3 (by decide)
  have z3 : zi A3 ta 2 = 0 := by rw [F3.i a1 (n110 _ (by omega))]; exact z2
  have F4 := cF_sr (A := A3) (j := 5) (r := some 193) hC3.1
  have m4 : zmr (zsr A3 110 5 (some 193)) 110 5 = some 193 := by rw [zmr_sr, if_pos ⟨rfl, rfl⟩]
  have m48 : zmr (zsr A3 110 5 (some 193)) 110 8 = some ta := by rw [zmr_sr, if_neg (by decide), m3, m2]; exact m1
  have m49 : zmr (zsr A3 110 5 (some 193)) 110 9 = some R0 := by rw [zmr_sr, if_neg (by decide), m3, m2]; exact m9
  have i4 : ∀ a j, zi (zsr A3 110 5 (some 193)) a j = zi A3 a j := fun _ _ => rfl
  have T4 : TAI (zsr A3 110 5 (some 193)) ta := T3.mono (F4.r a1 (n110 _ (by omega))) (F4.r a1 (n110 _ (by omega))) (F4.n a7 (n110 _ (by omega))) (F4.n a8 (n110 _ (by omega)))
  have hC4 := hC3.fr F4 (by decide)
  generalize zsr A3 110 5 (some 193) = A4 at *
  rw [zgr_s m4]
  obtain ⟨j, t5, A5, D5, e1, e2, e3, e4, e5, e6, e7, e8⟩ := ct_make (k := 0) (x := 0) (y := 0) (z := 0) hN hC4 (by omega) (Or.inl ⟨rfl, rfl, rfl⟩) zw0 zw0 zw0 zw0
  have e4 : D5 j = tNum 0 := by rw [e4]; rfl
  rw [e1, zbI_s]
  obtain ⟨A6, f1, f2, f3⟩ := Ar_fill (N := N) (x := 193) (m := 61) (v := j) hN (by decide) (by decide) (by decide) e2.1
  rw [f1, zbV_s]
  have F6 : cF [193] A5 A6 := f2.cF e2.1 (by decide) (by decide)
  have hC6 := e2.fr F6 (by decide)
  have m5 : ∀ j, zmr A6 110 j = zmr A4 110 j := fun j => by rw [f2.r, e8.r (by decide) (by decide)]
  rw [zgr_s (by rw [m5]; exact m4)]
  obtain ⟨j', t7, A7, D7, g1, g2, g3, g4, g5, g6, g7, g8⟩ := ct_make (k := 3) (x := 0) (y := 0) (z := 0) hN hC6 (by omega) (Or.inr (Or.inr (Or.inr (Or.inl ⟨rfl, rfl, rfl, rfl⟩)))) (by decide) zw0 zw0 zw0
  have g4 : D7 j' = tFst := by rw [g4]; rfl
  rw [g1, zbI_s, zwD_f g2.1 (show zsh 193 = some (true, 0, 61) by decide) (by decide) (by decide) (by decide)]
  have F8 : cF [193] A7 (rs A7 193 60 j') := cF_rs g2.1 (by decide) (by decide) (by decide)
  have hC8 := g2.fr F8 (by decide)
  have r8 : ∀ i : Nat, i < 61 → ri (rs A7 193 60 j') 193 i = if i = 60 then (j' : Int) else j := fun i hi => by
    rw [ri_rs (by decide) (by omega), yb_w (by omega) (by omega), g8.e (by decide) (by decide), f3 i hi, yb_w (by omega) (by omega)]
    by_cases q : i = 60
    · rw [if_pos (by omega), if_pos q]
    · rw [if_neg (by omega), if_neg q]
  have m8 : ∀ j, zmr (rs A7 193 60 j') 110 j = zmr A4 110 j := fun j => by
    show zmr A7 110 j = _
    rw [g8.r (by decide) (by decide), m5]
  have i8 : ∀ j, zi (rs A7 193 60 j') 110 j = zi A3 110 j := fun j => by
    rw [zi_rs_o (by decide), g8.i (by decide) (by decide), f2.i (by decide), e8.i (by decide) (by decide), i4]
  have it8 : zi (rs A7 193 60 j') ta 2 = 0 := by
    rw [zi_rs_o (by omega), g8.i a1 (n111 _ (by omega)), f2.i (by omega), e8.i a1 (n111 _ (by omega)), i4]; exact z3
  have T8 : TAI (rs A7 193 60 j') ta := by
    have t5 : TAI A5 ta := T4.mono (e8.r a1 (n111 _ (by omega))) (e8.r a1 (n111 _ (by omega))) (e8.n a7 (n111 _ (by omega))) (e8.n a8 (n111 _ (by omega)))
    have t6 : TAI A6 ta := t5.mono (f2.r _ _) (f2.r _ _) (F6.n a7 (n193 _ (by omega))) (F6.n a8 (n193 _ (by omega)))
    have t7 : TAI A7 ta := t6.mono (g8.r a1 (n111 _ (by omega))) (g8.r a1 (n111 _ (by omega))) (g8.n a7 (n111 _ (by omega))) (g8.n a8 (n111 _ (by omega)))
    exact t7
  have FA : cF (wl 0 193 ta) A (rs A7 193 60 j') := ((((((w110 F1).trans (wta F2)).trans (w110 F3)).trans (w110 F4)).trans (w111 e8)).trans (w193 F6)).trans ((w111 g8).trans (w193 F8))
  generalize rs A7 193 60 j' = A8 at *
  have hcw : CW A8 false 193 ta R0 t7 D7 st0 := by
    refine ⟨hC8, ⟨by rw [m8]; exact m4, by rw [m8]; exact m48, by rw [m8]; exact m49⟩, fun i hi => ?_, ⟨by rw [it8]; rfl, fun k hk => absurd hk (Nat.not_lt_zero k)⟩, ⟨by rw [i8, y7]; rfl, fun k hk => absurd hk (Nat.not_lt_zero k)⟩, ⟨by rw [i8]; exact y10, by rw [i8]; exact y11, by rw [i8]; exact y12⟩, fun q hq => (by cases hq), T8⟩
    rw [r8 i hi]
    unfold st0
    dsimp only
    by_cases q : i = 60
    · rw [if_pos q, if_pos q]
      exact ⟨j', g3, rfl, g4⟩
    · rw [if_neg q, if_neg q]
      exact ⟨j, by omega, rfl, by rw [g7 j e3]; exact e4⟩
  have hP8 : PrC A8 R0 ex P := hP.fr FA (fun p hp => nc_of (fun q => by have := wl_mem.mp q; have := hex p hp; omega))
  obtain ⟨r1, r2, r3, r4, r5, r6⟩ := rws_fr (p := 3) hR0 (by decide)
  have zf := zfe_p (R := zA) (K := fun p18 => zcs p18 (false, 3, 4) (zbV (z_Wk_goOver N p18 0 (zi A8 p18 2) 0 A8) fun A19 => some A19)) hR0 (show 3 < 4 by decide)
  rw [zgf_s r1]
  rw [show ((3 : Nat) : Int) = 3 from rfl] at zf
  rw [zf, zcs_s r5]
  have hlen : zi A8 (R0 + 2 + 3 * 3) 2 = P.2.2.2.1 3 := (hP8 3 h3).2.2.1
  rw [hlen]
  obtain ⟨B, t9, D9, k1, k2, k3, k4⟩ := go_all hN hR0 hex hw hW hnd 20 25 (by decide) false 3 0 (P.2.2.2.1 3) 0 193 ta t7 D7 st0 A8 h3 hB (Nat.le_refl _) (by decide) (Or.inl rfl) hta hcw hP8 ⟨by rw [Nat.sub_zero]; omega, by decide, by rw [Nat.sub_zero]; show (0 : Int) + _ ≤ _; omega, by decide, by rw [Nat.sub_zero]; show (0 : Int) + _ ≤ _; omega, by show 0 ≤ 150; decide, fun q hq => (by cases hq), fun _ => by rw [Nat.sub_zero]; refine ⟨by show 0 + _ ≤ _; omega, by show 0 + _ ≤ _; omega, by show 3 * (0 : Int) + _ ≤ _; omega⟩⟩
  rw [Nat.sub_zero] at k4
  unfold z_Wk_goOver
  rw [show ((0 : Nat) : Int) = 0 from rfl] at k1
  rw [k1, zbV_s]
  refine ⟨B, t9, D9, rfl, k2, by have := k3.1; omega, by omega, fun i hi => ?_, FA.trans k3.2.2, k3.pr hP8 (by omega) hex (Or.inl rfl) (by decide) hta⟩
  rw [k3.2.1 i (by omega), g7 i (by omega), e7 i hi]
end
