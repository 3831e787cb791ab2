/-! the class's parser: factors -/
section
variable {N : Nat} {Tx : Nat → Int} {L cl p K b : Nat} {mb : Bool} {A B : zA} {o : Option Ps}
theorem cz_stepfail {mn : Nat} (hp : pto.contains p = true) (h : CZ Tx L mn cl p K b A o) (hK : K < 100000) : CZ Tx L mn cl p (K + 1) b (zsi (zsi A 5 2 (zi A 5 2 + 1)) 5 3 1) none ∧ cF [5] A (zsi (zsi A 5 2 (zi A 5 2 + 1)) 5 3 1) := by
  have f1 : cF [5] A (zsi A 5 2 (zi A 5 2 + 1)) := cF_si h.1 (by decide) (by decide) (by decide)
  have f : cF [5] A (zsi (zsi A 5 2 (zi A 5 2 + 1)) 5 3 1) := f1.trans (cF_si f1.own (by decide) (by decide) (by decide))
  have h4 := h.2.2.2.1
  have e : zi (zsi (zsi A 5 2 (zi A 5 2 + 1)) 5 3 1) 5 2 = zi A 5 2 + 1 := by rw [zi_si_j (by decide), zi_si_s, yb_w (by omega) (by omega)]
  refine ⟨cz_own hp h f ?_ ?_ ?_ (by rw [e]; omega) (fun _ => by rw [zi_si_s]; decide) (fun s' e' => by cases e'), f⟩
  · rw [zi_si_j (by decide), zi_si_j (by decide)]
  · rw [zi_si_j (by decide), zi_si_j (by decide)]
  · rw [zi_si_j (by decide), zi_si_j (by decide)]
theorem CZv.none {mn : Nat} {v : Int} (h : CZ Tx L mn cl p K b A none) : CZv Tx L mn cl p K b A v none := ⟨h, fun w e => by cases e⟩
theorem cz_faN {mn M : Nat} {x : Int} (hN : 300000 ≤ N) (hT : TXT Tx L) (hp : pto.contains p = true) (hM : 0 < M) (hK : K + 5 ≤ 100000) (h : CZ Tx L mn cl p K b A none) : ∃ v B, z_Pa_factor_l N M p x A = some (v, B) ∧ cF [5, p] A B ∧ CZ Tx L mn cl p (K + 5) b B none := by
  obtain ⟨M, rfl⟩ : ∃ m, M = m + 1 := ⟨M - 1, by omega⟩
  obtain ⟨w, w1, w2, w3, w4⟩ := cz_peek (N := N) hT h
  unfold z_Pa_factor_l z_Pa_factorR
  rw [w1, zbP_s]
  have br : ∃ v B, z_Pa_factorR_27 (z_Pa_factor_l N M) N p x w A = some (v, B) ∧ cF [5, p] A B ∧ CZ Tx L mn cl p (K + 5) b B none := by
    unfold z_Pa_factorR_27
    rw [zlet_s]
    obtain ⟨q, f⟩ := cz_stepN hp h (by omega)
    have q' := CZ.mono q (show K + 1 ≤ K + 5 by omega) (by omega) (Nat.le_refl b)
    have iv : ∃ i, z_Pa_isVariable N w (zsi A 5 2 (zi A 5 2 + 1)) = some i := by
      unfold z_Pa_isVariable
      split
      · exact ⟨_, rfl⟩
      · split
        · exact ⟨_, rfl⟩
        · exact ⟨_, rfl⟩
    obtain ⟨i, hi⟩ := iv
    have b65 : ∃ v B, z_Pa_factorR_65 (z_Pa_factor_l N M) N p x w (zsi A 5 2 (zi A 5 2 + 1)) = some (v, B) ∧ cF [5, p] A B ∧ CZ Tx L mn cl p (K + 5) b B none := by
      unfold z_Pa_factorR_65
      rw [if_neg (by rw [q.2.2.2.2.1 rfl]; decide), zlet_s]
      obtain ⟨q2, f2⟩ := cz_fail hp q'
      exact ⟨_, _, rfl, (f.trans f2).mono cS5, q2⟩
    rw [hi, zbP_s]
    split
    · split
      · split
        · exact ⟨_, _, rfl, f.mono cS5, q'⟩
        · exact b65
      · exact b65
    · exact ⟨_, _, rfl, f.mono cS5, q'⟩
  split
  · exact br
  · split
    · exact br
    · unfold z_Pa_digits z_Pa_digits_4
      obtain ⟨u, B, b1, b2, b3, -⟩ := cz_digits (N := N) hT hp 5 N 0 0 A none K b (by omega) (by omega) (by omega) (by omega) (fun e => absurd rfl e) h
      rw [b1, zbI_s]
      obtain ⟨u', C, c1, c2, c3⟩ := cz_const (N := N) (b := 0) (v := u) hT hp (show CZ Tx L mn cl p (K + 5) (0 + 1) B none from by
        obtain ⟨a1, a2, a3, a4, a5, a6⟩ := b3
        exact ⟨a1, a2, a3, a4, a5, fun s' e' => by cases e'⟩) (fun e => absurd rfl e)
      rw [c1, zbI_s]
      refine ⟨_, _, rfl, (b2.mono cS5).trans (c3.mono cSp), ?_⟩
      obtain ⟨a1, a2, a3, a4, a5, a6⟩ := c2.1
      exact ⟨a1, a2, a3, a4, a5, fun s' e' => by cases e'⟩
theorem tlo_none {c1 c2 o1 o2 : Int} {n : Nat} {F : Ps → Option (Int × Ps)} : (none : Option (Int × Ps)).bind (tlo Tx c1 c2 o1 o2 F n) = none := rfl
theorem txp_0 {F : Ps → Option (Int × Ps)} {s : Ps} (h : F s = none) : txp Tx F s = none := by
  unfold txp tsm tpr
  rw [h]
  rfl
theorem tfB_0 {s : Ps} (h1 : ¬ (48 ≤ Tx s.1 ∧ Tx s.1 ≤ 57)) (h2 : ¬ (97 ≤ Tx s.1 ∧ Tx s.1 ≤ 102)) (h3 : ¬ (Tx s.1 = 120 ∧ mb = false)) : tfB Tx mb (fun _ => none) s = none := by
  unfold tfB
  rw [if_neg h1, if_neg h2, if_neg h3]
  split
  · rw [txp_0 rfl]; rfl
  · split
    · rfl
    · split
      · cases tex Tx 91 (tav s) with
        | none => rfl
        | some s1 =>
          rw [Option.bind_some, txp_0 rfl]
          rfl
      · rfl
theorem cz_fa (hN : 300000 ≤ N) (hT : TXT Tx L) (hp : pto.contains p = true) : ∀ (n M : Nat), n ≤ 5 → n < M → CRec Tx L mb.toNat cl p (z_Pa_factor_l N M) (5 - (n : Int)) (tfa Tx mb (n + 1)) (8 + 3 * n)
  | n, 0, _, hM => by omega
  | n, M + 1, h5, hM => fun A o K b hK h => by
    cases o with
    | none =>
      obtain ⟨v, B, b1, b2, b3⟩ := cz_faN (N := N) (x := 5 - (n : Int)) hN hT hp (Nat.succ_pos M) (by omega) h
      exact ⟨v, B, b1, b2, CZv.none (CZ.mono b3 (by omega) (by omega) (Nat.le_refl _))⟩
    | some s =>
      obtain ⟨q1, q2, q3, q4, q5, q6⟩ := h.2.2.2.2.2 s rfl
      have t1 := hT.1
      obtain ⟨w, w1, w2, w3, w4⟩ := cz_peek (N := N) hT h
      have w4 := w4 s rfl
      have hm := h.2.2.1.2.2.1
      unfold z_Pa_factor_l z_Pa_factorR
      rw [w1, zbP_s]
      by_cases cd : 48 ≤ Tx s.1 ∧ Tx s.1 ≤ 57
      · rw [if_neg (by omega), if_neg (by omega)]
        unfold z_Pa_digits z_Pa_digits_4
        obtain ⟨u, B, b1, b2, b3, b4⟩ := cz_digits (N := N) hT hp 5 N 0 0 A (some s) K b (by omega) (by omega) (by omega) (by omega) (fun _ => ⟨by decide, by decide⟩) h
        have b4 := b4 s rfl
        rw [b1, zbI_s]
        obtain ⟨g1, g2, g3, g4, g5⟩ := tdg_rg hT 5 0 s.1 (by decide) q3
        have g5 := g5 (by decide) cd.1 cd.2
        have g2 : (tdg Tx 5 0 s.1).1 + 1 ≤ 100000 := g2
        have b3 : CZ Tx L mb.toNat cl p (K + 5) b B (some ((tdg Tx 5 0 s.1).2, s.2)) := b3
        obtain ⟨u', C, c1, c2, c3⟩ := cz_const (N := N) (b := b) (v := u) hT hp (b3.up (b' := b + 1) (by show s.2.1.length + (b + 1) ≤ 2 * (tdg Tx 5 0 s.1).2; omega)) (fun _ => by rw [b4]; omega)
        rw [c1, zbI_s]
        refine ⟨_, _, rfl, (b2.mono cS5).trans (c3.mono cSp), ?_⟩
        have e : (some s).bind (tfa Tx mb (n + 1)) = (some ((tdg Tx 5 0 s.1).2, s.2)).map (tcn u) := by
          show tfB Tx mb (tfa Tx mb n) s = _
          unfold tfB
          rw [if_pos cd, b4]
          rfl
        rw [e]
        exact CZv.mono c2 (by omega) (by omega) (Nat.le_refl _)
      have e27 : (if w < 48 then z_Pa_factorR_27 (z_Pa_factor_l N M) N p (5 - (n : Int)) w A else (if 57 < w then z_Pa_factorR_27 (z_Pa_factor_l N M) N p (5 - (n : Int)) w A else zbI (z_Pa_digits N A) fun v4 A5 => zbI (z_Pa_constant N p v4 A5) fun v6 A7 => some (v6, A7))) = z_Pa_factorR_27 (z_Pa_factor_l N M) N p (5 - (n : Int)) w A := by
        split
        · rfl
        · rw [if_pos (by omega)]
      rw [e27]
      unfold z_Pa_factorR_27
      rw [zlet_s]
      by_cases cv : 97 ≤ Tx s.1 ∧ Tx s.1 ≤ 102
      · obtain ⟨z1, f1⟩ := cz_step hp h (hT.lt (k := s.1) (by omega)) hT.1
        have iv : z_Pa_isVariable N w (zsi A 5 2 (zi A 5 2 + 1)) = some 1 := by
          unfold z_Pa_isVariable
          rw [if_neg (by omega), if_neg (by omega)]
        rw [iv, zbP_s, if_neg (by decide)]
        refine ⟨_, _, rfl, f1.mono cS5, ?_⟩
        have e : (some s).bind (tfa Tx mb (n + 1)) = some (Tx s.1 - 97, tav s) := by
          show tfB Tx mb (tfa Tx mb n) s = _
          unfold tfB
          rw [if_neg cd, if_pos cv]
        rw [e]
        refine ⟨CZ.mono z1 (by omega) (by omega) (by omega), fun w' e' => ?_⟩
        cases e'
        rw [yb_w (by omega) (by omega)]
        exact ⟨by rw [w4], by show 0 ≤ Tx s.1 - 97; omega, by show Tx s.1 - 97 ≤ 300; omega⟩
      have iv : z_Pa_isVariable N w (zsi A 5 2 (zi A 5 2 + 1)) = some 0 := by
        unfold z_Pa_isVariable
        split
        · rfl
        · rw [if_pos (by omega)]
      have hm' : zi (zsi A 5 2 (zi A 5 2 + 1)) 5 4 = mb.toNat := by rw [zi_si_j (by decide)]; exact hm
      rw [iv, zbP_s, if_pos rfl]
      by_cases cx : Tx s.1 = 120 ∧ mb = false
      · obtain ⟨z1, f1⟩ := cz_step hp h (hT.lt (k := s.1) (by omega)) hT.1
        rw [if_pos (by omega), if_pos (by rw [hm', cx.2]; rfl)]
        refine ⟨_, _, rfl, f1.mono cS5, ?_⟩
        have e : (some s).bind (tfa Tx mb (n + 1)) = some (6, tav s) := by
          show tfB Tx mb (tfa Tx mb n) s = _
          unfold tfB
          rw [if_neg cd, if_neg cv, if_pos cx]
        rw [e]
        refine ⟨CZ.mono z1 (by omega) (by omega) (by omega), fun w' e' => ?_⟩
        cases e'
        exact ⟨rfl, by show (0 : Int) ≤ 6; decide, by show (6 : Int) ≤ 300; decide⟩
      have e65 : (if w = 120 then (if (zi (zsi A 5 2 (zi A 5 2 + 1)) 5 4) = 0 then some (6, zsi A 5 2 (zi A 5 2 + 1)) else z_Pa_factorR_65 (z_Pa_factor_l N M) N p (5 - (n : Int)) w (zsi A 5 2 (zi A 5 2 + 1))) else z_Pa_factorR_65 (z_Pa_factor_l N M) N p (5 - (n : Int)) w (zsi A 5 2 (zi A 5 2 + 1))) = z_Pa_factorR_65 (z_Pa_factor_l N M) N p (5 - (n : Int)) w (zsi A 5 2 (zi A 5 2 + 1)) := by
        split
        · rw [if_neg (by
            rw [hm']
            cases mb with
            | false => exact absurd ⟨by omega, rfl⟩ cx
            | true => decide)]
        · rfl
      rw [e65]
      unfold z_Pa_factorR_65
      rw [if_pos (by rw [zi_si_j (by decide)]; exact q1)]
      have bad : (some s).bind (tfa Tx mb (n + 1)) = none → ∃ v B, some ((0 : Int), zsi (zsi A 5 2 (zi A 5 2 + 1)) 5 3 1) = some (v, B) ∧ cF [5, p] A B ∧ CZv Tx L mb.toNat cl p (K + (8 + 3 * n)) b B v ((some s).bind (tfa Tx mb (n + 1))) := fun e => by
        obtain ⟨z, f⟩ := cz_stepfail hp h (by omega)
        rw [e]
        exact ⟨_, _, rfl, f.mono cS5, CZv.none (CZ.mono z (by omega) (by omega) (Nat.le_refl _))⟩
      cases n with
      | zero =>
        rw [if_neg (by omega), zlet_s]
        exact bad (tfB_0 cd cv cx)
      | succ n =>
        rw [if_pos (by omega)]
        have hx1 : zw (5 - ((n + 1 : Nat) : Int) + 1) = 5 - (n : Int) := by rw [yb_w (by omega) (by omega)]; omega
        rw [hx1]
        have IH := cz_fa hN hT hp n M (by omega) (by omega)
        have IX := cz_xp (N := N) hN hT hp IH
        have et : (some s).bind (tfa Tx mb (n + 1 + 1)) = tfB Tx mb (tfa Tx mb (n + 1)) s := rfl
        have K1 := h.2.2.2.1.1
        unfold z_Pa_nested
        by_cases c40 : Tx s.1 = 40
        · obtain ⟨z1, f1⟩ := cz_step hp h (hT.lt (k := s.1) (by omega)) hT.1
          rw [if_pos (by omega)]
          obtain ⟨v, B, b1, b2, b3⟩ := IX _ (some (tav s)) K (b + 2) (by omega) z1
          rw [b1, zbI_s]
          obtain ⟨C, c1, c2, c3⟩ := cz_expect (N := N) (c := 41) hT hp (by decide) (by omega) b3.1
          rw [c1, zbV_s, zbI_s]
          refine ⟨_, _, rfl, ((f1.mono cS5).trans b2).trans (c3.mono cS5), ?_⟩
          have e : tfB Tx mb (tfa Tx mb (n + 1)) s = (txp Tx (tfa Tx mb (n + 1)) (tav s)).bind fun w => (tex Tx 41 w.2).bind fun u => some (w.1, u) := by
            unfold tfB
            rw [if_neg cd, if_neg cv, if_neg cx, if_pos c40]
          rw [et, e]
          have b3' : CZv Tx L mb.toNat cl p (K + (8 + 3 * n)) (b + 2) B v (txp Tx (tfa Tx mb (n + 1)) (tav s)) := b3
          have c2' : CZ Tx L mb.toNat cl p (K + (8 + 3 * n) + 1) (b + 2 + 2) C (((txp Tx (tfa Tx mb (n + 1)) (tav s)).map Prod.snd).bind (tex Tx 41)) := c2
          revert b3' c2'
          cases txp Tx (tfa Tx mb (n + 1)) (tav s) with
          | none =>
            intro b3' c2'
            exact CZv.none (CZ.mono c2' (by omega) (by omega) (by omega))
          | some w =>
            intro b3' c2'
            have c2' : CZ Tx L mb.toNat cl p (K + (8 + 3 * n) + 1) (b + 2 + 2) C (tex Tx 41 w.2) := c2'
            show CZv _ _ _ _ _ _ _ _ _ ((tex Tx 41 w.2).bind fun u => some (w.1, u))
            revert c2'
            cases tex Tx 41 w.2 with
            | none => exact fun c2' => CZv.none (CZ.mono c2' (by omega) (by omega) (by omega))
            | some u => exact fun c2' => ⟨CZ.mono c2' (by omega) (by omega) (by omega), fun w' e' => by cases e'; exact b3'.2 w rfl⟩
        rw [if_neg (by omega)]
        by_cases c45 : Tx s.1 = 45
        · obtain ⟨z1, f1⟩ := cz_step hp h (hT.lt (k := s.1) (by omega)) hT.1
          rw [if_pos (by omega)]
          obtain ⟨v5, B, b1, b2, b3⟩ := cz_const (N := N) (b := b + 1) (v := 0) hT hp z1 (fun _ => by omega)
          rw [b1, zbI_s]
          have b2' : CZv Tx L mb.toNat cl p K (b + 1) B v5 (some (tcn 0 (tav s))) := b2
          obtain ⟨e1, e2, e3⟩ := b2'.2 _ rfl
          obtain ⟨v7, C, c1, c2, c3⟩ := IH _ (some (tcn 0 (tav s)).2) K (b + 1) (by omega) b2'.1
          rw [c1, zbI_s]
          obtain ⟨v9, D, d1, d2, d3⟩ := cz_work (N := N) (b := b) (x := v5) (z := 1) hT hp c3 (by omega) (by decide)
          rw [d1, zbI_s, zbI_s]
          refine ⟨_, _, rfl, (((f1.mono cS5).trans (b3.mono cSp)).trans c2).trans (d3.mono cSp), ?_⟩
          have e : tfB Tx mb (tfa Tx mb (n + 1)) s = (tfa Tx mb (n + 1) (tcn 0 (tav s)).2).map fun w => twk 1 v5 w.1 w.2 := by
            unfold tfB
            rw [if_neg cd, if_neg cv, if_neg cx, if_neg c40, if_pos c45, e1]
            cases tfa Tx mb (n + 1) (tcn 0 (tav s)).2 <;> rfl
          rw [et, e]
          exact CZv.mono d2 (by omega) (by omega) (Nat.le_refl _)
        rw [if_neg (by omega)]
        by_cases c65 : Tx s.1 = 65
        · obtain ⟨z1, f1⟩ := cz_step hp h (hT.lt (k := s.1) (by omega)) hT.1
          rw [if_pos (by omega)]
          obtain ⟨B, b1, b2, b3⟩ := cz_expect (N := N) (c := 91) hT hp (by decide) (by omega) z1
          rw [b1, zbV_s]
          obtain ⟨v, C, c1, c2, c3⟩ := IX _ ((some (tav s)).bind (tex Tx 91)) (K + 1) (b + 2 + 2) (by omega) b2
          rw [c1, zbI_s]
          obtain ⟨D, d1, d2, d3⟩ := cz_expect (N := N) (c := 93) hT hp (by decide) (by omega) c3.1
          rw [d1, zbV_s]
          have e : tfB Tx mb (tfa Tx mb (n + 1)) s = (((some (tav s)).bind (tex Tx 91)).bind (txp Tx (tfa Tx mb (n + 1)))).bind fun w => (tex Tx 93 w.2).bind fun u => some (tge w.1 u) := by
            unfold tfB
            rw [if_neg cd, if_neg cv, if_neg cx, if_neg c40, if_neg c45, if_pos c65]
            show (tex Tx 91 (tav s)).bind _ = ((tex Tx 91 (tav s)).bind _).bind _
            cases tex Tx 91 (tav s) <;> rfl
          rw [et, e]
          have f3 : cF [5, p] A D := (((f1.mono cS5).trans (b3.mono cS5)).trans c2).trans (d3.mono cS5)
          have hv : CZv Tx L mb.toNat cl p (K + 1 + (8 + 3 * n) + 1) (b + 1) D v ((((some (tav s)).bind (tex Tx 91)).bind (txp Tx (tfa Tx mb (n + 1)))).bind fun w => (tex Tx 93 w.2).bind fun u => some (w.1, u)) := by
            revert c3 d2
            cases ((some (tav s)).bind (tex Tx 91)).bind (txp Tx (tfa Tx mb (n + 1))) with
            | none => exact fun c3 d2 => CZv.none (CZ.mono d2 (by omega) (by omega) (by omega))
            | some w =>
              intro c3 d2
              have d2 : CZ Tx L mb.toNat cl p (K + 1 + (8 + 3 * n) + 1) (b + 2 + 2 + 2) D (tex Tx 93 w.2) := d2
              show CZv _ _ _ _ _ _ _ _ _ ((tex Tx 93 w.2).bind fun u => some (w.1, u))
              revert d2
              cases tex Tx 93 w.2 with
              | none => exact fun d2 => CZv.none (CZ.mono d2 (by omega) (by omega) (by omega))
              | some u => exact fun d2 => ⟨CZ.mono d2 (by omega) (by omega) (by omega), fun w' e' => by cases e'; exact c3.2 w rfl⟩
          obtain ⟨v16, E, g1, g2, g3⟩ := cz_get (N := N) (b := b) hT hp hv
          obtain ⟨fr1, fr2, fr3⟩ := fresh_f (N := N) d3.own hp d2.2.1
          have g1' := g1
          revert g1
          cases hfr : z_Pa_fresh N p D with
          | none => intro g1; cases g1
          | some uu =>
            intro g1
            rw [zbI_s] at g1 ⊢
            cases had : z_Pt_add N p 3 uu.1 v uu.2 with
            | none => rw [had] at g1; cases g1
            | some E' =>
              rw [had, zbV_s] at g1
              cases g1
              rw [zbV_s, zbI_s]
              refine ⟨_, _, rfl, f3.trans (g3.mono cSp), ?_⟩
              have e2 : (((((some (tav s)).bind (tex Tx 91)).bind (txp Tx (tfa Tx mb (n + 1)))).bind fun w => (tex Tx 93 w.2).bind fun u => some (w.1, u)).map fun w => tge w.1 w.2) = (((some (tav s)).bind (tex Tx 91)).bind (txp Tx (tfa Tx mb (n + 1)))).bind fun w => (tex Tx 93 w.2).bind fun u => some (tge w.1 u) := by
                cases ((some (tav s)).bind (tex Tx 91)).bind (txp Tx (tfa Tx mb (n + 1))) with
                | none => rfl
                | some w =>
                  show Option.map _ ((tex Tx 93 w.2).bind _) = (tex Tx 93 w.2).bind _
                  cases tex Tx 93 w.2 <;> rfl
              rw [e2] at g2
              exact CZv.mono g2 (by omega) (by omega) (Nat.le_refl _)
        rw [if_neg (by omega), zlet_s, zbI_s]
        refine bad ?_
        rw [et]
        unfold tfB
        rw [if_neg cd, if_neg cv, if_neg cx, if_neg c40, if_neg c45, if_neg c65]
/-- an expression of a statement -/
theorem cz_x (hN : 300000 ≤ N) (hT : TXT Tx L) (hp : pto.contains p = true) : CRec Tx L mb.toNat cl p (z_Pa_expression (z_Pa_factor N) N) 0 (tx Tx mb) 23 := by
  have h := cz_fa (N := N) (mb := mb) (cl := cl) hN hT hp 5 8 (by omega) (by omega)
  have h2 : CRec Tx L mb.toNat cl p (z_Pa_factor N) 0 (tfa Tx mb 6) 23 := h
  exact cz_xp hN hT hp h2
end
