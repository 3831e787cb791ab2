/-! the class's parser: every statement -/
section
variable {N : Nat} {Tx : Nat → Int} {L cl p K b : Nat} {mb : Bool} {A B : zA} {o : Option Ps}
theorem cz_var {s : Ps} (hT : TXT Tx L) (hp : pto.contains p = true) (hK : K + 60 ≤ 50000) (h : CZ Tx L mb.toNat cl p K (b + 2) A (some s)) : ∃ B, (zbI (z_Pa_variable N A) fun v8 A9 => zbV (z_Pt_add N p 5 v8 0 A9) fun A10 => zbV (z_Pa_expect N 59 A10) fun A11 => some A11) = some B ∧ cF [5, p] A B ∧ CZ Tx L mb.toNat cl p (K + 60) b B (if 97 ≤ Tx s.1 ∧ Tx s.1 ≤ 102 then tex Tx 59 (tad (5, Tx s.1 - 97, 0, 0, 0) (tav s)) else none) := by
  obtain ⟨v, v1, v2, v3, v4⟩ := cz_peek (N := N) hT h
  have v4 := v4 s rfl
  have ex : z_Pa_expect N v A = some (zsi A 5 2 (zi A 5 2 + 1)) := by
    unfold z_Pa_expect
    rw [v1, zbP_s, if_pos rfl, zlet_s]
  unfold z_Pa_variable
  rw [v1, zbP_s, ex, zbV_s]
  unfold z_Pa_isVariable
  by_cases cc : 97 ≤ v ∧ v ≤ 102
  · rw [if_neg (by omega), if_neg (by omega), zbP_s, if_neg (by decide), zbI_s, if_pos (by omega)]
    obtain ⟨z, f⟩ := cz_step hp h (hT.lt (k := s.1) (by omega)) hT.1
    obtain ⟨G, g1, g2, g3⟩ := cz_add (N := N) (b := b) (x := 5) (y := zw (v - 97)) (z := 0) hT hp (CZ.mono z (Nat.le_refl _) (by omega) (by omega)) (fun _ => ⟨by decide, by have := yb_wrg (v - 97); exact yb_w this.1 this.2, by decide⟩) (by decide)
    rw [g1, zbV_s]
    obtain ⟨C, c1, c2, c3⟩ := cz_expect (N := N) (c := 59) hT hp (by decide) (by omega) g2
    rw [c1, zbV_s]
    refine ⟨C, rfl, ((f.mono cS5).trans (g3.mono cSp)).trans (c3.mono cS5), ?_⟩
    rw [yb_w (by omega) (by omega), v4] at c2
    exact CZ.mono c2 (by omega) (by omega) (by omega)
  · have e : (if v < 97 then some (0 : Int) else if 102 < v then some 0 else some 1) = some 0 := by
      split
      · rfl
      · rw [if_pos (by omega)]
    rw [e, zbP_s, if_pos rfl, zlet_s, zbI_s, if_neg (by omega)]
    obtain ⟨z, f⟩ := cz_stepfail hp h (by omega)
    obtain ⟨G, g1, g2, g3⟩ := cz_add (N := N) (b := b) (x := 5) (y := zw (v - 97)) (z := 0) hT hp (CZ.mono z (Nat.le_refl _) (by omega) (by omega)) (fun e => absurd rfl e) (by decide)
    rw [g1, zbV_s]
    obtain ⟨C, c1, c2, c3⟩ := cz_expect (N := N) (c := 59) hT hp (by decide) (by omega) g2
    rw [c1, zbV_s]
    exact ⟨C, rfl, ((f.mono cS5).trans (g3.mono cSp)).trans (c3.mono cS5), CZ.mono c2 (by omega) (by omega) (by omega)⟩
theorem cz_stB {rec : Nat → Int → zA → Option zA} {x : Int} {Kf : Ps → Option Ps} {c C : Nat} (hN : 300000 ≤ N) (hT : TXT Tx L) (hp : pto.contains p = true) (hB : CBk N Tx L mb.toNat cl p rec (zw (x + 1)) Kf c) (h1 : 2 * c + 23 ≤ C) (h2 : 60 ≤ C) : CRs Tx L mb.toNat cl p (fun p x A => z_Pa_statementR rec N p x A) x (tsB Tx mb cl Kf) C := fun A s K b hK hl h => by
  obtain ⟨v, v1, v2, v3, v4⟩ := cz_peek (N := N) hT h
  have v4 := v4 s rfl
  obtain ⟨z, f⟩ := cz_step hp h hl hT.1
  have K1 := h.2.2.2.1.1
  show ∃ B, z_Pa_statementR rec N p x A = some B ∧ _
  unfold z_Pa_statementR tsB
  rw [v1, zbP_s, zlet_s, ← v4]
  by_cases c33 : v = 33
  · rw [if_pos c33, if_pos c33]
    obtain ⟨u, B, b1, b2, b3⟩ := cz_x (N := N) (mb := mb) (cl := cl) hN hT hp _ _ _ _ (by omega) z
    rw [b1, zbI_s]
    obtain ⟨D, d1, d2, d3⟩ := cz_addv (N := N) (b := b + 1) (x := 6) (z := 0) hT hp b3 (fun _ => by decide) (by decide)
    rw [d1, zbV_s]
    obtain ⟨E, e1, e2, e3⟩ := cz_expect (N := N) (c := 59) hT hp (by decide) (by omega) d2
    rw [e1, zbV_s]
    refine ⟨E, rfl, (((f.mono cS5).trans b2).trans (d3.mono cSp)).trans (e3.mono cS5), ?_⟩
    have e : ((tx Tx mb (tav s)).bind fun w => tex Tx 59 (tad (6, w.1, 0, 0, 0) w.2)) = (((some (tav s)).bind (tx Tx mb)).map fun w => tad (6, w.1, 0, 0, 0) w.2).bind (tex Tx 59) := by
      show (tx Tx mb (tav s)).bind _ = Option.bind (Option.map _ (tx Tx mb (tav s))) _
      cases tx Tx mb (tav s) <;> rfl
    rw [e]
    exact CZ.mono e2 (by omega) (by omega) (by omega)
  rw [if_neg c33, if_neg c33]
  have use : ∀ {R : zA → Option zA} {S : Option Ps} {k : Nat}, k ≤ C → (∃ B, R (zsi A 5 2 (zi A 5 2 + 1)) = some B ∧ cF [5, p] (zsi A 5 2 (zi A 5 2 + 1)) B ∧ CZ Tx L mb.toNat cl p (K + k) b B S) → ∃ B, (zbV (R (zsi A 5 2 (zi A 5 2 + 1))) fun A13 => some A13) = some B ∧ cF [5, p] A B ∧ CZ Tx L mb.toNat cl p (K + C) b B S := fun hk q => by
    obtain ⟨B, b1, b2, b3⟩ := q
    rw [b1, zbV_s]
    exact ⟨B, rfl, (f.mono cS5).trans b2, CZ.mono b3 (by omega) (by omega) (Nat.le_refl _)⟩
  by_cases c63 : v = 63
  · rw [if_pos c63, if_pos c63]
    obtain ⟨B, b1, b2, b3⟩ := cz_var (N := N) hT hp (by omega) z
    exact ⟨B, b1, (f.mono cS5).trans b2, CZ.mono b3 (by omega) (by omega) (Nat.le_refl _)⟩
  rw [if_neg c63, if_neg c63]
  by_cases c65 : v = 65
  · rw [if_pos c65, if_pos c65]
    exact use h2 (cz_store hN hT hp (by omega) z)
  rw [if_neg c65, if_neg c65]
  by_cases c73 : v = 73
  · rw [if_pos c73, if_pos c73]
    obtain ⟨B, b1, b2, b3⟩ := cz_choice (N := N) hN hT hp hB (by omega) z
    rw [b1, zbV_s]
    exact ⟨B, rfl, (f.mono cS5).trans b2, CZ.mono b3 (by omega) (by omega) (Nat.le_refl _)⟩
  rw [if_neg c73, if_neg c73]
  have call : 80 ≤ v ∧ v ≤ 82 → ∃ B, (zbV (z_Pa_call N p (zw (v - 80)) (zsi A 5 2 (zi A 5 2 + 1))) fun A13 => some A13) = some B ∧ cF [5, p] A B ∧ CZ Tx L mb.toNat cl p (K + C) b B (if 80 ≤ v ∧ v ≤ 82 then (if v - 80 < cl then (tex Tx 40 (tav s)).bind fun s1 => (tx Tx mb s1).bind fun w => (tex Tx 41 w.2).bind fun s2 => (tex Tx 59 s2).bind fun s3 => some (tad (7, w.1, v - 80, 0, 0) s3) else none) else if v = 87 then (tx Tx mb (tad (10, 0, 0, 0, 0) (tav s))).bind fun w => (Kf (tad (11, w.1, 0, 0, 0) w.2)).bind fun s1 => some (tad (12, 0, 0, 0, 0) s1) else if 97 ≤ v ∧ v ≤ 102 then (tex Tx 61 (tav s)).bind fun s1 => (tx Tx mb s1).bind fun w => tex Tx 59 (tad (1, v - 97, w.1, 0, 0) w.2) else none) := fun q => by
    rw [if_pos q, yb_w (by omega) (by omega)]
    exact use h2 (cz_call hN hT hp (by omega) (by omega) z)
  by_cases c80 : v = 80
  · rw [if_pos c80]
    exact call (by omega)
  rw [if_neg c80]
  by_cases c81 : v = 81
  · rw [if_pos c81]
    exact call (by omega)
  rw [if_neg c81]
  by_cases c82 : v = 82
  · rw [if_pos c82]
    exact call (by omega)
  rw [if_neg c82, if_neg (show ¬ (80 ≤ v ∧ v ≤ 82) by omega)]
  by_cases c87 : v = 87
  · rw [if_pos c87, if_pos c87]
    obtain ⟨B, b1, b2, b3⟩ := cz_wloop (N := N) hN hT hp hB (by omega) z
    rw [b1, zbV_s]
    exact ⟨B, rfl, (f.mono cS5).trans b2, CZ.mono b3 (by omega) (by omega) (Nat.le_refl _)⟩
  rw [if_neg c87, if_neg c87]
  exact use h2 (cz_assign hN hT hp (by omega) z)
theorem cSt_le : ∀ n : Nat, n ≤ 5 → cSt n + 60 ≤ 4000 := by decide
theorem cz_st (hN : 300000 ≤ N) (hT : TXT Tx L) (hp : pto.contains p = true) : ∀ (n M : Nat), n ≤ 5 → n < M → CRs Tx L mb.toNat cl p (z_Pa_statement_l N M) (5 - (n : Int)) (tst Tx L mb cl n) (cSt n)
  | n, 0, _, hM => by omega
  | 0, M + 1, _, _ => by
    have hB : CBk N Tx L mb.toNat cl p (z_Pa_statement_l N M) (zw (5 - ((0 : Nat) : Int) + 1)) (fun _ => none) 0 := fun A o K b hK h => by
      rw [yb_w (by omega) (by omega)]
      unfold z_Pa_block
      rw [if_pos (by omega), zlet_s]
      obtain ⟨z, f⟩ := cz_fail hp h
      refine ⟨_, rfl, f.mono cS5, ?_⟩
      have e : o.bind (fun _ => (none : Option Ps)) = none := by cases o <;> rfl
      rw [e]
      obtain ⟨a1, a2, a3, a4, a5, a6⟩ := z
      exact ⟨a1, a2, a3, a4, a5, fun s' e' => by cases e'⟩
    exact cz_stB (N := N) (C := 60) hN hT hp hB (by omega) (by omega)
  | n + 1, M + 1, h5, hM => by
    have IH := cz_st hN hT hp n M (by omega) (by omega)
    have hB : CBk N Tx L mb.toNat cl p (z_Pa_statement_l N M) (zw (5 - ((n + 1 : Nat) : Int) + 1)) (tbk Tx L (tst Tx L mb cl n)) (cSt n + 2) := fun A o K b hK h => by
      rw [yb_w (by omega) (by omega), show (5 - ((n + 1 : Nat) : Int) + 1) = 5 - (n : Int) by omega]
      exact cz_block hN hT hp IH (by omega) (by omega) h
    exact cz_stB (N := N) (C := cSt (n + 1)) hN hT hp hB (by show 2 * (cSt n + 2) + 23 ≤ 2 * cSt n + 60; omega) (by show 60 ≤ 2 * cSt n + 60; omega)
/-- the statements of main, and a procedure's block -/
theorem cz_main (hN : 300000 ≤ N) (hT : TXT Tx L) (hp : pto.contains p = true) (hK : K ≤ 20000) (h : CZ Tx L mb.toNat cl p K b A o) : ∃ B, z_Pa_statements (z_Pa_statement N) N p 0 A = some B ∧ cF [5, p] A B ∧ CZ Tx L mb.toNat cl p (K + 4000) b B (o.bind (tss Tx L (tst Tx L mb cl 5) 120)) := by
  have hS : CRs Tx L mb.toNat cl p (z_Pa_statement N) 0 (tst Tx L mb cl 5) (cSt 5) := cz_st hN hT hp 5 8 (by omega) (by omega)
  have := cSt_le 5 (by omega)
  obtain ⟨C, c1, c2, c3⟩ := cz_sts (N := N) hT hp hS 120 N 0 A o K b (by omega) (by omega) (by omega) (by omega) h
  exact ⟨C, c1, c2, CZ.mono c3 (by omega) (by omega) (Nat.le_refl _)⟩
theorem cz_proc (hN : 300000 ≤ N) (hT : TXT Tx L) (hp : pto.contains p = true) (hK : K ≤ 20000) (h : CZ Tx L mb.toNat cl p K b A o) : ∃ B, z_Pa_block (z_Pa_statement N) N p 1 A = some B ∧ cF [5, p] A B ∧ CZ Tx L mb.toNat cl p (K + 4000) b B (o.bind (tbk Tx L (tst Tx L mb cl 4))) := by
  have hS : CRs Tx L mb.toNat cl p (z_Pa_statement N) 1 (tst Tx L mb cl 4) (cSt 4) := cz_st hN hT hp 4 8 (by omega) (by omega)
  have := cSt_le 4 (by omega)
  obtain ⟨C, c1, c2, c3⟩ := cz_block (N := N) hN hT hp hS (by omega) (by omega) h
  exact ⟨C, c1, c2, CZ.mono c3 (by omega) (by omega) (by omega)⟩
end
