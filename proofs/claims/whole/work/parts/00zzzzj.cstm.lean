/-! the class's parser: statements -/
def tev (Tx : Nat → Int) (c : Int) (w : Int × Ps) : Option (Int × Ps) := (tex Tx c w.2).map fun u => (w.1, u)
def CRs (Tx : Nat → Int) (L mn cl p : Nat) (R : Nat → Int → zA → Option zA) (x : Int) (S : Ps → Option Ps) (c : Nat) : Prop := ∀ (A : zA) (s : Ps) (K b : Nat), K + c ≤ 50000 → s.1 < L → CZ Tx L mn cl p K b A (some s) → ∃ B, R p x A = some B ∧ cF [5, p] A B ∧ CZ Tx L mn cl p (K + c) b B (S s)
section
variable {N : Nat} {Tx : Nat → Int} {L mn cl p K b : Nat} {mb : Bool} {A B : zA} {o : Option Ps}
theorem cz_expectv {c v : Int} {o : Option (Int × Ps)} (hT : TXT Tx L) (hp : pto.contains p = true) (hc : c ≠ 0) (hK : K < 100000) (h : CZv Tx L mn cl p K b A v o) : ∃ B, z_Pa_expect N c A = some B ∧ CZv Tx L mn cl p (K + 1) (b + 2) B v (o.bind (tev Tx c)) ∧ cF [5] A B := by
  obtain ⟨B, b1, b2, b3⟩ := cz_expect (N := N) hT hp hc hK h.1
  refine ⟨B, b1, ⟨?_, fun w' e' => ?_⟩, b3⟩
  · have e : (o.bind (tev Tx c)).map Prod.snd = (o.map Prod.snd).bind (tex Tx c) := by
      cases o with
      | none => rfl
      | some w =>
        show Option.map _ (Option.map _ (tex Tx c w.2)) = tex Tx c w.2
        cases tex Tx c w.2 <;> rfl
    rw [e]
    exact b2
  · cases o with
    | none => cases e'
    | some w =>
      have e' : (tex Tx c w.2).map (fun u => (w.1, u)) = some w' := e'
      revert e'
      cases tex Tx c w.2 with
      | none => intro e'; cases e'
      | some u =>
        intro e'
        cases e'
        exact h.2 w rfl
theorem cz_addv {x z v : Int} {o : Option (Int × Ps)} (hT : TXT Tx L) (hp : pto.contains p = true) (h : CZv Tx L mn cl p K (b + 1) A v o) (hw : o ≠ none → zw x = x ∧ zw z = z) (hn : nbk x ≤ 2) : ∃ B, z_Pt_add N p x v z A = some B ∧ CZ Tx L mn cl p K b B (o.map (fun w => tad (x, w.1, z, 0, 0) w.2)) ∧ cF [p] A B := by
  obtain ⟨B, b1, b2, b3⟩ := cz_add (N := N) (x := x) (y := v) (z := z) hT hp h.1 (fun e => by
    cases o with
    | none => exact absurd rfl e
    | some w =>
      obtain ⟨e1, e2, e3⟩ := h.2 w rfl
      have hw := hw (by intro e; cases e)
      exact ⟨hw.1, by rw [e1]; exact w300 e2 (by omega), hw.2⟩) hn
  refine ⟨B, b1, ?_, b3⟩
  cases o with
  | none => exact b2
  | some w =>
    obtain ⟨e1, e2, e3⟩ := h.2 w rfl
    rw [e1] at b2
    exact b2
theorem cz_addw {x y v : Int} {o : Option (Int × Ps)} (hT : TXT Tx L) (hp : pto.contains p = true) (h : CZv Tx L mn cl p K (b + 1) A v o) (hw : o ≠ none → zw x = x ∧ zw y = y) (hn : nbk x ≤ 2) : ∃ B, z_Pt_add N p x y v A = some B ∧ CZ Tx L mn cl p K b B (o.map (fun w => tad (x, y, w.1, 0, 0) w.2)) ∧ cF [p] A B := by
  obtain ⟨B, b1, b2, b3⟩ := cz_add (N := N) (x := x) (y := y) (z := v) hT hp h.1 (fun e => by
    cases o with
    | none => exact absurd rfl e
    | some w =>
      obtain ⟨e1, e2, e3⟩ := h.2 w rfl
      have hw := hw (by intro e; cases e)
      exact ⟨hw.1, hw.2, by rw [e1]; exact w300 e2 (by omega)⟩) hn
  refine ⟨B, b1, ?_, b3⟩
  cases o with
  | none => exact b2
  | some w =>
    obtain ⟨e1, e2, e3⟩ := h.2 w rfl
    rw [e1] at b2
    exact b2
theorem cz_sts_stop {rec : Nat → Int → zA → Option zA} {x x3 : Int} : ∀ {M : Nat}, 0 < M → zi A 5 3 = 1 → z_Pa_statements_2_l rec N M p x x3 A = some A
  | M + 1, _, h => by
    unfold z_Pa_statements_2_l z_Pa_statements_2_b
    split
    · rw [if_neg (by rw [h]; decide)]
    · rfl
theorem cz_sts {rec : Nat → Int → zA → Option zA} {x : Int} {S : Ps → Option Ps} {c : Nat} (hT : TXT Tx L) (hp : pto.contains p = true) (hS : CRs Tx L mn cl p rec x S c) : ∀ (n M : Nat) (x3 : Int) (A : zA) (o : Option Ps) (K b : Nat), n < M → x3 = 120 - (n : Int) → n ≤ 120 → K + c ≤ 50000 → CZ Tx L mn cl p K b A o → ∃ B, z_Pa_statements_2_l rec N M p x x3 A = some B ∧ cF [5, p] A B ∧ CZ Tx L mn cl p (K + c) b B (o.bind (tss Tx L S n))
  | 0, M + 1, x3, A, o, K, b, hM, hx, h5, hK, h => by
    unfold z_Pa_statements_2_l z_Pa_statements_2_b
    rw [if_neg (by omega)]
    have : o.bind (tss Tx L S 0) = o := by cases o <;> rfl
    rw [this]
    exact ⟨A, rfl, cF.refl _ h.1, h.mono (by omega) (by omega) (Nat.le_refl _)⟩
  | n + 1, M + 1, x3, A, none, K, b, hM, hx, h5, hK, h => by
    rw [cz_sts_stop (Nat.succ_pos M) (h.2.2.2.2.1 rfl)]
    exact ⟨A, rfl, cF.refl _ h.1, h.mono (by omega) (by omega) (Nat.le_refl _)⟩
  | n + 1, M + 1, x3, A, some s, K, b, hM, hx, h5, hK, h => by
    obtain ⟨q1, q2, q3, q4, q5, q6⟩ := h.2.2.2.2.2 s rfl
    have l1 := h.2.2.1.1
    have K1 := h.2.2.2.1.1
    unfold z_Pa_statements_2_l z_Pa_statements_2_b
    rw [if_pos (by omega), if_pos q1]
    have stop : ¬ (s.1 < L ∧ Tx s.1 ≠ 125) → ∃ B, some A = some B ∧ cF [5, p] A B ∧ CZ Tx L mn cl p (K + c) b B ((some s).bind (tss Tx L S (n + 1))) := fun e => by
      have : (some s).bind (tss Tx L S (n + 1)) = some s := by
        show (if s.1 < L ∧ Tx s.1 ≠ 125 then _ else _) = _
        rw [if_neg e]
      rw [this]
      exact ⟨A, rfl, cF.refl _ h.1, h.mono (by omega) (by omega) (Nat.le_refl _)⟩
    by_cases cl' : s.1 < L
    · rw [if_pos (by omega)]
      obtain ⟨u, u1, u2, u3, u4⟩ := cz_peek (N := N) hT h
      have u4 := u4 s rfl
      rw [u1, zbP_s]
      by_cases c5 : u = 125
      · rw [if_pos c5]
        exact stop (fun e => e.2 (by omega))
      · rw [if_neg c5]
        obtain ⟨B, b1, b2, b3⟩ := hS A s K b hK cl' h
        rw [b1, zbV_s, show zw (x3 + 1) = x3 + 1 from yb_w (by omega) (by omega)]
        have e : (some s).bind (tss Tx L S (n + 1)) = (S s).bind (tss Tx L S n) := by
          show (if s.1 < L ∧ Tx s.1 ≠ 125 then _ else _) = _
          rw [if_pos ⟨cl', by omega⟩]
        rw [e]
        revert b3
        cases S s with
        | none =>
          intro b3
          rw [cz_sts_stop (by omega) (b3.2.2.2.2.1 rfl)]
          exact ⟨B, rfl, b2, b3⟩
        | some s2 =>
          intro b3
          obtain ⟨C, c1, c2, c3⟩ := cz_sts hT hp hS n M (x3 + 1) B (some s2) K b (by omega) (by omega) (by omega) hK (b3.low K1 (by omega) (Nat.le_refl _) hT.1)
          exact ⟨C, c1, b2.trans c2, c3⟩
    · rw [if_neg (by omega)]
      exact stop (fun e => cl' e.1)
theorem cz_block {rec : Nat → Int → zA → Option zA} {x : Int} {S : Ps → Option Ps} {c : Nat} (hN : 300000 ≤ N) (hT : TXT Tx L) (hp : pto.contains p = true) (hS : CRs Tx L mn cl p rec x S c) (hx : x ≤ 5) (hK : K + c + 2 ≤ 50000) (h : CZ Tx L mn cl p K b A o) : ∃ B, z_Pa_block rec N p x A = some B ∧ cF [5, p] A B ∧ CZ Tx L mn cl p (K + c + 2) (b + 4) B (o.bind (tbk Tx L S)) := by
  unfold z_Pa_block
  rw [if_neg (by omega)]
  obtain ⟨B, b1, b2, b3⟩ := cz_expect (N := N) (c := 123) hT hp (by decide) (by omega) h
  rw [b1, zbV_s]
  obtain ⟨C, c1, c2, c3⟩ := cz_sts (N := N) hT hp hS 120 N 0 B _ (K + 1) (b + 2) (by omega) (by omega) (by omega) (by omega) b2
  unfold z_Pa_statements z_Pa_statements_2
  rw [c1, zbV_s]
  obtain ⟨D, d1, d2, d3⟩ := cz_expect (N := N) (c := 125) hT hp (by decide) (by omega) c3
  rw [d1, zbV_s]
  refine ⟨D, rfl, ((b3.mono cS5).trans c2).trans (d3.mono cS5), ?_⟩
  have e : o.bind (tbk Tx L S) = ((o.bind (tex Tx 123)).bind (tss Tx L S 120)).bind (tex Tx 125) := by cases o <;> rfl
  rw [e]
  exact CZ.mono d2 (by omega) (by omega) (by omega)
def cSt : Nat → Nat
  | 0 => 60
  | n + 1 => 2 * cSt n + 60
/-- a block as a statement finds it -/
def CBk (N : Nat) (Tx : Nat → Int) (L mn cl p : Nat) (rec : Nat → Int → zA → Option zA) (x : Int) (Kf : Ps → Option Ps) (c : Nat) : Prop := ∀ (A : zA) (o : Option Ps) (K b : Nat), K + c ≤ 50000 → CZ Tx L mn cl p K b A o → ∃ B, z_Pa_block rec N p x A = some B ∧ cF [5, p] A B ∧ CZ Tx L mn cl p (K + c) (b + 4) B (o.bind Kf)
theorem cz_choice {rec : Nat → Int → zA → Option zA} {x : Int} {Kf : Ps → Option Ps} {c : Nat} {s : Ps} (hN : 300000 ≤ N) (hT : TXT Tx L) (hp : pto.contains p = true) (hB : CBk N Tx L mb.toNat cl p rec (zw (x + 1)) Kf c) (hK : K + 2 * c + 23 ≤ 50000) (h : CZ Tx L mb.toNat cl p K (b + 2) A (some s)) : ∃ B, z_Pa_choice rec N p x A = some B ∧ cF [5, p] A B ∧ CZ Tx L mb.toNat cl p (K + 2 * c + 23) b B ((tx Tx mb s).bind fun w => (Kf (tad (8, w.1, 0, 0, 0) w.2)).bind fun s1 => (Kf (tad (9, 0, 0, 0, 0) s1)).bind fun s2 => some (tad (12, 0, 0, 0, 0) s2)) := by
  unfold z_Pa_choice
  obtain ⟨v, B, b1, b2, b3⟩ := cz_x (N := N) (mb := mb) (cl := cl) hN hT hp A (some s) K (b + 2) (by omega) h
  rw [b1, zbI_s]
  obtain ⟨C, c1, c2, c3⟩ := cz_addv (N := N) (b := b + 1) (x := 8) (z := 0) hT hp b3 (fun _ => by decide) (by decide)
  rw [c1, zbV_s]
  obtain ⟨D, d1, d2, d3⟩ := hB C _ _ _ (by omega) c2
  rw [d1, zbV_s]
  obtain ⟨E, e1, e2, e3⟩ := cz_add (N := N) (b := b + 4) (x := 9) (y := 0) (z := 0) hT hp d3 (fun _ => by decide) (by decide)
  rw [e1, zbV_s]
  obtain ⟨F, f1, f2, f3⟩ := hB E _ _ _ (by omega) e2
  rw [f1, zbV_s]
  obtain ⟨G, g1, g2, g3⟩ := cz_add (N := N) (b := b + 7) (x := 12) (y := 0) (z := 0) hT hp f3 (fun _ => by decide) (by decide)
  rw [g1, zbV_s]
  refine ⟨G, rfl, ((((b2.trans (c3.mono cSp)).trans d2).trans (e3.mono cSp)).trans f2).trans (g3.mono cSp), ?_⟩
  have e : ((tx Tx mb s).bind fun w => (Kf (tad (8, w.1, 0, 0, 0) w.2)).bind fun s1 => (Kf (tad (9, 0, 0, 0, 0) s1)).bind fun s2 => some (tad (12, 0, 0, 0, 0) s2)) = ((((((some s).bind (tx Tx mb)).map (fun w => tad (8, w.1, 0, 0, 0) w.2)).bind Kf).map (tad (9, 0, 0, 0, 0))).bind Kf).map (tad (12, 0, 0, 0, 0)) := by
    show (tx Tx mb s).bind _ = Option.map _ (Option.bind (Option.map _ (Option.bind (Option.map _ (tx Tx mb s)) _)) _)
    cases tx Tx mb s with
    | none => rfl
    | some w =>
      show (Kf (tad (8, w.1, 0, 0, 0) w.2)).bind _ = Option.map _ (Option.bind (Option.map _ (Kf (tad (8, w.1, 0, 0, 0) w.2))) _)
      cases Kf (tad (8, w.1, 0, 0, 0) w.2) with
      | none => rfl
      | some s1 =>
        show (Kf (tad (9, 0, 0, 0, 0) s1)).bind _ = Option.map _ (Kf (tad (9, 0, 0, 0, 0) s1))
        cases Kf (tad (9, 0, 0, 0, 0) s1) <;> rfl
  rw [e]
  exact CZ.mono g2 (by omega) (by omega) (by omega)
theorem cz_wloop {rec : Nat → Int → zA → Option zA} {x : Int} {Kf : Ps → Option Ps} {c : Nat} {s : Ps} (hN : 300000 ≤ N) (hT : TXT Tx L) (hp : pto.contains p = true) (hB : CBk N Tx L mb.toNat cl p rec (zw (x + 1)) Kf c) (hK : K + 2 * c + 23 ≤ 50000) (h : CZ Tx L mb.toNat cl p K (b + 2) A (some s)) : ∃ B, z_Pa_loop rec N p x A = some B ∧ cF [5, p] A B ∧ CZ Tx L mb.toNat cl p (K + 2 * c + 23) b B ((tx Tx mb (tad (10, 0, 0, 0, 0) s)).bind fun w => (Kf (tad (11, w.1, 0, 0, 0) w.2)).bind fun s1 => some (tad (12, 0, 0, 0, 0) s1)) := by
  unfold z_Pa_loop
  obtain ⟨A1, a1, a2, a3⟩ := cz_add (N := N) (b := b + 1) (x := 10) (y := 0) (z := 0) hT hp h (fun _ => by decide) (by decide)
  rw [a1, zbV_s]
  obtain ⟨v, B, b1, b2, b3⟩ := cz_x (N := N) (mb := mb) (cl := cl) hN hT hp A1 _ K (b + 1) (by omega) a2
  rw [b1, zbI_s]
  obtain ⟨C, c1, c2, c3⟩ := cz_addv (N := N) (b := b) (x := 11) (z := 0) hT hp b3 (fun _ => by decide) (by decide)
  rw [c1, zbV_s]
  obtain ⟨D, d1, d2, d3⟩ := hB C _ _ _ (by omega) c2
  rw [d1, zbV_s]
  obtain ⟨E, e1, e2, e3⟩ := cz_add (N := N) (b := b + 3) (x := 12) (y := 0) (z := 0) hT hp d3 (fun _ => by decide) (by decide)
  rw [e1, zbV_s]
  refine ⟨E, rfl, ((((a3.mono cSp).trans b2).trans (c3.mono cSp)).trans d2).trans (e3.mono cSp), ?_⟩
  have e : ((tx Tx mb (tad (10, 0, 0, 0, 0) s)).bind fun w => (Kf (tad (11, w.1, 0, 0, 0) w.2)).bind fun s1 => some (tad (12, 0, 0, 0, 0) s1)) = ((((((some s).map (tad (10, 0, 0, 0, 0))).bind (tx Tx mb)).map (fun w => tad (11, w.1, 0, 0, 0) w.2)).bind Kf).map (tad (12, 0, 0, 0, 0))) := by
    show (tx Tx mb (tad (10, 0, 0, 0, 0) s)).bind _ = Option.map _ (Option.bind (Option.map _ (tx Tx mb (tad (10, 0, 0, 0, 0) s))) _)
    cases tx Tx mb (tad (10, 0, 0, 0, 0) s) with
    | none => rfl
    | some w =>
      show (Kf (tad (11, w.1, 0, 0, 0) w.2)).bind _ = Option.map _ (Kf (tad (11, w.1, 0, 0, 0) w.2))
      cases Kf (tad (11, w.1, 0, 0, 0) w.2) <;> rfl
  rw [e]
  exact CZ.mono e2 (by omega) (by omega) (by omega)
theorem cz_store {s : Ps} (hN : 300000 ≤ N) (hT : TXT Tx L) (hp : pto.contains p = true) (hK : K + 60 ≤ 50000) (h : CZ Tx L mb.toNat cl p K (b + 2) A (some s)) : ∃ B, z_Pa_store N p A = some B ∧ cF [5, p] A B ∧ CZ Tx L mb.toNat cl p (K + 60) b B ((tex Tx 91 s).bind fun s1 => (tx Tx mb s1).bind fun w => (tex Tx 93 w.2).bind fun s2 => (tex Tx 61 s2).bind fun s3 => (tx Tx mb s3).bind fun u => (tex Tx 59 u.2).bind fun s4 => some (tad (4, w.1, u.1, 0, 0) s4)) := by
  unfold z_Pa_store
  obtain ⟨A1, a1, a2, a3⟩ := cz_expect (N := N) (c := 91) hT hp (by decide) (by omega) h
  rw [a1, zbV_s]
  obtain ⟨v, B, b1, b2, b3⟩ := cz_x (N := N) (mb := mb) (cl := cl) hN hT hp A1 _ _ _ (by omega) a2
  rw [b1, zbI_s]
  obtain ⟨C, c1, c2, c3⟩ := cz_expectv (N := N) (c := 93) hT hp (by decide) (by omega) b3
  rw [c1, zbV_s]
  obtain ⟨D, d1, d2, d3⟩ := cz_expectv (N := N) (c := 61) hT hp (by decide) (by omega) c2
  rw [d1, zbV_s]
  obtain ⟨u, E, e1, e2, e3⟩ := cz_x (N := N) (mb := mb) (cl := cl) hN hT hp D _ _ _ (by omega) d2.1
  rw [e1, zbI_s]
  obtain ⟨F, f1, f2, f3⟩ := cz_expectv (N := N) (c := 59) hT hp (by decide) (by omega) e3
  rw [f1, zbV_s]
  have fA : cF [5, p] A F := (((((a3.mono cS5).trans b2).trans (c3.mono cS5)).trans (d3.mono cS5)).trans e2).trans (f3.mono cS5)
  have e : ((tex Tx 91 s).bind fun s1 => (tx Tx mb s1).bind fun w => (tex Tx 93 w.2).bind fun s2 => (tex Tx 61 s2).bind fun s3 => (tx Tx mb s3).bind fun u => (tex Tx 59 u.2).bind fun s4 => some (tad (4, w.1, u.1, 0, 0) s4)) = ((((((some s).bind (tex Tx 91)).bind (tx Tx mb)).bind (tev Tx 93)).bind (tev Tx 61)).bind fun w => ((tx Tx mb w.2).bind (tev Tx 59)).map fun u => tad (4, w.1, u.1, 0, 0) u.2) := by
    show (tex Tx 91 s).bind _ = Option.bind (Option.bind (Option.bind (Option.bind (tex Tx 91 s) _) _) _) _
    cases tex Tx 91 s with
    | none => rfl
    | some s1 =>
      show (tx Tx mb s1).bind _ = Option.bind (Option.bind (Option.bind (tx Tx mb s1) _) _) _
      cases tx Tx mb s1 with
      | none => rfl
      | some w =>
        show (tex Tx 93 w.2).bind _ = Option.bind (Option.bind (Option.map _ (tex Tx 93 w.2)) _) _
        cases tex Tx 93 w.2 with
        | none => rfl
        | some s2 =>
          show (tex Tx 61 s2).bind _ = Option.bind (Option.map _ (tex Tx 61 s2)) _
          cases tex Tx 61 s2 with
          | none => rfl
          | some s3 =>
            show (tx Tx mb s3).bind _ = Option.map _ (Option.bind (tx Tx mb s3) _)
            cases tx Tx mb s3 with
            | none => rfl
            | some u =>
              show (tex Tx 59 u.2).bind _ = Option.map _ (Option.map _ (tex Tx 59 u.2))
              cases tex Tx 59 u.2 <;> rfl
  rw [e]
  revert d2 e3 f2
  cases (((((some s).bind (tex Tx 91)).bind (tx Tx mb)).bind (tev Tx 93)).bind (tev Tx 61)) with
  | none =>
    intro d2 e3 f2
    obtain ⟨G, g1, g2, g3⟩ := cz_add (N := N) (b := b + 5) (x := 4) (y := v) (z := u) hT hp (o := none) (by
      obtain ⟨a1, a2, a3, a4, a5, a6⟩ := f2.1
      exact ⟨a1, a2, a3, a4, a5, fun s' e' => by cases e'⟩) (fun e => absurd rfl e) (by decide)
    rw [g1, zbV_s]
    exact ⟨G, rfl, fA.trans (g3.mono cSp), CZ.mono g2 (by omega) (by omega) (by omega)⟩
  | some w =>
    intro d2 e3 f2
    obtain ⟨w1, w2, w3⟩ := d2.2 w rfl
    obtain ⟨G, g1, g2, g3⟩ := cz_addw (N := N) (b := b) (x := 4) (y := v) (v := u) hT hp (CZv.mono f2 (Nat.le_refl _) (by omega) (by omega)) (fun _ => ⟨by decide, by rw [w1]; exact w300 w2 (by omega)⟩) (by decide)
    rw [g1, zbV_s]
    refine ⟨G, rfl, fA.trans (g3.mono cSp), ?_⟩
    rw [w1] at g2
    exact CZ.mono g2 (by omega) (by omega) (by omega)
theorem cz_call {s : Ps} {q : Int} (hN : 300000 ≤ N) (hT : TXT Tx L) (hp : pto.contains p = true) (hK : K + 60 ≤ 50000) (hq : 0 ≤ q ∧ q ≤ 2) (h : CZ Tx L mb.toNat cl p K (b + 2) A (some s)) : ∃ B, z_Pa_call N p q A = some B ∧ cF [5, p] A B ∧ CZ Tx L mb.toNat cl p (K + 60) b B (if q < cl then (tex Tx 40 s).bind fun s1 => (tx Tx mb s1).bind fun w => (tex Tx 41 w.2).bind fun s2 => (tex Tx 59 s2).bind fun s3 => some (tad (7, w.1, q, 0, 0) s3) else none) := by
  have main : ∀ (A1 : zA) (o : Option Ps), CZ Tx L mb.toNat cl p K (b + 2) A1 o → ∃ B, z_Pa_call_13 N p q A1 = some B ∧ cF [5, p] A1 B ∧ CZ Tx L mb.toNat cl p (K + 60) b B (o.bind fun s => (tex Tx 40 s).bind fun s1 => (tx Tx mb s1).bind fun w => (tex Tx 41 w.2).bind fun s2 => (tex Tx 59 s2).bind fun s3 => some (tad (7, w.1, q, 0, 0) s3)) := fun A1 o h => by
    unfold z_Pa_call_13
    obtain ⟨A2, a1, a2, a3⟩ := cz_expect (N := N) (c := 40) hT hp (by decide) (by omega) h
    rw [a1, zbV_s]
    obtain ⟨v, B, b1, b2, b3⟩ := cz_x (N := N) (mb := mb) (cl := cl) hN hT hp A2 _ _ _ (by omega) a2
    rw [b1, zbI_s]
    obtain ⟨C, c1, c2, c3⟩ := cz_expectv (N := N) (c := 41) hT hp (by decide) (by omega) b3
    rw [c1, zbV_s]
    obtain ⟨D, d1, d2, d3⟩ := cz_expectv (N := N) (c := 59) hT hp (by decide) (by omega) c2
    rw [d1, zbV_s]
    obtain ⟨G, g1, g2, g3⟩ := cz_addv (N := N) (b := b) (x := 7) (z := q) hT hp (CZv.mono d2 (Nat.le_refl _) (by omega) (by omega)) (fun _ => ⟨by decide, w300 hq.1 (by omega)⟩) (by decide)
    rw [g1, zbV_s]
    refine ⟨G, rfl, ((((a3.mono cS5).trans b2).trans (c3.mono cS5)).trans (d3.mono cS5)).trans (g3.mono cSp), ?_⟩
    have e : (o.bind fun s => (tex Tx 40 s).bind fun s1 => (tx Tx mb s1).bind fun w => (tex Tx 41 w.2).bind fun s2 => (tex Tx 59 s2).bind fun s3 => some (tad (7, w.1, q, 0, 0) s3)) = ((((o.bind (tex Tx 40)).bind (tx Tx mb)).bind (tev Tx 41)).bind (tev Tx 59)).map fun w => tad (7, w.1, q, 0, 0) w.2 := by
      cases o with
      | none => rfl
      | some s =>
        show (tex Tx 40 s).bind _ = Option.map _ (Option.bind (Option.bind (Option.bind (tex Tx 40 s) _) _) _)
        cases tex Tx 40 s with
        | none => rfl
        | some s1 =>
          show (tx Tx mb s1).bind _ = Option.map _ (Option.bind (Option.bind (tx Tx mb s1) _) _)
          cases tx Tx mb s1 with
          | none => rfl
          | some w =>
            show (tex Tx 41 w.2).bind _ = Option.map _ (Option.bind (Option.map _ (tex Tx 41 w.2)) _)
            cases tex Tx 41 w.2 with
            | none => rfl
            | some s2 =>
              show (tex Tx 59 s2).bind _ = Option.map _ (Option.map _ (tex Tx 59 s2))
              cases tex Tx 59 s2 <;> rfl
    rw [e]
    exact CZ.mono g2 (by omega) (by omega) (by omega)
  unfold z_Pa_call
  have h5 := h.2.2.1.2.2.2
  rw [h5]
  split
  · exact main A (some s) h
  · rw [zlet_s]
    obtain ⟨z, f⟩ := cz_fail hp h
    obtain ⟨B, b1, b2, b3⟩ := main _ none z
    exact ⟨B, b1, (f.mono cS5).trans b2, b3⟩
theorem cz_assign {s : Ps} {c : Int} (hN : 300000 ≤ N) (hT : TXT Tx L) (hp : pto.contains p = true) (hK : K + 60 ≤ 50000) (h : CZ Tx L mb.toNat cl p K (b + 2) A (some s)) : ∃ B, z_Pa_assignment N p c A = some B ∧ cF [5, p] A B ∧ CZ Tx L mb.toNat cl p (K + 60) b B (if 97 ≤ c ∧ c ≤ 102 then (tex Tx 61 s).bind fun s1 => (tx Tx mb s1).bind fun w => tex Tx 59 (tad (1, c - 97, w.1, 0, 0) w.2) else none) := by
  have main : ∀ (A1 : zA) (o : Option Ps), (o ≠ none → 97 ≤ c ∧ c ≤ 102) → CZ Tx L mb.toNat cl p K (b + 2) A1 o → ∃ B, z_Pa_assignment_12 N p c A1 = some B ∧ cF [5, p] A1 B ∧ CZ Tx L mb.toNat cl p (K + 60) b B (o.bind fun s => (tex Tx 61 s).bind fun s1 => (tx Tx mb s1).bind fun w => tex Tx 59 (tad (1, c - 97, w.1, 0, 0) w.2)) := fun A1 o hc h => by
    unfold z_Pa_assignment_12
    obtain ⟨A2, a1, a2, a3⟩ := cz_expect (N := N) (c := 61) hT hp (by decide) (by omega) h
    rw [a1, zbV_s]
    obtain ⟨v, B, b1, b2, b3⟩ := cz_x (N := N) (mb := mb) (cl := cl) hN hT hp A2 _ _ _ (by omega) a2
    rw [b1, zbI_s]
    have hw : (o.bind (tex Tx 61)).bind (tx Tx mb) ≠ none → zw 1 = 1 ∧ zw (zw (c - 97)) = zw (c - 97) := fun _ => ⟨by decide, by have := yb_wrg (c - 97); exact yb_w this.1 this.2⟩
    obtain ⟨G, g1, g2, g3⟩ := cz_addw (N := N) (b := b) (x := 1) (y := zw (c - 97)) hT hp (CZv.mono b3 (Nat.le_refl _) (by omega) (by omega)) hw (by decide)
    rw [g1, zbV_s]
    obtain ⟨C, c1, c2, c3⟩ := cz_expect (N := N) (c := 59) hT hp (by decide) (by omega) g2
    rw [c1, zbV_s]
    refine ⟨C, rfl, (((a3.mono cS5).trans b2).trans (g3.mono cSp)).trans (c3.mono cS5), ?_⟩
    have e : (o.bind fun s => (tex Tx 61 s).bind fun s1 => (tx Tx mb s1).bind fun w => tex Tx 59 (tad (1, c - 97, w.1, 0, 0) w.2)) = ((((o.bind (tex Tx 61)).bind (tx Tx mb)).map fun w => tad (1, zw (c - 97), w.1, 0, 0) w.2).bind (tex Tx 59)) := by
      cases o with
      | none => rfl
      | some s =>
        have hc := hc (by intro e; cases e)
        rw [yb_w (by omega) (by omega)]
        show (tex Tx 61 s).bind _ = Option.bind (Option.map _ (Option.bind (tex Tx 61 s) _)) _
        cases tex Tx 61 s with
        | none => rfl
        | some s1 =>
          show (tx Tx mb s1).bind _ = Option.bind (Option.map _ (tx Tx mb s1)) _
          cases tx Tx mb s1 <;> rfl
    rw [e]
    exact CZ.mono c2 (by omega) (by omega) (by omega)
  unfold z_Pa_assignment z_Pa_isVariable
  by_cases cc : 97 ≤ c ∧ c ≤ 102
  · rw [if_neg (by omega), if_neg (by omega), zbP_s, if_neg (by decide), if_pos cc]
    exact main A (some s) (fun _ => cc) h
  · rw [if_neg cc]
    have e : (if c < 97 then some (0 : Int) else if 102 < c then some 0 else some 1) = some 0 := by
      split
      · rfl
      · rw [if_pos (by omega)]
    rw [e, zbP_s, if_pos rfl, zlet_s]
    obtain ⟨z, f⟩ := cz_fail hp h
    obtain ⟨B, b1, b2, b3⟩ := main _ none (fun e => absurd rfl e) z
    exact ⟨B, b1, (f.mono cS5).trans b2, b3⟩
end
