/-! the class's parser: its state is the text's meaning so far, or it has failed -/
def CZ (Tx : Nat → Int) (L mn cl p K b : Nat) (A : zA) (o : Option Ps) : Prop :=
  Own A ∧ PI A p ∧ (zi A 5 1 = L ∧ (∀ k : Nat, k < L → ri A 6 k = Tx k) ∧ zi A 5 4 = mn ∧ zi A 5 5 = cl) ∧ (120 ≤ K ∧ K ≤ 100000 ∧ 0 ≤ zi A 5 2 ∧ zi A 5 2 ≤ K) ∧
  (o = none → zi A 5 3 = 1) ∧ (∀ s, o = some s → zi A 5 3 = 0 ∧ zi A 5 2 = s.1 ∧ s.1 ≤ L ∧ CP A p s.2.1 s.2.2 ∧ s.2.1.length + b ≤ 2 * s.1 ∧ s.2.2 ≤ 7 + s.2.1.length)
def CZv (Tx : Nat → Int) (L mn cl p K b : Nat) (A : zA) (v : Int) (o : Option (Int × Ps)) : Prop := CZ Tx L mn cl p K b A (o.map Prod.snd) ∧ ∀ w, o = some w → v = w.1 ∧ 0 ≤ w.1 ∧ w.1 ≤ 300
theorem Pt_add' {N : Nat} {A : zA} {o : Nat} {x y z : Int} (h : Own A) (ho : pto.contains o = true) (hp : PI A o) : ∃ B, z_Pt_add N o x y z A = some B ∧ cF [o] A B ∧ PI B o ∧ 0 < cn B o := by
  by_cases c : cn A o < 240
  · obtain ⟨B, b1, b2, b3, b4, -⟩ := Pt_add (N := N) (x := x) (y := y) (z := z) h ho hp c
    have := hp.1
    exact ⟨B, b1, b2, b3, by omega⟩
  · unfold z_Pt_add
    unfold cn at c
    rw [if_neg c]
    exact ⟨A, rfl, cF.refl _ h, hp, by unfold cn; omega⟩
section
variable {N : Nat} {Tx : Nat → Int} {L mn cl p K b : Nat} {A B : zA} {o : Option Ps}
theorem CZ.mono {K' b' : Nat} (h : CZ Tx L mn cl p K b A o) (hK : K ≤ K') (hK2 : K' ≤ 100000) (hb : b' ≤ b) : CZ Tx L mn cl p K' b' A o := by
  obtain ⟨h1, h2, h3, h4, h5, h6⟩ := h
  refine ⟨h1, h2, h3, by omega, h5, fun s hs => ?_⟩
  obtain ⟨q1, q2, q3, q4, q5, q6⟩ := h6 s hs
  exact ⟨q1, q2, q3, q4, by omega, q6⟩
theorem cz_peek (hT : TXT Tx L) (h : CZ Tx L mn cl p K b A o) : ∃ v, z_Pa_peek N A = some v ∧ 0 ≤ v ∧ v ≤ 65535 ∧ ∀ s, o = some s → v = Tx s.1 := by
  obtain ⟨h1, h2, ⟨h31, h32, h33, h34⟩, ⟨h41, h4K, h42, h43⟩, h5, h6⟩ := h
  have t1 := hT.1
  unfold z_Pa_peek
  by_cases c : zi A 5 2 < zi A 5 1
  · rw [if_pos c, zrd_ok h42 (by omega)]
    have e := h32 (zi A 5 2).toNat (by omega)
    rw [show (((zi A 5 2).toNat : Nat) : Int) = zi A 5 2 by omega] at e
    rw [e]
    have := hT.2.1 (zi A 5 2).toNat
    rw [if_pos this]
    refine ⟨_, rfl, this.1, this.2, fun s hs => ?_⟩
    have := (h6 s hs).2.1
    rw [show (zi A 5 2).toNat = s.1 by omega]
  · rw [if_neg c]
    refine ⟨0, rfl, by decide, by decide, fun s hs => ?_⟩
    obtain ⟨q1, q2, q3, -⟩ := h6 s hs
    rw [hT.2.2 s.1 (by omega)]
/-- only the parser's own cell changes -/
theorem cz_own {o' : Option Ps} {K' b' : Nat} (hp : pto.contains p = true) (h : CZ Tx L mn cl p K b A o) (f : cF [5] A B) (h1 : zi B 5 1 = zi A 5 1) (h4 : zi B 5 4 = zi A 5 4) (h5 : zi B 5 5 = zi A 5 5) (hK : 120 ≤ K' ∧ K' ≤ 100000 ∧ 0 ≤ zi B 5 2 ∧ zi B 5 2 ≤ K') (hn : o' = none → zi B 5 3 = 1) (hs : ∀ s', o' = some s' → ∃ s, o = some s ∧ s'.2 = s.2 ∧ zi B 5 3 = 0 ∧ zi B 5 2 = s'.1 ∧ s'.1 ≤ L ∧ s.2.1.length + b' ≤ 2 * s'.1) : CZ Tx L mn cl p K' b' B o' := by
  obtain ⟨g1, g2, ⟨g31, g32, g33, g34⟩, g4, g5, g6⟩ := h
  have h5p : ([5] : List Nat).contains p = false := by
    have : ∀ q ∈ pto, ([5] : List Nat).contains q = false := by decide
    exact this p (List.contains_iff_mem.mp hp)
  refine ⟨f.own, g2.fr hp f h5p, ⟨by rw [h1]; exact g31, fun k hk => by rw [f.e (by decide) (by decide)]; exact g32 k hk, by rw [h4]; exact g33, by rw [h5]; exact g34⟩, hK, hn, fun s' e => ?_⟩
  obtain ⟨s, s1, s2, s3, s4, s5, s6⟩ := hs s' e
  obtain ⟨q1, q2, q3, q4, q5, q6⟩ := g6 s s1
  rw [s2]
  exact ⟨s3, s4, s5, q4.fr hp f h5p, s6, q6⟩
theorem cz_fail (hp : pto.contains p = true) (h : CZ Tx L mn cl p K b A o) : CZ Tx L mn cl p K b (zsi A 5 3 1) none ∧ cF [5] A (zsi A 5 3 1) := by
  have f : cF [5] A (zsi A 5 3 1) := cF_si h.1 (by decide) (by decide) (by decide)
  have h4 := h.2.2.2.1
  refine ⟨cz_own hp h f (zi_si_j (by decide)) (zi_si_j (by decide)) (zi_si_j (by decide)) (by rw [zi_si_j (by decide)]; exact h4) (fun _ => by rw [zi_si_s]; decide) (fun s' e => by cases e), f⟩
theorem cz_step {s : Ps} (hp : pto.contains p = true) (h : CZ Tx L mn cl p K b A (some s)) (hl : s.1 < L) (hL : L ≤ 120) : CZ Tx L mn cl p K (b + 2) (zsi A 5 2 (zi A 5 2 + 1)) (some (tav s)) ∧ cF [5] A (zsi A 5 2 (zi A 5 2 + 1)) := by
  have f : cF [5] A (zsi A 5 2 (zi A 5 2 + 1)) := cF_si h.1 (by decide) (by decide) (by decide)
  have h4 := h.2.2.2.1
  obtain ⟨q1, q2, q3, q4, q5, q6⟩ := h.2.2.2.2.2 s rfl
  have e : zi (zsi A 5 2 (zi A 5 2 + 1)) 5 2 = (s.1 : Int) + 1 := by rw [zi_si_s, q2, yb_w (by omega) (by omega)]
  refine ⟨cz_own hp h f (zi_si_j (by decide)) (zi_si_j (by decide)) (zi_si_j (by decide)) (by rw [e]; omega) (fun e => by cases e) (fun s' e' => ?_), f⟩
  cases e'
  refine ⟨s, rfl, rfl, by rw [zi_si_j (by decide)]; exact q1, by rw [e]; unfold tav; simp only; omega, ?_, ?_⟩
  · show s.1 + 1 ≤ L
    omega
  · show s.2.1.length + (b + 2) ≤ 2 * (s.1 + 1)
    omega
theorem cz_stepN (hp : pto.contains p = true) (h : CZ Tx L mn cl p K b A none) (hK : K < 100000) : CZ Tx L mn cl p (K + 1) b (zsi A 5 2 (zi A 5 2 + 1)) none ∧ cF [5] A (zsi A 5 2 (zi A 5 2 + 1)) := by
  have f : cF [5] A (zsi A 5 2 (zi A 5 2 + 1)) := cF_si h.1 (by decide) (by decide) (by decide)
  have h4 := h.2.2.2.1
  have e : zi (zsi A 5 2 (zi A 5 2 + 1)) 5 2 = zi A 5 2 + 1 := by rw [zi_si_s, yb_w (by omega) (by omega)]
  refine ⟨cz_own hp h f (zi_si_j (by decide)) (zi_si_j (by decide)) (zi_si_j (by decide)) (by rw [e]; omega) (fun _ => by rw [zi_si_j (by decide)]; exact h.2.2.2.2.1 rfl) (fun s' e' => by cases e'), f⟩
/-- a letter that must stand there -/
theorem cz_expect {c : Int} (hT : TXT Tx L) (hp : pto.contains p = true) (hc : c ≠ 0) (hK : K < 100000) (h : CZ Tx L mn cl p K b A o) : ∃ B, z_Pa_expect N c A = some B ∧ CZ Tx L mn cl p (K + 1) (b + 2) B (o.bind (tex Tx c)) ∧ cF [5] A B := by
  obtain ⟨v, v1, v2, v3, v4⟩ := cz_peek (N := N) hT h
  unfold z_Pa_expect
  rw [v1, zbP_s]
  by_cases e : v = c
  · rw [if_pos e, zlet_s]
    cases o with
    | none =>
      obtain ⟨q, f⟩ := cz_stepN hp h hK
      refine ⟨_, rfl, ?_, f⟩
      obtain ⟨a1, a2, a3, a4, a5, a6⟩ := q
      exact ⟨a1, a2, a3, a4, a5, fun s' e' => by cases e'⟩
    | some s =>
      have ev := v4 s rfl
      obtain ⟨q, f⟩ := cz_step hp h (hT.lt (k := s.1) (by rw [← ev, e]; exact hc)) hT.1
      refine ⟨_, rfl, ?_, f⟩
      have : (some s).bind (tex Tx c) = some (tav s) := by
        show tex Tx c s = _
        unfold tex
        rw [if_pos (by rw [← ev]; exact e)]
      rw [this]
      exact q.mono (by omega) (by omega) (Nat.le_refl _)
  · rw [if_neg e, zlet_s]
    obtain ⟨q, f⟩ := cz_fail hp h
    refine ⟨_, rfl, ?_, f⟩
    have : o.bind (tex Tx c) = none := by
      cases o with
      | none => rfl
      | some s =>
        show tex Tx c s = _
        unfold tex
        rw [if_neg (by rw [← v4 s rfl]; exact e)]
    rw [this]
    obtain ⟨a1, a2, a3, a4, a5, a6⟩ := q
    exact ⟨a1, a2, a3, by omega, a5, fun s' e' => by cases e'⟩
/-- only the part changes -/
theorem cz_part {o' : Option Ps} {b' : Nat} (h : CZ Tx L mn cl p K b A o) (hp : pto.contains p = true) (f : cF [p] A B) (hI : PI B p) (hn : o' = none → o = none) (hs : ∀ s', o' = some s' → ∃ s, o = some s ∧ s'.1 = s.1 ∧ CP B p s'.2.1 s'.2.2 ∧ s'.2.1.length + b' ≤ 2 * s'.1 ∧ s'.2.2 ≤ 7 + s'.2.1.length) : CZ Tx L mn cl p K b' B o' := by
  obtain ⟨g1, g2, ⟨g31, g32, g33, g34⟩, g4, g5, g6⟩ := h
  have p5 : ([p] : List Nat).contains 5 = false ∧ ([p] : List Nat).contains 6 = false := by
    have : ∀ q ∈ pto, ([q] : List Nat).contains 5 = false ∧ ([q] : List Nat).contains 6 = false := by decide
    exact this p (List.contains_iff_mem.mp hp)
  have e : ∀ j, zi B 5 j = zi A 5 j := fun j => f.i (by decide) p5.1
  refine ⟨f.own, hI, ⟨by rw [e]; exact g31, fun k hk => by rw [f.e (by decide) p5.2]; exact g32 k hk, by rw [e]; exact g33, by rw [e]; exact g34⟩, by rw [e]; exact g4, fun z => by rw [e]; exact g5 (hn z), fun s' z => ?_⟩
  obtain ⟨s, s1, s2, s3, s4, s5⟩ := hs s' z
  obtain ⟨q1, q2, q3, q4, q5, q6⟩ := g6 s s1
  rw [e, e, s2]
  rw [s2] at s4
  exact ⟨q1, q2, q3, s3, s4, s5⟩
theorem cz_add {x y z : Int} (hT : TXT Tx L) (hp : pto.contains p = true) (h : CZ Tx L mn cl p K (b + 1) A o) (hw : o ≠ none → zw x = x ∧ zw y = y ∧ zw z = z) (hn : nbk x ≤ 2) : ∃ B, z_Pt_add N p x y z A = some B ∧ CZ Tx L mn cl p K b B (o.map (tad (x, y, z, 0, 0))) ∧ cF [p] A B := by
  cases o with
  | none =>
    obtain ⟨B, b1, b2, b3, -⟩ := Pt_add' (N := N) (x := x) (y := y) (z := z) h.1 hp h.2.1
    exact ⟨B, b1, cz_part h hp b2 b3 (fun _ => rfl) (fun s' e => by cases e), b2⟩
  | some s =>
    obtain ⟨q1, q2, q3, q4, q5, q6⟩ := h.2.2.2.2.2 s rfl
    have := hT.1
    obtain ⟨w1, w2, w3⟩ := hw (by intro e; cases e)
    obtain ⟨B, b1, b2, b3⟩ := CP_add (N := N) h.1 hp q4 (by omega) w1 w2 w3 hn
    refine ⟨B, b1, cz_part h hp b3 b2.1 (fun e => by cases e) (fun s' e => ?_), b3⟩
    cases e
    refine ⟨s, rfl, rfl, b2, ?_, ?_⟩
    · show (s.2.1 ++ [(x, y, z, 0, 0)]).length + b ≤ 2 * s.1
      rw [List.length_append]
      simp only [List.length_cons, List.length_nil]
      omega
    · show s.2.2 ≤ 7 + (s.2.1 ++ [(x, y, z, 0, 0)]).length
      rw [List.length_append]
      omega
end
