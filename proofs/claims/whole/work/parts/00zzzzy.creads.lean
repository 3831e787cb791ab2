/-! the class reads a whole text -/
section
variable {N : Nat} {Tx : Nat → Int} {L R : Nat} {A B : zA}
def rpL4 (R : Nat) : List Nat := [R + 2, R + 5, R + 8, R + 11]
theorem rpL4_1 {p : Nat} (hp : p < 4) : ∀ a, ([R + 2 + 3 * p] : List Nat).contains a = true → (rpL4 R).contains a = true := fun a ha => by
  simp only [List.contains_iff_mem, List.mem_cons, List.not_mem_nil, or_false] at ha
  simp only [rpL4, List.contains_iff_mem, List.mem_cons, List.not_mem_nil, or_false]
  omega
theorem rpL4_w : ∀ a, (rpL4 R).contains a = true → (rwl R).contains a = true := fun a ha => by
  simp only [rpL4, List.contains_iff_mem, List.mem_cons, List.not_mem_nil, or_false] at ha
  exact rwl_mem.mpr (by omega)
theorem rpL4_n : (rpL4 R).contains R = false := by
  simp only [rpL4, List.contains_eq_mem, List.mem_cons, List.not_mem_nil, or_false, decide_eq_false_iff_not]
  omega
theorem c_links (hN : 300000 ≤ N) (hR : okR R) {X : Nat → List It} {g : Nat → Nat} (hb : ∀ q, q < 4 → ∃ nd n, bal nd n (X q)) : ∀ (r p f : Nat) (A : zA), p + r = 4 → r < f → Own A → (∀ q, q < 4 → CP A (R + 2 + 3 * q) (X q) (g q)) → (∀ q, q < p → CM A (R + 2 + 3 * q) (X q)) → ∃ B, z_Pa_reads_119_l N f R p A = some (1, B) ∧ cF (rpL4 R) A B ∧ ∀ q, q < 4 → CP B (R + 2 + 3 * q) (X q) (g q) ∧ CM B (R + 2 + 3 * q) (X q)
  | 0, p, f + 1, A, h1, h2, hO, hc, hm => by
    unfold z_Pa_reads_119_l z_Pa_reads_119_b
    rw [if_neg (by omega)]
    exact ⟨A, rfl, cF.refl _ hO, fun q hq => ⟨hc q hq, hm q (by omega)⟩⟩
  | r + 1, p, f + 1, A, h1, h2, hO, hc, hm => by
    obtain ⟨r1, r2, r3, r4, r5, r6⟩ := rws_fr hR (show p < 4 by omega)
    obtain ⟨nd, n, hbp⟩ := hb p (by omega)
    obtain ⟨B, b1, b2, b3, mt, b4, b5⟩ := CP_link hN hO r6 (hc p (by omega)) hbp
    unfold z_Pa_reads_119_l z_Pa_reads_119_b
    rw [if_pos (by omega), zgf_s r1, zfe_p hR (by omega), zcs_s r5, b1, zbV_s, show zw ((p : Int) + 1) = ((p + 1 : Nat) : Int) by rw [yb_w (by omega) (by omega)]; omega]
    have oth : ∀ q, q < 4 → q ≠ p → pto.contains (R + 2 + 3 * q) = true ∧ ([R + 2 + 3 * p] : List Nat).contains (R + 2 + 3 * q) = false := fun q hq hqp => ⟨(rws_fr hR hq).2.2.2.2.2, cont2 (by omega)⟩
    have hcB : ∀ q, q < 4 → CP B (R + 2 + 3 * q) (X q) (g q) := fun q hq => by
      by_cases e : q = p
      · rw [e]; exact b2
      · exact (hc q hq).fr (oth q hq e).1 b3 (oth q hq e).2
    have hmB : ∀ q, q < p + 1 → CM B (R + 2 + 3 * q) (X q) := fun q hq => by
      by_cases e : q = p
      · rw [e]
        intro k hk k8
        rw [b5 k hk k8, mtL_eq b4 k hk k8]
      · exact (hm q (by omega)).fr (oth q (by omega) e).1 b3 (oth q (by omega) e).2
    obtain ⟨C, c1, c2, c3⟩ := c_links hN hR hb r (p + 1) f B (by omega) (by omega) b3.own hcB hmB
    exact ⟨C, c1, (b3.mono (rpL4_1 (by omega))).trans c2, c3⟩
/-- what holds before a procedure or main is read -/
def CQr (Tx : Nat → Int) (L R : Nat) (A : zA) (Q : Pr) (a : Nat) : Prop := Own A ∧ (zi A 5 1 = L ∧ (∀ k : Nat, k < L → ri A 6 k = Tx k)) ∧ zi A 5 4 = 0 ∧ zi A 5 3 = 0 ∧ zi A 5 2 = a ∧ a ≤ L ∧ zi A R 1 = Q.1 ∧ ∀ p, p < 4 → CP A (R + 2 + 3 * p) (Q.2.1 p) (Q.2.2 p)
/-- what it comes to -/
def CRd (R : Nat) (A : zA) (v : Int) (B : zA) (o : Option Pr) : Prop := cF (5 :: rwl R) A B ∧ CPI B R ∧ (o = none → v = 0) ∧ ∀ Q, o = some Q → v = 1 ∧ zi B R 1 = Q.1 ∧ ∀ p, p < 4 → CP B (R + 2 + 3 * p) (Q.2.1 p) (Q.2.2 p) ∧ CM B (R + 2 + 3 * p) (Q.2.1 p)
theorem s5R {a : Nat} (h : ([5] : List Nat).contains a = true) : (5 :: rwl R).contains a = true := by
  simp only [List.contains_iff_mem, List.mem_cons, List.not_mem_nil, or_false] at h ⊢
  exact Or.inl h
theorem sRR {a : Nat} (h : (rwl R).contains a = true) : (5 :: rwl R).contains a = true := by
  simp only [List.contains_iff_mem, List.mem_cons] at h ⊢
  exact Or.inr h
theorem s5p {p : Nat} (hp : p < 4) : ∀ a, ([5, R + 2 + 3 * p] : List Nat).contains a = true → (5 :: rwl R).contains a = true := fun a h => by
  simp only [List.contains_iff_mem, List.mem_cons, List.not_mem_nil, or_false] at h
  rcases h with h | h
  · rw [h]; exact s5R (by decide)
  · exact sRR (rwl_mem.mpr (by omega))
theorem okR_5 (hR : okR R) : ([5] : List Nat).contains R = false ∧ (∀ p, p < 4 → ([5] : List Nat).contains (R + 2 + 3 * p) = false ∧ ([5, R + 2 + 3 * p] : List Nat).contains R = false) := by
  unfold okR at hR
  refine ⟨cont2 (by omega), fun p hp => ⟨cont2 (by omega), ?_⟩⟩
  simp only [List.contains_eq_mem, List.mem_cons, List.not_mem_nil, or_false, decide_eq_false_iff_not]
  omega
theorem c_73fail (hN : 300000 ≤ N) (hR : okR R) (hO : Own A) (hI : CPI A R) (h3 : zi A 5 3 = 1) : ∃ B, z_Pa_reads_73 N R A = some (0, B) ∧ cF (5 :: rwl R) A B ∧ CPI B R := by
  obtain ⟨r1, r2, r3, r4, r5, r6⟩ := rws_fr hR (show 3 < 4 by decide)
  unfold z_Pa_reads_73 z_Pa_statements z_Pa_statements_2
  rw [zlet_s, zlet_s, zgf_s r1, show (3 : Int) = ((3 : Nat) : Int) by rfl, zfe_p hR (by omega), zcs_s r5]
  have f1 : cF [5] A (zsi A 5 4 1) := cF_si hO (by decide) (by decide) (by decide)
  have f2 : cF [5] (zsi A 5 4 1) (zsi (zsi A 5 4 1) 5 5 (zi (zsi A 5 4 1) R 1)) := cF_si f1.own (by decide) (by decide) (by decide)
  have e3 : zi (zsi (zsi A 5 4 1) 5 5 (zi (zsi A 5 4 1) R 1)) 5 3 = 1 := by rw [zi_si_j (by decide), zi_si_j (by decide)]; exact h3
  rw [cz_sts_stop (by omega) e3, zbV_s, if_neg (by omega)]
  refine ⟨_, rfl, (f1.trans f2).mono (fun a h => s5R h), hI.fr hR (f1.trans f2) (fun a a1 a2 => cont2 (by unfold okR at hR; omega))⟩
theorem c_21fail {k : Int} (hN : 300000 ≤ N) (hR : okR R) (hO : Own A) (hI : CPI A R) (h3 : zi A 5 3 = 1) : ∀ {M : Nat}, 0 < M → ∃ B, z_Pa_reads_21_l N M R k A = some (0, B) ∧ cF (5 :: rwl R) A B ∧ CPI B R
  | M + 1, _ => by
    unfold z_Pa_reads_21_l z_Pa_reads_21_b
    split
    · have e : z_Pa_beginsProcedure N k A = some 0 := by
        unfold z_Pa_beginsProcedure
        rw [if_neg (by omega)]
      rw [e, zbP_s, if_pos rfl]
      exact c_73fail hN hR hO hI h3
    · exact c_73fail hN hR hO hI h3
/-- the state of the parser for part p -/
theorem CQr.z {p mn cl : Nat} {Q : Pr} {a a' : Nat} (hT : TXT Tx L) (hR : okR R) (h : CQr Tx L R A Q a) (hp : p < 4) (hX : Q.2.1 p = []) (hg : Q.2.2 p = 7) (f : cF [5] A B) (h1 : zi B 5 1 = zi A 5 1) (h2 : zi B 5 2 = a') (ha : a' ≤ L) (h3 : zi B 5 3 = 0) (h4 : zi B 5 4 = mn) (h5 : zi B 5 5 = cl) : CZ Tx L mn cl (R + 2 + 3 * p) 120 0 B (some (a', [], 7)) := by
  obtain ⟨c1, ⟨c2, c3⟩, c4, c5, c6, c7, c8, c9⟩ := h
  have hpt := (rws_fr hR hp).2.2.2.2.2
  have hcp : CP B (R + 2 + 3 * p) [] 7 := by
    have := (c9 p hp).fr hpt f ((okR_5 hR).2 p hp).1
    rw [hX, hg] at this
    exact this
  have hL := hT.1
  refine ⟨f.own, hcp.1, ⟨by rw [h1]; exact c2, fun k hk => by rw [f.e (by decide) (by decide)]; exact c3 k hk, h4, h5⟩, by omega, fun z => (by cases z), fun s z => ?_⟩
  cases z
  exact ⟨h3, h2, ha, hcp, by show 0 + 0 ≤ 2 * a'; omega, by show 7 ≤ 7 + 0; omega⟩
theorem CPI_of {X : Nat → List It} {g : Nat → Nat} (h : ∀ p, p < 4 → CP A (R + 2 + 3 * p) (X p) (g p)) : CPI A R := fun p hp => (h p hp).1
theorem c_rdmain {Q : Pr} {a : Nat} (hN : 300000 ≤ N) (hT : TXT Tx L) (hR : okR R) (hQ3 : Q.1 ≤ 3) (hw : WQ0 Q) (hX : Q.2.1 3 = []) (hg : Q.2.2 3 = 7) (h : CQr Tx L R A Q a) : ∃ v B, z_Pa_reads_73 N R A = some (v, B) ∧ CRd R A v B (tmn Tx L a Q) := by
  obtain ⟨r1, r2, r3, r4, r5, r6⟩ := rws_fr hR (show 3 < 4 by decide)
  obtain ⟨c1, ⟨c2, c3⟩, c4, c5, c6, c7, c8, c9⟩ := id h
  have f1 : cF [5] A (zsi A 5 4 1) := cF_si c1 (by decide) (by decide) (by decide)
  have f2 : cF [5] (zsi A 5 4 1) (zsi (zsi A 5 4 1) 5 5 (zi (zsi A 5 4 1) R 1)) := cF_si f1.own (by decide) (by decide) (by decide)
  have e8 : zi (zsi A 5 4 1) R 1 = Q.1 := by rw [f1.i hR.fx.1 (okR_5 hR).1]; exact c8
  have hz : CZ Tx L true.toNat Q.1 (R + 2 + 3 * 3) 120 0 (zsi (zsi A 5 4 1) 5 5 (zi (zsi A 5 4 1) R 1)) (some (a, [], 7)) := h.z hT hR (by decide) hX hg (f1.trans f2) (by rw [zi_si_j (by decide), zi_si_j (by decide)]) (by rw [zi_si_j (by decide), zi_si_j (by decide)]; exact c6) c7 (by rw [zi_si_j (by decide), zi_si_j (by decide)]; exact c5) (by rw [zi_si_j (by decide), zi_si_s]; decide) (by rw [zi_si_s, e8, yb_w (by omega) (by omega)])
  unfold z_Pa_reads_73
  rw [zlet_s, zlet_s, zgf_s r1, show (3 : Int) = ((3 : Nat) : Int) by rfl, zfe_p hR (by omega), zcs_s r5]
  generalize zsi (zsi A 5 4 1) 5 5 (zi (zsi A 5 4 1) R 1) = A2 at *
  obtain ⟨B, b1, b2, b3⟩ := cz_main (N := N) hN hT r6 (by omega) hz
  have b1 : z_Pa_statements (z_Pa_statement N) N (R + 2 + 3 * 3) 0 A2 = some B := b1
  rw [b1, zbV_s]
  have f12 := f1.trans f2
  have fB : cF (5 :: rwl R) A B := (f12.mono (fun a h => s5R h)).trans (b2.mono (s5p (by decide)))
  have keep : ∀ p, p < 4 → p ≠ 3 → CP B (R + 2 + 3 * p) (Q.2.1 p) (Q.2.2 p) := fun p hp hp3 => ((c9 p hp).fr (rws_fr hR hp).2.2.2.2.2 f12 ((okR_5 hR).2 p hp).1).fr (rws_fr hR hp).2.2.2.2.2 b2 (by
    simp only [List.contains_eq_mem, List.mem_cons, List.not_mem_nil, or_false, decide_eq_false_iff_not]
    unfold okR at hR
    omega)
  have hI : CPI B R := fun p hp => by
    by_cases e : p = 3
    · rw [e]; exact b3.2.1
    · exact (keep p hp e).1
  have b3' : CZ Tx L true.toNat Q.1 (R + 2 + 3 * 3) (120 + 4000) 0 B (tss Tx L (tst Tx L true Q.1 5) 120 (a, [], 7)) := b3
  have hm : ∀ s, tss Tx L (tst Tx L true Q.1 5) 120 (a, [], 7) = some s → tmn Tx L a Q = if s.1 < L then none else some (updG Q 3 s.2.1 s.2.2) := fun s hs => by
    unfold tmn
    rw [hs, Option.bind_some]
  cases hs : tss Tx L (tst Tx L true Q.1 5) 120 (a, [], 7) with
  | none =>
    rw [hs] at b3'
    rw [if_neg (by rw [b3'.2.2.2.2.1 rfl]; decide)]
    have e : tmn Tx L a Q = none := by unfold tmn; rw [hs]; rfl
    rw [e]
    exact ⟨0, B, rfl, fB, hI, fun _ => rfl, fun Q' z => by cases z⟩
  | some s =>
    rw [hs] at b3'
    obtain ⟨q1, q2, q3, q4, q5, q6⟩ := b3'.2.2.2.2.2 s rfl
    have l1 := b3'.2.2.1.1
    rw [if_pos q1, hm s hs]
    by_cases cl : s.1 < L
    · rw [if_pos (by omega), if_pos cl]
      exact ⟨0, B, rfl, fB, hI, fun _ => rfl, fun Q' z => by cases z⟩
    · rw [if_neg (by omega), if_neg cl]
      have hok := (tmn_ok hT c7 hQ3 hw (by rw [hm s hs, if_neg cl])).1
      have hcp : ∀ p, p < 4 → CP B (R + 2 + 3 * p) ((updG Q 3 s.2.1 s.2.2).2.1 p) ((updG Q 3 s.2.1 s.2.2).2.2 p) := fun p hp => by
        unfold updG
        by_cases e : p = 3
        · simp only [if_pos e]
          rw [e]
          exact q4
        · simp only [if_neg e]
          exact keep p hp e
      have hbal : ∀ p, p < 4 → ∃ nd n, bal nd n ((updG Q 3 s.2.1 s.2.2).2.1 p) := fun p hp => by
        by_cases e : p = 3
        · rw [e]; exact ⟨_, _, hok.2.2.2.1⟩
        · by_cases e2 : p < Q.1
          · exact ⟨_, _, (hok.2.1.1 p e2).2.1⟩
          · rw [(hok.2.1.2 p (by show Q.1 ≤ p; omega) (by omega)).1]
            exact ⟨ndc, 0, bal_nil 0⟩
      obtain ⟨C, d1, d2, d3⟩ := c_links hN hR hbal 4 0 N B (by omega) (by omega) fB.own hcp (fun q hq => absurd hq (Nat.not_lt_zero q))
      have d1 : z_Pa_reads_119 N R 0 B = some (1, C) := d1
      rw [d1]
      have fC : cF (5 :: rwl R) A C := fB.trans (d2.mono (fun a h => sRR (rpL4_w a h)))
      refine ⟨1, C, rfl, fC, CPI_of (fun p hp => (d3 p hp).1), fun z => (by cases z), fun Q' z => ?_⟩
      cases z
      refine ⟨rfl, ?_, d3⟩
      show zi C R 1 = Q.1
      rw [d2.i hR.fx.1 rpL4_n, b2.i hR.fx.1 ((okR_5 hR).2 3 (by decide)).2, f12.i hR.fx.1 (okR_5 hR).1]
      exact c8
theorem c_rd21 (hN : 300000 ≤ N) (hT : TXT Tx L) (hR : okR R) : ∀ (r M a : Nat) (Q : Pr) (A : zA), r < M → Q.1 + r = 3 → WQ0 Q → Q.2.1 3 = [] → Q.2.2 3 = 7 → CQr Tx L R A Q a → ∃ v B, z_Pa_reads_21_l N M R Q.1 A = some (v, B) ∧ CRd R A v B (tpp Tx L r a Q)
  | 0, M + 1, a, Q, A, hM, hr, hw, hX, hg, h => by
    unfold z_Pa_reads_21_l z_Pa_reads_21_b
    rw [if_neg (by omega)]
    exact c_rdmain hN hT hR (by omega) hw hX hg h
  | r + 1, M + 1, a, Q, A, hM, hr, hw, hX, hg, h => by
    obtain ⟨c1, ⟨c2, c3⟩, c4, c5, c6, c7, c8, c9⟩ := id h
    have hL := hT.1
    obtain ⟨r1, r2, r3, r4, r5, r6⟩ := rws_fr hR (show Q.1 < 4 by omega)
    have pk : z_Pa_peek N A = some (Tx a) := by
      unfold z_Pa_peek
      by_cases c : a < L
      · rw [if_pos (by omega), zrd_ok (by omega) (by omega), c6, c3 a c, if_pos (hT.2.1 a)]
      · rw [if_neg (by omega), hT.2.2 a (by omega)]
    have bg : z_Pa_beginsProcedure N Q.1 A = some (if Tx a = 80 + (Q.1 : Int) ∧ Tx (a + 1) = 123 then 1 else 0) := by
      unfold z_Pa_beginsProcedure
      rw [if_pos c5, pk, zbP_s, yb_w (by omega) (by omega), c6, c2, yb_w (by omega) (by omega)]
      by_cases c : Tx a = 80 + (Q.1 : Int)
      · rw [if_pos c]
        by_cases c' : a + 1 < L
        · rw [if_pos (by omega), zrd_ok (by omega) (by omega), show (a : Int) + 1 = ((a + 1 : Nat) : Int) by omega, c3 (a + 1) c']
          by_cases c'' : Tx (a + 1) = 123
          · rw [if_pos c'', if_pos ⟨c, c''⟩]
          · rw [if_neg c'', if_neg (fun z => c'' z.2)]
        · have e0 := hT.2.2 (a + 1) (by omega)
          rw [if_neg (by omega), if_neg (fun z => by have := z.2; omega)]
      · rw [if_neg c, if_neg (fun z => c z.1)]
    unfold z_Pa_reads_21_l z_Pa_reads_21_b
    rw [if_pos (by omega), bg, zbP_s]
    have et : tpp Tx L (r + 1) a Q = if Tx a = 80 + (Q.1 : Int) ∧ Tx (a + 1) = 123 then (tbk Tx L (tst Tx L false Q.1 4) (a + 1, [], 7)).bind fun s => tpp Tx L r s.1 (Q.1 + 1, (updG Q Q.1 s.2.1 s.2.2).2) else tmn Tx L a Q := rfl
    rw [et]
    by_cases c : Tx a = 80 + (Q.1 : Int) ∧ Tx (a + 1) = 123
    · rw [if_pos c, if_neg (by decide), if_pos c, zlet_s, zlet_s, zgf_s r1, zfe_p hR (by omega), zcs_s r5]
      have hl : a + 1 < L := hT.lt (k := a + 1) (by rw [c.2]; decide)
      have f1 : cF [5] A (zsi A 5 2 (zi A 5 2 + 1)) := cF_si c1 (by decide) (by decide) (by decide)
      have f2 : cF [5] (zsi A 5 2 (zi A 5 2 + 1)) (zsi (zsi A 5 2 (zi A 5 2 + 1)) 5 5 (Q.1 : Int)) := cF_si f1.own (by decide) (by decide) (by decide)
      have hXk := hw.2 Q.1 (Nat.le_refl _) (by omega)
      have hz : CZ Tx L false.toNat Q.1 (R + 2 + 3 * Q.1) 120 0 (zsi (zsi A 5 2 (zi A 5 2 + 1)) 5 5 (Q.1 : Int)) (some (a + 1, [], 7)) := h.z hT hR (by omega) hXk.1 hXk.2 (f1.trans f2) (by rw [zi_si_j (by decide), zi_si_j (by decide)]) (by rw [zi_si_j (by decide), zi_si_s, c6, yb_w (by omega) (by omega)]; omega) (by omega) (by rw [zi_si_j (by decide), zi_si_j (by decide)]; exact c5) (by rw [zi_si_j (by decide), zi_si_j (by decide)]; exact c4) (by rw [zi_si_s, yb_w (by omega) (by omega)])
      have f12 := f1.trans f2
      generalize zsi (zsi A 5 2 (zi A 5 2 + 1)) 5 5 (Q.1 : Int) = A2 at *
      obtain ⟨B, b1, b2, b3⟩ := cz_proc (N := N) hN hT r6 (by omega) hz
      have b1 : z_Pa_block (z_Pa_statement N) N (R + 2 + 3 * Q.1) 1 A2 = some B := b1
      rw [b1, zbV_s, zlet_s, show zw ((Q.1 : Int) + 1) = ((Q.1 + 1 : Nat) : Int) by rw [yb_w (by omega) (by omega)]; omega]
      have b3' : CZ Tx L false.toNat Q.1 (R + 2 + 3 * Q.1) (120 + 4000) 0 B (tbk Tx L (tst Tx L false Q.1 4) (a + 1, [], 7)) := b3
      have nR : ([R] : List Nat).contains 5 = false ∧ ([R] : List Nat).contains 6 = false := ⟨cont2 (by unfold okR at hR; omega), cont2 (by unfold okR at hR; omega)⟩
      have f4 : cF [R] B (zsi B R 1 ((Q.1 : Int) + 1)) := cF_si b2.own hR.fx.1 hR.fx.2.1 (cont1 R)
      have fR : ∀ a, ([R] : List Nat).contains a = true → (5 :: rwl R).contains a = true := fun a ha => by
        simp only [List.contains_iff_mem, List.mem_cons, List.not_mem_nil, or_false] at ha
        exact sRR (rwl_mem.mpr (by omega))
      have fB : cF (5 :: rwl R) A (zsi B R 1 ((Q.1 : Int) + 1)) := ((f12.mono (fun a h => s5R h)).trans (b2.mono (s5p (by omega)))).trans (f4.mono fR)
      have npR : ∀ p, p < 4 → ([R] : List Nat).contains (R + 2 + 3 * p) = false := fun p hp => cont2 (by omega)
      have keep : ∀ p, p < 4 → p ≠ Q.1 → CP B (R + 2 + 3 * p) (Q.2.1 p) (Q.2.2 p) := fun p hp hp3 => ((c9 p hp).fr (rws_fr hR hp).2.2.2.2.2 f12 ((okR_5 hR).2 p hp).1).fr (rws_fr hR hp).2.2.2.2.2 b2 (by
        simp only [List.contains_eq_mem, List.mem_cons, List.not_mem_nil, or_false, decide_eq_false_iff_not]
        unfold okR at hR
        omega)
      have hI : CPI (zsi B R 1 ((Q.1 : Int) + 1)) R := fun p hp => by
        have : PI B (R + 2 + 3 * p) := by
          by_cases e : p = Q.1
          · rw [e]; exact b3.2.1
          · exact (keep p hp e).1
        exact this.fr (rws_fr hR hp).2.2.2.2.2 f4 (npR p hp)
      have e5 : ∀ j, zi (zsi B R 1 ((Q.1 : Int) + 1)) 5 j = zi B 5 j := fun j => f4.i (by decide) nR.1
      cases hs : tbk Tx L (tst Tx L false Q.1 4) (a + 1, [], 7) with
      | none =>
        rw [hs] at b3'
        obtain ⟨C, d1, d2, d3⟩ := c_21fail (k := ((Q.1 + 1 : Nat) : Int)) hN hR fB.own hI (by rw [e5]; exact b3'.2.2.2.2.1 rfl) (M := M) (by omega)
        rw [d1]
        exact ⟨0, C, rfl, fB.trans d2, d3, fun _ => rfl, fun Q' z => by cases z⟩
      | some s =>
        rw [hs] at b3'
        rw [Option.bind_some]
        obtain ⟨q1, q2, q3, q4, q5, q6⟩ := b3'.2.2.2.2.2 s rfl
        obtain ⟨g0, g1, g2, g3, Y, g4, g5, g6⟩ := ts_bk (cl := Q.1) (n := 4 + 5 * Q.1) (s := (a + 1, [], 7)) hT (fun s s' q1 q2 q3 => ts_st hT (by omega) 4 s s' q1 q2 q3) (by show a + 1 ≤ L; omega) (Nat.le_refl 7) hs
        have g4 : s.2.1 = Y := g4
        have hw' : WQ0 (Q.1 + 1, (updG Q Q.1 s.2.1 s.2.2).2) := ⟨fun q hq => by
          have hq : q < Q.1 + 1 := hq
          unfold updG
          by_cases e : q = Q.1
          · simp only [if_pos e]
            rw [e, g4]
            exact ⟨g3, g5, g6⟩
          · simp only [if_neg e]
            exact hw.1 q (by omega), fun q hq hq3 => by
          have hq : Q.1 + 1 ≤ q := hq
          have e : q ≠ Q.1 := by omega
          unfold updG
          simp only [if_neg e]
          exact hw.2 q (by omega) hq3⟩
        have n3 : ¬ 3 = Q.1 := by omega
        have hX' : (updG Q Q.1 s.2.1 s.2.2).2.1 3 = [] := by
          unfold updG
          simp only [if_neg n3]
          exact hX
        have hg' : (updG Q Q.1 s.2.1 s.2.2).2.2 3 = 7 := by
          unfold updG
          simp only [if_neg n3]
          exact hg
        have hq' : CQr Tx L R (zsi B R 1 ((Q.1 : Int) + 1)) (Q.1 + 1, (updG Q Q.1 s.2.1 s.2.2).2) s.1 := by
          refine ⟨fB.own, ⟨by rw [e5]; exact b3'.2.2.1.1, fun k hk => by rw [f4.e (by decide) nR.2]; exact b3'.2.2.1.2.1 k hk⟩, by rw [e5]; exact b3'.2.2.1.2.2.1, by rw [e5]; exact q1, by rw [e5]; exact q2, q3, ?_, fun p hp => ?_⟩
          · rw [zi_si_s, yb_w (by omega) (by omega)]
            show (Q.1 : Int) + 1 = ((Q.1 + 1 : Nat) : Int)
            omega
          · show CP _ _ ((updG Q Q.1 s.2.1 s.2.2).2.1 p) ((updG Q Q.1 s.2.1 s.2.2).2.2 p)
            refine CP.fr ?_ (rws_fr hR hp).2.2.2.2.2 f4 (npR p hp)
            unfold updG
            by_cases e : p = Q.1
            · simp only [if_pos e]
              rw [e]
              exact q4
            · simp only [if_neg e]
              exact keep p hp e
        obtain ⟨v, C, d1, d2⟩ := c_rd21 hN hT hR r M s.1 (Q.1 + 1, (updG Q Q.1 s.2.1 s.2.2).2) _ (by omega) (by show Q.1 + 1 + r = 3; omega) hw' hX' hg' hq'
        have d1 : z_Pa_reads_21_l N M R ((Q.1 + 1 : Nat) : Int) (zsi B R 1 ((Q.1 : Int) + 1)) = some (v, C) := d1
        rw [d1]
        exact ⟨v, C, rfl, fB.trans d2.1, d2.2⟩
    · rw [if_neg c, if_pos rfl, if_neg c]
      exact c_rdmain hN hT hR (by omega) hw hX hg h
theorem c_clear (hR : okR R) : ∀ (r p f : Nat) (A : zA), p + r = 4 → r < f → Own A → CPI A R → (∀ q, q < p → CP A (R + 2 + 3 * q) [] 7) → ∃ B, z_Ro_clear_7_l N f R p A = some B ∧ cF (rpL4 R) A B ∧ ∀ q, q < 4 → CP B (R + 2 + 3 * q) [] 7
  | 0, p, f + 1, A, h1, h2, hO, hI, hc => by
    unfold z_Ro_clear_7_l z_Ro_clear_7_b
    rw [if_neg (by omega)]
    exact ⟨A, rfl, cF.refl _ hO, fun q hq => hc q (by omega)⟩
  | r + 1, p, f + 1, A, h1, h2, hO, hI, hc => by
    obtain ⟨r1, r2, r3, r4, r5, r6⟩ := rws_fr hR (show p < 4 by omega)
    obtain ⟨B, b1, b2, b3⟩ := CP_clear (N := N) (g := 7) hO r6 (hI p (by omega)) (by decide)
    unfold z_Ro_clear_7_l z_Ro_clear_7_b
    rw [if_pos (by omega), zgf_s r1, zfe_p hR (by omega), zcs_s r5]
    have b1 : z_Pt_clear N (R + 2 + 3 * p) 7 A = some B := b1
    rw [b1, zbV_s, show zw ((p : Int) + 1) = ((p + 1 : Nat) : Int) by rw [yb_w (by omega) (by omega)]; omega]
    have oth : ∀ q, q < 4 → q ≠ p → pto.contains (R + 2 + 3 * q) = true ∧ ([R + 2 + 3 * p] : List Nat).contains (R + 2 + 3 * q) = false := fun q hq hqp => ⟨(rws_fr hR hq).2.2.2.2.2, cont2 (by omega)⟩
    have hIB : CPI B R := fun q hq => by
      by_cases e : q = p
      · rw [e]; exact b2.1
      · exact (hI q hq).fr (oth q hq e).1 b3 (oth q hq e).2
    obtain ⟨C, c1, c2, c3⟩ := c_clear hR r (p + 1) f B (by omega) (by omega) b3.own hIB (fun q hq => by
      by_cases e : q = p
      · rw [e]; exact b2
      · exact (hc q (by omega)).fr (oth q (by omega) e).1 b3 (oth q (by omega) e).2)
    exact ⟨C, c1, (b3.mono (rpL4_1 (by omega))).trans c2, c3⟩
/-- the class reads the text -/
theorem c_reads (hN : 300000 ≤ N) (hT : TXT Tx L) (hR : okR R) (hO : Own A) (hI : CPI A R) (h1 : zi A 5 1 = L) (h6 : ∀ k : Nat, k < L → ri A 6 k = Tx k) : ∃ v B, z_Pa_reads N R A = some (v, B) ∧ CRd R A v B (tpp Tx L 3 0 Q00) := by
  unfold z_Pa_reads z_Ro_clear
  rw [zlet_s, zlet_s, zlet_s, zlet_s]
  have f1 : cF [5] A (zsi (zsi (zsi A 5 2 0) 5 3 0) 5 4 0) := ((cF_si hO (by decide) (by decide) (by decide)).trans (cF_si hO.si (by decide) (by decide) (by decide))).trans (cF_si hO.si.si (by decide) (by decide) (by decide))
  have e1 : zi (zsi (zsi (zsi A 5 2 0) 5 3 0) 5 4 0) 5 1 = L := by rw [zi_si_j (by decide), zi_si_j (by decide), zi_si_j (by decide)]; exact h1
  have e2 : zi (zsi (zsi (zsi A 5 2 0) 5 3 0) 5 4 0) 5 2 = 0 := by rw [zi_si_j (by decide), zi_si_j (by decide), zi_si_s]; decide
  have e3 : zi (zsi (zsi (zsi A 5 2 0) 5 3 0) 5 4 0) 5 3 = 0 := by rw [zi_si_j (by decide), zi_si_s]; decide
  have e4 : zi (zsi (zsi (zsi A 5 2 0) 5 3 0) 5 4 0) 5 4 = 0 := by rw [zi_si_s]; decide
  generalize zsi (zsi (zsi A 5 2 0) 5 3 0) 5 4 0 = A1 at *
  have f2 : cF [R] A1 (zsi A1 R 1 0) := cF_si f1.own hR.fx.1 hR.fx.2.1 (cont1 R)
  have nR : ([R] : List Nat).contains 5 = false ∧ ([R] : List Nat).contains 6 = false := ⟨cont2 (by unfold okR at hR; omega), cont2 (by unfold okR at hR; omega)⟩
  have hI2 : CPI (zsi A1 R 1 0) R := fun p hp => (((hI p hp).fr (rws_fr hR hp).2.2.2.2.2 f1 ((okR_5 hR).2 p hp).1)).fr (rws_fr hR hp).2.2.2.2.2 f2 (cont2 (by omega))
  obtain ⟨B, b1, b2, b3⟩ := c_clear (N := N) hR 4 0 N (zsi A1 R 1 0) (by omega) (by omega) f2.own hI2 (fun q hq => absurd hq (Nat.not_lt_zero q))
  have b1 : z_Ro_clear_7 N R 0 (zsi A1 R 1 0) = some B := b1
  rw [b1, zbV_s]
  have n5 : (rpL4 R).contains 5 = false ∧ (rpL4 R).contains 6 = false := by
    unfold okR at hR
    refine ⟨?_, ?_⟩ <;> simp only [rpL4, List.contains_eq_mem, List.mem_cons, List.not_mem_nil, or_false, decide_eq_false_iff_not] <;> omega
  have e5 : ∀ j, zi B 5 j = zi A1 5 j := fun j => by rw [b2.i (by decide) n5.1, f2.i (by decide) nR.1]
  have fR : ∀ a, ([R] : List Nat).contains a = true → (5 :: rwl R).contains a = true := fun a ha => by
    simp only [List.contains_iff_mem, List.mem_cons, List.not_mem_nil, or_false] at ha
    exact sRR (rwl_mem.mpr (by omega))
  have fB : cF (5 :: rwl R) A B := ((f1.mono (fun a h => s5R h)).trans (f2.mono fR)).trans (b2.mono (fun a h => sRR (rpL4_w a h)))
  have hq : CQr Tx L R B Q00 0 := ⟨fB.own, ⟨by rw [e5]; exact e1, fun k hk => by rw [b2.e (by decide) n5.2, f2.e (by decide) nR.2, f1.e (by decide) (by decide)]; exact h6 k hk⟩, by rw [e5]; exact e4, by rw [e5]; exact e3, by rw [e5]; exact e2, Nat.zero_le _, by rw [b2.i hR.fx.1 rpL4_n, zi_si_s]; decide, fun p hp => b3 p hp⟩
  obtain ⟨v, C, d1, d2⟩ := c_rd21 hN hT hR 3 N 0 Q00 B (by omega) rfl WQ0_00 rfl rfl hq
  have d1 : z_Pa_reads_21 N R 0 B = some (v, C) := d1
  rw [d1]
  exact ⟨v, C, rfl, fB.trans d2.1, d2.2⟩
end
