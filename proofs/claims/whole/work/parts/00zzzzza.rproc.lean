/-! the reference reads a whole text: procedures -/
section
variable {N : Nat} {Tx : Nat → Int} {L p pk : Nat} {A B : zA} {s : Ps} {x : Int}
theorem RRd.tr {C : zA} {o : Option Pr} (f : fr qPs A B) (h : RRd B C o) : RRd A C o := ⟨f.trans h.1, h.2⟩
theorem r_prc (hN : 300000 ≤ N) (hT : TXT Tx L) : ∀ (r a M : Nat) (Q : Pr) (A : zA), L + 3 ≤ a + M → Q.1 + r = 3 → WQ0 Q → Q.2.1 3 = [] → Q.2.2 3 = 7 → RQr Tx L A Q a → ∃ B, z_M_parse_63_l N M 0 A = some B ∧ RRd A B (tpp Tx L r a Q)
  | 0, a, M, Q, A, hM, hr, hw, hX, hg, h => r_main hN hT (by omega) hX hg hM h (fun z => by omega)
  | r + 1, a, M, Q, A, hM, hr, hw, hX, hg, h => by
    have et : tpp Tx L (r + 1) a Q = if Tx a = 80 + (Q.1 : Int) ∧ Tx (a + 1) = 123 then (tbk Tx L (tst Tx L false Q.1 4) (a + 1, [], 7)).bind fun s => tpp Tx L r s.1 (Q.1 + 1, (updG Q Q.1 s.2.1 s.2.2).2) else tmn Tx L a Q := rfl
    rw [et]
    by_cases c : Tx a = 80 + (Q.1 : Int) ∧ Tx (a + 1) = 123
    · rw [if_pos c]
      have hL := hT.1
      have h0 := h
      obtain ⟨⟨t1, t2, t3⟩, c2, c3, c4, c5, c6⟩ := h
      have h17 : zi A 226 17 = 0 := c5.1
      have h15 : zi A 226 15 = Q.1 := c5.2.2.2
      have hl : a + 1 < L := hT.lt (k := a + 1) (by rw [c.2]; decide)
      -- the step
      obtain ⟨M, rfl⟩ : ∃ m, M = m + 1 := ⟨M - 1, by omega⟩
      have st : z_M_parse_63_l N (M + 1) 0 A = zbV (z_M_enter N 4 (zsi (zsi A 226 14 (zi A 226 15)) 226 13 (zi (zsi A 226 14 (zi A 226 15)) 226 13 + 1))) fun A11 => z_M_parse_63_l N M 0 A11 := by
        show z_M_parse_63_b (z_M_parse_63_l N M) N 0 A = _
        unfold z_M_parse_63_b z_M_parse_104
        rw [if_pos c2, if_pos (by omega), if_neg (by omega), if_pos rfl, if_pos h17, h15, if_pos (by omega), r_look hT t1 t2 c3, zbP_s, yb_w (by omega) (by omega), if_pos c.1, c3, yb_w (by omega) (by omega), t1, if_pos (by omega), zrd_ok (by omega) (by omega), show (a : Int) + 1 = ((a + 1 : Nat) : Int) by omega, t2 (a + 1) hl, if_pos c.2, zlet_s, zlet_s]
      rw [st, h15]
      have f1 : fr (fun a j => a = 226 ∧ (j = 13 ∨ j = 14)) A (zsi (zsi A 226 14 (Q.1 : Int)) 226 13 (zi (zsi A 226 14 (Q.1 : Int)) 226 13 + 1)) := (fr_si ⟨rfl, by omega⟩).trans (fr_si ⟨rfl, by omega⟩)
      have hXk := hw.2 Q.1 (Nat.le_refl _) (by omega)
      have hy : RY Tx L Q.1 0 300 (zsi (zsi A 226 14 (Q.1 : Int)) 226 13 (zi (zsi A 226 14 (Q.1 : Int)) 226 13 + 1)) (some (a + 1, [], 7)) := h0.y (by omega) hXk.1 hXk.2 f1 (by rw [zi_si_j (by decide), zi_si_s, yb_w (by omega) (by omega)]) (by rw [zi_si_s, zi_si_j (by decide), c3, yb_w (by omega) (by omega)]; omega) (by omega)
      have hv : RLv (zsi (zsi A 226 14 (Q.1 : Int)) 226 13 (zi (zsi A 226 14 (Q.1 : Int)) 226 13 + 1)) [] Q.1 := rlv_fr c5 f1 (fun z => by omega) (fun z => by omega) (fun j z => by omega)
      generalize zsi (zsi A 226 14 (Q.1 : Int)) 226 13 (zi (zsi A 226 14 (Q.1 : Int)) 226 13 + 1) = A1 at *
      obtain ⟨B, b1, b2, b3, b4⟩ := ry_enter (N := N) (x := 4) (lv := []) (pk := Q.1) hT (by decide) (by omega) (by omega) hy (fun _ => hv) (rlv_17 hv)
      rw [b1, zbV_s]
      have ex : (some ((a + 1, [], 7) : Ps)).bind (tex Tx 123) = some (a + 2, [], 7) := if_pos c.2
      rw [if_pos (by decide), ex] at b3 b4
      have hvB := b4 (by intro z; cases z)
      have hyB : RY Tx L Q.1 0 300 B (some (a + 2, [], 7)) := ⟨fun z => (by cases z), b3.2⟩
      have fB : fr qPs A B := (f1.mono (fun a j z => Or.inl ⟨z.1, by omega⟩)).trans (b2.mono (fun a j z => by
        rcases z with z | z
        · exact Or.inl ⟨z.1, by omega⟩
        · exact Or.inr (Or.inl z)))
      have rowsB : ∀ q, q < 4 → RP B (4 + q) (Q.2.1 q) (Q.2.2 q) := fun q hq => ((c6 q hq).1.fr (c6 q hq).2 f1 (fun a j z y => by rw [z.1] at y; exact nqRo226 y)).fr (c6 q hq).2 b2 (fun a j z y => by
        rcases z with z | z
        · rw [z.1] at y; exact nqRo226 y
        · rw [z] at y; exact nqRo (by omega) y)
      have rows : ∀ {C : zA}, fr (qSm Q.1) B C → ∀ q, q < 4 → q ≠ Q.1 → RP C (4 + q) (Q.2.1 q) (Q.2.2 q) ∧ (Q.2.1 q).length ≤ 240 := fun {C} f q hq hq3 => ⟨(rowsB q hq).fr (c6 q hq).2 f (fun a j z => nS_row hq3 z), (c6 q hq).2⟩
      have hgr : ∀ s s' : Ps, s.1 < L → 7 ≤ s.2.2 → tst Tx L false Q.1 4 s = some s' → s.1 < s'.1 ∧ s'.1 ≤ L ∧ s.2.2 ≤ s'.2.2 := fun s s' q1 q2 q3 => by
        obtain ⟨g1, g2⟩ := ts_st hT (show Q.1 ≤ 3 by omega) 4 s s' q1 q2 q3
        exact ⟨g1, g2.2.1, g2.2.2.1⟩
      obtain ⟨o1, o2⟩ := r_sts (N := N) (p := Q.1) (pk := Q.1) (lv := [4]) (x := 0) hT (by decide) hgr (fun s A q1 q2 q3 q4 => r_st (mb := false) hN hT (by omega) ⟨fun z => (by cases z), fun z => by omega⟩ (by rw [if_neg (by omega)]) (by omega) (Or.inl rfl) 4 [4] rfl (Or.inr ⟨rfl, by decide⟩) s A q1 q2 q3 q4) 120 (a + 2, [], 7) B (by show L ≤ a + 2 + 120; omega) hyB hvB
      have eb : tbk Tx L (tst Tx L false Q.1 4) (a + 1, [], 7) = (tsE Tx L (tst Tx L false Q.1 4) 120 (a + 2, [], 7)).map tav := by
        rw [tbk_E]
        have : tex Tx 123 ((a + 1, [], 7) : Ps) = some (a + 2, [], 7) := if_pos c.2
        rw [this, Option.bind_some]
      rw [eb]
      cases hs : tsE Tx L (tst Tx L false Q.1 4) 120 (a + 2, [], 7) with
      | none =>
        obtain ⟨k, C, k1, k2, k3, k4, k5, k6⟩ := o2 hs
        have k1 : k + (a + 2) ≤ L + 1 := k1
        refine ⟨C, ?_, ⟨fB.trans (k3.mono (fun a j z => qS_P (by omega) z)), RL1_put (rows k3) k5 k6, fun _ => k4, fun Q' z => by cases z⟩⟩
        rw [show M = k + 1 + (M - k - 1) by omega, k2]
      | some t =>
        obtain ⟨k, C, k1, k2, k3, k4, k5⟩ := o1 t hs
        have k1 : k + (a + 2) ≤ t.1 := k1
        obtain ⟨-, t125⟩ := tsE_some hs
        have lt : t.1 < L := hT.lt (k := t.1) (by rw [t125]; decide)
        obtain ⟨D, d1, d2, d3, d4⟩ := r_lv0 (N := N) (c := 4) (lv := []) hT lt k4 k5
        rw [if_neg (by decide), if_pos rfl, zlet_s, zlet_s] at d4
        have e15 : zi D 226 15 = (Q.1 : Int) := d3.2.2.2
        have f5 : fr (fun a j => a = 226 ∧ (j = 14 ∨ j = 15)) D (zsi (zsi D 226 15 (zi D 226 15 + 1)) 226 14 3) := (fr_si ⟨rfl, by omega⟩).trans (fr_si ⟨rfl, by omega⟩)
        obtain ⟨ht, a1, a2, a3, a4, a5, a6, a7⟩ := d3 |> fun _ => d2.2 (tav t) rfl
        have a5' : t.2.1.length + 0 + 2 ≤ 2 * (t.1 + 1) := a5
        have fE : fr qPs A (zsi (zsi D 226 15 (zi D 226 15 + 1)) 226 14 3) := ((fB.trans (k3.mono (fun a j z => qS_P (by omega) z))).trans (d1.mono (fun a j z => qS_P (by omega) z))).trans (f5.mono (fun a j z => Or.inl ⟨z.1, by omega⟩))
        have hq' : RQr Tx L (zsi (zsi D 226 15 (zi D 226 15 + 1)) 226 14 3) (Q.1 + 1, (updG Q Q.1 t.2.1 t.2.2).2) (t.1 + 1) := by
          refine ⟨⟨by rw [f5.i (fun z => by omega)]; exact ht.1, fun k hk => by rw [f5.e (fun z => by omega)]; exact ht.2.1 k hk, by rw [zi_si_s]; decide⟩, by rw [f5.i (fun z => by omega)]; exact a1, by rw [f5.i (fun z => by omega)]; exact a2, lt, ⟨by rw [f5.i (fun z => by omega)]; exact d3.1, trivial, by decide, ?_⟩, fun q hq => ?_⟩
          · rw [zi_si_j (by decide), zi_si_s, e15, yb_w (by omega) (by omega)]
            show (Q.1 : Int) + 1 = ((Q.1 + 1 : Nat) : Int)
            omega
          · show RP _ _ ((updG Q Q.1 t.2.1 t.2.2).2.1 q) ((updG Q Q.1 t.2.1 t.2.2).2.2 q) ∧ ((updG Q Q.1 t.2.1 t.2.2).2.1 q).length ≤ 240
            unfold updG
            by_cases e : q = Q.1
            · simp only [if_pos e]
              rw [e]
              exact ⟨RP.fr a4 (by show t.2.1.length ≤ 240; omega) f5 (fun a j z y => by rw [z.1] at y; exact nqRo226 y), by omega⟩
            · simp only [if_neg e]
              obtain ⟨y1, y2⟩ := rows (k3.trans d1) q hq e
              exact ⟨y1.fr y2 f5 (fun a j z y => by rw [z.1] at y; exact nqRo226 y), y2⟩
        obtain ⟨g0, g1, g2, g3, Y, g4, g5, g6⟩ := ts_bk (cl := Q.1) (n := 4 + 5 * Q.1) (s := (a + 1, [], 7)) (s' := tav t) hT (fun s s' q1 q2 q3 => ts_st hT (by omega) 4 s s' q1 q2 q3) (by show a + 1 ≤ L; omega) (Nat.le_refl 7) (by rw [eb, hs]; rfl)
        have g4 : t.2.1 = Y := g4
        have g3 : 7 ≤ t.2.2 := g3
        have g6 : ∀ i ∈ Y, okE Q.1 t.2.2 i := g6
        have hw' : WQ0 (Q.1 + 1, (updG Q Q.1 t.2.1 t.2.2).2) := ⟨fun q hq => by
          have hq : q < Q.1 + 1 := hq
          unfold updG
          by_cases e : q = Q.1
          · simp only [if_pos e]
            rw [e, g4]
            exact ⟨g3, g5, g6⟩
          · simp only [if_neg e]
            exact hw.1 q (by omega), fun q hq hq3 => by
          have hq : Q.1 + 1 ≤ q := hq
          have e : q ≠ Q.1 := by omega
          unfold updG
          simp only [if_neg e]
          exact hw.2 q (by omega) hq3⟩
        have n3 : ¬ 3 = Q.1 := by omega
        have hX' : (updG Q Q.1 t.2.1 t.2.2).2.1 3 = [] := by
          unfold updG
          simp only [if_neg n3]
          exact hX
        have hg' : (updG Q Q.1 t.2.1 t.2.2).2.2 3 = 7 := by
          unfold updG
          simp only [if_neg n3]
          exact hg
        obtain ⟨M', rfl⟩ : ∃ m, M = k + (1 + m) := ⟨M - k - 1, by omega⟩
        obtain ⟨E, e1, e2⟩ := r_prc hN hT r (t.1 + 1) M' (Q.1 + 1, (updG Q Q.1 t.2.1 t.2.2).2) _ (by omega) (by show Q.1 + 1 + r = 3; omega) hw' hX' hg' hq'
        refine ⟨E, ?_, RRd.tr fE e2⟩
        rw [k2, Nat.add_comm 1 M']
        show z_M_parse_63_b (z_M_parse_63_l N M') N 0 C = _
        rw [body_lv (lv := [4]) hT (by decide) lt t125 k4 k5, d4, zbV_s]
        exact e1
    · rw [if_neg c]
      exact r_main hN hT (by omega) hX hg hM h (fun z => c z.2)
theorem r_pclear (hN : 300000 ≤ N) (hT : TXT Tx L) : ∀ (r q f : Nat) (A : zA), q + r = 4 → r < f → zi A 226 1 = L → (∀ k : Nat, k < L → ri A 227 k = Tx k) → (∀ j, j < q → RP A (4 + j) [] 7) → ∃ B, z_M_parse_2_l N f q A = some B ∧ RRd A B (tpp Tx L 3 0 Q00)
  | 0, q, f + 1, A, h1, h2, hl, h7, hc => by
    unfold z_M_parse_2_l z_M_parse_2_b
    rw [if_neg (by omega)]
    unfold z_M_parse_36
    rw [zlet_s, zlet_s, zlet_s, zlet_s, zlet_s]
    have f1 : fr (fun a j => a = 226 ∧ 13 ≤ j ∧ j ≤ 17) A (zsi (zsi (zsi (zsi (zsi A 226 13 0) 226 14 3) 226 15 0) 226 16 0) 226 17 0) := ((((fr_si ⟨rfl, by omega⟩).trans (fr_si ⟨rfl, by omega⟩)).trans (fr_si ⟨rfl, by omega⟩)).trans (fr_si ⟨rfl, by omega⟩)).trans (fr_si ⟨rfl, by omega⟩)
    have e13 : zi (zsi (zsi (zsi (zsi (zsi A 226 13 0) 226 14 3) 226 15 0) 226 16 0) 226 17 0) 226 13 = 0 := by rw [zi_si_j (by decide), zi_si_j (by decide), zi_si_j (by decide), zi_si_j (by decide), zi_si_s]; decide
    have e14 : zi (zsi (zsi (zsi (zsi (zsi A 226 13 0) 226 14 3) 226 15 0) 226 16 0) 226 17 0) 226 14 = 3 := by rw [zi_si_j (by decide), zi_si_j (by decide), zi_si_j (by decide), zi_si_s]; decide
    have e15 : zi (zsi (zsi (zsi (zsi (zsi A 226 13 0) 226 14 3) 226 15 0) 226 16 0) 226 17 0) 226 15 = 0 := by rw [zi_si_j (by decide), zi_si_j (by decide), zi_si_s]; decide
    have e16 : zi (zsi (zsi (zsi (zsi (zsi A 226 13 0) 226 14 3) 226 15 0) 226 16 0) 226 17 0) 226 16 = 0 := by rw [zi_si_j (by decide), zi_si_s]; decide
    have e17 : zi (zsi (zsi (zsi (zsi (zsi A 226 13 0) 226 14 3) 226 15 0) 226 16 0) 226 17 0) 226 17 = 0 := by rw [zi_si_s]; decide
    generalize zsi (zsi (zsi (zsi (zsi A 226 13 0) 226 14 3) 226 15 0) 226 16 0) 226 17 0 = A1 at *
    have hq : RQr Tx L A1 Q00 0 := ⟨⟨by rw [f1.i (fun z => by omega)]; exact hl, fun k hk => by rw [f1.e (fun z => by omega)]; exact h7 k hk, e14⟩, e16, e13, Nat.zero_le _, ⟨e17, trivial, by decide, e15⟩, fun p hp => ⟨RP.fr (hc p (by omega)) (show (0 : Nat) ≤ 240 by decide) f1 (fun a j z y => by rw [z.1] at y; exact nqRo226 y), (show (0 : Nat) ≤ 240 by decide)⟩⟩
    have hL := hT.1
    obtain ⟨B, b1, b2⟩ := r_prc hN hT 3 0 N Q00 A1 (by omega) rfl WQ0_00 rfl rfl hq
    exact ⟨B, b1, RRd.tr (f1.mono (fun a j z => Or.inl ⟨z.1, by omega⟩)) b2⟩
  | r + 1, q, f + 1, A, h1, h2, hl, h7, hc => by
    have e4 : ((4 + q : Nat) : Int) = 4 * 1 + (q : Int) := by omega
    unfold z_M_parse_2_l z_M_parse_2_b
    rw [if_pos (by omega), z_M_row_e (by omega) (by omega), zbP_s, zwr_ok (by omega) (by omega), z_M_row_e (by omega) (by omega), zbP_s, zwr_ok (by omega) (by omega), show zw ((q : Int) + 1) = ((q + 1 : Nat) : Int) by rw [yb_w (by omega) (by omega)]; omega, ← e4]
    have f1 : fr (qRo (4 + q)) A (rs (rs A 229 ((4 + q : Nat) : Int) 0) 230 ((4 + q : Nat) : Int) 7) := (fr_rs (Or.inr ⟨Or.inl rfl, by omega⟩)).trans (fr_rs (Or.inr ⟨Or.inr rfl, by omega⟩))
    have x1 : RP (rs (rs A 229 ((4 + q : Nat) : Int) 0) 230 ((4 + q : Nat) : Int) 7) (4 + q) [] 7 := ⟨by rw [ri_rs_o (by decide), ri_rs_s]; decide, by rw [ri_rs_s]; decide, fun k hk => absurd hk (Nat.not_lt_zero k)⟩
    obtain ⟨B, b1, b2⟩ := r_pclear hN hT r (q + 1) f _ (by omega) (by omega) (by rw [f1.i nqRo226]; exact hl) (fun k hk => by rw [f1.e (nqRo (by omega))]; exact h7 k hk) (fun j hj => by
      by_cases e : j = q
      · rw [e]; exact x1
      · exact RP.fr (hc j (by omega)) (by decide) f1 (fun a i z y => by unfold qRo at z y; omega))
    exact ⟨B, b1, RRd.tr (f1.mono (fun a j z => Or.inr (Or.inr (Or.inr (Or.inr ⟨q, by omega, z⟩))))) b2⟩
/-- the reference reads the text -/
theorem r_parse (hN : 300000 ≤ N) (hT : TXT Tx L) (hl : zi A 226 1 = L) (h7 : ∀ k : Nat, k < L → ri A 227 k = Tx k) : ∃ B, z_M_parse N A = some B ∧ RRd A B (tpp Tx L 3 0 Q00) := r_pclear hN hT 4 0 N A (by omega) (by omega) hl h7 (fun j hj => absurd hj (Nat.not_lt_zero j))
end
