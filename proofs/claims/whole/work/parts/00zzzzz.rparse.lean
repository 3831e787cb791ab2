/-! the reference reads a whole text -/
def qPs (a j : Nat) : Prop := (a = 226 ∧ 13 ≤ j ∧ j ≤ 21) ∨ a = 234 ∨ a = 235 ∨ a = 236 ∨ ∃ p, p < 4 ∧ qRo (4 + p) a j
theorem qS_P {p a j : Nat} (hp : p < 4) (h : qSm p a j) : qPs a j := by
  unfold qSm at h
  unfold qPs
  rcases h with h | h | h | h | h
  · exact Or.inl ⟨h.1, by omega⟩
  · exact Or.inr (Or.inl h)
  · exact Or.inr (Or.inr (Or.inl h))
  · exact Or.inr (Or.inr (Or.inr (Or.inl h)))
  · exact Or.inr (Or.inr (Or.inr (Or.inr ⟨p, hp, h⟩)))
def RQr (Tx : Nat → Int) (L : Nat) (A : zA) (Q : Pr) (a : Nat) : Prop := RTx Tx L 3 A ∧ zi A 226 16 = 0 ∧ zi A 226 13 = a ∧ a ≤ L ∧ RLv A [] Q.1 ∧ ∀ p, p < 4 → RP A (4 + p) (Q.2.1 p) (Q.2.2 p) ∧ (Q.2.1 p).length ≤ 240
def RRd (A B : zA) (o : Option Pr) : Prop := fr qPs A B ∧ RL B 1 ∧ (o = none → zi B 226 16 = 1) ∧ ∀ Q, o = some Q → zi B 226 16 = 0 ∧ zi B 226 15 = Q.1 ∧ ∀ p, p < 4 → RP B (4 + p) (Q.2.1 p) (Q.2.2 p)
section
variable {N : Nat} {Tx : Nat → Int} {L p pk : Nat} {A B : zA} {s : Ps} {x : Int}
theorem nS_row {p q a j : Nat} (hq : q ≠ p) (h : qSm p a j) : ¬ qRo (4 + q) a j := by
  unfold qSm at h
  intro z
  rcases h with h | h | h | h | h
  · rw [h.1] at z; exact nqRo226 z
  · rw [h] at z; exact nqRo (by omega) z
  · rw [h] at z; exact nqRo (by omega) z
  · rw [h] at z; exact nqRo (by omega) z
  · unfold qRo at h z
    omega
theorem RL1_of {X : Nat → List It} {g : Nat → Nat} (h : ∀ p, p < 4 → RP A (4 + p) (X p) (g p) ∧ (X p).length ≤ 240) : RL A 1 := fun p hp => by
  obtain ⟨h1, h2⟩ := h p hp
  have : rn A (4 * ((1 : Nat) : Int) + p) = (X p).length := by
    rw [show (4 * ((1 : Nat) : Int) + (p : Int)) = ((4 + p : Nat) : Int) by omega]
    exact h1.1
  rw [this]
  omega
theorem RL1_put {X : Nat → List It} {g : Nat → Nat} {p : Nat} (h : ∀ q, q < 4 → q ≠ p → RP A (4 + q) (X q) (g q) ∧ (X q).length ≤ 240) (h1 : 0 ≤ ri A 229 (4 + p : Nat)) (h2 : ri A 229 (4 + p : Nat) ≤ 240) : RL A 1 := fun q hq => by
  have e : rn A (4 * ((1 : Nat) : Int) + q) = ri A 229 ((4 + q : Nat) : Int) := by
    rw [show (4 * ((1 : Nat) : Int) + (q : Int)) = ((4 + q : Nat) : Int) by omega]
    rfl
  rw [e]
  by_cases c : q = p
  · rw [c]; exact ⟨h1, h2⟩
  · obtain ⟨g1, g2⟩ := h q hq c
    rw [g1.1]
    omega
/-- main: at the top the closing brace is no end -/
theorem body_top (h : RY Tx L p 0 300 A (some s)) (hl : s.1 < L) (hv : RLv A [] pk) (r : Int → zA → Option zA) : z_M_parse_63_b r N 1 A = zbV (z_M_statement N A) fun A1 => r 1 A1 := by
  obtain ⟨ht, hpa⟩ := h.2 s rfl
  have h17 : zi A 226 17 = 0 := hv.1
  unfold z_M_parse_63_b z_M_parse_104 z_M_parse_192 z_M_parse_208
  rw [if_pos hpa.1, if_pos (by rw [hpa.2.1, ht.1]; omega), if_neg (by omega), if_neg (by decide), if_neg (by decide)]
theorem r_top {S : Ps → Option Ps} (hg : ∀ s s', s.1 < L → 7 ≤ s.2.2 → S s = some s' → s.1 < s'.1) (hS : ∀ (s : Ps) (A : zA), s.1 < L → Tx s.1 ≠ 125 → RY Tx L p 0 300 A (some s) → RLv A [] pk → rOut N Tx L p pk 1 A s [] (S s)) : ∀ (n : Nat) (s : Ps) (A : zA), L ≤ s.1 + n → RY Tx L p 0 300 A (some s) → RLv A [] pk → rOut N Tx L p pk 1 A s [] (tss Tx L S n s) ∧ ∀ s', tss Tx L S n s = some s' → ¬ (s'.1 < L ∧ Tx s'.1 ≠ 125)
  | 0, s, A, hn, h, hv => by
    refine ⟨⟨fun s' z => ?_, fun z => by cases z⟩, fun s' z => ?_⟩
    · cases z
      exact ⟨0, A, by omega, fun m => by rw [Nat.zero_add], fr.refl _ _, h, hv⟩
    · cases z
      omega
  | n + 1, s, A, hn, h, hv => by
    obtain ⟨ht, hpa⟩ := h.2 s rfl
    have a7 := hpa.2.2.2.2.2.2
    have e : tss Tx L S (n + 1) s = if s.1 < L ∧ Tx s.1 ≠ 125 then (S s).bind (tss Tx L S n) else some s := rfl
    rw [e]
    by_cases c : s.1 < L ∧ Tx s.1 ≠ 125
    · rw [if_pos c]
      refine ⟨(hS s A c.1 c.2 h hv).bd (fun s' B z hB hvB => (r_top hg hS n s' B (by have := hg s s' c.1 a7 z; omega) hB hvB).1), fun s' z => ?_⟩
      cases hs : S s with
      | none => rw [hs] at z; cases z
      | some t =>
        rw [hs, Option.bind_some] at z
        obtain ⟨k, B, b1, b2, b3, b4, b5⟩ := (hS s A c.1 c.2 h hv).1 t hs
        exact (r_top hg hS n t B (by have := hg s t c.1 a7 hs; omega) b4 b5).2 s' z
    · rw [if_neg c]
      refine ⟨⟨fun s' z => ?_, fun z => by cases z⟩, fun s' z => ?_⟩
      · cases z
        exact ⟨0, A, by omega, fun m => by rw [Nat.zero_add], fr.refl _ _, h, hv⟩
      · cases z
        exact c
theorem RQr.y {Q : Pr} {a a' p : Nat} (h : RQr Tx L A Q a) (hp : p < 4) (hX : Q.2.1 p = []) (hg : Q.2.2 p = 7) (f : fr (fun a j => a = 226 ∧ (j = 13 ∨ j = 14)) A B) (h14 : zi B 226 14 = p) (h13 : zi B 226 13 = a') (ha : a' ≤ L) : RY Tx L p 0 300 B (some (a', [], 7)) := by
  obtain ⟨⟨t1, t2, t3⟩, c2, c3, c4, c5, c6⟩ := h
  refine ⟨fun z => (by cases z), fun s z => ?_⟩
  cases z
  have := (c6 p hp).1
  rw [hX, hg] at this
  refine ⟨⟨by rw [f.i (fun z => by omega)]; exact t1, fun k hk => by rw [f.e (fun z => by omega)]; exact t2 k hk, h14⟩, ⟨by rw [f.i (fun z => by omega)]; exact c2, h13, ha, this.fr (by decide) f (fun a j z q => by rw [z.1] at q; exact nqRo226 q), by show 0 + 0 + 0 ≤ 2 * a'; omega, by show 7 ≤ 7 + 0; omega, Nat.le_refl 7⟩⟩
/-- the end of main -/
theorem r_end (h : zi A 226 16 = 0) (ha : ¬ zi A 226 13 < zi A 226 1) (h17 : zi A 226 17 = 0) (m : Nat) : z_M_parse_63_l N (1 + m) x A = some (zsi A 226 16 0) := by
  rw [Nat.add_comm]
  unfold z_M_parse_63_l z_M_parse_63_b z_M_parse_216
  rw [if_pos h, if_neg ha, if_pos h, if_neg (by omega), zlet_s]
/-- main -/
theorem r_main {Q : Pr} {a M : Nat} (hN : 300000 ≤ N) (hT : TXT Tx L) (hQ3 : Q.1 ≤ 3) (hX : Q.2.1 3 = []) (hg : Q.2.2 3 = 7) (hM : L + 3 ≤ a + M) (h : RQr Tx L A Q a) (hn : ¬ (Q.1 < 3 ∧ Tx a = 80 + (Q.1 : Int) ∧ Tx (a + 1) = 123)) : ∃ B, z_M_parse_63_l N M 0 A = some B ∧ RRd A B (tmn Tx L a Q) := by
  have hL := hT.1
  have h0 := h
  obtain ⟨⟨t1, t2, t3⟩, c2, c3, c4, c5, c6⟩ := h
  have hy : RY Tx L 3 0 300 A (some (a, [], 7)) := h0.y (by decide) hX hg (fr.refl _ _) t3 c3 c4
  have h17 : zi A 226 17 = 0 := c5.1
  have h15 : zi A 226 15 = Q.1 := c5.2.2.2
  -- with 0 it goes as with 1
  have e01 : ∀ m, a < L → z_M_parse_63_l N (1 + m) 0 A = z_M_parse_63_l N (1 + m) 1 A := fun m hl => by
    rw [Nat.add_comm]
    show z_M_parse_63_b (z_M_parse_63_l N m) N 0 A = z_M_parse_63_b (z_M_parse_63_l N m) N 1 A
    rw [body_top hy hl c5]
    have e192 : z_M_parse_192 (z_M_parse_63_l N m) N 0 A = zbV (z_M_statement N A) fun A1 => z_M_parse_63_l N m 1 A1 := by
      unfold z_M_parse_192 z_M_parse_208
      rw [if_pos rfl, if_pos h17]
    unfold z_M_parse_63_b z_M_parse_104
    rw [if_pos c2, if_pos (by omega), if_neg (by omega), if_pos rfl, if_pos h17, e192, h15]
    by_cases k3 : (Q.1 : Int) < 3
    · rw [if_pos k3, r_look hT t1 t2 c3, zbP_s, yb_w (by omega) (by omega)]
      by_cases k4 : Tx a = 80 + (Q.1 : Int)
      · rw [if_pos k4, c3, yb_w (by omega) (by omega), t1]
        by_cases k5 : (a : Int) + 1 < (L : Int)
        · rw [if_pos k5, zrd_ok (by omega) (by omega), show (a : Int) + 1 = ((a + 1 : Nat) : Int) by omega, t2 (a + 1) (by omega), if_neg (fun z => hn ⟨by omega, k4, z⟩)]
        · rw [if_neg k5]
      · rw [if_neg k4]
    · rw [if_neg k3]
  have hgr : ∀ s s' : Ps, s.1 < L → 7 ≤ s.2.2 → tst Tx L true Q.1 5 s = some s' → s.1 < s'.1 := fun s s' q1 q2 q3 => (ts_st hT hQ3 5 s s' q1 q2 q3).1
  obtain ⟨⟨o1, o2⟩, o3⟩ := r_top (N := N) (p := 3) (pk := Q.1) (Tx := Tx) hgr (fun s A q1 q2 q3 q4 => r_st (mb := true) hN hT (by decide) (by decide) (by rw [if_pos rfl]) hQ3 (Or.inr rfl) 5 [] rfl (Or.inl rfl) s A q1 q2 q3 q4) 120 (a, [], 7) A (by show L ≤ a + 120; omega) hy c5
  -- the run with 1
  have run : ∀ (o : Option Pr), (∃ k B, k + a ≤ L + 1 ∧ (∀ m, z_M_parse_63_l N (k + 1 + m) 1 A = some B) ∧ RRd A B o) → (a < L ∨ ∃ B, (∀ m, z_M_parse_63_l N (1 + m) 0 A = some B) ∧ RRd A B o) → ∃ B, z_M_parse_63_l N M 0 A = some B ∧ RRd A B o := fun o hk hc => by
    rcases hc with hl | ⟨B, b1, b2⟩
    · obtain ⟨k, B, k1, k2, k3⟩ := hk
      refine ⟨B, ?_, k3⟩
      have := e01 (M - 1) hl
      rw [show 1 + (M - 1) = M by omega] at this
      rw [this, show M = k + 1 + (M - k - 1) by omega, k2]
    · refine ⟨B, ?_, b2⟩
      have := b1 (M - 1)
      rw [show 1 + (M - 1) = M by omega] at this
      exact this
  have rows : ∀ {C : zA}, fr (qSm 3) A C → ∀ q, q < 4 → q ≠ 3 → RP C (4 + q) (Q.2.1 q) (Q.2.2 q) ∧ (Q.2.1 q).length ≤ 240 := fun {C} f q hq hq3 => ⟨(c6 q hq).1.fr (c6 q hq).2 f (fun a j z => nS_row hq3 z), (c6 q hq).2⟩
  cases hs : tss Tx L (tst Tx L true Q.1 5) 120 (a, [], 7) with
  | none =>
    have e : tmn Tx L a Q = none := by unfold tmn; rw [hs]; rfl
    rw [e]
    obtain ⟨k, B, k1, k2, k3, k4, k5, k6⟩ := o2 hs
    have k1 : k + a ≤ L + 1 := k1
    have rd : RRd A B none := ⟨k3.mono (fun a j z => qS_P (by decide) z), RL1_put (rows k3) k5 k6, fun _ => k4, fun Q' z => by cases z⟩
    refine run none ⟨k, B, k1, k2, rd⟩ ?_
    rcases Nat.lt_or_ge a L with q | q
    · exact Or.inl q
    · have : tss Tx L (tst Tx L true Q.1 5) 120 (a, [], 7) = some (a, [], 7) := by
        show (if a < L ∧ Tx a ≠ 125 then _ else _) = _
        rw [if_neg (by omega)]
      rw [this] at hs
      cases hs
  | some t =>
    have e : tmn Tx L a Q = if t.1 < L then none else some (updG Q 3 t.2.1 t.2.2) := by
      unfold tmn
      rw [hs, Option.bind_some]
    rw [e]
    obtain ⟨k, B, k1, k2, k3, k4, k5⟩ := o1 t hs
    have k1 : k + a ≤ t.1 := k1
    obtain ⟨ht, hpa⟩ := k4.2 t rfl
    have a3 := hpa.2.2.1
    have hx := hpa.2.2.2.1
    have hl5 := hpa.2.2.2.2.1
    have h17B : zi B 226 17 = 0 := k5.1
    by_cases c : t.1 < L
    · rw [if_pos c]
      -- a brace at the top
      have t125 : Tx t.1 = 125 := by
        rcases Decidable.em (Tx t.1 = 125) with q | q
        · exact q
        · exact absurd ⟨c, q⟩ (o3 t hs)
      obtain ⟨C, d1, d2, d3, d4⟩ := r_st1 (N := N) (mb := true) (cl := Q.1) (Kf := fun _ => none) hN hT (by decide) (by decide) (by rw [if_pos rfl]) c (by rw [t125]; decide) (by rw [t125]; decide) k4 k5
      have eB : tsB Tx true Q.1 (fun _ => none) t = none := by
        unfold tsB
        rw [t125]
        rfl
      rw [eB] at d3
      obtain ⟨x1, x2, x3, x4, x5, x6⟩ := d3.1 rfl
      have fC : fr (qSm 3) A (zsi C 226 16 1) := (k3.trans d2).trans (fr_si (Or.inl ⟨rfl, by omega⟩))
      refine run none ⟨k + 1, zsi C 226 16 1, by omega, fun m => ?_, ⟨fC.mono (fun a j z => qS_P (by decide) z), RL1_put (rows fC) (by rw [ri_si_o (by decide)]; exact x5) (by rw [ri_si_o (by decide)]; omega), fun _ => by rw [zi_si_s]; decide, fun Q' z => by cases z⟩⟩ (Or.inl (by omega))
      rw [show k + 1 + 1 + m = k + (1 + (1 + m)) by omega, k2, Nat.add_comm 1 (1 + m)]
      show z_M_parse_63_b (z_M_parse_63_l N (1 + m)) N 1 B = _
      rw [body_top k4 c k5, d1, zbV_s, p63_fail x1]
    · rw [if_neg c]
      have fin : ∀ (D : zA), fr (qSm 3) A D → RP D (4 + 3) t.2.1 t.2.2 → zi D 226 16 = 0 → zi D 226 15 = Q.1 → RRd A D (some (updG Q 3 t.2.1 t.2.2)) := fun D fD x3 x16 x15 => by
        have rw' : ∀ q, q < 4 → RP D (4 + q) ((updG Q 3 t.2.1 t.2.2).2.1 q) ((updG Q 3 t.2.1 t.2.2).2.2 q) ∧ ((updG Q 3 t.2.1 t.2.2).2.1 q).length ≤ 240 := fun q hq => by
          unfold updG
          by_cases e : q = 3
          · simp only [if_pos e]
            rw [e]
            exact ⟨x3, by omega⟩
          · simp only [if_neg e]
            exact rows fD q hq e
        refine ⟨fD.mono (fun a j z => qS_P (by decide) z), RL1_of rw', fun z => (by cases z), fun Q' z => ?_⟩
        cases z
        exact ⟨x16, x15, fun q hq => (rw' q hq).1⟩
      have end' : ∀ y m, z_M_parse_63_l N (1 + m) y B = some (zsi B 226 16 0) := fun y m => r_end hpa.1 (by rw [hpa.2.1, ht.1]; omega) h17B m
      have f6 : fr (fun a j => a = 226 ∧ j = 16) B (zsi B 226 16 0) := fr_si ⟨rfl, rfl⟩
      have rdB := fin (zsi B 226 16 0) (k3.trans (f6.mono (fun a j z => Or.inl ⟨z.1, by omega⟩))) (hx.fr (by omega) f6 (fun a j z q => by rw [z.1] at q; exact nqRo226 q)) (by rw [zi_si_s]; decide) (by rw [zi_si_j (by decide)]; exact k5.2.2.2)
      refine run _ ⟨k, zsi B 226 16 0, by omega, fun m => by rw [Nat.add_assoc, k2, end'], rdB⟩ ?_
      rcases Nat.lt_or_ge a L with q | q
      · exact Or.inl q
      · have : tss Tx L (tst Tx L true Q.1 5) 120 (a, [], 7) = some (a, [], 7) := by
          show (if a < L ∧ Tx a ≠ 125 then _ else _) = _
          rw [if_neg (by omega)]
        rw [this] at hs
        cases hs
        refine Or.inr ⟨zsi A 226 16 0, fun m => r_end c2 (by omega) h17 m, ?_⟩
        have f7 : fr (fun a j => a = 226 ∧ j = 16) A (zsi A 226 16 0) := fr_si ⟨rfl, rfl⟩
        have x3 := (hy.2 _ rfl).2.2.2.2.1
        exact fin (zsi A 226 16 0) (f7.mono (fun a j z => Or.inl ⟨z.1, by omega⟩)) (x3.fr (show (0 : Nat) ≤ 240 by decide) f7 (fun a j z q => by rw [z.1] at q; exact nqRo226 q)) (by rw [zi_si_s]; decide) (by rw [zi_si_j (by decide)]; exact h15)
end
