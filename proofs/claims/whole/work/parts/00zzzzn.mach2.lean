/-! the machine finds what the expression says -/
def MFa (Tx : Nat → Int) (mb : Bool) (L : Nat) (F : Ps → Option (Int × Ps)) (P : List Int → Prop) (E : Ps → Prop) : Prop := ∀ (σ π : List Int) (s : Ps), P σ → s.1 ≤ L → 7 ≤ s.2.2 → (∀ w, F s = some w → mR Tx mb 1 (σ, π, s) 0 (σ, w.1 :: π, w.2) ∧ E w.2) ∧ (F s = none → mN Tx mb 1 (σ, π, s))
section
variable {Tx : Nat → Int} {L m : Nat} {mb : Bool} {F : Ps → Option (Int × Ps)} {E : Ps → Prop}
theorem opc_cases (c : Int) : (opc c = -1 ∧ c ≠ 43 ∧ c ≠ 45 ∧ c ≠ 42 ∧ c ≠ 47 ∧ c ≠ 60 ∧ c ≠ 61) ∨ (c = 43 ∧ opc c = 0) ∨ (c = 45 ∧ opc c = 1) ∨ (c = 42 ∧ opc c = 2) ∨ (c = 47 ∧ opc c = 3) ∨ (c = 60 ∧ opc c = 4) ∨ (c = 61 ∧ opc c = 5) := by
  unfold opc
  repeat' split
  all_goals omega
theorem mkk_le (c : Int) : mkk (opc c) ≤ 3 ∧ (c ≠ 42 → c ≠ 47 → mkk (opc c) ≤ 2) ∧ (opc c < 0 → mkk (opc c) = 1) := by
  refine ⟨(mkk_rg _).2, fun h1 h2 => ?_, fun h => by unfold mkk; rw [if_pos h]⟩
  rcases opc_cases c with h | h | h | h | h | h | h
  · rw [h.1]; decide
  · rw [h.2]; decide
  · rw [h.2]; decide
  · exact absurd h.1 h1
  · exact absurd h.1 h2
  · rw [h.2]; decide
  · rw [h.2]; decide
theorem low_op {k op : Int} {σ : List Int} (h0 : 0 ≤ op) (hk : str op < k) : low k ((10 + op) :: σ) := Or.inr ⟨_, _, rfl, by omega, fun _ => by rw [show 10 + op - 10 = op by omega]; exact hk⟩
theorem nst_op {op : Int} {σ : List Int} (h0 : 0 ≤ op) : nst ((10 + op) :: σ) = nst σ := by
  show (if 10 + op < 10 then 1 else 0) + nst σ = _
  rw [if_neg (by omega), Nat.zero_add]
/-- an operator is laid on the stack -/
theorem mbe_lay {k : Int} {σ π : List Int} {s : Ps} (h : 0 ≤ opc (Tx s.1)) (hs : str (opc (Tx s.1)) = k) (h2 : 2 ≤ k) (hl : low k σ) : mbe Tx (σ, π, s) = some (1, ((10 + opc (Tx s.1)) :: σ, π, tav s)) := by
  show (if opc (Tx s.1) < 0 then _ else mop (opc (Tx s.1)) (prd (mkk (opc (Tx s.1))) σ π s)) = _
  have e : mkk (opc (Tx s.1)) = k := by
    unfold mkk
    rw [if_neg (by omega), if_neg (by omega)]
    exact hs
  rw [if_neg (by omega), e, hl.prd (Int.le_refl _)]
  unfold mop
  rw [if_neg (fun q => by have := q.1; omega)]
theorem m_lo {c1 c2 o1 o2 k : Int} (hT : TXT Tx L) (e1 : opc c1 = o1) (e2 : opc c2 = o2) (z1 : 0 ≤ o1 ∧ o1 ≤ 5) (z2 : 0 ≤ o2 ∧ o2 ≤ 5) (s1 : str o1 = k) (s2 : str o2 = k) (n1 : c1 ≠ 0) (n2 : c2 ≠ 0) (hk : 2 ≤ k) (hF : tg L F) (hM : MFa Tx mb L F (fun σ => low (k + 1) σ ∧ nst σ = m) E) (hE : ∀ s, E s → mkk (opc (Tx s.1)) ≤ k) (hEs : ∀ s s' : Ps, s.1 = s'.1 → E s → E s') : ∀ (n : Nat) (σ π : List Int) (w : Int × Ps), L ≤ w.2.1 + n → w.2.1 ≤ L → 7 ≤ w.2.2.2 → tgV w → low k σ → nst σ = m → E w.2 → (∀ u, tlo Tx c1 c2 o1 o2 F n w = some u → mR Tx mb 0 (σ, w.1 :: π, w.2) 0 (σ, u.1 :: π, u.2) ∧ E u.2 ∧ Tx u.2.1 ≠ c1 ∧ Tx u.2.1 ≠ c2) ∧ (tlo Tx c1 c2 o1 o2 F n w = none → mN Tx mb 0 (σ, w.1 :: π, w.2))
  | 0, σ, π, w, hn, hL, h7, hv, hl, hm, hw => by
    refine ⟨fun u h => ?_, fun h => by cases h⟩
    cases h
    have := hT.2.2 w.2.1 (by omega)
    rw [this]
    exact ⟨mR.refl, hw, n1.symm, n2.symm⟩
  | n + 1, σ, π, w, hn, hL, h7, hv, hl, hm, hw => by
    have e : tlo Tx c1 c2 o1 o2 F (n + 1) w = if Tx w.2.1 = c1 ∨ Tx w.2.1 = c2 then (F (tav w.2)).bind fun u => tlo Tx c1 c2 o1 o2 F n (twk (if Tx w.2.1 = c1 then o1 else o2) w.1 u.1 u.2) else some w := rfl
    rw [e]
    by_cases c : Tx w.2.1 = c1 ∨ Tx w.2.1 = c2
    · rw [if_pos c]
      have hlt : w.2.1 < L := hT.lt (k := w.2.1) (by rcases c with c | c <;> rw [c] <;> assumption)
      obtain ⟨op, hop, hop0, hop5, hops, hopi⟩ : ∃ op, opc (Tx w.2.1) = op ∧ 0 ≤ op ∧ op ≤ 5 ∧ str op = k ∧ (if Tx w.2.1 = c1 then o1 else o2) = op := by
        by_cases c' : Tx w.2.1 = c1
        · exact ⟨o1, by rw [c']; exact e1, z1.1, z1.2, s1, if_pos c'⟩
        · have c2' : Tx w.2.1 = c2 := c.resolve_left c'
          exact ⟨o2, by rw [c2']; exact e2, z2.1, z2.2, s2, if_neg c'⟩
      rw [hopi]
      have st := mbe_lay (Tx := Tx) (σ := σ) (π := w.1 :: π) (s := w.2) (k := k) (by rw [hop]; exact hop0) (by rw [hop]; exact hops) hk hl
      rw [hop] at st
      have r1 : mR Tx mb 0 (σ, w.1 :: π, w.2) 1 ((10 + op) :: σ, w.1 :: π, tav w.2) := mR.b st (by show w.2.1 < w.2.1 + 1; omega)
      obtain ⟨g1, g2⟩ := hM ((10 + op) :: σ) (w.1 :: π) (tav w.2) ⟨low_op hop0 (by omega), by rw [nst_op hop0]; exact hm⟩ hlt h7
      cases hf : F (tav w.2) with
      | none => exact ⟨fun u h => (by cases h), fun _ => r1.none (g2 hf)⟩
      | some z =>
        obtain ⟨f1, f2, f3⟩ := hF (tav w.2) z hlt h7 hf
        obtain ⟨r2, hz⟩ := g1 z hf
        have g3 : w.2.2.2 ≤ z.2.2.2 := f2.2.2.1
        unfold tgV at hv f3
        obtain ⟨k1, k2⟩ := tgR.wk (L := L) (s := z.2) (o := op) (x := w.1) (y := z.1) f2.2.1 (by omega) (by omega) ⟨hop0, hop5⟩
        have g4 := k1.2.2.1
        have r3 : mR Tx mb 0 ((10 + op) :: σ, z.1 :: w.1 :: π, z.2) 0 (σ, (twk op w.1 z.1 z.2).1 :: π, (twk op w.1 z.1 z.2).2) := mR.eq (mbe_op hop0 (by rw [hops]; exact hE _ hz)) (Nat.le_refl _)
        have f1 : w.2.1 + 1 < z.2.1 := f1
        obtain ⟨i1, i2⟩ := m_lo hT e1 e2 z1 z2 s1 s2 n1 n2 hk hF hM hE hEs n σ π (twk op w.1 z.1 z.2) (by show L ≤ z.2.1 + n; omega) k1.2.1 (by omega) k2 hl hm (hEs z.2 _ rfl hz)
        have r := (r1.trans r2).trans r3
        rw [Option.bind_some]
        exact ⟨fun u h => ⟨r.trans (i1 u h).1, (i1 u h).2⟩, fun h => r.none (i2 h)⟩
    · rw [if_neg c]
      refine ⟨fun u h => ?_, fun h => by cases h⟩
      cases h
      exact ⟨mR.refl, hw, fun q => c (Or.inl q), fun q => c (Or.inr q)⟩
def E3 (Tx : Nat → Int) (s : Ps) : Prop := Tx s.1 ≠ 42 ∧ Tx s.1 ≠ 47
def E2 (Tx : Nat → Int) (s : Ps) : Prop := E3 Tx s ∧ Tx s.1 ≠ 43 ∧ Tx s.1 ≠ 45
theorem m_pr (hT : TXT Tx L) (hF : tg L F) (hM : MFa Tx mb L F (fun σ => low 4 σ ∧ nst σ = m) (fun _ => True)) : MFa Tx mb L (tpr Tx F) (fun σ => low 3 σ ∧ nst σ = m) (E3 Tx) := fun σ π s hp hL h7 => by
  obtain ⟨g1, g2⟩ := hM σ π s ⟨hp.1.mono (by decide), hp.2⟩ hL h7
  unfold tpr
  cases hf : F s with
  | none => exact ⟨fun u h => (by cases h), fun _ => g2 hf⟩
  | some w =>
    obtain ⟨f1, f2, f3⟩ := hF s w hL h7 hf
    have t1 := hT.1
    have g3 := f2.2.2.1
    obtain ⟨i1, i2⟩ := m_lo (mb := mb) (c1 := 42) (c2 := 47) (o1 := 2) (o2 := 3) (k := 3) (E := fun _ => True) (m := m) hT (by decide) (by decide) (by decide) (by decide) (by decide) (by decide) (by decide) (by decide) (by decide) hF hM (fun s _ => (mkk_le _).1) (fun _ _ _ _ => trivial) 120 σ π w (by omega) f2.2.1 (by omega) f3 hp.1 hp.2 trivial
    rw [Option.bind_some]
    exact ⟨fun u h => ⟨(g1 w hf).1.trans (i1 u h).1, (i1 u h).2.2⟩, fun h => (g1 w hf).1.none (i2 h)⟩
theorem m_sm (hT : TXT Tx L) (hF : tg L F) (hM : MFa Tx mb L F (fun σ => low 4 σ ∧ nst σ = m) (fun _ => True)) : MFa Tx mb L (tsm Tx F) (fun σ => low 2 σ ∧ nst σ = m) (E2 Tx) := fun σ π s hp hL h7 => by
  have hP := m_pr hT hF hM
  have hG := tg_pr hT hF
  obtain ⟨g1, g2⟩ := hP σ π s ⟨hp.1.mono (by decide), hp.2⟩ hL h7
  unfold tsm
  cases hf : tpr Tx F s with
  | none => exact ⟨fun u h => (by cases h), fun _ => g2 hf⟩
  | some w =>
    obtain ⟨f1, f2, f3⟩ := hG s w hL h7 hf
    have t1 := hT.1
    have g3 := f2.2.2.1
    obtain ⟨i1, i2⟩ := m_lo (mb := mb) (c1 := 43) (c2 := 45) (o1 := 0) (o2 := 1) (k := 2) (E := E3 Tx) (m := m) hT (by decide) (by decide) (by decide) (by decide) (by decide) (by decide) (by decide) (by decide) (by decide) hG hP (fun s hs => (mkk_le _).2.1 hs.1 hs.2) (fun s s' e h => by unfold E3 at *; rw [← e]; exact h) 120 σ π w (by omega) f2.2.1 (by omega) f3 hp.1 hp.2 (g1 w hf).2
    rw [Option.bind_some]
    exact ⟨fun u h => ⟨(g1 w hf).1.trans (i1 u h).1, (i1 u h).2.1, (i1 u h).2.2⟩, fun h => (g1 w hf).1.none (i2 h)⟩
/-- an expression: what comes next is no operator, or it fails -/
def MFx (Tx : Nat → Int) (mb : Bool) (L m : Nat) (F : Ps → Option (Int × Ps)) : Prop := ∀ (σ π : List Int) (s : Ps), low 1 σ → nst σ = m → s.1 ≤ L → 7 ≤ s.2.2 → (∀ w, F s = some w → (opc (Tx w.2.1) < 0 ∧ mR Tx mb 1 (σ, π, s) 0 (σ, w.1 :: π, w.2)) ∨ ((Tx w.2.1 = 60 ∨ Tx w.2.1 = 61) ∧ mN Tx mb 1 (σ, π, s))) ∧ (F s = none → mN Tx mb 1 (σ, π, s))
theorem low1_head {σ : List Int} (h : low 1 σ) : ¬ 14 ≤ σ.headD 0 := by
  rcases h with rfl | ⟨o, σ', rfl, h2, h3⟩
  · decide
  · show ¬ 14 ≤ o
    intro q
    have := h3 (by omega)
    have := (str_rg (o - 10)).1
    omega
theorem m_xp (hT : TXT Tx L) (hF : tg L F) (hM : MFa Tx mb L F (fun σ => low 4 σ ∧ nst σ = m) (fun _ => True)) : MFx Tx mb L m (txp Tx F) := fun σ π s hl hm hL h7 => by
  have hS := m_sm hT hF hM
  have hG := tg_sm hT hF
  obtain ⟨g1, g2⟩ := hS σ π s ⟨hl.mono (by decide), hm⟩ hL h7
  unfold txp
  cases hf : tsm Tx F s with
  | none => exact ⟨fun u h => (by cases h), fun _ => g2 hf⟩
  | some w =>
    obtain ⟨f1, f2, f3⟩ := hG s w hL h7 hf
    obtain ⟨r1, e1⟩ := g1 w hf
    unfold E2 E3 at e1
    rw [Option.bind_some]
    by_cases c : Tx w.2.1 = 60 ∨ Tx w.2.1 = 61
    · rw [if_pos c]
      have hlt : w.2.1 < L := hT.lt (k := w.2.1) (by rcases c with c | c <;> rw [c] <;> decide)
      obtain ⟨op, hop, hop4, hopi⟩ : ∃ op, opc (Tx w.2.1) = op ∧ (op = 4 ∨ op = 5) ∧ (if Tx w.2.1 = 60 then (4 : Int) else 5) = op := by
        by_cases c' : Tx w.2.1 = 60
        · exact ⟨4, by rw [c']; decide, Or.inl rfl, if_pos c'⟩
        · have c2' : Tx w.2.1 = 61 := c.resolve_left c'
          exact ⟨5, by rw [c2']; decide, Or.inr rfl, if_neg c'⟩
      have hops : str op = 1 := by rcases hop4 with rfl | rfl <;> decide
      have hm2 : mkk op = 2 := by rcases hop4 with rfl | rfl <;> decide
      rw [hopi]
      have st : mbe Tx (σ, w.1 :: π, w.2) = some (1, ((10 + op) :: σ, w.1 :: π, tav w.2)) := by
        show (if opc (Tx w.2.1) < 0 then _ else mop (opc (Tx w.2.1)) (prd (mkk (opc (Tx w.2.1))) σ (w.1 :: π) w.2)) = _
        rw [hop, if_neg (by omega), hm2, hl.prd (by decide)]
        unfold mop
        rw [if_neg (fun q => low1_head hl q.2)]
      have r2 : mR Tx mb 0 (σ, w.1 :: π, w.2) 1 ((10 + op) :: σ, w.1 :: π, tav w.2) := mR.b st (by show w.2.1 < w.2.1 + 1; omega)
      have g3 := f2.2.2.1
      have l2 : low 2 ((10 + op) :: σ) := low_op (by omega) (by omega)
      obtain ⟨g4, g5⟩ := hS ((10 + op) :: σ) (w.1 :: π) (tav w.2) ⟨l2, by rw [nst_op (by omega)]; exact hm⟩ hlt (by show 7 ≤ w.2.2.2; omega)
      cases hz : tsm Tx F (tav w.2) with
      | none => exact ⟨fun u h => (by cases h), fun _ => (r1.trans r2).none (g5 hz)⟩
      | some z =>
        obtain ⟨r3, e3⟩ := g4 z hz
        unfold E2 E3 at e3
        rw [Option.bind_some]
        refine ⟨fun u h => ?_, fun h => by cases h⟩
        cases h
        by_cases c2 : Tx z.2.1 = 60 ∨ Tx z.2.1 = 61
        · refine Or.inr ⟨c2, ((r1.trans r2).trans r3).none (mN.b ?_)⟩
          obtain ⟨o2, h2, h24⟩ : ∃ o2, opc (Tx z.2.1) = o2 ∧ (o2 = 4 ∨ o2 = 5) := by
            rcases c2 with c2 | c2
            · exact ⟨4, by rw [c2]; decide, Or.inl rfl⟩
            · exact ⟨5, by rw [c2]; decide, Or.inr rfl⟩
          show (if opc (Tx z.2.1) < 0 then _ else mop (opc (Tx z.2.1)) (prd (mkk (opc (Tx z.2.1))) ((10 + op) :: σ) (z.1 :: w.1 :: π) z.2)) = _
          have m2 : mkk o2 = 2 := by rcases h24 with rfl | rfl <;> decide
          rw [h2, if_neg (by omega), m2, l2.prd (by decide)]
          unfold mop
          rw [if_pos ⟨by rcases h24 with rfl | rfl <;> decide, by show 14 ≤ 10 + op; omega⟩]
        · have hn : opc (Tx z.2.1) < 0 := by
            rcases opc_cases (Tx z.2.1) with h | h | h | h | h | h | h
            · omega
            · exact absurd h.1 e3.2.1
            · exact absurd h.1 e3.2.2
            · exact absurd h.1 e3.1.1
            · exact absurd h.1 e3.1.2
            · exact absurd (Or.inl h.1) c2
            · exact absurd (Or.inr h.1) c2
          refine Or.inl ⟨hn, ((r1.trans r2).trans r3).trans (mR.eq (mbe_op (by omega) ?_) (Nat.le_refl _))⟩
          rw [(mkk_le _).2.2 hn, hops]
          decide
    · rw [if_neg c]
      refine ⟨fun u h => ?_, fun h => by cases h⟩
      cases h
      refine Or.inl ⟨?_, r1⟩
      rcases opc_cases (Tx w.2.1) with h | h | h | h | h | h | h
      · omega
      · exact absurd h.1 e1.2.1
      · exact absurd h.1 e1.2.2
      · exact absurd h.1 e1.1.1
      · exact absurd h.1 e1.1.2
      · exact absurd (Or.inl h.1) c
      · exact absurd (Or.inr h.1) c
theorem pwh_at : ∀ (σ π : List Int) (s : Ps), (pwh σ π s).2.2.1 = s.1
  | [], π, s => rfl
  | o :: σ, [], s => rfl
  | o :: σ, [y], s => rfl
  | o :: σ, y :: x :: π, s => by
    show (if o = 0 then pwh σ ((twk 1 x y s).1 :: π) (twk 1 x y s).2 else (o :: σ, y :: x :: π, s)).2.2.1 = s.1
    split
    · rw [pwh_at σ]; rfl
    · rfl
/-- a closing bracket -/
theorem mbe_cl {σ π : List Int} {s : Ps} (hn : opc (Tx s.1) < 0) (hl : low 1 σ) : mbe Tx (σ, π, s) = mcl Tx (σ, π, s) := by
  show (if opc (Tx s.1) < 0 then mcl Tx (prd 1 σ π s) else _) = _
  rw [if_pos hn, hl.prd (Int.le_refl _)]
theorem m_fa (hT : TXT Tx L) : ∀ (n : Nat) (σ π : List Int) (s : Ps), nst σ + n = 5 → s.1 ≤ L → 7 ≤ s.2.2 → (∀ w, tfa Tx mb (n + 1) s = some w → mR Tx mb 1 (σ, π, s) 0 (pwh σ (w.1 :: π) w.2)) ∧ (tfa Tx mb (n + 1) s = none → mN Tx mb 1 (σ, π, s))
  | n, σ, π, s, hn, hL, h7 => by
    have et : tfa Tx mb (n + 1) s = tfB Tx mb (tfa Tx mb n) s := rfl
    rw [et]
    have fin : ∀ w : Int × Ps, tfB Tx mb (tfa Tx mb n) s = some w → mfa Tx mb (σ, π, s) = some (0, pwh σ (w.1 :: π) w.2) → s.1 < w.2.1 → (∀ w, tfB Tx mb (tfa Tx mb n) s = some w → mR Tx mb 1 (σ, π, s) 0 (pwh σ (w.1 :: π) w.2)) ∧ (tfB Tx mb (tfa Tx mb n) s = none → mN Tx mb 1 (σ, π, s)) := fun w h1 h2 h3 => by
      rw [h1]
      refine ⟨fun u h => ?_, fun h => by cases h⟩
      cases h
      exact mR.f h2 (by show s.1 < (pwh σ (w.1 :: π) w.2).2.2.1; rw [pwh_at]; exact h3)
    by_cases cd : 48 ≤ Tx s.1 ∧ Tx s.1 ≤ 57
    · have g5 := (tdg_rg hT 5 0 s.1 (by decide) hL).2.2.2.2 (by decide) cd.1 cd.2
      exact fin (tcn (tdg Tx 5 0 s.1).1 ((tdg Tx 5 0 s.1).2, s.2)) (by unfold tfB; rw [if_pos cd]) (by unfold mfa; rw [if_pos cd]) g5
    by_cases cv : 97 ≤ Tx s.1 ∧ Tx s.1 ≤ 102
    · exact fin (Tx s.1 - 97, tav s) (by unfold tfB; rw [if_neg cd, if_pos cv]) (by unfold mfa; rw [if_neg cd, if_pos cv]) (by show s.1 < s.1 + 1; omega)
    by_cases cx : Tx s.1 = 120 ∧ mb = false
    · exact fin (6, tav s) (by unfold tfB; rw [if_neg cd, if_neg cv, if_pos cx]) (by unfold mfa; rw [if_neg cd, if_neg cv, if_pos cx]) (by show s.1 < s.1 + 1; omega)
    have em : mfa Tx mb (σ, π, s) = if nst σ < 5 then (if Tx s.1 = 40 then some (1, (1 :: σ, π, tav s)) else if Tx s.1 = 65 ∧ Tx (s.1 + 1) = 91 then some (1, (2 :: σ, π, tav (tav s))) else if Tx s.1 = 45 then some (1, (0 :: σ, (tcn 0 (tav s)).1 :: π, (tcn 0 (tav s)).2)) else none) else none := by
      unfold mfa
      rw [if_neg cd, if_neg cv, if_neg cx]
    cases n with
    | zero =>
      have e0 : tfB Tx mb (tfa Tx mb 0) s = none := tfB_0 cd cv cx
      rw [e0]
      exact ⟨fun u h => (by cases h), fun _ => mN.f (by rw [em, if_neg (by omega)])⟩
    | succ n =>
      rw [if_pos (by omega)] at em
      have IH := m_fa hT n
      have hF : MFa Tx mb L (tfa Tx mb (n + 1)) (fun σ => low 4 σ ∧ nst σ = 5 - n) (fun _ => True) := fun σ π s hp hL h7 => by
        obtain ⟨i1, i2⟩ := IH σ π s (by have := hp.2; omega) hL h7
        refine ⟨fun w h => ⟨?_, trivial⟩, i2⟩
        have := i1 w h
        rw [hp.1.pwh] at this
        exact this
      have hX := m_xp hT (tg_fa hT (n + 1)) hF
      by_cases c40 : Tx s.1 = 40
      · have hlt : s.1 < L := hT.lt (k := s.1) (by rw [c40]; decide)
        rw [if_pos c40] at em
        have r1 : mR Tx mb 1 (σ, π, s) 1 (1 :: σ, π, tav s) := mR.f em (by show s.1 < s.1 + 1; omega)
        have l1 : low 1 (1 :: σ) := Or.inr ⟨1, σ, rfl, by decide, fun q => absurd q (by decide)⟩
        obtain ⟨x1, x2⟩ := hX (1 :: σ) π (tav s) l1 (by show (if (1 : Int) < 10 then 1 else 0) + nst σ = _; rw [if_pos (by decide)]; omega) hlt h7
        unfold tfB
        rw [if_neg cd, if_neg cv, if_neg cx, if_pos c40]
        cases hz : txp Tx (tfa Tx mb (n + 1)) (tav s) with
        | none => exact ⟨fun u h => (by cases h), fun _ => r1.none (x2 hz)⟩
        | some w =>
          rw [Option.bind_some]
          rcases x1 w hz with ⟨y1, y2⟩ | ⟨y1, y2⟩
          · have eb : mbe Tx (1 :: σ, w.1 :: π, w.2) = mcl Tx (1 :: σ, w.1 :: π, w.2) := mbe_cl y1 l1
            by_cases c41 : Tx w.2.1 = 41
            · have e4 : tex Tx 41 w.2 = some (tav w.2) := by unfold tex; rw [if_pos c41]
              rw [e4, Option.bind_some]
              refine ⟨fun u h => ?_, fun h => by cases h⟩
              cases h
              refine (r1.trans y2).trans (mR.b (u := (0, pwh σ (w.1 :: π) (tav w.2))) ?_ ?_)
              · rw [eb]
                show (if Tx w.2.1 = 41 ∧ (1 : Int) = 1 then _ else _) = _
                rw [if_pos ⟨c41, rfl⟩]
              · show w.2.1 < (pwh σ (w.1 :: π) (tav w.2)).2.2.1
                rw [pwh_at]
                show w.2.1 < w.2.1 + 1
                omega
            · have e4 : tex Tx 41 w.2 = none := by unfold tex; rw [if_neg c41]
              rw [e4]
              refine ⟨fun u h => (by cases h), fun _ => (r1.trans y2).none (mN.b ?_)⟩
              rw [eb]
              show (if Tx w.2.1 = 41 ∧ (1 : Int) = 1 then _ else if Tx w.2.1 = 93 ∧ (1 : Int) = 2 then _ else _) = _
              rw [if_neg (fun q => c41 q.1), if_neg (fun q => absurd q.2 (by decide))]
          · have e4 : tex Tx 41 w.2 = none := by unfold tex; rw [if_neg (by omega)]
            rw [e4]
            exact ⟨fun u h => (by cases h), fun _ => r1.none y2⟩
      rw [if_neg c40] at em
      by_cases c45 : Tx s.1 = 45
      · have hlt : s.1 < L := hT.lt (k := s.1) (by rw [c45]; decide)
        rw [if_neg (by omega), if_pos c45] at em
        have r1 : mR Tx mb 1 (σ, π, s) 1 (0 :: σ, (tcn 0 (tav s)).1 :: π, (tcn 0 (tav s)).2) := mR.f em (by show s.1 < s.1 + 1; omega)
        obtain ⟨i1, i2⟩ := IH (0 :: σ) ((tcn 0 (tav s)).1 :: π) (tcn 0 (tav s)).2 (by show (if (0 : Int) < 10 then 1 else 0) + nst σ + n = _; rw [if_pos (by decide)]; omega) hlt (by show 7 ≤ s.2.2 + 1; omega)
        unfold tfB
        rw [if_neg cd, if_neg cv, if_neg cx, if_neg c40, if_pos c45]
        cases hz : tfa Tx mb (n + 1) (tcn 0 (tav s)).2 with
        | none => exact ⟨fun u h => (by cases h), fun _ => r1.none (i2 hz)⟩
        | some w =>
          rw [Option.bind_some]
          refine ⟨fun u h => ?_, fun h => by cases h⟩
          cases h
          exact r1.trans (i1 w hz)
      by_cases c65 : Tx s.1 = 65
      · have hlt : s.1 < L := hT.lt (k := s.1) (by rw [c65]; decide)
        unfold tfB
        rw [if_neg cd, if_neg cv, if_neg cx, if_neg c40, if_neg c45, if_pos c65]
        by_cases c91 : Tx (s.1 + 1) = 91
        · have hlt2 : s.1 + 1 < L := hT.lt (k := s.1 + 1) (by rw [c91]; decide)
          have e9 : tex Tx 91 (tav s) = some (tav (tav s)) := by
            exact if_pos c91
          rw [if_pos ⟨c65, c91⟩] at em
          rw [e9, Option.bind_some]
          have r1 : mR Tx mb 1 (σ, π, s) 1 (2 :: σ, π, tav (tav s)) := mR.f em (by show s.1 < s.1 + 1 + 1; omega)
          have l1 : low 1 (2 :: σ) := Or.inr ⟨2, σ, rfl, by decide, fun q => absurd q (by decide)⟩
          obtain ⟨x1, x2⟩ := hX (2 :: σ) π (tav (tav s)) l1 (by show (if (2 : Int) < 10 then 1 else 0) + nst σ = _; rw [if_pos (by decide)]; omega) hlt2 h7
          cases hz : txp Tx (tfa Tx mb (n + 1)) (tav (tav s)) with
          | none => exact ⟨fun u h => (by cases h), fun _ => r1.none (x2 hz)⟩
          | some w =>
            rw [Option.bind_some]
            rcases x1 w hz with ⟨y1, y2⟩ | ⟨y1, y2⟩
            · have eb : mbe Tx (2 :: σ, w.1 :: π, w.2) = mcl Tx (2 :: σ, w.1 :: π, w.2) := mbe_cl y1 l1
              by_cases c93 : Tx w.2.1 = 93
              · have e4 : tex Tx 93 w.2 = some (tav w.2) := by unfold tex; rw [if_pos c93]
                rw [e4, Option.bind_some]
                refine ⟨fun u h => ?_, fun h => by cases h⟩
                cases h
                refine (r1.trans y2).trans (mR.b (u := (0, pwh σ ((tge w.1 (tav w.2)).1 :: π) (tge w.1 (tav w.2)).2)) ?_ ?_)
                · rw [eb]
                  show (if Tx w.2.1 = 41 ∧ (2 : Int) = 1 then _ else if Tx w.2.1 = 93 ∧ (2 : Int) = 2 then some (0, pwh σ ((tge w.1 (tav w.2)).1 :: π) (tge w.1 (tav w.2)).2) else _) = _
                  rw [if_neg (fun q => absurd q.2 (by decide)), if_pos ⟨c93, rfl⟩]
                · show w.2.1 < (pwh σ ((tge w.1 (tav w.2)).1 :: π) (tge w.1 (tav w.2)).2).2.2.1
                  rw [pwh_at]
                  show w.2.1 < w.2.1 + 1
                  omega
              · have e4 : tex Tx 93 w.2 = none := by unfold tex; rw [if_neg c93]
                rw [e4]
                refine ⟨fun u h => (by cases h), fun _ => (r1.trans y2).none (mN.b ?_)⟩
                rw [eb]
                show (if Tx w.2.1 = 41 ∧ (2 : Int) = 1 then _ else if Tx w.2.1 = 93 ∧ (2 : Int) = 2 then _ else _) = _
                rw [if_neg (fun q => absurd q.2 (by decide)), if_neg (fun q => c93 q.1)]
            · have e4 : tex Tx 93 w.2 = none := by unfold tex; rw [if_neg (by omega)]
              rw [e4]
              exact ⟨fun u h => (by cases h), fun _ => r1.none y2⟩
        · have e9 : tex Tx 91 (tav s) = none := by
            exact if_neg c91
          rw [if_neg (fun q => c91 q.2), if_neg c45] at em
          rw [e9]
          exact ⟨fun u h => (by cases h), fun _ => mN.f em⟩
      rw [if_neg (fun q => c65 q.1), if_neg c45] at em
      unfold tfB
      rw [if_neg cd, if_neg cv, if_neg cx, if_neg c40, if_neg c45, if_neg c65]
      exact ⟨fun u h => (by cases h), fun _ => mN.f em⟩
/-- what the machine ends with -/
theorem m_x {N : Nat} {s : Ps} (hN : 300 ≤ N) (hT : TXT Tx L) (hL : s.1 ≤ L) (h7 : 7 ≤ s.2.2) : (∀ w, tx Tx mb s = some w → (Tx w.2.1 ≠ 60 ∧ Tx w.2.1 ≠ 61 ∧ mrun Tx mb N 1 ([], [], s) = some ([], [w.1], w.2)) ∨ ((Tx w.2.1 = 60 ∨ Tx w.2.1 = 61) ∧ mrun Tx mb N 1 ([], [], s) = none)) ∧ (tx Tx mb s = none → mrun Tx mb N 1 ([], [], s) = none) := by
  have hF : MFa Tx mb L (tfa Tx mb 6) (fun σ => low 4 σ ∧ nst σ = 0) (fun _ => True) := fun σ π s hp hL h7 => by
    obtain ⟨i1, i2⟩ := m_fa (mb := mb) hT 5 σ π s (by have := hp.2; omega) hL h7
    refine ⟨fun w h => ⟨?_, trivial⟩, i2⟩
    have := i1 w h
    rw [hp.1.pwh] at this
    exact this
  have l1 : low 1 [] := Or.inl rfl
  obtain ⟨x1, x2⟩ := m_xp hT (tg_fa hT 6) hF [] [] s l1 rfl hL h7
  refine ⟨fun w h => ?_, fun h => x2 h N⟩
  rcases x1 w h with ⟨y1, ⟨k, k1, k2⟩⟩ | ⟨y1, y2⟩
  · refine Or.inl ⟨fun q => ?_, fun q => ?_, ?_⟩
    · rw [q] at y1; exact absurd y1 (by decide)
    · rw [q] at y1; exact absurd y1 (by decide)
    · have k1 : k + s.1 ≤ w.2.1 := k1
      have := (tg_x hT s w hL h7 h).2.1.2.1
      have := hT.1
      obtain ⟨j, rfl⟩ : ∃ j, N = k + (j + 1 + 1) := ⟨N - k - 2, by omega⟩
      rw [k2, mrun_0, mbe_cl y1 l1]
      rfl
  · exact Or.inr ⟨y1, y2 N⟩
end
