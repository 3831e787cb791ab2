/-! what an expression adds -/
def okE (c g : Nat) (i : It) : Prop := 0 ≤ i.1 ∧ i.1 ≤ 12 ∧ (∀ j : Nat, j < nbk i.1 → isr i.1 j → 0 ≤ ig i (j + 1) ∧ ig i (j + 1) < g) ∧ (i.1 = 0 → 0 ≤ ig i 2 ∧ ig i 2 ≤ 99999) ∧ (i.1 = 2 → 0 ≤ ig i 4 ∧ ig i 4 ≤ 5) ∧ (i.1 = 7 → 0 ≤ ig i 2 ∧ ig i 2 < c)
theorem okE.g {c g g' : Nat} {i : It} (h : okE c g i) (hg : g ≤ g') : okE c g' i := ⟨h.1, h.2.1, fun j hj hr => by have := h.2.2.1 j hj hr; omega, h.2.2.2⟩
theorem okE.c {c c' g : Nat} {i : It} (h : okE c g i) (hc : i.1 = 7 → c ≤ c') : okE c' g i := ⟨h.1, h.2.1, h.2.2.1, h.2.2.2.1, h.2.2.2.2.1, fun q => by have := h.2.2.2.2.2 q; have := hc q; omega⟩
theorem okE.I {T p c g : Nat} {i : It} (h : okE c g i) (hg : g ≤ 60) (h1 : c ≤ T) (h2 : c ≤ p) (h3 : c ≤ 3) : okI T p g i := by
  obtain ⟨k1, k2, k3, k4, k5, k6⟩ := h
  refine ⟨k1, k2, fun j hj => ?_, k5, fun q => by have := k6 q; omega⟩
  by_cases c' : isr i.1 j
  · have := k3 j hj c'
    exact ⟨by omega, by omega, fun _ => this⟩
  · refine ⟨?_, ?_, fun q => absurd q c'⟩ <;> unfold isr at c' <;> by_cases e0 : i.1 = 0 ∧ j = 1
    · have := k4 e0.1; rw [e0.2]; show _ ≤ ig i 2; omega
    · by_cases e2 : i.1 = 2 ∧ j = 3
      · have := k5 e2.1; rw [e2.2]; show _ ≤ ig i 4; omega
      · have e7 : i.1 = 7 ∧ j = 1 := by omega
        have := k6 e7.1; rw [e7.2]; show _ ≤ ig i 2; omega
    · have := k4 e0.1; rw [e0.2]; show ig i 2 < _; omega
    · by_cases e2 : i.1 = 2 ∧ j = 3
      · have := k5 e2.1; rw [e2.2]; show ig i 4 < _; omega
      · have e7 : i.1 = 7 ∧ j = 1 := by omega
        have := k6 e7.1; rw [e7.2]; show ig i 2 < _; omega
def tgR (L : Nat) (s s' : Ps) : Prop := s.1 ≤ s'.1 ∧ s'.1 ≤ L ∧ s.2.2 ≤ s'.2.2 ∧ ∃ Y : List It, s'.2.1 = s.2.1 ++ Y ∧ ∀ i ∈ Y, (0 ≤ i.1 ∧ i.1 ≤ 6) ∧ okE 0 s'.2.2 i
def tgV (w : Int × Ps) : Prop := 0 ≤ w.1 ∧ w.1 < w.2.2.2
def tg (L : Nat) (F : Ps → Option (Int × Ps)) : Prop := ∀ s w, s.1 ≤ L → 7 ≤ s.2.2 → F s = some w → s.1 < w.2.1 ∧ tgR L s w.2 ∧ tgV w
section
variable {Tx : Nat → Int} {L : Nat} {mb : Bool}
theorem tgR.refl {s : Ps} (h : s.1 ≤ L) : tgR L s s := ⟨Nat.le_refl _, h, Nat.le_refl _, [], by simp, fun i hi => by cases hi⟩
theorem tgR.trans {s t u : Ps} (h : tgR L s t) (g : tgR L t u) : tgR L s u := by
  obtain ⟨h1, h2, h3, Y, h4, h5⟩ := h
  obtain ⟨g1, g2, g3, Z, g4, g5⟩ := g
  refine ⟨by omega, g2, by omega, Y ++ Z, by rw [g4, h4, List.append_assoc], fun i hi => ?_⟩
  rcases List.mem_append.mp hi with q | q
  · exact ⟨(h5 i q).1, (h5 i q).2.g g3⟩
  · exact g5 i q
theorem tgR.av {s : Ps} (h : s.1 < L) : tgR L s (tav s) := ⟨by show s.1 ≤ s.1 + 1; omega, h, Nat.le_refl _, [], by simp [tav], fun i hi => by cases hi⟩
theorem tgR.one {s : Ps} {i : It} (h : s.1 ≤ L) (hk : 0 ≤ i.1 ∧ i.1 ≤ 6) (ho : okE 0 (s.2.2 + 1) i) : tgR L s (s.1, s.2.1 ++ [i], s.2.2 + 1) := ⟨Nat.le_refl _, h, by show s.2.2 ≤ s.2.2 + 1; omega, [i], rfl, fun j hj => by
  rw [List.mem_singleton] at hj
  rw [hj]
  exact ⟨hk, ho⟩⟩
theorem tgR.wk {s : Ps} {o x y : Int} (h : s.1 ≤ L) (hx : 0 ≤ x ∧ x < s.2.2) (hy : 0 ≤ y ∧ y < s.2.2) (ho : 0 ≤ o ∧ o ≤ 5) : tgR L s (twk o x y s).2 ∧ tgV (twk o x y s) := by
  refine ⟨tgR.one h (by show (0 : Int) ≤ 2 ∧ (2 : Int) ≤ 6; decide) ?_, by show (0 : Int) ≤ (s.2.2 : Int) ∧ (s.2.2 : Int) < ((s.2.2 + 1 : Nat) : Int); omega⟩
  refine ⟨(by decide : (0 : Int) ≤ 2), (by decide : (2 : Int) ≤ 12), fun j hj hr => ?_, fun q => absurd q (by decide : ¬ (2 : Int) = 0), fun _ => ho, fun q => absurd q (by decide : ¬ (2 : Int) = 7)⟩
  have hj : j < 4 := hj
  rcases (show j = 0 ∨ j = 1 ∨ j = 2 ∨ j = 3 by omega) with rfl | rfl | rfl | rfl
  · show 0 ≤ (s.2.2 : Int) ∧ (s.2.2 : Int) < _; omega
  · show 0 ≤ x ∧ x < _; omega
  · show 0 ≤ y ∧ y < _; omega
  · exact absurd hr (fun z => z.2.1 ⟨rfl, rfl⟩)
theorem tgR.cn {s : Ps} {v : Int} (h : s.1 ≤ L) (hv : 0 ≤ v ∧ v ≤ 99999) : tgR L s (tcn v s).2 ∧ tgV (tcn v s) := by
  refine ⟨tgR.one h (by show (0 : Int) ≤ 0 ∧ (0 : Int) ≤ 6; decide) ?_, by show (0 : Int) ≤ (s.2.2 : Int) ∧ (s.2.2 : Int) < ((s.2.2 + 1 : Nat) : Int); omega⟩
  refine ⟨(by decide : (0 : Int) ≤ 0), (by decide : (0 : Int) ≤ 12), fun j hj hr => ?_, fun _ => hv, fun q => absurd q (by decide : ¬ (0 : Int) = 2), fun q => absurd q (by decide : ¬ (0 : Int) = 7)⟩
  have hj : j < 2 := hj
  rcases (show j = 0 ∨ j = 1 by omega) with rfl | rfl
  · show 0 ≤ (s.2.2 : Int) ∧ (s.2.2 : Int) < _; omega
  · exact absurd hr (fun z => z.1 ⟨rfl, rfl⟩)
theorem tgR.ge {s : Ps} {x : Int} (h : s.1 ≤ L) (hx : 0 ≤ x ∧ x < s.2.2) : tgR L s (tge x s).2 ∧ tgV (tge x s) := by
  refine ⟨tgR.one h (by show (0 : Int) ≤ 3 ∧ (3 : Int) ≤ 6; decide) ?_, by show (0 : Int) ≤ (s.2.2 : Int) ∧ (s.2.2 : Int) < ((s.2.2 + 1 : Nat) : Int); omega⟩
  refine ⟨(by decide : (0 : Int) ≤ 3), (by decide : (3 : Int) ≤ 12), fun j hj hr => ?_, fun q => absurd q (by decide : ¬ (3 : Int) = 0), fun q => absurd q (by decide : ¬ (3 : Int) = 2), fun q => absurd q (by decide : ¬ (3 : Int) = 7)⟩
  have hj : j < 2 := hj
  rcases (show j = 0 ∨ j = 1 by omega) with rfl | rfl
  · show 0 ≤ (s.2.2 : Int) ∧ (s.2.2 : Int) < _; omega
  · show 0 ≤ x ∧ x < _; omega
theorem tex_some {c : Int} {s u : Ps} (h : tex Tx c s = some u) : Tx s.1 = c ∧ u = tav s := by
  unfold tex at h
  split at h
  · next q => cases h; exact ⟨q, rfl⟩
  · cases h
theorem tgR.ex {c : Int} {s u : Ps} (hT : TXT Tx L) (hc : c ≠ 0) (h : tex Tx c s = some u) : s.1 < L ∧ s.1 < u.1 ∧ u.2 = s.2 ∧ tgR L s u := by
  obtain ⟨h1, rfl⟩ := tex_some h
  have := hT.lt (k := s.1) (by rw [h1]; exact hc)
  exact ⟨this, by show s.1 < s.1 + 1; omega, rfl, tgR.av this⟩
theorem tg_lo {c1 c2 o1 o2 : Int} {F : Ps → Option (Int × Ps)} (hT : TXT Tx L) (hc1 : c1 ≠ 0) (hc2 : c2 ≠ 0) (ho1 : 0 ≤ o1 ∧ o1 ≤ 5) (ho2 : 0 ≤ o2 ∧ o2 ≤ 5) (hF : tg L F) : ∀ (n : Nat) (w u : Int × Ps), w.2.1 ≤ L → 7 ≤ w.2.2.2 → tgV w → tlo Tx c1 c2 o1 o2 F n w = some u → tgR L w.2 u.2 ∧ tgV u
  | 0, w, u, hL, h7, hv, h => by
    cases h
    exact ⟨tgR.refl hL, hv⟩
  | n + 1, w, u, hL, h7, hv, h => by
    have h : (if Tx w.2.1 = c1 ∨ Tx w.2.1 = c2 then (F (tav w.2)).bind fun u => tlo Tx c1 c2 o1 o2 F n (twk (if Tx w.2.1 = c1 then o1 else o2) w.1 u.1 u.2) else some w) = some u := h
    split at h
    · next c =>
      have hl : w.2.1 < L := hT.lt (k := w.2.1) (by rcases c with c | c <;> rw [c] <;> assumption)
      have a1 := tgR.av hl
      cases hf : F (tav w.2) with
      | none => rw [hf] at h; cases h
      | some z =>
        rw [hf, Option.bind_some] at h
        obtain ⟨f1, f2, f3⟩ := hF (tav w.2) z (by show w.2.1 + 1 ≤ L; omega) h7 hf
        have g1 : w.2.2.2 ≤ z.2.2.2 := f2.2.2.1
        unfold tgV at hv f3
        obtain ⟨k1, k2⟩ := tgR.wk (L := L) (s := z.2) (o := if Tx w.2.1 = c1 then o1 else o2) (x := w.1) (y := z.1) f2.2.1 (by omega) (by omega) (by split <;> assumption)
        have g3 := k1.2.2.1
        obtain ⟨i1, i2⟩ := tg_lo hT hc1 hc2 ho1 ho2 hF n _ u k1.2.1 (by omega) k2 h
        exact ⟨(a1.trans f2).trans (k1.trans i1), i2⟩
    · cases h
      exact ⟨tgR.refl hL, hv⟩
theorem tg_bd {F : Ps → Option (Int × Ps)} {G : Int × Ps → Option (Int × Ps)} (hF : tg L F) (hG : ∀ w u, w.2.1 ≤ L → 7 ≤ w.2.2.2 → tgV w → G w = some u → tgR L w.2 u.2 ∧ tgV u) : tg L (fun s => (F s).bind G) := fun s u hL h7 h => by
  have h : (F s).bind G = some u := h
  cases hf : F s with
  | none => rw [hf] at h; cases h
  | some w =>
    rw [hf, Option.bind_some] at h
    obtain ⟨f1, f2, f3⟩ := hF s w hL h7 hf
    have g1 := f2.2.2.1
    obtain ⟨g2, g3⟩ := hG w u f2.2.1 (by omega) f3 h
    exact ⟨by have := g2.1; omega, f2.trans g2, g3⟩
theorem tg_pr {F : Ps → Option (Int × Ps)} (hT : TXT Tx L) (hF : tg L F) : tg L (tpr Tx F) := tg_bd hF (fun w u => tg_lo hT (by decide) (by decide) (by decide) (by decide) hF 120 w u)
theorem tg_sm {F : Ps → Option (Int × Ps)} (hT : TXT Tx L) (hF : tg L F) : tg L (tsm Tx F) := tg_bd (tg_pr hT hF) (fun w u => tg_lo hT (by decide) (by decide) (by decide) (by decide) (tg_pr hT hF) 120 w u)
theorem tg_xp {F : Ps → Option (Int × Ps)} (hT : TXT Tx L) (hF : tg L F) : tg L (txp Tx F) := tg_bd (tg_sm hT hF) (fun w u hL h7 hv h => by
  split at h
  · next c =>
    have hl : w.2.1 < L := hT.lt (k := w.2.1) (by rcases c with c | c <;> rw [c] <;> decide)
    cases hf : tsm Tx F (tav w.2) with
    | none => rw [hf] at h; cases h
    | some z =>
      rw [hf, Option.bind_some] at h
      cases h
      obtain ⟨f1, f2, f3⟩ := tg_sm hT hF (tav w.2) z hl h7 hf
      have g1 : w.2.2.2 ≤ z.2.2.2 := f2.2.2.1
      unfold tgV at hv f3
      obtain ⟨k1, k2⟩ := tgR.wk (L := L) (s := z.2) (o := if Tx w.2.1 = 60 then 4 else 5) (x := w.1) (y := z.1) f2.2.1 (by omega) (by omega) (by split <;> decide)
      exact ⟨((tgR.av hl).trans f2).trans k1, k2⟩
  · cases h
    exact ⟨tgR.refl hL, hv⟩)
theorem tg_fB {F : Ps → Option (Int × Ps)} (hT : TXT Tx L) (hF : tg L F) : tg L (tfB Tx mb F) := fun s u hL h7 h => by
  unfold tfB at h
  have lt : ∀ c : Int, c ≠ 0 → Tx s.1 = c → s.1 < L := fun c hc e => hT.lt (k := s.1) (by rw [e]; exact hc)
  split at h
  · next c =>
    cases h
    obtain ⟨g1, g2, g3, g4, g5⟩ := tdg_rg hT 5 0 s.1 (by decide) hL
    have g5 := g5 (by decide) c.1 c.2
    have g2 : (tdg Tx 5 0 s.1).1 + 1 ≤ 100000 := g2
    obtain ⟨k1, k2⟩ := tgR.cn (L := L) (s := ((tdg Tx 5 0 s.1).2, s.2)) (v := (tdg Tx 5 0 s.1).1) g4 ⟨g1, by omega⟩
    refine ⟨g5, tgR.trans (t := ((tdg Tx 5 0 s.1).2, s.2)) ⟨g3, g4, Nat.le_refl _, [], by simp, fun i hi => by cases hi⟩ k1, k2⟩
  · split at h
    · next c =>
      cases h
      have hl : s.1 < L := hT.lt (k := s.1) (by omega)
      refine ⟨by show s.1 < s.1 + 1; omega, tgR.av hl, ?_⟩
      show 0 ≤ Tx s.1 - 97 ∧ Tx s.1 - 97 < (s.2.2 : Int)
      omega
    · split at h
      · next c =>
        cases h
        have hl : s.1 < L := lt 120 (by decide) c.1
        refine ⟨by show s.1 < s.1 + 1; omega, tgR.av hl, ?_⟩
        show (0 : Int) ≤ 6 ∧ (6 : Int) < (s.2.2 : Int)
        omega
      · split at h
        · next c =>
          have hl : s.1 < L := lt 40 (by decide) c
          cases hf : txp Tx F (tav s) with
          | none => rw [hf] at h; cases h
          | some z =>
            rw [hf, Option.bind_some] at h
            obtain ⟨f1, f2, f3⟩ := tg_xp hT hF (tav s) z hl h7 hf
            cases he : tex Tx 41 z.2 with
            | none => rw [he] at h; cases h
            | some y =>
              rw [he, Option.bind_some] at h
              cases h
              obtain ⟨e1, e2, e3, e4⟩ := tgR.ex hT (by decide) he
              have f1 : s.1 + 1 < z.2.1 := f1
              refine ⟨by show s.1 < y.1; omega, ((tgR.av hl).trans f2).trans e4, ?_⟩
              show 0 ≤ z.1 ∧ z.1 < (y.2.2 : Int)
              rw [e3]; exact f3
        · split at h
          · next c =>
            have hl : s.1 < L := lt 45 (by decide) c
            obtain ⟨k1, k2⟩ := tgR.cn (L := L) (s := tav s) (v := 0) hl (by decide)
            have g1 : s.2.2 ≤ (tcn 0 (tav s)).2.2.2 := k1.2.2.1
            cases hf : F (tcn 0 (tav s)).2 with
            | none => rw [hf] at h; cases h
            | some z =>
              rw [hf, Option.bind_some] at h
              cases h
              obtain ⟨f1, f2, f3⟩ := hF (tcn 0 (tav s)).2 z hl (by omega) hf
              have g2 := f2.2.2.1
              unfold tgV at k2 f3
              obtain ⟨m1, m2⟩ := tgR.wk (L := L) (s := z.2) (o := 1) (x := (tcn 0 (tav s)).1) (y := z.1) f2.2.1 (by omega) (by omega) (by decide)
              have f1 : s.1 + 1 < z.2.1 := f1
              exact ⟨by show s.1 < z.2.1; omega, (((tgR.av hl).trans k1).trans f2).trans m1, m2⟩
          · split at h
            · next c =>
              have hl : s.1 < L := lt 65 (by decide) c
              cases he : tex Tx 91 (tav s) with
              | none => rw [he] at h; cases h
              | some s1 =>
                rw [he, Option.bind_some] at h
                obtain ⟨e1, e2, e3, e4⟩ := tgR.ex hT (by decide) he
                cases hf : txp Tx F s1 with
                | none => rw [hf] at h; cases h
                | some z =>
                  rw [hf, Option.bind_some] at h
                  obtain ⟨f1, f2, f3⟩ := tg_xp hT hF s1 z e4.2.1 (by rw [e3]; exact h7) hf
                  cases hg : tex Tx 93 z.2 with
                  | none => rw [hg] at h; cases h
                  | some y =>
                    rw [hg, Option.bind_some] at h
                    cases h
                    obtain ⟨x1, x2, x3, x4⟩ := tgR.ex hT (by decide) hg
                    unfold tgV at f3
                    obtain ⟨m1, m2⟩ := tgR.ge (L := L) (s := y) (x := z.1) x4.2.1 (by rw [x3]; exact f3)
                    have e2 : s.1 + 1 < s1.1 := e2
                    exact ⟨by show s.1 < y.1; omega, ((((tgR.av hl).trans e4).trans f2).trans x4).trans m1, m2⟩
            · cases h
theorem tg_fa (hT : TXT Tx L) : ∀ n, tg L (tfa Tx mb n)
  | 0 => fun s w _ _ h => by cases h
  | n + 1 => tg_fB hT (tg_fa hT n)
theorem tg_x (hT : TXT Tx L) : tg L (tx Tx mb) := tg_xp hT (tg_fa hT 6)
end
