/-! what a statement adds -/
def ndc (q : Int) : Nat := if q = 0 then 4 else if q = 1 then 9 else if q = 2 then 14 else 1
theorem ndc_rg (q : Int) : 1 ≤ ndc q ∧ ndc q ≤ 20 := by
  unfold ndc
  repeat' split
  all_goals omega
theorem ndc_le {q : Int} {c : Nat} (h0 : 0 ≤ q) (h1 : q < c) (h2 : c ≤ 3) : ndc q + 1 ≤ 5 * c := by
  unfold ndc
  repeat' split
  all_goals omega
def tsR (L cl n : Nat) (s s' : Ps) : Prop := s.1 ≤ s'.1 ∧ s'.1 ≤ L ∧ s.2.2 ≤ s'.2.2 ∧ ∃ Y : List It, s'.2.1 = s.2.1 ++ Y ∧ bal ndc n Y ∧ ∀ i ∈ Y, okE cl s'.2.2 i
theorem okE_mk {c g : Nat} {k a b : Int} (hk : 0 ≤ k ∧ k ≤ 12 ∧ k ≠ 0 ∧ k ≠ 2) (ha : 1 ≤ nbk k → 0 ≤ a ∧ a < g) (hb : 2 ≤ nbk k → k ≠ 7 → 0 ≤ b ∧ b < g) (h7 : k = 7 → 0 ≤ b ∧ b < c) : okE c g (k, a, b, 0, 0) := by
  refine ⟨hk.1, hk.2.1, fun j hj hr => ?_, fun q => absurd q hk.2.2.1, fun q => absurd q hk.2.2.2, h7⟩
  have hj : j < nbk k := hj
  have h2 : nbk k ≤ 2 := by
    unfold nbk
    rw [if_neg hk.2.2.2]
    repeat' split
    all_goals omega
  rcases (show j = 0 ∨ j = 1 by omega) with rfl | rfl
  · exact ha (by omega)
  · refine hb (by omega) (fun q => ?_)
    exact hr.2.2 ⟨q, rfl⟩
section
variable {Tx : Nat → Int} {L cl n : Nat} {mb : Bool}
theorem tsR.refl {s : Ps} (h : s.1 ≤ L) : tsR L cl n s s := ⟨Nat.le_refl _, h, Nat.le_refl _, [], by simp, bal_nil n, fun i hi => by cases hi⟩
theorem tsR.trans {s t u : Ps} (h : tsR L cl n s t) (g : tsR L cl n t u) : tsR L cl n s u := by
  obtain ⟨h1, h2, h3, Y, h4, h5, h6⟩ := h
  obtain ⟨g1, g2, g3, Z, g4, g5, g6⟩ := g
  refine ⟨by omega, g2, by omega, Y ++ Z, by rw [g4, h4, List.append_assoc], bal_app h5 g5, fun i hi => ?_⟩
  rcases List.mem_append.mp hi with q | q
  · exact (h6 i q).g g3
  · exact g6 i q
theorem tgR.s {s t : Ps} (h : tgR L s t) : tsR L cl n s t := by
  obtain ⟨h1, h2, h3, Y, h4, h5⟩ := h
  exact ⟨h1, h2, h3, Y, h4, bal_plain (fun i hi => (h5 i hi).1), fun i hi => (h5 i hi).2.c (fun q => by have := (h5 i hi).1; omega)⟩
theorem tsR.ad {s : Ps} {i : It} (h : s.1 ≤ L) (hl : lf ndc n i) (ho : okE cl s.2.2 i) : tsR L cl n s (tad i s) := ⟨Nat.le_refl _, h, Nat.le_refl _, [i], rfl, bal_one hl, fun j hj => by
  rw [List.mem_singleton] at hj
  rw [hj]
  exact ho⟩
theorem lf_pl {i : It} (h : 0 ≤ i.1 ∧ i.1 ≤ 6) : lf ndc n i := Or.inl h
/-- statements, one after another -/
theorem ts_ss {S : Ps → Option Ps} (hS : ∀ s s', s.1 < L → 7 ≤ s.2.2 → S s = some s' → s.1 < s'.1 ∧ tsR L cl n s s') : ∀ (k : Nat) (s s' : Ps), s.1 ≤ L → 7 ≤ s.2.2 → tss Tx L S k s = some s' → tsR L cl n s s'
  | 0, s, s', hL, h7, h => by cases h; exact tsR.refl hL
  | k + 1, s, s', hL, h7, h => by
    have h : (if s.1 < L ∧ Tx s.1 ≠ 125 then (S s).bind (tss Tx L S k) else some s) = some s' := h
    split at h
    · next c =>
      cases hs : S s with
      | none => rw [hs] at h; cases h
      | some t =>
        rw [hs, Option.bind_some] at h
        obtain ⟨g1, g2⟩ := hS s t c.1 h7 hs
        have g3 := g2.2.2.1
        exact g2.trans (ts_ss hS k t s' g2.2.1 (by omega) h)
    · cases h; exact tsR.refl hL
theorem ts_bk {S : Ps → Option Ps} (hT : TXT Tx L) (hS : ∀ s s', s.1 < L → 7 ≤ s.2.2 → S s = some s' → s.1 < s'.1 ∧ tsR L cl n s s') {s s' : Ps} (hL : s.1 ≤ L) (h7 : 7 ≤ s.2.2) (h : tbk Tx L S s = some s') : s.1 < s'.1 ∧ tsR L cl n s s' := by
  unfold tbk at h
  cases h1 : tex Tx 123 s with
  | none => rw [h1] at h; cases h
  | some t =>
    rw [h1, Option.bind_some] at h
    obtain ⟨e1, e2, e3, e4⟩ := tgR.ex hT (by decide) h1
    cases h2 : tss Tx L S 120 t with
    | none => rw [h2] at h; cases h
    | some u =>
      rw [h2, Option.bind_some] at h
      obtain ⟨f1, f2, f3, f4⟩ := tgR.ex hT (by decide) h
      have g := ts_ss hS 120 t u e4.2.1 (by rw [e3]; exact h7) h2
      exact ⟨by have := g.1; omega, (e4.s.trans g).trans f4.s⟩
theorem nbk_lits : nbk 6 = 1 ∧ nbk 5 = 1 ∧ nbk 4 = 2 ∧ nbk 8 = 1 ∧ nbk 9 = 0 ∧ nbk 12 = 0 ∧ nbk 7 = 2 ∧ nbk 10 = 0 ∧ nbk 11 = 1 ∧ nbk 1 = 2 := by decide
theorem ok_12 {c g : Nat} : okE c g (12, 0, 0, 0, 0) := okE_mk (by decide) (fun q => absurd q (by decide)) (fun q => absurd q (by decide)) (fun q => absurd q (by decide))
theorem ok_9 {c g : Nat} : okE c g (9, 0, 0, 0, 0) := okE_mk (by decide) (fun q => absurd q (by decide)) (fun q => absurd q (by decide)) (fun q => absurd q (by decide))
theorem ok_10 {c g : Nat} : okE c g (10, 0, 0, 0, 0) := okE_mk (by decide) (fun q => absurd q (by decide)) (fun q => absurd q (by decide)) (fun q => absurd q (by decide))
theorem ts_B {Kf : Ps → Option Ps} (hT : TXT Tx L) (hcl : cl ≤ 3) (hK : ∀ s s', s.1 ≤ L → 7 ≤ s.2.2 → Kf s = some s' → ∃ m, n = m + 1 ∧ s.1 < s'.1 ∧ tsR L cl (m + 5 * cl) s s') {s s' : Ps} (hL : s.1 < L) (h7 : 7 ≤ s.2.2) (h : tsB Tx mb cl Kf s = some s') : s.1 < s'.1 ∧ tsR L cl (n + 5 * cl) s s' := by
  have av := tgR.av hL
  have al : (tav s).1 ≤ L := hL
  have xx : ∀ (t : Ps) (w : Int × Ps), t.1 ≤ L → 7 ≤ t.2.2 → tx Tx mb t = some w → t.1 < w.2.1 ∧ tgR L t w.2 ∧ 0 ≤ w.1 ∧ w.1 < w.2.2.2 := fun t w h1 h2 h3 => tg_x hT t w h1 h2 h3
  unfold tsB at h
  split at h
  · -- !
    cases h1 : tx Tx mb (tav s) with
    | none => rw [h1] at h; cases h
    | some w =>
      rw [h1, Option.bind_some] at h
      obtain ⟨x1, x2, x3⟩ := xx _ w al h7 h1
      have x1 : s.1 + 1 < w.2.1 := x1
      obtain ⟨f1, f2, f3, f4⟩ := tgR.ex hT (by decide) h
      have a : tsR L cl (n + 5 * cl) w.2 (tad (6, w.1, 0, 0, 0) w.2) := tsR.ad x2.2.1 (lf_pl (by show (0 : Int) ≤ 6 ∧ (6 : Int) ≤ 6; decide)) (okE_mk (by decide) (fun _ => x3) (fun q => absurd q (by decide)) (fun q => absurd q (by decide)))
      have f2 : w.2.1 < s'.1 := f2
      exact ⟨by omega, ((av.s.trans x2.s).trans a).trans f4.s⟩
  · split at h
    · -- ?
      split at h
      · next c =>
        have hl2 : s.1 + 1 < L := hT.lt (k := s.1 + 1) (by omega)
        have av2 : tgR L (tav s) (tav (tav s)) := tgR.av hl2
        obtain ⟨f1, f2, f3, f4⟩ := tgR.ex hT (by decide) h
        have a : tsR L cl (n + 5 * cl) (tav (tav s)) (tad (5, Tx (s.1 + 1) - 97, 0, 0, 0) (tav (tav s))) := tsR.ad hl2 (lf_pl (by show (0 : Int) ≤ 5 ∧ (5 : Int) ≤ 6; decide)) (okE_mk (by decide) (fun _ => by show 0 ≤ Tx (s.1 + 1) - 97 ∧ Tx (s.1 + 1) - 97 < (s.2.2 : Int); omega) (fun q => absurd q (by decide)) (fun q => absurd q (by decide)))
        have f2 : s.1 + 1 + 1 < s'.1 := f2
        exact ⟨by omega, ((av.s.trans av2.s).trans a).trans f4.s⟩
      · cases h
    · split at h
      · -- A
        cases h0 : tex Tx 91 (tav s) with
        | none => rw [h0] at h; cases h
        | some s1 =>
          rw [h0, Option.bind_some] at h
          obtain ⟨e1, e2, e3, e4⟩ := tgR.ex hT (by decide) h0
          have g7 : s1.2.2 = s.2.2 := by rw [e3]; rfl
          cases h1 : tx Tx mb s1 with
          | none => rw [h1] at h; cases h
          | some w =>
            rw [h1, Option.bind_some] at h
            obtain ⟨x1, x2, x3⟩ := xx _ w e4.2.1 (by omega) h1
            cases h2 : tex Tx 93 w.2 with
            | none => rw [h2] at h; cases h
            | some s2 =>
              rw [h2, Option.bind_some] at h
              obtain ⟨k1, k2, k3, k4⟩ := tgR.ex hT (by decide) h2
              cases h3 : tex Tx 61 s2 with
              | none => rw [h3] at h; cases h
              | some s3 =>
                rw [h3, Option.bind_some] at h
                obtain ⟨l1, l2, l3, l4⟩ := tgR.ex hT (by decide) h3
                have g8 : s3.2.2 = w.2.2.2 := by rw [l3, k3]
                have g9 := x2.2.2.1
                cases h4 : tx Tx mb s3 with
                | none => rw [h4] at h; cases h
                | some u =>
                  rw [h4, Option.bind_some] at h
                  obtain ⟨y1, y2, y3⟩ := xx _ u l4.2.1 (by omega) h4
                  have g10 := y2.2.2.1
                  cases h5 : tex Tx 59 u.2 with
                  | none => rw [h5] at h; cases h
                  | some s4 =>
                    rw [h5, Option.bind_some] at h
                    obtain ⟨m1, m2, m3, m4⟩ := tgR.ex hT (by decide) h5
                    cases h
                    have g11 : s4.2.2 = u.2.2.2 := by rw [m3]
                    have a : tsR L cl (n + 5 * cl) s4 (tad (4, w.1, u.1, 0, 0) s4) := tsR.ad m4.2.1 (lf_pl (by show (0 : Int) ≤ 4 ∧ (4 : Int) ≤ 6; decide)) (okE_mk (by decide) (fun _ => by omega) (fun _ _ => by omega) (fun q => absurd q (by decide)))
                    have e2 : s.1 + 1 < s1.1 := e2
                    refine ⟨by show s.1 < s4.1; omega, ((((((av.s.trans e4.s).trans x2.s).trans k4.s).trans l4.s).trans y2.s).trans m4.s).trans a⟩
      · split at h
        · -- I
          cases h1 : tx Tx mb (tav s) with
          | none => rw [h1] at h; cases h
          | some w =>
            rw [h1, Option.bind_some] at h
            obtain ⟨x1, x2, x3⟩ := xx _ w al h7 h1
            have x1 : s.1 + 1 < w.2.1 := x1
            have gx : s.2.2 ≤ w.2.2.2 := x2.2.2.1
            cases h2 : Kf (tad (8, w.1, 0, 0, 0) w.2) with
            | none => rw [h2] at h; cases h
            | some s1 =>
              rw [h2, Option.bind_some] at h
              obtain ⟨m, hm, k1, k2⟩ := hK (tad (8, w.1, 0, 0, 0) w.2) s1 x2.2.1 (by show 7 ≤ w.2.2.2; omega) h2
              have gk : w.2.2.2 ≤ s1.2.2 := k2.2.2.1
              cases h3 : Kf (tad (9, 0, 0, 0, 0) s1) with
              | none => rw [h3] at h; cases h
              | some s2 =>
                rw [h3, Option.bind_some] at h
                obtain ⟨m', hm', l1, l2⟩ := hK (tad (9, 0, 0, 0, 0) s1) s2 k2.2.1 (by show 7 ≤ s1.2.2; omega) h3
                have gl : s1.2.2 ≤ s2.2.2 := l2.2.2.1
                have : m' = m := by omega
                subst this
                cases h
                obtain ⟨-, -, -, Y, ya, yb⟩ := x2
                obtain ⟨k01, k02, -, P, pa, pb, pc⟩ := k2
                obtain ⟨l01, l02, -, Q, qa, qb, qc⟩ := l2
                have k1 : w.2.1 < s1.1 := k1
                have l1 : s1.1 < s2.1 := l1
                refine ⟨by show s.1 < s2.1; omega, by show s.1 ≤ s2.1; omega, l02, by show s.2.2 ≤ s2.2.2; omega, Y ++ ((8, w.1, 0, 0, 0) :: (P ++ (9, 0, 0, 0, 0) :: (Q ++ (12, 0, 0, 0, 0) :: []))), ?_, bal_app (bal_plain (fun i hi => (yb i hi).1)) ?_, fun i hi => ?_⟩
                · have pa : s1.2.1 = (w.2.2.1 ++ [(8, w.1, 0, 0, 0)]) ++ P := pa
                  have qa : s2.2.1 = (s1.2.1 ++ [(9, 0, 0, 0, 0)]) ++ Q := qa
                  have ya : w.2.2.1 = s.2.1 ++ Y := ya
                  show s2.2.1 ++ [(12, 0, 0, 0, 0)] = _
                  rw [qa, pa, ya]
                  simp only [List.append_assoc, List.cons_append, List.nil_append]
                · rw [show n + 5 * cl = m' + 5 * cl + 1 by omega]
                  exact bal_if rfl rfl rfl pb qb (bal_nil _)
                · show okE cl s2.2.2 i
                  rcases List.mem_append.mp hi with z | z
                  · exact ((yb i z).2.g (show w.2.2.2 ≤ s2.2.2 by omega)).c (fun q => by have := (yb i z).1; omega)
                  · rcases List.mem_cons.mp z with z | z
                    · rw [z]
                      exact okE_mk (by decide) (fun _ => by omega) (fun q => absurd q (by decide)) (fun q => absurd q (by decide))
                    · rcases List.mem_append.mp z with z | z
                      · exact (pc i z).g gl
                      · rcases List.mem_cons.mp z with z | z
                        · rw [z]; exact ok_9
                        · rcases List.mem_append.mp z with z | z
                          · exact qc i z
                          · rw [List.mem_singleton] at z
                            rw [z]; exact ok_12
        · split at h
          · -- P
            next c =>
            split at h
            · next c2 =>
              cases h0 : tex Tx 40 (tav s) with
              | none => rw [h0] at h; cases h
              | some s1 =>
                rw [h0, Option.bind_some] at h
                obtain ⟨e1, e2, e3, e4⟩ := tgR.ex hT (by decide) h0
                have g7 : s1.2.2 = s.2.2 := by rw [e3]; rfl
                cases h1 : tx Tx mb s1 with
                | none => rw [h1] at h; cases h
                | some w =>
                  rw [h1, Option.bind_some] at h
                  obtain ⟨x1, x2, x3⟩ := xx _ w e4.2.1 (by omega) h1
                  cases h2 : tex Tx 41 w.2 with
                  | none => rw [h2] at h; cases h
                  | some s2 =>
                    rw [h2, Option.bind_some] at h
                    obtain ⟨k1, k2, k3, k4⟩ := tgR.ex hT (by decide) h2
                    cases h3 : tex Tx 59 s2 with
                    | none => rw [h3] at h; cases h
                    | some s3 =>
                      rw [h3, Option.bind_some] at h
                      obtain ⟨l1, l2, l3, l4⟩ := tgR.ex hT (by decide) h3
                      have g8 : s3.2.2 = w.2.2.2 := by rw [l3, k3]
                      cases h
                      have hn := ndc_le (q := Tx s.1 - 80) (c := cl) (by omega) c2 hcl
                      have a : tsR L cl (n + 5 * cl) s3 (tad (7, w.1, Tx s.1 - 80, 0, 0) s3) := tsR.ad l4.2.1 (Or.inr ⟨n + 5 * cl - 1, by omega, rfl, by show ndc (Tx s.1 - 80) ≤ n + 5 * cl - 1; omega⟩) (okE_mk (by decide) (fun _ => by omega) (fun _ q => absurd rfl q) (fun _ => by omega))
                      have e2 : s.1 + 1 < s1.1 := e2
                      exact ⟨by show s.1 < s3.1; omega, ((((av.s.trans e4.s).trans x2.s).trans k4.s).trans l4.s).trans a⟩
            · cases h
          · split at h
            · -- W
              cases h1 : tx Tx mb (tad (10, 0, 0, 0, 0) (tav s)) with
              | none => rw [h1] at h; cases h
              | some w =>
                rw [h1, Option.bind_some] at h
                obtain ⟨x1, x2, x3⟩ := xx (tad (10, 0, 0, 0, 0) (tav s)) w al h7 h1
                have x1 : s.1 + 1 < w.2.1 := x1
                have gx : s.2.2 ≤ w.2.2.2 := x2.2.2.1
                cases h2 : Kf (tad (11, w.1, 0, 0, 0) w.2) with
                | none => rw [h2] at h; cases h
                | some s1 =>
                  rw [h2, Option.bind_some] at h
                  obtain ⟨m, hm, k1, k2⟩ := hK (tad (11, w.1, 0, 0, 0) w.2) s1 x2.2.1 (by show 7 ≤ w.2.2.2; omega) h2
                  have gk : w.2.2.2 ≤ s1.2.2 := k2.2.2.1
                  cases h
                  obtain ⟨-, -, -, Y, ya, yb⟩ := x2
                  obtain ⟨k01, k02, -, P, pa, pb, pc⟩ := k2
                  have k1 : w.2.1 < s1.1 := k1
                  refine ⟨by show s.1 < s1.1; omega, by show s.1 ≤ s1.1; omega, k02, by show s.2.2 ≤ s1.2.2; omega, (10, 0, 0, 0, 0) :: (Y ++ (11, w.1, 0, 0, 0) :: (P ++ (12, 0, 0, 0, 0) :: [])), ?_, ?_, fun i hi => ?_⟩
                  · have pa : s1.2.1 = (w.2.2.1 ++ [(11, w.1, 0, 0, 0)]) ++ P := pa
                    have ya : w.2.2.1 = (s.2.1 ++ [(10, 0, 0, 0, 0)]) ++ Y := ya
                    show s1.2.1 ++ [(12, 0, 0, 0, 0)] = _
                    rw [pa, ya]
                    simp only [List.append_assoc, List.cons_append, List.nil_append]
                  · rw [show n + 5 * cl = m + 5 * cl + 1 by omega]
                    exact bal_wh rfl rfl rfl (fun i hi => (yb i hi).1) pb (bal_nil _)
                  · show okE cl s1.2.2 i
                    rcases List.mem_cons.mp hi with z | z
                    · rw [z]; exact ok_10
                    · rcases List.mem_append.mp z with z | z
                      · exact ((yb i z).2.g gk).c (fun q => by have := (yb i z).1; omega)
                      · rcases List.mem_cons.mp z with z | z
                        · rw [z]
                          exact okE_mk (by decide) (fun _ => by omega) (fun q => absurd q (by decide)) (fun q => absurd q (by decide))
                        · rcases List.mem_append.mp z with z | z
                          · exact pc i z
                          · rw [List.mem_singleton] at z
                            rw [z]; exact ok_12
            · split at h
              · -- x=
                next c =>
                cases h0 : tex Tx 61 (tav s) with
                | none => rw [h0] at h; cases h
                | some s1 =>
                  rw [h0, Option.bind_some] at h
                  obtain ⟨e1, e2, e3, e4⟩ := tgR.ex hT (by decide) h0
                  have g7 : s1.2.2 = s.2.2 := by rw [e3]; rfl
                  cases h1 : tx Tx mb s1 with
                  | none => rw [h1] at h; cases h
                  | some w =>
                    rw [h1, Option.bind_some] at h
                    obtain ⟨x1, x2, x3⟩ := xx _ w e4.2.1 (by omega) h1
                    have gx := x2.2.2.1
                    obtain ⟨f1, f2, f3, f4⟩ := tgR.ex hT (by decide) h
                    have a : tsR L cl (n + 5 * cl) w.2 (tad (1, Tx s.1 - 97, w.1, 0, 0) w.2) := tsR.ad x2.2.1 (lf_pl (by show (0 : Int) ≤ 1 ∧ (1 : Int) ≤ 6; decide)) (okE_mk (by decide) (fun _ => by omega) (fun _ _ => x3) (fun q => absurd q (by decide)))
                    have f2 : w.2.1 < s'.1 := f2
                    have e2 : s.1 + 1 < s1.1 := e2
                    exact ⟨by omega, (((av.s.trans e4.s).trans x2.s).trans a).trans f4.s⟩
              · cases h
theorem ts_st (hT : TXT Tx L) (hcl : cl ≤ 3) : ∀ (n : Nat) (s s' : Ps), s.1 < L → 7 ≤ s.2.2 → tst Tx L mb cl n s = some s' → s.1 < s'.1 ∧ tsR L cl (n + 5 * cl) s s'
  | 0, s, s', hL, h7, h => ts_B hT hcl (fun _ _ _ _ z => by cases z) hL h7 h
  | n + 1, s, s', hL, h7, h => ts_B hT hcl (fun t t' h1 h2 h3 => ⟨n, rfl, ts_bk hT (ts_st hT hcl n) h1 h2 h3⟩) hL h7 h
end
