section
variable {N : Nat} {A : zA} {w sc dp lv t z p k : Nat} {D : Nat → T} {s : St} {P : Pg} {ex : Nat → Prop}
theorem PrR.f {i : Nat} (h : PrR A z ex P) (hp : ex p) (hp3 : p ≤ 3) (hz : z < 3) (hk : k < P.2.2.2.1 p) (hl : P.2.2.2.1 p ≤ 150) (hi : i < nbk (P.1 p k)) : z_M_field N z p k ((i : Int) + 1) A = some (P.2.1 p k i) := by
  have := nbk_le (P.1 p k)
  rw [z_M_field_e (by omega) (by omega) (by omega) (by omega) (by omega) (by omega), ((h p hp).2 k hk).2.1 i hi]
theorem PrR.k0 (h : PrR A z ex P) (hp : ex p) (hp3 : p ≤ 3) (hz : z < 3) (hk : k < P.2.2.2.1 p) (hl : P.2.2.2.1 p ≤ 150) : z_M_field N z p k 0 A = some (P.1 p k) := by
  rw [z_M_field_e (by omega) (by omega) (by omega) (by omega) (by omega) (by omega), ((h p hp).2 k hk).1]
/-- what a step gives -/
def STP (N w sc dp lv t z p k : Nat) (D : Nat → T) (s s' : St) (A : zA) : Prop := ∃ (B : zA) (t' : Nat) (D' : Nat → T), z_M_step N w z p k A = some B ∧ RW B w sc dp lv t' D' s' ∧ t ≤ t' ∧ t' ≤ t + 1 ∧ (∀ i, i < t → D' i = D i) ∧ fr (qX w dp s.2.2.1.length) A B
theorem r_step (hN : 300000 ≤ N) (hP : PrR A z ex P) (hf : WfP P ex) (hp : ex p) (hp3 : p ≤ 3) (hz : z < 3) (hk : k < P.2.2.2.1 p) (h6 : P.1 p k ≤ 6) (h : RW A w sc dp lv t D s) (hw : w < 2) (hd : dp ≤ 3) (ht : t < 16000) (hl : sc = 0 → s.2.1.length < 999) (hy : s.2.2.1.length ≤ 900) (hI : s.2.2.2.2.1 < 20000) : STP N w sc dp lv t z p k D s (plS P (Nat.blt 0 sc) p k s) A := by
  obtain ⟨w1, w2, w3, w4⟩ := hf p hp
  obtain ⟨u1, u2, u3, u4, u5⟩ := w4 k hk
  have fp : ∀ {B C : zA}, fr (qP dp) B C → fr (qX w dp s.2.2.1.length) B C := fun f => f.mono (fun a j q => Or.inr (Or.inl q))
  have ft : ∀ {B C : zA}, fr qT B C → fr (qX w dp s.2.2.1.length) B C := fun f => f.mono (fun a j q => Or.inl q)
  have fd : ∀ {B C : zA}, fr (qD w s.2.2.1.length) B C → fr (qX w dp s.2.2.1.length) B C := fun f => f.mono (fun a j q => Or.inr (Or.inr (Or.inl q)))
  have fs : ∀ {B C : zA}, fr (qS w) B C → fr (qX w dp s.2.2.1.length) B C := fun f => fd (f.mono (fun a j q => Or.inl q))
  have e0 : z_M_field N z p k 0 A = some (P.1 p k) := hP.k0 hp hp3 hz hk w3
  have F : ∀ i : Nat, i < nbk (P.1 p k) → z_M_field N z p k ((i : Int) + 1) A = some (P.2.1 p k i) := fun i hi => hP.f hp hp3 hz hk w3 hi
  have e1 : ∃ v, z_M_field N z p k 1 A = some v := ⟨_, z_M_field_e (by omega) (by omega) (by omega) (by omega) (by omega) (by omega)⟩
  have e2 : ∃ v, z_M_field N z p k 2 A = some v := ⟨_, z_M_field_e (by omega) (by omega) (by omega) (by omega) (by omega) (by omega)⟩
  obtain ⟨a, e1⟩ := e1
  obtain ⟨b, e2⟩ := e2
  have rg : ∀ i : Nat, i < nbk (P.1 p k) → isr (P.1 p k) i → ∃ r : Nat, r < 61 ∧ P.2.1 p k i = r ∧ (P.2.1 p k i).toNat = r := fun i hi hs => by
    have := (u3 i hi).2.2 hs
    exact ⟨(P.2.1 p k i).toNat, by omega, by omega, rfl⟩
  unfold STP z_M_step
  rw [e0, e1, e2, zbP_s, zbP_s, zbP_s]
  unfold plS
  by_cases k0 : P.1 p k = 0
  · have nb : nbk (P.1 p k) = 2 := by rw [k0]; decide
    obtain ⟨r, r1, r2, r3⟩ := rg 0 (by omega) ⟨fun z => by omega, fun z => by omega, fun z => by omega⟩
    have ea : a = r := by have := F 0 (by omega); rw [show ((0 : Nat) : Int) + 1 = 1 from rfl, e1] at this; cases this; exact r2
    have eb : b = P.2.1 p k 1 := by have := F 1 (by omega); rw [show ((1 : Nat) : Int) + 1 = 2 from rfl, e2] at this; cases this; rfl
    have hv := u3 1 (by omega)
    simp only [if_pos k0]
    obtain ⟨j, t', B, D', b1, b2, b3, b4, b5, b6, b7, b8⟩ := r_make (k := 0) (x := P.2.1 p k 1) (y := 0) (z := 0) hN h.1 ht (Or.inl ⟨rfl, rfl, rfl⟩) (by decide) (by decide) (yb_w hv.1 hv.2.1) zwi0 zwi0
    obtain ⟨C, c1, c2, c3⟩ := r_set (N := N) (h.th b8 b2 b5 b7) hd r1 b3 b4
    rw [ea, eb, b1, zbI_s, c1, zbV_s, r3]
    exact ⟨C, t', D', rfl, c2, b5, b6, b7, (ft b8).trans (fp c3)⟩
  by_cases k1 : P.1 p k = 1
  · have nb : nbk (P.1 p k) = 2 := by rw [k1]; decide
    obtain ⟨r, r1, r2, r3⟩ := rg 0 (by omega) ⟨fun z => by omega, fun z => by omega, fun z => by omega⟩
    obtain ⟨q, q1, q2, q3⟩ := rg 1 (by omega) ⟨fun z => by omega, fun z => by omega, fun z => by omega⟩
    have ea : a = r := by have := F 0 (by omega); rw [show ((0 : Nat) : Int) + 1 = 1 from rfl, e1] at this; cases this; exact r2
    have eb : b = q := by have := F 1 (by omega); rw [show ((1 : Nat) : Int) + 1 = 2 from rfl, e2] at this; cases this; exact q2
    simp only [if_neg k0, if_pos k1]
    obtain ⟨j, j1, j2, j3⟩ := r_get (N := N) h hd q1
    obtain ⟨C, c1, c2, c3⟩ := r_set (N := N) h hd r1 j1 j3
    rw [ea, eb, j2, zbP_s, c1, zbV_s, r3, q3]
    exact ⟨C, t, D, rfl, c2, by omega, by omega, fun _ _ => rfl, fp c3⟩
  by_cases k2 : P.1 p k = 2
  · have nb : nbk (P.1 p k) = 4 := by rw [k2]; decide
    obtain ⟨r, r1, r2, r3⟩ := rg 0 (by omega) ⟨fun z => by omega, fun z => by omega, fun z => by omega⟩
    obtain ⟨q, q1, q2, q3⟩ := rg 1 (by omega) ⟨fun z => by omega, fun z => by omega, fun z => by omega⟩
    obtain ⟨v, v1, v2, v3⟩ := rg 2 (by omega) ⟨fun z => by omega, fun z => by omega, fun z => by omega⟩
    have ea : a = r := by have := F 0 (by omega); rw [show ((0 : Nat) : Int) + 1 = 1 from rfl, e1] at this; cases this; exact r2
    have eb : b = q := by have := F 1 (by omega); rw [show ((1 : Nat) : Int) + 1 = 2 from rfl, e2] at this; cases this; exact q2
    have ec : z_M_field N z p k 3 A = some (v : Int) := by rw [← v2]; exact F 2 (by omega)
    have ed : z_M_field N z p k 4 A = some (P.2.1 p k 3) := F 3 (by omega)
    simp only [if_neg k0, if_neg k1, if_pos k2]
    obtain ⟨x, x1, x2, x3⟩ := r_get (N := N) h hd q1
    obtain ⟨y, y1, y2, y3⟩ := r_get (N := N) h hd v1
    obtain ⟨j, t', B, D', b1, b2, b3, b4, b5, b6, b7, b8⟩ := r_workOf hN h hw ht hl hy x1 y1 (u4 k2)
    rw [x3, y3] at b4
    rw [y3] at b2
    obtain ⟨C, c1, c2, c3⟩ := r_set (N := N) b2 hd r1 b3 b4
    rw [ed, zbP_s, eb, x2, zbP_s, ec, zbP_s, y2, zbP_s, b1, zbI_s, ea, c1, zbV_s, r3, q3, v3]
    exact ⟨C, t', D', rfl, c2, b5, b6, b7, b8.trans (fp c3)⟩
  by_cases k3 : P.1 p k = 3
  · have nb : nbk (P.1 p k) = 2 := by rw [k3]; decide
    obtain ⟨r, r1, r2, r3⟩ := rg 0 (by omega) ⟨fun z => by omega, fun z => by omega, fun z => by omega⟩
    obtain ⟨q, q1, q2, q3⟩ := rg 1 (by omega) ⟨fun z => by omega, fun z => by omega, fun z => by omega⟩
    have ea : a = r := by have := F 0 (by omega); rw [show ((0 : Nat) : Int) + 1 = 1 from rfl, e1] at this; cases this; exact r2
    have eb : b = q := by have := F 1 (by omega); rw [show ((1 : Nat) : Int) + 1 = 2 from rfl, e2] at this; cases this; exact q2
    simp only [if_neg k0, if_neg k1, if_neg k2, if_pos k3]
    obtain ⟨x, x1, x2, x3⟩ := r_get (N := N) h hd q1
    obtain ⟨B, b1, b2, b3⟩ := r_index hN h hw x1 hl hy
    have es : (sCel (Nat.blt 0 sc) (D x) s).1 = s.1 := by
      unfold sCel
      split
      · rfl
      · exact dem_pl
    obtain ⟨x', y1, y2, y3⟩ := r_get (N := N) b2 hd q1
    obtain ⟨m, m1, m2, m3⟩ := b2.2.1 60 (by omega)
    have m2 : zi B 226 63 = m := m2
    obtain ⟨j, t', C, D', c1, c2, c3, c4, c5, c6, c7, c8⟩ := r_make (k := 2) (x := m) (y := x') (z := 0) hN b2.1 ht (Or.inr (Or.inr (Or.inl ⟨rfl, by dsimp only; omega, by dsimp only; omega, by dsimp only; omega, by dsimp only; omega, rfl⟩))) (by decide) (by decide) (yb_w (by omega) (by omega)) (yb_w (by omega) (by omega)) zwi0
    have c4 : D' j = tLod (s.1 60) (s.1 q) := by
      rw [c4]
      show tLod (D m) (D x') = _
      rw [m3, y3, es]
    obtain ⟨E, d1, d2, d3⟩ := r_set (N := N) (b2.th c8 c2 c5 c7) hd r1 c3 c4
    rw [eb, x2, zbP_s, b1, zbV_s, y2, zbP_s, m2, c1, zbI_s, ea, d1, zbV_s, r3, q3]
    rw [x3] at d2
    exact ⟨E, t', D', rfl, d2, c5, c6, c7, ((fd b3).trans (ft c8)).trans (fp d3)⟩
  by_cases k4 : P.1 p k = 4
  · have nb : nbk (P.1 p k) = 2 := by rw [k4]; decide
    obtain ⟨r, r1, r2, r3⟩ := rg 0 (by omega) ⟨fun z => by omega, fun z => by omega, fun z => by omega⟩
    obtain ⟨q, q1, q2, q3⟩ := rg 1 (by omega) ⟨fun z => by omega, fun z => by omega, fun z => by omega⟩
    have ea : a = r := by have := F 0 (by omega); rw [show ((0 : Nat) : Int) + 1 = 1 from rfl, e1] at this; cases this; exact r2
    have eb : b = q := by have := F 1 (by omega); rw [show ((1 : Nat) : Int) + 1 = 2 from rfl, e2] at this; cases this; exact q2
    simp only [if_neg k0, if_neg k1, if_neg k2, if_neg k3, if_pos k4]
    obtain ⟨x, x1, x2, x3⟩ := r_get (N := N) h hd r1
    obtain ⟨B, b1, b2, b3⟩ := r_index hN h hw x1 hl hy
    have es : (sCel (Nat.blt 0 sc) (D x) s).1 = s.1 := by
      unfold sCel
      split
      · rfl
      · exact dem_pl
    obtain ⟨x', y1, y2, y3⟩ := r_get (N := N) b2 hd r1
    obtain ⟨x'', z1, z2, z3⟩ := r_get (N := N) b2 hd q1
    obtain ⟨m, m1, m2, m3⟩ := b2.2.1 60 (by omega)
    have m2 : zi B 226 63 = m := m2
    obtain ⟨j, t', C, D', c1, c2, c3, c4, c5, c6, c7, c8⟩ := r_make (k := 3) (x := m) (y := x') (z := x'') hN b2.1 ht (Or.inr (Or.inr (Or.inr (Or.inr (Or.inl ⟨rfl, by dsimp only; omega, by dsimp only; omega, by dsimp only; omega, by dsimp only; omega, by dsimp only; omega, by dsimp only; omega⟩))))) (by decide) (by decide) (yb_w (by omega) (by omega)) (yb_w (by omega) (by omega)) (yb_w (by omega) (by omega))
    have c4 : D' j = tSto (s.1 60) (s.1 r) (s.1 q) := by
      rw [c4]
      show tSto (D m) (D x') (D x'') = _
      rw [m3, y3, z3, es]
    obtain ⟨E, d1, d2, d3⟩ := r_set (N := N) (b2.th c8 c2 c5 c7) hd (show 60 < 61 by omega) c3 c4
    have d1' : some (zsi C 226 63 (j : Int)) = some E := by
      rw [← d1, M_set (b2.th c8 c2 c5 c7).2.2.2.2.1.1 hd (by omega)]
      rfl
    rw [ea, x2, zbP_s, b1, zbV_s, y2, zbP_s, eb, z2, zbP_s, m2, c1, zbI_s, zlet_s, d1', r3, q3]
    rw [x3] at d2
    exact ⟨E, t', D', rfl, d2, c5, c6, c7, ((fd b3).trans (ft c8)).trans (fp d3)⟩
  by_cases k5 : P.1 p k = 5
  · have nb : nbk (P.1 p k) = 1 := by rw [k5]; decide
    obtain ⟨r, r1, r2, r3⟩ := rg 0 (by omega) ⟨fun z => by omega, fun z => by omega, fun z => by omega⟩
    have ea : a = r := by have := F 0 (by omega); rw [show ((0 : Nat) : Int) + 1 = 1 from rfl, e1] at this; cases this; exact r2
    simp only [if_neg k0, if_neg k1, if_neg k2, if_neg k3, if_neg k4, if_pos k5]
    obtain ⟨B, b1, b2, b3⟩ := r_say0 (N := N) (c := -1) (wd := 2) h hw ⟨by decide, by decide⟩ (by decide) (fun q => by have := hl q; omega)
    have e22 : (sSay (Nat.blt 0 sc) 2 none s).2.2 = s.2.2 := say22.1
    have h65 : zi B 226 65 = s.2.2.2.2.1 := by have := b2.2.2.2.2.1.2.2.2.2; rw [e22] at this; exact this
    have hI0 := h.2.2.2.2.2.2.2.2
    obtain ⟨j, t', C, D', c1, c2, c3, c4, c5, c6, c7, c8⟩ := r_make (k := 4) (x := s.2.2.2.2.1) (y := 0) (z := 0) hN b2.1 ht (Or.inr (Or.inr (Or.inr (Or.inr (Or.inr (Or.inl ⟨rfl, rfl, rfl⟩)))))) (by decide) (by decide) (yb_w (by omega) (by omega)) zwi0 zwi0
    obtain ⟨E, d1, d2, d3⟩ := r_set (N := N) (b2.th c8 c2 c5 c7) hd r1 c3 c4
    rw [ea, b1, zbV_s, h65, c1, zbI_s, d1, zbV_s, zlet_s, r3]
    have hE : zi E 226 65 = s.2.2.2.2.1 := by have := d2.2.2.2.2.1.2.2.2.2; rw [show (sSet r (cden D (cm 4, s.2.2.2.2.1, 0, 0)) (sSay (Nat.blt 0 sc) 2 none s)).2.2.2.2.1 = s.2.2.2.2.1 by show (sSay (Nat.blt 0 sc) 2 none s).2.2.2.2.1 = _; rw [e22]] at this; exact this
    rw [hE]
    have f65 : fr (fun a j => a = 226 ∧ j = 65) E (zsi E 226 65 (s.2.2.2.2.1 + 1)) := fr_si ⟨rfl, rfl⟩
    refine ⟨_, t', D', rfl, ?_, c5, c6, c7, (((fs b3).trans (ft c8)).trans (fp d3)).trans (f65.mono (fun a j q => Or.inr (Or.inr (Or.inr ⟨q.1, Or.inr q.2⟩))))⟩
    obtain ⟨h1, h2, h3, h4, h5, h6, h7, h8, h9⟩ := d2
    have e : ∀ a e, 226 < a → ri (zsi E 226 65 (s.2.2.2.2.1 + 1)) a e = ri E a e := fun a e ha => f65.e (fun z => by omega)
    have i : ∀ j, j ≠ 65 → zi (zsi E 226 65 (s.2.2.2.2.1 + 1)) 226 j = zi E 226 j := fun j hj => f65.i (fun z => by omega)
    have rt := Nat.le_refl t'
    have e5 : zi (zsi E 226 65 (s.2.2.2.2.1 + 1)) 226 65 = s.2.2.2.2.1 + 1 := by rw [zi_si_s, yb_w (by omega) (by omega)]
    have es : (sSet r (cden D (cm 4, s.2.2.2.2.1, 0, 0)) (sSay (Nat.blt 0 sc) 2 none s)).2.2 = s.2.2 := e22
    rw [es] at h4 h5 h6 h8 h9
    generalize zsi E 226 65 (s.2.2.2.2.1 + 1) = G at *
    have hs2 : (fun q : St => (q.1, q.2.1, q.2.2.1, q.2.2.2.1, q.2.2.2.2.1 + 1, q.2.2.2.2.2)) (sSet r (tInp s.2.2.2.2.1) (sSay (Nat.blt 0 sc) 2 none s)) = ((sSet r (cden D (cm 4, s.2.2.2.2.1, 0, 0)) (sSay (Nat.blt 0 sc) 2 none s)).1, (sSet r (cden D (cm 4, s.2.2.2.2.1, 0, 0)) (sSay (Nat.blt 0 sc) 2 none s)).2.1, s.2.2.1, s.2.2.2.1, s.2.2.2.2.1 + 1, s.2.2.2.2.2) := by
      show (_, _, (sSay (Nat.blt 0 sc) 2 none s).2.2.1, (sSay (Nat.blt 0 sc) 2 none s).2.2.2.1, (sSay (Nat.blt 0 sc) 2 none s).2.2.2.2.1 + 1, (sSay (Nat.blt 0 sc) 2 none s).2.2.2.2.2) = _
      rw [e22]
      rfl
    refine (congrArg (RW G w sc dp lv t' D') hs2).mpr ?_
    refine ⟨h1.fr f65 (fun a j z => by unfold qT; omega), h2.mono (fun k hk => ?_) rt (fun _ _ => rfl), h3.mono (e _ _ (by omega)) (fun _ => e _ _ (by omega)) rt (fun _ _ => rfl), h4.mono (i _ (by omega)) (fun _ _ => e _ _ (by omega)) rt (fun _ _ => rfl), ?_, h6.mono (by rw [e 261 _ (by omega)]; omega) (fun c _ => ⟨e _ _ (by omega), e _ _ (by omega), e _ _ (by omega)⟩) (fun _ _ _ _ _ => e _ _ (by omega)) rt (fun _ _ => rfl), by rw [e 261 _ (by omega)]; exact h7, by rw [e 261 _ (by omega)]; exact h8, by dsimp only; omega⟩
    · unfold rpl
      rw [i 63 (by omega), e 267 _ (by omega), e 268 _ (by omega)]
    · unfold RFl
      rw [i 62 (by omega), i 66 (by omega), i 80 (by omega), i 64 (by omega), e5]
      exact ⟨h5.1, h5.2.1, h5.2.2.1, h5.2.2.2.1, rfl⟩
  · have k6 : P.1 p k = 6 := by omega
    have nb : nbk (P.1 p k) = 1 := by rw [k6]; decide
    obtain ⟨r, r1, r2, r3⟩ := rg 0 (by omega) ⟨fun z => by omega, fun z => by omega, fun z => by omega⟩
    have ea : a = r := by have := F 0 (by omega); rw [show ((0 : Nat) : Int) + 1 = 1 from rfl, e1] at this; cases this; exact r2
    simp only [if_neg k0, if_neg k1, if_neg k2, if_neg k3, if_neg k4, if_neg k5]
    obtain ⟨j, j1, j2, j3⟩ := r_get (N := N) h hd r1
    obtain ⟨B, C, c1, c2, c3, c4, c5⟩ := r_say1 (N := N) (c := -2) (wd := 3) h hw ⟨by decide, by decide⟩ (by decide) j1 j3 hl
    have g : z_M_get N r B = some (j : Int) := by
      have hb : zi B 226 62 = dp := by rw [c2.i (fun z => by unfold qS at z; omega)]; exact h.2.2.2.2.1.1
      rw [M_get hb hd r1, ← j2, M_get h.2.2.2.2.1.1 hd r1]
      unfold rpl
      rw [c2.i (fun z => by unfold qS at z; omega), c2.e (fun z => by unfold qS at z; omega), c2.e (fun z => by unfold qS at z; omega)]
    rw [ea, c1, zbV_s, g, zbP_s, c3, zbV_s, r3]
    exact ⟨C, t, D, rfl, c4, by omega, by omega, fun _ _ => rfl, fs c5⟩
end
