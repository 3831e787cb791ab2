/-! COMPILE of the class -/
theorem szW_ex {z : Nat → Int} {y : Nat → Nat} (hz : ∀ j, z j = y j ∧ y j ≤ 150) : ∀ (X : List It) (a : Nat), X.length ≤ 1000 → a + 151 * X.length ≤ 1000000 → szW z X a + X.length = (a : Int) + szL y X
  | [], a, _, _ => by
    show (a : Int) + ((0 : Nat) : Int) = (a : Int) + ((0 : Nat) : Int)
    rfl
  | i :: X, a, hl, hb => by
    rw [List.length_cons] at hl hb
    have e : szL y (i :: X) = (1 + if i.1 = 7 then y i.2.2.1.toNat else 0) + szL y X := by
      unfold szL
      rw [List.map_cons, List.sum_cons]
    rw [e, List.length_cons]
    show szW z X (if i.1 = 7 then zw ((a : Int) + z (ig i 2).toNat) else (a : Int)) + _ = _
    by_cases c : i.1 = 7
    · rw [if_pos c, if_pos c]
      have h1 := hz (ig i 2).toNat
      have h2 : ig i 2 = i.2.2.1 := rfl
      rw [h1.1, yb_w (by omega) (by omega), show (a : Int) + (y (ig i 2).toNat : Int) = ((a + y (ig i 2).toNat : Nat) : Int) by omega]
      have := szW_ex hz X (a + y (ig i 2).toNat) (by omega) (by omega)
      rw [h2] at this ⊢
      omega
    · rw [if_neg c, if_neg c]
      have := szW_ex hz X a (by omega) (by omega)
      omega
theorem lim_sz {Q : Pr} (hG : GR0 Q) (hL : limQ Q) : ∀ p, p ≤ 4 → ∀ j, szI Q p j = szA Q p j ∧ szA Q p j ≤ 150
  | 0, _, j => ⟨rfl, Nat.zero_le _⟩
  | p + 1, hp, j => by
    have ih := lim_sz hG hL p (by omega)
    show (if j = p ∧ (p < Q.1 ∨ p = 3) then _ else _) = ((if j = p ∧ (p < Q.1 ∨ p = 3) then _ else _ : Nat) : Int) ∧ (if j = p ∧ (p < Q.1 ∨ p = 3) then _ else _ : Nat) ≤ 150
    by_cases c : j = p ∧ (p < Q.1 ∨ p = 3)
    · rw [if_pos c, if_pos c]
      have hl := hG.2 p (by omega)
      have ex := szW_ex ih (Q.2.1 p) (Q.2.1 p).length (by omega) (by omega)
      have ok := (hL p (by omega) c.2).2.1
      have e : szI Q (p + 1) p = szW (szI Q p) (Q.2.1 p) (Q.2.1 p).length := if_pos ⟨rfl, c.2⟩
      rw [e] at ok
      omega
    · rw [if_neg c, if_neg c]
      exact ih j
theorem lim_ok {Q : Pr} (hG : GR0 Q) (hL : limQ Q) : GQ Q := LQ_ok hG.1 (fun p hp => by
  have hp4 : p < 4 := by have := hG.1.1; unfold exP at hp; omega
  exact ⟨(hL p hp4 hp).1, (lim_sz hG hL 4 (Nat.le_refl _) p).2⟩)
theorem cst_of {A : zA} {R : Nat} {Q : Pr} (hR : okR R) (hG : GQ Q) (hz : zi A R 1 = Q.1) (hc : ∀ p, p < 4 → CP A (R + 2 + 3 * p) (Q.2.1 p) (Q.2.2 p) ∧ CM A (R + 2 + 3 * p) (Q.2.1 p)) : CSt A R Q (mtC Q) := ⟨hz, fun p hp => by
  have hp4 : p < 4 := by have := exP3 hG.1 hp; omega
  obtain ⟨⟨c1, c2, c3, c4⟩, c5⟩ := hc p hp4
  refine ⟨(rws_fr hR hp4).2.2.2.2.2, c1, c2, c3, fun k hk => ⟨(c4 k hk).1, (c4 k hk).2, fun k8 => ?_⟩⟩
  rw [c5 k hk k8, mtC_eq hG hp (fun k _ => rfl) (Bl_L (hG.n.2.1 p hp)) k hk k8]
  rfl⟩
def sCo : List Nat := 999 :: 4 :: 5 :: (rwl 7 ++ (rwl 21 ++ rwl 35))
theorem sCo_mem {a : Nat} : sCo.contains a = true ↔ (a = 999 ∨ a = 4 ∨ a = 5 ∨ (7 ≤ a ∧ a ≤ 20) ∨ (21 ≤ a ∧ a ≤ 34) ∨ (35 ≤ a ∧ a ≤ 48)) := by
  have h7 := rwl_mem (R := 7) (a := a)
  have h21 := rwl_mem (R := 21) (a := a)
  have h35 := rwl_mem (R := 35) (a := a)
  rw [List.contains_iff_mem] at h7 h21 h35 ⊢
  unfold sCo
  rw [List.mem_cons, List.mem_cons, List.mem_cons, List.mem_append, List.mem_append, h7, h21, h35]
theorem rwl_C {R a : Nat} (hR : okR R) (h : (rwl R).contains a = true) : sCo.contains a = true := by
  have := rwl_mem.mp h
  unfold okR at hR
  exact sCo_mem.mpr (by omega)
theorem s5_C {R a : Nat} (hR : okR R) (h : (5 :: rwl R).contains a = true) : sCo.contains a = true := by
  rw [List.contains_iff_mem, List.mem_cons] at h
  rcases h with h | h
  · exact sCo_mem.mpr (by omega)
  · exact rwl_C hR (List.contains_iff_mem.mpr h)
section
variable {N : Nat} {Tx : Nat → Int} {L : Nat} {A : zA} {R R' : Nat} {Q QB : Pr}
/-- the bundle stays where next alone has changed -/
theorem CPG.nx {S : List Nat} {B : zA} (hG : GQ Q) (hGB : GQ QB) (h : CPG A R R' Q QB) (f : cF S A B) (hs : ∀ a, S.contains a = true → a = 999 ∨ a = 5 ∨ (R' ≤ a ∧ a ≤ R' + 13)) (hI : CPI B R') : CPG B R R' Q QB := by
  obtain ⟨r, m2, m3, w, c7, cR, cR', s, sB⟩ := h
  obtain ⟨k1, k2, k3, k4, k5⟩ := r.ok
  have no : ∀ a, a ≠ 999 → a ≠ 5 → (a < R' ∨ R' + 13 < a) → S.contains a = false := fun a h1 h2 h3 => nc_of (fun q => by have := hs a q; omega)
  have rr : (R = 21 ∧ R' = 35) ∨ (R = 35 ∧ R' = 21) := r
  have n7 : ∀ X, X = 7 ∨ X = R → ∀ a, X ≤ a → a ≤ X + 13 → S.contains a = false := fun X hX a a1 a2 => no a (by omega) (by omega) (by omega)
  exact ⟨r, by rw [f.r (by decide) (no 4 (by decide) (by decide) (by omega))]; exact m2, by rw [f.r (by decide) (no 4 (by decide) (by decide) (by omega))]; exact m3, w.fr f (no 111 (by decide) (by decide) (by omega)) (no 114 (by decide) (by decide) (by omega)) (no 117 (by decide) (by decide) (by omega)), c7.fr (Or.inl rfl) f (n7 7 (Or.inl rfl)), cR.fr k1 f (n7 R (Or.inr rfl)), hI, s.fr hG.1 k1 f (n7 R (Or.inr rfl)), sB.fr hGB.1 (Or.inl rfl) f (n7 7 (Or.inl rfl))⟩
theorem c_compile (hN : 300000 ≤ N) (hT : TXT Tx L) (hG : GQ Q) (hGB : GQ QB) (h : CPG A R R' Q QB) (h1 : zi A 5 1 = L) (h6 : ∀ k : Nat, k < L → ri A 6 k = Tx k) : ∃ w B, z_PC_compile N A = some (w, B) ∧ cF sCo A B ∧ smc B ≤ smc A + 3 ∧ zi B 5 1 = 0 ∧ ((tpp Tx L 3 0 Q00 = none ∧ w = .inr 0 ∧ CPG B R R' Q QB ∧ (∀ j, zi B 4 j = zi A 4 j)) ∨ (∃ Q', tpp Tx L 3 0 Q00 = some Q' ∧ GR0 Q' ∧ ((¬ limQ Q' ∧ w = .inr 1 ∧ CPG B R R' Q QB ∧ (∀ j, zi B 4 j = zi A 4 j)) ∨ (limQ Q' ∧ GQ Q' ∧ w = .inl ((Q'.2.1 3).length : Int) ∧ CPG B R R' Q' Q' ∧ zi B 4 9 = 0 ∧ zi B 4 11 = 0 ∧ zi B 4 12 = 0 ∧ ∀ j, j ≠ 9 → j ≠ 11 → j ≠ 12 → zi B 4 j = zi A 4 j)))) := by
  have h0 := h
  obtain ⟨r, m2, m3, w, c7, cR, cR', s, sB⟩ := h
  obtain ⟨k1, k2, k3, k4, k5⟩ := r.ok
  have rr : (R = 21 ∧ R' = 35) ∨ (R = 35 ∧ R' = 21) := r
  obtain ⟨-, x2, -, -, -, -⟩ := rws_fr k1 (show 0 < 4 by decide)
  obtain ⟨-, y2, -, -, -, -⟩ := rws_fr k2 (show 0 < 4 by decide)
  unfold z_PC_compile
  rw [zgr_s m3, zcs_s y2]
  obtain ⟨v, A3, a1, a2, a3, a4, a5⟩ := c_reads (N := N) hN hT k2 w.1 cR' h1 h6
  rw [a1, zbI_s, zlet_s]
  have f5 : cF [5] A3 (zsi A3 5 1 0) := cF_si a2.own (by decide) (by decide) (by decide)
  have fA : cF (5 :: rwl R') A (zsi A3 5 1 0) := a2.trans (f5.mono (fun a h => s5R h))
  have sm : smc (zsi A3 5 1 0) = smc A := fA.2.1.2.1 (nc_of (fun q => by
    rw [List.contains_iff_mem, List.mem_cons] at q
    rcases q with q | q
    · omega
    · have := rwl_mem.mp (List.contains_iff_mem.mpr q)
      omega))
  have hs5 : ∀ a, (5 :: rwl R').contains a = true → a = 999 ∨ a = 5 ∨ (R' ≤ a ∧ a ≤ R' + 13) := fun a q => by
    rw [List.contains_iff_mem, List.mem_cons] at q
    rcases q with q | q
    · omega
    · have := rwl_mem.mp (List.contains_iff_mem.mpr q)
      omega
  have e51 : zi (zsi A3 5 1 0) 5 1 = 0 := by rw [zi_si_s]; decide
  have hIA : CPI (zsi A3 5 1 0) R' := a3.fr k2 f5 (fun a b1 b2 => cont2 (by omega))
  have nr5 : ([5] : List Nat).contains R' = false := cont2 (by omega)
  have h4 : ∀ {S : List Nat} {B : zA}, cF S A B → S.contains 4 = false → ∀ j, zi B 4 j = zi A 4 j := fun f hs j => f.i (by decide) hs
  have n4 : (5 :: rwl R').contains 4 = false := nc_of (fun q => by have := hs5 4 q; omega)
  have keep5 : ∀ q, q < 4 → pto.contains (R' + 2 + 3 * q) = true ∧ ([5] : List Nat).contains (R' + 2 + 3 * q) = false := fun q hq => ⟨(rws_fr k2 hq).2.2.2.2.2, cont2 (by omega)⟩
  cases ht : tpp Tx L 3 0 Q00 with
  | none =>
    rw [if_pos (a4 ht)]
    obtain ⟨g1, g2⟩ := znw_cF (A := zsi A3 5 1 0) (s := (false, 100, 0)) (by decide) fA.own
    refine ⟨.inr 0, _, rfl, (fA.mono (fun a h => s5_C k2 h)).trans (g1.mono (fun a h => ?_)), by omega, by rw [g1.i (by decide) (by decide)]; exact e51, Or.inl ⟨rfl, rfl, ?_, fun j => by rw [g1.i (by decide) (by decide)]; exact h4 fA n4 j⟩⟩
    · rw [List.contains_iff_mem, List.mem_singleton] at h
      rw [h]; decide
    · refine CPG.nx (S := 999 :: 5 :: rwl R') hG hGB h0 ((fA.mono (fun a q => ?_)).trans (g1.mono (fun a q => ?_))) (fun a q => ?_) (hIA.fr k2 g1 (fun a b1 b2 => cont2 (by omega)))
      · rw [List.contains_iff_mem] at q ⊢
        exact List.mem_cons_of_mem _ q
      · rw [List.contains_iff_mem, List.mem_singleton] at q
        rw [List.contains_iff_mem, q]
        exact List.mem_cons_self
      · rw [List.contains_iff_mem, List.mem_cons] at q
        rcases q with q | q
        · exact Or.inl q
        · exact hs5 a (List.contains_iff_mem.mpr q)
  | some Q' =>
    obtain ⟨b1, b2, b3⟩ := a5 Q' ht
    rw [b1, if_neg (by decide)]
    have hGR : GR0 Q' := ⟨tpp_ok hT 3 0 Q00 Q' (Nat.zero_le _) rfl WQ0_00 ht, fun p hp => by
      have h1 := (b3 p hp).1.1.2.1
      have h2 := (b3 p hp).1.2.1
      omega⟩
    have m3' : zmr (zsi A3 5 1 0) 4 3 = some R' := by rw [fA.r (by decide) n4]; exact m3
    rw [zgr_s m3', zcs_s y2]
    have hcA : ∀ q, q < 4 → CP (zsi A3 5 1 0) (R' + 2 + 3 * q) (Q'.2.1 q) (Q'.2.2 q) ∧ CM (zsi A3 5 1 0) (R' + 2 + 3 * q) (Q'.2.1 q) := fun q hq => ⟨(b3 q hq).1.fr (keep5 q hq).1 f5 (keep5 q hq).2, (b3 q hq).2.fr (keep5 q hq).1 f5 (keep5 q hq).2⟩
    obtain ⟨B, d1, d2, d3⟩ := c_wl (N := N) hN k2 hGR fA.own (by rw [f5.i k2.fx.1 nr5]; exact b2) hcA
    rw [d1, zbI_s]
    have fB : cF (999 :: 5 :: rwl R') A B := (fA.mono (fun a q => by
      rw [List.contains_iff_mem] at q ⊢
      exact List.mem_cons_of_mem _ q)).trans (d2.mono (fun a q => by
      rw [List.contains_iff_mem, List.mem_singleton] at q
      rw [List.contains_iff_mem, q]
      exact List.mem_cons_self))
    have hsB : ∀ a, (999 :: 5 :: rwl R').contains a = true → a = 999 ∨ a = 5 ∨ (R' ≤ a ∧ a ≤ R' + 13) := fun a q => by
      rw [List.contains_iff_mem, List.mem_cons] at q
      rcases q with q | q
      · exact Or.inl q
      · exact hs5 a (List.contains_iff_mem.mpr q)
    have n9 : ∀ a, a ≠ 999 → ([999] : List Nat).contains a = false := fun a ha => cont2 ha
    have hIB : CPI B R' := hIA.fr k2 d2 (fun a b1 b2 => n9 a (by omega))
    have hCB := CPG.nx hG hGB h0 fB hsB hIB
    have e51B : zi B 5 1 = 0 := by rw [d2.i (by decide) (by decide)]; exact e51
    have fBC : cF sCo A B := fB.mono (fun a q => by
      have := hsB a q
      exact sCo_mem.mpr (by omega))
    have n4B : (999 :: 5 :: rwl R').contains 4 = false := nc_of (fun q => by have := hsB 4 q; omega)
    by_cases cl : limQ Q'
    · rw [cif_pos cl, if_neg (by decide)]
      have hG' := lim_ok hGR cl
      have nqB : ∀ q, q < 4 → pto.contains (R' + 2 + 3 * q) = true ∧ ([999] : List Nat).contains (R' + 2 + 3 * q) = false := fun q hq => ⟨(rws_fr k2 hq).2.2.2.2.2, cont2 (by omega)⟩
      have hst : CSt B R' Q' (mtC Q') := cst_of k2 hG' (by rw [d2.i k2.fx.1 (n9 R' (by omega)), f5.i k2.fx.1 nr5]; exact b2) (fun q hq => ⟨(hcA q hq).1.fr (nqB q hq).1 d2 (nqB q hq).2, (hcA q hq).2.fr (nqB q hq).1 d2 (nqB q hq).2⟩)
      obtain ⟨-, M2, M3, W, C7, CR, CR', -, -⟩ := hCB
      rw [zgr_s M3, zcs_s y2]
      obtain ⟨C, e1, e2, e3, e4⟩ := c_become (N := N) (R := 7) (R' := R') hN (Or.inl rfl) k2 (fun q => by omega) hG'.1 fB.own C7 hst
      rw [e1, zbV_s]
      have n7 : ∀ a, (a < 7 ∨ 20 < a) → (rwl 7).contains a = false := fun a ha => rwl_n (by omega)
      have M2C : zmr C 4 2 = some R := by rw [e4.r (by decide) (n7 4 (by omega))]; exact M2
      have M3C : zmr C 4 3 = some R' := by rw [e4.r (by decide) (n7 4 (by omega))]; exact M3
      rw [zgr_s M2C, zcs_s x2, zgr_s M3C, zcs_s y2]
      have hstC : CSt C R' Q' (mtC Q') := hst.fr hG'.1 k2 e4 (fun a b1 b2 => n7 a (by omega))
      obtain ⟨D, g1, g2, g3, g4⟩ := c_become (N := N) (R := R) (R' := R') hN k1 k2 k3 hG'.1 e4.own (CR.fr k1 e4 (fun a b1 b2 => n7 a (by omega))) hstC
      rw [g1, zbV_s, zlet_s, zlet_s, zlet_s]
      have nR : ∀ a, (a < R ∨ R + 13 < a) → (rwl R).contains a = false := fun a ha => rwl_n ha
      have f9 : cF [4] D (zsi (zsi (zsi D 4 9 0) 4 11 0) 4 12 0) := ((cF_si g4.own (by decide) (by decide) (by decide)).trans (cF_si g4.own.si (by decide) (by decide) (by decide))).trans (cF_si g4.own.si.si (by decide) (by decide) (by decide))
      have v9 : zi (zsi (zsi (zsi D 4 9 0) 4 11 0) 4 12 0) 4 9 = 0 := by rw [zi_si_j (by decide), zi_si_j (by decide), zi_si_s]; decide
      have v11 : zi (zsi (zsi (zsi D 4 9 0) 4 11 0) 4 12 0) 4 11 = 0 := by rw [zi_si_j (by decide), zi_si_s]; decide
      have v12 : zi (zsi (zsi (zsi D 4 9 0) 4 11 0) 4 12 0) 4 12 = 0 := by rw [zi_si_s]; decide
      have vj : ∀ j, j ≠ 9 → j ≠ 11 → j ≠ 12 → zi (zsi (zsi (zsi D 4 9 0) 4 11 0) 4 12 0) 4 j = zi D 4 j := fun j q1 q2 q3 => by rw [zi_si_j q3, zi_si_j q2, zi_si_j q1]
      have mr' : ∀ j, zmr (zsi (zsi (zsi D 4 9 0) 4 11 0) 4 12 0) 4 j = zmr D 4 j := fun j => rfl
      generalize zsi (zsi (zsi D 4 9 0) 4 11 0) 4 12 0 = E at *
      have n4' : ∀ a, a ≠ 4 → ([4] : List Nat).contains a = false := fun a ha => cont2 ha
      have M2E : zmr E 4 2 = some R := by rw [mr', g4.r (by decide) (nR 4 (by omega))]; exact M2C
      have M3E : zmr E 4 3 = some R' := by rw [mr', g4.r (by decide) (nR 4 (by omega))]; exact M3C
      obtain ⟨r1, r2, r3, r4, r5, r6⟩ := rws_fr k1 (show 3 < 4 by decide)
      have sE : CSt E R Q' (mtC Q') := g3.fr hG'.1 k1 f9 (fun a b1 b2 => n4' a (by omega))
      rw [zgr_s M2E, zcs_s x2, zgf_s r1, show (3 : Int) = ((3 : Nat) : Int) by rfl, zfe_p k1 (by omega), zcs_s r5]
      have en : zi E (R + 2 + 3 * 3) 2 = ((Q'.2.1 3).length : Int) := (sE.2 3 (Or.inr rfl)).2.2.1
      rw [en]
      have fE : cF sCo A E := ((fBC.trans (e4.mono (fun a q => rwl_C (Or.inl rfl) q))).trans (g4.mono (fun a q => rwl_C k1 q))).trans (f9.mono (fun a q => by
        rw [List.contains_iff_mem, List.mem_singleton] at q
        rw [q]; decide))
      have n999 : ∀ X, okR X → (rwl X).contains 999 = false := fun X hX => rwl_n (by unfold okR at hX; omega)
      have s1 := e4.2.1.2.1 (n999 7 (Or.inl rfl))
      have s2 := g4.2.1.2.1 (n999 R k1)
      have s3 := f9.2.1.2.1 (by decide)
      refine ⟨.inl ((Q'.2.1 3).length : Int), E, rfl, fE, by omega, ?_, Or.inr ⟨Q', rfl, hGR, Or.inr ⟨cl, hG', rfl, ?_, v9, v11, v12, fun j q1 q2 q3 => ?_⟩⟩⟩
      · rw [f9.i (by decide) (by decide), g4.i (by decide) (nR 5 (by omega)), e4.i (by decide) (n7 5 (by omega))]
        exact e51B
      · refine ⟨r, M2E, M3E, ((W.fr e4 (n7 111 (by omega)) (n7 114 (by omega)) (n7 117 (by omega))).fr g4 (nR 111 (by omega)) (nR 114 (by omega)) (nR 117 (by omega))).fr f9 (by decide) (by decide) (by decide), (e2.fr (Or.inl rfl) g4 (fun a b1 b2 => nR a (by omega))).fr (Or.inl rfl) f9 (fun a b1 b2 => n4' a (by omega)), g2.fr k1 f9 (fun a b1 b2 => n4' a (by omega)), ((CR'.fr k2 e4 (fun a b1 b2 => n7 a (by omega))).fr k2 g4 (fun a b1 b2 => nR a (by omega))).fr k2 f9 (fun a b1 b2 => n4' a (by omega)), sE, (e3.fr hG'.1 (Or.inl rfl) g4 (fun a b1 b2 => nR a (by omega))).fr hG'.1 (Or.inl rfl) f9 (fun a b1 b2 => n4' a (by omega))⟩
      · rw [vj j q1 q2 q3, g4.i (by decide) (nR 4 (by omega)), e4.i (by decide) (n7 4 (by omega))]
        exact h4 fB n4B j
    · rw [cif_neg cl, if_pos rfl]
      obtain ⟨g1, g2⟩ := znw_cF (A := B) (s := (false, 101, 0)) (by decide) fB.own
      refine ⟨.inr 1, _, rfl, fBC.trans (g1.mono (fun a h => ?_)), by omega, by rw [g1.i (by decide) (by decide)]; exact e51B, Or.inr ⟨Q', rfl, hGR, Or.inl ⟨cl, rfl, ?_, fun j => by rw [g1.i (by decide) (by decide)]; exact h4 fB n4B j⟩⟩⟩
      · rw [List.contains_iff_mem, List.mem_singleton] at h
        rw [h]; decide
      · refine CPG.nx hG hGB h0 (fB.trans (g1.mono (fun a q => ?_))) hsB (hIB.fr k2 g1 (fun a b1 b2 => n9 a (by omega)))
        rw [List.contains_iff_mem, List.mem_singleton] at q
        rw [List.contains_iff_mem, q]
        exact List.mem_cons_self
end
