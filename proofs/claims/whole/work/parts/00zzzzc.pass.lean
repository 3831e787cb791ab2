/-! pass: on programs -/
noncomputable def ps1 (x : Int) (Q : Pr) (p : Nat) : Pr × Nat := if x = 0 then (conQ Q p, (conL (Q.2.1 p) p).2.2) else if x = 1 then (comQ Q p, (cmS (Q.2.2 p) (Q.2.1 p) (Q.2.1 p).length).2.2) else if x = 2 then (deaQ Q p, (Q.2.1 p).length - (deaL (Q.2.1 p) p).length) else if x = 3 then (hoiQ Q p, (hoS (Q.2.1 p) (Q.2.1 p).length).2) else (inlQ Q p, (inS Q (Q.2.1 p) (Q.2.2 p) (Q.2.1 p).length).2.2)
noncomputable def psS (x : Int) (Q : Pr) : Nat → Pr × Nat
  | 0 => (Q, 0)
  | p + 1 => cif (exP Q p) ((ps1 x (psS x Q p).1 p).1, (psS x Q p).2 + (ps1 x (psS x Q p).1 p).2) (psS x Q p)
noncomputable def pasQ (x : Int) (Q : Pr) : Pr := (psS x Q 4).1
theorem inS_cnt {Q : Pr} {X : List It} {g : Nat} : ∀ k, k ≤ X.length → (inS Q X g k).2.2 ≤ k := by
  intro k
  induction k with
  | zero => exact fun _ => Nat.le_refl _
  | succ k ih =>
    intro hk
    have := ih (by omega)
    rw [inS_s (by omega)]
    unfold inl1
    split
    · show _ + 1 ≤ k + 1; omega
    · show (inS Q X g k).2.2 ≤ k + 1; omega
theorem ps1_ok {x : Int} {Q : Pr} {p : Nat} (hG : GQ Q) (hp : exP Q p) : GQ (ps1 x Q p).1 ∧ (ps1 x Q p).1.1 = Q.1 ∧ (∀ q, q ≠ p → (ps1 x Q p).1.2.1 q = Q.2.1 q ∧ (ps1 x Q p).1.2.2 q = Q.2.2 q) ∧ (ps1 x Q p).2 ≤ (if x = 3 then 36000 else 150) := by
  obtain ⟨a1, a2, a3, a4⟩ := hG.1.2 p hp
  unfold ps1
  by_cases c0 : x = 0
  · obtain ⟨-, -, -, -, i5⟩ := con_inv hG hp
    rw [if_pos c0, if_neg (by omega)]
    exact ⟨con_ok hG hp, rfl, fun q hq => updG_o hq, by dsimp only; omega⟩
  rw [if_neg c0]
  by_cases c1 : x = 1
  · obtain ⟨-, -, -, -, -, -, i7, -⟩ := cmS_ok (g := Q.2.2 p) (X := Q.2.1 p) a4 a2 _ (Nat.le_refl _)
    rw [if_pos c1, if_neg (by omega)]
    exact ⟨com_ok hG hp, rfl, fun q hq => updG_o hq, by dsimp only; omega⟩
  rw [if_neg c1]
  by_cases c2 : x = 2
  · rw [if_pos c2, if_neg (by omega)]
    exact ⟨dea_ok hG hp, rfl, fun q hq => updG_o hq, by dsimp only; omega⟩
  rw [if_neg c2]
  by_cases c3 : x = 3
  · obtain ⟨-, i5⟩ := hoS_inv (hG.n.2.1 p hp) (by omega) _ (Nat.le_refl _)
    rw [if_pos c3, if_pos c3]
    exact ⟨hoi_ok hG hp, rfl, fun q hq => updG_o hq, by dsimp only; omega⟩
  rw [if_neg c3, if_neg c3]
  have := inS_cnt (Q := Q) (X := Q.2.1 p) (g := Q.2.2 p) _ (Nat.le_refl _)
  exact ⟨inl_ok hG hp, rfl, fun q hq => updG_o hq, by dsimp only; omega⟩
theorem psS_ok {x : Int} {Q : Pr} (hG : GQ Q) : ∀ p, p ≤ 4 → GQ (psS x Q p).1 ∧ (psS x Q p).1.1 = Q.1 ∧ (∀ q, p ≤ q → (psS x Q p).1.2.1 q = Q.2.1 q ∧ (psS x Q p).1.2.2 q = Q.2.2 q) ∧ (psS x Q p).2 ≤ (if x = 3 then 36000 else 150) * p := by
  intro p
  induction p with
  | zero => exact fun _ => ⟨hG, rfl, fun _ _ => ⟨rfl, rfl⟩, Nat.zero_le _⟩
  | succ p ih =>
    intro hp
    obtain ⟨i1, i2, i3, i4⟩ := ih (by omega)
    have e : psS x Q (p + 1) = cif (exP Q p) ((ps1 x (psS x Q p).1 p).1, (psS x Q p).2 + (ps1 x (psS x Q p).1 p).2) (psS x Q p) := rfl
    rw [e]
    by_cases c : exP Q p
    · rw [cif_pos c]
      have c' : exP (psS x Q p).1 p := by unfold exP at *; rw [i2]; exact c
      obtain ⟨j1, j2, j3, j4⟩ := ps1_ok (x := x) i1 c'
      refine ⟨j1, by dsimp only; rw [j2]; exact i2, fun q hq => ?_, ?_⟩
      · obtain ⟨k1, k2⟩ := j3 q (by omega)
        obtain ⟨l1, l2⟩ := i3 q (by omega)
        exact ⟨k1.trans l1, k2.trans l2⟩
      · dsimp only
        rw [Nat.mul_add, Nat.mul_one]
        omega
    · rw [cif_neg c]
      refine ⟨i1, i2, fun q hq => i3 q (by omega), ?_⟩
      rw [Nat.mul_add, Nat.mul_one]
      omega
theorem ex_thr {Q : Pr} {p : Nat} : thr Q p ↔ exP Q p := by unfold thr exP; omega
/-! pass of the class -/
def spS (o' : Nat) : List Nat := o' :: List.range' 49 61
theorem spS_m {o' a : Nat} : (spS o').contains a = true ↔ a = o' ∨ (49 ≤ a ∧ a < 110) := by
  unfold spS
  rw [List.contains_iff_mem, List.mem_cons, List.mem_range'_1]
theorem spS_n {o' a : Nat} (h : a ≠ o') (h2 : a < 49 ∨ 110 ≤ a) : (spS o').contains a = false := nc_of (fun q => by have := spS_m.mp q; omega)
def S2 : List Nat := S1 ++ List.range' 49 61
theorem S2_mem {a : Nat} : S2.contains a = true ↔ a = 4 ∨ (7 ≤ a ∧ a ≤ 194) := by
  unfold S2
  rw [List.contains_iff_mem, List.mem_append, List.mem_range'_1, ← List.contains_iff_mem, S1_mem]
  omega
section
variable {N : Nat} {A : zA} {R R' p : Nat} {Q Qn QB : Pr} {x1 : Int}
theorem c_changes {t : Nat} (hN : 300000 ≤ N) (hG : GQ Q) (hGn : GQ Qn) (hp : exP Q p) (h : CPG A R R' Qn QB) (hs : CSt A R' Q (mtC Q)) (hS : STA A) (hT : Qn.1 = Q.1) (h1 : Qn.2.1 p = Q.2.1 p) (h2 : Qn.2.2 p = Q.2.2 p) (hTT : TT A 103 t) (ht : t ≤ 300) (hx0 : 0 ≤ x1) (hx4 : x1 ≤ 4) : ∃ B, z_PC_changesOfPass N x1 p A = some (((ps1 x1 Q p).2 : Int), B) ∧ CSt B R' (ps1 x1 Q p).1 (mtC (ps1 x1 Q p).1) ∧ CPI B R' ∧ cF (spS (R' + 2 + 3 * p)) A B ∧ ∃ t', t' ≤ 300 ∧ TT B 103 t' := by
  have h0 := h
  obtain ⟨r, m2, m3, w, c7, cR, cR', s, sB⟩ := h
  obtain ⟨k1, k2, k3, k4, k5⟩ := r.ok
  have hp4 : p < 4 := by have := exP3 hG.1 hp; omega
  obtain ⟨f1, f2, f3, f4, f5, f6⟩ := rws_fr k1 hp4
  obtain ⟨g1, g2, g3, g4, g5, g6⟩ := rws_fr k2 hp4
  have tt : ∀ {S : List Nat} {B : zA}, cF S A B → S.contains 103 = false → ∃ t', t' ≤ 300 ∧ TT B 103 t' := fun f hs => ⟨t, ht, (TT.fr (by decide) hTT f hs).1⟩
  unfold z_PC_changesOfPass z_PC_changesOfPass_69 z_PC_changesOfPass_100
  rw [zgr_s m2, zcs_s f2, zgf_s f1, zfe_p k1 hp4, zcs_s f5, zgr_s m3, zcs_s g2, zgf_s g1, zfe_p k2 hp4, zcs_s g5]
  unfold ps1
  by_cases c0 : x1 = 0
  · obtain ⟨B, b1, b2, b3, b4⟩ := c_constants (N := N) (pr := if p = 3 then 1 else 0) hN hG hGn hp h0 hs hS hT h1 h2 rfl
    refine ⟨B, ?_, ?_, b3, b4.mono (fun a ha => spS_m.mpr (by have := cfS_m.mp ha; omega)), tt b4 (cfS_n (by unfold okR at k2; omega) (by omega))⟩
    · rw [if_pos c0, if_pos c0]
      by_cases e : p = 3
      · rw [if_pos e] at b1
        rw [if_pos (by omega), b1, zbI_s]
      · rw [if_neg e] at b1
        rw [if_neg (by omega), b1, zbI_s]
    · rw [if_pos c0]; exact b2
  rw [if_neg c0, if_neg c0]
  by_cases c1 : x1 = 1
  · obtain ⟨B, b1, b2, b3, b4, b5⟩ := c_common (N := N) hN hG hp h0 hs hS hTT (by omega)
    refine ⟨B, ?_, ?_, b3, b4.mono (fun a ha => spS_m.mpr ?_), b5⟩
    · rw [if_pos c1, if_pos c1, b1, zbI_s]
    · rw [if_pos c1]; exact b2
    · unfold fnm at ha
      simp only [List.contains_iff_mem, List.mem_cons, List.not_mem_nil, or_false] at ha
      omega
  rw [if_neg c1, if_neg c1]
  by_cases c2 : x1 = 2
  · obtain ⟨B, b1, b2, b3, b4⟩ := c_dead (N := N) (pr := if p = 3 then 0 else 1) hN hG hGn hp h0 hs hS hT h1 h2 rfl
    refine ⟨B, ?_, ?_, b3, b4.mono (fun a ha => spS_m.mpr ?_), tt b4 (nc_of (fun ha => ?_))⟩
    · rw [if_pos c2, if_pos c2]
      by_cases e : p = 3
      · rw [if_pos e] at b1
        rw [if_pos (by omega), b1, zbI_s]
      · rw [if_neg e] at b1
        rw [if_neg (by omega), b1, zbI_s]
    · rw [if_pos c2]; exact b2
    · simp only [List.contains_iff_mem, List.mem_cons, List.not_mem_nil, or_false] at ha
      omega
    · simp only [List.contains_iff_mem, List.mem_cons, List.not_mem_nil, or_false] at ha
      unfold okR at k2
      omega
  rw [if_neg c2, if_neg c2]
  by_cases c3 : x1 = 3
  · obtain ⟨B, b1, b2, b3, b4⟩ := c_hoist (N := N) hN hG hp h0 hs hS
    refine ⟨B, ?_, ?_, b3, b4.mono (fun a ha => spS_m.mpr ?_), tt b4 (nc_of (fun ha => ?_))⟩
    · rw [if_pos c3, if_pos c3, b1, zbI_s]
    · rw [if_pos c3]; exact b2
    · simp only [List.contains_iff_mem, List.mem_cons, List.not_mem_nil, or_false] at ha
      omega
    · simp only [List.contains_iff_mem, List.mem_cons, List.not_mem_nil, or_false] at ha
      unfold okR at k2
      omega
  rw [if_neg c3, if_neg c3]
  obtain ⟨B, b1, b2, b3, b4⟩ := c_inline (N := N) hN hG hGn hp h0 hs hS hT h1 h2
  refine ⟨B, ?_, b2, b3, b4.mono (fun a ha => spS_m.mpr ?_), tt b4 (cont2 (by unfold okR at k2; omega))⟩
  · rw [zgr_s m3, zcs_s g2, b1, zbI_s]
  · simp only [List.contains_iff_mem, List.mem_cons, List.not_mem_nil, or_false] at ha
    exact Or.inl ha
theorem c_pass_run (hN : 300000 ≤ N) (hG : GQ Q) (hGB : GQ QB) (hx0 : 0 ≤ x1) (hx4 : x1 ≤ 4) : ∀ (n q f : Nat) (B : zA) (t : Nat), q + n = 4 → n < f → CPG B R R' Q QB → CSt B R' (psS x1 Q q).1 (mtC (psS x1 Q q).1) → STA B → TT B 103 t → t ≤ 300 → ∃ C t', z_PC_pass_34_l N f x1 ((psS x1 Q q).2 : Int) q B = z_PC_pass_65 N ((psS x1 Q 4).2 : Int) C ∧ CPG C R R' Q QB ∧ CSt C R' (psS x1 Q 4).1 (mtC (psS x1 Q 4).1) ∧ STA C ∧ TT C 103 t' ∧ t' ≤ 300 ∧ cF S2 B C ∧ ∀ j, zi C 4 j = zi B 4 j := by
  intro n
  induction n with
  | zero =>
    intro q f B t h1 h2 hC hs hS hT ht
    obtain ⟨u, rfl⟩ : ∃ u, f = u + 1 := ⟨f - 1, by omega⟩
    have : q = 4 := by omega
    subst this
    refine ⟨B, t, ?_, hC, hs, hS, hT, ht, cF.refl _ hC.2.2.2.1.1, fun _ => rfl⟩
    show z_PC_pass_34_b (z_PC_pass_34_l N u) N x1 _ (4 : Nat) B = _
    unfold z_PC_pass_34_b
    rw [if_neg (by decide)]
  | succ n ih =>
    intro q f B t h1 h2 hC hs hS hT ht
    obtain ⟨u, rfl⟩ : ∃ u, f = u + 1 := ⟨f - 1, by omega⟩
    have h0 := hC
    obtain ⟨r, m2, m3, w, c7, cR, cR', s, sB⟩ := hC
    obtain ⟨k1, k2, k3, k4, k5⟩ := r.ok
    obtain ⟨-, y1, -, -, -, -⟩ := rws_fr k1 (show 0 < 4 by decide)
    obtain ⟨i1, i2, i3, i4⟩ := psS_ok (x := x1) hG q (by omega)
    have i4' : (psS x1 Q q).2 ≤ 36000 * q := by
      refine Nat.le_trans i4 (Nat.mul_le_mul_right q ?_)
      split <;> omega
    have w1 : zw ((q : Int) + 1) = ((q + 1 : Nat) : Int) := by rw [yb_w (by omega) (by omega)]; omega
    have e : psS x1 Q (q + 1) = cif (exP Q q) ((ps1 x1 (psS x1 Q q).1 q).1, (psS x1 Q q).2 + (ps1 x1 (psS x1 Q q).1 q).2) (psS x1 Q q) := rfl
    have st : z_PC_pass_34_l N (u + 1) x1 ((psS x1 Q q).2 : Int) q B = z_PC_pass_34_b (z_PC_pass_34_l N u) N x1 ((psS x1 Q q).2 : Int) q B := rfl
    unfold z_PC_pass_34_b at st
    rw [if_pos (by omega), zgr_s m2, zcs_s y1, c_thr s.1, zbP_s, w1] at st
    by_cases c : exP Q q
    · rw [cif_pos c] at e
      rw [cif_pos (ex_thr.mpr c), if_neg (by decide)] at st
      have c' : exP (psS x1 Q q).1 q := by unfold exP at *; rw [i2]; exact c
      obtain ⟨j1, j2, j3, j4⟩ := ps1_ok (x := x1) i1 c'
      have j4' : (ps1 x1 (psS x1 Q q).1 q).2 ≤ 36000 := by
        refine Nat.le_trans j4 ?_
        split <;> omega
      obtain ⟨C, d1, d2, d3, d4, t', d5, d6⟩ := c_changes (N := N) (x1 := x1) hN i1 hG c' h0 hs hS i2.symm (i3 q (Nat.le_refl _)).1.symm (i3 q (Nat.le_refl _)).2.symm hT ht hx0 hx4
      have ns : ∀ a, a ≠ R' + 2 + 3 * q → (a < 49 ∨ 110 ≤ a) → (spS (R' + 2 + 3 * q)).contains a = false := fun a h1 h2 => spS_n h1 h2
      have hq4 : q < 4 := by omega
      have hC2 : CPG C R R' Q QB := h0.edit hG.1 hGB.1 d4 d3 (ns _ (by unfold okR at k2; omega) (by omega)) (fun a a1 a2 a3 => ns a (by omega) (by omega)) (ns _ (by unfold okR at k2; omega) (by omega)) (ns _ (by unfold okR at k2; omega) (by omega)) (ns _ (by unfold okR at k2; omega) (by omega))
      have hS2 : STA C := hS.fr d4 (ns _ (by unfold okR at k2; omega) (by omega)) (ns _ (by unfold okR at k2; omega) (by omega)) (ns _ (by unfold okR at k2; omega) (by omega))
      rw [d1, zbI_s, yb_w (by omega) (by omega), show (((psS x1 Q q).2 : Int) + ((ps1 x1 (psS x1 Q q).1 q).2 : Int)) = ((psS x1 Q (q + 1)).2 : Int) by rw [e]; dsimp only; omega] at st
      obtain ⟨D, t2, e1, e2, e3, e4, e5, e6, e7, e8⟩ := ih (q + 1) u C t' (by omega) (by omega) hC2 (by rw [e]; exact d2) hS2 d6 d5
      refine ⟨D, t2, by rw [st]; exact e1, e2, e3, e4, e5, e6, (d4.mono (fun a ha => S2_mem.mpr (by have := spS_m.mp ha; unfold okR at k2; omega))).trans e7, fun j => by rw [e8, d4.i (by decide) (ns _ (by unfold okR at k2; omega) (by omega))]⟩
    · rw [cif_neg c] at e
      rw [cif_neg (fun z => c (ex_thr.mp z)), if_pos rfl] at st
      rw [st]
      have := ih (q + 1) u B t (by omega) (by omega) h0 (by rw [e]; exact hs) hS hT ht
      rw [e] at this
      exact this
theorem c_pass {t : Nat} (hN : 300000 ≤ N) (hG : GQ Q) (hGB : GQ QB) (h : CPG A R R' Q QB) (hS : STA A) (hT : TT A 103 t) (ht : t ≤ 300) : (¬ (0 ≤ x1 ∧ x1 ≤ 4) → z_PC_pass N x1 A = some (.inr 0, znw A (false, 100, 0))) ∧ ((0 ≤ x1 ∧ x1 ≤ 4) → ∃ B t', z_PC_pass N x1 A = some (.inl (cif (Sam (wlC Q) (wlC (pasQ x1 Q))) ((psS x1 Q 4).2 : Int) (-1)), B) ∧ cF S2 A B ∧ TT B 103 t' ∧ t' ≤ 300 ∧ ((Sam (wlC Q) (wlC (pasQ x1 Q)) ∧ CPG B R' R (pasQ x1 Q) QB ∧ zi B 4 11 = zw (zi A 4 11 + 1) ∧ zi B 4 12 = zi A 4 12 ∧ zi B 4 9 = 0) ∨ (¬ Sam (wlC Q) (wlC (pasQ x1 Q)) ∧ CPG B R R' Q QB ∧ zi B 4 11 = zi A 4 11 ∧ zi B 4 12 = zw (zi A 4 12 + 1) ∧ zi B 4 9 = zi A 4 9))) := by
  have h0 := h
  obtain ⟨r, m2, m3, w, c7, cR, cR', s, sB⟩ := h
  obtain ⟨k1, k2, k3, k4, k5⟩ := r.ok
  obtain ⟨-, y1, -, -, -, -⟩ := rws_fr k1 (show 0 < 4 by decide)
  obtain ⟨-, y2, -, -, -, -⟩ := rws_fr k2 (show 0 < 4 by decide)
  unfold z_PC_pass
  refine ⟨fun hn => ?_, fun hx => ?_⟩
  · by_cases c : x1 < 0
    · rw [if_pos c]
    · rw [if_neg c, if_pos (by omega)]
  · rw [if_neg (by omega), if_neg (by omega), zgr_s m3, zcs_s y2, zgr_s m2, zcs_s y1]
    obtain ⟨B1, b1, b2, b3, b4⟩ := c_begin (N := N) hN hG hGB h0
    have n1 : ∀ a, (a < R' ∨ R' + 13 < a) → (rwl R').contains a = false := fun a ha => rwl_n ha
    obtain ⟨u1, -, -⟩ := TT.fr (by decide) hT b4 (n1 _ (by unfold okR at k2; omega))
    obtain ⟨C, t', c1, c2, c3, c4, c5, c6, c7', c8⟩ := c_pass_run (N := N) (x1 := x1) hN hG hGB hx.1 hx.2 4 0 N B1 t (by omega) (by omega) b2 b3 (hS.fr b4 (n1 _ (by unfold okR at k2; omega)) (n1 _ (by unfold okR at k2; omega)) (n1 _ (by unfold okR at k2; omega))) u1 ht
    have c1 : z_PC_pass_34 N x1 0 0 B1 = _ := c1
    obtain ⟨i1, i2, i3, i4⟩ := psS_ok (x := x1) hG 4 (Nat.le_refl _)
    obtain ⟨D, d1, d2, d3⟩ := c_settle (N := N) (A := C) (Q := Q) (Q1 := pasQ x1 Q) hN hG i1 hGB c2 c3
    have i9 : ∀ j, zi C 4 j = zi A 4 j := fun j => by rw [c8, b4.i (by decide) (n1 _ (by unfold okR at k2; omega))]
    rw [b1, zbV_s, c1]
    unfold z_PC_pass_65
    rw [d1, zbI_s]
    have hw4 : (4 :: wal).contains 103 = false := nc_of (fun q => by
      rw [List.contains_iff_mem, List.mem_cons, ← List.contains_iff_mem, wal_mem] at q
      omega)
    obtain ⟨u2, -, -⟩ := TT.fr (by decide) c5 d2 hw4
    refine ⟨D, t', ?_, ((b4.mono (fun a ha => S2_mem.mpr (by have := rwl_mem.mp ha; unfold okR at k2; omega))).trans c7').trans (d2.mono (fun a ha => S2_mem.mpr (by
      rw [List.contains_iff_mem, List.mem_cons, ← List.contains_iff_mem, wal_mem] at ha
      omega))), u2, c6, ?_⟩
    · by_cases c : Sam (wlC Q) (wlC (pasQ x1 Q))
      · rw [cif_pos c, cif_pos c, if_neg (by decide)]
      · rw [cif_neg c, cif_neg c, if_pos rfl]
    · rw [i9, i9, i9] at d3
      exact d3
end
