/-! COMMON of the class -/
section
variable {N : Nat} {A : zA} {o g k : Nat} {X : List It} {T p h : Nat}
theorem set_self {X : List It} {k : Nat} (hk : k < X.length) : X.set k (itm X k) = X := by
  rw [itm_get hk, List.set_getElem_self]
theorem CP_ieq {Y : List It} (hx : CP A o X g) (hl : Y.length = X.length) (he : ∀ q, q < X.length → ieq (itm Y q) (itm X q)) : CP A o Y g := by
  obtain ⟨x1, x2, x3, x4⟩ := hx
  refine ⟨x1, by rw [hl]; exact x2, x3, fun q hq => ?_⟩
  rw [hl] at hq
  obtain ⟨e1, e2⟩ := he q hq
  obtain ⟨y1, y2⟩ := x4 q hq
  exact ⟨by rw [e1]; exact y1, fun i hi => by rw [e2 i hi]; exact y2 i (by rw [← e1]; exact hi)⟩
theorem cp_regx (hO : Own A) (ho : pto.contains o = true) (hx : CP A o X g) (hk : k < X.length) {i : Nat} (hi : i < 4) : ∃ v : Int, z_Pt_register N o k i A = some v ∧ 0 ≤ v ∧ v < 60 := by
  obtain ⟨⟨p1, p2, p3, p4, p5, p6⟩, x2, x3, x4⟩ := hx
  have hd := pto_dy ho
  unfold cn at x2 p2 p3
  unfold z_Pt_register z_Pt_register_26 z_Pt_register_47
  rw [if_neg (by omega), if_pos (by omega), if_neg (by omega), if_pos (by omega), if_neg (by decide), zgr_d hO hd (by decide), zrD_d hO hd (by decide) (by omega) (by omega)]
  generalize yv A o 0 ((k : Int) * 5 + 1 + i) = v
  by_cases c : v < 0
  · rw [if_pos c]; exact ⟨0, rfl, by decide, by decide⟩
  · rw [if_neg c]
    by_cases c2 : v < 60
    · rw [if_pos c2]; exact ⟨v, rfl, by omega, c2⟩
    · rw [if_neg c2]; exact ⟨0, rfl, by decide, by decide⟩
theorem cp_move {d l : Int} (hO : Own A) (ho : pto.contains o = true) (hx : CP A o X g) (hk : k < X.length) (hn : 2 ≤ nbk (itm X k).1) (wd : zw d = d) (wl : zw l = l) : ∃ B, z_Pt_becomeMove N o k d l A = some B ∧ CP B o (X.set k (1, d, l, 0, 0)) g ∧ cF [o] A B ∧ ∀ e, yv B o 1 e = yv A o 1 e := by
  obtain ⟨x1, x2, x3, x4⟩ := id hx
  obtain ⟨p1, p2, p3, p4, p5, p6⟩ := x1
  have hd := pto_dy ho
  have w0 : ∀ e : Int, 0 ≤ e → yv (ys A o 0 (5 * (k : Int)) 1) o 0 e = if e = 5 * (k : Int) then 1 else yv A o 0 e := fun e he => by rw [yv_ys (by omega) he]; rfl
  have wz : ∀ q, zi (ys A o 0 (5 * (k : Int)) 1) o q = zi A o q := fun q => zi_ys hO hd (by decide) (pto_fx ho)
  have c1 : CP (ys A o 0 (5 * (k : Int)) 1) o (X.set k (1, (itm X k).2)) g := by
    refine ⟨PI.of ⟨p1, p2, p3, p4, p5, p6⟩ (wz 2) rfl rfl, by unfold cn at *; rw [wz, List.length_set]; exact x2, by unfold cr at *; rw [wz]; exact x3, fun q hq => ?_⟩
    rw [List.length_set] at hq
    obtain ⟨c1, c2⟩ := x4 q hq
    rw [itm_set hq]
    unfold cw at *
    by_cases e : q = k
    · subst e
      rw [if_pos rfl]
      refine ⟨by rw [w0 _ (by omega), if_pos (by omega)], fun i hi => ?_⟩
      have hi : i < 2 := hi
      rw [w0 _ (by omega), if_neg (by omega), c2 i (by omega)]
      rcases (show i = 0 ∨ i = 1 by omega) with rfl | rfl <;> rfl
    · rw [if_neg e]
      have hbq := nbk_le (itm X q).1
      exact ⟨by rw [w0 _ (by omega), if_neg (by omega)]; exact c1, fun i hi => by rw [w0 _ (by omega), if_neg (by omega)]; exact c2 i hi⟩
  have f1 : cF [o] A (ys A o 0 (5 * (k : Int)) 1) := cF_ys hO hd (by decide) (cont1 o)
  have y1 : ∀ e, yv (ys A o 0 (5 * (k : Int)) 1) o 1 e = yv A o 1 e := fun e => yv_ys_o hO hd (by decide) hd (by decide) (by omega)
  have e0 : ∀ K : zA → Option zA, (zgr A o 0 fun p3 => zwD A p3 ((k : Int) * 5) 1 K) = K (ys A o 0 (5 * (k : Int)) 1) := fun K => by
    unfold cn at x2 p3
    rw [zgr_d hO hd (by decide), zwD_d hO hd (by decide) (by omega) (by omega), show (k : Int) * 5 = 5 * (k : Int) by omega]
  generalize ys A o 0 (5 * (k : Int)) 1 = B at *
  obtain ⟨C, d1, d2, d3, d4⟩ := cp_set (N := N) (k := k) (j := 0) (v := d) f1.own ho c1 (by rw [List.length_set]; exact hk) (by decide) wd
  have k1 : ∀ z : It, itm (X.set k z) k = z := fun z => by rw [itm_set hk, if_pos rfl]
  rw [k1, List.set_set] at d2
  obtain ⟨D, g1, g2, g3, g4⟩ := cp_set (N := N) (k := k) (j := 1) (v := l) d3.own ho d2 (by rw [List.length_set]; exact hk) (by decide) wl
  rw [k1, List.set_set] at g2
  rw [show ((0 : Nat) : Int) = 0 from rfl] at d1
  rw [show ((1 : Nat) : Int) = 1 from rfl] at g1
  refine ⟨D, ?_, ?_, (f1.trans d3).trans g3, fun e => by rw [g4, d4, y1]⟩
  · unfold z_Pt_becomeMove z_Pt_has
    unfold cn at x2
    rw [if_neg (by omega), x2, if_pos (by omega), zbP_s, if_neg (by decide), e0, d1, zbV_s, g1, zbV_s]
  · refine CP_ieq g2 (by rw [List.length_set, List.length_set]) (fun q hq => ?_)
    rw [List.length_set] at hq
    rw [itm_set hq, itm_set hq]
    by_cases e : q = k
    · rw [if_pos e, if_pos e]
      refine ⟨rfl, fun i hi => ?_⟩
      have hi : i < 2 := hi
      rcases (show i = 0 ∨ i = 1 by omega) with rfl | rfl <;> rfl
    · rw [if_neg e, if_neg e]
      exact ⟨rfl, fun _ _ => rfl⟩
/-- the names lie in the table -/
def TK (A : zA) (K : List Nd) : Prop := TT A 103 K.length ∧ ∀ i, i < K.length → tk A 103 i = kat K i
def NmB (A : zA) (g : Nat) (s : NS) : Prop := TK A s.1 ∧ (∀ r : Nat, r < g → ri A 106 r = (s.2.1 r : Int)) ∧ zi A 102 2 = g ∧ zi A 102 3 = s.2.2.1 ∧ zi A 102 4 = s.2.2.2
theorem NmB.fr {S : List Nat} {B : zA} {s : NS} (hn : NmB A g s) (f : cF S A B) (h1 : S.contains 102 = false) (h2 : S.contains 103 = false) (h3 : S.contains 106 = false) : NmB B g s := by
  obtain ⟨⟨t1, t2⟩, n2, n3, n4, n5⟩ := hn
  obtain ⟨u1, u2, -⟩ := TT.fr (by decide) t1 f h2
  exact ⟨⟨u1, fun i hi => by rw [u2]; exact t2 i hi⟩, fun r hr => by rw [f.e (by decide) h3]; exact n2 r hr, by rw [f.i (by decide) h1]; exact n3, by rw [f.i (by decide) h1]; exact n4, by rw [f.i (by decide) h1]; exact n5⟩
theorem c_mk {K : List Nd} {y : Nd} (hN : 300000 ≤ N) (hO : Own A) (hK : TK A K) (hl : K.length < 30000) (w1 : zw y.1 = y.1) (w2 : zw y.2.1 = y.2.1) (w3 : zw y.2.2.1 = y.2.2.1) (w4 : zw y.2.2.2 = y.2.2.2) : ∃ B, z_Th_make N 103 y.1 y.2.1 y.2.2.1 y.2.2.2 A = some (((mkN K y).1 : Int), B) ∧ TK B (mkN K y).2 ∧ cF [103] A B := by
  obtain ⟨t1, t2⟩ := hK
  obtain ⟨j, t', B, b1, b2, b3, b4, b5, b6, b7, b8, b9, -⟩ := Th_make (N := N) hN hO (o := 103) (by decide) t1 (by omega) w1 w2 w3 w4
  have hy : tk B 103 j = y := b5
  obtain ⟨-, hDI, -⟩ := id b3
  rcases mkN_ok K y with ⟨a1, a2, a3⟩ | ⟨a1, a2, a3⟩
  · have e1 : tk B 103 (mkN K y).1 = y := by rw [(b8 _ a1).1, t2 _ a1]; exact a2
    have ej : j = (mkN K y).1 := by
      rcases Nat.lt_trichotomy j (mkN K y).1 with c | c | c
      · exact absurd (hy.trans e1.symm) (hDI _ _ c (by omega))
      · exact c
      · exact absurd (e1.trans hy.symm) (hDI _ _ c b4)
    have et : t' = K.length := by
      rcases b9 with b9 | b9
      · exact b9
      · omega
    refine ⟨B, by rw [b1, ej], ?_, b2⟩
    rw [a3]
    exact ⟨by rw [← et]; exact b3, fun i hi => by rw [(b8 i hi).1]; exact t2 i hi⟩
  · have ej : ¬ j < K.length := fun c => a1 j c (by rw [← t2 j c, ← (b8 j c).1]; exact hy)
    have e1 : j = K.length := by omega
    have et : t' = K.length + 1 := by omega
    refine ⟨B, by rw [b1, a2, e1], ?_, b2⟩
    rw [a3]
    have hl' : (K ++ [y]).length = K.length + 1 := by rw [List.length_append]; rfl
    refine ⟨by rw [hl', ← et]; exact b3, fun i hi => ?_⟩
    rw [hl'] at hi
    by_cases c : i < K.length
    · rw [(b8 i c).1, kat_app1 c]; exact t2 i c
    · have : i = K.length := by omega
      rw [this, kat_app2, ← e1]; exact hy
theorem c_own {st ip : Int} (hN : 300000 ≤ N) (hg : g ≤ 60) : ∀ (r i f : Nat) (B : zA), i + r = g → r < f → Own B → TK B (ownK i) → (∀ q : Nat, q < i → ri B 106 q = q) → zi B 102 2 = g → ∃ C, z_Na_beginAnew_20_l N f i B = some C ∧ TK C (ownK g) ∧ (∀ q : Nat, q < g → ri C 106 q = q) ∧ cF [103, 106] B C := by
  intro r
  induction r with
  | zero =>
    intro i f B h1 h2 hO hK hq h22
    obtain ⟨u, rfl⟩ : ∃ u, f = u + 1 := ⟨f - 1, by omega⟩
    have : i = g := by omega
    subst this
    refine ⟨B, ?_, hK, hq, cF.refl _ hO⟩
    show z_Na_beginAnew_20_b (z_Na_beginAnew_20_l N u) N i B = _
    unfold z_Na_beginAnew_20_b
    rw [h22, if_neg (by omega)]
  | succ r ih =>
    intro i f B h1 h2 hO hK hq h22
    obtain ⟨u, rfl⟩ : ∃ u, f = u + 1 := ⟨f - 1, by omega⟩
    have w1 : zw ((i : Int) + 1) = ((i + 1 : Nat) : Int) := by rw [yb_w (by omega) (by omega)]; omega
    obtain ⟨C, c1, c2, c3⟩ := c_mk (N := N) (K := ownK i) (y := (8, (i : Int), 0, 0)) hN hO hK (by rw [ownK_len]; omega) (by show zw 8 = 8; decide) (by show zw (i : Int) = i; exact yb_w (by omega) (by omega)) (by show zw 0 = 0; decide) (by show zw 0 = 0; decide)
    rw [mkN_own] at c1 c2
    have c1 : z_Th_make N 103 8 (i : Int) 0 0 B = some ((i : Int), C) := c1
    have i1 : ∀ {Y Z : zA}, cF [103] Y Z → cF [103, 106] Y Z := fun f => f.mono (fun a ha => by
      simp only [List.contains_iff_mem, List.mem_cons, List.not_mem_nil, or_false] at ha ⊢
      exact Or.inl ha)
    have f2 : cF [106] C (rs C 106 i i) := cF_rs c3.own (by decide) (by decide) (by decide)
    have i2 : ∀ {Y Z : zA}, cF [106] Y Z → cF [103, 106] Y Z := fun f => f.mono (fun a ha => by
      simp only [List.contains_iff_mem, List.mem_cons, List.not_mem_nil, or_false] at ha ⊢
      exact Or.inr ha)
    have v2 : ∀ q : Nat, q < i + 1 → ri (rs C 106 i i) 106 q = q := fun q hq' => by
      by_cases e : q = i
      · rw [e, ri_rs_s, yb_w (by omega) (by omega)]
      · rw [ri_rs_n (by omega) (by omega) (by omega), c3.e (by decide) (by decide)]; exact hq q (by omega)
    obtain ⟨u1, u2, -⟩ := TT.fr (by decide) c2.1 f2 (by decide)
    obtain ⟨D, d1, d2, d3, d4⟩ := ih (i + 1) u (rs C 106 i i) (by omega) (by omega) f2.own ⟨u1, fun q hq => by rw [u2]; exact c2.2 q hq⟩ v2 (by rw [f2.i (by decide) (by decide), c3.i (by decide) (by decide)]; exact h22)
    refine ⟨D, ?_, d2, d3, ((i1 c3).trans (i2 f2)).trans d4⟩
    rw [← d1]
    show z_Na_beginAnew_20_b (z_Na_beginAnew_20_l N u) N i B = _
    unfold z_Na_beginAnew_20_b
    rw [h22, if_pos (by omega), c1, zbI_s, zwr_ok (by omega) (by omega), w1]
theorem c_renew {t : Nat} (hN : 300000 ≤ N) (hg : g ≤ 60) (hO : Own A) (hT : TT A 103 t) (ht : t ≤ 30000) (h22 : zi A 102 2 = g) : ∃ B, z_Na_beginAnew N A = some B ∧ NmB B g (ownK g, id, 0, 0) ∧ cF [102, 103, 106] A B := by
  obtain ⟨C, c1, c2, c3, -⟩ := Th_dropTo (N := N) (n := 0) hN (by decide) hO hT (by omega) (by omega)
  rw [show ((0 : Nat) : Int) = 0 from rfl] at c1
  have f1 : cF [102] C (zsi C 102 3 0) := cF_si c2.own (by decide) (by decide) (by decide)
  have f2 : cF [102] (zsi C 102 3 0) (zsi (zsi C 102 3 0) 102 4 0) := cF_si f1.own (by decide) (by decide) (by decide)
  have f12 := f1.trans f2
  have v3 : zi (zsi (zsi C 102 3 0) 102 4 0) 102 3 = 0 := by rw [zi_si_j (by decide), zi_si_s]; decide
  have v4 : zi (zsi (zsi C 102 3 0) 102 4 0) 102 4 = 0 := by rw [zi_si_s]; decide
  have v2 : zi (zsi (zsi C 102 3 0) 102 4 0) 102 2 = g := by rw [zi_si_j (by decide), zi_si_j (by decide), c2.i (by decide) (by decide)]; exact h22
  obtain ⟨u1, u2, -⟩ := TT.fr (by decide) c3 f12 (by decide)
  have e : z_Na_beginAnew N A = z_Na_beginAnew_20 N 0 (zsi (zsi C 102 3 0) 102 4 0) := by
    unfold z_Na_beginAnew
    rw [c1, zbV_s, zlet_s, zlet_s]
  generalize zsi (zsi C 102 3 0) 102 4 0 = D at *
  obtain ⟨E, e1, e2, e3, e4⟩ := c_own (N := N) (st := 0) (ip := 0) hN hg g 0 N D (by omega) (by omega) f12.own ⟨u1, fun i hi => absurd hi (Nat.not_lt_zero _)⟩ (fun q hq => absurd hq (Nat.not_lt_zero _)) v2
  rw [show ((0 : Nat) : Int) = 0 from rfl] at e1
  refine ⟨E, by rw [e]; exact e1, ⟨e2, e3, by rw [e4.i (by decide) (by decide)]; exact v2, by rw [e4.i (by decide) (by decide)]; exact v3, by rw [e4.i (by decide) (by decide)]; exact v4⟩, ?_⟩
  refine ((c2.mono ?_).trans (f12.mono ?_)).trans (e4.mono ?_)
  all_goals
    intro a ha
    simp only [List.contains_iff_mem, List.mem_cons, List.not_mem_nil, or_false] at ha ⊢
    omega
theorem c_least {s : NS} {t : Nat} (hg : g ≤ 60) (hn : NmB A g s) : ∀ (r i f : Nat), i + r = g → r < f → (∀ q, q < i → s.2.1 q ≠ t) → z_Na_leastWith_2_l N f t i A = some (lsF s.2.1 t g) := by
  obtain ⟨-, n2, n3, -, -⟩ := hn
  intro r
  induction r with
  | zero =>
    intro i f h1 h2 hq
    obtain ⟨u, rfl⟩ : ∃ u, f = u + 1 := ⟨f - 1, by omega⟩
    show z_Na_leastWith_2_b (z_Na_leastWith_2_l N u) N t i A = _
    unfold z_Na_leastWith_2_b
    rw [n3, if_neg (by omega)]
    rcases lsF_ok (nm := s.2.1) (t := t) g with ⟨e, -⟩ | ⟨r, r1, -, r3, -⟩
    · rw [e]
    · exact absurd r3 (hq r (by omega))
  | succ r ih =>
    intro i f h1 h2 hq
    obtain ⟨u, rfl⟩ : ∃ u, f = u + 1 := ⟨f - 1, by omega⟩
    have w1 : zw ((i : Int) + 1) = ((i + 1 : Nat) : Int) := by rw [yb_w (by omega) (by omega)]; omega
    show z_Na_leastWith_2_b (z_Na_leastWith_2_l N u) N t i A = _
    unfold z_Na_leastWith_2_b
    rw [n3, if_pos (by omega), zrd_ok (by omega) (by omega), n2 i (by omega)]
    by_cases c : s.2.1 i = t
    · rw [if_pos (by omega)]
      rcases lsF_ok (nm := s.2.1) (t := t) g with ⟨-, e⟩ | ⟨r, r1, r2, r3, r4⟩
      · exact absurd c (e i (by omega))
      · have : r = i := by
          rcases Nat.lt_trichotomy r i with z | z | z
          · exact absurd r3 (hq r z)
          · exact z
          · exact absurd c (r4 i z)
        rw [r2, this]
    · rw [if_neg (by omega), w1]
      exact ih (i + 1) u (by omega) (by omega) (fun q hq' => by
        by_cases e : q = i
        · rw [e]; exact c
        · exact hq q (by omega))
theorem c_leastW {s : NS} {t : Nat} (hN : 300000 ≤ N) (hg : g ≤ 60) (hn : NmB A g s) : z_Na_leastWith N t A = some (lsF s.2.1 t g) := by
  unfold z_Na_leastWith z_Na_leastWith_2
  exact c_least hg hn g 0 N (by omega) (by omega) (fun q hq => absurd hq (Nat.not_lt_zero _))
theorem c_rdl {s : NS} {it : It} (hN : 300000 ≤ N) (ho : pto.contains o = true) (hop : 3 < o) (hno : o ≠ 102 ∧ o ≠ 103 ∧ o ≠ 106) (hit : okI T p g it) (hg : g ≤ 60) (hk : k < X.length) : ∀ (r i f : Nat) (B : zA), i + r = (rdk it.1).toNat → r < f → Own B → STA B → NmB B g s → CP B o (X.set k (rdL g s.2.1 it i).1) g → ∃ C, z_Na_readLeast_5_l N f o k (rdL g s.2.1 it i).2 i B = some ((rdL g s.2.1 it (rdk it.1).toNat).2, C) ∧ CP C o (X.set k (rdL g s.2.1 it (rdk it.1).toNat).1) g ∧ cF [o] B C ∧ ∀ e, yv C o 1 e = yv B o 1 e := by
  have hr := rdk_0 it.1
  have fr0 : 0 ≤ frk it.1 := by unfold frk; split <;> omega
  intro r
  induction r with
  | zero =>
    intro i f B h1 h2 hO hS hn hc
    obtain ⟨u, rfl⟩ : ∃ u, f = u + 1 := ⟨f - 1, by omega⟩
    have ei : i = (rdk it.1).toNat := by omega
    rw [← ei]
    obtain ⟨b1, b2, b3, b4, b5⟩ := rdL_ok (nm := s.2.1) hit hg i (by omega)
    have hk' : k < (X.set k (rdL g s.2.1 it i).1).length := by rw [List.length_set]; exact hk
    have hitm : itm (X.set k (rdL g s.2.1 it i).1) k = (rdL g s.2.1 it i).1 := by rw [itm_set hk, if_pos rfl]
    obtain ⟨e1, -⟩ := cp_reads (N := N) hO ho hS hc (by rw [hitm]; exact b2) hk'
    refine ⟨B, ?_, hc, cF.refl _ hO, fun _ => rfl⟩
    show z_Na_readLeast_5_b (z_Na_readLeast_5_l N u) N o k _ i B = _
    unfold z_Na_readLeast_5_b
    rw [e1, zbP_s, hitm, b1, if_neg (by omega), if_pos b4]
  | succ r ih =>
    intro i f B h1 h2 hO hS hn hc
    obtain ⟨u, rfl⟩ : ∃ u, f = u + 1 := ⟨f - 1, by omega⟩
    have w1 : zw ((i : Int) + 1) = ((i + 1 : Nat) : Int) := by rw [yb_w (by omega) (by omega)]; omega
    obtain ⟨b1, b2, b3, b4, b5⟩ := rdL_ok (nm := s.2.1) hit hg i (by omega)
    have hk' : k < (X.set k (rdL g s.2.1 it i).1).length := by rw [List.length_set]; exact hk
    have hitm : itm (X.set k (rdL g s.2.1 it i).1) k = (rdL g s.2.1 it i).1 := by rw [itm_set hk, if_pos rfl]
    obtain ⟨e1, e2⟩ := cp_reads (N := N) hO ho hS hc (by rw [hitm]; exact b2) hk'
    obtain ⟨q1, q2, d, q3, q4⟩ := rd_rg b2 hg (n := i) (by rw [b1]; omega)
    rw [b1] at q1 q2 q3
    have hreg := cp_reg (N := N) (i := (frk it.1).toNat + i) hO ho hc (by rw [hitm]; exact b2) hg hk' (by rw [hitm, b1]; exact q1) (by rw [hitm, b1]; exact q2)
    rw [hitm, q3] at hreg
    have hdg : d < g := by
      have := ((b2.2.2.1 _ (by rw [b1]; exact q1)).2.2 (by rw [b1]; exact q2)).2
      omega
    obtain ⟨-, n2, -⟩ := id hn
    have e : rdL g s.2.1 it (i + 1) = if lsF s.2.1 (s.2.1 (ig (rdL g s.2.1 it i).1 ((frk it.1).toNat + i + 1)).toNat) g = ig (rdL g s.2.1 it i).1 ((frk it.1).toNat + i + 1) then rdL g s.2.1 it i else (setN (rdL g s.2.1 it i).1 ((frk it.1).toNat + i) (lsF s.2.1 (s.2.1 (ig (rdL g s.2.1 it i).1 ((frk it.1).toNat + i + 1)).toNat) g), 1) := rfl
    rw [q3, Int.toNat_natCast] at e
    obtain ⟨l, l1, l2⟩ := lsF_le (nm := s.2.1) hdg
    have hb := nbk_le it.1
    have st : z_Na_readLeast_5_l N (u + 1) o k (rdL g s.2.1 it i).2 i B = z_Na_readLeast_5_b (z_Na_readLeast_5_l N u) N o k (rdL g s.2.1 it i).2 i B := rfl
    unfold z_Na_readLeast_5_b at st
    rw [e1, zbP_s, hitm, b1, if_pos (by omega), e2 i (by omega) (by omega), zbP_s, hitm, b1, show frk it.1 + (i : Int) = (((frk it.1).toNat + i : Nat) : Int) by omega, hreg, zbP_s, zrd_ok (by omega) (by omega), n2 d hdg, c_leastW hN hg hn, zbP_s, l1, if_neg (by omega), w1] at st
    rw [l1] at e
    rw [st]
    by_cases c : (l : Int) = (d : Int)
    · rw [if_pos c] at e
      rw [if_pos c]
      have := ih (i + 1) u B (by omega) (by omega) hO hS hn (by rw [e]; exact hc)
      rw [e] at this
      exact this
    · rw [if_neg c] at e
      rw [if_neg c]
      obtain ⟨C, c1, c2, c3, c4⟩ := cp_set (N := N) (k := k) (j := (frk it.1).toNat + i) (v := (l : Int)) hO ho hc hk' (by omega) (yb_w (by omega) (by omega))
      rw [c1, zbV_s]
      rw [hitm, List.set_set] at c2
      have n6 : ∀ a, a ≠ o → ([o] : List Nat).contains a = false := fun a ha => cont2 ha
      obtain ⟨D, d1, d2, d3, d4⟩ := ih (i + 1) u C (by omega) (by omega) c3.own (hS.fr c3 (n6 _ (by omega)) (n6 _ (by omega)) (n6 _ (by omega))) (hn.fr c3 (n6 _ (by omega)) (n6 _ (by omega)) (n6 _ (by omega))) (by rw [e]; exact c2)
      rw [e] at d1
      exact ⟨D, d1, d2, c3.trans d3, fun x => by rw [d4, c4]⟩
end
