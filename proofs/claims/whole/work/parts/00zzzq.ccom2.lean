/-! COMMON of the class: an item, all items -/
def fnm (o : Nat) : List Nat := [o, 102, 103, 106]
def rgP (a v : Int) (g : Nat) : Prop := ∃ d : Nat, a = d ∧ d < g ∧ v = d
section
variable {N : Nat} {A : zA} {o g k : Nat} {X : List It} {T p h m : Nat} {s : NS}
theorem fnm_o {B : zA} (f : cF [o] A B) : cF (fnm o) A B := f.mono (fun a ha => by
  unfold fnm
  simp only [List.contains_iff_mem, List.mem_cons, List.not_mem_nil, or_false] at ha ⊢
  omega)
theorem fnm_s {B : zA} {S : List Nat} (f : cF S A B) (hS : ∀ a, S.contains a = true → a = 102 ∨ a = 103 ∨ a = 106) : cF (fnm o) A B := f.mono (fun a ha => by
  have := hS a ha
  unfold fnm
  simp only [List.contains_iff_mem, List.mem_cons, List.not_mem_nil, or_false]
  omega)
theorem yv_keep {B : zA} {S : List Nat} (ho : pto.contains o = true) (f : cF S A B) (hs : S.contains o = false) : ∀ e, yv B o 1 e = yv A o 1 e := fun e => f.v (dy_of (pto_dy ho) (by decide)) hs
/-- a name is made and given to register d -/
theorem c_give {y : Nd} {d : Nat} {st ip : Nat} (hN : 300000 ≤ N) (hO : Own A) (hg : g ≤ 60) (hw : WNS g m s) (hm : m ≤ 1000) (hn : NmB A g s) (hd : d < g) (w1 : zw y.1 = y.1) (w2 : zw y.2.1 = y.2.1) (w3 : zw y.2.2.1 = y.2.2.1) (w4 : zw y.2.2.2 = y.2.2.2) : ∃ B, z_Th_make N 103 y.1 y.2.1 y.2.2.1 y.2.2.2 A = some (((mkN s.1 y).1 : Int), B) ∧ NmB B g ((mkN s.1 y).2, s.2) ∧ cF [103] A B ∧ NmB (rs B 106 d ((mkN s.1 y).1 : Int)) g ((mkN s.1 y).2, nset s.2.1 d (mkN s.1 y).1, s.2.2) ∧ cF [106] B (rs B 106 d ((mkN s.1 y).1 : Int)) := by
  obtain ⟨n1, n2, n3, n4, n5⟩ := id hn
  have hl : s.1.length ≤ 1060 := by have := hw.2.1; omega
  obtain ⟨B, b1, b2, b3⟩ := c_mk (N := N) (K := s.1) (y := y) hN hO n1 (by omega) w1 w2 w3 w4
  have f2 : cF [106] B (rs B 106 d ((mkN s.1 y).1 : Int)) := cF_rs b3.own (by decide) (by decide) (by decide)
  have hmk : (mkN s.1 y).1 ≤ 1060 := by
    rcases mkN_ok s.1 y with ⟨a1, -, -⟩ | ⟨-, a2, -⟩ <;> omega
  have nB : NmB B g ((mkN s.1 y).2, s.2) := ⟨b2, fun r hr => by rw [b3.e (by decide) (by decide)]; exact n2 r hr, by rw [b3.i (by decide) (by decide)]; exact n3, by rw [b3.i (by decide) (by decide)]; exact n4, by rw [b3.i (by decide) (by decide)]; exact n5⟩
  refine ⟨B, b1, nB, b3, ?_, f2⟩
  obtain ⟨t1, r2, r3, r4, r5⟩ := nB
  obtain ⟨u1, u2, -⟩ := TT.fr (by decide) t1.1 f2 (by decide)
  refine ⟨⟨u1, fun i hi => by rw [u2]; exact t1.2 i hi⟩, fun r hr => ?_, by rw [f2.i (by decide) (by decide)]; exact r3, by rw [f2.i (by decide) (by decide)]; exact r4, by rw [f2.i (by decide) (by decide)]; exact r5⟩
  show _ = (nset s.2.1 d (mkN s.1 y).1 r : Int)
  unfold nset
  by_cases e : r = d
  · rw [if_pos e, e, ri_rs_s, yb_w (by omega) (by omega)]
  · rw [if_neg e, ri_rs_n (by omega) (by omega) (by omega)]; exact r2 r hr
theorem c_bmv {y : Nd} (hN : 300000 ≤ N) (hO : Own A) (ho : pto.contains o = true) (hop : 3 < o) (hno : o ≠ 102 ∧ o ≠ 103 ∧ o ≠ 106) (hg : g ≤ 60) (hw : WNS g m s) (hm : m ≤ 1000) (hn : NmB A g s) (hx : CP A o X g) (hk : k < X.length) (hi : okI T p g (itm X k)) (hk2 : (itm X k).1 = 2 ∨ (itm X k).1 = 3) (w1 : zw y.1 = y.1) (w2 : zw y.2.1 = y.2.1) (w3 : zw y.2.2.1 = y.2.2.1) (w4 : zw y.2.2.2 = y.2.2.2) : ∃ B, (zbI (z_Th_make N 103 y.1 y.2.1 y.2.2.1 y.2.2.2 A) fun v15 A16 => zbI (z_Na_becomesMove N o k v15 A16) fun v17 A18 => (if v17 = 0 ∨ v17 = 1 then some (v17, A18) else none)) = some ((bmv g (itm X k) y s).2.2, B) ∧ CP B o (X.set k (bmv g (itm X k) y s).1) g ∧ NmB B g (bmv g (itm X k) y s).2.1 ∧ cF (fnm o) A B ∧ ∀ e, yv B o 1 e = yv A o 1 e := by
  obtain ⟨o1, o2, o3, o4, o5⟩ := id hi
  have hvk := nbk_v o1 o2
  obtain ⟨d1, d2, d3⟩ := o3 0 (by omega)
  have d3 := d3 ⟨by omega, by omega, by omega⟩
  have d3 : 0 ≤ ig (itm X k) 1 ∧ ig (itm X k) 1 < g := d3
  obtain ⟨d, hd⟩ : ∃ d : Nat, ig (itm X k) 1 = d := ⟨(ig (itm X k) 1).toNat, by omega⟩
  obtain ⟨B, b1, b2, b3, b4, b5⟩ := c_give (N := N) (d := d) (st := 0) (ip := 0) hN hO hg hw hm hn (by omega) w1 w2 w3 w4
  have n6 : ∀ a : Nat, a ≠ o → ([a] : List Nat).contains o = false := fun a ha => cont2 (fun z => ha z.symm)
  have hxB := hx.fr ho b3 (n6 _ (by omega))
  have hreg := cp_reg (N := N) (i := 0) b3.own ho hxB hi hg hk (by omega) ⟨by omega, by omega, by omega⟩
  have hreg : z_Pt_register N o k 0 B = some (ig (itm X k) 1) := hreg
  have hlw := c_leastW (N := N) (t := (mkN s.1 y).1) hN hg b2
  have hlw : z_Na_leastWith N ((mkN s.1 y).1 : Int) B = some (lsF s.2.1 (mkN s.1 y).1 g) := hlw
  have hmv : z_Na_becomesMove N o k ((mkN s.1 y).1 : Int) B = (if lsF s.2.1 (mkN s.1 y).1 g < 0 then some (0, rs B 106 d ((mkN s.1 y).1 : Int)) else zbV (z_Pt_becomeMove N o k d (lsF s.2.1 (mkN s.1 y).1 g) (rs B 106 d ((mkN s.1 y).1 : Int))) fun A5 => some (1, A5)) := by
    unfold z_Na_becomesMove
    rw [hreg, zbP_s, hd, hlw, zbP_s, zwr_ok (by omega) (by omega)]
  have hy0 := yv_keep ho (b3.mono (T := [103, 106]) (fun a ha => by
    simp only [List.contains_iff_mem, List.mem_cons, List.not_mem_nil, or_false] at ha ⊢
    exact Or.inl ha)) (nc_of (fun q => by
    simp only [List.contains_iff_mem, List.mem_cons, List.not_mem_nil, or_false] at q
    omega))
  have hy1 := yv_keep ho b5 (n6 _ (by omega))
  have hxC := hxB.fr ho b5 (n6 _ (by omega))
  have fB : cF (fnm o) A (rs B 106 d ((mkN s.1 y).1 : Int)) := (fnm_s b3 (fun a ha => by
    simp only [List.contains_iff_mem, List.mem_cons, List.not_mem_nil, or_false] at ha
    omega)).trans (fnm_s b5 (fun a ha => by
    simp only [List.contains_iff_mem, List.mem_cons, List.not_mem_nil, or_false] at ha
    omega))
  rw [b1, zbI_s, hmv]
  generalize rs B 106 d ((mkN s.1 y).1 : Int) = C at *
  unfold bmv
  rcases lsF_ok (nm := s.2.1) (t := (mkN s.1 y).1) g with ⟨e, -⟩ | ⟨l, l1, l2, -, -⟩
  · rw [e, if_pos (by decide), zbI_s, if_pos (Or.inl rfl), if_pos (by decide), if_pos (by decide)]
    refine ⟨C, rfl, ?_, ?_, fB, fun e => by rw [hy1, hy0]⟩
    · dsimp only
      rw [set_self hk]; exact hxC
    · dsimp only
      rw [hd, Int.toNat_natCast]; exact b4
  · obtain ⟨D, e1, e2, e3, e4⟩ := cp_move (N := N) (d := (d : Int)) (l := (l : Int)) b5.own ho hxC hk (by omega) (yb_w (by omega) (by omega)) (yb_w (by omega) (by omega))
    rw [l2, if_neg (by omega), e1, zbV_s, zbI_s, if_pos (Or.inr rfl), if_neg (by omega), if_neg (by omega)]
    refine ⟨D, rfl, ?_, ?_, fB.trans (fnm_o e3), fun e => by rw [e4, hy1, hy0]⟩
    · dsimp only
      rw [hd]; exact e2
    · dsimp only
      rw [hd, Int.toNat_natCast]
      exact b4.fr e3 (cont2 (by omega)) (cont2 (by omega)) (cont2 (by omega))
theorem c_goOver (hN : 300000 ≤ N) (hO : Own A) (ho : pto.contains o = true) (hop : 3 < o) (hno : o ≠ 102 ∧ o ≠ 103 ∧ o ≠ 106) (hg : g ≤ 60) (hw : WNS g m s) (hm : m ≤ 1000) (hn : NmB A g s) (hx : CP A o X g) (hk : k < X.length) (hi : okI T p g (itm X k)) : ∃ B, z_Na_goOver N o k A = some ((goV g (itm X k) s).2.2, B) ∧ CP B o (X.set k (goV g (itm X k) s).1) g ∧ NmB B g (goV g (itm X k) s).2.1 ∧ cF (fnm o) A B ∧ ∀ e, yv B o 1 e = yv A o 1 e := by
  obtain ⟨o1, o2, o3, o4, o5⟩ := id hi
  have hvk := nbk_v o1 o2
  obtain ⟨n1, n2, n3, n4, n5⟩ := id hn
  obtain ⟨a1, a2, a3, a4, a5, -⟩ := id hw
  obtain ⟨v1, e1, f1, f1'⟩ := cp_regx (N := N) hO ho hx hk (i := 0) (by decide)
  obtain ⟨v2, e2, f2, f2'⟩ := cp_regx (N := N) hO ho hx hk (i := 1) (by decide)
  rw [show ((0 : Nat) : Int) = 0 from rfl] at e1
  rw [show ((1 : Nat) : Int) = 1 from rfl] at e2
  have rg : ∀ i : Nat, i < nbk (itm X k).1 → isr (itm X k).1 i → ∃ d : Nat, ig (itm X k) (i + 1) = d ∧ d < g ∧ z_Pt_register N o k i A = some (d : Int) := fun i hin hr => by
    have := (o3 i hin).2.2 hr
    refine ⟨(ig (itm X k) (i + 1)).toNat, by omega, by omega, ?_⟩
    rw [cp_reg hO ho hx hi hg hk hin hr]
    congr 1
    omega
  have n6 : ∀ a : Nat, a ≠ o → ([a] : List Nat).contains o = false := fun a ha => cont2 (fun z => ha z.symm)
  have st : z_Na_goOver N o k A = (if (itm X k).1 = 0 then zbP (z_Pt_number N o k 1 A) fun v5 => zbI (z_Th_make N 103 0 v5 0 0 A) fun v6 A7 => zwr A7 106 60 v1 v6 fun A8 => some (0, A8) else (if (itm X k).1 = 1 then zwr A 106 60 v1 (ri A 106 v2) fun A10 => some (0, A10) else (if (itm X k).1 = 2 then zbP (z_Pt_register N o k 2 A) fun v12 => zrd A 106 60 v12 fun v13 => zbP (z_Pt_number N o k 3 A) fun v14 => zbI (z_Th_make N 103 1 v14 (ri A 106 v2) v13 A) fun v15 A16 => zbI (z_Na_becomesMove N o k v15 A16) fun v17 A18 => (if v17 = 0 ∨ v17 = 1 then some (v17, A18) else none) else (if (itm X k).1 = 3 then zbI (z_Th_make N 103 2 (ri A 106 v2) (zi A 102 3) 0 A) fun v20 A21 => zbI (z_Na_becomesMove N o k v20 A21) fun v22 A23 => (if v22 = 0 ∨ v22 = 1 then some (v22, A23) else none) else (if (itm X k).1 = 4 then zlet (zsi A 102 3 ((zi A 102 3) + 1)) fun A25 => some (0, A25) else (if (itm X k).1 = 5 then zbI (z_Th_make N 103 5 (zi A 102 4) 0 0 A) fun v27 A28 => zwr A28 106 60 v1 v27 fun A29 => zlet (zsi A29 102 4 ((zi A29 102 4) + 1)) fun A30 => some (0, A30) else (if (itm X k).1 = 6 then some (0, A) else zbV (z_Na_beginAnew N A) fun A33 => some (0, A33)))))))) := by
    unfold z_Na_goOver
    rw [e1, zbP_s, e2, zbP_s, zrd_ok f2 (by omega), cp_kind hO ho hx hk, zbP_s]
  rw [st]
  unfold goV
  have reg0 : (itm X k).1 ≤ 3 ∨ (itm X k).1 = 5 → rgP (ig (itm X k) 1) v1 g := fun hc => by
    obtain ⟨d, d1, d2, d3⟩ := rg 0 (by omega) ⟨by omega, by omega, by omega⟩
    rw [show ((0 : Nat) : Int) = 0 from rfl, e1] at d3
    exact ⟨d, d1, d2, Option.some.inj d3⟩
  have reg1 : (itm X k).1 = 1 ∨ (itm X k).1 = 2 ∨ (itm X k).1 = 3 → rgP (ig (itm X k) 2) v2 g := fun hc => by
    obtain ⟨d, d1, d2, d3⟩ := rg 1 (by omega) ⟨by omega, by omega, by omega⟩
    rw [show ((1 : Nat) : Int) = 1 from rfl, e2] at d3
    exact ⟨d, d1, d2, Option.some.inj d3⟩
  have lim : ∀ d : Nat, d < g → s.2.1 d ≤ 1060 := fun d hd => by have := a5 d hd; omega
  by_cases c0 : (itm X k).1 = 0
  · obtain ⟨d, d1, d2, d3⟩ := reg0 (by omega)
    have hnum := cp_num (N := N) (i := 1) hO ho hx hk (by omega)
    rw [show ((1 : Nat) : Int) = 1 from rfl] at hnum
    have hnum : z_Pt_number N o k 1 A = some (ig (itm X k) 2) := hnum
    obtain ⟨z1, z2, -⟩ := o3 1 (by omega)
    obtain ⟨B, b1, b2, b3, b4, b5⟩ := c_give (N := N) (y := (0, ig (itm X k) 2, 0, 0)) (d := d) (st := 0) (ip := 0) hN hO hg hw hm hn d2 (by show zw 0 = 0; decide) (by show zw (ig (itm X k) 2) = _; exact yb_w z1 z2) (by show zw 0 = 0; decide) (by show zw 0 = 0; decide)
    have b1 : z_Th_make N 103 0 (ig (itm X k) 2) 0 0 A = _ := b1
    rw [if_pos c0, if_pos c0, hnum, zbP_s, b1, zbI_s, d3, zwr_ok (by omega) (by omega)]
    refine ⟨_, rfl, ?_, ?_, (fnm_s b3 (fun a ha => by
      simp only [List.contains_iff_mem, List.mem_cons, List.not_mem_nil, or_false] at ha
      omega)).trans (fnm_s b5 (fun a ha => by
      simp only [List.contains_iff_mem, List.mem_cons, List.not_mem_nil, or_false] at ha
      omega)), fun e => by rw [yv_keep ho b5 (n6 _ (by omega)), yv_keep ho b3 (n6 _ (by omega))]⟩
    · dsimp only
      rw [set_self hk]; exact (hx.fr ho b3 (n6 _ (by omega))).fr ho b5 (n6 _ (by omega))
    · dsimp only
      rw [d1, Int.toNat_natCast]; exact b4
  rw [if_neg c0, if_neg c0]
  by_cases c1 : (itm X k).1 = 1
  · obtain ⟨d, d1, d2, d3⟩ := reg0 (by omega)
    obtain ⟨t, t1, t2, t3⟩ := reg1 (by omega)
    have := lim t t2
    rw [if_pos c1, if_pos c1, d3, t3, n2 t t2, zwr_ok (by omega) (by omega)]
    have f5 : cF [106] A (rs A 106 d (s.2.1 t : Int)) := cF_rs hO (by decide) (by decide) (by decide)
    refine ⟨_, rfl, ?_, ?_, fnm_s f5 (fun a ha => by
      simp only [List.contains_iff_mem, List.mem_cons, List.not_mem_nil, or_false] at ha
      omega), yv_keep ho f5 (n6 _ (by omega))⟩
    · dsimp only
      rw [set_self hk]; exact hx.fr ho f5 (n6 _ (by omega))
    · dsimp only
      rw [d1, t1, Int.toNat_natCast, Int.toNat_natCast]
      obtain ⟨u1, u2, -⟩ := TT.fr (by decide) n1.1 f5 (by decide)
      refine ⟨⟨u1, fun i hi => by rw [u2]; exact n1.2 i hi⟩, fun r hr => ?_, by rw [f5.i (by decide) (by decide)]; exact n3, by rw [f5.i (by decide) (by decide)]; exact n4, by rw [f5.i (by decide) (by decide)]; exact n5⟩
      show _ = (nset s.2.1 d (s.2.1 t) r : Int)
      unfold nset
      by_cases e : r = d
      · rw [if_pos e, e, ri_rs_s, yb_w (by omega) (by omega)]
      · rw [if_neg e, ri_rs_n (by omega) (by omega) (by omega)]; exact n2 r hr
  rw [if_neg c1, if_neg c1]
  by_cases c2 : (itm X k).1 = 2
  · obtain ⟨t, t1, t2, t3⟩ := reg1 (by omega)
    obtain ⟨u, u1, u2, u3⟩ := rg 2 (by omega) ⟨by omega, by omega, by omega⟩
    have u1 : ig (itm X k) 3 = u := u1
    have u3 : z_Pt_register N o k 2 A = some (u : Int) := u3
    have hnum := cp_num (N := N) (i := 3) hO ho hx hk (by omega)
    have hnum : z_Pt_number N o k 3 A = some (ig (itm X k) 4) := hnum
    have := lim t t2
    have := lim u u2
    have := o4 c2
    obtain ⟨B, b1, b2, b3, b4, b5⟩ := c_bmv (N := N) (y := (1, ig (itm X k) 4, (s.2.1 t : Int), (s.2.1 u : Int))) hN hO ho hop hno hg hw hm hn hx hk hi (Or.inl c2) (by show zw 1 = 1; decide) (by show zw (ig (itm X k) 4) = _; exact yb_w (by omega) (by omega)) (by show zw (s.2.1 t : Int) = _; exact yb_w (by omega) (by omega)) (by show zw (s.2.1 u : Int) = _; exact yb_w (by omega) (by omega))
    rw [if_pos c2, if_pos c2, u3, zbP_s, zrd_ok (by omega) (by omega), n2 u u2, hnum, zbP_s, t3, n2 t t2, t1, u1, Int.toNat_natCast, Int.toNat_natCast]
    exact ⟨B, b1, b2, b3, b4, b5⟩
  rw [if_neg c2, if_neg c2]
  by_cases c3 : (itm X k).1 = 3
  · obtain ⟨t, t1, t2, t3⟩ := reg1 (by omega)
    have := lim t t2
    obtain ⟨B, b1, b2, b3, b4, b5⟩ := c_bmv (N := N) (y := (2, (s.2.1 t : Int), (s.2.2.1 : Int), 0)) hN hO ho hop hno hg hw hm hn hx hk hi (Or.inr c3) (by show zw 2 = 2; decide) (by show zw (s.2.1 t : Int) = _; exact yb_w (by omega) (by omega)) (by show zw (s.2.2.1 : Int) = _; exact yb_w (by omega) (by omega)) (by show zw 0 = 0; decide)
    rw [if_pos c3, if_pos c3, t3, n2 t t2, n4, t1, Int.toNat_natCast]
    exact ⟨B, b1, b2, b3, b4, b5⟩
  rw [if_neg c3, if_neg c3]
  by_cases c4 : (itm X k).1 = 4
  · have f5 : cF [102] A (zsi A 102 3 ((s.2.2.1 : Int) + 1)) := cF_si hO (by decide) (by decide) (by decide)
    rw [if_pos c4, if_pos c4, n4, zlet_s]
    refine ⟨_, rfl, ?_, ?_, fnm_s f5 (fun a ha => by
      simp only [List.contains_iff_mem, List.mem_cons, List.not_mem_nil, or_false] at ha
      omega), yv_keep ho f5 (n6 _ (by omega))⟩
    · dsimp only
      rw [set_self hk]; exact hx.fr ho f5 (n6 _ (by omega))
    · obtain ⟨u1, u2, -⟩ := TT.fr (by decide) n1.1 f5 (by decide)
      refine ⟨⟨u1, fun i hi => by rw [u2]; exact n1.2 i hi⟩, fun r hr => by rw [f5.e (by decide) (by decide)]; exact n2 r hr, by rw [zi_si_j (by decide)]; exact n3, ?_, by rw [zi_si_j (by decide)]; exact n5⟩
      rw [zi_si_s, yb_w (by omega) (by omega)]
      show _ = ((s.2.2.1 + 1 : Nat) : Int)
      omega
  rw [if_neg c4, if_neg c4]
  by_cases c5 : (itm X k).1 = 5
  · obtain ⟨d, d1, d2, d3⟩ := reg0 (by omega)
    obtain ⟨B, b1, b2, b3, b4, b5⟩ := c_give (N := N) (y := (5, (s.2.2.2 : Int), 0, 0)) (d := d) (st := 0) (ip := 0) hN hO hg hw hm hn d2 (by show zw 5 = 5; decide) (by show zw (s.2.2.2 : Int) = _; exact yb_w (by omega) (by omega)) (by show zw 0 = 0; decide) (by show zw 0 = 0; decide)
    have b1 : z_Th_make N 103 5 (s.2.2.2 : Int) 0 0 A = _ := b1
    rw [if_pos c5, if_pos c5, n5, b1, zbI_s, d3, zwr_ok (by omega) (by omega)]
    generalize rs B 106 d ((mkN s.1 (5, (s.2.2.2 : Int), 0, 0)).1 : Int) = C at *
    obtain ⟨q1, q2, q3, q4, q5⟩ := b4
    have q5 : zi C 102 4 = (s.2.2.2 : Int) := q5
    rw [zlet_s, q5]
    have f5 : cF [102] C (zsi C 102 4 ((s.2.2.2 : Int) + 1)) := cF_si b5.own (by decide) (by decide) (by decide)
    refine ⟨_, rfl, ?_, ?_, ((fnm_s b3 (fun a ha => by
      simp only [List.contains_iff_mem, List.mem_cons, List.not_mem_nil, or_false] at ha
      omega)).trans (fnm_s b5 (fun a ha => by
      simp only [List.contains_iff_mem, List.mem_cons, List.not_mem_nil, or_false] at ha
      omega))).trans (fnm_s f5 (fun a ha => by
      simp only [List.contains_iff_mem, List.mem_cons, List.not_mem_nil, or_false] at ha
      omega)), fun e => by rw [yv_keep ho f5 (n6 _ (by omega)), yv_keep ho b5 (n6 _ (by omega)), yv_keep ho b3 (n6 _ (by omega))]⟩
    · dsimp only
      rw [set_self hk]; exact ((hx.fr ho b3 (n6 _ (by omega))).fr ho b5 (n6 _ (by omega))).fr ho f5 (n6 _ (by omega))
    · dsimp only
      rw [d1, Int.toNat_natCast]
      obtain ⟨u1, u2, -⟩ := TT.fr (by decide) q1.1 f5 (by decide)
      refine ⟨⟨u1, fun i hi => by rw [u2]; exact q1.2 i hi⟩, fun r hr => by rw [f5.e (by decide) (by decide)]; exact q2 r hr, by rw [zi_si_j (by decide)]; exact q3, by rw [zi_si_j (by decide)]; exact q4, ?_⟩
      rw [zi_si_s, yb_w (by omega) (by omega)]
      show _ = ((s.2.2.2 + 1 : Nat) : Int)
      omega
  rw [if_neg c5, if_neg c5]
  by_cases c6 : (itm X k).1 = 6
  · rw [if_pos c6, if_pos c6]
    exact ⟨A, rfl, by dsimp only; rw [set_self hk]; exact hx, hn, cF.refl _ hO, fun _ => rfl⟩
  rw [if_neg c6, if_neg c6]
  obtain ⟨B, b1, b2, b3⟩ := c_renew (N := N) (g := g) hN hg hO n1.1 (by omega) n3
  rw [b1, zbV_s]
  have hoo : ([102, 103, 106] : List Nat).contains o = false := nc_of (fun q => by
    simp only [List.contains_iff_mem, List.mem_cons, List.not_mem_nil, or_false] at q
    omega)
  refine ⟨B, rfl, ?_, b2, fnm_s b3 (fun a ha => by
    simp only [List.contains_iff_mem, List.mem_cons, List.not_mem_nil, or_false] at ha
    omega), yv_keep ho b3 hoo⟩
  dsimp only
  rw [set_self hk]; exact hx.fr ho b3 hoo
theorem c_share_run (hN : 300000 ≤ N) (ho : pto.contains o = true) (hop : 3 < o) (hno : o ≠ 102 ∧ o ≠ 103 ∧ o ≠ 106) (hok : okL T p g X) (hg : g ≤ 60) (hl : X.length ≤ 150) : ∀ (r k f : Nat) (B : zA), k + r = X.length → r < f → Own B → STA B → CP B o (cmS g X k).1 g → NmB B g (cmS g X k).2.1 → ∃ C, z_Na_share_21_l N f o ((cmS g X k).2.2 : Int) k B = some (((cmS g X X.length).2.2 : Int), C) ∧ CP C o (cmS g X X.length).1 g ∧ NmB C g (cmS g X X.length).2.1 ∧ cF (fnm o) B C ∧ ∀ e, yv C o 1 e = yv B o 1 e := by
  intro r
  induction r with
  | zero =>
    intro k f B h1 h2 hO hS hx hn
    obtain ⟨u, rfl⟩ : ∃ u, f = u + 1 := ⟨f - 1, by omega⟩
    have : k = X.length := by omega
    subst this
    have hln := (cmS_ok hok hg X.length (Nat.le_refl _)).1
    have hcn : zi B o 2 = X.length := by rw [← hln]; exact hx.2.1
    refine ⟨B, ?_, hx, hn, cF.refl _ hO, fun _ => rfl⟩
    show z_Na_share_21_b (z_Na_share_21_l N u) N o _ (X.length : Nat) B = _
    unfold z_Na_share_21_b
    rw [hcn, if_neg (by omega)]
  | succ r ih =>
    intro k f B h1 h2 hO hS hx hn
    obtain ⟨u, rfl⟩ : ∃ u, f = u + 1 := ⟨f - 1, by omega⟩
    have hk : k < X.length := by omega
    obtain ⟨i1, i2, i3, i4, i5, i6, i7, i8⟩ := cmS_ok hok hg k (by omega)
    have e : cmS g X (k + 1) = ((cmS g X k).1.set k (cm1 g (itm X k) (cmS g X k).2.1).1, (cm1 g (itm X k) (cmS g X k).2.1).2.1, (cmS g X k).2.2 + (cm1 g (itm X k) (cmS g X k).2.1).2.2) := rfl
    have hik := i2 k (Nat.le_refl _)
    generalize cmS g X k = z at *
    have hcn : zi B o 2 = X.length := by rw [← i1]; exact hx.2.1
    have hit := hok _ (itm_mem hk)
    have hr := rdk_0 (itm X k).1
    have w1 : zw ((k : Int) + 1) = ((k + 1 : Nat) : Int) := by rw [yb_w (by omega) (by omega)]; omega
    have w2 : zw ((z.2.2 : Int) + 1) = ((z.2.2 + 1 : Nat) : Int) := by rw [yb_w (by omega) (by omega)]; omega
    obtain ⟨C, c1, c2, c3, c4⟩ := c_rdl (N := N) (s := z.2.1) (it := itm X k) (X := z.1) (k := k) hN ho hop hno hit hg (by omega) (rdk (itm X k).1).toNat 0 N B (by omega) (by omega) hO hS hn (by
      show CP B o (z.1.set k (itm X k)) g
      rw [← hik, set_self (by omega)]; exact hx)
    have c1 : z_Na_readLeast N o k B = _ := c1
    obtain ⟨b1, b2, b3, b4, b5⟩ := rdL_ok (nm := z.2.1.2.1) hit hg (rdk (itm X k).1).toNat (by omega)
    have n6 : ∀ a : Nat, a ≠ o → ([o] : List Nat).contains a = false := fun a ha => cont2 ha
    have hnC := hn.fr c3 (n6 _ (by omega)) (n6 _ (by omega)) (n6 _ (by omega))
    have hik2 : itm (z.1.set k (rdL g z.2.1.2.1 (itm X k) (rdk (itm X k).1).toNat).1) k = (rdL g z.2.1.2.1 (itm X k) (rdk (itm X k).1).toNat).1 := by rw [itm_set (by omega), if_pos rfl]
    obtain ⟨D, d1, d2, d3, d4, d5⟩ := c_goOver (N := N) (k := k) (m := k) hN c3.own ho hop hno hg i6 (by omega) hnC c2 (by rw [List.length_set]; omega) (by rw [hik2]; exact b2)
    rw [hik2] at d1 d2 d3
    rw [List.set_set] at d2
    obtain ⟨-, -, -, q4⟩ := goV_ok b2 hg i6
    have c1' : (cm1 g (itm X k) z.2.1).1 = (goV g (rdL g z.2.1.2.1 (itm X k) (rdk (itm X k).1).toNat).1 z.2.1).1 := rfl
    have c2' : (cm1 g (itm X k) z.2.1).2.1 = (goV g (rdL g z.2.1.2.1 (itm X k) (rdk (itm X k).1).toNat).1 z.2.1).2.1 := rfl
    have c3' : (cm1 g (itm X k) z.2.1).2.2 = if (rdL g z.2.1.2.1 (itm X k) (rdk (itm X k).1).toNat).2 = 0 ∧ (goV g (rdL g z.2.1.2.1 (itm X k) (rdk (itm X k).1).toNat).1 z.2.1).2.2 = 0 then 0 else 1 := rfl
    have hnf : ∀ a, a ≠ o → a ≠ 102 → a ≠ 103 → a ≠ 106 → (fnm o).contains a = false := fun a h1 h2 h3 h4 => nc_of (fun q => by
      unfold fnm at q
      simp only [List.contains_iff_mem, List.mem_cons, List.not_mem_nil, or_false] at q
      omega)
    have hSD := (hS.fr c3 (n6 _ (by omega)) (n6 _ (by omega)) (n6 _ (by omega))).fr d4 (hnf _ (by omega) (by decide) (by decide) (by decide)) (hnf _ (by omega) (by decide) (by decide) (by decide)) (hnf _ (by omega) (by decide) (by decide) (by decide))
    obtain ⟨E, e1, e2, e3, e4, e5⟩ := ih (k + 1) u D (by omega) (by omega) d4.own hSD (by rw [e]; dsimp only; rw [c1']; exact d2) (by rw [e]; dsimp only; rw [c2']; exact d3)
    refine ⟨E, ?_, e2, e3, ((fnm_o c3).trans d4).trans e4, fun x => by rw [e5, d5, c4]⟩
    rw [← e1, e]
    dsimp only
    rw [c3']
    show z_Na_share_21_b (z_Na_share_21_l N u) N o _ k B = _
    unfold z_Na_share_21_b
    rw [hcn, if_pos (by omega), c1, zbI_s, d1, zbI_s, w1, w2]
    by_cases x1 : (rdL g z.2.1.2.1 (itm X k) (rdk (itm X k).1).toNat).2 = 0
    · rw [if_pos x1]
      by_cases x2 : (goV g (rdL g z.2.1.2.1 (itm X k) (rdk (itm X k).1).toNat).1 z.2.1).2.2 = 0
      · rw [if_pos x2, if_pos ⟨x1, x2⟩]
        rfl
      · rw [if_neg x2, if_neg (fun q => x2 q.2)]
    · rw [if_neg x1, if_neg (fun q => x1 q.1)]
end
section
variable {N : Nat} {A : zA} {R R' p : Nat} {Q Qn QB : Pr}
theorem c_common {t : Nat} (hN : 300000 ≤ N) (hG : GQ Q) (hp : exP Q p) (h : CPG A R R' Qn QB) (hs : CSt A R' Q (mtC Q)) (hS : STA A) (hT : TT A 103 t) (ht : t ≤ 30000) : ∃ B, z_Na_share N (R' + 2 + 3 * p) A = some (((cmS (Q.2.2 p) (Q.2.1 p) (Q.2.1 p).length).2.2 : Int), B) ∧ CSt B R' (comQ Q p) (mtC (comQ Q p)) ∧ CPI B R' ∧ cF (fnm (R' + 2 + 3 * p)) A B ∧ ∃ t', t' ≤ 300 ∧ TT B 103 t' := by
  obtain ⟨r, m2, m3, w, c7, cR, cR', s, sB⟩ := h
  obtain ⟨k1, k2, k3, k4, k5⟩ := r.ok
  have hp3 := exP3 hG.1 hp
  obtain ⟨-, -, -, -, -, r6'⟩ := rws_fr k2 (show p < 4 by omega)
  obtain ⟨g7, g60, gl, gok⟩ := hG.1.2 p hp
  have hX := hs.cp hp
  have hb := hG.n.2.1 p hp
  have hok' : 3 < R' + 2 + 3 * p ∧ R' + 2 + 3 * p ≠ 102 ∧ R' + 2 + 3 * p ≠ 103 ∧ R' + 2 + 3 * p ≠ 106 := by unfold okR at k2; omega
  have hm : CM A (R' + 2 + 3 * p) (Q.2.1 p) := fun k hk k8 => by
    obtain ⟨-, -, -, -, a5⟩ := hs.2 p hp
    have := (a5 k hk).2.2 k8
    rw [this]
    exact congrArg _ (mtL_eq (hG.m p hp) k hk k8)
  have f1 : cF [102] A (zsi A 102 2 (Q.2.2 p : Int)) := cF_si w.1 (by decide) (by decide) (by decide)
  have v1 : zi (zsi A 102 2 (Q.2.2 p : Int)) 102 2 = Q.2.2 p := by rw [zi_si_s, yb_w (by omega) (by omega)]
  have hcr : zi A (R' + 2 + 3 * p) 3 = Q.2.2 p := hX.2.2.1
  have e0 : z_Na_share N (R' + 2 + 3 * p) A = zbV (z_Na_beginAnew N (zsi A 102 2 (Q.2.2 p : Int))) fun A2 => z_Na_share_21 N (R' + 2 + 3 * p) 0 0 A2 := by
    unfold z_Na_share
    rw [zlet_s, hcr, show zmn (Q.2.2 p : Int) 60 = Q.2.2 p by unfold zmn; split <;> omega]
  generalize zsi A 102 2 (Q.2.2 p : Int) = A1 at *
  obtain ⟨u1, -, -⟩ := TT.fr (by decide) hT f1 (by decide)
  obtain ⟨B, b1, b2, b3⟩ := c_renew (N := N) (g := Q.2.2 p) hN g60 f1.own u1 ht v1
  have hoo : ∀ a, a ≠ 102 → a ≠ 103 → a ≠ 106 → ([102, 103, 106] : List Nat).contains a = false := fun a h1 h2 h3 => nc_of (fun q => by
    simp only [List.contains_iff_mem, List.mem_cons, List.not_mem_nil, or_false] at q
    omega)
  have fB : cF [102, 103, 106] A B := (f1.mono (fun a ha => by
    simp only [List.contains_iff_mem, List.mem_cons, List.not_mem_nil, or_false] at ha ⊢
    exact Or.inl ha)).trans b3
  obtain ⟨C, c1, c2, c3, c4, c5⟩ := c_share_run (N := N) (X := Q.2.1 p) (g := Q.2.2 p) hN r6' hok'.1 hok'.2 gok g60 gl (Q.2.1 p).length 0 N B (by omega) (by omega) fB.own (hS.fr fB (hoo _ (by decide) (by decide) (by decide)) (hoo _ (by decide) (by decide) (by decide)) (hoo _ (by decide) (by decide) (by decide))) (hX.fr r6' fB (hoo _ hok'.2.1 hok'.2.2.1 hok'.2.2.2)) b2
  have c1 : z_Na_share_21 N (R' + 2 + 3 * p) 0 0 B = _ := c1
  have fC : cF (fnm (R' + 2 + 3 * p)) A C := (fnm_s fB (fun a ha => by
    simp only [List.contains_iff_mem, List.mem_cons, List.not_mem_nil, or_false] at ha
    omega)).trans c4
  obtain ⟨j1, j2, j3, j4, j5, j6, j7, j8⟩ := cmS_ok (g := Q.2.2 p) (X := Q.2.1 p) gok g60 _ (Nat.le_refl _)
  have hb' := j4 _ _ hb
  obtain ⟨mt, hBl⟩ := bal_Bl hb'
  have hnf : ∀ a, a ≠ R' + 2 + 3 * p → a ≠ 102 → a ≠ 103 → a ≠ 106 → (fnm (R' + 2 + 3 * p)).contains a = false := fun a h1 h2 h3 h4 => nc_of (fun q => by
    unfold fnm at q
    simp only [List.contains_iff_mem, List.mem_cons, List.not_mem_nil, or_false] at q
    omega)
  have hyB : ∀ e, yv B (R' + 2 + 3 * p) 1 e = yv A (R' + 2 + 3 * p) 1 e := yv_keep r6' fB (hoo _ hok'.2.1 hok'.2.2.1 hok'.2.2.2)
  refine ⟨C, by rw [e0, b1, zbV_s, c1], CSt.put hG (com_ok hG hp) k2 hp hs fC (fun a a1 a2 a3 => hnf a a3 (by unfold okR at k2; omega) (by unfold okR at k2; omega) (by unfold okR at k2; omega)) c2 hBl (fun k hk k8 => ?_), fun q hq => ?_, fC, _, ?_, c3.1.1⟩
  · rw [j1] at hk
    have hf := j8 k hk
    rw [flt_8 k8] at hf
    have k8' : 8 ≤ (itm (Q.2.1 p) k).1 := by
      unfold flt at hf
      split at hf <;> omega
    rw [c5, hyB, hm k hk k8', mtL_shp hb hb' j1 j8 k hk k8']
    exact congrArg _ (mtL_eq hBl k (by rw [j1]; exact hk) k8).symm
  · by_cases e : q = p
    · rw [e]; exact c2.1
    · obtain ⟨-, -, -, -, -, u6⟩ := rws_fr k2 hq
      exact (cR' q hq).fr u6 fC (hnf _ (by omega) (by unfold okR at k2; omega) (by unfold okR at k2; omega) (by unfold okR at k2; omega))
  · have := j6.2.1; omega
end
