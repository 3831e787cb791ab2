/-! one call of the law, both programs -/
def wrB (b : Int) : Int64 := if b = 0 then Int64.ofNat 0 else Int64.ofNat 1
/-- a call that may fail: class, then reference; they say the same -/
def LX (A : zA) (x : Option (Int × zA)) (y : zA → Option (Int × zA)) (wr : Int → Int64) : Prop := ∃ k b A1 B, x = some (k, A1) ∧ y A1 = some (b, B) ∧ zi B 226 0 = k ∧ (k = 0 → zml B 295 0 = wr b) ∧ (IN B ∧ MR A B) ∧ K0 A A1
section
variable {N : Nat} {A B C : zA} {R R' L ic : Nat} {Q QB Q' QB' : Pr} {Tx inp : Nat → Int} {ou : List Int} {s c1 c2 d1 d2 x p1 p2 p3 p4 : Int} {S : List Nat} {F : Nat → Nat → Prop}
theorem ex_in {k : zK} (hk : k.2.2 ≤ 4) (g : GB Q QB Tx L ic ou) (hC : CB A R R' Q QB Tx L inp ic ou s c1 c2) (hR : RBn A Q QB Tx L inp ic ou s c1 c2) (f : fr F (znw A k) B) (hF : ∀ a j, F a j → a = 226 ∧ j = 0) : IN B ∧ MR A B := by
  have w := znw_cF hk hC.own
  refine ⟨⟨R, R', Q, QB, Tx, L, inp, ic, ou, s, c1, c2, g, (hC.nw hk g.1 g.2.1).rf g.1 g.2.1 f (fun a j z => by have := hF a j z; omega), (hR.nw hk hC.own).lv f (fun a j z => by have := hF a j z; omega)⟩, MR.nw hk (cF.refl [] hC.own) (by decide) (by decide) (f.cF (fun a j z => by have := hF a j z; omega) w.1.own)⟩
/-- both are as they were -/
theorem no_in (g : GB Q QB Tx L ic ou) (hC : CB A R R' Q QB Tx L inp ic ou s c1 c2) (hR : RBn A Q QB Tx L inp ic ou s c1 c2) (f : fr F A B) (hF : ∀ a j, F a j → (a = 226 ∧ j = 0) ∨ a = 295) : IN B ∧ MR A B := by
  refine ⟨⟨R, R', Q, QB, Tx, L, inp, ic, ou, s, c1, c2, g, hC.rf g.1 g.2.1 f (fun a j z => by have := hF a j z; omega), hR.lv f (fun a j z => by have := hF a j z; omega)⟩, MR.of (cF.refl [] hC.own) (by decide) (by decide) (f.cF (fun a j z => by have := hF a j z; omega) hC.own) rcs999 rcs0⟩
/-- a class's step, its answer written down, a reference's step -/
theorem go_in {P P' : Nat} {v : Int64} (g : GB Q' QB' Tx L ic ou) (f : cF S A B) (h9 : S.contains 999 = false) (h00 : S.contains 0 = false) (hC : CB B P P' Q' QB' Tx L inp ic ou s d1 d2) (f2 : fr F (zsl B 295 0 v) C) (hF : ∀ a j, F a j → 226 ≤ a ∧ a ≤ 294) (hR : RBn C Q' QB' Tx L inp ic ou s d1 d2) : zml C 295 0 = v ∧ IN C ∧ MR A C := by
  have f3 : fr (fun a j => 226 ≤ a ∧ a ≤ 295) B C := (f295.mono (fun a j z => by omega)).trans (f2.mono (fun a j z => by have := hF a j z; omega))
  exact ⟨v295 f2 (fun a j z => by have := hF a j z; omega), ⟨P, P', Q', QB', Tx, L, inp, ic, ou, s, d1, d2, g, hC.rf g.1 g.2.1 f3 (fun a j z => z), hR⟩, MR.of f h9 h00 (f3.cF (fun a j z => z) f.own) rcs999 rcs0⟩
theorem k0r : K0 A A := ⟨fun _ z => z, fun _ => rfl⟩
theorem k0n {k : zK} (hk : k.2.2 ≤ 4) (hO : Own A) : K0 A (znw A k) := k0r.nw hk hO
theorem S1_s {a : Nat} (z : a = 1 ∨ a = 2 ∨ a = 3 ∨ a = 5 ∨ a = 6 ∨ a = 214 ∨ a = 215 ∨ a = 216) : S1.contains a = false := S1_n (by omega)
theorem S2_n {a : Nat} (h : ¬ (a = 4 ∨ (7 ≤ a ∧ a ≤ 194))) : S2.contains a = false := nc_of (fun q => h (S2_mem.mp q))
theorem qTc_i {a j : Nat} (h : qTc a j) : (226 ≤ a ∧ a ≤ 294) ∧ a ≠ 227 ∧ a ≠ 232 ∧ a ≠ 291 ∧ (a = 226 → j ≠ 1 ∧ j ≠ 10 ∧ j ≠ 92 ∧ j ≠ 93) := by
  unfold qTc qSt qA qCp at h
  omega
theorem qPa_i {a j : Nat} (h : qPa a j) : (226 ≤ a ∧ a ≤ 294) ∧ a ≠ 227 ∧ a ≠ 232 ∧ a ≠ 291 ∧ (a = 226 → j ≠ 1 ∧ j ≠ 10 ∧ j ≠ 92 ∧ j ≠ 93) := by
  unfold qPa qP1 qCp at h
  rcases h with h | h
  · exact qTc_i h
  · omega
theorem zbX_l {R : Type} {v : Int} {K : Int → zA → Option R} {H : Nat → zA → Option R} : zbX (some (.inl v, A)) K H = K v A := rfl
theorem zbX_r {R : Type} {n : Nat} {K : Int → zA → Option R} {H : Nat → zA → Option R} : zbX (some (.inr n, A)) K H = H n A := rfl
theorem two_in {P : Prop} {v : Int64} {Qn : Pr} (g : GB Q QB Tx L ic ou) (hC : CB A R R' Q QB Tx L inp ic ou s c1 c2) (hR : RBn A Q QB Tx L inp ic ou s c1 c2) (gn : GQ Qn) (gn1 : Qn.1 = Q.1) (f : cF S A B) (hS : ∀ a, S.contains a = true → a = 4 ∨ (7 ≤ a ∧ a ≤ 194)) (hT : T3 B)
    (b : (P ∧ CPG B R' R Qn QB ∧ zi B 4 11 = zw (zi A 4 11 + 1) ∧ zi B 4 12 = zi A 4 12 ∧ zi B 4 9 = 0) ∨ (¬ P ∧ CPG B R R' Q QB ∧ zi B 4 11 = zi A 4 11 ∧ zi B 4 12 = zw (zi A 4 12 + 1) ∧ zi B 4 9 = zi A 4 9))
    (f2 : fr F (zsl B 295 0 v) C) (hF : ∀ a j, F a j → (226 ≤ a ∧ a ≤ 294) ∧ a ≠ 227 ∧ a ≠ 232 ∧ a ≠ 291 ∧ (a = 226 → j ≠ 1 ∧ j ≠ 10 ∧ j ≠ 92 ∧ j ≠ 93))
    (e : (P ∧ RPG C Qn QB ∧ zi C 226 7 = zw (zi (zsl B 295 0 v) 226 7 + 1) ∧ zi C 226 8 = zi (zsl B 295 0 v) 226 8) ∨ (¬ P ∧ RPG C Q QB ∧ zi C 226 7 = zi (zsl B 295 0 v) 226 7 ∧ zi C 226 8 = zw (zi (zsl B 295 0 v) 226 8 + 1))) : zml C 295 0 = v ∧ IN C ∧ MR A C := by
  have hs : ∀ a, ¬ (a = 4 ∨ (7 ≤ a ∧ a ≤ 194)) → S.contains a = false := fun a z => nc_of (fun q => z (hS a q))
  have hR5 := (hR.cf f (fun a h1 _ => hs a (by omega))).w5 (x := v)
  have n9 := hs 209 (by omega)
  have h9 := hs 999 (by omega)
  have h00 := hs 0 (by omega)
  obtain ⟨-, -, -, k4, -, -, -, -, k9, k10⟩ := id hC
  obtain ⟨-, -, -, -, -, r7, r8⟩ := id hR5
  rcases b with ⟨sm, q1, q2, q3, q4⟩ | ⟨ns, q1, q2, q3, q4⟩
  · rcases e with ⟨-, y1, y2, y3⟩ | ⟨ns, -⟩
    · exact go_in ⟨gn, g.2.1, by rw [g.2.2.1]; exact gn1.symm, g.2.2.2⟩ f h9 h00 (hC.st (d1 := zw (c1 + 1)) (d2 := c2) f (fun a z => hs a (by omega)) q1 hT (k4.z f n9 q4) (by rw [q2, k9]) (by rw [q3, k10])) f2 (fun a j z => (hF a j z).1) (hR5.st f2 (fun a j z => (hF a j z).2) y1 (by rw [y2, r7]) (by rw [y3, r8]))
    · exact absurd sm ns
  · rcases e with ⟨sm, -⟩ | ⟨-, y1, y2, y3⟩
    · exact absurd sm ns
    · exact go_in g f h9 h00 (hC.st (d1 := c1) (d2 := zw (c2 + 1)) f (fun a z => hs a (by omega)) q1 hT (k4.fr f n9 q4) (by rw [q2, k9]) (by rw [q3, k10])) f2 (fun a j z => (hF a j z).1) (hR5.st f2 (fun a j z => (hF a j z).2) y1 (by rw [y2, r7]) (by rw [y3, r8]))
theorem st_pass (hN : 600000 ≤ N) (hNk : kc 20 * 150 < N) (h : IN A) : LX A (z_Lw_pass N x A) (z_M_pass N x) zil := by
  obtain ⟨R, R', Q, QB, Tx, L, inp, ic, ou, s, c1, c2, g, hC, hR⟩ := h
  have g1 := g.1
  have g2 := g.2.1
  obtain ⟨t, ht1, ht2⟩ := hC.2.2.1.1
  obtain ⟨a1, a2⟩ := c_pass (N := N) (x1 := x) (by omega) g1 g2 hC.1 hC.2.1 ht1 ht2
  unfold z_Lw_pass LX
  by_cases c : 0 ≤ x ∧ x ≤ 4
  · obtain ⟨B, t', b1, b2, b3, b3', b4⟩ := a2 c
    have hRB := hR.cf b2 (fun a h1 _ => S2_n (by omega))
    rw [b1, zbX_l, zwl5]
    have hR5 := hRB.w5 (x := zil (cif (Sam (wlC Q) (wlC (pasQ x Q))) ((psS x Q 4).2 : Int) (-1)))
    obtain ⟨-, r2⟩ := r_pass (N := N) (x1 := x) (by omega) hNk g1 g2 hR5.1
    obtain ⟨D, e1, e2, e3, e4⟩ := r2 c
    obtain ⟨w1, w2, -, -⟩ := psS_ok (x := x) g1 4 (Nat.le_refl _)
    obtain ⟨z1, z2⟩ := two_in g hC hR w1 w2 b2 (fun a z => S2_mem.mp z) ⟨⟨t', b3, b3'⟩, hC.2.2.1.2.fr b2 (fun a z => S2_n (by omega))⟩ b4 e3 (fun a j z => qPa_i z) e4
    exact ⟨_, _, _, D, rfl, e1, e2, fun _ => z1, z2, (K0.of b2 (S2_n (by omega))).w5⟩
  · rw [a1 c, zbX_r, if_pos rfl]
    obtain ⟨r1, -⟩ := r_pass (N := N) (x1 := x) (by omega) hNk g1 g2 (hR.nw (k := (false, 100, 0)) (by decide) hC.own).1
    obtain ⟨D, e1, e2, -, e4⟩ := r1 c
    exact ⟨_, _, _, D, rfl, e1, e2, fun z => absurd z (by decide), ex_in (by decide) g hC hR e4 (fun a j z => z), k0n (by decide) hC.own⟩
theorem cifB {P : Prop} : (if cif P (1 : Int) 0 = 0 then Int64.ofNat 0 else Int64.ofNat 1) = wrB (cif P 1 0) := rfl
theorem st_touch (hN : 600000 ≤ N) (hNk : kc 20 * 150 < N) (h4 : zw p4 = p4) (h : IN A) : LX A (z_Lw_touch N p1 p2 p3 p4 A) (z_M_touch N p1 p2 p3 p4) wrB := by
  obtain ⟨R, R', Q, QB, Tx, L, inp, ic, ou, s, c1, c2, g, hC, hR⟩ := h
  have g1 := g.1
  have g2 := g.2.1
  obtain ⟨a1, a2⟩ := c_touch (N := N) (x1 := p1) (x2 := p2) (x3 := p3) (x4 := p4) (by omega) g1 g2 hC.1 hC.2.1 h4
  unfold z_Lw_touch LX
  by_cases c : mayT Q p1 p2 p3 p4
  · obtain ⟨B, b1, b2, b4⟩ := a2 c
    have hRB := hR.cf b2 nr_S1
    have hT := TT103.fr hC.2.2.1 b2 (fun a z => S1_n (by omega))
    have e0 : (if cif (Sam (wlC Q) (wlC (tchQ Q p1 p2 p3 p4))) (1 : Int) 0 = 0 then zwl B 295 1 0 (Int64.ofNat 0) fun A7 => some ((0 : Int), A7) else zwl B 295 1 0 (Int64.ofNat 1) fun A8 => some (0, A8)) = some (0, zsl B 295 0 (wrB (cif (Sam (wlC Q) (wlC (tchQ Q p1 p2 p3 p4))) 1 0))) := by
      unfold wrB
      split
      · rw [zwl5]
      · rw [zwl5]
    rw [b1, zbX_l, e0]
    have hR5 := hRB.w5 (x := wrB (cif (Sam (wlC Q) (wlC (tchQ Q p1 p2 p3 p4))) 1 0))
    obtain ⟨-, r2⟩ := r_touch (N := N) (x1 := p1) (x2 := p2) (x3 := p3) (x4 := p4) (by omega) hNk g1 hR5.1 h4
    obtain ⟨D, e1, e2, e3, e4⟩ := r2 c
    obtain ⟨z1, z2⟩ := two_in g hC hR (tch_ok g1 h4 c) rfl b2 (fun a z => by have := S1_mem.mp z; omega) hT b4 e3 (fun a j z => qTc_i z) e4
    exact ⟨_, _, _, D, rfl, e1, e2, fun _ => z1, z2, (K0.of b2 (S1_n (by omega))).w5⟩
  · rw [a1 c, zbX_r, if_pos rfl]
    obtain ⟨r1, -⟩ := r_touch (N := N) (x1 := p1) (x2 := p2) (x3 := p3) (x4 := p4) (by omega) hNk g1 (hR.nw (k := (false, 100, 0)) (by decide) hC.own).1 h4
    obtain ⟨D, e1, e2, -, e4⟩ := r1 c
    exact ⟨_, _, _, D, rfl, e1, e2, fun z => absurd z (by decide), ex_in (by decide) g hC hR e4 (fun a j z => z), k0n (by decide) hC.own⟩
theorem st_swap (hN : 600000 ≤ N) (hNk : kc 20 * 150 < N) (h2 : zw p2 = p2) (h : IN A) : LX A (z_Lw_swap N p1 p2 A) (z_M_swap N p1 p2) wrB := by
  obtain ⟨R, R', Q, QB, Tx, L, inp, ic, ou, s, c1, c2, g, hC, hR⟩ := h
  have g1 := g.1
  have g2 := g.2.1
  obtain ⟨a1, a2⟩ := c_swap (N := N) (x1 := p1) (x2 := p2) (by omega) g1 g2 hC.1
  unfold z_Lw_swap LX
  by_cases c : maySw Q p1 p2
  · obtain ⟨B, b1, b2, b4⟩ := a2 c
    have hRB := hR.cf b2 nr_S1
    have hT := TT103.fr hC.2.2.1 b2 (fun a z => S1_n (by omega))
    have e0 : (if cif (Sam (wlC Q) (wlC (swpQ Q p1 p2))) (1 : Int) 0 = 0 then zwl B 295 1 0 (Int64.ofNat 0) fun A7 => some ((0 : Int), A7) else zwl B 295 1 0 (Int64.ofNat 1) fun A8 => some (0, A8)) = some (0, zsl B 295 0 (wrB (cif (Sam (wlC Q) (wlC (swpQ Q p1 p2))) 1 0))) := by
      unfold wrB
      split
      · rw [zwl5]
      · rw [zwl5]
    rw [b1, zbX_l, e0]
    have hR5 := hRB.w5 (x := wrB (cif (Sam (wlC Q) (wlC (swpQ Q p1 p2))) 1 0))
    obtain ⟨-, r2⟩ := r_swap (N := N) (x1 := p1) (x2 := p2) (by omega) hNk g1 g2 hR5.1 h2
    obtain ⟨D, e1, e2, e3, e4⟩ := r2 c
    obtain ⟨z1, z2⟩ := two_in g hC hR (swp_ok g1 c) rfl b2 (fun a z => by have := S1_mem.mp z; omega) hT b4 e3 (fun a j z => qTc_i z) e4
    exact ⟨_, _, _, D, rfl, e1, e2, fun _ => z1, z2, (K0.of b2 (S1_n (by omega))).w5⟩
  · rw [a1 c, zbX_r, if_pos rfl]
    obtain ⟨r1, -⟩ := r_swap (N := N) (x1 := p1) (x2 := p2) (by omega) hNk g1 g2 (hR.nw (k := (false, 100, 0)) (by decide) hC.own).1 h2
    obtain ⟨D, e1, e2, -, e4⟩ := r1 c
    exact ⟨_, _, _, D, rfl, e1, e2, fun z => absurd z (by decide), ex_in (by decide) g hC hR e4 (fun a j z => z), k0n (by decide) hC.own⟩
theorem st_item (h3 : zw p3 = p3) (h : IN A) : LX A (z_Lw_item N p1 p2 p3 A) (z_M_item N p1 p2 p3) zil := by
  obtain ⟨R, R', Q, QB, Tx, L, inp, ic, ou, s, c1, c2, g, hC, hR⟩ := h
  have g1 := g.1
  have g2 := g.2.1
  obtain ⟨a1, a2⟩ := c_item (N := N) (x1 := p1) (x2 := p2) (x3 := p3) g1.1 hC.2.1 hC.1 h3
  unfold z_Lw_item LX
  by_cases c : mayI Q p1 p2 p3
  · rw [a2 c, zbX_l, zwl5]
    have hR5 := hR.w5 (x := zil (itemA Q p1 p2 p3))
    obtain ⟨-, r2⟩ := r_item (N := N) (x1 := p1) (x2 := p2) (x3 := p3) g1.1 hR5.1
    have f : fr (fun a j => (a = 226 ∧ j = 0) ∨ a = 295) A (zsi (zsl A 295 0 (zil (itemA Q p1 p2 p3))) 226 0 0) := (f295.mono (fun a j z => by omega)).trans (fr_si (by omega))
    exact ⟨_, _, _, _, rfl, r2 c, by rw [zi_si_s]; decide, fun _ => v295 fr_z0 (fun a j z => by omega), no_in g hC hR f (fun a j z => z), K0.w5 k0r⟩
  · rw [a1 c, zbX_r, if_pos rfl]
    obtain ⟨r1, -⟩ := r_item (N := N) (x1 := p1) (x2 := p2) (x3 := p3) g1.1 (hR.nw (k := (false, 102, 0)) (by decide) hC.own).1
    obtain ⟨v, e1⟩ := r1 c
    exact ⟨_, _, _, _, rfl, e1, by rw [zi_si_s]; decide, fun z => absurd z (by decide), ex_in (by decide) g hC hR (fr_z0.trans fr_z0) (fun a j z => z), k0n (by decide) hC.own⟩
theorem st_out (h : IN A) : LX A (z_Lw_out N x A) (z_M_out N x) zil := by
  obtain ⟨R, R', Q, QB, Tx, L, inp, ic, ou, s, c1, c2, g, hC, hR⟩ := h
  have g1 := g.1
  have g2 := g.2.1
  have g6 := g.2.2.2.2.2
  obtain ⟨a1, a2⟩ := c_out (N := N) (x := x) hC.2.2.2.2.2.2.1 g6
  unfold z_Lw_out LX
  by_cases c : mayO ou x
  · rw [a1 c, zbX_l, zwl5]
    have hR5 := hR.w5 (x := zil (ou.getD x.toNat 0))
    obtain ⟨r2, -⟩ := r_out (N := N) (x := x) hR5.2.2.2.1 g6
    have f : fr (fun a j => (a = 226 ∧ j = 0) ∨ a = 295) A (zsi (zsl A 295 0 (zil (ou.getD x.toNat 0))) 226 0 0) := (f295.mono (fun a j z => by omega)).trans (fr_si (by omega))
    exact ⟨_, _, _, _, rfl, r2 c, by rw [zi_si_s]; decide, fun _ => v295 fr_z0 (fun a j z => by omega), no_in g hC hR f (fun a j z => z), K0.w5 k0r⟩
  · rw [a2 c, zbX_r, if_pos rfl]
    obtain ⟨-, r1⟩ := r_out (N := N) (x := x) (hR.nw (k := (false, 102, 0)) (by decide) hC.own).2.2.2.1 g6
    exact ⟨_, _, _, _, rfl, r1 c, by rw [zi_si_s]; decide, fun z => absurd z (by decide), ex_in (by decide) g hC hR (fr_z0.trans fr_z0) (fun a j z => z), k0n (by decide) hC.own⟩
end
