/-! one call of the law, both programs: the others -/
def LE (A : zA) (x : Option (Int × zA)) (y : zA → Option (Int × zA)) : Prop := ∃ v A1 B, x = some (v, A1) ∧ y A1 = some (v, B) ∧ (IN B ∧ MR A B) ∧ K0 A A1
def LPq (A : zA) (x : Option Int) (y : Option (Int × zA)) : Prop := ∃ v B, x = some v ∧ y = some (v, B) ∧ IN B ∧ MR A B
def LV' (A : zA) (x : Option zA) (y : zA → Option zA) : Prop := ∃ A1 B, x = some A1 ∧ y A1 = some B ∧ (IN B ∧ MR A B) ∧ K0 A A1
section
variable {N : Nat} {A B C : zA} {R R' L ic : Nat} {Q QB Q' QB' : Pr} {Tx inp : Nat → Int} {ou : List Int} {s c1 c2 d1 d2 x p1 p2 p3 p4 : Int} {S : List Nat} {F : Nat → Nat → Prop}
theorem sLt_n {a : Nat} (h : ¬ (a = 4 ∨ a = 209 ∨ a = 212 ∨ a = 213)) : sLt.contains a = false := nc_of (fun q => h (by
  unfold sLt sMo at q
  simp at q
  omega))
theorem CB.lt {P P' : Nat} (h : CB A R R' Q QB Tx L inp ic ou s c1 c2) (f : cF sLt A B) (hP : CPG B P P' Q QB) (hL : CLt B Q) (h4 : ∀ j, j ≠ 9 → zi B 4 j = zi A 4 j) : CB B P P' Q QB Tx L inp ic ou s c1 c2 :=
  h.st f (fun a z => sLt_n (by omega)) hP (TT103.fr h.2.2.1 f (fun a z => sLt_n (by omega))) hL (by rw [h4 11 (by decide)]; exact h.2.2.2.2.2.2.2.2.1) (by rw [h4 12 (by decide)]; exact h.2.2.2.2.2.2.2.2.2)
theorem qCo_i {a j : Nat} (h : qCo' a j) : (226 ≤ a ∧ a ≤ 294) ∧ a ≠ 227 ∧ a ≠ 228 ∧ a ≠ 229 ∧ a ≠ 230 ∧ a ≠ 232 ∧ a ≠ 291 ∧ (a = 226 → j ≠ 1 ∧ j ≠ 6 ∧ j ≠ 7 ∧ j ≠ 8 ∧ j ≠ 10 ∧ j ≠ 92 ∧ j ≠ 93) := by
  unfold qCo' qBd at h
  omega
theorem st_code (hN : 600000 ≤ N) (h : IN A) : LX A (z_Lw_code N p1 p2 A) (z_M_code N p1 p2) zil := by
  obtain ⟨R, R', Q, QB, Tx, L, inp, ic, ou, s, c1, c2, g, hC, hR⟩ := h
  have g1 := g.1
  have g2 := g.2.1
  obtain ⟨B, b1, b2, b3, b4, b5, b6, b7⟩ := c_code (N := N) (x1 := p1) (x2 := p2) (by omega) g1 g2 hC.1 hC.2.1 hC.2.2.2.1
  have hB := hC.lt b4 b1 ⟨b2.1, Or.inr ⟨b3, b2⟩⟩ b5
  have hRB := hR.cf b4 (fun a h1 _ => sLt_n (by omega))
  unfold z_Lw_code LX
  by_cases c : mayC Q p1 p2
  · rw [b7 c, zbX_l, zwl5]
    have hR5 := hRB.w5 (x := zil (codA Q p1 p2))
    obtain ⟨-, r2⟩ := r_code (N := N) (x1 := p1) (x2 := p2) (by omega) g1 hR5.1.1 hR5.1.2.2.1
    obtain ⟨D, e1, e2, e3⟩ := r2 c
    obtain ⟨z1, z2⟩ := go_in g b4 (sLt_n (by omega)) (sLt_n (by omega)) hB e3 (fun a j z => (qCo_i z).1) (hR5.lv e3 (fun a j z => (qCo_i z).2))
    exact ⟨_, _, _, D, rfl, e1, e2, fun _ => z1, z2, (K0.of b4 (sLt_n (by omega))).w5⟩
  · rw [b6 c, zbX_r, if_pos rfl]
    have hk : ((false, 102, 0) : zK).2.2 ≤ 4 := by decide
    have hRn := hRB.nw hk b4.own
    obtain ⟨r1, -⟩ := r_code (N := N) (x1 := p1) (x2 := p2) (by omega) g1 hRn.1.1 hRn.1.2.2.1
    obtain ⟨D, e1, e2, e3⟩ := r1 c
    exact ⟨_, _, _, D, rfl, e1, e2, fun z => absurd z (by decide), ⟨⟨R, R', Q, QB, Tx, L, inp, ic, ou, s, c1, c2, g, (hB.nw hk g1 g2).rf g1 g2 e3 (fun a j z => by have := (qCo_i z).1; omega), hRn.lv e3 (fun a j z => (qCo_i z).2)⟩, MR.nw hk b4 (sLt_n (by omega)) (sLt_n (by omega)) (e3.cF (fun a j z => by have := (qCo_i z).1; omega) (znw_cF hk b4.own).1.own)⟩, (K0.of b4 (sLt_n (by omega))).nw hk b4.own⟩
theorem arun_ou {T : Nat} (hG : GQ Q) {r : Int × Nat × List Int} : ∀ (n s : Nat) (m : Ms), MV Q m → arun Q inp ic T n s m = some r → r.2.2.length ≤ 40
  | 0, s, m, _, h => by cases h
  | n + 1, s, m, hm, h => by
    have h : (if T < s + (isp Q inp ic m).1 then some (3, T, mou m) else if (isp Q inp ic m).2.2.1 = -1 then arun Q inp ic T n (s + (isp Q inp ic m).2.1) (isp Q inp ic m).2.2.2 else some ((isp Q inp ic m).2.2.1, s + (isp Q inp ic m).2.1, mou m)) = some r := h
    split at h
    · rw [← Option.some.inj h]; exact hm.2.2.2.2
    · split at h
      · next c => exact arun_ou hG n _ _ (isp_ok hG hm c).1 h
      · rw [← Option.some.inj h]; exact hm.2.2.2.2
theorem st_run (hN : 600000 ≤ N) (h : IN A) : LX A (z_Lw_run N x A) (z_M_run N x) zil := by
  obtain ⟨R, R', Q, QB, Tx, L, inp, ic, ou, s, c1, c2, g, hC, hR⟩ := h
  have g1 := g.1
  have g2 := g.2.1
  have g5 := g.2.2.2.2.1
  obtain ⟨k1, k2, k3, k4, k5, k6, k7, k8, k9, k10⟩ := id hC
  obtain ⟨a1, a2⟩ := c_run (N := N) (x := x) (inp := inp) (ic := ic) (by omega) g1 g2 k1 k2 k4 ⟨k6.1, g5, k6.2⟩
  unfold z_Lw_run LX
  by_cases c : mayR x
  · obtain ⟨B, b1, b2, b3, b4, b5, b6, b7, b8, b9⟩ := a2 c
    have n1 : ∀ a, a ≠ 4 → a < 209 → sRu.contains a = false := fun a z1 z2 => sRu_n (by omega)
    have n999 : sRu.contains 999 = false := sRu_n (by omega)
    have hRB := hR.cf b8 (fun a h1 _ => sRu_n (by omega))
    have hB : CB B R R' Q QB Tx L inp ic (runA Q inp ic x).2.2 ((runA Q inp ic x).2.1 : Int) c1 c2 := ⟨b2, k2.fr b8 (n1 1 (by decide) (by decide)) (n1 2 (by decide) (by decide)) (n1 3 (by decide) (by decide)), TT103.fr k3 b8 (fun a z => n1 a (by omega) (by omega)), b3, k5.fr b8 (n1 5 (by decide) (by decide)) (n1 6 (by decide) (by decide)), ⟨b6, b7⟩, b5, b4, by rw [b9 11 (by decide)]; exact k9, by rw [b9 12 (by decide)]; exact k10⟩
    rw [b1, zbX_l, zwl5]
    have hR5 := hRB.w5 (x := zil (runA Q inp ic x).1)
    obtain ⟨r1, r2, r3, r4, r5, r6, r7⟩ := id hR5
    obtain ⟨-, q2⟩ := r_run (N := N) (x := x) (inp := inp) (ic := ic) hN g1 r1.1 r1.2.2.1 r3.1 g5 r3.2
    obtain ⟨D, e1, e2, e3, e4⟩ := q2 c
    have hF : ∀ a j, (qBg a j ∨ (a = 226 ∧ j = 0)) → (226 ≤ a ∧ a ≤ 294) ∧ a ≠ 227 ∧ a ≠ 228 ∧ a ≠ 229 ∧ a ≠ 230 ∧ a ≠ 232 ∧ (a = 226 → j ≠ 1 ∧ j ≠ 6 ∧ j ≠ 7 ∧ j ≠ 8 ∧ j ≠ 10) := fun a j z => by unfold qBg qRn at z; omega
    have hD : RBn D Q QB Tx L inp ic (runA Q inp ic x).2.2 ((runA Q inp ic x).2.1 : Int) c1 c2 := ⟨r1.f0 e4 (fun a j z => by have := hF a j z; omega), r2.fr e4 (fun a j z => by have := hF a j z; omega), r3.fr e4 (fun a j z => by have := hF a j z; omega), e3.2, e3.1, by rw [e4.i (fun z => by have := hF _ _ z; omega)]; exact r6, by rw [e4.i (fun z => by have := hF _ _ z; omega)]; exact r7⟩
    have gl : (runA Q inp ic x).2.2.length ≤ 40 := arun_ou g1 _ _ _ MV_00 (run_ex (inp := inp) (ic := ic) g1 c)
    obtain ⟨z1, z2⟩ := go_in ⟨g1, g2, g.2.2.1, g.2.2.2.1, g5, gl⟩ b8 n999 (sRu_n (by omega)) hB e4 (fun a j z => (hF a j z).1) hD
    exact ⟨_, _, _, D, rfl, e1, e2, fun _ => z1, z2, (K0.of b8 (sRu_n (by omega))).w5⟩
  · rw [a1 c, zbX_r, if_pos rfl]
    have hRn := hR.nw (k := (false, 100, 0)) (by decide) hC.own
    obtain ⟨q1, -⟩ := r_run (N := N) (x := x) (inp := inp) (ic := ic) hN g1 hRn.1.1 hRn.1.2.2.1 hRn.2.2.1.1 g5 hRn.2.2.1.2
    obtain ⟨D, e1, e2, e4⟩ := q1 c
    exact ⟨_, _, _, D, rfl, e1, e2, fun z => absurd z (by decide), ex_in (by decide) g hC hR e4 (fun a j z => z), k0n (by decide) hC.own⟩
theorem st_size (h : IN A) : LPq A (z_PC_size N p1 p2 A) (z_M_size N p1 p2 A) := by
  obtain ⟨R, R', Q, QB, Tx, L, inp, ic, ou, s, c1, c2, g, hC, hR⟩ := h
  exact ⟨_, _, c_size g.1.1 hC.1, r_size g.1.1 hR.1, no_in g hC hR fr_z0 (fun a j z => Or.inl z)⟩
/-- a class's step, a reference's step -/
theorem gp_in {P P' : Nat} (g : GB Q' QB' Tx L ic ou) (f : cF S A B) (h9 : S.contains 999 = false) (h00 : S.contains 0 = false) (hC : CB B P P' Q' QB' Tx L inp ic ou s d1 d2) (f2 : fr F B C) (hF : ∀ a j, F a j → 226 ≤ a ∧ a ≤ 294) (hR : RBn C Q' QB' Tx L inp ic ou s d1 d2) : IN C ∧ MR A C :=
  ⟨⟨P, P', Q', QB', Tx, L, inp, ic, ou, s, d1, d2, g, hC.rf g.1 g.2.1 f2 (fun a j z => by have := hF a j z; omega), hR⟩, MR.of f h9 h00 (f2.cF (fun a j z => by have := hF a j z; omega) f.own) rcs999 rcs0⟩
theorem st_restore (hN : 600000 ≤ N) (h : IN A) : LV' A (z_PC_restore N A) (z_M_restore N) := by
  obtain ⟨R, R', Q, QB, Tx, L, inp, ic, ou, s, c1, c2, g, hC, hR⟩ := h
  have g1 := g.1
  have g2 := g.2.1
  obtain ⟨k1, k2, k3, k4, k5, k6, k7, k8, k9, k10⟩ := id hC
  obtain ⟨B, b1, b2, b3, b4, b5, b6⟩ := c_restore (N := N) (by omega) g1 g2 k1
  have hB := hC.st b3 (fun a z => S1_s z) b2 (TT103.fr k3 b3 (fun a z => S1_n (by omega))) (k4.z (Q' := QB) b3 (S1_n (by omega)) b4) (by rw [b5, k9]) (by rw [b6, k10])
  have hRB := hR.cf b3 nr_S1
  obtain ⟨D, e1, e2, e3⟩ := r_restore (N := N) (by omega) g1 g2 hRB.1 g.2.2.1
  have hF : ∀ a j, (qCp 0 a j ∨ (a = 226 ∧ j = 0)) → (226 ≤ a ∧ a ≤ 294) ∧ a ≠ 227 ∧ a ≠ 232 ∧ a ≠ 291 ∧ (a = 226 → j = 0) := fun a j z => by unfold qCp at z; omega
  obtain ⟨-, -, -, -, -, r7, r8⟩ := id hRB
  refine ⟨B, D, b1, e1, gp_in ⟨g2, g2, rfl, g.2.2.2⟩ b3 (S1_n (by omega)) (S1_n (by omega)) hB e3 (fun a j z => (hF a j z).1) (hRB.st e3 (fun a j z => by have := hF a j z; omega) e2 ?_ ?_), K0.of b3 (S1_n (by omega))⟩
  · rw [e3.i (fun z => by have := hF _ _ z; omega)]; exact r7
  · rw [e3.i (fun z => by have := hF _ _ z; omega)]; exact r8
theorem st_count (hN : 600000 ≤ N) (h : IN A) : LE A (z_PC_count N x A) (z_M_count N x) := by
  obtain ⟨R, R', Q, QB, Tx, L, inp, ic, ou, s, c1, c2, g, hC, hR⟩ := h
  have g1 := g.1
  have g2 := g.2.1
  obtain ⟨k1, k2, k3, k4, k5, k6, k7, k8, k9, k10⟩ := id hC
  obtain ⟨B, b1, b2, b3, b4, b5⟩ := c_cnt (N := N) (x := x) (by omega) g1 g2 k1 k2 k4 k5.1 k6.1 k7.1 k8 k9 k10
  have hB := hC.lt b4 b2 b3 b5
  have hRB := hR.cf b4 (fun a h1 _ => sLt_n (by omega))
  obtain ⟨r1, r2, r3, r4, r5, r6, r7⟩ := id hRB
  obtain ⟨D, e1, e2⟩ := r_cnt (N := N) (x := x) (by omega) g1 r1.1 r1.2.2.1 r2.1 r3.1 r4.1 r5 r6 r7
  exact ⟨_, B, D, b1, e1, gp_in g b4 (sLt_n (by omega)) (sLt_n (by omega)) hB e2 (fun a j z => (qCo_i z).1) (hRB.lv e2 (fun a j z => (qCo_i z).2)), K0.of b4 (sLt_n (by omega))⟩
theorem n56 {a : Nat} (h : a ≠ 5 ∧ a ≠ 6) : ([5, 6] : List Nat).contains a = false := nc_of (fun q => by simp at q; omega)
theorem st_put (hN : 600000 ≤ N) (h : IN A) : LE A (z_PC_put N p1 p2 A) (z_M_put N p1 p2) := by
  obtain ⟨R, R', Q, QB, Tx, L, inp, ic, ou, s, c1, c2, g, hC, hR⟩ := h
  have g1 := g.1
  have g2 := g.2.1
  have g4 := g.2.2.2.1
  obtain ⟨k1, k2, k3, k4, k5, k6, k7, k8, k9, k10⟩ := id hC
  obtain ⟨a1, a2⟩ := c_put (N := N) (x := p1) (n := p2) (by omega) hC.own k5 g4.1
  by_cases c : mayP p1 p2 L
  · obtain ⟨B, b1, b2, b3⟩ := a1 c
    have hRB := hR.cf b3 (fun a h1 _ => n56 (by omega))
    obtain ⟨r1, r2, r3, r4, r5, r6, r7⟩ := id hRB
    obtain ⟨q1, -⟩ := r_put (N := N) (x := p1) (n := p2) (by omega) r2 g4.1
    obtain ⟨D, e1, e2, e3⟩ := q1 c
    have hp : p2 = ((p2.toNat : Nat) : Int) := by have := c.1; omega
    have gT : TXT (pT p1 p2.toNat Tx L) (L + p2.toNat) := g4.put (by rw [← hp]; exact c)
    have hB : CB B R R' Q QB (pT p1 p2.toNat Tx L) (L + p2.toNat) inp ic ou s c1 c2 := ⟨k1.cf g1.1 g2.1 b3 (n56 (by omega)) (fun a z _ => n56 (by omega)) (n56 (by omega)) (n56 (by omega)) (n56 (by omega)), k2.fr b3 (n56 (by omega)) (n56 (by omega)) (n56 (by omega)), TT103.fr k3 b3 (fun a z => n56 (by omega)), k4.fr b3 (n56 (by omega)) (by rw [b3.i (by decide) (n56 (by omega))]), b2, k6.fr b3 (n56 (by omega)) (n56 (by omega)), k7.fr b3 (n56 (by omega)) (n56 (by omega)), by rw [b3.i (by decide) (n56 (by omega))]; exact k8, by rw [b3.i (by decide) (n56 (by omega))]; exact k9, by rw [b3.i (by decide) (n56 (by omega))]; exact k10⟩
    have hD : RBn D Q QB (pT p1 p2.toNat Tx L) (L + p2.toNat) inp ic ou s c1 c2 := ⟨r1.f0 e3 (fun a j z => by omega), e2, r3.fr e3 (fun a j z => by omega), r4.fr e3 (fun a j z => by omega), by rw [e3.i (fun z => by omega)]; exact r5, by rw [e3.i (fun z => by omega)]; exact r6, by rw [e3.i (fun z => by omega)]; exact r7⟩
    exact ⟨_, B, D, b1, e1, gp_in ⟨g1, g2, g.2.2.1, gT, g.2.2.2.2⟩ b3 (n56 (by omega)) (n56 (by omega)) hB e3 (fun a j z => by omega) hD, K0.of b3 (n56 (by omega))⟩
  · obtain ⟨-, q2⟩ := r_put (N := N) (x := p1) (n := p2) (by omega) hR.2.1 g4.1
    exact ⟨_, A, _, a2 c, q2 c, no_in g hC hR fr_z0 (fun a j z => Or.inl z), k0r⟩
theorem n214 {a : Nat} (h : a ≠ 214 ∧ a ≠ 215) : ([214, 215] : List Nat).contains a = false := nc_of (fun q => by simp at q; omega)
theorem CB.ip {inp' : Nat → Int} {ic' : Nat} (hG : GQ Q) (hGB : GQ QB) (h : CB A R R' Q QB Tx L inp ic ou s c1 c2) (f : cF [214, 215] A B) (h1 : CIp B inp' ic') (h3 : zi B 214 3 = zi A 214 3) (h4 : zi B 214 4 = zi A 214 4) : CB B R R' Q QB Tx L inp' ic' ou s c1 c2 := by
  obtain ⟨k1, k2, k3, k4, k5, k6, k7, k8, k9, k10⟩ := h
  exact ⟨k1.cf hG.1 hGB.1 f (n214 (by omega)) (fun a z _ => n214 (by omega)) (n214 (by omega)) (n214 (by omega)) (n214 (by omega)), k2.fr f (n214 (by omega)) (n214 (by omega)) (n214 (by omega)), TT103.fr k3 f (fun a z => n214 (by omega)), k4.fr f (n214 (by omega)) (by rw [f.i (by decide) (n214 (by omega))]), k5.fr f (n214 (by omega)) (n214 (by omega)), h1, ⟨by rw [h3]; exact k7.1, fun i hi => by rw [f.e (by decide) (n214 (by omega))]; exact k7.2 i hi⟩, by rw [h4]; exact k8, by rw [f.i (by decide) (n214 (by omega))]; exact k9, by rw [f.i (by decide) (n214 (by omega))]; exact k10⟩
theorem RBn.ip {inp' : Nat → Int} {ic' : Nat} (h : RBn A Q QB Tx L inp ic ou s c1 c2) (f : fr F A B) (hF : ∀ a j, F a j → (a = 226 ∧ (j = 0 ∨ j = 10)) ∨ a = 232) (h1 : RIp B inp' ic') : RBn B Q QB Tx L inp' ic' ou s c1 c2 := by
  obtain ⟨r1, r2, r3, r4, r5, r6, r7⟩ := h
  exact ⟨r1.f0 f (fun a j z => by have := hF a j z; omega), r2.fr f (fun a j z => by have := hF a j z; omega), h1, r4.fr f (fun a j z => by have := hF a j z; omega), by rw [f.i (fun z => by have := hF _ _ z; omega)]; exact r5, by rw [f.i (fun z => by have := hF _ _ z; omega)]; exact r6, by rw [f.i (fun z => by have := hF _ _ z; omega)]; exact r7⟩
theorem st_feed (hx : zw x = x) (h : IN A) : LE A (z_PC_feed N x A) (z_M_feed N x) := by
  obtain ⟨R, R', Q, QB, Tx, L, inp, ic, ou, s, c1, c2, g, hC, hR⟩ := h
  have g1 := g.1
  have g2 := g.2.1
  have g5 := g.2.2.2.2.1
  obtain ⟨k1, k2, k3, k4, k5, k6, k7, k8, k9, k10⟩ := id hC
  obtain ⟨a1, a2⟩ := c_feed (N := N) (x := x) hC.own k6 g5 hx
  by_cases c : ic < 20
  · obtain ⟨B, b1, b2, b3, b4, b5⟩ := a1 c
    have hRB := hR.cf b3 (fun a h1 _ => n214 (by omega))
    obtain ⟨q1, -⟩ := r_feed (N := N) (x := x) hRB.2.2.1 g5 hx
    obtain ⟨D, e1, e2, e3⟩ := q1 c
    exact ⟨_, B, D, b1, e1, gp_in ⟨g1, g2, g.2.2.1, g.2.2.2.1, c, g.2.2.2.2.2⟩ b3 (n214 (by omega)) (n214 (by omega)) (hC.ip g1 g2 b3 b2 b4 b5) e3 (fun a j z => by omega) (hRB.ip e3 (fun a j z => z) e2), K0.of b3 (n214 (by omega))⟩
  · obtain ⟨-, q2⟩ := r_feed (N := N) (x := x) hR.2.2.1 g5 hx
    exact ⟨_, A, _, a2 c, q2 c, no_in g hC hR fr_z0 (fun a j z => Or.inl z), k0r⟩
theorem st_dry (h : IN A) : LV' A (z_PC_dry N A) (z_M_dry N) := by
  obtain ⟨R, R', Q, QB, Tx, L, inp, ic, ou, s, c1, c2, g, hC, hR⟩ := h
  have g1 := g.1
  have g2 := g.2.1
  obtain ⟨B, b1, b2, b3, b4, b5⟩ := c_dry (N := N) (inp := inp) hC.own
  have b3 : cF [214, 215] A B := b3.mono (fun a q => by simp at q; simp [q])
  have hRB := hR.cf b3 (fun a h1 _ => n214 (by omega))
  obtain ⟨D, e1, e2, e3⟩ := r_dry (N := N) (A := B) (inp := inp)
  exact ⟨B, D, b1, e1, gp_in ⟨g1, g2, g.2.2.1, g.2.2.2.1, Nat.zero_le _, g.2.2.2.2.2⟩ b3 (n214 (by omega)) (n214 (by omega)) (hC.ip g1 g2 b3 b2 b4 b5) e3 (fun a j z => by omega) (hRB.ip e3 (fun a j z => Or.inl z) e2), K0.of b3 (n214 (by omega))⟩
end
