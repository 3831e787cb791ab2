/-! a change stays, or it doesn't: class and reference -/
def RR (R R' : Nat) : Prop := (R = 21 ∧ R' = 35) ∨ (R = 35 ∧ R' = 21)
theorem RR.ok {R R' : Nat} (h : RR R R') : okR R ∧ okR R' ∧ R ≠ R' ∧ R ≠ 7 ∧ R' ≠ 7 := by unfold RR at h; unfold okR; omega
theorem RR.sw {R R' : Nat} (h : RR R R') : RR R' R := by unfold RR at *; omega
def CPG (A : zA) (R R' : Nat) (Q QB : Pr) : Prop := RR R R' ∧ zmr A 4 2 = some R ∧ zmr A 4 3 = some R' ∧ CWI A ∧ CPI A 7 ∧ CPI A R ∧ CPI A R' ∧ CSt A R Q (mtC Q) ∧ CSt A 7 QB (mtC QB)
def RPG (A : zA) (Q QB : Pr) : Prop := RSt A 0 Q ∧ RSt A 2 QB ∧ zi A 226 6 = Q.1 ∧ RL A 0 ∧ RL A 1 ∧ RL A 2
theorem RL.fr {A B : zA} {z : Nat} {F : Nat → Nat → Prop} (h : RL A z) (f : fr F A B) (hq : ∀ p : Nat, p < 4 → ¬ F 229 (4 * z + p)) : RL B z := fun p hp => by
  have : rn B (4 * z + p) = rn A (4 * z + p) := f.e (by rw [show ((4 : Int) * z + p).toNat = 4 * z + p by omega]; exact hq p hp)
  rw [this]; exact h p hp
theorem RL.cF {S : List Nat} {A B : zA} {z : Nat} (h : RL A z) (f : cF S A B) (hs : nr S) : RL B z := fun p hp => by
  have : rn B (4 * z + p) = rn A (4 * z + p) := f.re hs (by omega) (by omega) _
  rw [this]; exact h p hp
theorem RPG.cF {S : List Nat} {A B : zA} {Q QB : Pr} (h : RPG A Q QB) (f : cF S A B) (hs : nr S) : RPG B Q QB := ⟨h.1.cF f hs, h.2.1.cF f hs, by rw [f.rz hs]; exact h.2.2.1, h.2.2.2.1.cF f hs, h.2.2.2.2.1.cF f hs, h.2.2.2.2.2.cF f hs⟩
theorem CWI.fr {S : List Nat} {A B : zA} (h : CWI A) (f : cF S A B) (h1 : S.contains 111 = false) (h4 : S.contains 114 = false) (h7 : S.contains 117 = false) : CWI B := by
  obtain ⟨a1, ⟨t, t1, t2⟩, a3, a4⟩ := h
  exact ⟨f.own, ⟨t, t1, (t2.fr (by decide) f h1).1⟩, a3.fr (Or.inl rfl) f h4, a4.fr (Or.inr rfl) f h7⟩
theorem CPG.cf {S : List Nat} {A B : zA} {R R' : Nat} {Q QB : Pr} (h : CPG A R R' Q QB) (hQ : WO Q) (hB : WO QB) (f : cF S A B) (h4 : S.contains 4 = false) (hr : ∀ a, 7 ≤ a → a ≤ 48 → S.contains a = false) (h1 : S.contains 111 = false) (h2 : S.contains 114 = false) (h3 : S.contains 117 = false) : CPG B R R' Q QB := by
  obtain ⟨r, m2, m3, w, c7, cR, cR', s, sB⟩ := h
  obtain ⟨k1, k2, k3, k4, k5⟩ := r.ok
  obtain ⟨y1, y2, y3⟩ := k1.fx
  obtain ⟨z1, z2, z3⟩ := k2.fx
  have n7 : ∀ X, okR X → ∀ a, X ≤ a → a ≤ X + 13 → S.contains a = false := fun X hX a a1 a2 => hr a (by unfold okR at hX; omega) (by unfold okR at hX; omega)
  exact ⟨r, by rw [f.r (by decide) h4]; exact m2, by rw [f.r (by decide) h4]; exact m3, w.fr f h1 h2 h3, c7.fr (Or.inl rfl) f (n7 7 (Or.inl rfl)), cR.fr k1 f (n7 R k1), cR'.fr k2 f (n7 R' k2), s.fr hQ k1 f (n7 R k1), sB.fr hB (Or.inl rfl) f (n7 7 (Or.inl rfl))⟩
/-- the reference's steps leave the class -/
theorem CPG.rf {F : Nat → Nat → Prop} {A B : zA} {R R' : Nat} {Q QB : Pr} (h : CPG A R R' Q QB) (hQ : WO Q) (hB : WO QB) (f : fr F A B) (hq : ∀ a j, F a j → 226 ≤ a ∧ a ≤ 295) : CPG B R R' Q QB := h.cf hQ hB (f.cF hq h.2.2.2.1.1) (by decide) (fun a _ _ => rcs_n (by omega)) (by decide) (by decide) (by decide)
theorem dy4 {o f : Nat} (h : dy o f = true) : o ≠ 4 := fun q => by
  subst q
  rcases dy_cases h with z | z
  · exact absurd z.1 (by decide)
  · omega
theorem cF_sr4 {A : zA} {j : Nat} {r : Option Nat} (h : Own A) : cF [4] A (zsr A 4 j r) := by
  have mr : ∀ o f, o ≠ 4 → zmr (zsr A 4 j r) o f = zmr A o f := fun o f ho => by rw [zmr_sr, if_neg (fun q => ho q.1)]
  have yc1 : ∀ o f, dy o f = true → yc (zsr A 4 j r) o f = yc A o f := fun o f hd => by unfold yc; rw [mr o f (dy4 hd)]
  have yl1 : ∀ o f, dy o f = true → yl (zsr A 4 j r) o f = yl A o f := fun o f hd => by unfold yl; rw [yc1 o f hd]; rfl
  have hO : Own (zsr A 4 j r) := by
    obtain ⟨o1, o2, o3, o4⟩ := h
    refine ⟨o1, fun o f c hd hc => ?_, fun o f ho hf => ?_, fun o f o' f' c h1 h2 g1 g2 => ?_⟩
    · rw [mr o f (dy4 hd)] at hc; exact o2 o f c hd hc
    · rw [mr o f (dy4 (dy_of ho hf))]; exact o3 o f ho hf
    · rw [mr o f (dy4 h1)] at g1; rw [mr o' f' (dy4 h2)] at g2; exact o4 o f o' f' c h1 h2 g1 g2
  have rm : Rm A (zsr A 4 j r) := by
    have e2 : sy (zsr A 4 j r) = sy A := by
      unfold sy
      rw [List.map_congr_left (fun q hq => yl1 _ _ (dy_of (SL_of q hq).1 (SL_of q hq).2))]
    have e3 : ty (zsr A 4 j r) = ty A := by
      unfold ty t1
      rw [mr _ _ (by decide), mr _ _ (by decide), mr _ _ (by decide), mr _ _ (by decide)]
    unfold Rm
    rw [e2, e3]
    exact ⟨Int.le_refl _, Int.le_refl _⟩
  refine ⟨hO, ⟨rm, fun _ => rfl, fun _ z => z⟩, fun a k ha hs => ⟨rfl, rfl, ?_⟩, fun o f hd hs => ⟨yl1 o f hd, fun e => ?_⟩⟩
  · exact mr a k (fun q => by rw [q] at hs; exact absurd hs (by decide))
  · unfold yv
    rw [yc1 o f hd]; rfl
section
variable {N : Nat} {A : zA} {R R' : Nat} {Q Q1 QB : Pr}
theorem c_settle (hN : 300000 ≤ N) (hG : GQ Q) (hG1 : GQ Q1) (hGB : GQ QB) (h : CPG A R R' Q QB) (h1 : CSt A R' Q1 (mtC Q1)) : ∃ B, z_PC_staysIfTheSame N A = some (cif (Sam (wlC Q) (wlC Q1)) 1 0, B) ∧ cF (4 :: wal) A B ∧ ((Sam (wlC Q) (wlC Q1) ∧ CPG B R' R Q1 QB ∧ zi B 4 11 = zw (zi A 4 11 + 1) ∧ zi B 4 12 = zi A 4 12 ∧ zi B 4 9 = 0) ∨ (¬ Sam (wlC Q) (wlC Q1) ∧ CPG B R R' Q QB ∧ zi B 4 11 = zi A 4 11 ∧ zi B 4 12 = zw (zi A 4 12 + 1) ∧ zi B 4 9 = zi A 4 9)) := by
  have h0 := h
  obtain ⟨r, m2, m3, w, c7, cR, cR', s, sB⟩ := h
  obtain ⟨k1, k2, k3, k4, k5⟩ := r.ok
  obtain ⟨-, x2, -, -, -, -⟩ := rws_fr k1 (show 0 < 4 by decide)
  obtain ⟨-, y2, -, -, -, -⟩ := rws_fr k2 (show 0 < 4 by decide)
  obtain ⟨A1, A2, B, b1, b2, b3, b4, b5, b6⟩ := c_alike (N := N) hN k1 k2 hG.1 hG.n hG.m hG1.1 hG1.n hG1.m w s.2 h1.2
  have b4 : z_Wk_saidTheSame N A2 = some (cif (Sam (wlC Q) (wlC Q1)) 1 0, B) := b4
  have m1 : zmr A1 4 3 = some R' := by rw [b2.r (by decide) (wal_n (by omega))]; exact m3
  have up : cF (4 :: wal) A B := b5.mono (fun a ha => by rw [List.contains_cons, ha, Bool.or_true])
  have c4 : (4 :: wal).contains 4 = true := by rw [List.contains_cons]; rfl
  have hO := b5.own
  have hCB : CPG B R R' Q QB := by
    have n7 : ∀ X, okR X → ∀ a, X ≤ a → a ≤ X + 13 → wal.contains a = false := fun X hX a a1 a2 => wal_n (by unfold okR at hX; omega)
    exact ⟨r, by rw [b5.r (by decide) (wal_n (by omega))]; exact m2, by rw [b5.r (by decide) (wal_n (by omega))]; exact m3, b6, c7.fr (Or.inl rfl) b5 (n7 7 (Or.inl rfl)), cR.fr k1 b5 (n7 R k1), cR'.fr k2 b5 (n7 R' k2), s.fr hG.1 k1 b5 (n7 R k1), sB.fr hGB.1 (Or.inl rfl) b5 (n7 7 (Or.inl rfl))⟩
  have h1B : CSt B R' Q1 (mtC Q1) := h1.fr hG1.1 k2 b5 (fun a a1 a2 => wal_n (by unfold okR at k2; omega))
  have i4 : ∀ j, zi B 4 j = zi A 4 j := fun j => b5.i (by decide) (wal_n (by omega))
  unfold z_PC_staysIfTheSame
  rw [zgr_s m2, zcs_s x2, b1, zbV_s, zgr_s m1, zcs_s y2, b3, zbV_s, b4, zbI_s]
  have keep : ∀ {X : zA} {P P' : Nat} {U : Pr}, cF [4] B X → zmr X 4 2 = some P → zmr X 4 3 = some P' → RR P P' → GQ U → CSt B P U (mtC U) → CPI B P → CPI B P' → CPG X P P' U QB := fun {X P P' U} f q2 q3 hr hU hs hi hi' => by
    obtain ⟨g1, g2, g3, g4, g5⟩ := hr.ok
    have n4 : ∀ a, a ≠ 4 → ([4] : List Nat).contains a = false := fun a ha => cont2 ha
    have n7 : ∀ Y, okR Y → ∀ a, Y ≤ a → a ≤ Y + 13 → ([4] : List Nat).contains a = false := fun Y hY a a1 a2 => n4 a (by unfold okR at hY; omega)
    exact ⟨hr, q2, q3, b6.fr f (by decide) (by decide) (by decide), hCB.2.2.2.2.1.fr (Or.inl rfl) f (n7 7 (Or.inl rfl)), hi.fr g1 f (n7 P g1), hi'.fr g2 f (n7 P' g2), hs.fr hU.1 g1 f (n7 P g1), hCB.2.2.2.2.2.2.2.2.fr hGB.1 (Or.inl rfl) f (n7 7 (Or.inl rfl))⟩
  by_cases c : Sam (wlC Q) (wlC Q1)
  · rw [cif_pos c, if_neg (by decide), zgr_s hCB.2.1, zcs_s x2, zgr_s hCB.2.2.1, zcs_s y2, zlet_s, zlet_s, zlet_s, zlet_s]
    have g1 := cF_sr4 (A := B) (j := 2) (r := some R') hO
    have g2 := cF_sr4 (A := zsr B 4 2 (some R')) (j := 3) (r := some R) g1.own
    have g3 : cF [4] (zsr (zsr B 4 2 (some R')) 4 3 (some R)) (zsi (zsr (zsr B 4 2 (some R')) 4 3 (some R)) 4 9 0) := cF_si g2.own (by decide) (by decide) (by decide)
    have g4 : cF [4] (zsi (zsr (zsr B 4 2 (some R')) 4 3 (some R)) 4 9 0) (zsi (zsi (zsr (zsr B 4 2 (some R')) 4 3 (some R)) 4 9 0) 4 11 (zi (zsi (zsr (zsr B 4 2 (some R')) 4 3 (some R)) 4 9 0) 4 11 + 1)) := cF_si g3.own (by decide) (by decide) (by decide)
    have g := ((g1.trans g2).trans g3).trans g4
    have e11 : zi (zsi (zsr (zsr B 4 2 (some R')) 4 3 (some R)) 4 9 0) 4 11 = zi A 4 11 := by rw [zi_si_j (by decide)]; exact i4 11
    refine ⟨_, rfl, up.trans (g.mono (fun a ha => by
      simp only [List.contains_iff_mem, List.mem_cons, List.not_mem_nil, or_false] at ha
      rw [ha]; exact c4)), Or.inl ⟨c, keep g ?_ ?_ r.sw hG1 h1B hCB.2.2.2.2.2.2.1 hCB.2.2.2.2.2.1, ?_, ?_, ?_⟩⟩
    · show zmr (zsr (zsr B 4 2 (some R')) 4 3 (some R)) 4 2 = _
      rw [zmr_sr, if_neg (by decide), zmr_sr, if_pos ⟨rfl, rfl⟩]
    · show zmr (zsr (zsr B 4 2 (some R')) 4 3 (some R)) 4 3 = _
      rw [zmr_sr, if_pos ⟨rfl, rfl⟩]
    · rw [zi_si_s, e11]
    · rw [zi_si_j (by decide), zi_si_j (by decide)]; exact i4 12
    · rw [zi_si_j (by decide), zi_si_s]; decide
  · rw [cif_neg c, if_pos rfl, zlet_s]
    have g : cF [4] B (zsi B 4 12 (zi B 4 12 + 1)) := cF_si hO (by decide) (by decide) (by decide)
    refine ⟨_, rfl, up.trans (g.mono (fun a ha => by
      simp only [List.contains_iff_mem, List.mem_cons, List.not_mem_nil, or_false] at ha
      rw [ha]; exact c4)), Or.inr ⟨c, keep g hCB.2.1 hCB.2.2.1 r hG hCB.2.2.2.2.2.2.2.1 hCB.2.2.2.2.2.1 hCB.2.2.2.2.2.2.1, ?_, ?_, ?_⟩⟩
    · rw [zi_si_j (by decide)]; exact i4 11
    · rw [zi_si_s, i4 12]
    · rw [zi_si_j (by decide)]; exact i4 9
def qSt (a j : Nat) : Prop := qA a j ∨ qCp 0 a j ∨ (a = 226 ∧ (j = 7 ∨ j = 8))
theorem r_settle (hN : 300000 ≤ N) (hNk : kc 20 * 150 < N) (hG : GQ Q) (hG1 : GQ Q1) (h : RPG A Q QB) (h1 : RSt A 1 Q1) (hT : Q1.1 = Q.1) : ∃ B, z_M_settle N A = some (cif (Sam (wlC Q) (wlC Q1)) 1 0, B) ∧ fr qSt A B ∧ ((Sam (wlC Q) (wlC Q1) ∧ RPG B Q1 QB ∧ zi B 226 7 = zw (zi A 226 7 + 1) ∧ zi B 226 8 = zi A 226 8) ∨ (¬ Sam (wlC Q) (wlC Q1) ∧ RPG B Q QB ∧ zi B 226 7 = zi A 226 7 ∧ zi B 226 8 = zw (zi A 226 8 + 1))) := by
  obtain ⟨s0, s2, t6, l0, l1, l2⟩ := h
  obtain ⟨B, b1, b2⟩ := r_alike (N := N) hN hNk hG.1 hG.n hG.m hG1.1 hG1.n hG1.m t6 (by rw [t6, hT]) s0 h1
  have b1 : z_M_alike N A = some (cif (Sam (wlC Q) (wlC Q1)) 1 0, B) := b1
  have iB : ∀ j, j ≤ 41 → zi B 226 j = zi A 226 j := fun j hj => b2.i (fun q => by unfold qA at q; omega)
  have lB : ∀ z, RL A z → RL B z := fun z hl => hl.fr b2 (fun p hp q => by unfold qA at q; omega)
  have sB : ∀ z U, RSt A z U → RSt B z U := fun z U hs => hs.fr b2 (fun a j q => by unfold qA at q; omega)
  have F0 : fr qSt A B := b2.mono (fun a j q => Or.inl q)
  have r7 := yb_rg A 226 7
  have r8 := yb_rg A 226 8
  unfold z_M_settle
  rw [b1, zbI_s]
  by_cases c : Sam (wlC Q) (wlC Q1)
  · rw [cif_pos c, if_neg (by decide)]
    obtain ⟨C, c1, c2, c3, c4⟩ := r_copyState' (N := N) (x := 1) (y := 0) hN (by omega) (by omega) (by omega) (lB 1 l1) hG1.1 (sB 1 Q1 h1)
    rw [show ((1 : Nat) : Int) = 1 from rfl, show ((0 : Nat) : Int) = 0 from rfl] at c1
    rw [c1, zbV_s]
    unfold z_M_settle_15 z_M_settle_29
    rw [if_neg (by decide), zlet_s, if_neg (by decide), zlet_s, if_pos (Or.inr rfl)]
    have iC : ∀ j, j ≤ 41 → zi C 226 j = zi A 226 j := fun j hj => by rw [c4.i (fun q => by unfold qCp at q; omega), iB j hj]
    have f : fr (fun a j => a = 226 ∧ (j = 7 ∨ j = 8)) C (zsi (zsi C 226 7 (zi C 226 7 + 1)) 226 8 (zi (zsi C 226 7 (zi C 226 7 + 1)) 226 8 + 0)) := (fr_si ⟨rfl, Or.inl rfl⟩).trans (fr_si ⟨rfl, Or.inr rfl⟩)
    have v7 : zi (zsi (zsi C 226 7 (zi C 226 7 + 1)) 226 8 (zi (zsi C 226 7 (zi C 226 7 + 1)) 226 8 + 0)) 226 7 = zw (zi A 226 7 + 1) := by rw [zi_si_j (by decide), zi_si_s, iC 7 (by omega)]
    have v8 : zi (zsi (zsi C 226 7 (zi C 226 7 + 1)) 226 8 (zi (zsi C 226 7 (zi C 226 7 + 1)) 226 8 + 0)) 226 8 = zi A 226 8 := by rw [zi_si_s, zi_si_j (by decide), iC 8 (by omega), Int.add_zero, yb_w r8.1 r8.2]
    generalize zsi (zsi C 226 7 (zi C 226 7 + 1)) 226 8 (zi (zsi C 226 7 (zi C 226 7 + 1)) 226 8 + 0) = E at *
    have lE : ∀ z, RL C z → RL E z := fun z hl => hl.fr f (fun p hp q => by omega)
    refine ⟨E, rfl, (F0.trans (c4.mono (fun a j q => Or.inr (Or.inl q)))).trans (f.mono (fun a j q => Or.inr (Or.inr q))), Or.inl ⟨c, ⟨c2.fr f (fun a j q => by omega), ?_, ?_, lE 0 c3, lE 1 ?_, lE 2 ?_⟩, v7, v8⟩⟩
    · intro p hp
      have hB := sB 2 QB s2 p hp
      have fe : ∀ a e, (a = 228 ∧ 9600 ≤ e.toNat) ∨ ((a = 229 ∨ a = 230) ∧ 8 ≤ e.toNat) → ri E a e = ri B a e := fun a e he => by rw [f.e (fun q => by omega), c4.e (fun q => by unfold qCp at q; omega)]
      refine ⟨?_, ?_, fun k hk => ⟨?_, fun i hi => ?_⟩⟩
      · unfold rn
        rw [fe _ _ (by omega)]; exact hB.1
      · rw [fe _ _ (by omega)]; exact hB.2.1
      · rw [fe _ _ (by unfold rad; omega)]; exact (hB.2.2 k hk).1
      · rw [fe _ _ (by unfold rad; omega)]; exact (hB.2.2 k hk).2 i hi
    · rw [f.i (fun q => by omega), iC 6 (by omega), t6, hT]
    · exact (lB 1 l1).fr c4 (fun p hp q => by unfold qCp at q; omega)
    · exact (lB 2 l2).fr c4 (fun p hp q => by unfold qCp at q; omega)
  · rw [cif_neg c, if_pos rfl]
    unfold z_M_settle_15 z_M_settle_29
    rw [if_pos rfl, zlet_s, if_pos rfl, zlet_s, if_pos (Or.inl rfl)]
    have f : fr (fun a j => a = 226 ∧ (j = 7 ∨ j = 8)) B (zsi (zsi B 226 7 (zi B 226 7 + 0)) 226 8 (zi (zsi B 226 7 (zi B 226 7 + 0)) 226 8 + 1)) := (fr_si ⟨rfl, Or.inl rfl⟩).trans (fr_si ⟨rfl, Or.inr rfl⟩)
    have v7 : zi (zsi (zsi B 226 7 (zi B 226 7 + 0)) 226 8 (zi (zsi B 226 7 (zi B 226 7 + 0)) 226 8 + 1)) 226 7 = zi A 226 7 := by rw [zi_si_j (by decide), zi_si_s, iB 7 (by omega), Int.add_zero, yb_w r7.1 r7.2]
    have v8 : zi (zsi (zsi B 226 7 (zi B 226 7 + 0)) 226 8 (zi (zsi B 226 7 (zi B 226 7 + 0)) 226 8 + 1)) 226 8 = zw (zi A 226 8 + 1) := by rw [zi_si_s, zi_si_j (by decide), iB 8 (by omega)]
    generalize zsi (zsi B 226 7 (zi B 226 7 + 0)) 226 8 (zi (zsi B 226 7 (zi B 226 7 + 0)) 226 8 + 1) = E at *
    have lE : ∀ z, RL B z → RL E z := fun z hl => hl.fr f (fun p hp q => by omega)
    exact ⟨E, rfl, F0.trans (f.mono (fun a j q => Or.inr (Or.inr q))), Or.inr ⟨c, ⟨(sB 0 Q s0).fr f (fun a j q => by omega), (sB 2 QB s2).fr f (fun a j q => by omega), by rw [f.i (fun q => by omega), iB 6 (by omega)]; exact t6, lE 0 (lB 0 l0), lE 1 (lB 1 l1), lE 2 (lB 2 l2)⟩, v7, v8⟩⟩
end
