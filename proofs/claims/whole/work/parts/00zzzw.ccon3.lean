/-! CONSTANTS of the class: all blocks -/
section
variable {N : Nat} {o o' g : Nat} {X : List It} {T p : Nat} {nd : Int → Nat}
theorem c_con (hN : 300000 ≤ N) (hoo : okO2 o o') (hok : okL T p g X) (hg : g ≤ 60) (hl : X.length ≤ 150) : ∀ n a b, BlX X nd n a b → b ≤ X.length → ∀ (s : KS) (L : Nat) (B : zA), n + L ≤ 20 → okK s.1 → s.2.1.length + (b - a) ≤ 200 → s.2.2 + (b - a) ≤ 900 → CoS B o o' X g L s → (∀ k : Nat, a ≤ k → k < b → ri B 101 k = 0) → ∃ C c, c ≤ b - a ∧ RCo N o o' a B b C c ∧ CoS C o o' X g L (cf X a b s) ∧ KF o' L a b B C := by
  obtain ⟨p1, p2, p3, p4, p5, p6, p7⟩ := id hoo
  have n' : ∀ q, q ≠ o' → ([o'] : List Nat).contains q = false := fun q hq => cont2 hq
  refine Bl_rec (P := fun n a b => b ≤ X.length → ∀ (s : KS) (L : Nat) (B : zA), n + L ≤ 20 → okK s.1 → s.2.1.length + (b - a) ≤ 200 → s.2.2 + (b - a) ≤ 900 → CoS B o o' X g L s → (∀ k : Nat, a ≤ k → k < b → ri B 101 k = 0) → ∃ C c, c ≤ b - a ∧ RCo N o o' a B b C c ∧ CoS C o o' X g L (cf X a b s) ∧ KF o' L a b B C) ?_ ?_ ?_ ?_
  · intro n a _ s L B _ _ _ _ hc _
    rw [cf_nil]
    exact ⟨B, 0, Nat.zero_le _, RCo.refl N o o' a B, hc, KF.refl hc.1⟩
  · intro n a b hab hk hBl ih hb s L B hL hs hsl hsc hc hgo
    have ha : a < X.length := by omega
    have h7 : (itm X a).1 ≤ 7 := by rcases hk with h | h <;> omega
    have hoa := hok _ (itm_mem ha)
    rw [cf_pl (n := n) hab h7]
    have ck := CK_pl (X := X) (n := n) (nd := nd) (s := s) hoa hg hs hk
    obtain ⟨C, c1, c2, c3, c4, c5⟩ := c_plain (N := N) (k := a) hN hc hoo hoa hg ha hs (by omega) h7 (by omega)
    have hgv : z_Co_goOver N o a o' B = some ((a : Int), C) := by
      unfold z_Co_goOver
      rw [cp_kind hc.1 p1 hc.2.2.1 ha, zbP_s, if_neg (by omega), if_neg (by omega), if_neg (by omega), if_neg (by omega), if_neg (by omega), c1, zbV_s]
    have r1 := RCo_one (N := N) (v := a) hc ha (by omega) (by omega) hgv
    rw [Nat.max_self] at r1
    have k1 : KF o' L a b B C := ⟨c3, fun j hj i hi => ⟨(c5 (52 + j) (by omega) (by omega) i).1, (c5 (77 + j) (by omega) (by omega) i).1⟩, fun k hk => (c5 101 (by decide) (by decide) k).2⟩
    obtain ⟨-, w, w1, -, -, -, w5, w6, w7⟩ := ck
    have hwl : (plS1 (itm X a) s).2.1.length = s.2.1.length + 1 := by show (s.2.1 ++ [_]).length = _; rw [List.length_append]; rfl
    obtain ⟨D, c, d1, d2, d3, d4⟩ := ih hb (plS1 (itm X a) s) L C hL (plK_ok hoa hs) (by omega) (by omega) c2 (fun k k1 k2 => by
      have := (c5 101 (by decide) (by decide) k).2
      have e : ri C 101 k = ri B 101 k := this
      rw [e]; exact hgo k (by omega) k2)
    exact ⟨D, 1 + c, by omega, r1.trans d2, d3, k1.trans (d4.mono (Nat.le_refl _) (by omega) (Nat.le_refl _))⟩
  · intro n a b k8 m1 m2 m3 k9 k12 m4 b1 b2 b3 ih1 ih2 ih3 hb s L B hL hs hsl hsc hc hgo
    rw [cf_if k8 m1 m2 m3 b1 b2 b3]
    have ck1 := cf_ok hok hg _ _ _ b1 (by omega)
    have ck2 := cf_ok hok hg _ _ _ b2 (by omega)
    have ema : mtL X a = mtL X a := rfl
    generalize hm : mtL X a = m at *
    generalize he : mtL X m = e at *
    have ha : a < X.length := by omega
    have hml : m < X.length := by omega
    have hel : e < X.length := by omega
    have hoa := hok _ (itm_mem ha)
    obtain ⟨o1, o2, o3, -⟩ := id hoa
    have hvk := nbk_v o1 o2
    have hr := (o3 0 (by omega)).2.2 ⟨by omega, by omega, by omega⟩
    have hr : 0 ≤ ig (itm X a) 1 ∧ ig (itm X a) 1 < g := hr
    obtain ⟨r, hre⟩ : ∃ r : Nat, ig (itm X a) 1 = r := ⟨(ig (itm X a) 1).toNat, by omega⟩
    have hreg := cp_reg (N := N) (i := 0) hc.1 p1 hc.2.2.1 hoa hg ha (by omega) ⟨by omega, by omega, by omega⟩
    have hreg : z_Pt_register N o a 0 B = some (ig (itm X a) 1) := hreg
    have hkr := hc.2.2.2.2.2.1 r (by omega)
    have gi : z_Co_goOver N o a o' B = zbI (z_Co_goOverIf N o a o' B) fun v2 A3 => some (v2, A3) := by
      unfold z_Co_goOver
      rw [cp_kind hc.1 p1 hc.2.2.1 ha, zbP_s, if_pos k8]
    -- going on behind END
    have fin : ∀ (t : KS) (C : zA) (c : Nat), c ≤ e + 1 - a → okK t.1 → t.2.1.length ≤ s.2.1.length + (e + 1 - a) → t.2.2 ≤ s.2.2 + (e + 1 - a) → RCo N o o' a B (e + 1) C c → CoS C o o' X g L t → KF o' L a (e + 1) B C → ∃ D c', c' ≤ b - a ∧ RCo N o o' a B b D c' ∧ CoS D o o' X g L (cf X (e + 1) b t) ∧ KF o' L a b B D := fun t C c hcb ht h1 h2 hr hC hK => by
      obtain ⟨D, c', d1, d2, d3, d4⟩ := ih3 hb t L C hL ht (by omega) (by omega) hC (fun k k1 k2 => by rw [hK.2.2 k (Or.inr k1)]; exact hgo k (by omega) k2)
      exact ⟨D, c + c', by omega, hr.trans d2, d3, (hK.mono (Nat.le_refl _) (Nat.le_refl _) (by omega)).trans (d4.mono (Nat.le_refl _) (by omega) (Nat.le_refl _))⟩
    cases ek : s.1 r with
    | none =>
      have hif : ifC X (cf X) a s = (kjn (cf X (a + 1) m (s.1, s.2.1 ++ [itm X a], s.2.2)).1 (cf X (m + 1) e (s.1, (cf X (a + 1) m (s.1, s.2.1 ++ [itm X a], s.2.2)).2.1 ++ [itm X m], (cf X (a + 1) m (s.1, s.2.1 ++ [itm X a], s.2.2)).2.2)).1, (cf X (m + 1) e (s.1, (cf X (a + 1) m (s.1, s.2.1 ++ [itm X a], s.2.2)).2.1 ++ [itm X m], (cf X (a + 1) m (s.1, s.2.1 ++ [itm X a], s.2.2)).2.2)).2.1 ++ [itm X e], (cf X (m + 1) e (s.1, (cf X (a + 1) m (s.1, s.2.1 ++ [itm X a], s.2.2)).2.1 ++ [itm X m], (cf X (a + 1) m (s.1, s.2.1 ++ [itm X a], s.2.2)).2.2)).2.2) := by
        unfold ifC
        rw [hre, Int.toNat_natCast, ek, hm, he]
      rw [hif]
      -- IF
      obtain ⟨B1, x1, x2, x3⟩ := hc.copy (N := N) (k := a) hoo ha (by omega)
      have x4 : zi B1 49 4 = L := x2.2.2.2.2.2.2.1
      have f2 : cF [49] B1 (zsi B1 49 4 ((L : Int) + 1)) := cF_si x3.own (by decide) (by decide) (by decide)
      have v4 : zi (zsi B1 49 4 ((L : Int) + 1)) 49 4 = ((L + 1 : Nat) : Int) := by rw [zi_si_s, yb_w (by omega) (by omega)]; omega
      have h2 : CoS (zsi B1 49 4 ((L : Int) + 1)) o o' X g (L + 1) (s.1, s.2.1 ++ [itm X a], s.2.2) := x2.fr hoo f2 (by decide) rfl (fun r hr => by rw [f2.l (by decide) (by decide)]; exact x2.2.2.2.2.2.1 r hr) v4 (by rw [zi_si_j (by decide)]; exact x2.2.2.2.2.2.2.2)
      have hgf : z_Co_goOverIf N o a o' B = zbV (z_Co_keep N 51 (zsi B1 49 4 ((L : Int) + 1))) fun A6 => some ((a : Int), A6) := by
        unfold z_Co_goOverIf
        rw [hreg, zbP_s, hre, zrl_ok (by omega) (by omega), Int.toNat_natCast, hkr, ek, if_pos ((kv_u (fun v z => by cases z)).mpr rfl), x1, zbV_s, zlet_s, x4]
      generalize zsi B1 49 4 ((L : Int) + 1) = B2 at *
      obtain ⟨B3, y1, y2, y3⟩ := c_kp (N := N) (w := 51) (l := L) h2.1 v4 (by omega) (Or.inl rfl)
      have h3 : CoS B3 o o' X g (L + 1) (s.1, s.2.1 ++ [itm X a], s.2.2) := h2.fr hoo y2 (by omega) rfl (fun r hr => by rw [y2.l (by decide) (cont2 (by omega))]; exact h2.2.2.2.2.2.1 r hr) (by rw [y2.i (by decide) (cont2 (by omega))]; exact v4) (by rw [y2.i (by decide) (cont2 (by omega))]; exact h2.2.2.2.2.2.2.2)
      rw [y1, zbV_s] at hgf
      rw [hgf, zbI_s] at gi
      have r1 := RCo_one (N := N) (v := a) hc ha (by omega) (by omega) gi
      rw [Nat.max_self] at r1
      have bef3 : ∀ i, i < 60 → zml B3 (52 + L) i = kv (s.1 i) := fun i hi => by
        have e1 := y3 i hi
        rw [show 51 + 1 + L = 52 + L by omega] at e1
        rw [e1]; exact h2.2.2.2.2.2.1 i hi
      have k3 : KF o' L a (e + 1) B B3 := ((KF_1 x3 (by omega) p7 (Or.inl rfl)).trans (KF_1 f2 (by omega) p7 (Or.inr (Or.inl rfl)))).trans (KF_2 y2 (by omega) p7 (Or.inl ⟨by omega, by omega⟩))
      have go3 : ∀ k : Nat, ri B3 101 k = ri B 101 k := fun k => by rw [y2.e (by decide) (cont2 (by omega)), f2.e (by decide) (by decide), x3.e (by decide) (n' _ (by omega))]
      -- the former
      have hl1 : (s.2.1 ++ [itm X a]).length = s.2.1.length + 1 := by rw [List.length_append]; rfl
      obtain ⟨ok1, w, w1, -, -, -, w5, w6, w7⟩ := ck1 (s.1, s.2.1 ++ [itm X a], s.2.2) hs
      obtain ⟨B4, c4, z1, z2, z3, z4⟩ := ih1 (by omega) (s.1, s.2.1 ++ [itm X a], s.2.2) (L + 1) B3 (by omega) hs (by show (s.2.1 ++ [itm X a]).length + _ ≤ _; omega) (by show s.2.2 + _ ≤ _; omega) h3 (fun k k1 k2 => by rw [go3]; exact hgo k (by omega) (by omega))
      dsimp only at w1 w6 w7
      have hw1 : (cf X (a + 1) m (s.1, s.2.1 ++ [itm X a], s.2.2)).2.1.length = s.2.1.length + 1 + w.length := by rw [w1, List.length_append, hl1]
      generalize hS1 : cf X (a + 1) m (s.1, s.2.1 ++ [itm X a], s.2.2) = S1 at *
      -- ELSE
      have gm4 : ri B4 101 m = 0 := by rw [z4.2.2 m (Or.inr (Nat.le_refl _)), go3]; exact hgo m (by omega) (by omega)
      have v44 : zi B4 49 4 = ((L + 1 : Nat) : Int) := z3.2.2.2.2.2.2.1
      obtain ⟨B5, q1, q2, q3⟩ := c_kp (N := N) (w := 76) (l := L) z3.1 v44 (by omega) (Or.inr rfl)
      have v45 : zi B5 49 4 = ((L + 1 : Nat) : Int) := by rw [q2.i (by decide) (cont2 (by omega))]; exact v44
      obtain ⟨B6, t1, t2, t3⟩ := c_rcl (N := N) (l := L) q2.own v45 (by omega)
      have h5 : CoS B5 o o' X g (L + 1) S1 := z3.fr hoo q2 (by omega) rfl (fun r hr => by rw [q2.l (by decide) (cont2 (by omega))]; exact z3.2.2.2.2.2.1 r hr) v45 (by rw [q2.i (by decide) (cont2 (by omega))]; exact z3.2.2.2.2.2.2.2)
      have bef5 : ∀ i, i < 60 → zml B5 (52 + L) i = kv (s.1 i) := fun i hi => by
        rw [q2.l (fx52 ⟨L, by omega⟩).1 (cont2 (by show 52 + L ≠ 76 + 1 + L; omega)), (z4.2.1 L (by omega) i hi).1]
        exact bef3 i hi
      have h6 : CoS B6 o o' X g (L + 1) (s.1, S1.2.1, S1.2.2) := h5.fr (t := (s.1, S1.2.1, S1.2.2)) hoo t2 (by decide) rfl (fun r hr => by rw [t3 r hr]; exact bef5 r hr) (by rw [t2.i (by decide) (by decide)]; exact v45) (by rw [t2.i (by decide) (by decide)]; exact h5.2.2.2.2.2.2.2)
      obtain ⟨B7, u1, u2, u3⟩ := h6.copy (N := N) (k := m) hoo hml (by show S1.2.1.length < 240; omega)
      have gm : z_Co_goOver N o m o' B4 = some ((m : Int), B7) := by
        unfold z_Co_goOver z_Co_turnToLatter z_Co_goOver_146
        rw [cp_kind z3.1 p1 z3.2.2.1 hml, zbP_s, if_neg (by omega), if_pos k9, zrd_ok (by omega) (by omega), gm4, if_pos rfl, q1, zbV_s, t1, zbV_s, zbV_s, u1, zbV_s]
      have r2 := RCo_one (N := N) (v := m) z3 hml (by omega) (by omega) gm
      rw [Nat.max_self] at r2
      have beh7 : ∀ i, i < 60 → zml B7 (77 + L) i = kv (S1.1 i) := fun i hi => by
        have e1 := q3 i hi
        rw [show 76 + 1 + L = 77 + L by omega] at e1
        rw [u3.l (fx52 ⟨L, by omega⟩).2 (n' _ (by show 77 + L ≠ o'; omega)), t2.l (fx52 ⟨L, by omega⟩).2 (cont2 (by show 77 + L ≠ 50; omega)), e1]
        exact z3.2.2.2.2.2.1 i hi
      have go7 : ∀ k : Nat, ri B7 101 k = ri B4 101 k := fun k => by rw [u3.e (by decide) (n' _ (by omega)), t2.e (by decide) (by decide), q2.e (by decide) (cont2 (by omega))]
      have k7 : KF o' L a (e + 1) B4 B7 := ((KF_2 q2 (by omega) p7 (Or.inr ⟨by omega, by omega⟩)).trans (KF_1 t2 (by omega) p7 (Or.inr (Or.inr rfl)))).trans (KF_1 u3 (by omega) p7 (Or.inl rfl))
      -- the latter
      have hl2 : (S1.2.1 ++ [itm X m]).length = S1.2.1.length + 1 := by rw [List.length_append]; rfl
      obtain ⟨ok2, v, v1, -, -, -, v5, v6, v7⟩ := ck2 (s.1, S1.2.1 ++ [itm X m], S1.2.2) hs
      obtain ⟨B8, c8, i1, i2, i3, i4⟩ := ih2 (by omega) (s.1, S1.2.1 ++ [itm X m], S1.2.2) (L + 1) B7 (by omega) hs (by show (S1.2.1 ++ [itm X m]).length + _ ≤ _; omega) (by show S1.2.2 + _ ≤ _; omega) u2 (fun k k1 k2 => by rw [go7, z4.2.2 k (Or.inr (by omega)), go3]; exact hgo k (by omega) (by omega))
      dsimp only at v1 v6 v7
      have hv1 : (cf X (m + 1) e (s.1, S1.2.1 ++ [itm X m], S1.2.2)).2.1.length = S1.2.1.length + 1 + v.length := by rw [v1, List.length_append, hl2]
      generalize hS2 : cf X (m + 1) e (s.1, S1.2.1 ++ [itm X m], S1.2.2) = S2 at *
      -- END
      have ge8 : ri B8 101 e = 0 := by rw [i4.2.2 e (Or.inr (Nat.le_refl _)), go7, z4.2.2 e (Or.inr (by omega)), go3]; exact hgo e (by omega) (by omega)
      have v48 : zi B8 49 4 = ((L + 1 : Nat) : Int) := i3.2.2.2.2.2.2.1
      have beh8 : ∀ q : Nat, q < 60 → zml B8 (77 + L) q = kv (S1.1 q) := fun q hq => by rw [(i4.2.1 L (by omega) q hq).2]; exact beh7 q hq
      obtain ⟨B9, g1, g2, g3, ⟨B89, g4, g5⟩, g6⟩ := c_close (N := N) (l := L) (kb := S1.1) (s := S2) (by omega) hoo ok2 ok1 60 0 N B8 (by omega) (by omega) (by
        have : (fun q => if q < 0 then kjn S1.1 S2.1 q else S2.1 q) = S2.1 := by funext q; rw [if_neg (by omega)]
        rw [this]; exact i3) beh8
      rw [show ((0 : Nat) : Int) = 0 from rfl] at g1
      have h89 : CoS B89 o o' X g (L + 1) (fun q => if q < 60 then (if True then kjn S1.1 S2.1 q else none) else none, S2.2) → True := fun _ => trivial
      have f89 : CoS B9 o o' X g L (kjn S1.1 S2.1, S2.2) := by
        obtain ⟨c1, c2, c3, c4, c5, c6, c7, c8⟩ := i3
        have n : ∀ (x q : Nat), 49 ≤ x → q < 49 → ([x] : List Nat).contains q = false := fun x q hx hq => cont2 (by omega)
        exact ⟨g5.own, (c2.fr g4 (n _ _ (by decide) (by decide)) (n _ _ (by decide) (by decide)) (n _ _ (by decide) (by decide))).fr g5 (n _ _ (by decide) (by decide)) (n _ _ (by decide) (by decide)) (n _ _ (by decide) (by decide)), (c3.fr p1 g4 (n _ _ (by decide) p6)).fr p1 g5 (n _ _ (by decide) p6), (c4.fr p1 g4 (n _ _ (by decide) p6)).fr p1 g5 (n _ _ (by decide) p6), (c5.fr p2 g4 (n _ _ (by decide) p7)).fr p2 g5 (n _ _ (by decide) p7), g2, g3, g6⟩
      obtain ⟨B10, j1, j2, j3⟩ := f89.copy (N := N) (k := e) hoo hel (by show S2.2.1.length < 240; omega)
      have hme : z_Pt_mate N o e B8 = some ((a : Nat) : Int) := by
        rw [cp_mate i3.1 p1 i3.2.2.1 hel, i3.2.2.2.1 e hel (by omega), m4]
      have gev : z_Co_goOver N o e o' B8 = some ((e : Int), B10) := by
        unfold z_Co_goOver z_Co_goOver_131 z_Co_close z_Co_levelIsThere z_Co_close_24 z_Co_goOver_146
        rw [cp_kind i3.1 p1 i3.2.2.1 hel, zbP_s, if_neg (by omega), if_neg (by omega), if_neg (by omega), if_neg (by omega), if_pos k12, zrd_ok (by omega) (by omega), ge8, if_pos rfl, hme, zbP_s, cp_kind i3.1 p1 i3.2.2.1 ha, zbP_s, if_pos k8, if_neg (by decide), v48, if_neg (by omega), if_neg (by omega), zbP_s, if_neg (by decide), g1, zbV_s, j1, zbV_s]
      have r3 := RCo_one (N := N) (v := e) i3 hel (by omega) (by omega) gev
      rw [Nat.max_self] at r3
      have k10 : KF o' L a (e + 1) B8 B10 := ((KF_1 g4 (by omega) p7 (Or.inr (Or.inr rfl))).trans (KF_1 g5 (by omega) p7 (Or.inr (Or.inl rfl)))).trans (KF_1 j3 (by omega) p7 (Or.inl rfl))
      refine fin _ B10 (1 + c4 + 1 + c8 + 1) (by omega) (kjn_ok ok2) ?_ ?_ ((((r1.trans z2).trans r2).trans i2).trans r3) j2 ((((k3.trans (z4.mono (by omega) (by omega) (by omega))).trans k7).trans (i4.mono (by omega) (by omega) (by omega))).trans k10)
      · show (S2.2.1 ++ [itm X e]).length ≤ _
        rw [List.length_append]
        show _ + 1 ≤ _
        omega
      · show S2.2.2 ≤ _
        omega
    | some v =>
      have hv := hs _ _ ek
      have ov : okO (some v) := fun u z => by rw [← Option.some.inj z]; exact hv
      have hif : ifC X (cf X) a s = if v = 0 then cf X (m + 1) e (s.1, s.2.1, s.2.2 + 1) else cf X (a + 1) m (s.1, s.2.1, s.2.2 + 1) := by
        unfold ifC
        rw [hre, Int.toNat_natCast, ek, hm, he]
      rw [hif]
      have f1 : cF [49] B (zsi B 49 5 ((s.2.2 : Int) + 1)) := cF_si hc.1 (by decide) (by decide) (by decide)
      have v5 : zi (zsi B 49 5 ((s.2.2 : Int) + 1)) 49 5 = ((s.2.2 + 1 : Nat) : Int) := by rw [zi_si_s, yb_w (by omega) (by omega)]; omega
      have h1 : CoS (zsi B 49 5 ((s.2.2 : Int) + 1)) o o' X g L (s.1, s.2.1, s.2.2 + 1) := hc.fr (t := (s.1, s.2.1, s.2.2 + 1)) hoo f1 (by decide) rfl (fun r hr => by rw [f1.l (by decide) (by decide)]; exact hc.2.2.2.2.2.1 r hr) (by rw [zi_si_j (by decide)]; exact hc.2.2.2.2.2.2.1) v5
      have hgf : z_Co_goOverIf N o a o' B = zlet (zsi B 49 5 ((s.2.2 : Int) + 1)) fun A7 => zbP (z_Pt_mate N o a A7) fun v8 => zbP (z_Pt_mate N o v8 A7) fun v9 => zbP (z_Pt_has N o v8 A7) fun v10 => (if v10 = 0 then (if ((lg_cmp (kv (some v)) (Int64.ofNat 0)).toInt) = 0 then some (v8, A7) else some ((a : Int), A7)) else zbP (z_Pt_has N o v9 A7) fun v13 => (if v13 = 0 then (if ((lg_cmp (kv (some v)) (Int64.ofNat 0)).toInt) = 0 then some (v8, A7) else some ((a : Int), A7)) else zwr A7 101 240 v8 1 fun A16 => zwr A16 101 240 v9 1 fun A17 => (if ((lg_cmp (kv (some v)) (Int64.ofNat 0)).toInt) = 0 then some (v8, A17) else some ((a : Int), A17)))) := by
        unfold z_Co_goOverIf
        rw [hreg, zbP_s, hre, zrl_ok (by omega) (by omega), Int.toNat_natCast, hkr, ek, if_neg (fun z => by cases (kv_u ov).mp z), hc.2.2.2.2.2.2.2]
      rw [zlet_s] at hgf
      generalize zsi B 49 5 ((s.2.2 : Int) + 1) = B1 at *
      have ma : z_Pt_mate N o a B1 = some ((m : Nat) : Int) := by rw [cp_mate h1.1 p1 h1.2.2.1 ha, h1.2.2.2.1 a ha (by omega), hm]
      have mm : z_Pt_mate N o m B1 = some ((e : Nat) : Int) := by rw [cp_mate h1.1 p1 h1.2.2.1 hml, h1.2.2.2.1 m hml (by omega), he]
      have hcn : zi B1 o 2 = X.length := h1.2.2.1.2.1
      have has : ∀ q : Nat, q < X.length → z_Pt_has N o q B1 = some 1 := fun q hq => by
        unfold z_Pt_has
        rw [if_neg (by omega), hcn, if_pos (by omega)]
      have f2 : cF [101] B1 (rs B1 101 m 1) := cF_rs h1.1 (by decide) (by decide) (by decide)
      have f3 : cF [101] (rs B1 101 m 1) (rs (rs B1 101 m 1) 101 e 1) := cF_rs f2.own (by decide) (by decide) (by decide)
      have f23 := f2.trans f3
      have g101 : ∀ k : Nat, ri (rs (rs B1 101 m 1) 101 e 1) 101 k = if k = m ∨ k = e then 1 else ri B1 101 k := fun k => by
        by_cases z : k = e
        · rw [z, ri_rs_s, if_pos (Or.inr rfl)]; decide
        · rw [ri_rs_n (by omega) (by omega) (by omega)]
          by_cases y : k = m
          · rw [y, ri_rs_s, if_pos (Or.inl rfl)]; decide
          · rw [ri_rs_n (by omega) (by omega) (by omega), if_neg (by omega)]
      have h2 : CoS (rs (rs B1 101 m 1) 101 e 1) o o' X g L (s.1, s.2.1, s.2.2 + 1) := h1.fr hoo f23 (by decide) rfl (fun r hr => by rw [f23.l (by decide) (by decide)]; exact h1.2.2.2.2.2.1 r hr) (by rw [f23.i (by decide) (by decide)]; exact h1.2.2.2.2.2.2.1) (by rw [f23.i (by decide) (by decide)]; exact h1.2.2.2.2.2.2.2)
      rw [ma, zbP_s, mm, zbP_s, has m hml, zbP_s, if_neg (by decide), has e hel, zbP_s, if_neg (by decide), zwr_ok (by omega) (by omega), zwr_ok (by omega) (by omega)] at hgf
      generalize rs (rs B1 101 m 1) 101 e 1 = B2 at *
      have gB : ∀ k : Nat, ri B2 101 k = if k = m ∨ k = e then 1 else ri B 101 k := fun k => by
        rw [g101]
        split
        · rfl
        · exact f1.e (by decide) (by decide)
      have k2 : KF o' L a (e + 1) B B2 := by
        refine (KF_1 f1 (by omega) p7 (Or.inr (Or.inl rfl))).trans ⟨cfS_1 f23 (by omega), fun j hj i hi => ⟨f23.l (fx52 ⟨j, by omega⟩).1 (cont2 (by show 52 + j ≠ 101; omega)), f23.l (fx52 ⟨j, by omega⟩).2 (cont2 (by show 77 + j ≠ 101; omega))⟩, fun k hk => ?_⟩
        rw [g101, if_neg (by omega)]
      by_cases c0 : v = 0
      · rw [if_pos c0]
        rw [if_pos ((kv_0 hv.1 hv.2).mpr c0)] at hgf
        rw [hgf, zbI_s] at gi
        have r1 := RCo_one (N := N) (v := m) hc ha (by omega) (by omega) gi
        rw [show max a m = m by omega] at r1
        obtain ⟨ok2, w, w1, -, -, -, w5, w6, w7⟩ := ck2 (s.1, s.2.1, s.2.2 + 1) hs
        obtain ⟨B4, c4, z1, z2, z3, z4⟩ := ih2 (by omega) (s.1, s.2.1, s.2.2 + 1) L B2 (by omega) hs (by show s.2.1.length + _ ≤ _; omega) (by show s.2.2 + 1 + _ ≤ _; omega) h2 (fun k k1 k2 => by rw [gB, if_neg (by omega)]; exact hgo k (by omega) (by omega))
        dsimp only at w1 w6 w7
        have hw1 : (cf X (m + 1) e (s.1, s.2.1, s.2.2 + 1)).2.1.length = s.2.1.length + w.length := by rw [w1, List.length_append]
        generalize cf X (m + 1) e (s.1, s.2.1, s.2.2 + 1) = S1 at *
        have ge : ri B4 101 e = 1 := by rw [z4.2.2 e (Or.inr (Nat.le_refl _)), gB, if_pos (Or.inr rfl)]
        have gev : z_Co_goOver N o e o' B4 = some ((e : Int), B4) := by
          unfold z_Co_goOver
          rw [cp_kind z3.1 p1 z3.2.2.1 hel, zbP_s, if_neg (by omega), if_neg (by omega), if_neg (by omega), if_neg (by omega), if_pos k12, zrd_ok (by omega) (by omega), ge, if_neg (by decide)]
        have r3 := RCo_one (N := N) (v := e) z3 hel (by omega) (by omega) gev
        rw [Nat.max_self] at r3
        exact fin S1 B4 (1 + c4 + 1) (by omega) ok2 (by omega) (by omega) ((r1.trans z2).trans r3) z3 (k2.trans (z4.mono (by omega) (by omega) (by omega)))
      · rw [if_neg c0]
        rw [if_neg (fun z => c0 ((kv_0 hv.1 hv.2).mp z))] at hgf
        rw [hgf, zbI_s] at gi
        have r1 := RCo_one (N := N) (v := a) hc ha (by omega) (by omega) gi
        rw [Nat.max_self] at r1
        obtain ⟨ok1, w, w1, -, -, -, w5, w6, w7⟩ := ck1 (s.1, s.2.1, s.2.2 + 1) hs
        obtain ⟨B4, c4, z1, z2, z3, z4⟩ := ih1 (by omega) (s.1, s.2.1, s.2.2 + 1) L B2 (by omega) hs (by show s.2.1.length + _ ≤ _; omega) (by show s.2.2 + 1 + _ ≤ _; omega) h2 (fun k k1 k2 => by rw [gB, if_neg (by omega)]; exact hgo k (by omega) (by omega))
        dsimp only at w1 w6 w7
        have hw1 : (cf X (a + 1) m (s.1, s.2.1, s.2.2 + 1)).2.1.length = s.2.1.length + w.length := by rw [w1, List.length_append]
        generalize cf X (a + 1) m (s.1, s.2.1, s.2.2 + 1) = S1 at *
        have gm : ri B4 101 m = 1 := by rw [z4.2.2 m (Or.inr (Nat.le_refl _)), gB, if_pos (Or.inl rfl)]
        have mm4 : z_Pt_mate N o m B4 = some ((e : Nat) : Int) := by rw [cp_mate z3.1 p1 z3.2.2.1 hml, z3.2.2.2.1 m hml (by omega), he]
        have gev : z_Co_goOver N o m o' B4 = some ((e : Int), B4) := by
          unfold z_Co_goOver
          rw [cp_kind z3.1 p1 z3.2.2.1 hml, zbP_s, if_neg (by omega), if_pos k9, zrd_ok (by omega) (by omega), gm, if_neg (by decide), mm4, zbP_s]
        have r3 := RCo_one (N := N) (v := e) z3 hml (by omega) (by omega) gev
        rw [show max m e = e by omega] at r3
        exact fin S1 B4 (1 + c4 + 1) (by omega) ok1 (by omega) (by omega) ((r1.trans z2).trans r3) z3 (k2.trans (z4.mono (by omega) (by omega) (by omega)))
  · intro n a b k10 m1 m2 m3 k11 k12 m4 hpl b1 b2 b3 ih1 ih2 ih3 hb s L B hL hs hsl hsc hc hgo
    rw [cf_wh k10 m1 m2 m3 b1 b2 b3]
    have ck1 := cf_ok hok hg _ _ _ b1 (by omega)
    have ck2 := cf_ok hok hg _ _ _ b2 (by omega)
    generalize hm : mtL X a = m at *
    generalize he : mtL X m = e at *
    have ha : a < X.length := by omega
    have hml : m < X.length := by omega
    have hel : e < X.length := by omega
    have hwh : whC X (cf X) a s = ((cf X (a + 1) m (fgW X a e s.1, s.2.1 ++ [itm X a], s.2.2)).1, (cf X (m + 1) e ((cf X (a + 1) m (fgW X a e s.1, s.2.1 ++ [itm X a], s.2.2)).1, (cf X (a + 1) m (fgW X a e s.1, s.2.1 ++ [itm X a], s.2.2)).2.1 ++ [itm X m], (cf X (a + 1) m (fgW X a e s.1, s.2.1 ++ [itm X a], s.2.2)).2.2)).2.1 ++ [itm X e], (cf X (m + 1) e ((cf X (a + 1) m (fgW X a e s.1, s.2.1 ++ [itm X a], s.2.2)).1, (cf X (a + 1) m (fgW X a e s.1, s.2.1 ++ [itm X a], s.2.2)).2.1 ++ [itm X m], (cf X (a + 1) m (fgW X a e s.1, s.2.1 ++ [itm X a], s.2.2)).2.2)).2.2) := by
      unfold whC
      rw [hm, he]
    rw [hwh]
    -- WHILE
    have ma : z_Pt_mate N o a B = some ((m : Nat) : Int) := by rw [cp_mate hc.1 p1 hc.2.2.1 ha, hc.2.2.2.1 a ha (by omega), hm]
    have mm : z_Pt_mate N o m B = some ((e : Nat) : Int) := by rw [cp_mate hc.1 p1 hc.2.2.1 hml, hc.2.2.2.1 m hml (by omega), he]
    have fg0 : fgW X a (a + 1) s.1 = s.1 := by
      funext r
      unfold fgW
      rw [cif_neg (fun ⟨q, q1, q2, _⟩ => by omega)]
    obtain ⟨B1, x1, x2, x3⟩ := c_fgw (N := N) (a := a) (e := e) (s := s) hN hoo hok hg (by omega) (by omega) (e - (a + 1)) (a + 1) N B (by omega) (by omega) (by omega) (by rw [fg0]; exact hc)
    have x4 : zi B1 49 4 = L := x2.2.2.2.2.2.2.1
    have f2 : cF [49] B1 (zsi B1 49 4 ((L : Int) + 1)) := cF_si x3.own (by decide) (by decide) (by decide)
    have v4 : zi (zsi B1 49 4 ((L : Int) + 1)) 49 4 = ((L + 1 : Nat) : Int) := by rw [zi_si_s, yb_w (by omega) (by omega)]; omega
    have h2 : CoS (zsi B1 49 4 ((L : Int) + 1)) o o' X g (L + 1) (fgW X a e s.1, s.2) := x2.fr hoo f2 (by decide) rfl (fun r hr => by rw [f2.l (by decide) (by decide)]; exact x2.2.2.2.2.2.1 r hr) v4 (by rw [zi_si_j (by decide)]; exact x2.2.2.2.2.2.2.2)
    have hgf : z_Co_goOver N o a o' B = z_Co_goOver_146 N o a o' (zsi B1 49 4 ((L : Int) + 1)) := by
      unfold z_Co_goOver z_Co_forgetWritten z_Pt_endOf z_Co_forgetWritten_11
      rw [cp_kind hc.1 p1 hc.2.2.1 ha, zbP_s, if_neg (by omega), if_neg (by omega), if_pos k10, ma, zbP_s, mm, zbP_s, zbP_s, show zw ((a : Int) + 1) = ((a + 1 : Nat) : Int) by rw [yb_w (by omega) (by omega)]; omega, x1, zbV_s, zlet_s, x4]
    generalize zsi B1 49 4 ((L : Int) + 1) = B2 at *
    obtain ⟨B3, y1, y2, y3⟩ := h2.copy (N := N) (k := a) hoo ha (by show s.2.1.length < 240; omega)
    have y2 : CoS B3 o o' X g (L + 1) (fgW X a e s.1, s.2.1 ++ [itm X a], s.2.2) := y2
    unfold z_Co_goOver_146 at hgf
    rw [y1, zbV_s] at hgf
    have r1 := RCo_one (N := N) (v := a) hc ha (by omega) (by omega) hgf
    rw [Nat.max_self] at r1
    have k3 : KF o' L a (e + 1) B B3 := ((KF_1 x3 (by omega) p7 (Or.inr (Or.inr rfl))).trans (KF_1 f2 (by omega) p7 (Or.inr (Or.inl rfl)))).trans (KF_1 y3 (by omega) p7 (Or.inl rfl))
    have go3 : ∀ k : Nat, ri B3 101 k = ri B 101 k := fun k => by rw [y3.e (by decide) (n' _ (by omega)), f2.e (by decide) (by decide), x3.e (by decide) (by decide)]
    have hl1 : (s.2.1 ++ [itm X a]).length = s.2.1.length + 1 := by rw [List.length_append]; rfl
    obtain ⟨ok1, w, w1, -, -, -, w5, w6, w7⟩ := ck1 (fgW X a e s.1, s.2.1 ++ [itm X a], s.2.2) (fgW_ok hs)
    obtain ⟨B4, c4, z1, z2, z3, z4⟩ := ih1 (by omega) (fgW X a e s.1, s.2.1 ++ [itm X a], s.2.2) (L + 1) B3 (by omega) (fgW_ok hs) (by show (s.2.1 ++ [itm X a]).length + _ ≤ _; omega) (by show s.2.2 + _ ≤ _; omega) y2 (fun k k1 k2 => by rw [go3]; exact hgo k (by omega) (by omega))
    dsimp only at w1 w6 w7
    have hw1 : (cf X (a + 1) m (fgW X a e s.1, s.2.1 ++ [itm X a], s.2.2)).2.1.length = s.2.1.length + 1 + w.length := by rw [w1, List.length_append, hl1]
    generalize hS1 : cf X (a + 1) m (fgW X a e s.1, s.2.1 ++ [itm X a], s.2.2) = S1 at *
    -- DO
    have v44 : zi B4 49 4 = ((L + 1 : Nat) : Int) := z3.2.2.2.2.2.2.1
    obtain ⟨B5, q1, q2, q3⟩ := c_kp (N := N) (w := 51) (l := L) z3.1 v44 (by omega) (Or.inl rfl)
    have h5 : CoS B5 o o' X g (L + 1) S1 := z3.fr hoo q2 (by omega) rfl (fun r hr => by rw [q2.l (by decide) (cont2 (by omega))]; exact z3.2.2.2.2.2.1 r hr) (by rw [q2.i (by decide) (cont2 (by omega))]; exact v44) (by rw [q2.i (by decide) (cont2 (by omega))]; exact z3.2.2.2.2.2.2.2)
    obtain ⟨B7, u1, u2, u3⟩ := h5.copy (N := N) (k := m) hoo hml (by omega)
    have gm : z_Co_goOver N o m o' B4 = some ((m : Int), B7) := by
      unfold z_Co_goOver z_Co_goOver_146
      rw [cp_kind z3.1 p1 z3.2.2.1 hml, zbP_s, if_neg (by omega), if_neg (by omega), if_neg (by omega), if_pos k11, q1, zbV_s, u1, zbV_s]
    have r2 := RCo_one (N := N) (v := m) z3 hml (by omega) (by omega) gm
    rw [Nat.max_self] at r2
    have bef7 : ∀ i, i < 60 → zml B7 (52 + L) i = kv (S1.1 i) := fun i hi => by
      have e1 := q3 i hi
      rw [show 51 + 1 + L = 52 + L by omega] at e1
      rw [u3.l (fx52 ⟨L, by omega⟩).1 (n' _ (by show 52 + L ≠ o'; omega)), e1]
      exact z3.2.2.2.2.2.1 i hi
    have go7 : ∀ k : Nat, ri B7 101 k = ri B4 101 k := fun k => by rw [u3.e (by decide) (n' _ (by omega)), q2.e (by decide) (cont2 (by omega))]
    have k7 : KF o' L a (e + 1) B4 B7 := (KF_2 q2 (by omega) p7 (Or.inl ⟨by omega, by omega⟩)).trans (KF_1 u3 (by omega) p7 (Or.inl rfl))
    have hl2 : (S1.2.1 ++ [itm X m]).length = S1.2.1.length + 1 := by rw [List.length_append]; rfl
    obtain ⟨ok2, v, v1, -, -, -, v5, v6, v7⟩ := ck2 (S1.1, S1.2.1 ++ [itm X m], S1.2.2) ok1
    obtain ⟨B8, c8, i1, i2, i3, i4⟩ := ih2 (by omega) (S1.1, S1.2.1 ++ [itm X m], S1.2.2) (L + 1) B7 (by omega) ok1 (by show (S1.2.1 ++ [itm X m]).length + _ ≤ _; omega) (by show S1.2.2 + _ ≤ _; omega) u2 (fun k k1 k2 => by rw [go7, z4.2.2 k (Or.inr (by omega)), go3]; exact hgo k (by omega) (by omega))
    dsimp only at v1 v6 v7
    have hv1 : (cf X (m + 1) e (S1.1, S1.2.1 ++ [itm X m], S1.2.2)).2.1.length = S1.2.1.length + 1 + v.length := by rw [v1, List.length_append, hl2]
    generalize hS2 : cf X (m + 1) e (S1.1, S1.2.1 ++ [itm X m], S1.2.2) = S2 at *
    -- END
    have ge8 : ri B8 101 e = 0 := by rw [i4.2.2 e (Or.inr (Nat.le_refl _)), go7, z4.2.2 e (Or.inr (by omega)), go3]; exact hgo e (by omega) (by omega)
    have v48 : zi B8 49 4 = ((L + 1 : Nat) : Int) := i3.2.2.2.2.2.2.1
    obtain ⟨B9, t1, t2, t3⟩ := c_rcl (N := N) (l := L) i3.1 v48 (by omega)
    have h9 : CoS B9 o o' X g (L + 1) (S1.1, S2.2) := i3.fr (t := (S1.1, S2.2)) hoo t2 (by decide) rfl (fun r hr => by rw [t3 r hr, (i4.2.1 L (by omega) r hr).1]; exact bef7 r hr) (by rw [t2.i (by decide) (by decide)]; exact v48) (by rw [t2.i (by decide) (by decide)]; exact i3.2.2.2.2.2.2.2)
    have v49 : zi B9 49 4 = ((L + 1 : Nat) : Int) := h9.2.2.2.2.2.2.1
    have f10 : cF [49] B9 (zsi B9 49 4 (((L + 1 : Nat) : Int) - 1)) := cF_si h9.1 (by decide) (by decide) (by decide)
    have h10 : CoS (zsi B9 49 4 (((L + 1 : Nat) : Int) - 1)) o o' X g L (S1.1, S2.2) := h9.fr hoo f10 (by decide) rfl (fun r hr => by rw [f10.l (by decide) (by decide)]; exact h9.2.2.2.2.2.1 r hr) (by rw [zi_si_s, yb_w (by omega) (by omega)]; omega) (by rw [zi_si_j (by decide)]; exact h9.2.2.2.2.2.2.2)
    obtain ⟨B11, j1, j2, j3⟩ := h10.copy (N := N) (k := e) hoo hel (by show S2.2.1.length < 240; omega)
    have hme : z_Pt_mate N o e B8 = some ((a : Nat) : Int) := by
      rw [cp_mate i3.1 p1 i3.2.2.1 hel, i3.2.2.2.1 e hel (by omega), m4]
    have gev : z_Co_goOver N o e o' B8 = some ((e : Int), B11) := by
      unfold z_Co_goOver z_Co_goOver_131 z_Co_close z_Co_goOver_146
      rw [cp_kind i3.1 p1 i3.2.2.1 hel, zbP_s, if_neg (by omega), if_neg (by omega), if_neg (by omega), if_neg (by omega), if_pos k12, zrd_ok (by omega) (by omega), ge8, if_pos rfl, hme, zbP_s, cp_kind i3.1 p1 i3.2.2.1 ha, zbP_s, if_neg (by omega), if_pos rfl, t1, zbV_s, zlet_s, v49, zbV_s, j1, zbV_s]
    have r3 := RCo_one (N := N) (v := e) i3 hel (by omega) (by omega) gev
    rw [Nat.max_self] at r3
    have k11' : KF o' L a (e + 1) B8 B11 := ((KF_1 t2 (by omega) p7 (Or.inr (Or.inr rfl))).trans (KF_1 f10 (by omega) p7 (Or.inr (Or.inl rfl)))).trans (KF_1 j3 (by omega) p7 (Or.inl rfl))
    have kA : KF o' L a (e + 1) B B11 := (((k3.trans (z4.mono (by omega) (by omega) (by omega))).trans k7).trans (i4.mono (by omega) (by omega) (by omega))).trans k11'
    have rA := (((r1.trans z2).trans r2).trans i2).trans r3
    obtain ⟨D, c', d1, d2, d3, d4⟩ := ih3 hb (S1.1, S2.2.1 ++ [itm X e], S2.2.2) L B11 hL ok1 (by
      show (S2.2.1 ++ [itm X e]).length + _ ≤ _
      rw [List.length_append]
      show _ + 1 + _ ≤ _
      omega) (by show S2.2.2 + _ ≤ _; omega) j2 (fun k k1 k2 => by rw [kA.2.2 k (Or.inr k1)]; exact hgo k (by omega) k2)
    exact ⟨D, _, by omega, rA.trans d2, d3, (kA.mono (Nat.le_refl _) (Nat.le_refl _) (by omega)).trans (d4.mono (Nat.le_refl _) (by omega) (Nat.le_refl _))⟩
end
