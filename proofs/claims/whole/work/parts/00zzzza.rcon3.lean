/-! CONSTANTS of the reference: blocks -/
def RRo (N p k L : Nat) (B : zA) (k' L' : Nat) (C : zA) (c : Nat) : Prop := ∀ f, z_M_constants_58_l N (f + c) p L k B = z_M_constants_58_l N f p L' k' C
theorem RRo.trans {N p k k' k'' L L' L'' c c' : Nat} {B C D : zA} (h : RRo N p k L B k' L' C c) (g : RRo N p k' L' C k'' L'' D c') : RRo N p k L B k'' L'' D (c + c') := fun f => by
  rw [show f + (c + c') = (f + c') + c by omega, h, g]
section
variable {N : Nat} {X : List It} {g p T p' c0 : Nat} {nd : Int → Nat}
theorem r58_st {B : zA} {k L : Nat} (hp : p < 4) (hx : RP B p X g) (hk : k < X.length) (hl : X.length ≤ 150) (hL : L ≤ 25) : ∀ f, z_M_constants_58_l N (f + 1) p L k B = (if (itm X k).1 < 8 then zbV (z_M_simple N p k B) fun A7 => z_M_constants_58_l N f p L ((k + 1 : Nat) : Int) A7 else (if (itm X k).1 = 8 then zrd B 239 60 (ri B 228 (rad p k 1)) fun v9 => (if v9 = 1 then z_M_constants_141 (z_M_constants_58_l N f) N p L k (ri B 228 (rad p k 1)) ((k + 1 : Nat) : Int) L 1 B else z_M_constants_141 (z_M_constants_58_l N f) N p L k (ri B 228 (rad p k 1)) ((k + 1 : Nat) : Int) L 0 B) else (if (itm X k).1 = 9 then zrd B 245 30 ((L : Int) - 1) fun v12 => (if v12 = 0 then zbV (z_M_keep N p k B) fun A14 => zbV (z_M_saveKnown_243_244 N (zw ((L : Int) - 1)) A14) fun A15 => zbV (z_M_loadKnown_241_242 N (zw ((L : Int) - 1)) A15) fun A16 => z_M_constants_58_l N f p L ((k + 1 : Nat) : Int) A16 else zrd B 231 960 ((240 * (p : Int)) + k) fun v17 => z_M_constants_58_l N f p L v17 B) else (if (itm X k).1 = 10 then zrd B 231 960 ((240 * (p : Int)) + k) fun v19 => zrd B 231 960 ((240 * (p : Int)) + v19) fun v20 => z_M_constants_330 (z_M_constants_58_l N f) N p L k ((k + 1 : Nat) : Int) v20 0 B else (if (itm X k).1 = 11 then zbV (z_M_saveKnown_241_242 N (zw ((L : Int) - 1)) B) fun A22 => zbV (z_M_keep N p k A22) fun A23 => z_M_constants_58_l N f p L ((k + 1 : Nat) : Int) A23 else zrd B 245 30 ((L : Int) + (-1)) fun v24 => (if v24 = 0 then zbV (z_M_keep N p k B) fun A26 => z_M_constants_431 (z_M_constants_58_l N f) N p (zw ((L : Int) + (-1))) k ((k + 1 : Nat) : Int) A26 else z_M_constants_431 (z_M_constants_58_l N f) N p (zw ((L : Int) + (-1))) k ((k + 1 : Nat) : Int) B)))))) := fun f => by
  have w1 : zw ((k : Int) + 1) = ((k + 1 : Nat) : Int) := by rw [yb_w (by omega) (by omega)]; omega
  have hkd := rp_kind (N := N) (z := 0) (p := p) (r := p) (by omega) hp (by omega) hx hk (by omega)
  rw [show ((0 : Nat) : Int) = 0 from rfl] at hkd
  have h1 : z_M_field N 0 p k 1 B = some (ri B 228 (rad p k 1)) := by
    rw [z_M_field_e (by omega) (by omega) (by omega) (by omega) (by decide) (by decide), show (4 : Int) * 0 + p = p by omega]
  show z_M_constants_58_b (z_M_constants_58_l N f) N p L k B = _
  unfold z_M_constants_58_b
  rw [z_M_row_e (by omega) (by omega), zbP_s, zrd_ok (by omega) (by omega), show (4 : Int) * 0 + p = p by omega, hx.1, if_pos (by omega), hkd, zbP_s, h1, zbP_s, w1]
theorem r_con (hN : 300000 ≤ N) (hp : p < 4) (hok : okL T p' g X) (hg : g ≤ 60) (hl : X.length ≤ 150) : ∀ n a b, BlX X nd n a b → b ≤ X.length → ∀ (s : KS) (L : Nat) (B : zA), n + L ≤ 20 → okK s.1 → s.2.1.length + (b - a) ≤ 200 → c0 + s.2.2 + (b - a) ≤ 900000 → RoS B p X g c0 s → ∃ C c, c ≤ b - a ∧ RRo N p a L B b L C c ∧ RoS C p X g c0 (cf X a b s) ∧ fr (qCn p L) B C := by
  refine Bl_rec (P := fun n a b => b ≤ X.length → ∀ (s : KS) (L : Nat) (B : zA), n + L ≤ 20 → okK s.1 → s.2.1.length + (b - a) ≤ 200 → c0 + s.2.2 + (b - a) ≤ 900000 → RoS B p X g c0 s → ∃ C c, c ≤ b - a ∧ RRo N p a L B b L C c ∧ RoS C p X g c0 (cf X a b s) ∧ fr (qCn p L) B C) ?_ ?_ ?_ ?_
  · intro n a _ s L B _ _ _ _ hc
    rw [cf_nil]
    exact ⟨B, 0, Nat.zero_le _, fun f => rfl, hc, fr.refl _ _⟩
  · intro n a b hab hk hBl ih hb s L B hL hs hsl hsc hc
    have ha : a < X.length := by omega
    have h7 : (itm X a).1 ≤ 7 := by rcases hk with h | h <;> omega
    have hoa := hok _ (itm_mem ha)
    rw [cf_pl (n := n) hab h7]
    have ck := CK_pl (X := X) (n := n) (nd := nd) (s := s) hoa hg hs hk
    obtain ⟨C, c1, c2, c3⟩ := r_simple (N := N) (k := a) hN hp hc hoa hg ha hl hs (by omega) h7 (by omega)
    have r1 : RRo N p a L B (a + 1) L C 1 := fun f => by
      rw [r58_st hp hc.1 ha hl (by omega), if_pos (by omega), c1, zbV_s]
    obtain ⟨-, w, w1, -, -, -, w5, w6, w7⟩ := ck
    have hwl : (plS1 (itm X a) s).2.1.length = s.2.1.length + 1 := by show (s.2.1 ++ [_]).length = _; rw [List.length_append]; rfl
    obtain ⟨D, c, d1, d2, d3, d4⟩ := ih hb (plS1 (itm X a) s) L C hL (plK_ok hoa hs) (by omega) (by omega) c2
    refine ⟨D, 1 + c, by omega, r1.trans d2, d3, (c3.mono (fun a j z => ?_)).trans d4⟩
    rcases z with z | z
    · exact Or.inl z
    · exact Or.inr (z.elim Or.inl (fun z => Or.inr (Or.inl z)))
  · intro n a b k8 m1 m2 m3 k9 k12 m4 b1 b2 b3 ih1 ih2 ih3 hb s L B hL hs hsl hsc hc
    rw [cf_if k8 m1 m2 m3 b1 b2 b3]
    have ck1 := cf_ok hok hg _ _ _ b1 (by omega)
    have ck2 := cf_ok hok hg _ _ _ b2 (by omega)
    generalize hm : mtL X a = m at *
    generalize he : mtL X m = e at *
    have ha : a < X.length := by omega
    have hml : m < X.length := by omega
    have hel : e < X.length := by omega
    have hoa := hok _ (itm_mem ha)
    obtain ⟨o1, o2, o3, -⟩ := id hoa
    have hvk := nbk_v o1 o2
    have hr := (o3 0 (by omega)).2.2 ⟨by omega, by omega, by omega⟩
    have hr : 0 ≤ ig (itm X a) 1 ∧ ig (itm X a) 1 < g := hr
    obtain ⟨r, hre⟩ : ∃ r : Nat, ig (itm X a) 1 = r := ⟨(ig (itm X a) 1).toNat, by omega⟩
    have hn1 : ri B 228 (rad p a 1) = (r : Int) := by rw [← hre]; exact (hc.1.2.2 a ha).2 0 (by omega)
    obtain ⟨kr1, kr2⟩ := hc.2.2.2.1 r (by omega)
    have wL1 : zw ((L : Int) + 1) = ((L + 1 : Nat) : Int) := by rw [yb_w (by omega) (by omega)]; omega
    have eL : (((L + 1 : Nat) : Int) - 1) = (L : Int) := by omega
    have eL2 : (((L + 1 : Nat) : Int) + (-1)) = (L : Int) := by omega
    have wLL : zw (L : Int) = (L : Int) := yb_w (by omega) (by omega)
    -- going on behind END
    have fin : ∀ (t : KS) (C : zA) (c : Nat), c ≤ e + 1 - a → okK t.1 → t.2.1.length ≤ s.2.1.length + (e + 1 - a) → t.2.2 ≤ s.2.2 + (e + 1 - a) → RRo N p a L B (e + 1) L C c → RoS C p X g c0 t → fr (qCn p L) B C → ∃ D c', c' ≤ b - a ∧ RRo N p a L B b L D c' ∧ RoS D p X g c0 (cf X (e + 1) b t) ∧ fr (qCn p L) B D := fun t C c hcb ht h1 h2 hr hC hK => by
      obtain ⟨D, c', d1, d2, d3, d4⟩ := ih3 hb t L C hL ht (by omega) (by omega) hC
      exact ⟨D, c + c', by omega, hr.trans d2, d3, hK.trans d4⟩
    cases ek : s.1 r with
    | none =>
      have hif : ifC X (cf X) a s = (kjn (cf X (a + 1) m (s.1, s.2.1 ++ [itm X a], s.2.2)).1 (cf X (m + 1) e (s.1, (cf X (a + 1) m (s.1, s.2.1 ++ [itm X a], s.2.2)).2.1 ++ [itm X m], (cf X (a + 1) m (s.1, s.2.1 ++ [itm X a], s.2.2)).2.2)).1, (cf X (m + 1) e (s.1, (cf X (a + 1) m (s.1, s.2.1 ++ [itm X a], s.2.2)).2.1 ++ [itm X m], (cf X (a + 1) m (s.1, s.2.1 ++ [itm X a], s.2.2)).2.2)).2.1 ++ [itm X e], (cf X (m + 1) e (s.1, (cf X (a + 1) m (s.1, s.2.1 ++ [itm X a], s.2.2)).2.1 ++ [itm X m], (cf X (a + 1) m (s.1, s.2.1 ++ [itm X a], s.2.2)).2.2)).2.2) := by
        unfold ifC
        rw [hre, Int.toNat_natCast, ek, hm, he]
      rw [hif]
      -- IF
      have f1 : fr (fun a j => a = 245 ∧ j = L) B (rs B 245 L 0) := fr_rs ⟨rfl, by omega⟩
      have v1 : ri (rs B 245 L 0) 245 L = 0 := by rw [ri_rs_s]; decide
      have st1 : ∀ f, z_M_constants_58_l N (f + 1) p L a B = zbV (z_M_keep N p a (rs B 245 L 0)) fun A4 => zbV (z_M_saveKnown_241_242 N L A4) fun A5 => z_M_constants_58_l N f p ((L + 1 : Nat) : Int) ((a + 1 : Nat) : Int) A5 := fun f => by
        rw [r58_st hp hc.1 ha hl (by omega), if_neg (by omega), if_pos k8, hn1, zrd_ok (by omega) (by omega), kr2 ek, if_neg (by decide)]
        unfold z_M_constants_141 zwb
        rw [if_pos ⟨by omega, by omega, Or.inl rfl⟩]
        rw [show zsi B 245 ((L : Int)).toNat 0 = rs B 245 L 0 from rfl]
        dsimp only
        rw [zrd_ok (by omega) (by omega), v1, if_pos rfl, wL1]
      have h1 : RoS (rs B 245 L 0) p X g c0 s := hc.fr (by omega) (by omega) f1 (fun a j z => by omega) (hc.2.2.2.1.fr f1 (fun r z => by omega) (fun r z => by omega))
      generalize rs B 245 L 0 = B1 at *
      obtain ⟨B2, x1, x2, x3⟩ := ros_keep (N := N) (k := a) h1 hN hp hl (by omega) ha
      obtain ⟨B3, y1, y2, y3⟩ := r_save1 (N := N) (l := L) hN (by omega) x2.2.2.2.1
      have hl1 : (s.2.1 ++ [itm X a]).length = s.2.1.length + 1 := by rw [List.length_append]; rfl
      have h3 : RoS B3 p X g c0 (s.1, s.2.1 ++ [itm X a], s.2.2) := x2.fr (by omega) (by show (s.2.1 ++ [itm X a]).length ≤ 240; omega) y3 (fun a j z => by omega) (x2.2.2.2.1.fr y3 (fun r z => by omega) (fun r z => by omega))
      have r1 : RRo N p a L B (a + 1) (L + 1) B3 1 := fun f => by rw [st1, x1, zbV_s, y1, zbV_s]
      have fl3 : ri B3 245 L = 0 := by rw [y3.e (fun z => by omega), x3.e (fun z => by unfold qRo at z; omega)]; exact v1
      have F3 : fr (qCn p L) B B3 := ((f1.mono (fun a j z => Or.inr (Or.inr (Or.inr (Or.inr ⟨z.1, by omega⟩))))).trans (x3.mono (fun a j z => Or.inl (Or.inl z)))).trans (y3.mono (fun a j z => Or.inr (Or.inr (Or.inr (Or.inl ⟨by omega, by omega, z.2.1⟩)))))
      -- the former
      obtain ⟨ok1, w, w1, -, -, -, w5, w6, w7⟩ := ck1 (s.1, s.2.1 ++ [itm X a], s.2.2) hs
      obtain ⟨B4, c4, z1, z2, z3, z4⟩ := ih1 (by omega) (s.1, s.2.1 ++ [itm X a], s.2.2) (L + 1) B3 (by omega) hs (by show (s.2.1 ++ [itm X a]).length + _ ≤ _; omega) (by show c0 + s.2.2 + _ ≤ _; omega) h3
      dsimp only at w1 w6 w7
      have hw1 : (cf X (a + 1) m (s.1, s.2.1 ++ [itm X a], s.2.2)).2.1.length = s.2.1.length + 1 + w.length := by rw [w1, List.length_append, hl1]
      generalize hS1 : cf X (a + 1) m (s.1, s.2.1 ++ [itm X a], s.2.2) = S1 at *
      have nq : ∀ (ca r : Nat), 241 ≤ ca → ca ≤ 244 → r < 60 → ¬ qCn p (L + 1) ca (60 * L + r) := fun ca r h1 h2 h3 z => by unfold qCn qIn qRo at z; omega
      have nf : ¬ qCn p (L + 1) 245 L := fun z => by unfold qCn qIn qRo at z; omega
      have sv4 : KsR B4 241 242 L s.1 := y2.fr z4 (fun r hr => nq _ r (by decide) (by decide) hr) (fun r hr => nq _ r (by decide) (by decide) hr)
      have fl4 : ri B4 245 L = 0 := by rw [z4.e (by rw [Int.toNat_natCast]; exact nf)]; exact fl3
      -- ELSE
      obtain ⟨B5, q1, q2, q3⟩ := ros_keep (N := N) (k := m) z3 hN hp hl (by omega) hml
      obtain ⟨B6, t1, t2, t3⟩ := r_save2 (N := N) (l := L) hN (by omega) q2.2.2.2.1
      obtain ⟨B7, u1, u2, u3⟩ := r_load1 (N := N) (l := L) (kn := s.1) hN (by omega) ((sv4.fr q3 (fun r hr z => by unfold qRo at z; omega) (fun r hr z => by unfold qRo at z; omega)).fr t3 (fun r hr z => by omega) (fun r hr z => by omega))
      have hl2 : (S1.2.1 ++ [itm X m]).length = S1.2.1.length + 1 := by rw [List.length_append]; rfl
      have h6 : RoS B6 p X g c0 (S1.1, S1.2.1 ++ [itm X m], S1.2.2) := q2.fr (by omega) (by show (S1.2.1 ++ [itm X m]).length ≤ 240; omega) t3 (fun a j z => by omega) (q2.2.2.2.1.fr t3 (fun r z => by omega) (fun r z => by omega))
      have h7 : RoS B7 p X g c0 (s.1, S1.2.1 ++ [itm X m], S1.2.2) := h6.fr (kn := s.1) (by omega) (by show (S1.2.1 ++ [itm X m]).length ≤ 240; omega) u3 (fun a j z => by omega) u2
      have r2 : RRo N p m (L + 1) B4 (m + 1) (L + 1) B7 1 := fun f => by
        rw [r58_st hp z3.1 hml hl (by omega), if_neg (by omega), if_neg (by omega), if_pos k9, eL, zrd_ok (by omega) (by omega), fl4, if_pos rfl, q1, zbV_s, wLL, t1, zbV_s, u1, zbV_s]
      have bh7 : KsR B7 243 244 L S1.1 := t2.fr u3 (fun r hr z => by omega) (fun r hr z => by omega)
      have fl7 : ri B7 245 L = 0 := by rw [u3.e (fun z => by omega), t3.e (fun z => by omega), q3.e (fun z => by unfold qRo at z; omega)]; exact fl4
      have F7 : fr (qCn p L) B4 B7 := ((q3.mono (fun a j z => Or.inl (Or.inl z))).trans (t3.mono (fun a j z => Or.inr (Or.inr (Or.inr (Or.inl ⟨by omega, by omega, z.2.1⟩)))))).trans (u3.mono (fun a j z => z.1.elim (fun y => Or.inr (Or.inl y)) (fun y => Or.inr (Or.inr (Or.inl y)))))
      -- the latter
      obtain ⟨ok2, v, v1', -, -, -, v5, v6, v7⟩ := ck2 (s.1, S1.2.1 ++ [itm X m], S1.2.2) hs
      obtain ⟨B8, c8, i1, i2, i3, i4⟩ := ih2 (by omega) (s.1, S1.2.1 ++ [itm X m], S1.2.2) (L + 1) B7 (by omega) hs (by show (S1.2.1 ++ [itm X m]).length + _ ≤ _; omega) (by show c0 + S1.2.2 + _ ≤ _; omega) h7
      dsimp only at v1' v6 v7
      have hv1 : (cf X (m + 1) e (s.1, S1.2.1 ++ [itm X m], S1.2.2)).2.1.length = S1.2.1.length + 1 + v.length := by rw [v1', List.length_append, hl2]
      generalize hS2 : cf X (m + 1) e (s.1, S1.2.1 ++ [itm X m], S1.2.2) = S2 at *
      have bh8 : KsR B8 243 244 L S1.1 := bh7.fr i4 (fun r hr => nq _ r (by decide) (by decide) hr) (fun r hr => nq _ r (by decide) (by decide) hr)
      have fl8 : ri B8 245 L = 0 := by rw [i4.e (by rw [Int.toNat_natCast]; exact nf)]; exact fl7
      -- END
      obtain ⟨B9, g1, g2, g3⟩ := ros_keep (N := N) (k := e) i3 hN hp hl (by omega) hel
      have hl3 : (S2.2.1 ++ [itm X e]).length = S2.2.1.length + 1 := by rw [List.length_append]; rfl
      have fl9 : ri B9 245 L = 0 := by rw [g3.e (fun z => by unfold qRo at z; omega)]; exact fl8
      have bh9 : KsR B9 243 244 L S1.1 := bh8.fr g3 (fun r hr z => by unfold qRo at z; omega) (fun r hr z => by unfold qRo at z; omega)
      obtain ⟨B10, j1, j2, j3⟩ := r_both (N := N) (l := L) (kb := S1.1) (s := S2) (by omega) ok2 60 0 N B9 (by omega) (by omega) (by
        have : (fun q => if q < 0 then kjn S1.1 S2.1 q else S2.1 q) = S2.1 := by funext q; rw [if_neg (by omega)]
        rw [this]; exact g2.2.2.2.1) bh9
      have j1 : z_M_both N L B9 = some B10 := j1
      have h10 : RoS B10 p X g c0 (kjn S1.1 S2.1, S2.2.1 ++ [itm X e], S2.2.2) := g2.fr (kn := kjn S1.1 S2.1) (by omega) (by show (S2.2.1 ++ [itm X e]).length ≤ 240; omega) j3 (fun a j z => by omega) j2
      have me9 : ri B9 231 (240 * (p : Int) + e) = (a : Int) := by rw [g2.2.1 e hel (by omega), m4]
      have hka := rp_kind (N := N) (A := B9) (z := 0) (p := p) (r := p) (by omega) hp (by omega) g2.1 ha (by omega)
      rw [show ((0 : Nat) : Int) = 0 from rfl] at hka
      have r3 : RRo N p e (L + 1) B8 (e + 1) L B10 1 := fun f => by
        rw [r58_st hp i3.1 hel hl (by omega), if_neg (by omega), if_neg (by omega), if_neg (by omega), if_neg (by omega), if_neg (by omega), eL2, zrd_ok (by omega) (by omega), fl8, if_pos rfl, g1, zbV_s, wLL]
        unfold z_M_constants_431
        rw [zrd_ok (by omega) (by omega), me9, hka, zbP_s, if_neg (by omega), zrd_ok (by omega) (by omega), fl9, if_pos rfl, j1, zbV_s]
      have F10 : fr (qCn p L) B8 B10 := (g3.mono (fun a j z => Or.inl (Or.inl z))).trans (j3.mono (fun a j z => Or.inr (Or.inl z)))
      refine fin _ B10 (1 + c4 + 1 + c8 + 1) (by omega) (kjn_ok ok2) ?_ ?_ ((((r1.trans z2).trans r2).trans i2).trans r3) h10 ((((F3.trans (z4.mono (fun a j z => qCn_mono (by omega) z))).trans F7).trans (i4.mono (fun a j z => qCn_mono (by omega) z))).trans F10)
      · show (S2.2.1 ++ [itm X e]).length ≤ _
        omega
      · show S2.2.2 ≤ _
        omega
    | some v =>
      have hv := hs _ _ ek
      obtain ⟨kr3, kr4⟩ := kr1 v ek
      have hif : ifC X (cf X) a s = if v = 0 then cf X (m + 1) e (s.1, s.2.1, s.2.2 + 1) else cf X (a + 1) m (s.1, s.2.1, s.2.2 + 1) := by
        unfold ifC
        rw [hre, Int.toNat_natCast, ek, hm, he]
      rw [hif]
      have f1 : fr (fun a j => a = 245 ∧ j = L) B (rs B 245 L 1) := fr_rs ⟨rfl, by omega⟩
      have v1 : ri (rs B 245 L 1) 245 L = 1 := by rw [ri_rs_s]; decide
      have h1 : RoS (rs B 245 L 1) p X g c0 s := hc.fr (by omega) (by omega) f1 (fun a j z => by omega) (hc.2.2.2.1.fr f1 (fun r z => by omega) (fun r z => by omega))
      have ma : ∀ C, RMz C p X → ri C 231 (240 * (p : Int) + a) = (m : Int) := fun C hC => by rw [hC a ha (by omega), hm]
      have kv1 : ri (rs B 245 L 1) 240 r = v := by rw [ri_rs_o (by decide)]; exact kr4
      have st1 : ∀ f, z_M_constants_58_l N (f + 1) p L a B = (zlet (zsi (rs B 245 L 1) 226 33 ((zi (rs B 245 L 1) 226 33) + 1)) fun A6 => zrd A6 240 60 r fun v7 => (if v7 = 0 then zrd A6 231 960 ((240 * (p : Int)) + a) fun v9 => z_M_constants_58_l N f p ((L + 1 : Nat) : Int) (zw (v9 + 1)) A6 else z_M_constants_58_l N f p ((L + 1 : Nat) : Int) (zw ((a : Int) + 1)) A6)) := fun f => by
        rw [r58_st hp hc.1 ha hl (by omega), if_neg (by omega), if_pos k8, hn1, zrd_ok (by omega) (by omega), kr3, if_pos rfl]
        unfold z_M_constants_141 zwb
        rw [if_pos ⟨by omega, by omega, Or.inr rfl⟩]
        rw [show zsi B 245 ((L : Int)).toNat 1 = rs B 245 L 1 from rfl]
        dsimp only
        rw [zrd_ok (by omega) (by omega), v1, if_neg (by decide), wL1]
      generalize rs B 245 L 1 = B1 at *
      have f2 : fr (fun a j => a = 226 ∧ j = 33) B1 (zsi B1 226 33 (zi B1 226 33 + 1)) := fr_si ⟨rfl, rfl⟩
      have h2 : RoS (zsi B1 226 33 (zi B1 226 33 + 1)) p X g c0 (s.1, s.2.1, s.2.2 + 1) := by
        obtain ⟨e1, e2, e3, e4, e5⟩ := h1
        refine ⟨e1.fr (by omega) f2 (fun a j z y => by unfold qRo at y; omega), fun q hq q8 => by rw [f2.e (fun z => by omega)]; exact e2 q hq q8, e3.fr (by omega) f2 (fun a j z y => by unfold qRo at y; omega), e4.fr f2 (fun r z => by omega) (fun r z => by omega), ?_⟩
        rw [zi_si_s, e5, yb_w (by omega) (by omega)]
        show _ = ((c0 + (s.2.2 + 1) : Nat) : Int)
        omega
      have kv2 : ri (zsi B1 226 33 (zi B1 226 33 + 1)) 240 r = v := by rw [f2.e (fun z => by omega)]; exact kv1
      have fl2 : ri (zsi B1 226 33 (zi B1 226 33 + 1)) 245 L = 1 := by rw [f2.e (fun z => by omega)]; exact v1
      have F2 : fr (qCn p L) B (zsi B1 226 33 (zi B1 226 33 + 1)) := (f1.mono (fun a j z => Or.inr (Or.inr (Or.inr (Or.inr ⟨z.1, by omega⟩))))).trans (f2.mono (fun a j z => Or.inl (Or.inr z)))
      have st2 : ∀ f, z_M_constants_58_l N (f + 1) p L a B = (if v = 0 then z_M_constants_58_l N f p ((L + 1 : Nat) : Int) ((m + 1 : Nat) : Int) (zsi B1 226 33 (zi B1 226 33 + 1)) else z_M_constants_58_l N f p ((L + 1 : Nat) : Int) ((a + 1 : Nat) : Int) (zsi B1 226 33 (zi B1 226 33 + 1))) := fun f => by
        rw [st1, zlet_s, zrd_ok (by omega) (by omega), kv2, zrd_ok (by omega) (by omega), ma _ h2.2.1, show zw ((m : Int) + 1) = ((m + 1 : Nat) : Int) by rw [yb_w (by omega) (by omega)]; omega, show zw ((a : Int) + 1) = ((a + 1 : Nat) : Int) by rw [yb_w (by omega) (by omega)]; omega]
      generalize zsi B1 226 33 (zi B1 226 33 + 1) = B2 at *
      have nf : ¬ qCn p (L + 1) 245 L := fun z => by unfold qCn qIn qRo at z; omega
      -- END of what has gone
      have gone : ∀ (C : zA) (t : KS), RoS C p X g c0 t → ri C 245 L = 1 → RRo N p e (L + 1) C (e + 1) L C 1 := fun C t hC hf f => by
        have me : ri C 231 (240 * (p : Int) + e) = (a : Int) := by rw [hC.2.1 e hel (by omega), m4]
        have hka := rp_kind (N := N) (A := C) (z := 0) (p := p) (r := p) (by omega) hp (by omega) hC.1 ha (by omega)
        rw [show ((0 : Nat) : Int) = 0 from rfl] at hka
        rw [r58_st hp hC.1 hel hl (by omega), if_neg (by omega), if_neg (by omega), if_neg (by omega), if_neg (by omega), if_neg (by omega), eL2, zrd_ok (by omega) (by omega), hf, if_neg (by decide), wLL]
        unfold z_M_constants_431
        rw [zrd_ok (by omega) (by omega), me, hka, zbP_s, if_neg (by omega), zrd_ok (by omega) (by omega), hf, if_neg (by decide)]
      by_cases c0' : v = 0
      · rw [if_pos c0']
        have r1 : RRo N p a L B (m + 1) (L + 1) B2 1 := fun f => by rw [st2, if_pos c0']
        obtain ⟨ok2, w, w1, -, -, -, w5, w6, w7⟩ := ck2 (s.1, s.2.1, s.2.2 + 1) hs
        obtain ⟨B4, c4, z1, z2, z3, z4⟩ := ih2 (by omega) (s.1, s.2.1, s.2.2 + 1) (L + 1) B2 (by omega) hs (by show s.2.1.length + _ ≤ _; omega) (by show c0 + (s.2.2 + 1) + _ ≤ _; omega) h2
        dsimp only at w1 w6 w7
        have hw1 : (cf X (m + 1) e (s.1, s.2.1, s.2.2 + 1)).2.1.length = s.2.1.length + w.length := by rw [w1, List.length_append]
        generalize cf X (m + 1) e (s.1, s.2.1, s.2.2 + 1) = S1 at *
        have fl4 : ri B4 245 L = 1 := by rw [z4.e (by rw [Int.toNat_natCast]; exact nf)]; exact fl2
        exact fin S1 B4 (1 + c4 + 1) (by omega) ok2 (by omega) (by omega) ((r1.trans z2).trans (gone B4 S1 z3 fl4)) z3 (F2.trans (z4.mono (fun a j z => qCn_mono (by omega) z)))
      · rw [if_neg c0']
        have r1 : RRo N p a L B (a + 1) (L + 1) B2 1 := fun f => by rw [st2, if_neg c0']
        obtain ⟨ok1, w, w1, -, -, -, w5, w6, w7⟩ := ck1 (s.1, s.2.1, s.2.2 + 1) hs
        obtain ⟨B4, c4, z1, z2, z3, z4⟩ := ih1 (by omega) (s.1, s.2.1, s.2.2 + 1) (L + 1) B2 (by omega) hs (by show s.2.1.length + _ ≤ _; omega) (by show c0 + (s.2.2 + 1) + _ ≤ _; omega) h2
        dsimp only at w1 w6 w7
        have hw1 : (cf X (a + 1) m (s.1, s.2.1, s.2.2 + 1)).2.1.length = s.2.1.length + w.length := by rw [w1, List.length_append]
        generalize cf X (a + 1) m (s.1, s.2.1, s.2.2 + 1) = S1 at *
        have fl4 : ri B4 245 L = 1 := by rw [z4.e (by rw [Int.toNat_natCast]; exact nf)]; exact fl2
        have mm4 : ri B4 231 (240 * (p : Int) + m) = (e : Int) := by rw [z3.2.1 m hml (by omega), he]
        have r2 : RRo N p m (L + 1) B4 e (L + 1) B4 1 := fun f => by
          rw [r58_st hp z3.1 hml hl (by omega), if_neg (by omega), if_neg (by omega), if_pos k9, eL, zrd_ok (by omega) (by omega), fl4, if_neg (by decide), zrd_ok (by omega) (by omega), mm4]
        exact fin S1 B4 (1 + c4 + 1 + 1) (by omega) ok1 (by omega) (by omega) (((r1.trans z2).trans r2).trans (gone B4 S1 z3 fl4)) z3 (F2.trans (z4.mono (fun a j z => qCn_mono (by omega) z)))
  · intro n a b k10 m1 m2 m3 k11 k12 m4 hpl b1 b2 b3 ih1 ih2 ih3 hb s L B hL hs hsl hsc hc
    rw [cf_wh k10 m1 m2 m3 b1 b2 b3]
    have ck1 := cf_ok hok hg _ _ _ b1 (by omega)
    have ck2 := cf_ok hok hg _ _ _ b2 (by omega)
    generalize hm : mtL X a = m at *
    generalize he : mtL X m = e at *
    have ha : a < X.length := by omega
    have hml : m < X.length := by omega
    have hel : e < X.length := by omega
    have wL1 : zw ((L : Int) + 1) = ((L + 1 : Nat) : Int) := by rw [yb_w (by omega) (by omega)]; omega
    have eL : (((L + 1 : Nat) : Int) - 1) = (L : Int) := by omega
    have eL2 : (((L + 1 : Nat) : Int) + (-1)) = (L : Int) := by omega
    have wLL : zw (L : Int) = (L : Int) := yb_w (by omega) (by omega)
    have hwh : whC X (cf X) a s = ((cf X (a + 1) m (fgW X a e s.1, s.2.1 ++ [itm X a], s.2.2)).1, (cf X (m + 1) e ((cf X (a + 1) m (fgW X a e s.1, s.2.1 ++ [itm X a], s.2.2)).1, (cf X (a + 1) m (fgW X a e s.1, s.2.1 ++ [itm X a], s.2.2)).2.1 ++ [itm X m], (cf X (a + 1) m (fgW X a e s.1, s.2.1 ++ [itm X a], s.2.2)).2.2)).2.1 ++ [itm X e], (cf X (m + 1) e ((cf X (a + 1) m (fgW X a e s.1, s.2.1 ++ [itm X a], s.2.2)).1, (cf X (a + 1) m (fgW X a e s.1, s.2.1 ++ [itm X a], s.2.2)).2.1 ++ [itm X m], (cf X (a + 1) m (fgW X a e s.1, s.2.1 ++ [itm X a], s.2.2)).2.2)).2.2) := by
      unfold whC
      rw [hm, he]
    rw [hwh]
    have ma : ri B 231 (240 * (p : Int) + a) = (m : Int) := by rw [hc.2.1 a ha (by omega), hm]
    have mm : ri B 231 (240 * (p : Int) + m) = (e : Int) := by rw [hc.2.1 m hml (by omega), he]
    obtain ⟨B1, x1, x2, x3⟩ := r_fgw (N := N) (a := a) (e := e) (s := s) (L := L) hN hp hok hl (by omega) hel (by omega) (by omega) 60 0 N B (by omega) (by omega) hc.1 (by
      have : (fun q => if q < 0 then fgW X a e s.1 q else s.1 q) = s.1 := by funext q; rw [if_neg (by omega)]
      rw [this]; exact hc.2.2.2.1)
    rw [show ((0 : Nat) : Int) = 0 from rfl] at x1
    have h1 : RoS B1 p X g c0 (fgW X a e s.1, s.2) := hc.fr (kn := fgW X a e s.1) (by omega) (by omega) x3 (fun a j z => by omega) x2
    have f2 : fr (fun a j => a = 245 ∧ j = L) B1 (rs B1 245 L 0) := fr_rs ⟨rfl, by omega⟩
    have v2 : ri (rs B1 245 L 0) 245 L = 0 := by rw [ri_rs_s]; decide
    have st1 : ∀ f, z_M_constants_58_l N (f + 1) p L a B = zbV (z_M_keep N p a (rs B1 245 L 0)) fun A2 => z_M_constants_58_l N f p ((L + 1 : Nat) : Int) ((a + 1 : Nat) : Int) A2 := fun f => by
      rw [r58_st hp hc.1 ha hl (by omega), if_neg (by omega), if_neg (by omega), if_neg (by omega), if_pos k10, zrd_ok (by omega) (by omega), ma, zrd_ok (by omega) (by omega), mm]
      unfold z_M_constants_330
      rw [x1]
      unfold z_M_constants_363
      rw [zwr_ok (by omega) (by omega), wL1]
    have h2 : RoS (rs B1 245 L 0) p X g c0 (fgW X a e s.1, s.2) := h1.fr (by omega) (by show s.2.1.length ≤ 240; omega) f2 (fun a j z => by omega) (h1.2.2.2.1.fr f2 (fun r z => by omega) (fun r z => by omega))
    generalize rs B1 245 L 0 = B2 at *
    obtain ⟨B3, y1, y2, y3⟩ := ros_keep (N := N) (k := a) h2 hN hp hl (by show s.2.1.length < 240; omega) ha
    have y2 : RoS B3 p X g c0 (fgW X a e s.1, s.2.1 ++ [itm X a], s.2.2) := y2
    have r1 : RRo N p a L B (a + 1) (L + 1) B3 1 := fun f => by rw [st1, y1, zbV_s]
    have fl3 : ri B3 245 L = 0 := by rw [y3.e (fun z => by unfold qRo at z; omega)]; exact v2
    have F3 : fr (qCn p L) B B3 := ((x3.mono (fun a j z => Or.inr (Or.inl z))).trans (f2.mono (fun a j z => Or.inr (Or.inr (Or.inr (Or.inr ⟨z.1, by omega⟩)))))).trans (y3.mono (fun a j z => Or.inl (Or.inl z)))
    have hl1 : (s.2.1 ++ [itm X a]).length = s.2.1.length + 1 := by rw [List.length_append]; rfl
    obtain ⟨ok1, w, w1, -, -, -, w5, w6, w7⟩ := ck1 (fgW X a e s.1, s.2.1 ++ [itm X a], s.2.2) (fgW_ok hs)
    obtain ⟨B4, c4, z1, z2, z3, z4⟩ := ih1 (by omega) (fgW X a e s.1, s.2.1 ++ [itm X a], s.2.2) (L + 1) B3 (by omega) (fgW_ok hs) (by show (s.2.1 ++ [itm X a]).length + _ ≤ _; omega) (by show c0 + s.2.2 + _ ≤ _; omega) y2
    dsimp only at w1 w6 w7
    have hw1 : (cf X (a + 1) m (fgW X a e s.1, s.2.1 ++ [itm X a], s.2.2)).2.1.length = s.2.1.length + 1 + w.length := by rw [w1, List.length_append, hl1]
    generalize hS1 : cf X (a + 1) m (fgW X a e s.1, s.2.1 ++ [itm X a], s.2.2) = S1 at *
    have nq : ∀ (ca r : Nat), 241 ≤ ca → ca ≤ 244 → r < 60 → ¬ qCn p (L + 1) ca (60 * L + r) := fun ca r h1 h2 h3 z => by unfold qCn qIn qRo at z; omega
    have nf : ¬ qCn p (L + 1) 245 L := fun z => by unfold qCn qIn qRo at z; omega
    have fl4 : ri B4 245 L = 0 := by rw [z4.e (by rw [Int.toNat_natCast]; exact nf)]; exact fl3
    -- DO
    obtain ⟨B5, t1, t2, t3⟩ := r_save1 (N := N) (l := L) hN (by omega) z3.2.2.2.1
    have h5 : RoS B5 p X g c0 S1 := z3.fr (kn := S1.1) (by omega) (by omega) t3 (fun a j z => by omega) (z3.2.2.2.1.fr t3 (fun r z => by omega) (fun r z => by omega))
    obtain ⟨B7, u1, u2, u3⟩ := ros_keep (N := N) (k := m) h5 hN hp hl (by omega) hml
    have r2 : RRo N p m (L + 1) B4 (m + 1) (L + 1) B7 1 := fun f => by
      rw [r58_st hp z3.1 hml hl (by omega), if_neg (by omega), if_neg (by omega), if_neg (by omega), if_neg (by omega), if_pos k11, eL, wLL, t1, zbV_s, u1, zbV_s]
    have bf7 : KsR B7 241 242 L S1.1 := t2.fr u3 (fun r hr z => by unfold qRo at z; omega) (fun r hr z => by unfold qRo at z; omega)
    have fl7 : ri B7 245 L = 0 := by rw [u3.e (fun z => by unfold qRo at z; omega), t3.e (fun z => by omega)]; exact fl4
    have F7 : fr (qCn p L) B4 B7 := (t3.mono (fun a j z => Or.inr (Or.inr (Or.inr (Or.inl ⟨by omega, by omega, z.2.1⟩))))).trans (u3.mono (fun a j z => Or.inl (Or.inl z)))
    have hl2 : (S1.2.1 ++ [itm X m]).length = S1.2.1.length + 1 := by rw [List.length_append]; rfl
    obtain ⟨ok2, v, v1', -, -, -, v5, v6, v7⟩ := ck2 (S1.1, S1.2.1 ++ [itm X m], S1.2.2) ok1
    obtain ⟨B8, c8, i1, i2, i3, i4⟩ := ih2 (by omega) (S1.1, S1.2.1 ++ [itm X m], S1.2.2) (L + 1) B7 (by omega) ok1 (by show (S1.2.1 ++ [itm X m]).length + _ ≤ _; omega) (by show c0 + S1.2.2 + _ ≤ _; omega) u2
    dsimp only at v1' v6 v7
    have hv1 : (cf X (m + 1) e (S1.1, S1.2.1 ++ [itm X m], S1.2.2)).2.1.length = S1.2.1.length + 1 + v.length := by rw [v1', List.length_append, hl2]
    generalize hS2 : cf X (m + 1) e (S1.1, S1.2.1 ++ [itm X m], S1.2.2) = S2 at *
    have bf8 : KsR B8 241 242 L S1.1 := bf7.fr i4 (fun r hr => nq _ r (by decide) (by decide) hr) (fun r hr => nq _ r (by decide) (by decide) hr)
    have fl8 : ri B8 245 L = 0 := by rw [i4.e (by rw [Int.toNat_natCast]; exact nf)]; exact fl7
    -- END
    obtain ⟨B9, g1, g2, g3⟩ := ros_keep (N := N) (k := e) i3 hN hp hl (by omega) hel
    have hl3 : (S2.2.1 ++ [itm X e]).length = S2.2.1.length + 1 := by rw [List.length_append]; rfl
    obtain ⟨B10, j1, j2, j3⟩ := r_load1 (N := N) (l := L) (kn := S1.1) hN (by omega) (bf8.fr g3 (fun r hr z => by unfold qRo at z; omega) (fun r hr z => by unfold qRo at z; omega))
    have h10 : RoS B10 p X g c0 (S1.1, S2.2.1 ++ [itm X e], S2.2.2) := g2.fr (kn := S1.1) (by omega) (by show (S2.2.1 ++ [itm X e]).length ≤ 240; omega) j3 (fun a j z => by omega) j2
    have me9 : ri B9 231 (240 * (p : Int) + e) = (a : Int) := by rw [g2.2.1 e hel (by omega), m4]
    have hka := rp_kind (N := N) (A := B9) (z := 0) (p := p) (r := p) (by omega) hp (by omega) g2.1 ha (by omega)
    rw [show ((0 : Nat) : Int) = 0 from rfl] at hka
    have r3 : RRo N p e (L + 1) B8 (e + 1) L B10 1 := fun f => by
      rw [r58_st hp i3.1 hel hl (by omega), if_neg (by omega), if_neg (by omega), if_neg (by omega), if_neg (by omega), if_neg (by omega), eL2, zrd_ok (by omega) (by omega), fl8, if_pos rfl, g1, zbV_s, wLL]
      unfold z_M_constants_431
      rw [zrd_ok (by omega) (by omega), me9, hka, zbP_s, if_pos k10, j1, zbV_s]
    have F10 : fr (qCn p L) B8 B10 := (g3.mono (fun a j z => Or.inl (Or.inl z))).trans (j3.mono (fun a j z => z.1.elim (fun y => Or.inr (Or.inl y)) (fun y => Or.inr (Or.inr (Or.inl y)))))
    have kA : fr (qCn p L) B B10 := (((F3.trans (z4.mono (fun a j z => qCn_mono (by omega) z))).trans F7).trans (i4.mono (fun a j z => qCn_mono (by omega) z))).trans F10
    have rA := (((r1.trans z2).trans r2).trans i2).trans r3
    obtain ⟨D, c', d1, d2, d3, d4⟩ := ih3 hb (S1.1, S2.2.1 ++ [itm X e], S2.2.2) L B10 hL ok1 (by
      show (S2.2.1 ++ [itm X e]).length + _ ≤ _
      omega) (by show c0 + S2.2.2 + _ ≤ _; omega) h10
    exact ⟨D, _, by omega, rA.trans d2, d3, kA.trans d4⟩
end
