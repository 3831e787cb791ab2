section
variable {N w z sc dp lv t p a b : Nat} {A B : zA} {D : Nat → T} {s : St} {P : Pg} {sz : Nat → Nat} {ex : Nat → Prop} {nd : Int → Nat}
theorem g_while {R : Bool → Nat → Nat → Nat → St → St} {n m e : Nat} (hN : 300000 ≤ N) (hG : GR N w z P sz ex nd R n) (hB : RB P sz ex nd R n) (hX : RX R) (hM : RM R) (hRN : RN P ex nd R n) (hw : WfP P ex) (hw2 : w < 2) (hz : z < 3) (hp : ex p) (h10 : P.1 p a = 10) (hm : P.2.2.1 p a = m) (he : P.2.2.1 p m = e) (hea : P.2.2.1 p e = a) (h11 : P.1 p m = 11) (h12 : P.1 p e = 12) (h1 : a < m) (h2 : m < e) (h3 : e < b) (hb : b ≤ P.2.2.2.1 p) (b1 : Bl nd (P.1 p) (fun k => P.2.1 p k 1) (P.2.2.1 p) n (a + 1) m) (b2 : Bl nd (P.1 p) (fun k => P.2.1 p k 1) (P.2.2.1 p) n (m + 1) e) (hdp : dp + p ≤ 3) (hl : lv + n ≤ 28 ∧ sc ≤ lv) (h : RW A w sc dp lv t D s) (hP : PrR A z ex P) (hg : BR P sz (Nat.blt 0 sc) p a (b - a) t s) : ∃ (B : zA) (t' : Nat) (D' : Nat → T) (k : Nat), k ≤ kc (n + 1) * (rsz P sz p (a + 1) (m - (a + 1)) + rsz P sz p (m + 1) (e - (m + 1)) + 3) ∧ RU N w z p a p (e + 1) k A B ∧ RW B w sc dp lv t' D' (whS P R (Nat.blt 0 sc) p a s) ∧ FQ w sc dp lv t t' D D' s A B ∧ t' ≤ t + 21 * (rsz P sz p (a + 1) (m - (a + 1)) + rsz P sz p (m + 1) (e - (m + 1)) + 3) := by
  obtain ⟨w1, w2, w3, w4⟩ := hw p hp
  have hzb := rsz_blk (P := P) (sz := sz) (p := p) h1 h2 h3
  obtain ⟨⟨g1, g2, g3, g4, g5, gw, gC, g6⟩, g7⟩ := hg
  have hfc := fcS_all (P := P) (ex := ex) (nd := nd) (w := s.2.2.2.1) (s := s) hRN hp hm he (by omega) h1 h2 b1 b2 w2
  -- the silent rounds
  obtain ⟨A00, X, tX, DX, x1, x2, x3⟩ := r_circling (N := N) hN (show dp ≤ 3 by omega) (show lv < 29 by omega) (show t + 61 < 16000 by omega) g2 (by omega) (by omega) gw (show sc ≤ 29 by omega) h
  obtain ⟨C, k1, s3, r1, r2, r3, r4, r5, r6, r7, r8, r9⟩ := r_rounds (A00 := A00) hN hG hB hX hM hw hw2 hz hp hm he hea h11 h12 h1 h2 (by omega) b1 b2 hdp hl x3 hP h.2.2.2.2.2.2.2.1 (by omega) g2 (by omega) g4 (by omega) gw gC 62 (cS0 60) X tX DX (by have := cnt_le (cS0 60) 61; omega) (fun i hi => by
    unfold cS0
    have e1 : Nat.blt i 60 = false := by cases q : Nat.blt i 60 with
      | false => rfl
      | true => have := Nat.blt_eq.mp q; omega
    have e2 : Nat.beq i 60 = false := by cases q : Nat.beq i 60 with
      | false => rfl
      | true => have := Nat.eq_of_beq_eq_true q; omega
    rw [e1, e2]
    rfl) x2
  rw [hfc] at r7
  unfold whS
  simp only [hm, he]
  generalize hS : fcS P R p a s.2.2.2.1 s 62 (cS0 (P.2.2.2.2 p)) = S at *
  have hzb := hzb
  generalize hz1 : rsz P sz p (a + 1) (m - (a + 1)) = z1 at *
  generalize hz2 : rsz P sz p (m + 1) (e - (m + 1)) = z2 at *
  generalize hz3 : rsz P sz p (e + 1) (b - (e + 1)) = z3 at *
  generalize hz0 : rsz P sz p a (b - a) = z0 at *
  have hKm := kc_pos n
  have hK1 : kc (n + 1) * (z1 + z2 + 3) = 64 * (kc n * z1) + 64 * (kc n * z2) + 64 * (kc n * 3) := by
    show 64 * kc n * (z1 + z2 + 3) = _
    rw [Nat.mul_assoc, Nat.mul_add, Nat.mul_add, Nat.mul_add, Nat.mul_add]
  have h0 := h.2.2.2.2.2.2.1
  have wm1 : zw ((m : Int) + 1) = ((m + 1 : Nat) : Int) := by rw [yb_w (by omega) (by omega)]; omega
  have we1 : zw ((e : Int) + 1) = ((e + 1 : Nat) : Int) := by rw [yb_w (by omega) (by omega)]; omega
  have wlv : zw ((lv : Int) + 1 - 1) = lv := by rw [yb_w (by omega) (by omega)]; omega
  have hs0 : sc = 0 → Nat.blt 0 sc = false := fun q => by rw [q]; rfl
  -- aloud
  have eC : ri C 261 w = ri A 261 w := r9.2
  obtain ⟨B0, t0, D0, a1, a2, a3, a4, a5, a6, a7, a8, a9, a10, a11, a12⟩ := r_aloud (N := N) (S := S) hN (show dp ≤ 3 by omega) (show lv < 29 by omega) hw2 (show t + 61 < 16000 by omega) (show sc ≤ 40 by omega) g2 (by omega) g4 (by omega) r3 r4 r5 r6 r7 r8 (by rw [eC]; exact h.2.2.2.2.2.2.2.1) gC (fun q => by have := g6 (hs0 q); omega)
  rw [eC] at a6 a7 a8 a12
  generalize hsl : Nat.blt 0 sc = sil at *
  have X0 : FQ w sc dp lv t t0 D D0 s A B0 := ⟨a3, a5, r9.1.trans a6, a7, a8⟩
  have P0 := X0.pr hP
  have U0 : RU N w z p a p (a + 1) 1 A X := fun f => by
    rw [ws hP hp (by omega) hz (by omega) w3, if_neg (by omega), if_neg (by omega), if_neg (by omega), if_neg (by omega), if_neg (by omega), if_pos h10, x1, zbV_s]
  have U1 := U0.trans (r2 B0 a1 P0)
  have sy1 := say22 (sil := sil) (w := 6) (x := none) (s := sBeg s.2.2.2.1 S s)
  have o0 : BD 1 sil (sBeg s.2.2.2.1 S s) (sSay sil 6 none (sBeg s.2.2.2.1 S s)) := BD_say
  have oo1 : (sSay sil 6 none (sBeg s.2.2.2.1 S s)).2.1.length ≤ s.2.1.length + 1 := o0.1
  have oo2 : (sSay sil 6 none (sBeg s.2.2.2.1 S s)).2.2.1 = s.2.2.1 := by rw [sy1.1]; rfl
  have oo3 : (sSay sil 6 none (sBeg s.2.2.2.1 S s)).2.2.2.1 = s.2.2.2.1 + 1 := by rw [sy1.1]; rfl
  have oo4 : (sSay sil 6 none (sBeg s.2.2.2.1 S s)).2.2.2.2.1 = s.2.2.2.2.1 := by rw [sy1.1]; rfl
  have oo5 : (sSay sil 6 none (sBeg s.2.2.2.1 S s)).2.2.2.2.2 = s.2.2.2.2.2 := by rw [sy1.1]; rfl
  generalize hs1 : sSay sil 6 none (sBeg s.2.2.2.1 S s) = s1 at *
  have gC1 : CI s1 := fun q hq => by rw [oo5] at hq; have := gC q hq; omega
  -- to DO
  obtain ⟨B1, t1, D1, k2, i1, i2, i3, i4, i5⟩ := hG sc p (a + 1) m dp (lv + 1) t0 D0 s1 B0 hp b1 (by omega) hdp (by omega) a2 P0 (by rw [hsl]; exact ⟨⟨by rw [hz1]; omega, by omega, by rw [hz1]; omega, by omega, by rw [hz1]; omega, by rw [oo2]; exact gw, gC1, fun q => by rw [hz1, oo2]; have := g6 q; omega⟩, by rw [hz1]; omega⟩)
  rw [hz1] at i1 i5
  rw [hsl] at i3
  have X1 := X0.trans i4 (Nat.le_refl _) (by omega) (by rw [oo2]; exact Nat.le_refl _) (by omega) h0
  have P1 := X1.pr hP
  have dd1 := hB sil p (a + 1) m s1 hp b1 (by omega)
  have xx1 := hX sil p (a + 1) m s1
  have mm1 := hM sil p (a + 1) m s1
  rw [hz1] at dd1
  generalize hs2 : R sil p (a + 1) m s1 = s2 at *
  obtain ⟨d1, d2, d3, d4, d5, d6, d7⟩ := dd1
  have gC2 := gC1.mx mm1
  have lvn : ∀ {Y Z : zA} {t5 t6 : Nat} {D5 D6 : Nat → T} {s5 : St}, FQ w sc dp (lv + 1) t5 t6 D5 D6 s5 Y Z → ∀ c, (271 ≤ c ∧ c ≤ 275 ∨ 279 ≤ c ∧ c ≤ 283) → ri Z c lv = ri Y c lv := fun g c hc => g.2.2.1.e (rQ_lv_n (by omega) hc)
  -- DO
  obtain ⟨u1, u2, u3, u4, u5⟩ := w4 m (by omega)
  have nb : nbk (P.1 p m) = 1 := by rw [h11]; decide
  have hrr := (u3 0 (by omega)).2.2 ⟨fun z => by omega, fun z => by omega, fun z => by omega⟩
  obtain ⟨x, hx⟩ : ∃ x : Nat, P.2.1 p m 0 = x := ⟨(P.2.1 p m 0).toNat, by omega⟩
  have hxn : (P.2.1 p m 0).toNat = x := by omega
  rw [hxn]
  obtain ⟨j0, j1, j2, j3⟩ := i3.2.1 x (by omega)
  obtain ⟨Ba, B2, c1, c2, c3, c4, c5⟩ := r_say1 (N := N) (c := -8) (wd := 7) i3 hw2 ⟨by decide, by decide⟩ (by decide) j1 j3 (fun q => by have := g6 (hs0 q); omega)
  rw [hsl] at c4
  have Pa : PrR Ba z ex P := P1.fr c2 (fun a j q => by unfold qS at q; omega)
  have Fm : z_M_field N z p m 1 Ba = some (x : Int) := by rw [← hx]; exact Pa.f hp (by omega) hz (by omega) w3 (show 0 < nbk (P.1 p m) by omega)
  have Gm : z_M_get N x Ba = some (j0 : Int) := by
    rw [M_get (dp := dp) (by rw [c2.i (fun q => by unfold qS at q; omega)]; exact i3.2.2.2.2.1.1) (by omega) (by omega)]
    unfold rpl at j2 ⊢
    rw [c2.i (fun q => by unfold qS at q; omega), c2.e (fun q => by unfold qS at q; omega), c2.e (fun q => by unfold qS at q; omega), j2]
  obtain ⟨B3, l1, l2, l3, l4⟩ := r_lay_276 hN c4 (by omega) (by omega)
  have U2 : RU N w z p m p (m + 1) 1 B1 B3 := fun f => by
    rw [ws P1 hp (by omega) hz (by omega) w3, if_neg (by omega), if_neg (by omega), if_neg (by omega), if_neg (by omega), if_neg (by omega), if_neg (by omega), c1, zbV_s, Fm, zbP_s, Gm, zbP_s, c3, zbV_s, l1, zbV_s]
  have sy2 := say22 (sil := sil) (w := 7) (x := some (s2.1 x)) (s := s2)
  have p0 : BD 1 sil s2 (sSay sil 7 (some (s2.1 x)) s2) := BD_say
  rw [sy2.2] at l3
  generalize hs3 : sSay sil 7 (some (s2.1 x)) s2 = s3' at *
  have pp1 := p0.1
  have z71 : s3'.2.2.1 = s2.2.2.1 := by rw [sy2.1]
  have z72 : s3'.2.2.2.1 = s2.2.2.2.1 := by rw [sy2.1]
  have z73 : s3'.2.2.2.2.1 = s2.2.2.2.2.1 := by rw [sy2.1]
  have z74 : s3'.2.2.2.2.2 = s2.2.2.2.2.2 := by rw [sy2.1]
  have gC3 : CI s3' := fun q hq => by rw [z74] at hq; have := gC2 q hq; omega
  -- a step of the frame
  have FX : ∀ {X Y : zA} {Q : Nat → Nat → Prop} {tt : Nat} {DD : Nat → T}, FQ w sc dp lv t tt D DD s A X → fr Q X Y → (∀ a j, Q a j → rQ w dp lv s.2.2.1.length (ri X 261 w).toNat (fz tt s.2.2.2.1 DD) a j) → ¬ Q 261 w → FQ w sc dp lv t tt D DD s A Y := fun hx hf hq h1 => hx.trans (s1 := s) (FQ.of (Nat.le_refl _) (fun _ _ => rfl) hf hq h1) (Nat.le_refl _) (Nat.le_refl _) (Nat.le_refl _) (Int.le_refl _) h0
  have X3 := FX (FX X1 c5 qS_rQ (fun q => by unfold qS at q; omega)) l4 (qR_rQ (by omega)) (fun q => by unfold qR at q; omega)
  have P3 := X3.pr hP
  have lv3 : ∀ c, (271 ≤ c ∧ c ≤ 275 ∨ 279 ≤ c ∧ c ≤ 283) → ri B3 c lv = ri B0 c lv := fun c hc => by
    rw [l4.e (fun q => by unfold qR at q; omega), c5.e (fun q => by unfold qS at q; omega), lvn i4 c hc]
  have e3 : ∀ c y, 260 < c → c < 267 → ri B3 c y = ri B1 c y := fun c y hc hc' => by
    rw [l4.e (fun q => by unfold qR at q; omega), c5.e (fun q => by unfold qS at q; omega)]
  have hwl2 : s2.2.2.1.length ≤ 150 := by
    cases sil with
    | true => rw [(d7 rfl).2.1, oo2]; exact gw
    | false => have := g6 rfl; rw [oo2] at d2; omega
  -- to END
  obtain ⟨B4, t4, D4, k4, i1', i2', i3', i4', i5'⟩ := hG sc p (m + 1) e dp (lv + 1) t1 D1 s3' B3 hp b2 (by omega) hdp (by omega) l2 P3 (by rw [hsl]; exact ⟨⟨by rw [hz2]; omega, by omega, by rw [hz2]; omega, by omega, by rw [hz2]; omega, by rw [z71]; exact hwl2, gC3, fun q => by rw [hz2, z71]; have := g6 q; rw [oo2] at d2; omega⟩, by rw [hz2]; omega⟩)
  rw [hz2] at i1' i5'
  rw [hsl] at i3'
  have X4 := X3.trans i4' (Nat.le_refl _) (by omega) (by
    obtain ⟨ext, hext⟩ := xx1
    rw [z71, hext, oo2, List.length_append]
    omega) (by omega) h0
  have P4 := X4.pr hP
  have dd2 := hB sil p (m + 1) e s3' hp b2 (by omega)
  have xx2 := hX sil p (m + 1) e s3'
  have mm2 := hM sil p (m + 1) e s3'
  rw [hz2] at dd2
  generalize hs4 : R sil p (m + 1) e s3' = s4 at *
  obtain ⟨y1, y2, y3, y4, y5, y6, y7⟩ := dd2
  -- END
  obtain ⟨B5, n1, n2, n3⟩ := r_say0 (N := N) (c := -9) (wd := 8) i3' hw2 ⟨by decide, by decide⟩ (by decide) (fun q => by have := g6 (hs0 q); omega)
  rw [hsl] at n2
  have X5 := FX X4 n3 qS_rQ (fun q => by unfold qS at q; omega)
  have y8 := say22 (sil := sil) (w := 8) (x := none) (s := s4)
  have hpx : ∃ ext, (sSay sil 8 none s4).2.2.1 = s.2.2.1 ++ ext := by
    rw [y8.1]
    obtain ⟨e1, h1'⟩ := xx1
    obtain ⟨e2, h2'⟩ := xx2
    exact ⟨e1 ++ e2, by rw [h2', z71, h1', oo2, List.append_assoc]⟩
  obtain ⟨ext, hext⟩ := hpx
  have wy := n2.way (l := s.2.2.1) (x := ext) hext (by omega)
  have f6 : fr (fun a j => a = 226 ∧ j = 81) B5 (zsi B5 226 81 s.2.2.1.length) := fr_si ⟨rfl, rfl⟩
  have X6 := FX X5 f6 f81_rQ (fun q => by omega)
  have lv5 : ∀ c, (271 ≤ c ∧ c ≤ 275 ∨ 279 ≤ c ∧ c ≤ 283) → ri B5 c lv = ri B0 c lv := fun c hc => by
    rw [n3.e (fun q => by unfold qS at q; omega), lvn i4' c hc, lv3 c hc]
  have lv6 : ∀ c, (271 ≤ c ∧ c ≤ 275 ∨ 279 ≤ c ∧ c ≤ 283) → ri (zsi B5 226 81 s.2.2.1.length) c lv = ri B0 c lv := fun c hc => by
    rw [ri_si_o (by omega), lv5 c hc]
  have e6 : ∀ c y, 260 < c → c < 267 → ri (zsi B5 226 81 s.2.2.1.length) c y = ri B4 c y := fun c y hc hc' => by
    rw [ri_si_o (by omega), n3.e (fun q => by unfold qS at q; omega)]
  have sv6 : SV (zsi B5 226 81 s.2.2.1.length) 276 lv t4 D4 s2.1 := l3.mono (fun i hi => by
    rw [ri_si_o (by decide), n3.e (fun q => by unfold qS at q; omega), i4'.2.2.1.e (rQ_row_n (by omega) (by omega))]) i4'.1 i4'.2.1
  have fo6 : fr (fun a j => qS w a j ∨ (a = 226 ∧ j = 81)) B4 (zsi B5 226 81 s.2.2.1.length) := (n3.mono (fun a j q => Or.inl q)).trans (f6.mono (fun a j q => Or.inr q))
  generalize hB6 : zsi B5 226 81 s.2.2.1.length = B6 at *
  have hleq : ∃ nc0 : Nat, ri A 261 w = nc0 := ⟨(ri A 261 w).toNat, by omega⟩
  obtain ⟨nc0, hnc⟩ := hleq
  rw [hnc] at a7 a8 a12
  have hb261 := h.2.2.2.2.2.2.2.1
  obtain ⟨B7, v1, v2, v3⟩ := r_leaves (N := N) (S := S) (nc0 := nc0) (f0 := s.1) (f2 := s2.1) (W := s.2.2.2.1) hN (show dp ≤ 3 by omega) (show lv < 30 by omega) hw2 wy sv6 (fun q => by
    obtain ⟨q1, q2, q3, q4⟩ := a12 q
    have g6' := g6 (hs0 q)
    have c61 := cnt_le S 61
    rw [Int.toNat_natCast] at q4
    refine ⟨by omega, fun qq hq => ?_, by rw [lv6 _ (by omega)]; exact q1, by rw [lv6 _ (by omega), q2]; omega, ?_, ?_⟩
    · have hq : qq ∈ (sSay sil 8 none s4).2.2.2.2.2 := hq
      rw [y8.1] at hq
      obtain ⟨h1', xx, hx', hx2⟩ := mm2
      obtain ⟨h3', xx3', hx3, hx4⟩ := mm1
      rw [hx'] at hq
      rcases List.mem_append.mp hq with hq | hq
      · rw [z74, hx3] at hq
        rcases List.mem_append.mp hq with hq | hq
        · rw [oo5] at hq
          have := gC qq hq
          omega
        · have := hx4 qq hq
          omega
      · have := hx2 qq hq
        omega
    · have o1 := q4.fq i4 (by omega) (by omega)
      have o2 : OPN B3 w t1 nc0 D1 s.2.2.2.1 S s.1 61 := (o1.mono c5 (fun a j q => by unfold qS at q; omega)).mono l4 (fun a j q => by unfold qR at q; omega)
      have o3 := o2.fq i4' (by omega) (by rw [e3 261 _ (by omega) (by omega)]; have := i4.2.2.2.1; omega)
      exact o3.mono fo6 (fun a j q => by unfold qS at q; omega)
    · have m1 := i4.2.2.2.1
      have m2 := i4'.2.2.2.1
      rw [e3 261 _ (by omega) (by omega)] at m2
      rw [e6 261 _ (by omega) (by omega)]
      omega)
  rw [hsl] at v2
  have X7 : FQ w sc dp lv t t4 D D4 s A B7 := by
    obtain ⟨f1, f2, f3, f4, f5⟩ := X6
    have e7 : ri B7 261 w = ri B6 261 w := v3.e (fun q => by unfold qP at q; omega)
    refine ⟨f1, f2, f3.trans (v3.mono (fun a j q => ?_)), by omega, fun q => by rw [e7]; exact f5 q⟩
    rcases q with q | q
    · exact rQ_rc ⟨by omega, by omega, by omega, by omega⟩
    · exact qP_rQ a j q
  obtain ⟨t1', t2'⟩ := r_unblock v2 (by omega)
  have X8 := FX X7 t2' f66_rQ (fun q => by omega)
  have h66a : zi B4 226 66 = (lv : Int) + 1 := by have := i3'.2.2.2.2.1.2.1; omega
  have h66b : zi B7 226 66 = (lv : Int) + 1 := by have := v2.2.2.2.2.1.2.1; omega
  have lv4 : ∀ c, (271 ≤ c ∧ c ≤ 275 ∨ 279 ≤ c ∧ c ≤ 283) → ri B4 c lv = ri B0 c lv := fun c hc => by
    rw [lvn i4' c hc, lv3 c hc]
  have U3 : RU N w z p e p (e + 1) 1 B4 (zsi B7 226 66 lv) := fun f => by
    rw [ws P4 hp (by omega) hz (by omega) w3, if_neg (by omega), if_neg (by omega), if_neg (by omega), if_neg (by omega), if_pos h12]
    unfold z_M_ends
    rw [h66a, wlv, zrd_ok (by omega) (by omega), lv4 271 (by omega), a9, if_pos rfl, zrd_ok (by omega) (by omega), lv4 280 (by omega), a11, if_pos rfl]
    unfold z_M_ends_63
    rw [zrd_ok (by omega) (by omega), lv4 271 (by omega), a9, if_neg (by decide), n1, zbV_s, zrd_ok (by omega) (by omega), lv5 273 (by omega), a10, zlet_s, hB6, zrd_ok (by omega) (by omega), lv6 271 (by omega), a9, if_pos rfl, v1, zbV_s]
    unfold z_M_ends_186
    rw [zlet_s, h66b, show ((lv : Int) + 1 - 1) = lv by omega, zbI_s, we1]
  refine ⟨_, t4, D4, (1 + k1) + k2 + 1 + k4 + 1, ?_, (((U1.trans i2).trans U2).trans i2').trans U3, t1', X8, by omega⟩
  omega
end
