/-! WHILE and the whole walk of the class -/
section
variable {N : Nat} {A : zA} {sil : Bool} {lv c ta R0 t : Nat} {D : Nat → T} {s : St} {P : Pg} {sz : Nat → Nat} {ex : Nat → Prop} {nd : Int → Nat}
theorem w_while {rec : Nat → Int → Int → Int → zA → Option zA} {R : Bool → Nat → Nat → Nat → St → St} {n p a m e b : Nat} (hN : 300000 ≤ N) (hG : GOH P sz ex nd R0 rec R n) (hB : RB P sz ex nd R n) (hX : RX R) (hM : RM R) (hR0 : R0 ≤ 35) (hex : ∀ p, ex p → p ≤ 3) (hw : WfP P ex) (hp : ex p) (h10 : P.1 p a = 10) (hm : P.2.2.1 p a = m) (he : P.2.2.1 p m = e) (h11 : P.1 p m = 11) (h1 : a < m) (h2 : m < e) (h3 : e < b) (hb : b ≤ P.2.2.2.1 p) (b1 : Bl nd (P.1 p) (fun k => P.2.1 p k 1) (P.2.2.1 p) n (a + 1) m) (b2 : Bl nd (P.1 p) (fun k => P.2.1 p k 1) (P.2.2.1 p) n (m + 1) e) (hl : lv + n ≤ 22) (hc : okc lv c) (hta : okt ta) (h : CW A sil c ta R0 t D s) (hP : PrC A R0 ex P) (hg : BG P sz sil p a (b - a) t s) : ∃ (B : zA) (t' : Nat) (D' : Nat → T), z_Wk_goOverWhile rec N (R0 + 2 + 3 * p) a lv A = some B ∧ CW B sil c ta R0 t' D' (whS P R sil p a s) ∧ WX lv c ta t t' D D' A B ∧ t' ≤ t + 21 * (rsz P sz p (a + 1) (m - (a + 1)) + rsz P sz p (m + 1) (e - (m + 1)) + 3) := by
  obtain ⟨w1, w2, w3, w4⟩ := hw p hp
  have hz := rsz_blk (P := P) (sz := sz) (p := p) h1 h2 h3
  obtain ⟨g1, g2, g3, g4, g5, gw, gC, g6⟩ := hg
  have hy2 : 121 + 3 * lv = 121 + 3 * lv := rfl
  have r2 : okr lv (121 + 3 * lv) := ⟨by omega, by omega⟩
  have r3 : okr lv (121 + (3 * lv + 1)) := ⟨by omega, by omega⟩
  have r4 : okr lv (121 + (3 * lv + 2)) := ⟨by omega, by omega⟩
  obtain ⟨c1, c2, c3, c4, c5⟩ := hc.fx (show lv ≤ 24 by omega)
  obtain ⟨a1, a2, a3, a4, a5, a6, a7, a8, a9, a10, a11⟩ := hta.fx
  have hcc : okc (lv + 1) c := by rcases hc with q | ⟨l, q1, q2⟩; exact Or.inl q; exact Or.inr ⟨l, by omega, q2⟩
  have wl1 : zw ((lv : Int) + 1) = ((lv + 1 : Nat) : Int) := by rw [yb_w (by omega) (by omega)]; omega
  have wa1 : zw ((a : Int) + 1) = ((a + 1 : Nat) : Int) := by rw [yb_w (by omega) (by omega)]; omega
  have wm1 : zw ((m : Int) + 1) = ((m + 1 : Nat) : Int) := by rw [yb_w (by omega) (by omega)]; omega
  have f8 : ∀ K : Nat → Option zA, zfe 120 ((lv : Int) * 3) K = K (121 + 3 * lv) := fun K => by
    have := zfe_k (R := zA) (r := 3 * lv) (K := K) (by omega)
    rw [show ((3 * lv : Nat) : Int) = (lv : Int) * 3 by omega] at this
    exact this
  have f9 : ∀ K : Nat → Option zA, zfe 120 ((lv : Int) * 3 + 1) K = K (121 + (3 * lv + 1)) := fun K => by
    have := zfe_k (R := zA) (r := 3 * lv + 1) (K := K) (by omega)
    rw [show ((3 * lv + 1 : Nat) : Int) = (lv : Int) * 3 + 1 by omega] at this
    exact this
  have f10 : ∀ K : Nat → Option zA, zfe 120 ((lv : Int) * 3 + 2) K = K (121 + (3 * lv + 2)) := fun K => by
    have := zfe_k (R := zA) (r := 3 * lv + 2) (K := K) (by omega)
    rw [show ((3 * lv + 2 : Nat) : Int) = (lv : Int) * 3 + 2 by omega] at this
    exact this
  unfold z_Wk_goOverWhile whS
  simp only [hm, he]
  have e11 : zi A 110 11 = s.2.2.2.1 := h.2.2.2.2.2.1.2.1
  rw [zlet_s, e11, f8, f9, f10]
  generalize hY2 : 121 + 3 * lv = y2 at *
  generalize hY3 : 121 + (3 * lv + 1) = y3 at *
  generalize hY4 : 121 + (3 * lv + 2) = y4 at *
  obtain ⟨k1, k2, k3, k4⟩ := r2.fx (show lv ≤ 23 by omega)
  obtain ⟨l1, l2, l3, l4⟩ := r3.fx (show lv ≤ 23 by omega)
  obtain ⟨p1, p2, p3, p4⟩ := r4.fx (show lv ≤ 23 by omega)
  -- one WHILE more
  obtain ⟨A1w, A1x⟩ := w_fld (j := 11) (z := s.2.2.2.1 + 1) (s' := (s.1, s.2.1, s.2.2.1, s.2.2.2.1 + 1, s.2.2.2.2)) (sil' := sil) h hc (by omega) hta rfl rfl rfl (h.2.2.2.2.1.mono (zi_si_j (by decide)) (fun i => ri_si_o (by decide)) (Nat.le_refl _) (fun _ _ => rfl)) ⟨by rw [zi_si_j (by decide)]; exact h.2.2.2.2.2.1.1, by rw [zi_si_s, yb_w (by omega) (by omega)], by rw [zi_si_j (by decide)]; exact h.2.2.2.2.2.1.2.2⟩
  generalize zsi A 110 11 (s.2.2.2.1 + 1) = A1 at *
  have X1 : WX lv c ta t t D D A A1 := A1x.up (by omega)
  have P1 := X1.pr hP hR0 hex hc (by omega) hta
  have hma := pc_mate (N := N) A1w.1.1 P1 hp (show a < P.2.2.2.1 p by omega) (by omega)
  rw [hm] at hma
  rw [hma, zbP_s, zgr_s A1w.2.1.1]
  obtain ⟨q1, q2, q3, q4, q5⟩ := w_keep (N := N) A1w hc (by omega) hta r2
  rw [q4, zbV_s]
  generalize fp A1 c y2 61 = A2 at *
  have X2 := X1.trans q3
  have P2 := X2.pr hP hR0 hex hc (by omega) hta
  generalize hz1 : rsz P sz p (a + 1) (m - (a + 1)) = z1 at *
  generalize hz2 : rsz P sz p (m + 1) (e - (m + 1)) = z2 at *
  generalize hz0 : rsz P sz p a (b - a) = z0 at *
  obtain ⟨A3, t3, D3, i1, i2, i3, i4⟩ := w_find (N := N) (A := A2) (s := s) hN hG hB hX hM hR0 hex hw hp h10 hm he h11 h1 h2 h3 hb b1 b2 hl hc hta hY2 hY3 (by rw [hz1, hz2]; omega) g2 (by rw [hz1, hz2]; omega) g4 (by rw [hz1, hz2]; omega) gw gC q1 P2 q2
  rw [i1, zbV_s]
  generalize fcS P R p a s.2.2.2.1 s 62 (cS0 (P.2.2.2.2 p)) = S at *
  obtain ⟨hV, hrow, hCY, P3, h61⟩ := i2
  have X3 := X2.trans i3
  obtain ⟨A4, j1, j2, j3, j4⟩ := w_begin (N := N) hN hV hc (by omega) hta r2 r3 hrow hCY
  rw [j1, zbV_s]
  have eB : ((fun i => if S i then tCir s.2.2.2.1 i else s.1 i), (s.1, s.2.1, s.2.2.1, s.2.2.2.1 + 1, s.2.2.2.2).2) = sBeg s.2.2.2.1 S s := rfl
  rw [eB] at j2
  have hrow4 : CPl A4 y2 t3 D3 s.1 := WX.row (lv' := 24) j3 hrow hc (by omega) hta r2 (by omega)
  have hCY4 : CY A4 y3 t3 D3 s.2.2.2.1 S := fun i hi => by rw [j4.e (by omega)]; exact hCY i hi
  have hway4 : zi A4 110 7 = s.2.2.1.length := j2.2.2.2.2.1.1
  rw [hway4]
  obtain ⟨A5, n1, n2, n3, n4⟩ := w_say (N := N) (w := 6) (x := -1) (u := none) j2 hc (by omega) hta (by omega) (fun q => by have := g6 q; show s.2.1.length < 150; omega) rfl (by decide) (by decide)
  rw [n1, zbV_s, wa1, wl1]
  have X5 := (X3.trans (j3.up (lv := lv) (by omega))).trans (n3.up (lv := lv) (by omega))
  have P5 := X5.pr hP hR0 hex hc (by omega) hta
  have d0 : BD 1 sil (sBeg s.2.2.2.1 S s) (sSay sil 6 none (sBeg s.2.2.2.1 S s)) := BD_say
  have y6 := (say22 (sil := sil) (w := 6) (x := none) (s := sBeg s.2.2.2.1 S s)).1
  have d1 := hB sil p (a + 1) m (sSay sil 6 none (sBeg s.2.2.2.1 S s)) hp b1 (by omega)
  have m1 := hM sil p (a + 1) m (sSay sil 6 none (sBeg s.2.2.2.1 S s))
  have x1 := hX sil p (a + 1) m (sSay sil 6 none (sBeg s.2.2.2.1 S s))
  rw [hz1] at d1
  have gC0 : CI (sSay sil 6 none (sBeg s.2.2.2.1 S s)) := fun q hq => by
    rw [y6] at hq ⊢
    have := gC q hq
    show q.1 < s.2.2.2.1 + 1
    omega
  obtain ⟨o1, o2, o3, o4, o5, o6, o7⟩ := d0
  have oo1 : (sSay sil 6 none (sBeg s.2.2.2.1 S s)).2.1.length ≤ s.2.1.length + 1 := o1
  have oo2 : (sSay sil 6 none (sBeg s.2.2.2.1 S s)).2.2.1 = s.2.2.1 := by rw [y6]; rfl
  have oo3 : (sSay sil 6 none (sBeg s.2.2.2.1 S s)).2.2.2.1 = s.2.2.2.1 + 1 := by rw [y6]; rfl
  have oo4 : (sSay sil 6 none (sBeg s.2.2.2.1 S s)).2.2.2.2 = s.2.2.2.2 := by rw [y6]; rfl
  generalize sSay sil 6 none (sBeg s.2.2.2.1 S s) = s1 at *
  obtain ⟨A6, t6, D6, u1, u2, u3, u4⟩ := hG sil p (a + 1) m (lv + 1) c ta t3 D3 s1 A5 hp b1 (by omega) (by omega) hcc hta n2 P5 ⟨by rw [hz1]; omega, by omega, by rw [hz1]; omega, by rw [oo4]; exact g4, by rw [hz1, oo4]; omega, by rw [oo2]; exact gw, gC0, fun q => by rw [hz1, oo2, oo3]; have := g6 q; omega⟩
  rw [hz1] at u4
  rw [u1, zbV_s]
  have X6 := X5.trans (u3.up (lv := lv) (by omega))
  have P6 := X6.pr hP hR0 hex hc (by omega) hta
  generalize R sil p (a + 1) m s1 = s2 at *
  obtain ⟨v1, v2, v3, v4, v5, v6, v7⟩ := d1
  have hrow6 : CPl A6 y2 t6 D6 s.1 := WX.row (lv' := lv + 1) u3 (WX.row (lv' := 24) n3 hrow4 hc (by omega) hta r2 (by omega)) hc (by omega) hta r2 (by omega)
  have hCY6 : CY A6 y3 t6 D6 s.2.2.2.1 S := fun i hi => by
    have e1 : ri A6 y3 i = ri A4 y3 i := by
      rw [u3.2.2.e l1 (nc_of (fun z => by have := wl_mem.mp z; omega)), n3.2.2.e l1 (nc_of (fun z => by have := wl_mem.mp z; omega))]
    rw [e1]
    exact ⟨fun q => ((hCY4 i hi).1 q).mono u3.1 u3.2.1, (hCY4 i hi).2⟩
  -- AS LONG
  obtain ⟨uu1, uu2, uu3, uu4, uu5⟩ := w4 m (by omega)
  have nb : nbk (P.1 p m) = 1 := by rw [h11]; decide
  have hreg := pc_reg (N := N) (i := 0) u2.1.1 P6 hw hp (show m < P.2.2.2.1 p by omega) (by omega) ⟨fun z => by omega, fun z => by omega, fun z => by omega⟩
  have hrr := (uu3 0 (by omega)).2.2 ⟨fun z => by omega, fun z => by omega, fun z => by omega⟩
  rw [show ((0 : Nat) : Int) = 0 from rfl] at hreg
  rw [zgr_s u2.2.1.1, hreg, zbP_s]
  have q0 : P.2.1 p m 0 = ((P.2.1 p m 0).toNat : Int) := by omega
  generalize (P.2.1 p m 0).toNat = r at *
  obtain ⟨x, xx1, xx2, xx3⟩ := u2.2.2.1 r (by omega)
  rw [q0, zrD_f u2.1.1 c2 (by omega) (by omega), xx2]
  obtain ⟨A7, s1', s2', s3', s4'⟩ := w_say (N := N) (w := 7) (x := x) (u := some (s2.1 r)) u2 hc (by omega) hta (by omega) (fun q => by have := g6 q; omega) ⟨x, xx1, rfl, xx3⟩ (by decide) (by decide)
  rw [s1', zbV_s, zgr_s s2'.2.1.1]
  have e0 : BD 1 sil s2 (sSay sil 7 (some (s2.1 r)) s2) := BD_say
  have y7 := (say22 (sil := sil) (w := 7) (x := some (s2.1 r)) (s := s2))
  obtain ⟨ww1, ww2, ww3, ww4, ww5⟩ := w_keep (N := N) s2' hc (by omega) hta r4
  rw [ww4, zbV_s]
  have X8 := (X6.trans (s3'.up (lv := lv) (by omega))).trans ww3
  have P8 := X8.pr hP hR0 hex hc (by omega) hta
  have hrow8 : CPl (fp A7 c y4 61) y2 t6 D6 s.1 := (WX.row (lv' := 24) s3' hrow6 hc (by omega) hta r2 (by omega)).mono (fun i hi => ww5.e (by omega)) (Nat.le_refl _) (fun _ _ => rfl)
  have hCY8 : CY (fp A7 c y4 61) y3 t6 D6 s.2.2.2.1 S := fun i hi => by
    rw [ww5.e (by omega), s3'.2.2.e l1 (nc_of (fun z => by have := wl_mem.mp z; omega))]
    exact hCY6 i hi
  generalize fp A7 c y4 61 = A8 at *
  have hmm := pc_mate (N := N) ww1.1.1 P8 hp (show m < P.2.2.2.1 p by omega) (by omega)
  rw [he] at hmm
  rw [hmm, zbP_s, wm1]
  have d2 := hB sil p (m + 1) e (sSay sil 7 (some (s2.1 r)) s2) hp b2 (by omega)
  have m2 := hM sil p (m + 1) e (sSay sil 7 (some (s2.1 r)) s2)
  have x2 := hX sil p (m + 1) e (sSay sil 7 (some (s2.1 r)) s2)
  rw [hz2] at d2
  obtain ⟨f1, f2, f3, f4, f5, f6, f7⟩ := e0
  have y71 : (sSay sil 7 (some (s2.1 r)) s2).2.2 = s2.2.2 := y7.1
  have y72 : (sSay sil 7 (some (s2.1 r)) s2).1 = s2.1 := y7.2
  rw [y72] at ww2
  have gw2 : s2.2.2.1.length ≤ 150 := by
    cases sil with
    | true => rw [(v7 rfl).2.1, oo2]; exact gw
    | false => have := g6 rfl; rw [oo2] at v2; omega
  generalize sSay sil 7 (some (s2.1 r)) s2 = s3 at *
  have z71 : s3.2.2.1 = s2.2.2.1 := by rw [y71]
  have z72 : s3.2.2.2.1 = s2.2.2.2.1 := by rw [y71]
  have z73 : s3.2.2.2.2.1 = s2.2.2.2.2.1 := by rw [y71]
  have z74 : s3.2.2.2.2.2 = s2.2.2.2.2.2 := by rw [y71]
  rw [oo3] at v3 v4
  rw [oo4] at v5 v6
  have gC3 : CI s3 := fun q hq => by
    rw [z74] at hq
    rw [z72]
    exact (gC0.mx m1) q hq
  obtain ⟨A9, t9, D9, aa1, aa2, aa3, aa4⟩ := hG sil p (m + 1) e (lv + 1) c ta t6 D6 s3 A8 hp b2 (by omega) (by omega) hcc hta ww1 P8 ⟨by rw [hz2]; omega, by omega, by rw [hz2]; omega, by omega, by rw [hz2]; omega, by rw [z71]; exact gw2, gC3, fun q => by rw [hz2, z71, z72]; have := g6 q; rw [oo2] at v2; omega⟩
  rw [hz2] at aa4
  rw [aa1, zbV_s]
  have X9 := X8.trans (aa3.up (lv := lv) (by omega))
  generalize R sil p (m + 1) e s3 = s4 at *
  obtain ⟨gg1, gg2, gg3, gg4, gg5, gg6, gg7⟩ := d2
  have hrow9 : CPl A9 y2 t9 D9 s.1 := WX.row (lv' := lv + 1) aa3 hrow8 hc (by omega) hta r2 (by omega)
  have hDo9 : CPl A9 y4 t9 D9 s2.1 := WX.row (lv' := lv + 1) aa3 ww2 hc (by omega) hta r4 (by omega)
  have hCY9 : CY A9 y3 t9 D9 s.2.2.2.1 S := fun i hi => by
    rw [aa3.2.2.e l1 (nc_of (fun z => by have := wl_mem.mp z; omega))]
    exact ⟨fun q => ((hCY8 i hi).1 q).mono aa3.1 aa3.2.1, (hCY8 i hi).2⟩
  -- END
  obtain ⟨A10, bb1, bb2, bb3, bb4⟩ := w_say (N := N) (w := 8) (x := -1) (u := none) aa2 hc (by omega) hta (by omega) (fun q => by have := g6 q; omega) rfl (by decide) (by decide)
  rw [bb1, zbV_s, zlet_s]
  have y8 := (say22 (sil := sil) (w := 8) (x := none) (s := s4))
  have hrow10 : CPl A10 y2 t9 D9 s.1 := WX.row (lv' := 24) bb3 hrow9 hc (by omega) hta r2 (by omega)
  have hDo10 : CPl A10 y4 t9 D9 s2.1 := WX.row (lv' := 24) bb3 hDo9 hc (by omega) hta r4 (by omega)
  have hCY10 : CY A10 y3 t9 D9 s.2.2.2.1 S := fun i hi => by
    rw [bb3.2.2.e l1 (nc_of (fun z => by have := wl_mem.mp z; omega))]
    exact hCY9 i hi
  have hpx : ∃ ext, (sSay sil 8 none s4).2.2.1 = s.2.2.1 ++ ext := by
    rw [y8.1]
    obtain ⟨e1, h1'⟩ := x1
    obtain ⟨e2, h2'⟩ := x2
    exact ⟨e1 ++ e2, by rw [h2', z71, h1', oo2, List.append_assoc]⟩
  obtain ⟨ext, hext⟩ := hpx
  obtain ⟨dd1, dd2⟩ := w_way (l := s.2.2.1) (x := ext) bb2 hc (by omega) hta hext (by omega)
  have hrow11 : CPl (zsi A10 110 7 s.2.2.1.length) y2 t9 D9 s.1 := hrow10.mono (fun i hi => ri_si_o (by omega)) (Nat.le_refl _) (fun _ _ => rfl)
  have hDo11 : CPl (zsi A10 110 7 s.2.2.1.length) y4 t9 D9 s2.1 := hDo10.mono (fun i hi => ri_si_o (by omega)) (Nat.le_refl _) (fun _ _ => rfl)
  have hCY11 : CY (zsi A10 110 7 s.2.2.1.length) y3 t9 D9 s.2.2.2.1 S := fun i hi => by rw [ri_si_o (by omega)]; exact hCY10 i hi
  generalize zsi A10 110 7 s.2.2.1.length = A11 at *
  have X11 := (X9.trans (bb3.up (lv := lv) (by omega))).trans (dd2.up (lv := lv) (by omega))
  have hfin : ∀ (B : zA) (cc : List (Int × Nat × T × T)), CW B sil c ta R0 t9 D9 ((sSay sil 8 none s4).1, (sSay sil 8 none s4).2.1, s.2.2.1, (sSay sil 8 none s4).2.2.2.1, (sSay sil 8 none s4).2.2.2.2.1, cc) → CPl B y4 t9 D9 s2.1 → ∃ C, z_Wk_goOverWhile_182 rec N y4 B = some C ∧ CW C sil c ta R0 t9 D9 (s2.1, (sSay sil 8 none s4).2.1, s.2.2.1, (sSay sil 8 none s4).2.2.2.1, (sSay sil 8 none s4).2.2.2.2.1, cc) ∧ WX 24 c ta t9 t9 D9 D9 B C := fun B cc hB' hD' => by
    unfold z_Wk_goOverWhile_182
    obtain ⟨l1', l2', l3', l4'⟩ := w_load (N := N) hB' hc (by omega) hta r4 hD'
    rw [zgr_s hB'.2.1.1, l3', zbV_s]
    exact ⟨_, rfl, l1', l2'⟩
  have hsil : zi A11 110 10 = if sil then 1 else 0 := dd1.2.2.2.2.2.1.1
  rw [hsil]
  have tbound : t9 ≤ t + 21 * (z1 + z2 + 3) := by omega
  cases sil with
  | true =>
    rw [if_neg (by decide)]
    obtain ⟨C, ff1, ff2, ff3⟩ := hfin A11 (sSay true 8 none s4).2.2.2.2.2 dd1 hDo11
    exact ⟨C, t9, D9, ff1, ff2, X11.trans (ff3.up (lv := lv) (by omega)), tbound⟩
  | false =>
    rw [if_pos (by decide)]
    have g6' := g6 rfl
    have hcc4 : ∀ q ∈ (sSay false 8 none s4).2.2.2.2.2, q.1 ≠ s.2.2.2.1 := fun q hq => by
      rw [y8.1] at hq
      obtain ⟨h1', xx, hx', hx2⟩ := m2
      obtain ⟨h3', xx3', hx3, hx4⟩ := m1
      rw [hx'] at hq
      rcases List.mem_append.mp hq with hq | hq
      · rw [z74, hx3] at hq
        rcases List.mem_append.mp hq with hq | hq
        · rw [oo4] at hq
          have := gC q hq
          omega
        · have := hx4 q hq
          rw [oo3] at this
          omega
      · have := hx2 q hq
        omega
    obtain ⟨B, ee1, ee2, ee3, ee4⟩ := w_tell (N := N) (w := s.2.2.2.1) (S := S) (f := s.1) (s := ((sSay false 8 none s4).1, (sSay false 8 none s4).2.1, s.2.2.1, (sSay false 8 none s4).2.2.2.1, (sSay false 8 none s4).2.2.2.2.1, [])) hc (show lv ≤ 23 by omega) hta r2 r3 g2 (by omega) (show t9 < 39000 by omega) (sSay false 8 none s4).2.2.2.2.2 hcc4 61 0 N A11 (by omega) (by omega) (by
      have : tells s.2.2.2.1 S s.1 (sSay false 8 none s4).1 0 = [] := rfl
      dsimp only
      rw [this, List.append_nil]
      exact dd1) hrow11 hCY11
    rw [show ((0 : Nat) : Int) = 0 from rfl] at ee1
    unfold z_Wk_tellCircling z_Wk_tellCircling_3
    rw [ee1, zbV_s]
    obtain ⟨C, ff1, ff2, ff3⟩ := hfin B _ ee2 (fun i hi => by
      have : ri B y4 i = ri A11 y4 i := by unfold ri zi; rw [ee4 _ _ (by omega)]
      rw [this]; exact hDo11 i hi)
    exact ⟨C, t9, D9, ff1, ff2, (X11.trans (ee3.up (lv := lv) (by omega))).trans (ff3.up (lv := lv) (by omega)), tbound⟩
end
