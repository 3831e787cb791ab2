/-! IF -/
def BG (P : Pg) (sz : Nat → Nat) (sil : Bool) (p a l t : Nat) (s : St) : Prop := t + 21 * rsz P sz p a l ≤ 30000 ∧ 0 ≤ s.2.2.2.1 ∧ s.2.2.2.1 + rsz P sz p a l ≤ 10000 ∧ 0 ≤ s.2.2.2.2.1 ∧ s.2.2.2.2.1 + rsz P sz p a l ≤ 10000 ∧ s.2.2.1.length ≤ 150 ∧ CI s ∧ (sil = false → s.2.1.length + rsz P sz p a l ≤ 150 ∧ s.2.2.1.length + rsz P sz p a l ≤ 150 ∧ 3 * s.2.2.2.1 + rsz P sz p a l ≤ 150)
def GOH (P : Pg) (sz : Nat → Nat) (ex : Nat → Prop) (nd : Int → Nat) (R0 : Nat) (rec : Nat → Int → Int → Int → zA → Option zA) (R : Bool → Nat → Nat → Nat → St → St) (n : Nat) : Prop := ∀ (sil : Bool) (p a b lv c ta t : Nat) (D : Nat → T) (s : St) (A : zA), ex p → Bl nd (P.1 p) (fun k => P.2.1 p k 1) (P.2.2.1 p) n a b → b ≤ P.2.2.2.1 p → lv + n ≤ 23 → okc lv c → okt ta → CW A sil c ta R0 t D s → PrC A R0 ex P → BG P sz sil p a (b - a) t s → ∃ (B : zA) (t' : Nat) (D' : Nat → T), rec (R0 + 2 + 3 * p) a b lv A = some B ∧ CW B sil c ta R0 t' D' (R sil p a b s) ∧ WX lv c ta t t' D D' A B ∧ t' ≤ t + 21 * rsz P sz p a (b - a)
section
variable {N : Nat} {A : zA} {sil : Bool} {lv c ta R0 t : Nat} {D : Nat → T} {s : St} {P : Pg} {sz : Nat → Nat} {ex : Nat → Prop} {nd : Int → Nat}
theorem WX.pr {lv c ta t t' : Nat} {D D' : Nat → T} {A B : zA} (h : WX lv c ta t t' D D' A B) (hP : PrC A R0 ex P) (hR : R0 ≤ 35) (hex : ∀ p, ex p → p ≤ 3) (hc : okc lv c) (hl : lv ≤ 24) (hta : okt ta) : PrC B R0 ex P := by
  obtain ⟨c1, c2, c3, c4, c5⟩ := hc.fx hl
  obtain ⟨a1, a2, a3, a4, a5, a6, a7, a8, a9, a10, a11⟩ := hta.fx
  exact hP.fr h.2.2 (fun p hp => nc_of (fun q => by have := wl_mem.mp q; have := hex p hp; omega))
/-- a kept row of this level stays over what goes on inside -/
theorem WX.row {lv c ta t t' : Nat} {D D' : Nat → T} {A B : zA} {y lv' : Nat} {f : Nat → T} (h : WX lv' c ta t t' D D' A B) (hf : CPl A y t D f) (hc : okc lv c) (hl : lv ≤ 23) (hta : okt ta) (hy : okr lv y) (hlv : lv < lv') : CPl B y t' D' f := by
  obtain ⟨c1, c2, c3, c4, c5⟩ := hc.fx (by omega)
  obtain ⟨y1, y2, y3, y4⟩ := hy.fx hl
  obtain ⟨a1, a2, a3, a4, a5, a6, a7, a8, a9, a10, a11⟩ := hta.fx
  have hy1 := hy.1
  have hy2 := hy.2
  exact hf.mono (fun i hi => h.2.2.e y1 (nc_of (fun q => by have := wl_mem.mp q; omega))) h.1 h.2.1
theorem w_join {rec : Nat → Int → Int → Int → zA → Option zA} {y j0 : Nat} {f g : Nat → T} {ch : T} (hN : 300000 ≤ N) (hc : okc lv c) (hl : lv ≤ 23) (hta : okt ta) (hy : okr lv y) : ∀ (r n fu t : Nat) (D : Nat → T) (A : zA), n + r = 61 → r < fu → t + r ≤ 38000 → j0 < t → D j0 = ch → CW A sil c ta R0 t D ((fun i => if i < n then sJoin ch f g i else g i), s.2) → CPl A y t D f → ∃ (B : zA) (t' : Nat) (D' : Nat → T), z_Wk_goOverIf_212_l rec N fu j0 y n A = some B ∧ CW B sil c ta R0 t' D' (sJoin ch f g, s.2) ∧ WX 24 c ta t t' D D' A B ∧ t' ≤ t + r := by
  obtain ⟨c1, c2, c3, c4, c5⟩ := hc.fx (by omega)
  obtain ⟨y1, y2, y3, y4⟩ := hy.fx hl
  intro r
  induction r with
  | zero =>
    intro n fu t D A h1 h2 h3 h4 h5 h6 h7
    obtain ⟨g', rfl⟩ : ∃ g', fu = g' + 1 := ⟨fu - 1, by omega⟩
    refine ⟨A, t, D, ?_, ?_, WX.refl h6.1.1, by omega⟩
    · show z_Wk_goOverIf_212_b rec (z_Wk_goOverIf_212_l rec N g') N j0 y n A = _
      unfold z_Wk_goOverIf_212_b
      rw [if_neg (by omega)]
    · obtain ⟨q1, q2, q3, q4⟩ := h6
      refine ⟨q1, q2, fun i hi => ?_, q4⟩
      have := q3 i hi
      dsimp only at this
      rw [if_pos (by omega)] at this
      exact this
  | succ r ih =>
    intro n fu t D A h1 h2 h3 h4 h5 h6 h7
    obtain ⟨g', rfl⟩ : ∃ g', fu = g' + 1 := ⟨fu - 1, by omega⟩
    have hO := h6.1.1
    have w1 : zw ((n : Int) + 1) = ((n + 1 : Nat) : Int) := by rw [yb_w (by omega) (by omega)]; omega
    obtain ⟨a, a1, a2, a3⟩ := h7 n (by omega)
    obtain ⟨b, b1, b2, b3⟩ := h6.2.2.1 n (by omega)
    dsimp only at b3
    rw [if_neg (by omega)] at b3
    have key : z_Wk_goOverIf_212_l rec N (g' + 1) j0 y n A = if (a : Int) = b then z_Wk_goOverIf_212_l rec N g' j0 y ((n + 1 : Nat) : Int) A else (zbI (z_Th_make N 111 6 j0 a b A) fun v10 A11 => zwD A11 c n v10 fun A12 => z_Wk_goOverIf_212_l rec N g' j0 y ((n + 1 : Nat) : Int) A12) := by
      show z_Wk_goOverIf_212_b rec (z_Wk_goOverIf_212_l rec N g') N j0 y n A = _
      unfold z_Wk_goOverIf_212_b
      rw [if_pos (by omega), zrD_f hO y2 (by omega) (by omega), zgr_s h6.2.1.1, zrD_f hO c2 (by omega) (by omega)]
      simp only [zgr_s h6.2.1.1]
      rw [zrD_f hO y2 (by omega) (by omega), zrD_f hO c2 (by omega) (by omega), a2, b2, w1]
    rw [key]
    have hinj := h6.1.2.2.1.inj
    by_cases q : a = b
    · rw [if_pos (by omega)]
      obtain ⟨B, t', D', k1, k2, k3, k4⟩ := ih (n + 1) g' t D A (by omega) (by omega) (by omega) h4 h5 (by
        obtain ⟨q1, q2, q3, q4⟩ := h6
        refine ⟨q1, q2, fun i hi => ?_, q4⟩
        have := q3 i hi
        dsimp only at this ⊢
        by_cases z : i = n
        · subst z
          rw [if_pos (by omega)]
          unfold sJoin
          rw [cif_pos (by rw [← a3, ← b3, q])]
          rw [if_neg (by omega)] at this
          exact this
        · by_cases z2 : i < n
          · rw [if_pos (by omega)]
            rw [if_pos z2] at this
            exact this
          · rw [if_neg (by omega)]
            rw [if_neg z2] at this
            exact this) h7
      exact ⟨B, t', D', k1, k2, k3, by omega⟩
    · rw [if_neg (by omega)]
      obtain ⟨j, t1, B, D1, e1, e2, e3, e4, e5, e6, e7⟩ := w_make (k := 6) (x := j0) (y := a) (z := b) hN h6 hc (by omega) hta (by omega) (Or.inr (Or.inr (Or.inr (Or.inr (Or.inr (Or.inr (Or.inl ⟨rfl, by dsimp only; omega, by dsimp only; omega, by dsimp only; omega, by dsimp only; omega, by dsimp only; omega, by dsimp only; omega⟩))))))) (by decide) (yb_w (by omega) (by omega)) (yb_w (by omega) (by omega)) (yb_w (by omega) (by omega))
      rw [e1, zbI_s, w_wr e2 hc (by omega) (by omega)]
      obtain ⟨s1, s2⟩ := w_set (r := n) (j := j) e2 hc (by omega) hta (by omega) e3 (by omega)
      have e4 : D1 j = tCho ch (f n) (g n) := by
        rw [e4, ← h5, ← a3, ← b3]
        rfl
      have hrow := WX.row (lv' := 24) (e6.trans s2) h7 hc hl hta hy (by omega)
      obtain ⟨C, t', D', k1, k2, k3, k4⟩ := ih (n + 1) g' t1 D1 (rs B c n j) (by omega) (by omega) (by omega) (by have := e6.1; omega) (by rw [e6.2.1 j0 h4]; exact h5) (by
        obtain ⟨q1, q2, q3, q4⟩ := s1
        refine ⟨q1, q2, fun i hi => ?_, q4⟩
        have := q3 i hi
        dsimp only [sSet] at this ⊢
        by_cases z : i = n
        · subst z
          rw [if_pos rfl, e4] at this
          rw [if_pos (by omega)]
          unfold sJoin
          rw [cif_neg (fun w => q (hinj a b a1 b1 (by rw [a3, b3, w])))]
          exact this
        · rw [if_neg z] at this
          by_cases z2 : i < n
          · rw [if_pos (by omega)]
            rw [if_pos z2] at this
            exact this
          · rw [if_neg (by omega)]
            rw [if_neg z2] at this
            exact this) hrow
      exact ⟨C, t', D', k1, k2, (e6.trans s2).trans k3, by omega⟩
theorem w_if {rec : Nat → Int → Int → Int → zA → Option zA} {R : Bool → Nat → Nat → Nat → St → St} {n p a m e b : Nat} (hN : 300000 ≤ N) (hG : GOH P sz ex nd R0 rec R n) (hB : RB P sz ex nd R n) (hX : RX R) (hM : RM R) (hR0 : R0 ≤ 35) (hex : ∀ p, ex p → p ≤ 3) (hw : WfP P ex) (hp : ex p) (h8 : P.1 p a = 8) (hm : P.2.2.1 p a = m) (he : P.2.2.1 p m = e) (h9 : P.1 p m = 9) (h1 : a < m) (h2 : m < e) (h3 : e < b) (hb : b ≤ P.2.2.2.1 p) (b1 : Bl nd (P.1 p) (fun k => P.2.1 p k 1) (P.2.2.1 p) n (a + 1) m) (b2 : Bl nd (P.1 p) (fun k => P.2.1 p k 1) (P.2.2.1 p) n (m + 1) e) (hl : lv + n ≤ 22) (hc : okc lv c) (hta : okt ta) (h : CW A sil c ta R0 t D s) (hP : PrC A R0 ex P) (hg : BG P sz sil p a (b - a) t s) : ∃ (B : zA) (t' : Nat) (D' : Nat → T), z_Wk_goOverIf rec N (R0 + 2 + 3 * p) a lv A = some B ∧ CW B sil c ta R0 t' D' (ifS P R sil p a s) ∧ WX lv c ta t t' D D' A B ∧ t' ≤ t + 21 * (rsz P sz p (a + 1) (m - (a + 1)) + rsz P sz p (m + 1) (e - (m + 1)) + 3) := by
  obtain ⟨w1, w2, w3, w4⟩ := hw p hp
  obtain ⟨u1, u2, u3, u4, u5⟩ := w4 a (by omega)
  have hz := rsz_blk (P := P) (sz := sz) (p := p) h1 h2 h3
  generalize hz1 : rsz P sz p (a + 1) (m - (a + 1)) = z1 at *
  generalize hz2 : rsz P sz p (m + 1) (e - (m + 1)) = z2 at *
  generalize hz3 : rsz P sz p (e + 1) (b - (e + 1)) = z3 at *
  obtain ⟨g1, g2, g3, g4, g5, gw, gC, g6⟩ := hg
  generalize hz0 : rsz P sz p a (b - a) = z0 at *
  have hO := h.1.1
  have nb : nbk (P.1 p a) = 1 := by rw [h8]; decide
  have hreg := pc_reg (N := N) (i := 0) hO hP hw hp (show a < P.2.2.2.1 p by omega) (by omega) ⟨fun z => by omega, fun z => by omega, fun z => by omega⟩
  have hrr := (u3 0 (by omega)).2.2 ⟨fun z => by omega, fun z => by omega, fun z => by omega⟩
  rw [show ((0 : Nat) : Int) = 0 from rfl] at hreg
  have hma := pc_mate (N := N) hO hP hp (show a < P.2.2.2.1 p by omega) (by omega)
  have hmm := pc_mate (N := N) hO hP hp (show m < P.2.2.2.1 p by omega) (by omega)
  rw [hm] at hma
  rw [he] at hmm
  have hcc : okc (lv + 1) c := by rcases hc with q | ⟨l, q1, q2⟩; exact Or.inl q; exact Or.inr ⟨l, by omega, q2⟩
  have wl1 : zw ((lv : Int) + 1) = ((lv + 1 : Nat) : Int) := by rw [yb_w (by omega) (by omega)]; omega
  have wa1 : zw ((a : Int) + 1) = ((a + 1 : Nat) : Int) := by rw [yb_w (by omega) (by omega)]; omega
  have wm1 : zw ((m : Int) + 1) = ((m + 1 : Nat) : Int) := by rw [yb_w (by omega) (by omega)]; omega
  unfold z_Wk_goOverIf
  obtain ⟨c1, c2, c3, c4, c5⟩ := hc.fx (show lv ≤ 24 by omega)
  obtain ⟨j0, j1, j2, j3⟩ := h.2.2.1 (P.2.1 p a 0).toNat (by omega)
  have j2' : ri A c (P.2.1 p a 0) = j0 := by rw [show P.2.1 p a 0 = ((P.2.1 p a 0).toNat : Int) by omega]; exact j2
  rw [zgr_s h.2.1.1, hreg, zbP_s, zrD_f hO c2 (by omega) (by omega), j2', hma, zbP_s, hmm, zbP_s, w_isn h j1, zbP_s]
  unfold ifS
  simp only [hm, he]
  rw [← j3]
  by_cases ck : tkd (D j0) = 0
  · rw [if_pos ck, if_neg (by decide), if_pos ck, w_val h j1 ck, zbP_s]
    unfold z_Wk_goOverIf_57 z_Wk_goOverIf_88
    by_cases cv : tvl (D j0) = 0
    · rw [if_pos cv, if_pos rfl, if_pos rfl, if_neg (fun q => q cv), wl1, wm1]
      obtain ⟨B, t', D', k1, k2, k3, k4⟩ := hG sil p (m + 1) e (lv + 1) c ta t D s A hp b2 (by omega) (by omega) hcc hta h hP ⟨by rw [hz2]; omega, g2, by rw [hz2]; omega, g4, by rw [hz2]; omega, gw, gC, fun q => by rw [hz2]; have := g6 q; omega⟩
      rw [hz2] at k4
      exact ⟨B, t', D', by rw [k1, zbV_s], k2, k3.up (by omega), by omega⟩
    · rw [if_neg cv, if_neg (by decide), if_neg (by decide), if_pos cv, wl1, wa1]
      obtain ⟨B, t', D', k1, k2, k3, k4⟩ := hG sil p (a + 1) m (lv + 1) c ta t D s A hp b1 (by omega) (by omega) hcc hta h hP ⟨by rw [hz1]; omega, g2, by rw [hz1]; omega, g4, by rw [hz1]; omega, gw, gC, fun q => by rw [hz1]; have := g6 q; omega⟩
      rw [hz1] at k4
      exact ⟨B, t', D', by rw [k1, zbV_s], k2, k3.up (by omega), by omega⟩
  · rw [if_neg ck, if_pos rfl, if_neg ck]
    have r8 : okr lv (121 + 3 * lv) := ⟨by omega, by omega⟩
    have r9 : okr lv (121 + (3 * lv + 1)) := ⟨by omega, by omega⟩
    have f8 := zfe_k (R := zA) (r := 3 * lv) (K := fun p8 => zfe 120 ((lv : Int) * 3 + 1) fun p9 => zgr A 110 5 fun p10 => zbV (z_Wk_copyAll N p10 p8 A) fun A11 => zbV (z_Wk_say N 4 j0 A11) fun A12 => zbV (rec (R0 + 2 + 3 * p) (zw ((a : Int) + 1)) m (zw ((lv : Int) + 1)) A12) fun A13 => zgr A13 110 5 fun p14 => zbV (z_Wk_copyAll N p14 p9 A13) fun A15 => zgr A15 110 5 fun p16 => zbV (z_Wk_copyAll N p8 p16 A15) fun A17 => zlet (zsi A17 110 7 (zi A 110 7)) fun A18 => zbV (z_Wk_say N 5 (-1) A18) fun A19 => zbV (rec (R0 + 2 + 3 * p) (zw ((m : Int) + 1)) e (zw ((lv : Int) + 1)) A19) fun A20 => zlet (zsi A20 110 7 (zi A 110 7)) fun A21 => zbV (z_Wk_say N 8 (-1) A21) fun A22 => z_Wk_goOverIf_212 rec N j0 p9 0 A22) (by omega)
    rw [show ((3 * lv : Nat) : Int) = (lv : Int) * 3 by omega] at f8
    rw [f8, wl1, wa1, wm1]
    have f9 := zfe_k (R := zA) (r := 3 * lv + 1) (K := fun p9 => zgr A 110 5 fun p10 => zbV (z_Wk_copyAll N p10 (121 + 3 * lv) A) fun A11 => zbV (z_Wk_say N 4 j0 A11) fun A12 => zbV (rec (R0 + 2 + 3 * p) ((a + 1 : Nat) : Int) m ((lv + 1 : Nat) : Int) A12) fun A13 => zgr A13 110 5 fun p14 => zbV (z_Wk_copyAll N p14 p9 A13) fun A15 => zgr A15 110 5 fun p16 => zbV (z_Wk_copyAll N (121 + 3 * lv) p16 A15) fun A17 => zlet (zsi A17 110 7 (zi A 110 7)) fun A18 => zbV (z_Wk_say N 5 (-1) A18) fun A19 => zbV (rec (R0 + 2 + 3 * p) ((m + 1 : Nat) : Int) e ((lv + 1 : Nat) : Int) A19) fun A20 => zlet (zsi A20 110 7 (zi A 110 7)) fun A21 => zbV (z_Wk_say N 8 (-1) A21) fun A22 => z_Wk_goOverIf_212 rec N j0 p9 0 A22) (by omega)
    rw [show ((3 * lv + 1 : Nat) : Int) = (lv : Int) * 3 + 1 by omega] at f9
    rw [f9, h.2.2.2.2.1.1]
    generalize hy8 : 121 + 3 * lv = y8 at *
    generalize hy9 : 121 + (3 * lv + 1) = y9 at *
    rw [zgr_s h.2.1.1]
    obtain ⟨q1, q2, q3, q4, q5⟩ := w_keep (N := N) h hc (by omega) hta r8
    rw [q4, zbV_s]
    generalize fp A c y8 61 = A1 at *
    obtain ⟨A2, s1, s2, s3, s4⟩ := w_say (N := N) (w := 4) (x := j0) (u := some (D j0)) q1 hc (by omega) hta (by omega) (fun q => by have := g6 q; omega) ⟨j0, j1, rfl, rfl⟩ (by decide) (by decide)
    rw [s1, zbV_s]
    have d0 : BD 1 sil s (sSay sil 4 (some (D j0)) s) := BD_say
    have X2 := q3.trans (s3.up (lv := lv) (by omega))
    have P2 := X2.pr hP hR0 hex hc (by omega) hta
    have d1 := hB sil p (a + 1) m (sSay sil 4 (some (D j0)) s) hp b1 (by omega)
    have x1 := hX sil p (a + 1) m (sSay sil 4 (some (D j0)) s)
    have mx1 := hM sil p (a + 1) m (sSay sil 4 (some (D j0)) s)
    rw [hz1] at d1
    have d01 := d0.trans d1 (w := 1 + z1) (by omega)
    have x01 := PX_say (sil := sil) (w := 4) (x := some (D j0)) (s := s) |>.trans x1
    obtain ⟨o1, o2, o3, o4, o5, o6, o7⟩ := d0
    obtain ⟨A3, t3, D3, k1, k2, k3, k4⟩ := hG sil p (a + 1) m (lv + 1) c ta t D (sSay sil 4 (some (D j0)) s) A2 hp b1 (by omega) (by omega) hcc hta s2 P2 ⟨by rw [hz1]; omega, by omega, by rw [hz1]; omega, by omega, by rw [hz1]; omega, by rw [say22.1]; exact gw, gC.mx MX_say, fun q => by rw [hz1, say22.1]; rw [say22.1] at o2; have := g6 q; omega⟩
    rw [hz1] at k4
    rw [k1, zbV_s]
    generalize R sil p (a + 1) m (sSay sil 4 (some (D j0)) s) = s1' at *
    have X3 := X2.trans (k3.up (lv := lv) (by omega))
    have P3 := X3.pr hP hR0 hex hc (by omega) hta
    have row3 : CPl A3 y8 t3 D3 s.1 := WX.row (lv' := lv + 1) k3 (WX.row (lv' := 24) s3 q2 hc (by omega) hta r8 (by omega)) hc (by omega) hta r8 (by omega)
    rw [zgr_s k2.2.1.1]
    obtain ⟨p1, p2, p3, p4, p5⟩ := w_keep (N := N) k2 hc (by omega) hta r9
    rw [p4, zbV_s]
    have row4 : CPl (fp A3 c y9 61) y8 t3 D3 s.1 := row3.mono (fun i hi => p5.e (by omega)) (Nat.le_refl _) (fun _ _ => rfl)
    generalize fp A3 c y9 61 = A4 at *
    rw [zgr_s p1.2.1.1]
    obtain ⟨l1, l2, l3, l4⟩ := w_load (N := N) p1 hc (by omega) hta r8 row4
    rw [l3, zbV_s, zlet_s]
    have row5 : CPl (fp A4 y8 c 61) y9 t3 D3 s1'.1 := p2.mono (fun i hi => l4.e (by rcases hc.fx (show lv ≤ 24 by omega) with ⟨-, -, -, -, z⟩; omega)) (Nat.le_refl _) (fun _ _ => rfl)
    generalize fp A4 y8 c 61 = A5 at *
    obtain ⟨ext, hext⟩ := x01
    obtain ⟨v1, v2⟩ := w_way (l := s.2.2.1) (x := ext) l1 hc (by omega) hta hext (by omega)
    have row6 : CPl (zsi A5 110 7 s.2.2.1.length) y9 t3 D3 s1'.1 := row5.mono (fun i hi => ri_si_o (by omega)) (Nat.le_refl _) (fun _ _ => rfl)
    generalize zsi A5 110 7 s.2.2.1.length = A6 at *
    obtain ⟨o1, o2, o3, o4, o5, o6, o7⟩ := d01
    obtain ⟨A7, m1, m2, m3, m4⟩ := w_say (N := N) (w := 5) (x := -1) (u := none) v1 hc (by omega) hta (by omega) (fun q => by have := g6 q; dsimp only; omega) rfl (by decide) (by decide)
    rw [m1, zbV_s]
    have X7 := (((X3.trans p3).trans (l2.up (lv := lv) (by omega))).trans (v2.up (lv := lv) (by omega))).trans (m3.up (lv := lv) (by omega))
    have P7 := X7.pr hP hR0 hex hc (by omega) hta
    have row7 : CPl A7 y9 t3 D3 s1'.1 := WX.row (lv' := 24) m3 row6 hc (by omega) hta r9 (by omega)
    have e0 : BD 1 sil (s.1, s1'.2.1, s.2.2.1, s1'.2.2.2) (sSay sil 5 none (s.1, s1'.2.1, s.2.2.1, s1'.2.2.2)) := BD_say
    have sy5 := (say22 (sil := sil) (w := 5) (x := none) (s := (s.1, s1'.2.1, s.2.2.1, s1'.2.2.2))).1
    have e1 := hB sil p (m + 1) e (sSay sil 5 none (s.1, s1'.2.1, s.2.2.1, s1'.2.2.2)) hp b2 (by omega)
    have x2 := hX sil p (m + 1) e (sSay sil 5 none (s.1, s1'.2.1, s.2.2.1, s1'.2.2.2))
    rw [hz2] at e1
    have e01 := e0.trans e1 (w := 1 + z2) (by omega)
    have x02 := PX_say (sil := sil) (w := 5) (x := none) (s := (s.1, s1'.2.1, s.2.2.1, s1'.2.2.2)) |>.trans x2
    obtain ⟨i1, i2, i3, i4, i5, i6, i7⟩ := e0
    dsimp only at i1 i2 i3 i4 i5 i6
    obtain ⟨A8, t8, D8, n1, n2, n3, n4⟩ := hG sil p (m + 1) e (lv + 1) c ta t3 D3 (sSay sil 5 none (s.1, s1'.2.1, s.2.2.1, s1'.2.2.2)) A7 hp b2 (by omega) (by omega) hcc hta m2 P7 ⟨by rw [hz2]; omega, by omega, by rw [hz2]; omega, by omega, by rw [hz2]; omega, by rw [sy5]; exact gw, (gC.mx (MX_say.trans mx1)).mx (MX.same (by rw [say22.1]) (by rw [say22.1])), fun q => by
      rw [hz2, sy5]
      have := g6 q
      dsimp only
      omega⟩
    rw [hz2] at n4
    rw [n1, zbV_s, zlet_s]
    generalize R sil p (m + 1) e (sSay sil 5 none (s.1, s1'.2.1, s.2.2.1, s1'.2.2.2)) = s2' at *
    have row8 : CPl A8 y9 t8 D8 s1'.1 := WX.row (lv' := lv + 1) n3 row7 hc (by omega) hta r9 (by omega)
    obtain ⟨ext2, hext2⟩ := x02
    obtain ⟨v3, v4⟩ := w_way (l := s.2.2.1) (x := ext2) n2 hc (by omega) hta hext2 (by omega)
    have row9 : CPl (zsi A8 110 7 s.2.2.1.length) y9 t8 D8 s1'.1 := row8.mono (fun i hi => ri_si_o (by omega)) (Nat.le_refl _) (fun _ _ => rfl)
    generalize zsi A8 110 7 s.2.2.1.length = A9 at *
    obtain ⟨y1', y2', y3', y4', y5', y6', y7'⟩ := e01
    dsimp only at y1' y2' y3' y4' y5' y6'
    obtain ⟨A10, r1, r2, r3, r4⟩ := w_say (N := N) (w := 8) (x := -1) (u := none) v3 hc (by omega) hta (by omega) (fun q => by have := g6 q; dsimp only; omega) rfl (by decide) (by decide)
    rw [r1, zbV_s]
    have row10 : CPl A10 y9 t8 D8 s1'.1 := WX.row (lv' := 24) r3 row9 hc (by omega) hta r9 (by omega)
    unfold z_Wk_goOverIf_212
    have Xa := (k3.trans (WX.refl (lv := lv + 1) (c := c) (ta := ta) (D := D3) (t := t3) k2.1.1))
    have dj : D8 j0 = D j0 := by rw [n3.2.1 j0 (by have := k3.1; omega), k3.2.1 j0 j1]
    have hsay8 : ∀ ff : Nat → T, (sSay sil 8 none (ff, s2'.2.1, s.2.2.1, s2'.2.2.2)).2 = (sSay sil 8 none (s2'.1, s2'.2.1, s.2.2.1, s2'.2.2.2)).2 := fun ff => by unfold sSay; cases sil <;> rfl
    obtain ⟨B, tB, DB, z1', z2', z3', z4'⟩ := w_join (rec := rec) (f := s1'.1) (g := s2'.1) (ch := D j0) (s := sSay sil 8 none (s2'.1, s2'.2.1, s.2.2.1, s2'.2.2.2)) hN hc (show lv ≤ 23 by omega) hta r9 61 0 N t8 D8 A10 (by omega) (by omega) (by omega) (by have := k3.1; have := n3.1; omega) dj (by
      obtain ⟨t1', t2', t3', t4'⟩ := r2
      refine ⟨t1', t2', fun i hi => ?_, t4'⟩
      have := t3' i hi
      rw [say22.2] at this
      exact this) row10
    rw [show ((0 : Nat) : Int) = 0 from rfl] at z1'
    have hfin : (sJoin (D j0) s1'.1 s2'.1, (sSay sil 8 none (s2'.1, s2'.2.1, s.2.2.1, s2'.2.2.2)).2) = sSay sil 8 none (sJoin (D j0) s1'.1 s2'.1, s2'.2.1, s.2.2.1, s2'.2.2.2) := by
      unfold sSay
      cases sil <;> rfl
    rw [hfin] at z2'
    refine ⟨B, tB, DB, z1', z2', (((X7.trans (n3.up (lv := lv) (by omega))).trans (v4.up (lv := lv) (by omega))).trans (r3.up (lv := lv) (by omega))).trans (z3'.up (lv := lv) (by omega)), ?_⟩
    omega
end
