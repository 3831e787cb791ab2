section
variable {N w z sc dp lv t p a b : Nat} {A B : zA} {D : Nat → T} {s : St} {P : Pg} {sz : Nat → Nat} {ex : Nat → Prop} {nd : Int → Nat}
theorem qB_rQ {yw nc : Nat} {Z : Nat → Prop} : ∀ a j, qB lv a j → rQ w dp lv yw nc Z a j := fun a j q => by
  rcases q with q | q
  · exact rQ_lv ⟨by omega, by omega⟩
  · exact rQ_f ⟨q.1, Or.inr (Or.inl (by omega))⟩
theorem qR_rQ {yw nc c : Nat} {Z : Nat → Prop} (hc : 276 ≤ c ∧ c ≤ 278) : ∀ a j, qR c lv a j → rQ w dp lv yw nc Z a j := fun a j q => by
  unfold qR at q
  exact rQ_row ⟨by omega, by omega, by omega⟩
theorem qS_rQ {yw nc : Nat} {Z : Nat → Prop} : ∀ a j, qS w a j → rQ w dp lv yw nc Z a j := fun a j q => by
  rcases q with q | q
  · exact rQ_sd q
  · exact rQ_ct ⟨Or.inl q.1, q.2⟩
theorem qP_rQ {yw nc : Nat} {Z : Nat → Prop} : ∀ a j, qP dp a j → rQ w dp lv yw nc Z a j := fun a j q => by
  rcases q with q | q | q
  · exact rQ_f ⟨q.1, Or.inr (Or.inl (by omega))⟩
  · exact rQ_sh q
  · exact rQ_own q
theorem qT_rQ {yw nc : Nat} {Z : Nat → Prop} : ∀ a j, qT a j → rQ w dp lv yw nc Z a j := fun a j q => by
  rcases q with q | q
  · exact rQ_th q
  · exact rQ_f ⟨q.1, Or.inl q.2⟩
theorem f66_rQ {yw nc : Nat} {Z : Nat → Prop} : ∀ a j, (a = 226 ∧ j = 66) → rQ w dp lv yw nc Z a j := fun a j q => rQ_f ⟨q.1, Or.inr (Or.inl (by omega))⟩
theorem f81_rQ {yw nc : Nat} {Z : Nat → Prop} : ∀ a j, (a = 226 ∧ j = 81) → rQ w dp lv yw nc Z a j := fun a j q => rQ_f ⟨q.1, Or.inr (Or.inr (Or.inr q.2))⟩
/-- the mate of a turn -/
theorem pr_mate {m : Nat} (hP : PrR A z ex P) (hp : ex p) (ha : a < P.2.2.2.1 p) (h8 : 8 ≤ P.1 p a) (hm : P.2.2.1 p a = m) : ri A 231 (240 * p + a) = m := by
  rw [((hP p hp).2 a ha).2.2 h8, hm]
/-- END of a block whose way is known -/
theorem u_end2 {e : Nat} (hP : PrR A z ex P) (hp : ex p) (hp3 : p ≤ 3) (hz : z < 3) (he : e < P.2.2.2.1 p) (h150 : P.2.2.2.1 p ≤ 150) (h12 : P.1 p e = 12) (hl : lv < 30) (h : RW A w sc dp (lv + 1) t D s) (h2 : ri A 271 lv = 2) : RU N w z p e p (e + 1) 1 A (zsi A 226 66 lv) := fun f => by
  have h66 : zi A 226 66 = (lv : Int) + 1 := by have := h.2.2.2.2.1.2.1; omega
  rw [ws hP hp hp3 hz he h150, if_neg (by omega), if_neg (by omega), if_neg (by omega), if_neg (by omega), if_pos h12]
  unfold z_M_ends
  have wl : zw ((lv : Int) + 1 - 1) = lv := by rw [yb_w (by omega) (by omega)]; omega
  rw [h66, wl, zrd_ok (by omega) (by omega), h2, if_neg (by decide)]
  unfold z_M_ends_63 z_M_ends_186
  rw [zrd_ok (by omega) (by omega), h2, if_pos rfl, zlet_s, h66, show ((lv : Int) + 1 - 1) = lv by omega, zbI_s]
  have w1 : zw ((e : Int) + 1) = ((e + 1 : Nat) : Int) := by rw [yb_w (by omega) (by omega)]; omega
  rw [w1]
theorem g_if {R : Bool → Nat → Nat → Nat → St → St} {n m e : Nat} (hN : 300000 ≤ N) (hG : GR N w z P sz ex nd R n) (hB : RB P sz ex nd R n) (hX : RX R) (hM : RM R) (hw : WfP P ex) (hw2 : w < 2) (hz : z < 3) (hp : ex p) (h8 : P.1 p a = 8) (hm : P.2.2.1 p a = m) (he : P.2.2.1 p m = e) (h9 : P.1 p m = 9) (h12 : P.1 p e = 12) (h1 : a < m) (h2 : m < e) (h3 : e < b) (hb : b ≤ P.2.2.2.1 p) (b1 : Bl nd (P.1 p) (fun k => P.2.1 p k 1) (P.2.2.1 p) n (a + 1) m) (b2 : Bl nd (P.1 p) (fun k => P.2.1 p k 1) (P.2.2.1 p) n (m + 1) e) (hdp : dp + p ≤ 3) (hl : lv + n ≤ 28 ∧ sc ≤ lv) (h : RW A w sc dp lv t D s) (hP : PrR A z ex P) (hg : BR P sz (Nat.blt 0 sc) p a (b - a) t s) : ∃ (B : zA) (t' : Nat) (D' : Nat → T) (k : Nat), k ≤ kc (n + 1) * (rsz P sz p (a + 1) (m - (a + 1)) + rsz P sz p (m + 1) (e - (m + 1)) + 3) ∧ RU N w z p a p (e + 1) k A B ∧ RW B w sc dp lv t' D' (ifS P R (Nat.blt 0 sc) p a s) ∧ FQ w sc dp lv t t' D D' s A B ∧ t' ≤ t + 21 * (rsz P sz p (a + 1) (m - (a + 1)) + rsz P sz p (m + 1) (e - (m + 1)) + 3) := by
  obtain ⟨w1, w2, w3, w4⟩ := hw p hp
  obtain ⟨u1, u2, u3, u4, u5⟩ := w4 a (by omega)
  have hzb := rsz_blk (P := P) (sz := sz) (p := p) h1 h2 h3
  generalize hz1 : rsz P sz p (a + 1) (m - (a + 1)) = z1 at *
  generalize hz2 : rsz P sz p (m + 1) (e - (m + 1)) = z2 at *
  generalize hz3 : rsz P sz p (e + 1) (b - (e + 1)) = z3 at *
  obtain ⟨⟨g1, g2, g3, g4, g5, gw, gC, g6⟩, g7⟩ := hg
  generalize hz0 : rsz P sz p a (b - a) = z0 at *
  have hKm := kc_pos n
  have hK1 : kc (n + 1) * (z1 + z2 + 3) = 64 * (kc n * z1) + 64 * (kc n * z2) + 64 * (kc n * 3) := by
    show 64 * kc n * (z1 + z2 + 3) = _
    rw [Nat.mul_assoc, Nat.mul_add, Nat.mul_add, Nat.mul_add, Nat.mul_add]
  generalize hsl : Nat.blt 0 sc = sil at *
  have hs0 : sc = 0 → sil = false := fun q => by rw [← hsl, q]; rfl
  have h0 := h.2.2.2.2.2.2.1
  have nb : nbk (P.1 p a) = 1 := by rw [h8]; decide
  have hrr := (u3 0 (by omega)).2.2 ⟨fun z => by omega, fun z => by omega, fun z => by omega⟩
  obtain ⟨x, hx⟩ : ∃ x : Nat, P.2.1 p a 0 = x := ⟨(P.2.1 p a 0).toNat, by omega⟩
  have hxn : (P.2.1 p a 0).toNat = x := by omega
  have F1 : z_M_field N z p a 1 A = some (x : Int) := by rw [← hx]; exact hP.f hp (by omega) hz (by omega) w3 (show 0 < nbk (P.1 p a) by omega)
  obtain ⟨j0, j1, j2, j3⟩ := r_get (N := N) (r := x) h (by omega) (by omega)
  have wa1 : zw ((a : Int) + 1) = ((a + 1 : Nat) : Int) := by rw [yb_w (by omega) (by omega)]; omega
  have wm1 : zw ((m : Int) + 1) = ((m + 1 : Nat) : Int) := by rw [yb_w (by omega) (by omega)]; omega
  have we1 : zw ((e : Int) + 1) = ((e + 1 : Nat) : Int) := by rw [yb_w (by omega) (by omega)]; omega
  have wlv : zw ((lv : Int) + 1 - 1) = lv := by rw [yb_w (by omega) (by omega)]; omega
  unfold ifS
  simp only [hm, he, hxn]
  rw [← j3]
  -- a step of the frame
  have FX : ∀ {X Y : zA} {Q : Nat → Nat → Prop} {tt : Nat} {DD : Nat → T}, FQ w sc dp lv t tt D DD s A X → fr Q X Y → (∀ a j, Q a j → rQ w dp lv s.2.2.1.length (ri X 261 w).toNat (fz tt s.2.2.2.1 DD) a j) → ¬ Q 261 w → FQ w sc dp lv t tt D DD s A Y := fun hx hf hq h1 => hx.trans (s1 := s) (FQ.of (Nat.le_refl _) (fun _ _ => rfl) hf hq h1) (Nat.le_refl _) (Nat.le_refl _) (Nat.le_refl _) (Int.le_refl _) h0
  have X0 : FQ w sc dp lv t t D D s A A := ⟨Nat.le_refl _, fun _ _ => rfl, fr.refl _ _, Int.le_refl _, fun _ => rfl⟩
  by_cases ck : tkd (D j0) = 0
  · rw [if_pos ck]
    obtain ⟨A1, e1, e2, e3, e4, e5⟩ := r_block (N := N) (x := 2) h (by omega) (by decide) (by omega)
    have X1 := FX X0 e5 qB_rQ (fun q => by unfold qB at q; omega)
    have P1 := X1.pr hP
    have hv : ri A1 253 j0 = tvl (D j0) := num_val e2.1 j1 ck
    have st : z_M_choose N w p a j0 A = some ((if tvl (D j0) = 0 then ((m + 1 : Nat) : Int) else ((a + 1 : Nat) : Int)), A1) := by
      unfold z_M_choose
      have ht := h.1.1.1
      rw [M_isNumber h.1 j1, zbP_s, if_pos ck, if_neg (by decide), e1, zbV_s, zrd_ok (by omega) (by omega), hv]
      split
      · rw [zrd_ok (by omega) (by omega), pr_mate P1 hp (by omega) (by omega) hm, wm1]
      · rw [wa1]
    by_cases cv : tvl (D j0) = 0
    · rw [if_neg (fun q => q cv)]
      rw [if_pos cv] at st
      have U1 : RU N w z p a p (m + 1) 1 A A1 := fun f => by
        rw [ws hP hp (by omega) hz (by omega) w3, if_neg (by omega), if_neg (by omega), if_pos h8, F1, zbP_s, j2, zbP_s, st, zbI_s]
      obtain ⟨A2, t2, D2, k2, i1, i2, i3, i4, i5⟩ := hG sc p (m + 1) e dp (lv + 1) t D s A1 hp b2 (by omega) hdp (by omega) e2 P1 (by rw [hsl]; exact ⟨⟨by rw [hz2]; omega, g2, by rw [hz2]; omega, g4, by rw [hz2]; omega, gw, gC, fun q => by rw [hz2]; have := g6 q; omega⟩, by rw [hz2]; omega⟩)
      rw [hz2] at i1 i5
      rw [hsl] at i3
      have X2 := X1.trans i4 (Nat.le_refl _) (by omega) (Nat.le_refl _) (Int.le_refl _) h0
      have P2 := X2.pr hP
      have q2 : ri A2 271 lv = 2 := by rw [i4.2.2.1.e (rQ_lv_n (by omega) (by omega))]; exact e3
      have U3 := u_end2 (N := N) P2 hp (by omega) hz (show e < P.2.2.2.1 p by omega) w3 h12 (by omega) i3 q2
      obtain ⟨c1, c2⟩ := r_unblock i3 (by omega)
      refine ⟨_, t2, D2, 1 + k2 + 1, ?_, (U1.trans i2).trans U3, c1, FX X2 c2 f66_rQ (fun q => by omega), by omega⟩
      omega
    · rw [if_pos cv]
      rw [if_neg cv] at st
      have U1 : RU N w z p a p (a + 1) 1 A A1 := fun f => by
        rw [ws hP hp (by omega) hz (by omega) w3, if_neg (by omega), if_neg (by omega), if_pos h8, F1, zbP_s, j2, zbP_s, st, zbI_s]
      obtain ⟨A2, t2, D2, k2, i1, i2, i3, i4, i5⟩ := hG sc p (a + 1) m dp (lv + 1) t D s A1 hp b1 (by omega) hdp (by omega) e2 P1 (by rw [hsl]; exact ⟨⟨by rw [hz1]; omega, g2, by rw [hz1]; omega, g4, by rw [hz1]; omega, gw, gC, fun q => by rw [hz1]; have := g6 q; omega⟩, by rw [hz1]; omega⟩)
      rw [hz1] at i1 i5
      rw [hsl] at i3
      have X2 := X1.trans i4 (Nat.le_refl _) (by omega) (Nat.le_refl _) (Int.le_refl _) h0
      have P2 := X2.pr hP
      have q2 : ri A2 271 lv = 2 := by rw [i4.2.2.1.e (rQ_lv_n (by omega) (by omega))]; exact e3
      have h66 : zi A2 226 66 = (lv : Int) + 1 := by have := i3.2.2.2.2.1.2.1; omega
      have U2 : RU N w z p m p e 1 A2 A2 := fun f => by
        rw [ws P2 hp (by omega) hz (by omega) w3, if_neg (by omega), if_neg (by omega), if_neg (by omega), if_pos h9]
        unfold z_M_other
        rw [h66, show ((lv : Int) + 1 - 1) = lv by omega, zrd_ok (by omega) (by omega), q2, if_pos rfl, zrd_ok (by omega) (by omega), pr_mate P2 hp (by omega) (by omega) he, zbI_s]
      have U3 := u_end2 (N := N) P2 hp (by omega) hz (show e < P.2.2.2.1 p by omega) w3 h12 (by omega) i3 q2
      obtain ⟨c1, c2⟩ := r_unblock i3 (by omega)
      refine ⟨_, t2, D2, 1 + k2 + 1 + 1, ?_, ((U1.trans i2).trans U2).trans U3, c1, FX X2 c2 f66_rQ (fun q => by omega), by omega⟩
      omega
  · rw [if_neg ck]
    have hlen : sc = 0 → s.2.1.length < 999 := fun q => by have := g6 (hs0 q); omega
    -- IF
    obtain ⟨Aa, A1, c1, c2, c3, c4, c5⟩ := r_say1 (N := N) (c := -5) (wd := 4) h hw2 ⟨by decide, by decide⟩ (by decide) j1 rfl hlen
    rw [hsl] at c4
    have h66 : zi A1 226 66 = lv := c4.2.2.2.2.1.2.1
    have ht0 := h.1.1.1
    have f2 : fr (fun a j => a = 272 ∧ j = lv) A1 (rs A1 272 lv j0) := fr_rs ⟨rfl, by omega⟩
    have d1 := c4.lev f2 (fun a j q => by omega)
    have v2 : ri (rs A1 272 lv j0) 272 lv = j0 := by rw [ri_rs_s, yb_w (by omega) (by omega)]
    have st2 : ∀ K : zA → Option (Int × zA), zwr A1 272 30 (zi A1 226 66) j0 K = K (rs A1 272 lv j0) := fun K => by rw [h66, zwr_ok (by omega) (by omega)]
    have X1 := FX (FX X0 c5 qS_rQ (fun q => by unfold qS at q; omega)) f2 (fun a j q => rQ_lv ⟨by omega, by omega⟩) (fun q => by omega)
    generalize rs A1 272 lv j0 = A2 at *
    obtain ⟨A3, e1, e2, e3, e4, e5⟩ := r_block (N := N) (x := 1) d1 (by omega) (by decide) (by rw [say22.1]; omega)
    rw [say22.1] at e4
    have X3 := FX X1 e5 qB_rQ (fun q => by unfold qB at q; omega)
    obtain ⟨A4, l1, l2, l3, l4⟩ := r_lay_276 hN e2 (by omega) (by omega)
    rw [say22.2] at l3
    have X4 := FX X3 l4 (qR_rQ (by omega)) (fun q => by unfold qR at q; omega)
    have P4 := X4.pr hP
    have U1 : RU N w z p a p (a + 1) 1 A A4 := fun f => by
      rw [ws hP hp (by omega) hz (by omega) w3, if_neg (by omega), if_neg (by omega), if_pos h8, F1, zbP_s, j2, zbP_s]
      unfold z_M_choose
      rw [M_isNumber h.1 j1, zbP_s, if_neg ck, if_pos rfl, c1, zbV_s, c3, zbV_s, st2, e1, zbV_s, l1, zbV_s, wa1, zbI_s]
    have q1 : ri A4 271 lv = 1 := by rw [l4.e (fun q => by unfold qR at q; omega)]; exact e3
    have q2 : ri A4 272 lv = j0 := by rw [l4.e (fun q => by unfold qR at q; omega), e5.e (fun q => by unfold qB at q; omega)]; exact v2
    have q3 : ri A4 273 lv = s.2.2.1.length := by rw [l4.e (fun q => by unfold qR at q; omega)]; exact e4
    have m1 := hM sil p (a + 1) m (sSay sil 4 (some (D j0)) s)
    have x1 := hX sil p (a + 1) m (sSay sil 4 (some (D j0)) s)
    have dd0 : BD 1 sil s (sSay sil 4 (some (D j0)) s) := BD_say
    have dd1 := hB sil p (a + 1) m (sSay sil 4 (some (D j0)) s) hp b1 (by omega)
    rw [hz1] at dd1
    have d01 := dd0.trans dd1 (w := 1 + z1) (by omega)
    have x01 := PX_say (sil := sil) (w := 4) (x := some (D j0)) (s := s) |>.trans x1
    obtain ⟨o1, o2, o3, o4, o5, o6, o7⟩ := dd0
    obtain ⟨A5, t5, D5, k5, i1, i2, i3, i4, i5⟩ := hG sc p (a + 1) m dp (lv + 1) t D (sSay sil 4 (some (D j0)) s) A4 hp b1 (by omega) hdp (by omega) l2 P4 (by rw [hsl]; exact ⟨⟨by rw [hz1]; omega, by omega, by rw [hz1]; omega, by omega, by rw [hz1]; omega, by rw [say22.1]; exact gw, gC.mx MX_say, fun q => by rw [hz1, say22.1]; rw [say22.1] at o2; have := g6 q; omega⟩, by rw [hz1]; omega⟩)
    rw [hz1] at i1 i5
    rw [hsl] at i3
    have X5 := X4.trans i4 (Nat.le_refl _) (by omega) (by rw [say22.1]; exact Nat.le_refl _) (by rw [say22.1]; exact Int.le_refl _) h0
    generalize hS1 : R sil p (a + 1) m (sSay sil 4 (some (D j0)) s) = s1 at *
    have P5 := X5.pr hP
    have r1 : ri A5 271 lv = 1 := by rw [i4.2.2.1.e (rQ_lv_n (by omega) (by omega))]; exact q1
    have r2 : ri A5 272 lv = j0 := by rw [i4.2.2.1.e (rQ_lv_n (by omega) (by omega))]; exact q2
    have r3 : ri A5 273 lv = s.2.2.1.length := by rw [i4.2.2.1.e (rQ_lv_n (by omega) (by omega))]; exact q3
    have sv5 : SV A5 276 lv t5 D5 s.1 := l3.mono (fun i hi => i4.2.2.1.e (rQ_row_n (by omega) (by omega))) i4.1 i4.2.1
    obtain ⟨ext, hext⟩ := x01
    obtain ⟨o1, o2, o3, o4, o5, o6, o7⟩ := d01
    have hlen5 : sc = 0 → s1.2.1.length < 999 := fun q => by have := g6 (hs0 q); omega
    -- ELSE
    obtain ⟨A6, n1, n2, n3⟩ := r_say0 (N := N) (c := -6) (wd := 5) i3 hw2 ⟨by decide, by decide⟩ (by decide) (fun q => by have := hlen5 q; omega)
    rw [hsl] at n2
    have X6 := FX X5 n3 qS_rQ (fun q => by unfold qS at q; omega)
    have r1' : ri A6 271 lv = 1 := by rw [n3.e (fun q => by unfold qS at q; omega)]; exact r1
    have r2' : ri A6 272 lv = j0 := by rw [n3.e (fun q => by unfold qS at q; omega)]; exact r2
    have r3' : ri A6 273 lv = s.2.2.1.length := by rw [n3.e (fun q => by unfold qS at q; omega)]; exact r3
    have sv6 : SV A6 276 lv t5 D5 s.1 := sv5.mono (fun i hi => n3.e (fun q => by unfold qS at q; omega)) (Nat.le_refl _) (fun _ _ => rfl)
    have wy := n2.way (l := s.2.2.1) (x := ext) (by rw [say22.1]; exact hext) (by omega)
    have f7 : fr (fun a j => a = 226 ∧ j = 81) A6 (zsi A6 226 81 s.2.2.1.length) := fr_si ⟨rfl, rfl⟩
    have X7 := FX X6 f7 f81_rQ (fun q => by omega)
    have h66' : zi A6 226 66 = (lv : Int) + 1 := by have := n2.2.2.2.2.1.2.1; omega
    have h66a : zi A5 226 66 = (lv : Int) + 1 := by have := i3.2.2.2.2.1.2.1; omega
    have r1'' : ri (zsi A6 226 81 s.2.2.1.length) 271 lv = 1 := by rw [ri_si_o (by decide)]; exact r1'
    have r2'' : ri (zsi A6 226 81 s.2.2.1.length) 272 lv = j0 := by rw [ri_si_o (by decide)]; exact r2'
    have r3'' : ri (zsi A6 226 81 s.2.2.1.length) 273 lv = s.2.2.1.length := by rw [ri_si_o (by decide)]; exact r3'
    have sv7 : SV (zsi A6 226 81 s.2.2.1.length) 276 lv t5 D5 s.1 := sv6.mono (fun i hi => ri_si_o (by decide)) (Nat.le_refl _) (fun _ _ => rfl)
    generalize hA7 : zsi A6 226 81 s.2.2.1.length = A7 at *
    obtain ⟨A8, y1, y2, y3, y4⟩ := r_lay_277 hN wy (by omega) (by omega)
    have X8 := FX X7 y4 (qR_rQ (by omega)) (fun q => by unfold qR at q; omega)
    have sv8 : SV A8 276 lv t5 D5 s.1 := sv7.mono (fun i hi => y4.e (fun q => by unfold qR at q; omega)) (Nat.le_refl _) (fun _ _ => rfl)
    obtain ⟨A9, t1, t2, t3⟩ := r_take_276 hN y2 (by omega) (by omega) sv8
    have X9 := FX X8 t3 qP_rQ (fun q => by unfold qP at q; omega)
    have P9 := X9.pr hP
    have sv9 : SV A9 277 lv t5 D5 s1.1 := by
      have : SV A8 277 lv t5 D5 s1.1 := fun i hi => by have := y3 i hi; rw [say22.2] at this; exact this
      exact this.mono (fun i hi => t3.e (fun q => by unfold qP at q; omega)) (Nat.le_refl _) (fun _ _ => rfl)
    have U2 : RU N w z p m p (m + 1) 1 A5 A9 := fun f => by
      rw [ws P5 hp (by omega) hz (by omega) w3, if_neg (by omega), if_neg (by omega), if_neg (by omega), if_pos h9]
      unfold z_M_other
      rw [h66a, show ((lv : Int) + 1 - 1) = lv by omega, zrd_ok (by omega) (by omega), r1, if_neg (by decide), n1, zbV_s, h66', show ((lv : Int) + 1 - 1) = lv by omega, zrd_ok (by omega) (by omega), r3', zlet_s, hA7, y1, zbV_s, t1, zbV_s, zbI_s, wm1]
    have es : (s.1, ((sSay sil 5 none s1).1, (sSay sil 5 none s1).2.1, s.2.2.1, (sSay sil 5 none s1).2.2.2).2) = sSay sil 5 none (s.1, s1.2.1, s.2.2.1, s1.2.2.2) := by
      unfold sSay
      cases sil <;> rfl
    rw [es] at t2
    have s11 : ri A9 271 lv = 1 := by rw [t3.e (fun q => by unfold qP at q; omega), y4.e (fun q => by unfold qR at q; omega)]; exact r1''
    have s12 : ri A9 272 lv = j0 := by rw [t3.e (fun q => by unfold qP at q; omega), y4.e (fun q => by unfold qR at q; omega)]; exact r2''
    have s13 : ri A9 273 lv = s.2.2.1.length := by rw [t3.e (fun q => by unfold qP at q; omega), y4.e (fun q => by unfold qR at q; omega)]; exact r3''
    have e0 : BD 1 sil (s.1, s1.2.1, s.2.2.1, s1.2.2.2) (sSay sil 5 none (s.1, s1.2.1, s.2.2.1, s1.2.2.2)) := BD_say
    have sy5 := (say22 (sil := sil) (w := 5) (x := none) (s := (s.1, s1.2.1, s.2.2.1, s1.2.2.2))).1
    have ee1 := hB sil p (m + 1) e (sSay sil 5 none (s.1, s1.2.1, s.2.2.1, s1.2.2.2)) hp b2 (by omega)
    have xx2 := hX sil p (m + 1) e (sSay sil 5 none (s.1, s1.2.1, s.2.2.1, s1.2.2.2))
    rw [hz2] at ee1
    have e01 := e0.trans ee1 (w := 1 + z2) (by omega)
    have x02 := PX_say (sil := sil) (w := 5) (x := none) (s := (s.1, s1.2.1, s.2.2.1, s1.2.2.2)) |>.trans xx2
    have mx2 : MX s (sSay sil 5 none (s.1, s1.2.1, s.2.2.1, s1.2.2.2)) := (MX_say.trans m1).trans (MX.same (by rw [say22.1]) (by rw [say22.1]))
    obtain ⟨p1, p2, p3, p4, p5, p6, p7⟩ := e0
    dsimp only at p1 p2 p3 p4 p5 p6
    obtain ⟨A10, t10, D10, k10, i1', i2', i3', i4', i5'⟩ := hG sc p (m + 1) e dp (lv + 1) t5 D5 (sSay sil 5 none (s.1, s1.2.1, s.2.2.1, s1.2.2.2)) A9 hp b2 (by omega) hdp (by omega) t2 P9 (by rw [hsl]; exact ⟨⟨by rw [hz2]; omega, by omega, by rw [hz2]; omega, by omega, by rw [hz2]; omega, by rw [sy5]; exact gw, gC.mx mx2, fun q => by
      rw [hz2, sy5]
      have := g6 q
      dsimp only
      omega⟩, by rw [hz2]; omega⟩)
    rw [hz2] at i1' i5'
    rw [hsl] at i3'
    have X10 := X9.trans i4' (Nat.le_refl _) (by omega) (by rw [sy5]; exact Nat.le_refl _) mx2.1 h0
    generalize hS2 : R sil p (m + 1) e (sSay sil 5 none (s.1, s1.2.1, s.2.2.1, s1.2.2.2)) = s2 at *
    have P10 := X10.pr hP
    have v11 : ri A10 271 lv = 1 := by rw [i4'.2.2.1.e (rQ_lv_n (by omega) (by omega))]; exact s11
    have v12 : ri A10 272 lv = j0 := by rw [i4'.2.2.1.e (rQ_lv_n (by omega) (by omega))]; exact s12
    have v13 : ri A10 273 lv = s.2.2.1.length := by rw [i4'.2.2.1.e (rQ_lv_n (by omega) (by omega))]; exact s13
    have sv10 : SV A10 277 lv t10 D10 s1.1 := sv9.mono (fun i hi => i4'.2.2.1.e (rQ_row_n (by omega) (by omega))) i4'.1 i4'.2.1
    obtain ⟨ext2, hext2⟩ := x02
    obtain ⟨p1, p2, p3, p4, p5, p6, p7⟩ := e01
    dsimp only at p1 p2 p3 p4 p5 p6
    -- END
    obtain ⟨A11, n1', n2', n3'⟩ := r_say0 (N := N) (c := -9) (wd := 8) i3' hw2 ⟨by decide, by decide⟩ (by decide) (fun q => by have := g6 (hs0 q); omega)
    rw [hsl] at n2'
    have X11 := FX X10 n3' qS_rQ (fun q => by unfold qS at q; omega)
    have wy2 := n2'.way (l := s.2.2.1) (x := ext2) (by rw [say22.1]; exact hext2) (by omega)
    have f12 : fr (fun a j => a = 226 ∧ j = 81) A11 (zsi A11 226 81 s.2.2.1.length) := fr_si ⟨rfl, rfl⟩
    have X12 := FX X11 f12 f81_rQ (fun q => by omega)
    have h66b : zi A10 226 66 = (lv : Int) + 1 := by have := i3'.2.2.2.2.1.2.1; omega
    have z11 : ri A11 273 lv = s.2.2.1.length := by rw [n3'.e (fun q => by unfold qS at q; omega)]; exact v13
    have z12 : ri (zsi A11 226 81 s.2.2.1.length) 271 lv = 1 := by rw [ri_si_o (by decide), n3'.e (fun q => by unfold qS at q; omega)]; exact v11
    have z13 : ri (zsi A11 226 81 s.2.2.1.length) 272 lv = j0 := by rw [ri_si_o (by decide), n3'.e (fun q => by unfold qS at q; omega)]; exact v12
    have sv12 : SV (zsi A11 226 81 s.2.2.1.length) 277 lv t10 D10 s1.1 := sv10.mono (fun i hi => by rw [ri_si_o (by decide), n3'.e (fun q => by unfold qS at q; omega)]) (Nat.le_refl _) (fun _ _ => rfl)
    generalize hA12 : zsi A11 226 81 s.2.2.1.length = A12 at *
    have dj : D10 j0 = D j0 := by rw [i4'.2.1 j0 (by have := i4.1; omega), i4.2.1 j0 j1]
    have jb : j0 < t10 := by have := i4.1; have := i4'.1; omega
    obtain ⟨A13, t13, D13, w1', w2', w3', w4', w5', w6'⟩ := r_join (l := lv) (e := e) (j0 := j0) (f := s1.1) (g := s2.1) (ch := D j0) (s := ((sSay sil 8 none s2).1, (sSay sil 8 none s2).2.1, s.2.2.1, (sSay sil 8 none s2).2.2.2)) hN (show dp ≤ 3 by omega) (by omega) 61 0 N t10 D10 A12 (by omega) (by omega) (by omega) jb dj z13 (wy2.same (f := fun i => if i < 0 then sJoin (D j0) s1.1 s2.1 i else s2.1 i) (fun i hi => by dsimp only; rw [if_neg (by omega), say22.2]) rfl) sv12
    rw [show ((0 : Nat) : Int) = 0 from rfl] at w1'
    have X13 : FQ w sc dp lv t t13 D D13 s A A13 := X12.trans (s1 := s) (dp' := dp) (lv' := lv) ⟨w3', w5', w6'.mono qX_rQ, by rw [w6'.e qX_261]; omega, fun _ => w6'.e qX_261⟩ (Nat.le_refl _) (Nat.le_refl _) (Nat.le_refl _) (Int.le_refl _) h0
    obtain ⟨c1', c2'⟩ := r_unblock w2' (by omega)
    have X14 := FX X13 c2' f66_rQ (fun q => by omega)
    have h66c : zi A13 226 66 = (lv : Int) + 1 := by have := w2'.2.2.2.2.1.2.1; omega
    have U3 : RU N w z p e p (e + 1) 1 A10 (zsi A13 226 66 lv) := fun f => by
      rw [ws P10 hp (by omega) hz (by omega) w3, if_neg (by omega), if_neg (by omega), if_neg (by omega), if_neg (by omega), if_pos h12]
      unfold z_M_ends
      rw [h66b, wlv, zrd_ok (by omega) (by omega), v11, if_neg (by decide)]
      unfold z_M_ends_63
      rw [zrd_ok (by omega) (by omega), v11, if_neg (by decide), n1', zbV_s, zrd_ok (by omega) (by omega), z11, zlet_s, hA12, zrd_ok (by omega) (by omega), z12, if_neg (by decide)]
      unfold z_M_ends_114
      rw [w1']
      unfold z_M_ends_186
      rw [zlet_s, h66c, show ((lv : Int) + 1 - 1) = lv by omega, zbI_s, we1]
    refine ⟨_, t13, D13, ((1 + k5) + 1 + k10) + 1, ?_, (((U1.trans i2).trans U2).trans i2').trans U3, ?_, X14, by omega⟩
    · omega
    · have hfin : (sJoin (D j0) s1.1 s2.1, ((sSay sil 8 none s2).1, (sSay sil 8 none s2).2.1, s.2.2.1, (sSay sil 8 none s2).2.2.2).2) = sSay sil 8 none (sJoin (D j0) s1.1 s2.1, s2.2.1, s.2.2.1, s2.2.2.2) := by
        unfold sSay
        cases sil <;> rfl
      rw [hfin] at c1'
      exact c1'
end
