/-! the silent rounds of the reference's WHILE -/
section
variable {N w z sc dp lv p a b m e n : Nat} {P : Pg} {sz : Nat → Nat} {ex : Nat → Prop} {nd : Int → Nat} {R : Bool → Nat → Nat → Nat → St → St} {A0 A00 : zA} {t0 : Nat} {D0 : Nat → T} {s : St}
def FS (w dp lv t0 : Nat) (D0 : Nat → T) (s : St) (A0 X : zA) : Prop := fr (rQ w dp lv s.2.2.1.length (ri A0 261 w).toNat (fz t0 s.2.2.2.1 D0)) A0 X ∧ ri X 261 w = ri A0 261 w
theorem FS.step {X Y : zA} {Q : Nat → Nat → Prop} (h : FS w dp lv t0 D0 s A0 X) (f : fr Q X Y) (hq : ∀ a j, Q a j → rQ w dp lv s.2.2.1.length (ri A0 261 w).toNat (fz t0 s.2.2.2.1 D0) a j) (h1 : ¬ Q 261 w) : FS w dp lv t0 D0 s A0 Y := ⟨h.1.trans (f.mono hq), by rw [f.e (by rw [Int.toNat_natCast]; exact h1)]; exact h.2⟩
theorem FS.fq {X Y : zA} {lv' t1 t2 : Nat} {D1 D2 : Nat → T} {s1 : St} (h : FS w dp lv t0 D0 s A0 X) (g : FQ w (sc + 1) dp lv' t1 t2 D1 D2 s1 X Y) (hl : lv ≤ lv') (hy : s.2.2.1.length ≤ s1.2.2.1.length) (hW : s.2.2.2.1 ≤ s1.2.2.2.1) (ht : t0 ≤ t1) (hD : ∀ i, i < t0 → D1 i = D0 i) : FS w dp lv t0 D0 s A0 Y := by
  obtain ⟨g1, g2, g3, g4, g5⟩ := g
  have e := g5 (by omega)
  exact ⟨h.1.trans (g3.mono (rQ_mono (Nat.le_refl _) hl hy (by rw [h.2]; exact Nat.le_refl _) (fz_mono ht hW hD))), by rw [e, h.2]⟩
theorem FS.pr {X : zA} (h : FS w dp lv t0 D0 s A0 X) (hP : PrR A0 z ex P) : PrR X z ex P := hP.fr h.1 (fun a j q => by have := rQ_no q; omega)
theorem WI.fq {X Y : zA} {l t1 t2 tw : Nat} {W I : Int} {yw : Nat} {D D1 D2 : Nat → T} {f0 : Nat → T} {qu : Int} {s1 : St} (h : WI X l tw W I yw D f0 qu) (g : FQ w sc dp (l + 1) t1 t2 D1 D2 s1 X Y) : WI Y l tw W I yw D f0 qu := h.mono g.2.2.1 (fun a j q => ⟨fun ha => by
    intro hj
    exact rQ_lv_n (by omega) (by omega) q, fun ha => by
    refine Classical.byContradiction (fun c => ?_)
    exact rQ_row_n (by omega) (by omega) q⟩)
theorem MKS.fq {X Y : zA} {l t1 t2 : Nat} {S : Nat → Bool} {D1 D2 : Nat → T} {s1 : St} (h : MKS X l S) (g : FQ w sc dp (l + 1) t1 t2 D1 D2 s1 X Y) : MKS Y l S := fun i hi => by
  rw [g.2.2.1.l (rQ_lv_n (by omega) (by omega))]
  exact h i hi
/-- at the beginning of a silent round -/
def INV (w sc dp lv t0 : Nat) (D0 : Nat → T) (s : St) (A0 : zA) (S : Nat → Bool) (X : zA) (tX : Nat) (DX : Nat → T) : Prop := RW X w (sc + 1) dp (lv + 1) tX DX (sBeg s.2.2.2.1 S s) ∧ MKS X lv S ∧ WI X lv t0 s.2.2.2.1 s.2.2.2.2.1 s.2.2.1.length D0 s.1 1 ∧ t0 ≤ tX ∧ tX ≤ t0 + 61 ∧ (∀ i, i < t0 → DX i = D0 i) ∧ FS w dp lv t0 D0 s A0 X
theorem r_round (hN : 300000 ≤ N) (hG : GR N w z P sz ex nd R n) (hB : RB P sz ex nd R n) (hX : RX R) (hM : RM R) (hw : WfP P ex) (hw2 : w < 2) (hz : z < 3) (hp : ex p) (hm : P.2.2.1 p a = m) (he : P.2.2.1 p m = e) (h11 : P.1 p m = 11) (h1 : a < m) (h2 : m < e) (h3 : e < P.2.2.2.1 p) (b1 : Bl nd (P.1 p) (fun k => P.2.1 p k 1) (P.2.2.1 p) n (a + 1) m) (b2 : Bl nd (P.1 p) (fun k => P.2.1 p k 1) (P.2.2.1 p) n (m + 1) e) (hdp : dp + p ≤ 3) (hl : lv + n ≤ 28 ∧ sc ≤ lv) (h00 : RC A00 w (sc + 1) dp (lv + 1) t0 D0 s) (hP : PrR A0 z ex P) (gt : t0 + 61 + 21 * (rsz P sz p (a + 1) (m - (a + 1)) + rsz P sz p (m + 1) (e - (m + 1))) ≤ 15900) (gW : 0 ≤ s.2.2.2.1) (gW2 : s.2.2.2.1 + 1 + (rsz P sz p (a + 1) (m - (a + 1)) + rsz P sz p (m + 1) (e - (m + 1)) : Nat) ≤ 10000) (gI : 0 ≤ s.2.2.2.2.1) (gI2 : s.2.2.2.2.1 + (rsz P sz p (a + 1) (m - (a + 1)) + rsz P sz p (m + 1) (e - (m + 1)) : Nat) ≤ 10000) (gw : s.2.2.1.length ≤ 150) (gC : CI s) {S : Nat → Bool} {X : zA} {tX : Nat} {DX : Nat → T} (hS : ∀ i, 61 ≤ i → S i = false) (h : INV w sc dp lv t0 D0 s A0 S X tX DX) : ∃ (Y C : zA) (k : Nat) (y : Int) (s3 : St), k ≤ kc n * rsz P sz p (a + 1) (m - (a + 1)) + 1 + kc n * rsz P sz p (m + 1) (e - (m + 1)) ∧ RU N w z p (a + 1) p e k X Y ∧ FS w dp lv t0 D0 s A0 Y ∧ zi Y 226 66 = (lv : Int) + 1 ∧ ri Y 271 lv = 3 ∧ ri Y 280 lv = 1 ∧ z_M_found N Y = some (y, C) ∧ RC C w (sc + 1) dp (lv + 1) t0 D0 s3 ∧ s3.2.1 = s.2.1 ∧ s3.2.2.1 = s.2.2.1 ∧ s3.2.2.2.2.2 = s.2.2.2.2.2 ∧ MKS C lv (rdS P R p a s.2.2.2.1 s S) ∧ WI C lv t0 s.2.2.2.1 s.2.2.2.2.1 s.2.2.1.length D0 s.1 1 ∧ (y = 0 ∨ y = 1) ∧ (y = 1 ↔ rdS P R p a s.2.2.2.1 s S = S) ∧ FS w dp lv t0 D0 s A0 C := by
  obtain ⟨i1, i2, i3, i4, i5, i6, i7⟩ := h
  obtain ⟨w1, w2, w3, w4⟩ := hw p hp
  generalize hz1 : rsz P sz p (a + 1) (m - (a + 1)) = z1 at *
  generalize hz2 : rsz P sz p (m + 1) (e - (m + 1)) = z2 at *
  have hsl : Nat.blt 0 (sc + 1) = true := rfl
  have PX0 := i7.pr hP
  have gC1 : CI (sBeg s.2.2.2.1 S s) := fun q hq => by have := gC q hq; show q.1 < s.2.2.2.1 + 1; omega
  -- to DO
  obtain ⟨X1, t1, D1, k1, j1, j2, j3, j4, j5⟩ := hG (sc + 1) p (a + 1) m dp (lv + 1) tX DX (sBeg s.2.2.2.1 S s) X hp b1 (by omega) hdp (by omega) i1 PX0 ⟨⟨by rw [hz1]; omega, by show 0 ≤ s.2.2.2.1 + 1; omega, by rw [hz1]; show s.2.2.2.1 + 1 + (z1 : Int) ≤ 10000; omega, gI, by rw [hz1]; show s.2.2.2.2.1 + (z1 : Int) ≤ 10000; omega, gw, gC1, fun q => by rw [hsl] at q; cases q⟩, by rw [hz1]; omega⟩
  rw [hz1] at j1 j5
  rw [hsl] at j3
  have d1 := hB true p (a + 1) m (sBeg s.2.2.2.1 S s) hp b1 (by omega)
  have m1 := hM true p (a + 1) m (sBeg s.2.2.2.1 S s)
  rw [hz1] at d1
  generalize hs2 : R true p (a + 1) m (sBeg s.2.2.2.1 S s) = s2 at *
  obtain ⟨v1, v2, v3, v4, v5, v6, v7⟩ := d1
  have v7 := v7 rfl
  have v3 : s.2.2.2.1 + 1 ≤ s2.2.2.2.1 := v3
  have v4 : 3 * s2.2.2.2.1 ≤ 3 * (s.2.2.2.1 + 1) + z1 := v4
  have v5 : s.2.2.2.2.1 ≤ s2.2.2.2.2.1 := v5
  have v6 : s2.2.2.2.2.1 ≤ s.2.2.2.2.1 + z1 := v6
  have v71 : s2.2.1 = s.2.1 := v7.1
  have v72 : s2.2.2.1 = s.2.2.1 := v7.2.1
  have v73 : s2.2.2.2.2.2 = s.2.2.2.2.2 := v7.2.2
  have F1 := i7.fq j4 (by omega) (show s.2.2.1.length ≤ s.2.2.1.length from Nat.le_refl _) (show s.2.2.2.1 ≤ s.2.2.2.1 + 1 by omega) i4 i6
  have P1 := F1.pr hP
  have W1 := i3.fq j4
  have K1 := i2.fq j4
  -- DO
  obtain ⟨u1, u2, u3, u4, u5⟩ := w4 m (by omega)
  have nb : nbk (P.1 p m) = 1 := by rw [h11]; decide
  have hrr := (u3 0 (by omega)).2.2 ⟨fun z => by omega, fun z => by omega, fun z => by omega⟩
  obtain ⟨x, hx⟩ : ∃ x : Nat, P.2.1 p m 0 = x := ⟨(P.2.1 p m 0).toNat, by omega⟩
  have Fm : z_M_field N z p m 1 X1 = some (x : Int) := by rw [← hx]; exact P1.f hp (by omega) hz (by omega) w3 (show 0 < nbk (P.1 p m) by omega)
  obtain ⟨g, g1, g2, g3⟩ := r_get (N := N) (r := x) j3 (by omega) (by omega)
  have h80 : 0 < zi X1 226 80 := by have := j3.2.2.2.2.1.2.2.1; omega
  obtain ⟨X2, l1, l2, l3, l4⟩ := r_lay_276 hN j3 (by omega) (by omega)
  have wm1 : zw ((m : Int) + 1) = ((m + 1 : Nat) : Int) := by rw [yb_w (by omega) (by omega)]; omega
  have U2 : RU N w z p m p (m + 1) 1 X1 X2 := fun f => by
    rw [ws P1 hp (by omega) hz (by omega) w3, if_neg (by omega), if_neg (by omega), if_neg (by omega), if_neg (by omega), if_neg (by omega), if_neg (by omega), M_says_q h80, zbV_s, Fm, zbP_s, g2, zbP_s, M_says_q h80, zbV_s, l1, zbV_s]
  have F2 := F1.step l4 (qR_rQ (by omega)) (fun q => by unfold qR at q; omega)
  have P2 := F2.pr hP
  have W2 := W1.mono l4 (fun a j q => by unfold qR at q; omega)
  have K2 : MKS X2 lv S := fun i hi => by rw [l4.l (fun q => by unfold qR at q; omega)]; exact K1 i hi
  -- to END
  have gC2 : CI s2 := gC1.mx m1
  obtain ⟨X3, t3, D3, k3, n1, n2, n3, n4, n5⟩ := hG (sc + 1) p (m + 1) e dp (lv + 1) t1 D1 s2 X2 hp b2 (by omega) hdp (by omega) l2 P2 ⟨⟨by rw [hz2]; omega, by omega, by rw [hz2]; omega, by omega, by rw [hz2]; omega, by rw [v72]; exact gw, gC2, fun q => by rw [hsl] at q; cases q⟩, by rw [hz2]; omega⟩
  rw [hz2] at n1 n5
  rw [hsl] at n3
  have d2 := hB true p (m + 1) e s2 hp b2 (by omega)
  rw [hz2] at d2
  have hrd : rdS P R p a s.2.2.2.1 s S = rdm S (R true p (m + 1) e s2).1 s.2.2.2.1 := by
    unfold rdS rdm
    simp only [hm, he, hs2]
  generalize hs3 : R true p (m + 1) e s2 = s3 at *
  obtain ⟨y1, y2, y3, y4, y5, y6, y7⟩ := d2
  have y7 := y7 rfl
  have F3 := F2.fq n4 (by omega) (by rw [v72]; exact Nat.le_refl _) (by omega) (by have := j4.1; omega) (fun i hi => by rw [j4.2.1 i (by omega), i6 i hi])
  have W3 := W2.fq n4
  have K3 := K2.fq n4
  obtain ⟨C, y, c1, c2, c3, c4, c5, c6, c7⟩ := r_found (S := S) (W := s.2.2.2.1) (I := s.2.2.2.2.1) (D0 := D0) (f0 := s.1) (s0 := s) (A0 := A00) hN (show dp ≤ 3 by omega) (show lv < 30 by omega) gW (by omega) (by omega) n3 K3 W3 (by have := j4.1; have := n4.1; omega) (fun i hi => by rw [n4.2.1 i (by have := j4.1; omega), j4.2.1 i (by omega), i6 i hi]) h00 (by rw [y7.1, v71]) (by rw [y7.2.1, v72]) (by rw [y7.2.2, v73])
  have h66 : zi X3 226 66 = (lv : Int) + 1 := by have := n3.2.2.2.2.1.2.1; omega
  refine ⟨X3, C, k1 + 1 + k3, y, s3, by omega, (j2.trans U2).trans n2, F3, h66, W3.1, W3.2.2.1, c1, c2, by rw [y7.1, v71], by rw [y7.2.1, v72], by rw [y7.2.2, v73], by rw [hrd]; exact c3, c4, c5, ?_, F3.step c7 (fun a j q => ?_) (fun q => by unfold qM qT at q; omega)⟩
  · rw [c6, hrd]
    constructor
    · intro q
      funext i
      by_cases c : i < 61
      · exact q i c
      · unfold rdm
        rw [hS i (by omega), Bool.false_and]
    · intro q i hi
      rw [q]
  · rcases q with q | q
    · exact qT_rQ a j q
    · exact rQ_lv ⟨by omega, by omega⟩
end
