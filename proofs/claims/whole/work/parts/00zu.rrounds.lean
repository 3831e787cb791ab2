section
variable {N w z sc dp lv p a b m e n : Nat} {P : Pg} {sz : Nat → Nat} {ex : Nat → Prop} {nd : Int → Nat} {R : Bool → Nat → Nat → Nat → St → St} {A0 A00 : zA} {t0 : Nat} {D0 : Nat → T} {s : St}
/-- rounds until nothing drops out -/
theorem r_rounds (hN : 300000 ≤ N) (hG : GR N w z P sz ex nd R n) (hB : RB P sz ex nd R n) (hX : RX R) (hM : RM R) (hw : WfP P ex) (hw2 : w < 2) (hz : z < 3) (hp : ex p) (hm : P.2.2.1 p a = m) (he : P.2.2.1 p m = e) (hea : P.2.2.1 p e = a) (h11 : P.1 p m = 11) (h12 : P.1 p e = 12) (h1 : a < m) (h2 : m < e) (h3 : e < P.2.2.2.1 p) (b1 : Bl nd (P.1 p) (fun k => P.2.1 p k 1) (P.2.2.1 p) n (a + 1) m) (b2 : Bl nd (P.1 p) (fun k => P.2.1 p k 1) (P.2.2.1 p) n (m + 1) e) (hdp : dp + p ≤ 3) (hl : lv + n ≤ 28 ∧ sc ≤ lv) (h00 : RC A00 w (sc + 1) dp (lv + 1) t0 D0 s) (hP : PrR A0 z ex P) (h261 : ri A0 261 w ≤ 61 * s.2.2.2.1) (gt : t0 + 61 + 21 * (rsz P sz p (a + 1) (m - (a + 1)) + rsz P sz p (m + 1) (e - (m + 1))) ≤ 15900) (gW : 0 ≤ s.2.2.2.1) (gW2 : s.2.2.2.1 + 1 + (rsz P sz p (a + 1) (m - (a + 1)) + rsz P sz p (m + 1) (e - (m + 1)) : Nat) ≤ 10000) (gI : 0 ≤ s.2.2.2.2.1) (gI2 : s.2.2.2.2.1 + (rsz P sz p (a + 1) (m - (a + 1)) + rsz P sz p (m + 1) (e - (m + 1)) : Nat) ≤ 10000) (gw : s.2.2.1.length ≤ 150) (gC : CI s) : ∀ (q : Nat) (S : Nat → Bool) (X : zA) (tX : Nat) (DX : Nat → T), cnt S 61 < q → (∀ i, 61 ≤ i → S i = false) → INV w sc dp lv t0 D0 s A0 S X tX DX → ∃ (C : zA) (k : Nat) (s3 : St), k ≤ q * (kc n * rsz P sz p (a + 1) (m - (a + 1)) + kc n * rsz P sz p (m + 1) (e - (m + 1)) + 2) ∧ (∀ B, z_M_aloud N w C = some B → PrR B z ex P → RU N w z p (a + 1) p (a + 1) k X B) ∧ RC C w (sc + 1) dp (lv + 1) t0 D0 s3 ∧ s3.2.1 = s.2.1 ∧ s3.2.2.1 = s.2.2.1 ∧ s3.2.2.2.2.2 = s.2.2.2.2.2 ∧ MKS C lv (fcS P R p a s.2.2.2.1 s q S) ∧ WI C lv t0 s.2.2.2.1 s.2.2.2.2.1 s.2.2.1.length D0 s.1 1 ∧ FS w dp lv t0 D0 s A0 C := by
  have h150 := (hw p hp).2.2.1
  have wlv : zw ((lv : Int) + 1 - 1) = lv := by rw [yb_w (by omega) (by omega)]; omega
  have wa1 : zw ((a : Int) + 1) = ((a + 1 : Nat) : Int) := by rw [yb_w (by omega) (by omega)]; omega
  intro q
  induction q with
  | zero => intro S X tX DX hc; omega
  | succ q ih =>
    intro S X tX DX hc hS hI
    obtain ⟨Y, C, k, y, s3, c1, c2, c3, c4, c5, c6, c7, c8, c9, c10, c11, c12, c13, c14, c15, c16⟩ := r_round (A00 := A00) hN hG hB hX hM hw hw2 hz hp hm he h11 h1 h2 h3 b1 b2 hdp hl h00 hP gt gW gW2 gI gI2 gw gC hS hI
    generalize hz1 : rsz P sz p (a + 1) (m - (a + 1)) = z1 at *
    generalize hz2 : rsz P sz p (m + 1) (e - (m + 1)) = z2 at *
    have PY := c3.pr hP
    have hq : (q + 1) * (kc n * z1 + kc n * z2 + 2) = q * (kc n * z1 + kc n * z2 + 2) + (kc n * z1 + kc n * z2 + 2) := by rw [Nat.add_mul, Nat.one_mul]
    have fc : fcS P R p a s.2.2.2.1 s (q + 1) S = cif (rdS P R p a s.2.2.2.1 s S = S) S (fcS P R p a s.2.2.2.1 s q (rdS P R p a s.2.2.2.1 s S)) := rfl
    by_cases hst : rdS P R p a s.2.2.2.1 s S = S
    · have hy : y = 1 := c15.mpr hst
      refine ⟨C, k + 1, s3, by omega, fun B hB hPB => c2.trans (fun f => ?_), c8, c9, c10, c11, ?_, c13, c16⟩
      · rw [ws PY hp (by omega) hz (by omega) h150, if_neg (by omega), if_neg (by omega), if_neg (by omega), if_neg (by omega), if_pos h12]
        unfold z_M_ends
        rw [c4, wlv, zrd_ok (by omega) (by omega), c5, if_pos rfl, zrd_ok (by omega) (by omega), c6, if_neg (by decide), c7, zbI_s, hy, if_neg (by decide), hB, zbV_s]
        unfold z_M_ends_48
        rw [zrd_ok (by omega) (by omega), pr_mate hPB hp (by omega) (by omega) hea, wa1, zbI_s]
      · rw [fc, cif_pos hst]
        rw [hst] at c12
        exact c12
    · have hy : y = 0 := by
        rcases c14 with z | z
        · exact z
        · exact absurd (c15.mp z) hst
      obtain ⟨X', t', D', t1, t2, t3, t4, t5, t6⟩ := r_turn (S := rdS P R p a s.2.2.2.1 s S) (f0 := s.1) (W := s.2.2.2.1) (I := s.2.2.2.2.1) hN (show dp ≤ 3 by omega) (show lv < 30 by omega) gW (by omega) gI (by omega) (by omega) c8 c13.2.2.2.2.2.2 c13.2.2.2.1 c13.2.2.2.2.1 c12 (by rw [c16.2]; exact h261)
      have F' := c16.step t6 (fun a j z => by rw [c10] at z; exact qX_rQ a j z) qX_261
      have eb : sBeg s.2.2.2.1 (rdS P R p a s.2.2.2.1 s S) (s.1, s3.2.1, s3.2.2.1, s.2.2.2.1, s.2.2.2.2.1, s3.2.2.2.2.2) = sBeg s.2.2.2.1 (rdS P R p a s.2.2.2.1 s S) s := by
        rw [c9, c10, c11]
      rw [eb] at t2
      have hqx : ∀ a j, qX w dp s3.2.2.1.length a j → ¬ (269 ≤ a ∧ a ≤ 283) := fun a j z => by
        rcases z with (z | z) | (z | z | z) | ((z | z) | z | z) | z
        all_goals omega
      have I' : INV w sc dp lv t0 D0 s A0 (rdS P R p a s.2.2.2.1 s S) X' t' D' := ⟨t2, fun i hi => by rw [t6.l (fun z => hqx _ _ z (by omega))]; exact c12 i hi, c13.mono t6 (fun a j z => by have := hqx _ _ z; omega), t3, t4, t5, F'⟩
      have hlt : cnt (rdS P R p a s.2.2.2.1 s S) 61 < q := by
        have hsub : ∀ i, rdS P R p a s.2.2.2.1 s S i = true → S i = true := fun i hi => by
          cases hs : S i with
          | true => rfl
          | false => rw [rdS_sub hs] at hi; cases hi
        have hne : ∃ r, r < 61 ∧ S r = true ∧ rdS P R p a s.2.2.2.1 s S r = false := Classical.byContradiction (fun c => hst (by
          funext i
          cases hs : S i with
          | false => exact rdS_sub hs
          | true =>
            by_cases z : i < 61
            · cases hr : rdS P R p a s.2.2.2.1 s S i with
              | true => rfl
              | false => exact absurd ⟨i, z, hs, hr⟩ c
            · rw [hS i (by omega)] at hs; cases hs))
        obtain ⟨r, r1, r2, r3⟩ := hne
        have := cnt_lt (S := S) (S' := rdS P R p a s.2.2.2.1 s S) 61 (fun i _ => hsub i) r1 r2 r3
        omega
      obtain ⟨C', k', s3', d1, d2, d3, d4, d5, d6, d7, d8, d9⟩ := ih (rdS P R p a s.2.2.2.1 s S) X' t' D' hlt (fun i hi => rdS_sub (hS i hi)) I'
      have PX' := F'.pr hP
      have U : RU N w z p e p (a + 1) 1 Y X' := fun f => by
        rw [ws PY hp (by omega) hz (by omega) h150, if_neg (by omega), if_neg (by omega), if_neg (by omega), if_neg (by omega), if_pos h12]
        unfold z_M_ends
        rw [c4, wlv, zrd_ok (by omega) (by omega), c5, if_pos rfl, zrd_ok (by omega) (by omega), c6, if_neg (by decide), c7, zbI_s, hy, if_pos rfl, t1, zbV_s]
        unfold z_M_ends_48
        rw [zrd_ok (by omega) (by omega), pr_mate PX' hp (by omega) (by omega) hea, wa1, zbI_s]
      refine ⟨C', k + 1 + k', s3', by omega, fun B hB hPB => (c2.trans U).trans (d2 B hB hPB), d3, d4, d5, d6, ?_, d8, d9⟩
      rw [fc, cif_neg hst]
      exact d7
/-- WHILE: the first silent round begins -/
theorem r_circling {A : zA} (hN : 300000 ≤ N) (hd : dp ≤ 3) (hl : lv < 29) (ht : t0 + 61 < 16000) (gW : 0 ≤ s.2.2.2.1) (gW2 : s.2.2.2.1 < 20000) (gI2 : s.2.2.2.2.1 < 20000) (gw : s.2.2.1.length ≤ 150) (hsc : sc ≤ 29) (h : RW A w sc dp lv t0 D0 s) : ∃ (A1 X : zA) (tX : Nat) (DX : Nat → T), z_M_circling N A = some X ∧ INV w sc dp lv t0 D0 s A (cS0 60) X tX DX ∧ RC A1 w (sc + 1) dp (lv + 1) t0 D0 s := by
  have gI := h.2.2.2.2.2.2.2.2
  have hl0 := h.1.1.1
  unfold z_M_circling
  obtain ⟨A1, b1, b2, b3, b4, b5⟩ := r_block (N := N) (x := 3) h (by omega) (by decide) (by omega)
  have h66 : zi A1 226 66 = (lv : Int) + 1 := by have := b2.2.2.2.2.1.2.1; omega
  have wlv : zw ((lv : Int) + 1 - 1) = lv := by rw [yb_w (by omega) (by omega)]; omega
  rw [b1, zbV_s]
  obtain ⟨A2, l1, l2, l3, l4⟩ := r_lay_278 hN b2 hd (by omega)
  rw [l1, zbV_s, h66, wlv]
  have h64 : zi A2 226 64 = s.2.2.2.1 := l2.2.2.2.2.1.2.2.2.1
  have h65 : zi A2 226 65 = s.2.2.2.2.1 := l2.2.2.2.2.1.2.2.2.2
  have h42 : zi A2 226 42 = t0 := l2.1.1.2.1
  have h80 : zi A2 226 80 = sc := l2.2.2.2.2.1.2.2.1
  unfold zwl
  rw [if_pos (by omega), Int.toNat_natCast]
  dsimp only
  rw [zwr_ok (by omega) (by omega)]
  have r1 : zi (rs (zsl A2 279 lv (Int64.ofNat 2305843009213693951)) 280 lv 1) 226 64 = s.2.2.2.1 := by rw [zi_rs_o (by decide)]; exact h64
  rw [r1, zwr_ok (by omega) (by omega)]
  have r2 : zi (rs (rs (zsl A2 279 lv (Int64.ofNat 2305843009213693951)) 280 lv 1) 281 lv s.2.2.2.1) 226 65 = s.2.2.2.2.1 := by rw [zi_rs_o (by decide), zi_rs_o (by decide)]; exact h65
  rw [r2, zwr_ok (by omega) (by omega)]
  have r3 : zi (rs (rs (rs (zsl A2 279 lv (Int64.ofNat 2305843009213693951)) 280 lv 1) 281 lv s.2.2.2.1) 282 lv s.2.2.2.2.1) 226 42 = t0 := by rw [zi_rs_o (by decide), zi_rs_o (by decide), zi_rs_o (by decide)]; exact h42
  rw [r3, zwr_ok (by omega) (by omega), zlet_s]
  have r4 : zi (rs (rs (rs (rs (zsl A2 279 lv (Int64.ofNat 2305843009213693951)) 280 lv 1) 281 lv s.2.2.2.1) 282 lv s.2.2.2.2.1) 283 lv t0) 226 80 = sc := by rw [zi_rs_o (by decide), zi_rs_o (by decide), zi_rs_o (by decide), zi_rs_o (by decide)]; exact h80
  rw [r4]
  have f3 : fr (fun a j => 279 ≤ a ∧ a ≤ 283 ∧ j = lv) A2 (rs (rs (rs (rs (zsl A2 279 lv (Int64.ofNat 2305843009213693951)) 280 lv 1) 281 lv s.2.2.2.1) 282 lv s.2.2.2.2.1) 283 lv t0) := ((((fr_sl ⟨by omega, by omega, rfl⟩).trans (fr_rs ⟨by omega, by omega, by omega⟩)).trans (fr_rs ⟨by omega, by omega, by omega⟩)).trans (fr_rs ⟨by omega, by omega, by omega⟩)).trans (fr_rs ⟨by omega, by omega, by omega⟩)
  have v279 : zml (rs (rs (rs (rs (zsl A2 279 lv (Int64.ofNat 2305843009213693951)) 280 lv 1) 281 lv s.2.2.2.1) 282 lv s.2.2.2.2.1) 283 lv t0) 279 lv = Int64.ofNat 2305843009213693951 := by
    show zml (zsl A2 279 lv (Int64.ofNat 2305843009213693951)) 279 lv = _
    rw [zml_sl, if_pos ⟨rfl, rfl⟩]
  have v280 : ri (rs (rs (rs (rs (zsl A2 279 lv (Int64.ofNat 2305843009213693951)) 280 lv 1) 281 lv s.2.2.2.1) 282 lv s.2.2.2.2.1) 283 lv t0) 280 lv = 1 := by
    rw [ri_rs_o (by decide), ri_rs_o (by decide), ri_rs_o (by decide), ri_rs_s]; decide
  have v281 : ri (rs (rs (rs (rs (zsl A2 279 lv (Int64.ofNat 2305843009213693951)) 280 lv 1) 281 lv s.2.2.2.1) 282 lv s.2.2.2.2.1) 283 lv t0) 281 lv = s.2.2.2.1 := by
    rw [ri_rs_o (by decide), ri_rs_o (by decide), ri_rs_s, yb_w (by omega) (by omega)]
  have v282 : ri (rs (rs (rs (rs (zsl A2 279 lv (Int64.ofNat 2305843009213693951)) 280 lv 1) 281 lv s.2.2.2.1) 282 lv s.2.2.2.2.1) 283 lv t0) 282 lv = s.2.2.2.2.1 := by
    rw [ri_rs_o (by decide), ri_rs_s, yb_w (by omega) (by omega)]
  have v283 : ri (rs (rs (rs (rs (zsl A2 279 lv (Int64.ofNat 2305843009213693951)) 280 lv 1) 281 lv s.2.2.2.1) 282 lv s.2.2.2.2.1) 283 lv t0) 283 lv = t0 := by
    rw [ri_rs_s, yb_w (by omega) (by omega)]
  have l2' := l2.lev f3 (fun a j q => by omega)
  generalize rs (rs (rs (rs (zsl A2 279 lv (Int64.ofNat 2305843009213693951)) 280 lv 1) 281 lv s.2.2.2.1) 282 lv s.2.2.2.2.1) 283 lv t0 = A3 at *
  have f4 : fr qC A3 (zsi A3 226 80 (sc + 1)) := fr_si ⟨rfl, Or.inr (Or.inr rfl)⟩
  have e80 : zi (zsi A3 226 80 (sc + 1)) 226 80 = sc + 1 := by rw [zi_si_s, yb_w (by omega) (by omega)]
  have eo : ∀ j, j ≠ 80 → zi (zsi A3 226 80 (sc + 1)) 226 j = zi A3 226 j := fun j hj => zi_si_j hj
  have ee : ∀ a e, 226 < a → ri (zsi A3 226 80 (sc + 1)) a e = ri A3 a e := fun a e ha => ri_si_o (by omega)
  have el : ∀ a j, zml (zsi A3 226 80 (sc + 1)) a j = zml A3 a j := fun _ _ => rfl
  generalize zsi A3 226 80 (sc + 1) = A4 at *
  have h4 : RC A4 w (sc + 1) dp (lv + 1) t0 D0 s := by
    refine l2'.rc.upd (f := s.1) f4 ?_ l2'.2.2.2.2.2.2.2.1 gI
    have := l2'.2.2.2.2.1
    unfold RFl at this ⊢
    rw [eo 62 (by omega), eo 66 (by omega), e80, eo 64 (by omega), eo 65 (by omega)]
    exact ⟨this.1, this.2.1, by omega, this.2.2.2⟩
  have F0 : FS w dp lv t0 D0 s A A := ⟨fr.refl _ _, rfl⟩
  have F4 := (((F0.step b5 qB_rQ (fun q => by unfold qB at q; omega)).step l4 (qR_rQ (by omega)) (fun q => by unfold qR at q; omega)).step f3 (fun a j q => rQ_lv ⟨by omega, by omega⟩) (fun q => by omega)).step f4 (fun a j q => rQ_f ⟨q.1, Or.inr (by have := q.2; omega)⟩) (fun q => by unfold qC at q; omega)
  have sv4 : SV A4 278 lv t0 D0 s.1 := l3.mono (fun i hi => by rw [ee _ _ (by omega), f3.e (fun q => by omega)]) (Nat.le_refl _) (fun _ _ => rfl)
  have M4 : MKS A4 lv (cS0 60) := fun i hi => by
    rw [el, v279, bt_full ⟨i, by omega⟩]
    unfold cS0
    by_cases c : i = 60
    · subst c; rfl
    · have c1 : Nat.blt i 61 = true := by rw [Nat.blt_eq]; omega
      have c2 : Nat.blt i 60 = true := by rw [Nat.blt_eq]; omega
      dsimp only
      rw [c1, c2]
      rfl
  have W4 : WI A4 lv t0 s.2.2.2.1 s.2.2.2.2.1 s.2.2.1.length D0 s.1 1 := ⟨by rw [ee _ _ (by omega), f3.e (fun q => by omega), l4.e (fun q => by unfold qR at q; omega)]; exact b3, by rw [ee _ _ (by omega), f3.e (fun q => by omega), l4.e (fun q => by unfold qR at q; omega)]; exact b4, by rw [ee _ _ (by omega)]; exact v280, by rw [ee _ _ (by omega)]; exact v281, by rw [ee _ _ (by omega)]; exact v282, by rw [ee _ _ (by omega)]; exact v283, sv4⟩
  obtain ⟨X, tX, DX, t1, t2, t3, t4, t5, t6⟩ := r_turn (S := cS0 60) (f0 := s.1) (W := s.2.2.2.1) (I := s.2.2.2.2.1) hN hd (show lv < 30 by omega) gW (by omega) gI (by omega) (by omega) h4 sv4 W4.2.2.2.1 W4.2.2.2.2.1 M4 (by rw [F4.2]; exact h.2.2.2.2.2.2.2.1)
  rw [t1, zbV_s]
  have hqx : ∀ a j, qX w dp s.2.2.1.length a j → ¬ (269 ≤ a ∧ a ≤ 283) := fun a j z => by
    rcases z with (z | z) | (z | z | z) | ((z | z) | z | z) | z
    all_goals omega
  exact ⟨A4, X, tX, DX, rfl, ⟨t2, fun i hi => by rw [t6.l (fun z => hqx _ _ z (by omega))]; exact M4 i hi, W4.mono t6 (fun a j z => by have := hqx _ _ z; omega), t3, t4, t5, F4.step t6 qX_rQ qX_261⟩, h4⟩
end
