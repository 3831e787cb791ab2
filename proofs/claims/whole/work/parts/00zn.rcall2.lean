section
variable {N w z sc dp lv t p a b : Nat} {A B : zA} {D : Nat → T} {s : St} {P : Pg} {sz : Nat → Nat} {ex : Nat → Prop} {nd : Int → Nat}
theorem FQ.pr {t' : Nat} {D' : Nat → T} (h : FQ w sc dp lv t t' D D' s A B) (hP : PrR A z ex P) : PrR B z ex P := hP.fr h.2.2.1 (fun a j q => by have := rQ_no q; omega)
theorem rQ_own_n {yw nc e : Nat} {Z : Nat → Prop} (h : e < 60 * dp + 6) : ¬ rQ w dp lv yw nc Z 268 e := fun q => by
  rcases q with q | q | q | q | q | q | q | q | q | q | q | q
  all_goals omega
theorem rQ_wb_n {yw nc e a : Nat} {Z : Nat → Prop} (h : e < dp) (ha : a = 269 ∨ a = 270) : ¬ rQ w dp lv yw nc Z a e := fun q => by
  rcases q with q | q | q | q | q | q | q | q | q | q | q | q
  all_goals omega
theorem g_call {R : Bool → Nat → Nat → Nat → St → St} {n : Nat} (hN : 300000 ≤ N) (hG : GR N w z P sz ex nd R n) (hw : WfP P ex) (hW : WB P sz ex nd) (hw2 : w < 2) (hz : z < 3) (hp : ex p) (h7 : P.1 p a = 7) (hab : a < b) (hb : b ≤ P.2.2.2.1 p) (hlow : P.2.1 p a 1 < p) (hn : nd (P.2.1 p a 1) ≤ n) (hdp : dp + p ≤ 3) (hl : lv + n ≤ 29 ∧ sc ≤ lv) (h : RW A w sc dp lv t D s) (hP : PrR A z ex P) (hg : BR P sz (Nat.blt 0 sc) p a (b - a) t s) : ∃ (B : zA) (t' : Nat) (D' : Nat → T) (k : Nat), k ≤ kc n * cst P sz p a ∧ RU N w z p a p (a + 1) k A B ∧ RW B w sc dp lv t' D' (clS P R (Nat.blt 0 sc) p a s) ∧ FQ w sc dp lv t t' D D' s A B ∧ t' ≤ t + 21 * cst P sz p a := by
  obtain ⟨w1, w2, w3, w4⟩ := hw p hp
  obtain ⟨u1, u2, u3, u4, u5⟩ := w4 a (by omega)
  obtain ⟨v1, v2, v3⟩ := u5 h7
  have nb : nbk (P.1 p a) = 2 := by rw [h7]; decide
  have hrr := (u3 0 (by omega)).2.2 ⟨fun z => by omega, fun z => by omega, fun z => by omega⟩
  have hr1 := rsz_one (P := P) (sz := sz) (p := p) hab
  obtain ⟨⟨g1, g2, g3, g4, g5, gw, gC, g6⟩, g7⟩ := hg
  have hcst : cst P sz p a = 1 + sz (P.2.1 p a 1).toNat := by unfold cst; rw [if_pos h7]
  obtain ⟨q, hq⟩ : ∃ q : Nat, P.2.1 p a 1 = q := ⟨(P.2.1 p a 1).toNat, by omega⟩
  obtain ⟨x, hx⟩ : ∃ x : Nat, P.2.1 p a 0 = x := ⟨(P.2.1 p a 0).toNat, by omega⟩
  have hqn : (P.2.1 p a 1).toNat = q := by omega
  have hxn : (P.2.1 p a 0).toNat = x := by omega
  rw [hqn] at v3 hcst
  obtain ⟨w1', w2', w3', w4'⟩ := hw q v3
  obtain ⟨bq1, bq2⟩ := hW q v3 (by omega)
  rw [hq] at hn
  have hr0 := Nat.sub_zero (P.2.2.2.1 q)
  have F1 : z_M_field N z p a 1 A = some (x : Int) := by rw [← hx]; exact hP.f hp (by omega) hz (by omega) w3 (show 0 < nbk (P.1 p a) by omega)
  have F2 : z_M_field N z p a 2 A = some (q : Int) := by rw [← hq]; exact hP.f hp (by omega) hz (by omega) w3 (show 1 < nbk (P.1 p a) by omega)
  obtain ⟨j, j1, j2, j3⟩ := r_get (N := N) (r := x) h (by omega) (by omega)
  generalize hcs : cst P sz p a = cs at *
  generalize hz0 : rsz P sz p a (b - a) = z0 at *
  generalize hzq : rsz P sz q 0 (P.2.2.2.1 q) = zq at *
  obtain ⟨A1, t1, D1, e1, e2, e3, e4, e5, e6, e7, e8⟩ := r_enter (p := p) (a := a + 1) (q := q) (x := x) hN h (by omega) (by omega) (by omega) (by omega) (by omega) j1 j3
  have U1 : RU N w z p a q 0 1 A A1 := fun f => by
    rw [ws hP hp (by omega) hz (by omega) w3, if_neg (by omega), if_pos h7, F2, zbP_s, F1, zbP_s, j2, zbP_s, e1, zbV_s]
    rfl
  have X1 : FQ w sc dp lv t t1 D D1 s A A1 := FQ.of e3 e5 e6 (fun a j z => by
    rcases z with (z | z) | z | z | z
    · exact rQ_th z
    · exact rQ_f ⟨z.1, Or.inl z.2⟩
    · exact rQ_f ⟨z.1, Or.inr (Or.inl (by omega))⟩
    · exact rQ_own ⟨z.1, by omega⟩
    · exact rQ_wb z) (fun z => by
    rcases z with (z | z) | z | z | z
    all_goals omega)
  have P1 := X1.pr hP
  obtain ⟨A2, t2, D2, k2, i1, i2, i3, i4, i5⟩ := hG sc q 0 (P.2.2.2.1 q) (dp + 1) lv t1 D1 (clP s.1 x, s.2) A1 v3 (Bl_mono bq1 hn) (Nat.le_refl _) (by omega) hl e2 P1 ⟨⟨by rw [hr0, hzq]; omega, g2, by rw [hr0, hzq]; dsimp only; omega, g4, by rw [hr0, hzq]; dsimp only; omega, gw, gC, fun y => by rw [hr0, hzq]; have := g6 y; dsimp only; omega⟩, by rw [hr0, hzq]; omega⟩
  rw [hr0, hzq] at i1 i5
  have X2 : FQ w sc dp lv t t2 D D2 s A A2 := X1.trans i4 (by omega) (Nat.le_refl _) (Nat.le_refl _) (Int.le_refl _) h.2.2.2.2.2.2.1
  have P2 := X2.pr hP
  unfold clS
  simp only [hqn, hxn]
  generalize R (Nat.blt 0 sc) q 0 (P.2.2.2.1 q) (clP s.1 x, s.2) = s1 at *
  have d62 : zi A2 226 62 = (dp : Int) + 1 := by have := i3.2.2.2.2.1.1; omega
  have d9 : ri A2 269 dp = p := by rw [i4.2.2.1.e (rQ_wb_n (by omega) (Or.inl rfl))]; exact e7
  have d0 : ri A2 270 dp = ((a + 1 : Nat) : Int) := by rw [i4.2.2.1.e (rQ_wb_n (by omega) (Or.inr rfl))]; exact e8
  have U3 := ws_back (N := N) (w := w) (z := z) (p := q) (A := A2) (dp := dp) (p' := p) (a' := a + 1) (P2 q v3).1 (by omega) hz d62 (by omega) d9 d0
  have f3 : fr qC A2 (zsi A2 226 62 dp) := fr_si ⟨rfl, Or.inl rfl⟩
  have e62 : zi (zsi A2 226 62 dp) 226 62 = dp := by rw [zi_si_s, yb_w (by omega) (by omega)]
  have eo : ∀ j, j ≠ 62 → zi (zsi A2 226 62 dp) 226 j = zi A2 226 j := fun j hj => zi_si_j hj
  have ee : ∀ a e, 226 < a → ri (zsi A2 226 62 dp) a e = ri A2 a e := fun a e ha => ri_si_o (by omega)
  generalize zsi A2 226 62 dp = B at *
  have hRW : RW B w sc dp lv t2 D2 (clB s.1 s1.1, s1.2) := by
    refine i3.upd f3 ?_ (fun i hi => ?_) i3.2.2.2.2.2.2.2.1 i3.2.2.2.2.2.2.2.2
    · have := i3.2.2.2.2.1
      unfold RFl at this ⊢
      rw [e62, eo 66 (by omega), eo 80 (by omega), eo 64 (by omega), eo 65 (by omega)]
      exact ⟨rfl, this.2⟩
    · unfold clB
      by_cases c : i < 6 ∨ i = 60
      · rw [if_pos c]
        have := i3.2.1 i hi
        have er : rpl B dp i = rpl A2 (dp + 1) i := by
          unfold rpl
          rcases c with c | c
          · rw [if_neg (by omega), if_pos c, if_neg (by omega), if_pos c, ee 267 _ (by omega)]
          · rw [if_pos c, if_pos c, eo 63 (by omega)]
        rw [er]
        exact this
      · rw [if_neg c]
        have := (h.2.1 i hi).mono X2.1 X2.2.1
        have er : rpl B dp i = rpl A dp i := by
          unfold rpl
          rw [if_neg (by omega), if_neg (by omega), if_neg (by omega), if_neg (by omega), ee 268 _ (by omega), i4.2.2.1.e (rQ_own_n (by omega)), e6.e (fun z => by
            rcases z with (z | z) | z | z | z
            all_goals omega)]
        rw [er]
        exact this
  refine ⟨B, t2, D2, 1 + k2 + 1, ?_, (U1.trans i2).trans U3, hRW, ?_, by omega⟩
  · have k3 := kc_pos n
    have h1 : kc n * zq ≤ kc n * sz q := Nat.mul_le_mul_left _ bq2
    have h2 : kc n * cs = kc n + kc n * sz q := by rw [hcst, Nat.mul_add, Nat.mul_one]
    omega
  · refine X2.trans (s1 := s) (dp' := dp) (lv' := lv) (t2 := t2) ?_ (Nat.le_refl _) (Nat.le_refl _) (Nat.le_refl _) (Int.le_refl _) h.2.2.2.2.2.2.1
    exact FQ.of (Nat.le_refl _) (fun _ _ => rfl) f3 (fun a j z => rQ_f ⟨z.1, Or.inr (by have := z.2; omega)⟩) (fun z => by have := z.1; omega)
end
