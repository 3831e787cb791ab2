/-! WHILE: findCircling, tellCircling -/
section
variable {N : Nat} {A : zA} {sil : Bool} {lv c ta R0 t : Nat} {D : Nat → T} {s : St} {P : Pg} {sz : Nat → Nat} {ex : Nat → Prop} {nd : Int → Nat}
theorem w_rounds {rec : Nat → Int → Int → Int → zA → Option zA} {R : Bool → Nat → Nat → Nat → St → St} {n p a m e b y2 y3 : Nat} (hN : 300000 ≤ N) (hG : GOH P sz ex nd R0 rec R n) (hB : RB P sz ex nd R n) (hX : RX R) (hM : RM R) (hR0 : R0 ≤ 35) (hex : ∀ p, ex p → p ≤ 3) (hw : WfP P ex) (hp : ex p) (h10 : P.1 p a = 10) (hm : P.2.2.1 p a = m) (he : P.2.2.1 p m = e) (h11 : P.1 p m = 11) (h1 : a < m) (h2 : m < e) (h3 : e < b) (hb : b ≤ P.2.2.2.1 p) (b1 : Bl nd (P.1 p) (fun k => P.2.1 p k 1) (P.2.2.1 p) n (a + 1) m) (b2 : Bl nd (P.1 p) (fun k => P.2.1 p k 1) (P.2.2.1 p) n (m + 1) e) (hl : lv + n ≤ 22) (hc : okc lv c) (hta : okt ta) (hy2 : okr lv y2) (hy3 : okr lv y3) (hne : y2 ≠ y3) (ht : t + 21 * (rsz P sz p (a + 1) (m - (a + 1)) + rsz P sz p (m + 1) (e - (m + 1))) ≤ 30000) (g2 : 0 ≤ s.2.2.2.1) (g3 : s.2.2.2.1 + 1 + (rsz P sz p (a + 1) (m - (a + 1)) + rsz P sz p (m + 1) (e - (m + 1))) ≤ 10000) (g4 : 0 ≤ s.2.2.2.2.1) (g5 : s.2.2.2.2.1 + (rsz P sz p (a + 1) (m - (a + 1)) + rsz P sz p (m + 1) (e - (m + 1))) ≤ 10000) (gw : s.2.2.1.length ≤ 150) (gC : CI s) : ∀ (r fu : Nat) (S : Nat → Bool) (A : zA), r ≤ 62 → r + 1 < fu → RS A true c ta R0 t y2 y3 D s s.2.2.2.1 S ex P → ∃ B, z_Wk_findCircling_117_l rec N fu (R0 + 2 + 3 * p) a lv y2 y3 m (s.2.2.2.1 + 1) s.2.2.2.2.1 (if sil then 1 else 0) 0 ((62 - r : Nat) : Int) A = some B ∧ RS B sil c ta R0 t y2 y3 D s s.2.2.2.1 (fcS P R p a s.2.2.2.1 s r S) ex P ∧ cF (wl lv c ta) A B := by
  -- the end: silence as it was
  have fin : ∀ (g : Nat) (x10 x11 : Int) (S : Nat → Bool) (A : zA), (61 < x11 ∨ x10 = 1) → RS A true c ta R0 t y2 y3 D s s.2.2.2.1 S ex P → ∃ B, z_Wk_findCircling_117_l rec N (g + 1) (R0 + 2 + 3 * p) a lv y2 y3 m (s.2.2.2.1 + 1) s.2.2.2.2.1 (if sil then 1 else 0) x10 x11 A = some B ∧ RS B sil c ta R0 t y2 y3 D s s.2.2.2.1 S ex P ∧ cF (wl lv c ta) A B := by
    intro g x10 x11 S A hx h
    obtain ⟨a1, a2, a3, a4, a5, a6, a7, a8, a9, a10, a11⟩ := hta.fx
    obtain ⟨k1, k2, k3, k4⟩ := hy2.fx (show lv ≤ 23 by omega)
    obtain ⟨l1, l2, l3, l4⟩ := hy3.fx (show lv ≤ 23 by omega)
    obtain ⟨hV, hrow, hCY, hP, h61⟩ := h
    obtain ⟨v1, v2⟩ := hV.fld (j := 10) (z := if sil then 1 else 0) (s' := (s.1, s.2.1, s.2.2.1, s.2.2.2.1 + 1, s.2.2.2.2)) (sil' := sil) hta rfl rfl rfl (by decide) ⟨by rw [zi_si_s]; cases sil <;> decide, by rw [zi_si_j (by decide)]; exact hV.2.2.2.2.1.2.1, by rw [zi_si_j (by decide)]; exact hV.2.2.2.2.1.2.2⟩
    refine ⟨zsi A 110 10 (if sil then 1 else 0), ?_, ⟨v1, fun i hi => by rw [ri_si_o (by omega)]; exact hrow i hi, fun i hi => by rw [ri_si_o (by omega)]; exact hCY i hi, hP.fr v2 (fun p' hp' => cont2 (by have := hex p' hp'; omega)), h61⟩, v2.mono (fun a ha => c1_wl (by omega) ha)⟩
    show z_Wk_findCircling_117_b rec (z_Wk_findCircling_117_l rec N g) N _ _ _ _ _ _ _ _ _ _ _ A = _
    unfold z_Wk_findCircling_117_b
    have hz : zbl (if sil then (1 : Int) else 0) (zsi A 110 10 (if sil then 1 else 0)) (fun A2 => some A2) = some (zsi A 110 10 (if sil then 1 else 0)) := by
      unfold zbl
      cases sil <;> rfl
    rw [hz]
    rcases hx with hx | hx
    · rw [if_pos hx]
    · rw [if_neg (show ¬ x10 = 0 by omega)]
      split <;> rfl
  intro r
  induction r with
  | zero =>
    intro fu S A hr hf h
    obtain ⟨g, rfl⟩ : ∃ g, fu = g + 1 := ⟨fu - 1, by omega⟩
    exact fin g 0 _ S A (Or.inl (by omega)) h
  | succ r ih =>
    intro fu S A hr hf h
    obtain ⟨g, rfl⟩ : ∃ g, fu = g + 1 := ⟨fu - 1, by omega⟩
    obtain ⟨B, fl, k1, k2, k3, k4⟩ := w_round (r117 := z_Wk_findCircling_117_l rec N g) (x9 := if sil then 1 else 0) (x11 := 62 - (r + 1)) hN hG hB hX hM hR0 hex hw hp h10 hm he h11 h1 h2 h3 hb b1 b2 hl hc hta hy2 hy3 hne ht g2 g3 g4 g5 gw gC h (by omega)
    have e1 : z_Wk_findCircling_117_l rec N (g + 1) (R0 + 2 + 3 * p) a lv y2 y3 m (s.2.2.2.1 + 1) s.2.2.2.2.1 (if sil then 1 else 0) 0 ((62 - (r + 1) : Nat) : Int) A = z_Wk_findCircling_117_l rec N g (R0 + 2 + 3 * p) a lv y2 y3 m (s.2.2.2.1 + 1) s.2.2.2.2.1 (if sil then 1 else 0) fl ((62 - (r + 1) + 1 : Nat) : Int) B := k1
    rw [e1]
    have e2 : fcS P R p a s.2.2.2.1 s (r + 1) S = cif (rdS P R p a s.2.2.2.1 s S = S) S (fcS P R p a s.2.2.2.1 s r (rdS P R p a s.2.2.2.1 s S)) := rfl
    rw [e2]
    rcases k4 with ⟨f1, f2⟩ | ⟨f1, f2⟩
    · rw [cif_pos f2]
      obtain ⟨g', rfl⟩ : ∃ g', g = g' + 1 := ⟨g - 1, by omega⟩
      rw [f2] at k2
      obtain ⟨C, m1, m2, m3⟩ := fin g' fl ((62 - (r + 1) + 1 : Nat) : Int) S B (Or.inr f1) k2
      exact ⟨C, m1, m2, k3.trans m3⟩
    · rw [cif_neg f2, f1, show 62 - (r + 1) + 1 = 62 - r by omega]
      obtain ⟨C, m1, m2, m3⟩ := ih g (rdS P R p a s.2.2.2.1 s S) B (by omega) (by omega) k2
      exact ⟨C, m1, m2, k3.trans m3⟩
/-- a circling thing for each place -/
theorem w_mkc {rec : Nat → Int → Int → Int → zA → Option zA} {p a m y2 y3 : Nat} {w ip x9 : Int} (hN : 300000 ≤ N) (hR0 : R0 ≤ 35) (hex : ∀ p, ex p → p ≤ 3) (hw : WfP P ex) (hp : ex p) (hl : lv ≤ 22) (hc : okc lv c) (hta : okt ta) (hy2 : okr lv y2) (hy3 : okr lv y3) (hne : y2 ≠ y3) (hw0 : 0 ≤ w) (hw1 : w ≤ 20000) : ∀ (r n fu t : Nat) (D : Nat → T) (A : zA), n + r = 61 → r < fu → t + r ≤ 38000 → CW A sil c ta R0 t D s → CPl A y2 t D s.1 → CY A y3 t D w (fun i => Nat.blt i n && cS0 (P.2.2.2.2 p) i) → PrC A R0 ex P → ∃ (B : zA) (t' : Nat) (D' : Nat → T), z_Wk_findCircling_56_l rec N fu (R0 + 2 + 3 * p) a lv y2 y3 m (w + 1) ip x9 n A = (zlet (zsi B 110 10 1) fun A4 => z_Wk_findCircling_117 rec N (R0 + 2 + 3 * p) a lv y2 y3 m (w + 1) ip x9 0 0 A4) ∧ CW B sil c ta R0 t' D' s ∧ CPl B y2 t' D' s.1 ∧ CY B y3 t' D' w (cS0 (P.2.2.2.2 p)) ∧ PrC B R0 ex P ∧ WX lv c ta t t' D D' A B ∧ t' ≤ t + r := by
  obtain ⟨c1, c2, c3, c4, c5⟩ := hc.fx (show lv ≤ 24 by omega)
  obtain ⟨k1, k2, k3, k4⟩ := hy2.fx (show lv ≤ 23 by omega)
  obtain ⟨l1, l2, l3, l4⟩ := hy3.fx (show lv ≤ 23 by omega)
  obtain ⟨a1, a2, a3, a4, a5, a6, a7, a8, a9, a10, a11⟩ := hta.fx
  have q21 := hy2.1
  have q22 := hy2.2
  have q31 := hy3.1
  have q32 := hy3.2
  obtain ⟨w1, w2, w3, w4⟩ := hw p hp
  have wz : zw (w + 1 - 1) = w := by rw [yb_w (by omega) (by omega)]; omega
  intro r
  induction r with
  | zero =>
    intro n fu t D A h1 h2 h3 h h4 h5 h6
    obtain ⟨g, rfl⟩ : ∃ g, fu = g + 1 := ⟨fu - 1, by omega⟩
    refine ⟨A, t, D, ?_, h, h4, fun i hi => ?_, h6, WX.refl h.1.1, by omega⟩
    · show z_Wk_findCircling_56_b rec (z_Wk_findCircling_56_l rec N g) N _ _ _ _ _ _ _ _ _ n A = _
      unfold z_Wk_findCircling_56_b
      rw [if_neg (by omega)]
    · have := h5 i hi
      have hb : Nat.blt i n = true := Nat.blt_eq.mpr (by omega)
      dsimp only at this
      rw [hb, Bool.true_and] at this
      exact this
  | succ r ih =>
    intro n fu t D A h1 h2 h3 h h4 h5 h6
    obtain ⟨g, rfl⟩ : ∃ g, fu = g + 1 := ⟨fu - 1, by omega⟩
    have wn1 : zw ((n : Int) + 1) = ((n + 1 : Nat) : Int) := by rw [yb_w (by omega) (by omega)]; omega
    have hreg : zi A (R0 + 2 + 3 * p) 3 = P.2.2.2.2 p := (h6 p hp).2.2.2.1
    have key : z_Wk_findCircling_56_l rec N (g + 1) (R0 + 2 + 3 * p) a lv y2 y3 m (w + 1) ip x9 n A = if cS0 (P.2.2.2.2 p) n = true then (zbI (z_Th_make N 111 7 w n 0 A) fun v1 A2 => zwD A2 y3 n v1 fun A3 => z_Wk_findCircling_56_l rec N g (R0 + 2 + 3 * p) a lv y2 y3 m (w + 1) ip x9 ((n + 1 : Nat) : Int) A3) else z_Wk_findCircling_56_l rec N g (R0 + 2 + 3 * p) a lv y2 y3 m (w + 1) ip x9 ((n + 1 : Nat) : Int) A := by
      show z_Wk_findCircling_56_b rec (z_Wk_findCircling_56_l rec N g) N _ _ _ _ _ _ _ _ _ n A = _
      unfold z_Wk_findCircling_56_b z_Wk_findCircling_79
      rw [if_pos (by omega), hreg, wz, wn1]
      unfold cS0
      by_cases q : n < P.2.2.2.2 p
      · have e1 : Nat.blt n (P.2.2.2.2 p) = true := Nat.blt_eq.mpr q
        have e2 : Nat.blt n 60 = true := Nat.blt_eq.mpr (by omega)
        rw [if_pos (by omega), e1, e2, if_pos (by simp)]
      · have e1 : Nat.blt n (P.2.2.2.2 p) = false := by cases z : Nat.blt n (P.2.2.2.2 p) with
          | false => rfl
          | true => exact absurd (Nat.blt_eq.mp z) q
        rw [if_neg (by omega), e1]
        by_cases q2 : n = 60
        · have e3 : Nat.beq n 60 = true := by rw [q2]; rfl
          rw [if_pos (by omega), e3, if_pos (by simp)]
        · have e3 : Nat.beq n 60 = false := by cases z : Nat.beq n 60 with
            | false => rfl
            | true => exact absurd (Nat.eq_of_beq_eq_true z) q2
          rw [if_neg (by omega), e3, if_neg (by simp)]
    rw [key]
    have blt1 : ∀ i : Nat, i ≠ n → Nat.blt i (n + 1) = Nat.blt i n := fun i hi => by
      by_cases z : i < n
      · rw [Nat.blt_eq.mpr z, Nat.blt_eq.mpr (show i < n + 1 by omega)]
      · have e1 : Nat.blt i n = false := by cases zz : Nat.blt i n with
          | false => rfl
          | true => exact absurd (Nat.blt_eq.mp zz) z
        have e2 : Nat.blt i (n + 1) = false := by cases zz : Nat.blt i (n + 1) with
          | false => rfl
          | true => have := Nat.blt_eq.mp zz; omega
        rw [e1, e2]
    have bltn : Nat.blt n n = false := by cases zz : Nat.blt n n with
      | false => rfl
      | true => have := Nat.blt_eq.mp zz; omega
    have bltn1 : Nat.blt n (n + 1) = true := Nat.blt_eq.mpr (by omega)
    by_cases q : cS0 (P.2.2.2.2 p) n = true
    · rw [if_pos q]
      obtain ⟨j, t1, B, D1, e1, e2, e3, e4, e5, e6, e7⟩ := w_make (k := 7) (x := w) (y := n) (z := 0) hN h hc (by omega) hta (by omega) (Or.inr (Or.inr (Or.inr (Or.inr (Or.inr (Or.inr (Or.inr ⟨rfl, rfl⟩))))))) (by decide) (yb_w (by omega) (by omega)) (yb_w (by omega) (by omega)) zw0
      have e4 : D1 j = tCir w n := by rw [e4]; rfl
      rw [e1, zbI_s, zwD_f e2.1.1 l2 (by omega) (by omega) (by omega)]
      have o1 : on1 y3 B (rs B y3 n j) := on1_rs
      have F1 : cF [y3] B (rs B y3 n j) := o1.cF e2.1.1 l1 (by omega)
      have X1 : WX lv c ta t t1 D D1 A (rs B y3 n j) := (e6.up (lv := lv) (by omega)).trans ⟨Nat.le_refl _, fun _ _ => rfl, F1.mono (fun a ha => c1_wl (by omega) ha)⟩
      obtain ⟨C, t2, D2, m1, m2, m3, m4, m5, m6, m7⟩ := ih (n + 1) g t1 D1 (rs B y3 n j) (by omega) (by omega) (by omega) (e2.out hc (by omega) hta F1 (fun a ha => cont2 (fun z => by
        simp only [pl7, List.contains_iff_mem, List.mem_cons, List.not_mem_nil, or_false] at ha
        omega))) (fun i hi => by
          rw [ri_rs_o hne]
          exact (WX.row (lv' := 24) e6 h4 hc (by omega) hta hy2 (by omega)) i hi) (fun i hi => by
          rw [ri_rs (by omega) (by omega)]
          by_cases z : i = n
          · subst z
            rw [if_pos rfl]
            refine ⟨fun _ => ⟨j, e3, yb_w (by omega) (by omega), e4⟩, fun z => ?_⟩
            dsimp only at z
            rw [bltn1, q] at z
            cases z
          · rw [if_neg (by omega)]
            dsimp only
            rw [blt1 i z]
            have e8 : ri B y3 i = ri A y3 i := e7.e l1 (cont2 (by omega))
            rw [e8]
            exact ⟨fun zz => ((h5 i hi).1 zz).mono e6.1 e6.2.1, (h5 i hi).2⟩) (X1.pr h6 hR0 hex hc (by omega) hta)
      exact ⟨C, t2, D2, m1, m2, m3, m4, m5, X1.trans m6, by omega⟩
    · rw [if_neg q]
      obtain ⟨C, t2, D2, m1, m2, m3, m4, m5, m6, m7⟩ := ih (n + 1) g t D A (by omega) (by omega) (by omega) h h4 (fun i hi => by
        by_cases z : i = n
        · subst z
          have := h5 i hi
          have q' : cS0 (P.2.2.2.2 p) i = false := by cases zz : cS0 (P.2.2.2.2 p) i with
            | false => rfl
            | true => exact absurd zz q
          dsimp only at this ⊢
          rw [bltn1, q']
          rw [bltn, q'] at this
          exact this
        · dsimp only
          rw [blt1 i z]
          exact h5 i hi) h6
      exact ⟨C, t2, D2, m1, m2, m3, m4, m5, m6, by omega⟩
theorem w_find {rec : Nat → Int → Int → Int → zA → Option zA} {R : Bool → Nat → Nat → Nat → St → St} {n p a m e b y2 y3 : Nat} (hN : 300000 ≤ N) (hG : GOH P sz ex nd R0 rec R n) (hB : RB P sz ex nd R n) (hX : RX R) (hM : RM R) (hR0 : R0 ≤ 35) (hex : ∀ p, ex p → p ≤ 3) (hw : WfP P ex) (hp : ex p) (h10 : P.1 p a = 10) (hm : P.2.2.1 p a = m) (he : P.2.2.1 p m = e) (h11 : P.1 p m = 11) (h1 : a < m) (h2 : m < e) (h3 : e < b) (hb : b ≤ P.2.2.2.1 p) (b1 : Bl nd (P.1 p) (fun k => P.2.1 p k 1) (P.2.2.1 p) n (a + 1) m) (b2 : Bl nd (P.1 p) (fun k => P.2.1 p k 1) (P.2.2.1 p) n (m + 1) e) (hl : lv + n ≤ 22) (hc : okc lv c) (hta : okt ta) (hy2 : 121 + 3 * lv = y2) (hy3 : 121 + (3 * lv + 1) = y3) (ht : t + 61 + 21 * (rsz P sz p (a + 1) (m - (a + 1)) + rsz P sz p (m + 1) (e - (m + 1))) ≤ 30000) (g2 : 0 ≤ s.2.2.2.1) (g3 : s.2.2.2.1 + 1 + (rsz P sz p (a + 1) (m - (a + 1)) + rsz P sz p (m + 1) (e - (m + 1))) ≤ 10000) (g4 : 0 ≤ s.2.2.2.2.1) (g5 : s.2.2.2.2.1 + (rsz P sz p (a + 1) (m - (a + 1)) + rsz P sz p (m + 1) (e - (m + 1))) ≤ 10000) (gw : s.2.2.1.length ≤ 150) (gC : CI s) (h : CW A sil c ta R0 t D (s.1, s.2.1, s.2.2.1, s.2.2.2.1 + 1, s.2.2.2.2)) (hP : PrC A R0 ex P) (hrow : CPl A y2 t D s.1) : ∃ (B : zA) (t' : Nat) (D' : Nat → T), z_Wk_findCircling rec N (R0 + 2 + 3 * p) a lv A = some B ∧ RS B sil c ta R0 t' y2 y3 D' s s.2.2.2.1 (fcS P R p a s.2.2.2.1 s 62 (cS0 (P.2.2.2.2 p))) ex P ∧ WX lv c ta t t' D D' A B ∧ t' ≤ t + 61 := by
  have r2 : okr lv y2 := ⟨by omega, by omega⟩
  have r3 : okr lv y3 := ⟨by omega, by omega⟩
  obtain ⟨c1, c2, c3, c4, c5⟩ := hc.fx (show lv ≤ 24 by omega)
  obtain ⟨k1, k2, k3, k4⟩ := r2.fx (show lv ≤ 23 by omega)
  obtain ⟨l1, l2, l3, l4⟩ := r3.fx (show lv ≤ 23 by omega)
  obtain ⟨a1, a2, a3, a4, a5, a6, a7, a8, a9, a10, a11⟩ := hta.fx
  obtain ⟨w1, w2, w3, w4⟩ := hw p hp
  have f8 : ∀ K : Nat → Option zA, zfe 120 ((lv : Int) * 3) K = K y2 := fun K => by
    have := zfe_k (R := zA) (r := 3 * lv) (K := K) (by omega)
    rw [show ((3 * lv : Nat) : Int) = (lv : Int) * 3 by omega, hy2] at this
    exact this
  have f9 : ∀ K : Nat → Option zA, zfe 120 ((lv : Int) * 3 + 1) K = K y3 := fun K => by
    have := zfe_k (R := zA) (r := 3 * lv + 1) (K := K) (by omega)
    rw [show ((3 * lv + 1 : Nat) : Int) = (lv : Int) * 3 + 1 by omega, hy3] at this
    exact this
  have hma := pc_mate (N := N) h.1.1 hP hp (show a < P.2.2.2.1 p by omega) (by omega)
  rw [hm] at hma
  unfold z_Wk_findCircling
  rw [f8, f9, hma, zbP_s]
  obtain ⟨B1, i1, i2, i3⟩ := Ar_fill (N := N) (v := -1) hN l2 (by omega) (by omega) h.1.1
  rw [i1, zbV_s]
  have F1 : cF [y3] A B1 := i2.cF h.1.1 l1 (by omega)
  have h1' : CW B1 sil c ta R0 t D (s.1, s.2.1, s.2.2.1, s.2.2.2.1 + 1, s.2.2.2.2) := h.out hc (by omega) hta F1 (fun a ha => cont2 (fun z => by
    simp only [pl7, List.contains_iff_mem, List.mem_cons, List.not_mem_nil, or_false] at ha
    omega))
  have e10 : zi A 110 10 = if sil then 1 else 0 := h.2.2.2.2.2.1.1
  have e11 : zi A 110 11 = s.2.2.2.1 + 1 := h.2.2.2.2.2.1.2.1
  have e12 : zi A 110 12 = s.2.2.2.2.1 := h.2.2.2.2.2.1.2.2
  rw [e10, e11, e12]
  unfold z_Wk_findCircling_56
  have X1 : WX lv c ta t t D D A B1 := ⟨Nat.le_refl _, fun _ _ => rfl, F1.mono (fun a ha => c1_wl (by omega) ha)⟩
  obtain ⟨B2, t2, D2, m1, m2, m3, m4, m5, m6, m7⟩ := w_mkc (rec := rec) (a := a) (m := m) (w := s.2.2.2.1) (ip := s.2.2.2.2.1) (x9 := if sil then 1 else 0) (s := (s.1, s.2.1, s.2.2.1, s.2.2.2.1 + 1, s.2.2.2.2)) hN hR0 hex hw hp (by omega) hc hta r2 r3 (by omega) g2 (by omega) 61 0 N t D B1 (by omega) (by omega) (by omega) h1' (fun i hi => by rw [i2.e (by omega)]; exact hrow i hi) (fun i hi => ⟨fun z => absurd z (by
    have : Nat.blt i 0 = false := by cases zz : Nat.blt i 0 with
      | false => rfl
      | true => have := Nat.blt_eq.mp zz; omega
    dsimp only
    rw [this]
    simp), fun _ => by rw [i3 i hi]; decide⟩) (X1.pr hP hR0 hex hc (by omega) hta)
  rw [show ((0 : Nat) : Int) = 0 from rfl] at m1
  rw [m1, zlet_s]
  obtain ⟨v1, v2⟩ := m2.v.fld (j := 10) (z := 1) (s' := (s.1, s.2.1, s.2.2.1, s.2.2.2.1 + 1, s.2.2.2.2)) (sil' := true) hta rfl rfl rfl (by decide) ⟨by rw [zi_si_s]; decide, by rw [zi_si_j (by decide)]; exact m2.2.2.2.2.2.1.2.1, by rw [zi_si_j (by decide)]; exact m2.2.2.2.2.2.1.2.2⟩
  have hRS : RS (zsi B2 110 10 1) true c ta R0 t2 y2 y3 D2 s s.2.2.2.1 (cS0 (P.2.2.2.2 p)) ex P := ⟨v1, fun i hi => by rw [ri_si_o (by omega)]; exact m3 i hi, fun i hi => by rw [ri_si_o (by omega)]; exact m4 i hi, m5.fr v2 (fun p' hp' => cont2 (by have := hex p' hp'; omega)), fun i hi => by
    unfold cS0
    have e1 : Nat.blt i 60 = false := by cases zz : Nat.blt i 60 with
      | false => rfl
      | true => have := Nat.blt_eq.mp zz; omega
    have e2 : Nat.beq i 60 = false := by cases z : Nat.beq i 60 with
      | false => rfl
      | true => have := Nat.eq_of_beq_eq_true z; omega
    rw [e1, e2, Bool.and_false]; rfl⟩
  obtain ⟨B3, n1, n2, n3⟩ := w_rounds (sil := sil) hN hG hB hX hM hR0 hex hw hp h10 hm he h11 h1 h2 h3 hb b1 b2 hl hc hta r2 r3 (show y2 ≠ y3 by omega) (by omega) g2 g3 g4 g5 gw gC 62 N (cS0 (P.2.2.2.2 p)) (zsi B2 110 10 1) (by omega) (by omega) hRS
  rw [show ((62 - 62 : Nat) : Int) = 0 from rfl] at n1
  unfold z_Wk_findCircling_117
  exact ⟨B3, t2, D2, n1, n2, ⟨m6.1, m6.2.1, ((X1.2.2.trans m6.2.2).trans (v2.mono (fun a ha => c1_wl (by omega) ha))).trans n3⟩, m7⟩
end
