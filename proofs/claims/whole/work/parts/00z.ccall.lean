/-! CALL -/
section
variable {N : Nat} {A : zA} {sil : Bool} {lv c ta R0 t : Nat} {D : Nat → T} {s : St} {P : Pg} {sz : Nat → Nat} {ex : Nat → Prop} {nd : Int → Nat}
theorem zmr_sr (A : zA) (o f : Nat) (r : Option Nat) (a j : Nat) : zmr (zsr A o f r) a j = if a = o ∧ j = f then r else zmr A a j := rfl
theorem sr_dy {o f : Nat} (hd : dy o f = true) {j : Nat} (h1 : o = 110 ∧ f = j) : False := by
  rw [h1.1] at hd
  have := dy_cases hd
  have h2 : dyo.contains 110 = false := by decide
  rw [h2] at this
  rcases this with ⟨h, -⟩ | ⟨h, -⟩
  · cases h
  · omega
theorem Own.sr {j : Nat} {r : Option Nat} (h : Own A) : Own (zsr A 110 j r) := by
  refine ⟨h.1, fun o f c hd hc => ?_, fun o f ho hf => ?_, fun o1 f1 o2 f2 c h1 h2 g1 g2 => ?_⟩
  · rw [zmr_sr, if_neg (fun q => sr_dy hd q)] at hc
    exact h.2.1 o f c hd hc
  · rw [zmr_sr, if_neg (fun q => sr_dy (dy_of ho hf) q)]
    exact h.2.2.1 o f ho hf
  · rw [zmr_sr, if_neg (fun q => sr_dy h1 q)] at g1
    rw [zmr_sr, if_neg (fun q => sr_dy h2 q)] at g2
    exact h.2.2.2 o1 f1 o2 f2 c h1 h2 g1 g2
theorem cF_sr {j : Nat} {r : Option Nat} (h : Own A) : cF [110] A (zsr A 110 j r) := by
  have yc1 : ∀ o f, dy o f = true → yc (zsr A 110 j r) o f = yc A o f := fun o f hd => by unfold yc; rw [zmr_sr, if_neg (fun q => sr_dy hd q)]
  have yl1 : ∀ o f, dy o f = true → yl (zsr A 110 j r) o f = yl A o f := fun o f hd => by unfold yl; rw [yc1 o f hd]; rfl
  have rm : Rm A (zsr A 110 j r) := by
    have e2 : sy (zsr A 110 j r) = sy A := by
      unfold sy
      rw [List.map_congr_left (fun q hq => yl1 _ _ (dy_of (SL_of q hq).1 (SL_of q hq).2))]
    have e3 : ty (zsr A 110 j r) = ty A := by
      unfold ty t1
      rw [zmr_sr, zmr_sr, zmr_sr, zmr_sr, if_neg (by omega), if_neg (by omega), if_neg (by omega), if_neg (by omega)]
    unfold Rm
    rw [e2, e3]
    exact ⟨Int.le_refl _, Int.le_refl _⟩
  refine ⟨h.sr, ⟨rm, fun _ => rfl, fun _ z => z⟩, fun a k ha hs => ⟨rfl, rfl, ?_⟩, fun o f hd hs => ⟨yl1 o f hd, fun e => ?_⟩⟩
  · rw [zmr_sr, if_neg (fun q => by rw [q.1] at hs; exact absurd hs (by decide))]
  · unfold yv
    rw [yc1 o f hd]; rfl
/-- places are another row now -/
theorem w_sw {y : Nat} {f : Nat → T} (h : CW A sil c ta R0 t D s) (hta : okt ta) (hf : CPl A y t D f) : CW (zsr A 110 5 (some y)) sil y ta R0 t D (f, s.2) ∧ cF [110] A (zsr A 110 5 (some y)) := by
  obtain ⟨a1, a2, a3, a4, a5, a6, a7, a8, a9, a10, a11⟩ := hta.fx
  obtain ⟨h1, h2, h3, h4, h5, h6, h7, h8⟩ := h
  have hF := cF_sr (A := A) (j := 5) (r := some y) h1.1
  have n1 : ∀ a, a ≠ 110 → ([110] : List Nat).contains a = false := fun a ha => cont2 ha
  have m2 : ∀ j, zmr (zsr A 110 5 (some y)) ta j = zmr A ta j := fun j => by rw [zmr_sr, if_neg (by omega)]
  exact ⟨⟨h1.fr hF (by decide), ⟨by rw [zmr_sr, if_pos ⟨rfl, rfl⟩], by rw [zmr_sr, if_neg (by decide)]; exact h2.2.1, by rw [zmr_sr, if_neg (by decide)]; exact h2.2.2⟩, hf, h4, h5, h6, h7.mono (m2 _) (fun e => ⟨hF.v a7 (n1 _ (by omega)), hF.v a8 (n1 _ (by omega))⟩) (Nat.le_refl _) (fun _ _ => rfl), h8.mono (m2 _) (m2 _) (hF.n a7 (n1 _ (by omega))) (hF.n a8 (n1 _ (by omega)))⟩, hF⟩
theorem rws_fr {R0 p : Nat} (h : R0 = 7 ∨ R0 = 21 ∨ R0 = 35) (hp : p < 4) : zfr R0 0 = some (R0 + 1) ∧ zsh R0 = some (false, 2, 2) ∧ zsh (R0 + 1) = some (true, 6, 4) ∧ zfr (R0 + 1) p = some (R0 + 2 + 3 * p) ∧ zsh (R0 + 2 + 3 * p) = some (false, 3, 4) ∧ pto.contains (R0 + 2 + 3 * p) = true := by
  rcases (show p = 0 ∨ p = 1 ∨ p = 2 ∨ p = 3 by omega) with rfl | rfl | rfl | rfl <;> rcases h with rfl | rfl | rfl <;> decide
theorem zfe_p {R : Type} {K : Nat → Option R} {R0 p : Nat} (h : R0 = 7 ∨ R0 = 21 ∨ R0 = 35) (hp : p < 4) : zfe (R0 + 1) p K = K (R0 + 2 + 3 * p) := by
  obtain ⟨f1, f2, f3, f4, f5, f6⟩ := rws_fr h hp
  unfold zfe
  rw [f3]
  simp only
  rw [if_pos ⟨by decide, by decide, by omega, by omega⟩]
  unfold zgf
  rw [Int.toNat_natCast, f4]
theorem w_call {rec : Nat → Int → Int → Int → zA → Option zA} {R : Bool → Nat → Nat → Nat → St → St} {n p a b : Nat} (hN : 300000 ≤ N) (hG : GOH P sz ex nd R0 rec R n) (hB : RB P sz ex nd R n) (hM : RM R) (hR0 : R0 = 7 ∨ R0 = 21 ∨ R0 = 35) (hex : ∀ p, ex p → p ≤ 3) (hw : WfP P ex) (hW : WB P sz ex nd) (hp : ex p) (h7 : P.1 p a = 7) (h1 : a < b) (hb : b ≤ P.2.2.2.1 p) (hn : nd (P.2.1 p a 1) ≤ n) (hl : lv + n ≤ 22) (hc : okc lv c) (hta : okt ta) (h : CW A sil c ta R0 t D s) (hP : PrC A R0 ex P) (hg : BG P sz sil p a (b - a) t s) : ∃ (B : zA) (t' : Nat) (D' : Nat → T), z_Wk_goOverCall rec N (R0 + 2 + 3 * p) a lv A = some B ∧ CW B sil c ta R0 t' D' (clS P R sil p a s) ∧ WX lv c ta t t' D D' A B ∧ t' ≤ t + 21 * cst P sz p a := by
  obtain ⟨w1, w2, w3, w4⟩ := hw p hp
  obtain ⟨u1, u2, u3, u4, u5⟩ := w4 a (by omega)
  obtain ⟨v1, v2, v3⟩ := u5 h7
  obtain ⟨b1, b2⟩ := hW _ v3 (by omega)
  have hR35 : R0 ≤ 35 := by omega
  have hco : cst P sz p a = 1 + sz (P.2.1 p a 1).toNat := by unfold cst; rw [if_pos h7]
  obtain ⟨g1, g2, g3, g4, g5, gw, gC, g6⟩ := hg
  rw [rsz_one h1] at g1 g3 g5 g6
  generalize hzr : rsz P sz p (a + 1) (b - (a + 1)) = zr at *
  rw [hco] at g1 g3 g5 g6 ⊢
  have q0 : P.2.1 p a 1 = ((P.2.1 p a 1).toNat : Int) := by omega
  rw [← q0] at b1
  have nb : nbk (P.1 p a) = 2 := by rw [h7]; decide
  have hO := h.1.1
  have hnum := pc_num (N := N) (i := 1) hO hP hp (show a < P.2.2.2.1 p by omega) (by omega)
  rw [show ((1 : Nat) : Int) = 1 from rfl] at hnum
  have hrr := (u3 0 (by omega)).2.2 ⟨fun z => by omega, fun z => by omega, fun z => by omega⟩
  have wl1 : zw ((lv : Int) + 1) = ((lv + 1 : Nat) : Int) := by rw [yb_w (by omega) (by omega)]; omega
  obtain ⟨c1, c2, c3, c4, c5⟩ := hc.fx (show lv ≤ 24 by omega)
  obtain ⟨a1, a2, a3, a4, a5, a6, a7, a8, a9, a10, a11⟩ := hta.fx
  have r8 : okr lv (121 + 3 * lv) := ⟨by omega, by omega⟩
  obtain ⟨y1, y2, y3, y4⟩ := r8.fx (by omega)
  unfold z_Wk_goOverCall
  rw [hnum, zbP_s, if_neg (by omega), if_pos (by omega), zgr_s h.2.1.1]
  have f8 : ∀ K : Nat → Option zA, zfe 120 ((lv : Int) * 3) K = K (121 + 3 * lv) := fun K => by
    have := zfe_k (R := zA) (r := 3 * lv) (K := K) (by omega)
    rw [show ((3 * lv : Nat) : Int) = (lv : Int) * 3 by omega] at this
    exact this
  rw [f8]
  generalize hy8 : 121 + 3 * lv = y8 at *
  generalize hq : (P.2.1 p a 1).toNat = q at *
  obtain ⟨j, t1, B1, D1, e1, e2, e3, e4, e5, e6, e7⟩ := w_make (k := 0) (x := 0) (y := 0) (z := 0) hN h hc (by omega) hta (by omega) (Or.inl ⟨rfl, rfl, rfl⟩) zw0 zw0 zw0 zw0
  have e4 : D1 j = tNum 0 := by rw [e4]; rfl
  rw [e1, zbI_s]
  obtain ⟨B2, i1, i2, i3⟩ := Ar_fill (N := N) (v := j) hN y2 (by omega) (by omega) e2.1.1
  rw [i1, zbV_s]
  have o2 := i2.own e2.1.1
  obtain ⟨B3, k1, k2, k3⟩ := Wk_copyShared (N := N) (x := c) (y := y8) o2 c2 y2 (by omega) (by omega) (by omega)
  rw [k1, zbV_s]
  have i23 := i2.trans k2
  have f3 : cF [y8] B1 B3 := i23.cF e2.1.1 y1 (by omega)
  have npl : ∀ a, (pl7 c ta).contains a = true → ([y8] : List Nat).contains a = false := fun a ha => cont2 (fun z => by
    simp only [pl7, List.contains_iff_mem, List.mem_cons, List.not_mem_nil, or_false] at ha
    omega)
  have h3 : CW B3 sil c ta R0 t1 D1 s := e2.out hc (by omega) hta f3 npl
  have X3 : WX lv c ta t t1 D D1 A B3 := (e6.up (lv := lv) (by omega)).trans ⟨Nat.le_refl _, fun _ _ => rfl, f3.mono (fun a ha => by
    simp only [List.contains_iff_mem, List.mem_cons, List.not_mem_nil, or_false] at ha
    exact wl_mem.mpr (by omega))⟩
  have P3 := X3.pr hP hR35 hex hc (by omega) hta
  have hreg := pc_reg (N := N) (i := 0) h3.1.1 P3 hw hp (show a < P.2.2.2.1 p by omega) (by omega) ⟨fun z => by omega, fun z => by omega, fun z => by omega⟩
  rw [show ((0 : Nat) : Int) = 0 from rfl] at hreg
  rw [hreg, zbP_s]
  have q1 : P.2.1 p a 0 = ((P.2.1 p a 0).toNat : Int) := by omega
  generalize (P.2.1 p a 0).toNat = r at *
  obtain ⟨x, x1, x2, x3⟩ := h3.2.2.1 r (by omega)
  rw [q1, zrD_f h3.1.1 c2 (by omega) (by omega), x2, zwD_f h3.1.1 y2 (by omega) (by omega) (by omega), zlet_s]
  have o4 : on1 y8 B3 (rs B3 y8 6 x) := on1_rs
  have f4 : cF [y8] B3 (rs B3 y8 6 x) := o4.cF h3.1.1 y1 (by omega)
  have h4 : CW (rs B3 y8 6 x) sil c ta R0 t1 D1 s := h3.out hc (by omega) hta f4 npl
  have row4 : CPl (rs B3 y8 6 x) y8 t1 D1 (clP s.1 r) := fun i hi => by
    rw [ri_rs (by omega) (by omega), k3 i hi]
    unfold clP
    by_cases z1 : i < 6 ∨ i = 60
    · rw [if_pos z1, if_pos z1, if_neg (by omega)]
      obtain ⟨jj, jj1, jj2, jj3⟩ := e2.2.2.1 i hi
      exact ⟨jj, jj1, by rw [i2.e (by omega)]; exact jj2, jj3⟩
    · rw [if_neg z1, if_neg z1]
      by_cases z2 : i = 6
      · rw [if_pos z2, if_pos (by omega)]
        exact ⟨x, x1, yb_w (by omega) (by omega), x3⟩
      · rw [if_neg z2, if_neg (by omega), i3 i hi]
        exact ⟨j, e3, yb_w (by omega) (by omega), e4⟩
  generalize rs B3 y8 6 x = B4 at *
  have X4 : WX lv c ta t t1 D D1 A B4 := X3.trans ⟨Nat.le_refl _, fun _ _ => rfl, f4.mono (fun a ha => by
    simp only [List.contains_iff_mem, List.mem_cons, List.not_mem_nil, or_false] at ha
    exact wl_mem.mpr (by omega))⟩
  obtain ⟨h5, f5⟩ := w_sw (y := y8) h4 hta row4
  have cc5 : CPl (zsr B4 110 5 (some y8)) c t1 D1 s.1 := h4.2.2.1
  generalize zsr B4 110 5 (some y8) = B5 at *
  have X5 : WX lv c ta t t1 D D1 A B5 := X4.trans ⟨Nat.le_refl _, fun _ _ => rfl, f5.mono (fun a ha => by
    simp only [List.contains_iff_mem, List.mem_cons, List.not_mem_nil, or_false] at ha
    exact wl_mem.mpr (by omega))⟩
  have P5 := X5.pr hP hR35 hex hc (by omega) hta
  obtain ⟨r1, r2, r3, r4, r5, r6⟩ := rws_fr (p := q) hR0 (by omega)
  rw [zgr_s h5.2.1.2.2, zcs_s r2, zgf_s r1]
  rw [q0, zfe_p hR0 (by omega), zcs_s r5, zgr_s h5.2.1.2.2, zcs_s r2, zgf_s r1, zfe_p hR0 (by omega), zcs_s r5, wl1]
  have hlen : zi B5 (R0 + 2 + 3 * q) 2 = P.2.2.2.1 q := (P5 q v3).2.2.1
  rw [hlen]
  have hck : okc (lv + 1) y8 := Or.inr ⟨lv, by omega, by omega⟩
  have dq := hB sil q 0 (P.2.2.2.1 q) (clP s.1 r, s.2) v3 (Bl_mono b1 hn) (Nat.le_refl _)
  obtain ⟨C, tC, DC, m1, m2, m3, m4⟩ := hG sil q 0 (P.2.2.2.1 q) (lv + 1) y8 ta t1 D1 (clP s.1 r, s.2) B5 v3 (Bl_mono b1 hn) (Nat.le_refl _) (by omega) hck hta h5 P5 ⟨by rw [Nat.sub_zero]; omega, g2, by rw [Nat.sub_zero]; dsimp only; omega, g4, by rw [Nat.sub_zero]; dsimp only; omega, gw, gC, fun z => by rw [Nat.sub_zero]; have := g6 z; dsimp only; omega⟩
  rw [Nat.sub_zero] at m4
  rw [show ((0 : Nat) : Int) = 0 from rfl] at m1
  rw [m1, zbV_s, zlet_s]
  unfold clS
  simp only
  rw [hq, q1, Int.toNat_natCast]
  generalize R sil q 0 (P.2.2.2.1 q) (clP s.1 r, s.2) = s1 at *
  have cC : CPl C c tC DC s.1 := cc5.mono (fun i hi => m3.2.2.e c1 (nc_of (fun z => by have := wl_mem.mp z; omega))) m3.1 m3.2.1
  obtain ⟨h6, f6⟩ := w_sw (y := c) m2 hta cC
  have rowC : CPl (zsr C 110 5 (some c)) y8 tC DC s1.1 := m2.2.2.1
  generalize zsr C 110 5 (some c) = C1 at *
  obtain ⟨C2, l1, l2, l3⟩ := Wk_copyShared (N := N) (x := y8) (y := c) h6.1.1 y2 c2 (by omega) (by omega) (by omega)
  rw [l1, zbV_s]
  have f7 : cF [c] C1 C2 := l2.cF h6.1.1 c1 (by omega)
  have n1 : ∀ a, a ≠ c → ([c] : List Nat).contains a = false := fun a ha => cont2 ha
  obtain ⟨z1, z2, z3, z4, z5, z6, z7, z8⟩ := h6
  refine ⟨C2, tC, DC, rfl, ⟨z1.fr f7 (n1 _ (by omega)), ⟨by rw [l2.r]; exact z2.1, by rw [l2.r]; exact z2.2.1, by rw [l2.r]; exact z2.2.2⟩, fun i hi => ?_, z4.mono (l2.i (by omega)) (fun i => ⟨l2.e (by omega), l2.e (by omega)⟩) (Nat.le_refl _) (fun _ _ => rfl), z5.mono (l2.i (by omega)) (fun i => l2.e (by omega)) (Nat.le_refl _) (fun _ _ => rfl), z6.mono (l2.i (by omega)) (l2.i (by omega)) (l2.i (by omega)), z7.mono (l2.r _ _) (fun e => ⟨f7.v a7 (n1 _ (by omega)), f7.v a8 (n1 _ (by omega))⟩) (Nat.le_refl _) (fun _ _ => rfl), z8.mono (l2.r _ _) (l2.r _ _) (f7.n a7 (n1 _ (by omega))) (f7.n a8 (n1 _ (by omega)))⟩, ?_, by omega⟩
  · rw [l3 i hi]
    dsimp only
    unfold clB
    by_cases z : i < 6 ∨ i = 60
    · rw [if_pos z, if_pos z]
      exact rowC i hi
    · rw [if_neg z, if_neg z]
      exact z3 i hi
  · refine (X5.trans ⟨m3.1, m3.2.1, m3.2.2.mono (fun a ha => ?_)⟩).trans ⟨Nat.le_refl _, fun _ _ => rfl, (f6.mono (fun a ha => ?_)).trans (f7.mono (fun a ha => ?_))⟩
    · have := wl_mem.mp ha
      exact wl_mem.mpr (by omega)
    · simp only [List.contains_iff_mem, List.mem_cons, List.not_mem_nil, or_false] at ha
      exact wl_mem.mpr (by omega)
    · simp only [List.contains_iff_mem, List.mem_cons, List.not_mem_nil, or_false] at ha
      exact wl_mem.mpr (by omega)
end
