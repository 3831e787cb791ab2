/-! what may change: the cells of a list, and the arrays that belong to them -/
/-- the script's cell is as long as it was -/
def sh0 (A B : zA) : Prop := ∀ s, A.1[0]? = some s → B.1[0]? = some s
theorem sh0_app {A B : zA} {l : List zK} (h : B.1 = A.1 ++ l) : sh0 A B := fun s hs => by
  rw [h, List.getElem?_append_left (List.getElem?_eq_some_iff.mp hs).1]
  exact hs
def RmS (S : List Nat) (A B : zA) : Prop := Rm A B ∧ (S.contains 999 = false → smc B = smc A) ∧ sh0 A B
theorem RmS.refl {S : List Nat} (A : zA) : RmS S A A := ⟨Rm.refl A, fun _ => rfl, fun _ z => z⟩
def cF (S : List Nat) (A B : zA) : Prop := Own B ∧ RmS S A B ∧ (∀ a j, fx a = true → S.contains a = false → zmi B a j = zmi A a j ∧ zml B a j = zml A a j ∧ zmr B a j = zmr A a j) ∧ (∀ o f, dy o f = true → S.contains o = false → yl B o f = yl A o f ∧ ∀ e, yv B o f e = yv A o f e)
section
variable {S T : List Nat} {A B C : zA}
theorem cF.own (h : cF S A B) : Own B := h.1
theorem cF.i (h : cF S A B) {a j : Nat} (ha : fx a = true) (hs : S.contains a = false) : zi B a j = zi A a j := by
  unfold zi; rw [(h.2.2.1 a j ha hs).1]
theorem cF.e (h : cF S A B) {a : Nat} {e : Int} (ha : fx a = true) (hs : S.contains a = false) : ri B a e = ri A a e := h.i ha hs
theorem cF.l (h : cF S A B) {a j : Nat} (ha : fx a = true) (hs : S.contains a = false) : zml B a j = zml A a j := (h.2.2.1 a j ha hs).2.1
theorem cF.r (h : cF S A B) {a j : Nat} (ha : fx a = true) (hs : S.contains a = false) : zmr B a j = zmr A a j := (h.2.2.1 a j ha hs).2.2
theorem cF.n (h : cF S A B) {o f : Nat} (ha : dy o f = true) (hs : S.contains o = false) : yl B o f = yl A o f := (h.2.2.2 o f ha hs).1
theorem cF.v (h : cF S A B) {o f : Nat} {e : Int} (ha : dy o f = true) (hs : S.contains o = false) : yv B o f e = yv A o f e := (h.2.2.2 o f ha hs).2 e
theorem cF.refl (S : List Nat) (h : Own A) : cF S A A := ⟨h, RmS.refl A, fun _ _ _ _ => ⟨rfl, rfl, rfl⟩, fun _ _ _ _ => ⟨rfl, fun _ => rfl⟩⟩
theorem cF.trans (h : cF S A B) (g : cF S B C) : cF S A C := by
  refine ⟨g.1, ⟨h.2.1.1.trans g.2.1.1, fun z => (g.2.1.2.1 z).trans (h.2.1.2.1 z), fun s z => g.2.1.2.2 s (h.2.1.2.2 s z)⟩, fun a j ha hs => ?_, fun o f hd hs => ?_⟩
  · obtain ⟨h1, h2, h3⟩ := h.2.2.1 a j ha hs
    obtain ⟨g1, g2, g3⟩ := g.2.2.1 a j ha hs
    exact ⟨g1.trans h1, g2.trans h2, g3.trans h3⟩
  · obtain ⟨h1, h2⟩ := h.2.2.2 o f hd hs
    obtain ⟨g1, g2⟩ := g.2.2.2 o f hd hs
    exact ⟨g1.trans h1, fun e => (g2 e).trans (h2 e)⟩
theorem cF.mono (h : cF S A B) (hs : ∀ a, S.contains a = true → T.contains a = true) : cF T A B := by
  have q : ∀ a, T.contains a = false → S.contains a = false := fun a ha => by
    cases hc : S.contains a with
    | false => rfl
    | true => rw [hs a hc] at ha; cases ha
  exact ⟨h.1, ⟨h.2.1.1, fun z => h.2.1.2.1 (q 999 z), h.2.1.2.2⟩, fun a j h1 h2 => h.2.2.1 a j h1 (q a h2), fun o f h1 h2 => h.2.2.2 o f h1 (q o h2)⟩
theorem dy_cases {o f : Nat} (h : dy o f = true) : (dyo.contains o = true ∧ f < 2) ∨ ((o = 114 ∨ o = 117) ∧ (f = 3 ∨ f = 4)) := by
  unfold dy at h
  simp only [Bool.or_eq_true, Bool.and_eq_true, Nat.beq_eq] at h
  rcases h with h | h
  · exact Or.inl ⟨h.1, Nat.blt_eq.mp h.2⟩
  · exact Or.inr h
/-- a slot's cell is no fixed cell -/
theorem Own.ne3 (h : Own A) {o f a : Nat} (hd : dy o f = true) (ha : fx a = true) (h0 : a ≠ 0) : yc A o f ≠ a := by
  unfold yc
  cases hc : zmr A o f with
  | none => simpa using h0.symm
  | some c =>
    obtain ⟨-, h3 | h3⟩ := h.2.1 o f c hd hc
    · simp only [Option.getD_some]
      rw [h3.2.2]; exact fx_ne ha h3.1 h3.2.1
    · have := fx_lt ha; simp only [Option.getD_some]; omega
theorem cF_si {a j : Nat} {z : Int} (h : Own A) (ha : fx a = true) (h0 : a ≠ 0) (hs : S.contains a = true) : cF S A (zsi A a j z) := by
  refine ⟨h, RmS.refl A, fun b k hb hb2 => ⟨?_, rfl, rfl⟩, fun o f hd hs2 => ⟨rfl, fun e => ?_⟩⟩
  · unfold zmi zsi zup
    simp only
    rw [if_neg (fun q => ?_)]
    rw [q.1, hs] at hb2; cases hb2
  · exact zi_si_o (h.ne3 hd ha h0)
theorem cF_rs {a : Nat} {e z : Int} (h : Own A) (ha : fx a = true) (h0 : a ≠ 0) (hs : S.contains a = true) : cF S A (rs A a e z) := cF_si h ha h0 hs
theorem cF_ys {o f : Nat} {e z : Int} (h : Own A) (ho : dyo.contains o = true) (hf : f < 2) (hs : S.contains o = true) : cF S A (ys A o f e z) := by
  refine ⟨h, RmS.refl A, fun b k hb hb2 => ⟨?_, rfl, rfl⟩, fun o' f' hd hs2 => ⟨rfl, fun e' => ?_⟩⟩
  · unfold ys rs zmi zsi zup
    simp only
    rw [if_neg (fun q => h.ne ho hf hb q.1.symm)]
  · refine zi_si_o (fun q => ?_)
    have q2 : yc A o' f' = yc A o f := q
    have e1 := (h.at ho hf).1
    have ne : o' ≠ o := fun z => by rw [z, hs] at hs2; cases hs2
    cases hc : zmr A o' f' with
    | none =>
      have : yc A o' f' = 0 := by unfold yc; rw [hc]; rfl
      have := h.ge4 ho hf; omega
    | some c =>
      have : yc A o' f' = c := by unfold yc; rw [hc]; rfl
      exact ne (h.2.2.2 o' f' o f c hd (dy_of ho hf) hc (by rw [e1, ← q2, this])).1
theorem cF_yg {o f : Nat} {n : Int} (h : Own A) (ho : dyo.contains o = true) (hf : f < 2) (hs : S.contains o = true) (h1 : 2 * yl A o f ≤ n) (h2 : 16 ≤ yl A o f) (h3 : n ≤ 1000000) : cF S A (yg A o f n) := by
  have hl := h.ln
  refine ⟨yg_own h ho hf (by omega) h3, ⟨yg_rm h ho hf h1 h2, fun _ => smc_app (A := A) (B := yg A o f n) yg_sh (by omega), sh0_app yg_sh⟩, fun a j ha hb => ?_, fun o' f' hd hs2 => ?_⟩
  · have := fx_lt ha
    refine ⟨yg_mi _ _ (by omega), yg_ml _ _ (by omega), ?_⟩
    rw [yg_mr _ _ (by omega), if_neg (fun q => ?_)]
    rw [q.1, hs] at hb; cases hb
  · have ne : ¬ (o' = o ∧ f' = f) := fun z => by rw [z.1, hs] at hs2; cases hs2
    exact ⟨yg_ylo h hd ne, fun e => yg_yvo h hd ne e⟩
end
/-! Part: what changes a part -/
section
variable {N : Nat} {A : zA} {o : Nat}
theorem PI.of {B : zA} (h : PI A o) (h1 : zi B o 2 = zi A o 2) (h2 : yl B o 0 = yl A o 0) (h3 : yl B o 1 = yl A o 1) : PI B o := by
  unfold PI cn at *
  rw [h1, h2, h3]; exact h
theorem cont1 (o : Nat) : ([o] : List Nat).contains o = true := by simp
theorem Pt_makeRoom {n : Int} (h : Own A) (ho : pto.contains o = true) (hp : PI A o) (h0 : 0 ≤ n) (h1 : n ≤ 240) : ∃ B, z_Pt_makeRoom N o n A = some B ∧ cF [o] A B ∧ (∀ j, zi B o j = zi A o j) ∧ PI B o ∧ n ≤ yl B o 1 ∧ (∀ e, 0 ≤ e → e < yl A o 0 → yv B o 0 e = yv A o 0 e) ∧ (∀ e, 0 ≤ e → e < yl A o 1 → yv B o 1 e = yv A o 1 e) := by
  have hd := pto_dy ho
  have hfx := pto_fx ho
  have hp' := hp
  obtain ⟨p1, p2, p3, p4, p5, p6⟩ := hp
  unfold z_Pt_makeRoom
  rw [zgr_d h hd (by decide), zln_d h hd (by decide)]
  by_cases c : yl A o 1 < n
  · rw [if_pos c, zgr_d h hd (by decide), zln_d h hd (by decide), zgr_d h hd (by decide)]
    have hm : zmx n (zw (2 * yl A o 1)) = max n (2 * yl A o 1) := by
      rw [yb_w (by omega) (by omega)]; unfold zmx; split <;> omega
    rw [hm]
    generalize hg : max n (2 * yl A o 1) = g
    have g1 : 2 * yl A o 1 ≤ g := by omega
    have g2 : g ≤ 480 := by omega
    have g3 : n ≤ g := by omega
    rw [yb_w (by omega) (by omega), yg_run h hd (by decide) (by omega) (by omega)]
    have hB : Own (yg A o 0 (g * 5)) := yg_own h hd (by decide) (by omega) (by omega)
    have e1 : yl (yg A o 0 (g * 5)) o 1 = yl A o 1 := yg_ylo h (dy_of hd (by decide)) (by omega)
    have e2 : yl (yg A o 0 (g * 5)) o 0 = g * 5 := yg_yl h hd (by decide) (by omega)
    have f1 : cF [o] A (yg A o 0 (g * 5)) := cF_yg h hd (by decide) (cont1 o) (by omega) (by omega) (by omega)
    rw [zgr_d hB hd (by decide), yg_run hB hd (by decide) (by omega) (by omega)]
    have f2 : cF [o] (yg A o 0 (g * 5)) (yg (yg A o 0 (g * 5)) o 1 g) := cF_yg hB hd (by decide) (cont1 o) (by omega) (by omega) (by omega)
    have e3 : yl (yg (yg A o 0 (g * 5)) o 1 g) o 1 = g := yg_yl hB hd (by decide) (by omega)
    have e4 : yl (yg (yg A o 0 (g * 5)) o 1 g) o 0 = g * 5 := by rw [yg_ylo hB (dy_of hd (by decide)) (by omega), e2]
    have z1 : ∀ j, zi (yg (yg A o 0 (g * 5)) o 1 g) o j = zi A o j := fun j => by rw [yg_fi hB (fx_lt hfx), yg_fi h (fx_lt hfx)]
    refine ⟨_, rfl, f1.trans f2, z1, ?_, by omega, fun e q0 q1 => ?_, fun e q0 q1 => ?_⟩
    · unfold PI cn
      unfold cn at p1 p2 p3
      rw [z1, e3, e4]; omega
    · rw [yg_yvo hB (dy_of hd (by decide)) (by omega), yg_yv h hd (by decide) q0 q1]
    · rw [yg_yv hB hd (by decide) q0 (by omega), yg_yvo h (dy_of hd (by decide)) (by omega)]
  · rw [if_neg c]
    exact ⟨A, rfl, cF.refl _ h, fun _ => rfl, hp', by omega, fun _ _ _ => rfl, fun _ _ _ => rfl⟩
/-- item k of part o, as it lies there -/
def cw (A : zA) (o : Nat) (k i : Int) : Int := yv A o 0 (5 * k + i)
theorem Pt_add {x y z : Int} (h : Own A) (ho : pto.contains o = true) (hp : PI A o) (hc : cn A o < 240) : ∃ B, z_Pt_add N o x y z A = some B ∧ cF [o] A B ∧ PI B o ∧ cn B o = cn A o + 1 ∧ cr B o = cr A o ∧ (∀ k i, 0 ≤ k → k < cn A o → 0 ≤ i → i < 5 → cw B o k i = cw A o k i) ∧ (cw B o (cn A o) 0 = zw x ∧ cw B o (cn A o) 1 = zw y ∧ cw B o (cn A o) 2 = zw z ∧ cw B o (cn A o) 3 = 0 ∧ cw B o (cn A o) 4 = 0) ∧ (∀ e, 0 ≤ e → e < cn A o → yv B o 1 e = yv A o 1 e) := by
  have hd := pto_dy ho
  have hfx := pto_fx ho
  have hp' := hp
  obtain ⟨p1, p2, p3, p4, p5, p6⟩ := hp
  unfold cn at p1 p2 p3 hc
  unfold z_Pt_add
  rw [if_pos hc, yb_w (by omega) (by omega)]
  obtain ⟨B, r1, r2, r3, r4, r5, r6, r7⟩ := Pt_makeRoom (N := N) h ho hp' (n := zi A o 2 + 1) (by omega) (by omega)
  rw [r1, zbV_s]
  have hB := r2.own
  obtain ⟨s1, s2, s3, s4, s5, s6⟩ := r4
  unfold cn at s1 s2 s3
  rw [r3 2] at s1 s2 s3 ⊢
  generalize hn : zi A o 2 = n at *
  have hw : zw (n * 5) = n * 5 := yb_w (by omega) (by omega)
  simp (disch := (first | decide | omega | assumption | ((repeat (first | apply Own.ys | apply Own.si | apply Own.rs)); assumption) | (simp only [yl_ys, yl_si, yl_rs]; omega))) only [hw, zgr_d, zwD_d, zlet_s]
  have hz : ∀ j, zi (ys (ys (ys (ys (ys B o 0 (n * 5) x) o 0 (n * 5 + 1) y) o 0 (n * 5 + 2) z) o 0 (n * 5 + 3) 0) o 0 (n * 5 + 4) 0) o j = zi A o j := fun j => by
    simp (disch := (first | decide | omega | assumption | ((repeat (first | apply Own.ys | apply Own.si | apply Own.rs)); assumption) | (simp only [yl_ys, yl_si, yl_rs]; omega))) only [zi_ys, r3]
  generalize hC : ys (ys (ys (ys (ys B o 0 (n * 5) x) o 0 (n * 5 + 1) y) o 0 (n * 5 + 2) z) o 0 (n * 5 + 3) 0) o 0 (n * 5 + 4) 0 = C at *
  have hoC : Own C := by rw [← hC]; exact hB
  have fC : cF [o] B C := by
    rw [← hC]
    exact ((((cF_ys hB hd (by decide) (cont1 o)).trans (cF_ys hB hd (by decide) (cont1 o))).trans (cF_ys hB hd (by decide) (cont1 o))).trans (cF_ys hB hd (by decide) (cont1 o))).trans (cF_ys hB hd (by decide) (cont1 o))
  have o0 : o ≠ 0 := fun q => by rw [q] at ho; cases ho
  have lC : ∀ f, yl C o f = yl B o f := fun f => by rw [← hC]; rfl
  refine ⟨_, rfl, (r2.trans fC).trans (cF_si hoC hfx o0 (cont1 o)), ?_, ?_, ?_, ?_, ?_, ?_⟩
  · unfold PI cn
    rw [zi_si_s, hz, hn, yl_si, yl_si, lC, lC, yb_w (by omega) (by omega)]
    omega
  · unfold cn
    rw [zi_si_s, hz, hn, yb_w (by omega) (by omega)]
  · unfold cr
    rw [zi_si_j (by decide), hz]
  · intro k i k0 k1 i0 i1
    unfold cn at k1
    rw [hn] at k1
    unfold cw
    rw [yv_si hoC hd (by decide) hfx, ← hC, yv_ys_n (by omega) (by omega) (by omega), yv_ys_n (by omega) (by omega) (by omega), yv_ys_n (by omega) (by omega) (by omega), yv_ys_n (by omega) (by omega) (by omega), yv_ys_n (by omega) (by omega) (by omega), r6 _ (by omega) (by omega)]
  · unfold cn cw
    rw [hn]
    have y0 : ∀ i, yv (zsi C o 2 (zi C o 2 + 1)) o 0 i = yv C o 0 i := fun i => yv_si hoC hd (by decide) hfx
    simp only [y0]
    rw [← hC]
    have w0 : zw 0 = 0 := by decide
    have m5 : 5 * n = n * 5 := Int.mul_comm _ _
    rw [m5, Int.add_zero]
    refine ⟨?_, ?_, ?_, ?_, ?_⟩
    · rw [yv_ys_n (by omega) (by omega) (by omega), yv_ys_n (by omega) (by omega) (by omega), yv_ys_n (by omega) (by omega) (by omega), yv_ys_n (by omega) (by omega) (by omega), yv_ys_s]
    · rw [yv_ys_n (by omega) (by omega) (by omega), yv_ys_n (by omega) (by omega) (by omega), yv_ys_n (by omega) (by omega) (by omega), yv_ys_s]
    · rw [yv_ys_n (by omega) (by omega) (by omega), yv_ys_n (by omega) (by omega) (by omega), yv_ys_s]
    · rw [yv_ys_n (by omega) (by omega) (by omega), yv_ys_s, w0]
    · rw [yv_ys_s, w0]
  · intro e e0 e1
    unfold cn at e1
    rw [hn] at e1
    rw [yv_si hoC hd (by decide) hfx, ← hC]
    simp (disch := (first | decide | omega | assumption | ((repeat (first | apply Own.ys | apply Own.si | apply Own.rs)); assumption) | (simp only [yl_ys, yl_si, yl_rs]; omega))) only [yv_ys_o]
    exact r7 _ e0 (by omega)
end
