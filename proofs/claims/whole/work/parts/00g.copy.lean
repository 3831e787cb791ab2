/-! copies between arrays that belong to parts -/
def yp (A : zA) (o f : Nat) (sp : Int) (o' f' : Nat) (dp n : Int) : zA := zcp A (yc A o f) sp.toNat (yc A o' f') dp.toNat n.toNat
section
variable {N : Nat} {A : zA} {o f o' f' : Nat} {sp dp n : Int}
theorem Own.yp (h : Own A) : Own (yp A o f sp o' f' dp n) := h
theorem yl_yp {q g : Nat} : yl (yp A o f sp o' f' dp n) q g = yl A q g := rfl
theorem zcy_d {R : Type} {K : zA → Option R} (h : Own A) (ho : dyo.contains o = true) (hf : f < 2) (ho' : dyo.contains o' = true) (hf' : f' < 2) (hn : ¬ (o = o' ∧ f = f')) (h0 : 0 ≤ sp) (h1 : 0 ≤ dp) (h2 : 0 ≤ n) (h3 : sp + n ≤ yl A o f) (h4 : dp + n ≤ yl A o' f') : zcy A (yc A o f) sp (yc A o' f') dp n K = K (yp A o f sp o' f' dp n) := by
  obtain ⟨m, g1, g2, g3⟩ := (h.at ho hf).2.1
  obtain ⟨m', g1', g2', g3'⟩ := (h.at ho' hf').2.1
  unfold zcy
  rw [g1, g1']
  simp only
  rw [if_pos ⟨trivial, by simp, h.ge4 ho hf, h.ge4 ho' hf', h.ne2 ho hf ho' hf' hn, h0, h1, h2, by omega, by omega⟩]
  rfl
theorem yv_yp_s (h0 : 0 ≤ sp) (h1 : 0 ≤ dp) (h2 : 0 ≤ n) {e : Int} (he : 0 ≤ e) : yv (yp A o f sp o' f' dp n) o' f' e = if dp ≤ e ∧ e < dp + n then yv A o f (sp + (e - dp)) else yv A o' f' e := by
  unfold yv ri zi yp zcp zmi
  have hy : yc (A.1, fun c k => if c = yc A o' f' ∧ dp.toNat ≤ k ∧ k < dp.toNat + n.toNat then A.2.1 (yc A o f) (sp.toNat + (k - dp.toNat)) else A.2.1 c k, fun c k => if c = yc A o' f' ∧ dp.toNat ≤ k ∧ k < dp.toNat + n.toNat then A.2.2.1 (yc A o f) (sp.toNat + (k - dp.toNat)) else A.2.2.1 c k, A.2.2.2) o' f' = yc A o' f' := rfl
  rw [hy]
  simp only
  by_cases c : dp ≤ e ∧ e < dp + n
  · rw [if_pos c, if_pos ⟨trivial, by omega, by omega⟩, show sp.toNat + (e.toNat - dp.toNat) = (sp + (e - dp)).toNat by omega]
  · rw [if_neg c, if_neg (by omega)]
theorem zi_yp (h : Own A) (ho' : dyo.contains o' = true) (hf' : f' < 2) {a j : Nat} (ha : fx a = true) : zi (yp A o f sp o' f' dp n) a j = zi A a j := by
  unfold zi yp zcp zmi
  simp only
  rw [if_neg (fun q => h.ne ho' hf' ha q.1.symm)]
theorem Own.ne4 (h : Own A) (ho : dyo.contains o = true) (hf : f < 2) {q g : Nat} (hd : dy q g = true) (hn : ¬ (q = o ∧ g = f)) : yc A q g ≠ yc A o f := by
  intro e
  have e1 := (h.at ho hf).1
  cases hc : zmr A q g with
  | none =>
    have : yc A q g = 0 := by unfold yc; rw [hc]; rfl
    have := h.ge4 ho hf; omega
  | some c =>
    have : yc A q g = c := by unfold yc; rw [hc]; rfl
    exact hn (h.2.2.2 q g o f c hd (dy_of ho hf) hc (by rw [e1, ← e, this]))
theorem yv_yp_o (h : Own A) (ho' : dyo.contains o' = true) (hf' : f' < 2) {q g : Nat} (hd : dy q g = true) (hn : ¬ (q = o' ∧ g = f')) {e : Int} : yv (yp A o f sp o' f' dp n) q g e = yv A q g e := by
  have hne : yc A q g ≠ yc A o' f' := h.ne4 ho' hf' hd hn
  show zi (yp A o f sp o' f' dp n) (yc A q g) e.toNat = zi A (yc A q g) e.toNat
  unfold zi yp zcp zmi
  simp only
  rw [if_neg (fun z => hne z.1)]
theorem cF_yp {S : List Nat} (h : Own A) (ho' : dyo.contains o' = true) (hf' : f' < 2) (hs : S.contains o' = true) (hml : ∀ a j, fx a = true → S.contains a = false → zml (yp A o f sp o' f' dp n) a j = zml A a j) : cF S A (yp A o f sp o' f' dp n) := by
  refine ⟨h, RmS.refl A, fun b k hb hb2 => ⟨?_, hml b k hb hb2, rfl⟩, fun q g hd hs2 => ⟨rfl, fun e => ?_⟩⟩
  · unfold yp zcp zmi
    simp only
    rw [if_neg (fun q => h.ne ho' hf' hb q.1.symm)]
  · refine yv_yp_o h ho' hf' hd (fun z => ?_)
    rw [z.1, hs] at hs2; cases hs2
theorem cF_yp' {S : List Nat} (h : Own A) (ho' : dyo.contains o' = true) (hf' : f' < 2) (hs : S.contains o' = true) : cF S A (yp A o f sp o' f' dp n) := by
  refine cF_yp h ho' hf' hs (fun a j ha _ => ?_)
  unfold yp zcp zml
  simp only
  rw [if_neg (fun q => h.ne ho' hf' ha q.1.symm)]
end
section
variable {N : Nat} {A : zA} {o p : Nat}
theorem cont2 {a o : Nat} (h : a ≠ o) : ([o] : List Nat).contains a = false := by
  simp only [List.contains_cons, List.contains_nil, Bool.or_false, beq_eq_false_iff_ne, ne_eq]
  exact h
theorem o_ne0 (ho : pto.contains o = true) : o ≠ 0 := fun q => by rw [q] at ho; cases ho
/-- parts that differ keep theirs -/
theorem PI.fr {B : zA} {S : List Nat} (h : PI A p) (hp : pto.contains p = true) (hf : cF S A B) (hs : S.contains p = false) : PI B p :=
  h.of (hf.i (pto_fx hp) hs) (hf.n (dy_of (pto_dy hp) (by decide)) hs) (hf.n (dy_of (pto_dy hp) (by decide)) hs)
theorem Pt_addCopy {x : Int} (h : Own A) (ho : pto.contains o = true) (hq : pto.contains p = true) (hne : p ≠ o) (hp : PI A o) (hpp : PI A p) (hc : cn A o < 240) (h0 : 0 ≤ x) (h1 : x < cn A p) : ∃ B, z_Pt_addCopy N o p x A = some B ∧ cF [o] A B ∧ PI B o ∧ cn B o = cn A o + 1 ∧ cr B o = cr A o ∧ (∀ k i, 0 ≤ k → k < cn A o → 0 ≤ i → i < 5 → cw B o k i = cw A o k i) ∧ (∀ i, 0 ≤ i → i < 5 → cw B o (cn A o) i = cw A p x i) ∧ (∀ e, 0 ≤ e → e < cn A o → yv B o 1 e = yv A o 1 e) := by
  have hd := pto_dy ho
  have hdp := pto_dy hq
  have hfx := pto_fx ho
  have hp' := hp
  obtain ⟨p1, p2, p3, p4, p5, p6⟩ := hp
  obtain ⟨q1, q2, q3, q4, q5, q6⟩ := hpp
  unfold z_Pt_addCopy
  rw [Pt_has, if_pos ⟨h0, h1⟩, zbP_s, if_neg (by decide)]
  unfold cn at *
  rw [if_pos hc, yb_w (by omega) (by omega)]
  obtain ⟨B, r1, r2, r3, r4, r5, r6, r7⟩ := Pt_makeRoom (N := N) h ho hp' (n := zi A o 2 + 1) (by omega) (by omega)
  rw [r1, zbV_s]
  have hB := r2.own
  obtain ⟨s1, s2, s3, s4, s5, s6⟩ := r4
  unfold cn at s1 s2 s3
  have l1 : yl B p 0 = yl A p 0 := r2.n (dy_of hdp (by decide)) (cont2 hne)
  rw [r3 2] at s1 s2 s3 ⊢
  rw [zgr_d hB hdp (by decide), zgr_d hB hd (by decide), zcy_d hB hdp (by decide) hd (by decide) (by omega) (by omega) (by omega) (by omega) (by omega) (by omega), zlet_s]
  have z1 : ∀ j, zi (yp B p 0 (x * 5) o 0 (zi A o 2 * 5) 5) o j = zi A o j := fun j => by rw [zi_yp hB hd (by decide) hfx, r3]
  have f1 : cF [o] B (yp B p 0 (x * 5) o 0 (zi A o 2 * 5) 5) := cF_yp' hB hd (by decide) (cont1 o)
  have v1 : ∀ e, 0 ≤ e → yv (yp B p 0 (x * 5) o 0 (zi A o 2 * 5) 5) o 0 e = if zi A o 2 * 5 ≤ e ∧ e < zi A o 2 * 5 + 5 then yv A p 0 (x * 5 + (e - zi A o 2 * 5)) else yv B o 0 e := fun e he => by
    rw [yv_yp_s (by omega) (by omega) (by omega) he, r2.v (dy_of hdp (by decide)) (cont2 hne)]
  have v2 : ∀ e, yv (yp B p 0 (x * 5) o 0 (zi A o 2 * 5) 5) o 1 e = yv B o 1 e := fun e => yv_yp_o hB hd (by decide) (dy_of hd (by decide)) (by omega)
  have l2 : ∀ f, yl (yp B p 0 (x * 5) o 0 (zi A o 2 * 5) 5) o f = yl B o f := fun f => rfl
  generalize yp B p 0 (x * 5) o 0 (zi A o 2 * 5) 5 = C at *
  have hC := f1.own
  generalize hn : zi A o 2 = n at *
  refine ⟨_, rfl, (r2.trans f1).trans (cF_si hC hfx (o_ne0 ho) (cont1 o)), ?_, ?_, ?_, ?_, ?_, ?_⟩
  · unfold PI cn
    rw [zi_si_s, z1, hn, yl_si, yl_si, l2, l2, yb_w (by omega) (by omega)]
    omega
  · rw [zi_si_s, z1, hn, yb_w (by omega) (by omega)]
  · unfold cr
    rw [zi_si_j (by decide), z1]
  · intro k i k0 k1 i0 i1
    unfold cw
    rw [yv_si hC hd (by decide) hfx, v1 _ (by omega), if_neg (by omega), r6 _ (by omega) (by omega)]
  · intro i i0 i1
    unfold cw
    rw [yv_si hC hd (by decide) hfx, v1 _ (by omega), if_pos (by omega)]
    congr 1; omega
  · intro e e0 e1
    rw [yv_si hC hd (by decide) hfx, v2, r7 _ e0 (by omega)]
theorem Pt_clear {x : Int} (h : Own A) (ho : pto.contains o = true) (hp : PI A o) (hx : -2147483648 ≤ x ∧ x < 2147483648) : ∃ B, z_Pt_clear N o x A = some B ∧ cF [o] A B ∧ PI B o ∧ cn B o = 0 ∧ cr B o = x := by
  have hfx := pto_fx ho
  obtain ⟨p1, p2, p3, p4, p5, p6⟩ := hp
  have w0 : zw 0 = 0 := by decide
  refine ⟨_, rfl, (cF_si h hfx (o_ne0 ho) (cont1 o)).trans (cF_si h hfx (o_ne0 ho) (cont1 o)), ?_, ?_, ?_⟩
  · unfold PI cn
    rw [zi_si_j (by decide), zi_si_s, w0]
    refine ⟨by decide, by decide, ?_, p4, p5, p6⟩
    show (0 : Int) ≤ yl A o 1
    omega
  · unfold cn
    rw [zi_si_j (by decide), zi_si_s, w0]
  · unfold cr
    rw [zi_si_s, yb_w hx.1 hx.2]
theorem Pt_become (h : Own A) (ho : pto.contains o = true) (hq : pto.contains p = true) (hne : p ≠ o) (hp : PI A o) (hpp : PI A p) : ∃ B, z_Pt_become N o p A = some B ∧ cF [o] A B ∧ PI B o ∧ cn B o = cn A p ∧ cr B o = cr A p ∧ (∀ k i, 0 ≤ k → k < cn A p → 0 ≤ i → i < 5 → cw B o k i = cw A p k i) ∧ (∀ e, 0 ≤ e → e < cn A p → yv B o 1 e = yv A p 1 e) := by
  have hd := pto_dy ho
  have hdp := pto_dy hq
  have hfx := pto_fx ho
  have hfp := pto_fx hq
  obtain ⟨q1, q2, q3, q4, q5, q6⟩ := hpp
  unfold z_Pt_become
  unfold cn at *
  obtain ⟨B, r1, r2, r3, r4, r5, r6, r7⟩ := Pt_makeRoom (N := N) h ho hp (n := zi A p 2) (by omega) (by omega)
  rw [r1, zbV_s]
  have hB := r2.own
  obtain ⟨s1, s2, s3, s4, s5, s6⟩ := r4
  have l1 : ∀ f, f < 2 → yl B p f = yl A p f := fun f hf => r2.n (dy_of hdp hf) (cont2 hne)
  have i1 : ∀ j, zi B p j = zi A p j := fun j => r2.i hfp (cont2 hne)
  have l10 := l1 0 (by decide)
  have l11 := l1 1 (by decide)
  rw [i1, zgr_d hB hdp (by decide), zgr_d hB hd (by decide), zcy_d hB hdp (by decide) hd (by decide) (by omega) (by omega) (by omega) (by omega) (by omega) (by omega)]
  have z1 : ∀ a j, fx a = true → zi (yp B p 0 0 o 0 0 (zi A p 2 * 5)) a j = zi B a j := fun a j ha => zi_yp hB hd (by decide) ha
  have f1 : cF [o] B (yp B p 0 0 o 0 0 (zi A p 2 * 5)) := cF_yp' hB hd (by decide) (cont1 o)
  have v1 : ∀ e, 0 ≤ e → yv (yp B p 0 0 o 0 0 (zi A p 2 * 5)) o 0 e = if 0 ≤ e ∧ e < 0 + zi A p 2 * 5 then yv A p 0 (0 + (e - 0)) else yv B o 0 e := fun e he => by
    rw [yv_yp_s (by omega) (by omega) (by omega) he, r2.v (dy_of hdp (by decide)) (cont2 hne)]
  have l2 : ∀ q f, yl (yp B p 0 0 o 0 0 (zi A p 2 * 5)) q f = yl B q f := fun q f => rfl
  generalize yp B p 0 0 o 0 0 (zi A p 2 * 5) = C at *
  have hC := f1.own
  have l3 := l2 p 1
  have l4 := l2 o 1
  rw [z1 _ _ hfp, i1, zgr_d hC hdp (by decide), zgr_d hC hd (by decide), zcy_d hC hdp (by decide) hd (by decide) (by omega) (by omega) (by omega) (by omega) (by omega) (by omega)]
  have z2 : ∀ a j, fx a = true → zi (yp C p 1 0 o 1 0 (zi A p 2)) a j = zi B a j := fun a j ha => by rw [zi_yp hC hd (by decide) ha, z1 _ _ ha]
  have f2 : cF [o] C (yp C p 1 0 o 1 0 (zi A p 2)) := cF_yp' hC hd (by decide) (cont1 o)
  have v3 : ∀ e, 0 ≤ e → yv (yp C p 1 0 o 1 0 (zi A p 2)) o 1 e = if 0 ≤ e ∧ e < 0 + zi A p 2 then yv A p 1 (0 + (e - 0)) else yv C o 1 e := fun e he => by
    rw [yv_yp_s (by omega) (by omega) (by omega) he, f1.v (dy_of hdp (by decide)) (cont2 hne), r2.v (dy_of hdp (by decide)) (cont2 hne)]
  have v4 : ∀ e, yv (yp C p 1 0 o 1 0 (zi A p 2)) o 0 e = yv C o 0 e := fun e => yv_yp_o hC hd (by decide) (dy_of hd (by decide)) (by omega)
  have l5 : ∀ q f, yl (yp C p 1 0 o 1 0 (zi A p 2)) q f = yl B q f := fun q f => by rw [yl_yp, l2]
  generalize yp C p 1 0 o 1 0 (zi A p 2) = D at *
  have hD := f2.own
  simp only [zlet_s]
  have zp : ∀ j, zi D p j = zi A p j := fun j => by rw [z2 _ _ hfp, i1]
  have b1 := yb_rg A p 2
  have b2 := yb_rg A p 3
  refine ⟨_, rfl, ((r2.trans f1).trans f2).trans ((cF_si hD hfx (o_ne0 ho) (cont1 o)).trans (cF_si hD hfx (o_ne0 ho) (cont1 o))), ?_, ?_, ?_, ?_, ?_⟩
  · unfold PI cn
    rw [zi_si_j (by decide), zi_si_s, zp, yb_w b1.1 b1.2]
    simp only [yl_si, l5]
    omega
  · rw [zi_si_j (by decide), zi_si_s, zp, yb_w b1.1 b1.2]
  · unfold cr
    rw [zi_si_s, zi_si_o hne, zp, yb_w b2.1 b2.2]
  · intro k i k0 k1 i0 i1
    unfold cw
    simp (disch := (first | decide | omega | assumption | ((repeat (first | apply Own.ys | apply Own.si | apply Own.rs)); assumption) | (simp only [yl_ys, yl_si, yl_rs]; omega))) only [yv_si]
    rw [v4, v1 _ (by omega), if_pos (by omega)]
    congr 1; omega
  · intro e e0 e1
    simp (disch := (first | decide | omega | assumption | ((repeat (first | apply Own.ys | apply Own.si | apply Own.rs)); assumption) | (simp only [yl_ys, yl_si, yl_rs]; omega))) only [yv_si]
    rw [v3 _ e0, if_pos (by omega)]
    congr 1; omega
end
