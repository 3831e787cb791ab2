/-! an array that is made anew, longer -/
/-- cells with four fields or fewer (exceptions, two small arrays of compile) are counted apart: smc -/
def big (A : zA) : List zK := A.1.filter (fun s => decide (4 < s.2.2))
def tot (A : zA) : Int := ((big A).map (fun s => (s.2.2 : Int))).sum
def smc (A : zA) : Nat := (A.1.filter (fun s => decide (s.2.2 ≤ 4))).length
theorem big_app {A B : zA} {n : Nat} (h : B.1 = A.1 ++ [(true, 0, n)]) (hn : 4 < n) : big B = big A ++ [(true, 0, n)] := by
  unfold big
  rw [h, List.filter_append]
  simp [hn]
theorem smc_app {A B : zA} {n : Nat} (h : B.1 = A.1 ++ [(true, 0, n)]) (hn : 4 < n) : smc B = smc A := by
  unfold smc
  rw [h, List.filter_append]
  have : ¬ n ≤ 4 := by omega
  simp [this]
def SL : List (Nat × Nat) := [(9, 0), (9, 1), (12, 0), (12, 1), (15, 0), (15, 1), (18, 0), (18, 1), (23, 0), (23, 1), (26, 0), (26, 1), (29, 0), (29, 1), (32, 0), (32, 1), (37, 0), (37, 1), (40, 0), (40, 1), (43, 0), (43, 1), (46, 0), (46, 1), (103, 0), (103, 1), (111, 0), (111, 1), (197, 0), (197, 1), (200, 0), (200, 1), (203, 0), (203, 1), (206, 0), (206, 1), (209, 0), (209, 1)]
def sy (A : zA) : Int := (SL.map (fun s => yl A s.1 s.2)).sum
/-- tales have their arrays or not -/
def t1 (A : zA) (o f : Nat) : Int := match zmr A o f with
  | none => 0
  | some _ => 1
def ty (A : zA) : Int := t1 A 114 3 + t1 A 114 4 + t1 A 117 3 + t1 A 117 4
def Rm (A B : zA) : Prop := tot B - 2 * sy B - 3050 * ty B ≤ tot A - 2 * sy A - 3050 * ty A ∧ 16 * ((big B).length : Int) - sy B - 16 * ty B ≤ 16 * ((big A).length : Int) - sy A - 16 * ty A
theorem Rm.refl (A : zA) : Rm A A := ⟨Int.le_refl _, Int.le_refl _⟩
theorem Rm.trans {A B C : zA} (h : Rm A B) (g : Rm B C) : Rm A C := ⟨by have := h.1; have := g.1; omega, by have := h.2; have := g.2; omega⟩
theorem sum_one {α : Type} (l : List α) (g h : α → Int) (x : α) (hx : x ∈ l) (hn : l.Nodup) (e : ∀ y ∈ l, y ≠ x → g y = h y) : (l.map g).sum = (l.map h).sum + (g x - h x) := by
  induction l with
  | nil => cases hx
  | cons a l ih =>
    simp only [List.map_cons, List.sum_cons]
    rw [List.nodup_cons] at hn
    by_cases q : a = x
    · subst q
      have : l.map g = l.map h := List.map_congr_left (fun y hy => e y (List.mem_cons_of_mem _ hy) (fun q => hn.1 (q ▸ hy)))
      rw [this]; omega
    · rw [ih ((List.mem_cons.mp hx).resolve_left (fun q' => q q'.symm)) hn.2 (fun y hy => e y (List.mem_cons_of_mem _ hy)), e a (List.mem_cons_self ..) q]; omega
theorem SL_nd : SL.Nodup := by decide
theorem SL_mem {o f : Nat} (ho : dyo.contains o = true) (hf : f < 2) : (o, f) ∈ SL := by
  have : ∀ q ∈ dyo, (q, 0) ∈ SL ∧ (q, 1) ∈ SL := by decide
  have h := this o (List.contains_iff_mem.mp ho)
  rcases (show f = 0 ∨ f = 1 by omega) with rfl | rfl
  · exact h.1
  · exact h.2
theorem SL_of : ∀ s ∈ SL, dyo.contains s.1 = true ∧ s.2 < 2 := by decide
def yg (A : zA) (o f : Nat) (n : Int) : zA := zsr (zcp (znw A (true, 0, n.toNat)) (yc A o f) 0 A.1.length 0 (yl A o f).toNat) o f (some A.1.length)
section
variable {N : Nat} {A : zA} {o f : Nat} {n : Int}
theorem yg_sh : (yg A o f n).1 = A.1 ++ [(true, 0, n.toNat)] := rfl
theorem yg_mr (a j : Nat) (ha : a ≠ A.1.length) : zmr (yg A o f n) a j = if a = o ∧ j = f then some A.1.length else zmr A a j := by
  unfold yg zsr zcp znw zmr zup
  simp only [if_neg ha]
theorem yg_mi (a j : Nat) (ha : a ≠ A.1.length) : zmi (yg A o f n) a j = zmi A a j := by
  unfold yg zsr zcp znw zmi
  simp only
  rw [if_neg (fun q => ha q.1), if_neg ha]
theorem yg_ml (a j : Nat) (ha : a ≠ A.1.length) : zml (yg A o f n) a j = zml A a j := by
  unfold yg zsr zcp znw zml
  simp only
  rw [if_neg (fun q => ha q.1), if_neg ha]
theorem Own.ln (h : Own A) : 296 ≤ A.1.length := by
  have := h.1 295 (true, 1, 1) (by decide)
  have := (List.getElem?_eq_some_iff.mp this).1
  omega
theorem Own.clt (h : Own A) (ho : dyo.contains o = true) (hf : f < 2) : yc A o f < A.1.length := by
  obtain ⟨m, g1, g2, g3⟩ := (h.at ho hf).2.1
  exact (List.getElem?_eq_some_iff.mp g1).1
theorem dy_fx {o f : Nat} (h : dy o f = true) : fx o = true := by
  have q : ∀ o ∈ (114 :: 117 :: dyo), fx o = true := by decide
  apply q
  unfold dy at h
  simp only [Bool.or_eq_true, Bool.and_eq_true, Nat.beq_eq] at h
  rcases h with h | h
  · exact List.mem_cons_of_mem _ (List.mem_cons_of_mem _ (List.contains_iff_mem.mp h.1))
  · rcases h.1 with h | h
    · rw [h]; exact List.mem_cons_self ..
    · rw [h]; exact List.mem_cons_of_mem _ (List.mem_cons_self ..)
theorem yg_own (h : Own A) (ho : dyo.contains o = true) (hf : f < 2) (hn0 : 0 ≤ n) (hn : n ≤ 1000000) : Own (yg A o f n) := by
  have hl := h.ln
  refine ⟨fun a s hs => ?_, fun o' f' c hd hc => ?_, fun o' f' ho' hf' => ?_, fun o1 f1 o2 f2 c h1 h2 g1 g2 => ?_⟩
  · rw [yg_sh, List.getElem?_append_left (by have := (List.getElem?_eq_some_iff.mp (h.1 a s hs)).1; omega)]
    exact h.1 a s hs
  · rw [yg_mr _ _ (by have := fx_lt (dy_fx hd); omega)] at hc
    split at hc
    · cases hc
      refine ⟨⟨n.toNat, ?_, by omega⟩, Or.inr hl⟩
      rw [yg_sh, List.getElem?_append_right (Nat.le_refl _), Nat.sub_self]; rfl
    · obtain ⟨⟨m, g1, g2⟩, g3⟩ := h.2.1 o' f' c hd hc
      refine ⟨⟨m, ?_, g2⟩, g3⟩
      rw [yg_sh, List.getElem?_append_left (List.getElem?_eq_some_iff.mp g1).1]; exact g1
  · have := fx_lt (dy_fx (dy_of ho' hf'))
    rw [yg_mr _ _ (by omega)]
    split
    · exact ⟨_, rfl⟩
    · exact h.2.2.1 o' f' ho' hf'
  · have e1 := fx_lt (dy_fx h1)
    have e2 := fx_lt (dy_fx h2)
    rw [yg_mr _ _ (by omega)] at g1 g2
    split at g1 <;> split at g2
    · omega
    · cases g1
      obtain ⟨⟨m, q1, q2⟩, q3⟩ := h.2.1 o2 f2 _ h2 g2
      have := (List.getElem?_eq_some_iff.mp q1).1; omega
    · cases g2
      obtain ⟨⟨m, q1, q2⟩, q3⟩ := h.2.1 o1 f1 _ h1 g1
      have := (List.getElem?_eq_some_iff.mp q1).1; omega
    · exact h.2.2.2 o1 f1 o2 f2 c h1 h2 g1 g2
theorem yg_yc (h : Own A) (ho : dyo.contains o = true) (hf : f < 2) : yc (yg A o f n) o f = A.1.length := by
  unfold yc
  rw [yg_mr _ _ (by have := fx_lt (dy_fx (dy_of ho hf)); have := h.ln; omega), if_pos ⟨rfl, rfl⟩]
  rfl
theorem yg_yco (h : Own A) {o' f' : Nat} (hd : dy o' f' = true) (hn : ¬ (o' = o ∧ f' = f)) : yc (yg A o f n) o' f' = yc A o' f' := by
  unfold yc
  rw [yg_mr _ _ (by have := fx_lt (dy_fx hd); have := h.ln; omega), if_neg hn]
theorem yc_lt (h : Own A) {o' f' : Nat} (hd : dy o' f' = true) : yc A o' f' < A.1.length := by
  unfold yc
  cases hc : zmr A o' f' with
  | none => have := h.ln; simp only [Option.getD_none]; omega
  | some c =>
    obtain ⟨⟨m, q1, q2⟩, q3⟩ := h.2.1 o' f' c hd hc
    exact (List.getElem?_eq_some_iff.mp q1).1
theorem yg_yl (h : Own A) (ho : dyo.contains o = true) (hf : f < 2) (hn0 : 0 ≤ n) : yl (yg A o f n) o f = n := by
  unfold yl
  rw [yg_yc h ho hf, yg_sh, List.getElem?_append_right (Nat.le_refl _), Nat.sub_self]
  simp only [List.getElem?_cons_zero]
  omega
theorem yg_ylo (h : Own A) {o' f' : Nat} (hd : dy o' f' = true) (hn : ¬ (o' = o ∧ f' = f)) : yl (yg A o f n) o' f' = yl A o' f' := by
  unfold yl
  rw [yg_yco h hd hn, yg_sh, List.getElem?_append_left (yc_lt h hd)]
theorem yg_yvo (h : Own A) {o' f' : Nat} (hd : dy o' f' = true) (hn : ¬ (o' = o ∧ f' = f)) (e : Int) : yv (yg A o f n) o' f' e = yv A o' f' e := by
  have := yc_lt h hd
  unfold yv ri zi
  rw [yg_yco h hd hn, yg_mi _ _ (by omega)]
theorem yg_yv (h : Own A) (ho : dyo.contains o = true) (hf : f < 2) {e : Int} (h0 : 0 ≤ e) (h1 : e < yl A o f) : yv (yg A o f n) o f e = yv A o f e := by
  have hq := h.clt ho hf
  have hy : yc (yg A o f n) o f = A.1.length := yg_yc h ho hf
  unfold yv ri zi
  rw [hy]
  unfold yg zsr zcp znw zmi
  simp only
  rw [if_pos ⟨trivial, by omega, by omega⟩, if_neg (by omega), Nat.sub_zero, Nat.zero_add]
theorem yg_fi (h : Own A) {a j : Nat} (ha : a < 296) : zi (yg A o f n) a j = zi A a j := by
  unfold zi
  rw [yg_mi _ _ (by have := h.ln; omega)]
theorem yg_rm (h : Own A) (ho : dyo.contains o = true) (hf : f < 2) (hn : 2 * yl A o f ≤ n) (hl : 16 ≤ yl A o f) : Rm A (yg A o f n) := by
  have hs : sy (yg A o f n) = sy A + (yl (yg A o f n) o f - yl A o f) := by
    unfold sy
    refine sum_one SL (fun s => yl (yg A o f n) s.1 s.2) (fun s => yl A s.1 s.2) (o, f) (SL_mem ho hf) SL_nd (fun y hy hne => ?_)
    obtain ⟨q1, q2⟩ := SL_of y hy
    exact yg_ylo h (dy_of q1 q2) (fun q => hne (by cases y; cases q.1; cases q.2; rfl))
  rw [yg_yl h ho hf (by omega)] at hs
  have hb := big_app (A := A) (B := yg A o f n) yg_sh (by omega)
  have ht : tot (yg A o f n) = tot A + n := by
    unfold tot
    rw [hb, List.map_append, List.sum_append]
    simp only [List.map_cons, List.map_nil, List.sum_cons, List.sum_nil]
    omega
  have hc : ((big (yg A o f n)).length : Int) = (big A).length + 1 := by
    rw [hb, List.length_append]; simp
  have hy : ty (yg A o f n) = ty A := by
    have hl := h.ln
    unfold ty t1
    rw [yg_mr 114 3 (by omega), yg_mr 114 4 (by omega), yg_mr 117 3 (by omega), yg_mr 117 4 (by omega), if_neg (by omega), if_neg (by omega), if_neg (by omega), if_neg (by omega)]
  exact ⟨by omega, by omega⟩
theorem yg_run {R : Type} {K : zA → Option R} (h : Own A) (ho : dyo.contains o = true) (hf : f < 2) (hn : yl A o f < n) (hn2 : n ≤ 1000000) : (zbR (z_Ar_copyOf N (yc A o f) n A) fun p A1 => zlet (zsr A1 o f (some p)) K) = K (yg A o f n) := by
  obtain ⟨m, g1, g2, g3⟩ := (h.at ho hf).2.1
  have hlt := h.clt ho hf
  have h4 := h.ge4 ho hf
  have e1 : (znw A (true, 0, n.toNat)).1[yc A o f]? = some (true, 0, m) := by
    show (A.1 ++ [(true, 0, n.toNat)])[yc A o f]? = _
    rw [List.getElem?_append_left hlt]; exact g1
  have e2 : (znw A (true, 0, n.toNat)).1[A.1.length]? = some (true, 0, n.toNat) := by
    show (A.1 ++ [(true, 0, n.toNat)])[A.1.length]? = _
    rw [List.getElem?_append_right (Nat.le_refl _), Nat.sub_self]; rfl
  unfold z_Ar_copyOf
  rw [zln_d h ho hf, if_neg (by omega)]
  unfold zna
  rw [if_pos ⟨by omega, by omega⟩]
  dsimp only
  unfold zln
  rw [e1]
  simp only
  rw [if_pos g2]
  unfold zcy
  rw [e1, e2]
  simp only
  have hz : zmn (m : Int) n = m := by unfold zmn; rw [if_neg (by omega)]
  rw [hz, if_pos ⟨trivial, by simp, h4, by have := h.ln; omega, by omega, by omega, by omega, by omega, by omega, by omega⟩]
  simp only [zbR, zlet_s]
  unfold yg
  rw [g3]
  rfl
end
