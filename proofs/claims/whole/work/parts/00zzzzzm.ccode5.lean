/-! CODE of the class: all of it -/
noncomputable def rwq (Q : Pr) : Nat → List (Int × Int)
  | 0 => rkC Q 3 (Q.2.1 3).length (Q.2.1 3).length ++ [(17, 0)]
  | q + 1 => rwq Q q ++ ((2, 6) :: (rkC Q q (Q.2.1 q).length (Q.2.1 q).length ++ [(16, 0)]))
section
variable {N : Nat} {A B : zA} {l0 : List (Int × Int)} {o g k R p : Nat} {Q : Pr}
theorem rwq_len (hQ : WO Q) : ∀ q, q ≤ Q.1 → (rwq Q q).length = ofP Q q
  | 0, _ => by
    show (rkC Q 3 (Q.2.1 3).length (Q.2.1 3).length ++ [(17, 0)]).length = adk (Q.2.1 3) (Q.2.1 3).length + 1
    rw [List.length_append, rkC_len hQ (Or.inr rfl) _ _ (Nat.le_refl _)]
    rfl
  | q + 1, h => by
    show (rwq Q q ++ ((2, 6) :: (rkC Q q (Q.2.1 q).length (Q.2.1 q).length ++ [(16, 0)]))).length = ofP Q q + adk (Q.2.1 q) (Q.2.1 q).length + 2
    rw [List.length_append, rwq_len hQ q (by omega), List.length_cons, List.length_append, rkC_len hQ (Or.inl (by omega)) _ _ (Nat.le_refl _)]
    simp only [List.length_cons, List.length_nil]
    omega
theorem pch_1 {x : Int × Int} (h : x.1 ≠ 15) : pch Q x = x := if_neg (fun z => h z.1)
theorem rwq_pch (hG : GQ Q) : ∀ q, q ≤ Q.1 → (rwq Q q).map (pch Q) = cdq Q q
  | 0, _ => by
    show (rkC Q 3 (Q.2.1 3).length (Q.2.1 3).length ++ [(17, 0)]).map (pch Q) = pcd Q 3 (Q.2.1 3).length ++ [(17, 0)]
    rw [List.map_append, rkC_pch hG (Or.inr rfl) _ (Nat.le_refl _)]
    simp only [List.map_cons, List.map_nil]
    rw [pch_1 (show ((17 : Int), (0 : Int)).1 ≠ 15 by decide)]
  | q + 1, h => by
    show (rwq Q q ++ ((2, 6) :: (rkC Q q (Q.2.1 q).length (Q.2.1 q).length ++ [(16, 0)]))).map (pch Q) = cdq Q q ++ ((2, 6) :: (pcd Q q (Q.2.1 q).length ++ [(16, 0)]))
    rw [List.map_append, rwq_pch hG q (by omega), List.map_cons, List.map_append, rkC_pch hG (Or.inl (by omega)) _ (Nat.le_refl _)]
    simp only [List.map_cons, List.map_nil]
    rw [pch_1 (show ((2 : Int), (6 : Int)).1 ≠ 15 by decide), pch_1 (show ((16 : Int), (0 : Int)).1 ≠ 15 by decide)]
def c15 (Q : Pr) (l : List (Int × Int)) : Prop := ∀ x ∈ l, x.1 = 15 → 0 ≤ x.2 ∧ x.2 < Q.1
theorem c15_app {l m : List (Int × Int)} (h : c15 Q l) (g : c15 Q m) : c15 Q (l ++ m) := fun x hx => by
  rcases List.mem_append.mp hx with z | z
  · exact h x z
  · exact g x z
theorem c15_cons {a b : Int} {l : List (Int × Int)} (ha : a ≠ 15) (h : c15 Q l) : c15 Q ((a, b) :: l) := fun x hx e => by
  rcases List.mem_cons.mp hx with z | z
  · rw [z] at e; exact absurd e ha
  · exact h x z e
theorem c15_nil : c15 Q [] := fun x hx => by cases hx
theorem itK_15 (hG : GQ Q) (hp : exP Q p) (k : Nat) {j : Nat} (hj : j < (Q.2.1 p).length) : c15 Q (itK Q p k j) := by
  obtain ⟨o1, o2, o3, o4, o5⟩ := (hG.1.2 p hp).2.2.2 _ (itm_mem hj)
  by_cases c7 : (itm (Q.2.1 p) j).1 = 7
  · have o5 := o5 c7
    unfold itK
    rw [if_pos c7]
    refine c15_cons (by decide) (fun x hx _ => ?_)
    rw [List.mem_singleton] at hx
    rw [hx]
    exact ⟨o5.1, o5.2.1⟩
  by_cases c8 : (itm (Q.2.1 p) j).1 = 8 ∨ (itm (Q.2.1 p) j).1 = 11
  · rw [itK_a _ c8]
    exact c15_cons (by decide) (c15_cons (by decide) c15_nil)
  by_cases c9 : (itm (Q.2.1 p) j).1 = 9
  · rw [itK_b _ c9]
    exact c15_cons (by decide) c15_nil
  unfold itK
  rw [if_neg c7, if_neg c8, if_neg c9]
  unfold itc
  by_cases c0 : (itm (Q.2.1 p) j).1 = 0
  · rw [if_pos c0]; exact c15_cons (by decide) (c15_cons (by decide) c15_nil)
  rw [if_neg c0]
  by_cases c1 : (itm (Q.2.1 p) j).1 = 1
  · rw [if_pos c1]; exact c15_cons (by decide) (c15_cons (by decide) c15_nil)
  rw [if_neg c1]
  by_cases c2 : (itm (Q.2.1 p) j).1 = 2
  · have o4 := o4 c2
    rw [if_pos c2]; exact c15_cons (by decide) (c15_cons (by decide) (c15_cons (by omega) (c15_cons (by decide) c15_nil)))
  rw [if_neg c2]
  by_cases c3 : (itm (Q.2.1 p) j).1 = 3
  · rw [if_pos c3]; exact c15_cons (by decide) (c15_cons (by decide) (c15_cons (by decide) c15_nil))
  rw [if_neg c3]
  by_cases c4 : (itm (Q.2.1 p) j).1 = 4
  · rw [if_pos c4]; exact c15_cons (by decide) (c15_cons (by decide) (c15_cons (by decide) c15_nil))
  rw [if_neg c4]
  by_cases c5 : (itm (Q.2.1 p) j).1 = 5
  · rw [if_pos c5]; exact c15_cons (by decide) (c15_cons (by decide) c15_nil)
  rw [if_neg c5]
  by_cases c6 : (itm (Q.2.1 p) j).1 = 6
  · rw [if_pos c6]; exact c15_cons (by decide) (c15_cons (by decide) c15_nil)
  rw [if_neg c6, if_neg c7, if_neg (show ¬ (itm (Q.2.1 p) j).1 = 8 by omega), if_neg c9, if_neg (show ¬ (itm (Q.2.1 p) j).1 = 11 by omega)]
  by_cases c12 : (itm (Q.2.1 p) j).1 = 12
  · rw [if_pos c12]
    by_cases cm : (itm (Q.2.1 p) (mtL (Q.2.1 p) j)).1 = 10
    · rw [if_pos cm]; exact c15_cons (by decide) c15_nil
    · rw [if_neg cm]; exact c15_nil
  · rw [if_neg c12]; exact c15_nil
theorem rkC_15 (hG : GQ Q) (hp : exP Q p) (k : Nat) : ∀ m, m ≤ (Q.2.1 p).length → c15 Q (rkC Q p k m)
  | 0, _ => c15_nil
  | m + 1, h => c15_app (rkC_15 hG hp k m (by omega)) (itK_15 hG hp k (by omega))
theorem rwq_15 (hG : GQ Q) : ∀ q, q ≤ Q.1 → c15 Q (rwq Q q)
  | 0, _ => c15_app (rkC_15 hG (Or.inr rfl) _ _ (Nat.le_refl _)) (c15_cons (by decide) c15_nil)
  | q + 1, h => c15_app (rwq_15 hG q (by omega)) (c15_cons (by decide) (c15_app (rkC_15 hG (Or.inl (by omega)) _ _ (Nat.le_refl _)) (c15_cons (by decide) c15_nil)))
theorem c_items (hN : 300000 ≤ N) (hG : GQ Q) (hp : exP Q p) (ho : pto.contains o = true) (h0 : l0.length = adr Q p 0) : ∀ (r k f : Nat) (A : zA), k + r = (Q.2.1 p).length → r < f → Own A → STA A → CP A o (Q.2.1 p) (Q.2.2 p) → CM A o (Q.2.1 p) → CSp Q p l0 A k → ∃ B, z_Cd_addItems_2_l N f o k A = some B ∧ CCd B (l0 ++ rkC Q p (Q.2.1 p).length (Q.2.1 p).length) ∧ cF [209, 212] A B
  | 0, k, f + 1, A, h1, h2, hO, hS, hx, hm, h => by
    have hn : zi A o 2 = (Q.2.1 p).length := hx.2.1
    unfold z_Cd_addItems_2_l z_Cd_addItems_2_b
    rw [if_neg (by omega)]
    have e : k = (Q.2.1 p).length := by omega
    have := h.1
    rw [e] at this
    exact ⟨A, rfl, this, cF.refl _ hO⟩
  | r + 1, k, f + 1, A, h1, h2, hO, hS, hx, hm, h => by
    have hn : zi A o 2 = (Q.2.1 p).length := hx.2.1
    have hl := (hG.1.2 p hp).2.2.1
    obtain ⟨B, b1, b2, b3⟩ := c_step (N := N) hN hG hp hO ho hS hx hm (show k < _ by omega) h0 h
    have ne := (pto_nq ho).2.2
    unfold z_Cd_addItems_2_l z_Cd_addItems_2_b
    rw [if_pos (by omega), cp_kind hO ho hx (by omega), zbP_s, show zw ((k : Int) + 1) = ((k + 1 : Nat) : Int) by rw [yb_w (by omega) (by omega)]; omega]
    obtain ⟨C, c1, c2, c3⟩ := c_items hN hG hp ho h0 r (k + 1) f B (by omega) (by omega) b3.own (hS.f b3 (by decide) (by decide) (by decide)) (hx.fr ho b3 ne) (hm.fr ho b3 ne) b2
    refine ⟨C, ?_, c2, b3.trans c3⟩
    by_cases c8 : (itm (Q.2.1 p) k).1 < 8
    · rw [if_pos c8] at b1
      rw [if_pos c8, b1, zbV_s, c1]
    · rw [if_neg c8] at b1
      rw [if_neg c8, b1, zbV_s, c1]
/-- calls are led, place by place -/
def CCp (Q : Pr) (A : zA) (l : List (Int × Int)) (i : Nat) : Prop := CDI A ∧ zi A 209 2 = l.length ∧ ∀ j : Nat, j < l.length → yv A 209 0 j = (cdA l j).1 ∧ yv A 209 1 j = if j < i then (pch Q (cdA l j)).2 else (cdA l j).2
theorem cdA_mem {l : List (Int × Int)} {i : Nat} (h : i < l.length) : cdA l i ∈ l := by
  unfold cdA
  rw [List.getD_eq_getElem?_getD, List.getElem?_eq_getElem h]
  exact List.getElem_mem h
theorem c_lead_run {l : List (Int × Int)} (h15 : c15 Q l) (hQ3 : Q.1 ≤ 3) (hof : ∀ q, q < Q.1 → ofP Q q ≤ 10000) (hl : l.length ≤ 2407) : ∀ (r i f : Nat) (A : zA), i + r = l.length → r < f → Own A → (∀ q : Nat, q < Q.1 → ri A 213 q = ofP Q q) → CCp Q A l i → ∃ B, z_Cd_makeOf_79_l N f i A = some B ∧ CCp Q B l l.length ∧ cF [209] A B
  | 0, i, f + 1, A, h1, h2, hO, h213, h => by
    unfold z_Cd_makeOf_79_l z_Cd_makeOf_79_b
    rw [if_neg (by have := h.2.1; omega)]
    have e : i = l.length := by omega
    rw [e] at h
    exact ⟨A, rfl, h, cF.refl _ hO⟩
  | r + 1, i, f + 1, A, h1, h2, hO, h213, h => by
    have h0 := h
    obtain ⟨⟨d1, d2, d3, d4, d5⟩, d6, d7⟩ := h
    have hi : i < l.length := by omega
    obtain ⟨e1, e2⟩ := d7 i hi
    rw [if_neg (Nat.lt_irrefl i)] at e2
    unfold z_Cd_makeOf_79_l z_Cd_makeOf_79_b
    rw [if_pos (by omega), zgr_d hO d209 (by decide), zrD_d hO d209 (by decide) (by omega) (by omega), e2, zgr_d hO d209 (by decide), zrD_d hO d209 (by decide) (by omega) (by omega), e1, show zw ((i : Int) + 1) = ((i + 1 : Nat) : Int) by rw [yb_w (by omega) (by omega)]; omega]
    have same : pch Q (cdA l i) = cdA l i → CCp Q A l (i + 1) := fun hs => ⟨⟨d1, d2, d3, d4, d5⟩, d6, fun j hj => by
      refine ⟨(d7 j hj).1, ?_⟩
      have := (d7 j hj).2
      by_cases e : j = i
      · rw [e, if_pos (by omega), hs]; exact e2
      · by_cases e' : j < i
        · rw [if_pos e'] at this; rw [if_pos (by omega)]; exact this
        · rw [if_neg e'] at this; rw [if_neg (by omega)]; exact this⟩
    by_cases c : (cdA l i).1 = 15
    · have hb := h15 _ (cdA_mem hi) c
      rw [if_pos c, if_neg (by omega), if_pos (by omega), zgr_d hO d209 (by decide), zrd_ok (by omega) (by omega)]
      have hv := h213 (cdA l i).2.toNat (by omega)
      rw [show (((cdA l i).2.toNat : Nat) : Int) = (cdA l i).2 by omega] at hv
      have hofv := hof (cdA l i).2.toNat (by omega)
      rw [hv, zwD_d hO d209 (by decide) (by omega) (by omega)]
      have f1 : cF [209] A (ys A 209 1 (i : Int) (ofP Q (cdA l i).2.toNat : Int)) := cF_ys hO d209 (by decide) (by decide)
      have z2 : zi (ys A 209 1 (i : Int) (ofP Q (cdA l i).2.toNat : Int)) 209 2 = zi A 209 2 := zi_ys hO d209 (by decide) (by decide)
      obtain ⟨B, b1, b2, b3⟩ := c_lead_run h15 hQ3 hof hl r (i + 1) f _ (by omega) (by omega) f1.own (fun q hq => by rw [f1.e (by decide) (by decide)]; exact h213 q hq) ⟨⟨by rw [yl_ys, yl_ys]; exact d1, by rw [yl_ys]; exact d2, by rw [yl_ys]; exact d3, by rw [z2]; exact d4, by rw [z2, yl_ys]; exact d5⟩, by rw [z2]; exact d6, fun j hj => by
        rw [yv_ys_o hO d209 (by decide) d209 (by decide) (by omega), yv_ys (by omega) (by omega)]
        refine ⟨(d7 j hj).1, ?_⟩
        have := (d7 j hj).2
        by_cases e : j = i
        · rw [if_pos (show (j : Int) = (i : Int) by omega), e, if_pos (show i < i + 1 by omega)]
          have hp : pch Q (cdA l i) = (15, (ofP Q (cdA l i).2.toNat : Int)) := if_pos ⟨c, hb.1, by omega⟩
          rw [hp]
          exact yb_w (by omega) (by omega)
        · rw [if_neg (show ¬ (j : Int) = (i : Int) by omega)]
          by_cases e' : j < i
          · rw [if_pos e'] at this; rw [if_pos (show j < i + 1 by omega)]; exact this
          · rw [if_neg e'] at this; rw [if_neg (show ¬ j < i + 1 by omega)]; exact this⟩
      exact ⟨B, b1, b2, f1.trans b3⟩
    · rw [if_neg c]
      obtain ⟨B, b1, b2, b3⟩ := c_lead_run h15 hQ3 hof hl r (i + 1) f A (by omega) (by omega) hO h213 (same (pch_1 c))
      exact ⟨B, b1, b2, b3⟩
theorem cdA_map {l : List (Int × Int)} {f : Int × Int → Int × Int} {i : Nat} (h : i < l.length) : cdA (l.map f) i = f (cdA l i) := by
  unfold cdA
  rw [List.getD_eq_getElem?_getD, List.getD_eq_getElem?_getD, List.getElem?_map, List.getElem?_eq_getElem h]
  rfl
theorem pch_fst (x : Int × Int) : (pch Q x).1 = x.1 := by
  unfold pch
  split
  · next c => exact c.1.symm
  · rfl
def sMo : List Nat := [209, 212, 213]
theorem sMo_2 : ∀ a, ([209, 212] : List Nat).contains a = true → sMo.contains a = true := fun a h => by
  unfold sMo
  simp at h ⊢
  omega
theorem sMo_1 : ∀ a, ([209] : List Nat).contains a = true → sMo.contains a = true := fun a h => by
  unfold sMo
  simp at h ⊢
  omega
theorem sMo_3 : ∀ a, ([213] : List Nat).contains a = true → sMo.contains a = true := fun a h => by
  unfold sMo
  simp at h ⊢
  omega
theorem pto_mo (ho : pto.contains o = true) : sMo.contains o = false ∧ ([213] : List Nat).contains o = false := by
  have : ∀ q ∈ pto, sMo.contains q = false ∧ ([213] : List Nat).contains q = false := by decide
  exact this o (List.contains_iff_mem.mp ho)
/-- parts of the class, linked -/
def CQp (Q : Pr) (R : Nat) (A : zA) : Prop := Own A ∧ STA A ∧ zi A R 1 = Q.1 ∧ ∀ p, exP Q p → CP A (R + 2 + 3 * p) (Q.2.1 p) (Q.2.2 p) ∧ CM A (R + 2 + 3 * p) (Q.2.1 p)
theorem CQp.f {S : List Nat} (hQ : WO Q) (hR : okR R) (h : CQp Q R A) (f : cF S A B) (hs : ∀ a, S.contains a = true → a = 209 ∨ a = 212 ∨ a = 213) : CQp Q R B := by
  have no : ∀ a, a ≠ 209 → a ≠ 212 → a ≠ 213 → S.contains a = false := fun a h1 h2 h3 => nc_of (fun q => by have := hs a q; omega)
  have hr := hR.fx.2.2
  refine ⟨f.own, h.2.1.f f (no 1 (by decide) (by decide) (by decide)) (no 2 (by decide) (by decide) (by decide)) (no 3 (by decide) (by decide) (by decide)), by rw [f.i hR.fx.1 (no R (by omega) (by omega) (by omega))]; exact h.2.2.1, fun p hp => ?_⟩
  have hp3 := exP3 hQ hp
  have ho := (rws_fr hR (show p < 4 by omega)).2.2.2.2.2
  have nn := no (R + 2 + 3 * p) (by omega) (by omega) (by omega)
  exact ⟨(h.2.2.2 p hp).1.fr ho f nn, (h.2.2.2 p hp).2.fr ho f nn⟩
theorem sp_nil (hC : CCd A l0) : CSp Q p l0 A 0 := ⟨by show CCd A (l0 ++ []); rw [List.append_nil]; exact hC, ⟨fun j hj => absurd hj (Nat.not_lt_zero j), fun j hj => absurd hj (Nat.not_lt_zero j)⟩⟩
theorem c_procs (hN : 300000 ≤ N) (hG : GQ Q) (hR : okR R) : ∀ (r q f : Nat) (A : zA), q + r = Q.1 → r < f → CQp Q R A → CCd A (rwq Q q) → (∀ j : Nat, j < q → ri A 213 j = ofP Q j) → ∃ B, z_Cd_makeOf_24_l N f R q A = some B ∧ CCd B (cod Q) ∧ cF sMo A B
  | 0, q, f + 1, A, h1, h2, hq, hC, hof => by
    have h3 := hG.1.1
    have e : q = Q.1 := by omega
    subst e
    have hlen := rwq_len hG.1 Q.1 (Nat.le_refl _)
    have hol := ofP_le hG.1 Q.1 (Nat.le_refl _)
    have hp0 : CCp Q A (rwq Q Q.1) 0 := ⟨hC.1, hC.2.1, fun j hj => ⟨(hC.2.2 j hj).1, by rw [if_neg (Nat.not_lt_zero j)]; exact (hC.2.2 j hj).2⟩⟩
    obtain ⟨B, b1, b2, b3⟩ := c_lead_run (N := N) (rwq_15 hG Q.1 (Nat.le_refl _)) h3 (fun q hq => by have := ofP_le hG.1 q (by omega); omega) (by omega) (rwq Q Q.1).length 0 N A (by omega) (by omega) hq.1 hof hp0
    have b1 : z_Cd_makeOf_79 N 0 A = some B := b1
    have st : z_Cd_makeOf_24_l N (f + 1) R Q.1 A = z_Cd_makeOf_79 N 0 A := by
      show z_Cd_makeOf_24_b (z_Cd_makeOf_24_l N f) N R Q.1 A = _
      unfold z_Cd_makeOf_24_b
      rw [hq.2.2.1]
      by_cases c : (Q.1 : Int) < 3
      · rw [if_pos c, if_neg (by omega)]
      · rw [if_neg c]
    rw [st, b1]
    refine ⟨B, rfl, ?_, b3.mono sMo_1⟩
    have em := rwq_pch hG Q.1 (Nat.le_refl _)
    unfold cod
    rw [← em]
    refine ⟨b2.1, by rw [List.length_map]; exact b2.2.1, fun i hi => ?_⟩
    rw [List.length_map] at hi
    rw [cdA_map hi, pch_fst]
    have := b2.2.2 i hi
    rw [if_pos hi] at this
    exact this
  | r + 1, q, f + 1, A, h1, h2, hq, hC, hof => by
    have h3 := hG.1.1
    have hp : exP Q q := Or.inl (by omega)
    obtain ⟨r1, r2, r3, r4, r5, r6⟩ := rws_fr hR (show q < 4 by omega)
    have hlen := rwq_len hG.1 q (by omega)
    have hol := ofP_le hG.1 q (by omega)
    have hl := (hG.1.2 q hp).2.2.1
    have hadl := adk_le (Q.2.1 q) (Q.2.1 q).length
    unfold z_Cd_makeOf_24_l z_Cd_makeOf_24_b
    rw [if_pos (by omega), hq.2.2.1, if_pos (by omega), zwr_ok (by omega) (by omega), hC.2.1, hlen]
    have f1 : cF [213] A (rs A 213 (q : Int) (ofP Q q : Int)) := cF_rs hq.1 (by decide) (by decide) (by decide)
    have v1 : ∀ j : Nat, j < q + 1 → ri (rs A 213 (q : Int) (ofP Q q : Int)) 213 j = ofP Q j := fun j hj => by
      rw [ri_rs (by omega) (by omega)]
      by_cases e : j = q
      · rw [if_pos (by omega), e]; exact yb_w (by omega) (by omega)
      · rw [if_neg (by omega)]; exact hof j (by omega)
    have hC1 := hC.fr f1 (by decide)
    have hq1 := hq.f hG.1 hR f1 (fun a h => by simp at h; omega)
    generalize rs A 213 (q : Int) (ofP Q q : Int) = A1 at *
    obtain ⟨B, b1, b2, b3⟩ := c_cadd (N := N) (x := 2) (y := 6) f1.own hC1 (by omega) (by decide) (by decide)
    rw [b1, zbV_s, zgf_s r1, zfe_p hR (by omega), zcs_s r5]
    have hqB := hq1.f hG.1 hR b3 (fun a h => by simp at h; omega)
    obtain ⟨hx, hm⟩ := hqB.2.2.2 q hp
    have hl0 : (rwq Q q ++ [((2 : Int), (6 : Int))]).length = adr Q q 0 := by
      rw [List.length_append, hlen]
      unfold adr
      rw [if_neg (by omega)]
      rfl
    obtain ⟨C, c1, c2, c3⟩ := c_items (N := N) hN hG hp r6 hl0 (Q.2.1 q).length 0 N B (by omega) (by omega) hqB.1 hqB.2.1 hx hm (sp_nil b2)
    have c1 : z_Cd_addItems N (R + 2 + 3 * q) B = some C := c1
    rw [c1, zbV_s]
    have hqC := hqB.f hG.1 hR c3 (fun a h => by simp at h; omega)
    obtain ⟨D, d1, d2, d3⟩ := c_cadd (N := N) (x := 16) (y := 0) hqC.1 c2 (by rw [List.length_append, List.length_append, hlen, rkC_len hG.1 hp _ _ (Nat.le_refl _)]; simp only [List.length_cons, List.length_nil]; omega) (by decide) (by decide)
    rw [d1, zbV_s, show zw ((q : Int) + 1) = ((q + 1 : Nat) : Int) by rw [yb_w (by omega) (by omega)]; omega]
    have hqD := hqC.f hG.1 hR d3 (fun a h => by simp at h; omega)
    have fD : cF sMo A D := (((f1.mono sMo_3).trans (b3.mono sMo_1)).trans (c3.mono sMo_2)).trans (d3.mono sMo_1)
    obtain ⟨E, e1, e2, e3⟩ := c_procs hN hG hR r (q + 1) f D (by omega) (by omega) hqD (by
      rw [List.append_assoc, List.append_assoc] at d2
      exact d2) (fun j hj => by rw [d3.e (by decide) (by decide), c3.e (by decide) (by decide), b3.e (by decide) (by decide)]; exact v1 j hj)
    exact ⟨E, e1, e2, fD.trans e3⟩
theorem c_makeOf (hN : 300000 ≤ N) (hG : GQ Q) (hR : okR R) (hq : CQp Q R A) (hD : CDI A) : ∃ B, z_Cd_makeOf N R A = some B ∧ CCd B (cod Q) ∧ cF sMo A B := by
  obtain ⟨r1, r2, r3, r4, r5, r6⟩ := rws_fr hR (show 3 < 4 by decide)
  unfold z_Cd_makeOf
  rw [zlet_s, zgf_s r1, show (3 : Int) = ((3 : Nat) : Int) by rfl, zfe_p hR (by omega), zcs_s r5]
  have f1 : cF [209] A (zsi A 209 2 0) := cF_si hq.1 (by decide) (by decide) (by decide)
  have hC0 : CCd (zsi A 209 2 0) [] := by
    obtain ⟨d1, d2, d3, d4, d5⟩ := hD
    have z0 : zi (zsi A 209 2 0) 209 2 = 0 := by rw [zi_si_s]; decide
    exact ⟨⟨by rw [yl_si, yl_si]; exact d1, by rw [yl_si]; exact d2, by rw [yl_si]; exact d3, by rw [z0]; decide, by rw [z0, yl_si]; omega⟩, z0, fun i hi => absurd hi (Nat.not_lt_zero i)⟩
  have hq1 := hq.f hG.1 hR f1 (fun a h => by simp at h; omega)
  generalize zsi A 209 2 0 = A1 at *
  obtain ⟨hx, hm⟩ := hq1.2.2.2 3 (Or.inr rfl)
  have hl := (hG.1.2 3 (Or.inr rfl)).2.2.1
  have hadl := adk_le (Q.2.1 3) (Q.2.1 3).length
  obtain ⟨C, c1, c2, c3⟩ := c_items (N := N) hN hG (Or.inr rfl) r6 (l0 := []) (by unfold adr; rw [if_pos rfl]; rfl) (Q.2.1 3).length 0 N A1 (by omega) (by omega) hq1.1 hq1.2.1 hx hm (sp_nil hC0)
  have c1 : z_Cd_addItems N (R + 2 + 3 * 3) A1 = some C := c1
  rw [c1, zbV_s]
  have hqC := hq1.f hG.1 hR c3 (fun a h => by simp at h; omega)
  obtain ⟨D, d1, d2, d3⟩ := c_cadd (N := N) (x := 17) (y := 0) hqC.1 c2 (by rw [List.nil_append, rkC_len hG.1 (Or.inr rfl) _ _ (Nat.le_refl _)]; omega) (by decide) (by decide)
  rw [d1, zbV_s]
  have hqD := hqC.f hG.1 hR d3 (fun a h => by simp at h; omega)
  have h3 := hG.1.1
  obtain ⟨E, e1, e2, e3⟩ := c_procs (N := N) hN hG hR Q.1 0 N D (by omega) (by omega) hqD d2 (fun j hj => absurd hj (Nat.not_lt_zero j))
  have e1 : z_Cd_makeOf_24 N R 0 D = some E := e1
  rw [e1]
  exact ⟨E, rfl, e2, (((f1.mono sMo_1).trans (c3.mono sMo_2)).trans (d3.mono sMo_1)).trans e3⟩
end
