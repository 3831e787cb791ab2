/-! CODE of the reference -/
def cdA (l : List (Int × Int)) (i : Nat) : Int × Int := l.getD i (0, 0)
def RCd (A : zA) (l : List (Int × Int)) : Prop := zi A 226 86 = l.length ∧ ∀ i : Nat, i < l.length → ri A 287 i = (cdA l i).1 ∧ ri A 288 i = (cdA l i).2
theorem cdA_l {l m : List (Int × Int)} {i : Nat} (h : i < l.length) : cdA (l ++ m) i = cdA l i := by
  unfold cdA
  rw [List.getD_eq_getElem?_getD, List.getD_eq_getElem?_getD, List.getElem?_append_left h]
theorem cdA_r {l m : List (Int × Int)} {i : Nat} (h : l.length ≤ i) : cdA (l ++ m) i = cdA m (i - l.length) := by
  unfold cdA
  rw [List.getD_eq_getElem?_getD, List.getD_eq_getElem?_getD, List.getElem?_append_right h]
def qTl (a j : Nat) : Prop := (a = 226 ∧ j = 86) ∨ a = 287 ∨ a = 288
section
variable {N : Nat} {A B : zA} {l : List (Int × Int)} {Q : Pr} {p k g : Nat}
theorem r_tell {x y : Int} (h : RCd A l) (hl : l.length < 2600) (hx : zw x = x) (hy : zw y = y) : ∃ B, z_M_tell N x y A = some B ∧ RCd B (l ++ [(x, y)]) ∧ fr qTl A B := by
  unfold z_M_tell
  rw [h.1, zwr_ok (by omega) (by omega), zi_rs_o (by decide), h.1, zwr_ok (by omega) (by omega), zlet_s, zi_rs_o (by decide), zi_rs_o (by decide), h.1]
  refine ⟨_, rfl, ⟨?_, fun i hi => ?_⟩, ((fr_rs (Or.inr (Or.inl rfl))).trans (fr_rs (Or.inr (Or.inr rfl)))).trans (fr_si (Or.inl ⟨rfl, rfl⟩))⟩
  · rw [zi_si_s, yb_w (by omega) (by omega), List.length_append]
    rfl
  · rw [List.length_append] at hi
    have hi : i < l.length + 1 := hi
    rw [ri_si_o (by decide), ri_si_o (by decide), ri_rs_o (by decide)]
    by_cases c : i < l.length
    · rw [cdA_l c, ri_rs_n (by omega) (by omega) (by omega), ri_rs_n (by omega) (by omega) (by omega), ri_rs_o (by decide)]
      exact h.2 i c
    · have : i = l.length := by omega
      subst this
      rw [ri_rs_s, ri_rs_s, cdA_r (Nat.le_refl _), Nat.sub_self]
      exact ⟨hx, hy⟩
theorem qT_n {a j : Nat} (ha : a ≠ 226) (h7 : a ≠ 287) (h8 : a ≠ 288) : ¬ qTl a j := fun z => by unfold qTl at z; omega
/-- what lies there for the letters -/
def RLy (Q : Pr) (A : zA) : Prop := (∀ p, exP Q p → RP A p (Q.2.1 p) (Q.2.2 p) ∧ (∀ k : Nat, k < (Q.2.1 p).length → 8 ≤ (itm (Q.2.1 p) k).1 → ri A 231 (240 * p + k) = mtL (Q.2.1 p) k) ∧ (∀ k : Nat, k < (Q.2.1 p).length → ri A 289 (240 * p + k) = adr Q p k)) ∧ (∀ q : Nat, q < Q.1 → ri A 290 q = ofP Q q) ∧ zi A 226 6 = Q.1
theorem RLy.fr (hQ : WO Q) (h : RLy Q A) (f : fr qTl A B) : RLy Q B := by
  obtain ⟨h1, h2, h3⟩ := h
  refine ⟨fun p hp => ?_, fun q hq => by rw [f.e (qT_n (by decide) (by decide) (by decide))]; exact h2 q hq, by rw [f.i (fun z => by unfold qTl at z; omega)]; exact h3⟩
  obtain ⟨a1, a2, a3⟩ := h1 p hp
  have hl := (hQ.2 p hp).2.2.1
  exact ⟨a1.fr (by omega) f (fun a j z y => by unfold qTl at z; unfold qRo at y; omega), fun k hk k8 => by rw [f.e (qT_n (by decide) (by decide) (by decide))]; exact a2 k hk k8, fun k hk => by rw [f.e (qT_n (by decide) (by decide) (by decide))]; exact a3 k hk⟩
/-- several letters -/
theorem r_tell2 {x y x' y' : Int} {K : zA → Option zA} (h : RCd A l) (hl : l.length + 1 < 2600) (hx : zw x = x) (hy : zw y = y) (hx' : zw x' = x') (hy' : zw y' = y') : ∃ B, (zbV (z_M_tell N x y A) fun A5 => zbV (z_M_tell N x' y' A5) K) = K B ∧ RCd B (l ++ [(x, y), (x', y')]) ∧ fr qTl A B := by
  obtain ⟨B, b1, b2, b3⟩ := r_tell (N := N) h (by omega) hx hy
  obtain ⟨C, c1, c2, c3⟩ := r_tell (N := N) (x := x') (y := y') b2 (by rw [List.length_append]; simp only [List.length_cons, List.length_nil]; omega) hx' hy'
  refine ⟨C, by rw [b1, zbV_s, c1, zbV_s], ?_, b3.trans c3⟩
  rw [List.append_assoc] at c2
  exact c2
theorem r_itemCode (hG : GQ Q) (hp : exP Q p) (hk : k < (Q.2.1 p).length) (hL : RLy Q A) (h : RCd A l) (hl : l.length + 4 ≤ 2500) : ∃ B, z_M_itemCode N p k A = some B ∧ RCd B (l ++ itc Q p k) ∧ fr qTl A B := by
  have hQ := hG.1
  have hp3 := exP3 hQ hp
  obtain ⟨q1, q2, q3, q4⟩ := hQ.2 p hp
  obtain ⟨o1, o2, o3, o4, o5⟩ := q4 _ (itm_mem hk)
  obtain ⟨⟨a1, a2, a3⟩, h290, -⟩ := (⟨hL.1 p hp, hL.2⟩ : _ ∧ _)
  have pt := mt_pt (hG.n.2.1 p hp) hk
  have kk : z_M_field N 0 p k 0 A = some (itm (Q.2.1 p) k).1 := rp_kind (z := 0) (by decide) (by omega) (by omega) a1 hk (by omega)
  have kn : ∀ {C : zA}, fr qTl A C → ∀ i : Nat, i < nbk (itm (Q.2.1 p) k).1 → z_M_field N 0 p k ((i : Int) + 1) C = some (ig (itm (Q.2.1 p) k) (i + 1)) := fun {C} f i hi => rp_num (z := 0) (by decide) (by omega) (by omega) (a1.fr (by omega) f (fun a j z y => by unfold qTl at z; unfold qRo at y; omega)) hk (by omega) hi
  have f1 : ∃ v, z_M_field N 0 p k 1 A = some v := ⟨_, z_M_field_e (by omega) (by omega) (by omega) (by omega) (by decide) (by decide)⟩
  have f2 : ∃ v, z_M_field N 0 p k 2 A = some v := ⟨_, z_M_field_e (by omega) (by omega) (by omega) (by omega) (by decide) (by decide)⟩
  obtain ⟨v2, e2⟩ := f1
  obtain ⟨v3, e3⟩ := f2
  have n1 : 1 ≤ nbk (itm (Q.2.1 p) k).1 → v2 = ig (itm (Q.2.1 p) k) 1 := fun z => by
    have := kn (fr.refl _ A) 0 z
    have this : z_M_field N 0 p k 1 A = some (ig (itm (Q.2.1 p) k) 1) := this
    rw [e2] at this
    exact Option.some.inj this
  have n2 : 2 ≤ nbk (itm (Q.2.1 p) k).1 → v3 = ig (itm (Q.2.1 p) k) 2 := fun z => by
    have := kn (fr.refl _ A) 1 z
    have this : z_M_field N 0 p k 2 A = some (ig (itm (Q.2.1 p) k) 2) := this
    rw [e3] at this
    exact Option.some.inj this
  have w : ∀ j : Nat, j < nbk (itm (Q.2.1 p) k).1 → zw (ig (itm (Q.2.1 p) k) (j + 1)) = ig (itm (Q.2.1 p) k) (j + 1) := fun j hj => yb_w (o3 j hj).1 (o3 j hj).2.1
  have w0 : zw 0 = 0 := by decide
  have hm : 8 ≤ (itm (Q.2.1 p) k).1 → ri A 231 (240 * (p : Int) + k) = mtL (Q.2.1 p) k := a2 k hk
  have ad : ∀ {C : zA}, fr qTl A C → ∀ j, j < (Q.2.1 p).length → (∀ {R : Type} (K : Int → Option R), zrd C 289 960 ((240 * (p : Int)) + (j : Int)) K = K (adr Q p j : Int)) := fun {C} f j hj R K => by
    rw [zrd_ok (by omega) (by omega), f.e (qT_n (by decide) (by decide) (by decide)), a3 j hj]
  have adw : ∀ j, j < (Q.2.1 p).length → zw ((adr Q p j : Int) + 1) = (adr Q p j : Int) + 1 ∧ zw (adr Q p j : Int) = (adr Q p j : Int) := fun j hj => by
    have := adr_le hQ hp (show j ≤ 150 by omega)
    exact ⟨yb_w (by omega) (by omega), yb_w (by omega) (by omega)⟩
  unfold z_M_itemCode
  rw [kk, zbP_s, e2, zbP_s, e3, zbP_s, zrd_ok (by omega) (by omega)]
  unfold itc
  by_cases c0 : (itm (Q.2.1 p) k).1 = 0
  · rw [if_pos c0, if_pos c0, n1 (by rw [c0]; decide), n2 (by rw [c0]; decide)]
    exact r_tell2 h (by omega) (by decide) (w 1 (by rw [c0]; decide)) (by decide) (w 0 (by rw [c0]; decide))
  rw [if_neg c0, if_neg c0]
  by_cases c1 : (itm (Q.2.1 p) k).1 = 1
  · rw [if_pos c1, if_pos c1, n1 (by rw [c1]; decide), n2 (by rw [c1]; decide)]
    exact r_tell2 h (by omega) (by decide) (w 1 (by rw [c1]; decide)) (by decide) (w 0 (by rw [c1]; decide))
  rw [if_neg c1, if_neg c1]
  by_cases c2 : (itm (Q.2.1 p) k).1 = 2
  · rw [if_pos c2, if_pos c2, n1 (by rw [c2]; decide), n2 (by rw [c2]; decide)]
    obtain ⟨B, b1, b2, b3⟩ := r_tell (N := N) (x := 1) (y := ig (itm (Q.2.1 p) k) 2) h (by omega) (by decide) (w 1 (by rw [c2]; decide))
    have k3 : z_M_field N 0 p k 3 B = some (ig (itm (Q.2.1 p) k) 3) := kn b3 2 (by rw [c2]; decide)
    rw [b1, zbV_s, k3, zbP_s]
    obtain ⟨C, d1, d2, d3⟩ := r_tell (N := N) (x := 1) (y := ig (itm (Q.2.1 p) k) 3) b2 (by rw [List.length_append]; simp only [List.length_cons, List.length_nil]; omega) (by decide) (w 2 (by rw [c2]; decide))
    have k4 : z_M_field N 0 p k 4 C = some (ig (itm (Q.2.1 p) k) 4) := kn (b3.trans d3) 3 (by rw [c2]; decide)
    have o4 := o4 c2
    rw [d1, zbV_s, k4, zbP_s, yb_w (by omega) (by omega)]
    obtain ⟨D, e1, e2, e3⟩ := r_tell2 (N := N) (x := 3 + ig (itm (Q.2.1 p) k) 4) (y := 0) (x' := 2) (y' := ig (itm (Q.2.1 p) k) 1) (K := fun A => some A) d2 (by rw [List.length_append, List.length_append]; simp only [List.length_cons, List.length_nil]; omega) (yb_w (by omega) (by omega)) w0 (by decide) (w 0 (by rw [c2]; decide))
    refine ⟨D, e1, ?_, (b3.trans d3).trans e3⟩
    rw [List.append_assoc, List.append_assoc] at e2
    exact e2
  rw [if_neg c2, if_neg c2]
  by_cases c3 : (itm (Q.2.1 p) k).1 = 3
  · rw [if_pos c3, if_pos c3, n1 (by rw [c3]; decide), n2 (by rw [c3]; decide)]
    obtain ⟨B, b1, b2, b3⟩ := r_tell (N := N) (x := 1) (y := ig (itm (Q.2.1 p) k) 2) h (by omega) (by decide) (w 1 (by rw [c3]; decide))
    rw [b1, zbV_s]
    obtain ⟨D, e1, e2, e3⟩ := r_tell2 (N := N) (x := 9) (y := 0) (x' := 2) (y' := ig (itm (Q.2.1 p) k) 1) (K := fun A => some A) b2 (by rw [List.length_append]; simp only [List.length_cons, List.length_nil]; omega) (by decide) w0 (by decide) (w 0 (by rw [c3]; decide))
    refine ⟨D, e1, ?_, b3.trans e3⟩
    rw [List.append_assoc] at e2
    exact e2
  rw [if_neg c3, if_neg c3]
  by_cases c4 : (itm (Q.2.1 p) k).1 = 4
  · rw [if_pos c4, if_pos c4, n1 (by rw [c4]; decide), n2 (by rw [c4]; decide)]
    obtain ⟨B, b1, b2, b3⟩ := r_tell (N := N) (x := 1) (y := ig (itm (Q.2.1 p) k) 1) h (by omega) (by decide) (w 0 (by rw [c4]; decide))
    rw [b1, zbV_s]
    obtain ⟨D, e1, e2, e3⟩ := r_tell2 (N := N) (x := 1) (y := ig (itm (Q.2.1 p) k) 2) (x' := 10) (y' := 0) (K := fun A => some A) b2 (by rw [List.length_append]; simp only [List.length_cons, List.length_nil]; omega) (by decide) (w 1 (by rw [c4]; decide)) (by decide) w0
    refine ⟨D, e1, ?_, b3.trans e3⟩
    rw [List.append_assoc] at e2
    exact e2
  rw [if_neg c4, if_neg c4]
  by_cases c5 : (itm (Q.2.1 p) k).1 = 5
  · rw [if_pos c5, if_pos c5, n1 (by rw [c5]; decide)]
    exact r_tell2 h (by omega) (by decide) w0 (by decide) (w 0 (by rw [c5]; decide))
  rw [if_neg c5, if_neg c5]
  by_cases c6 : (itm (Q.2.1 p) k).1 = 6
  · rw [if_pos c6, if_pos c6, n1 (by rw [c6]; decide)]
    exact r_tell2 h (by omega) (by decide) (w 0 (by rw [c6]; decide)) (by decide) w0
  rw [if_neg c6, if_neg c6]
  by_cases c7 : (itm (Q.2.1 p) k).1 = 7
  · rw [if_pos c7, if_pos c7, n1 (by rw [c7]; decide), n2 (by rw [c7]; decide)]
    obtain ⟨B, b1, b2, b3⟩ := r_tell (N := N) (x := 1) (y := ig (itm (Q.2.1 p) k) 1) h (by omega) (by decide) (w 0 (by rw [c7]; decide))
    have o5 := o5 c7
    have hQ3 := hQ.1
    rw [b1, zbV_s, zrd_ok (by omega) (by omega)]
    have e9 : ri B 290 (ig (itm (Q.2.1 p) k) 2) = ofP Q (ig (itm (Q.2.1 p) k) 2).toNat := by
      rw [b3.e (qT_n (by decide) (by decide) (by decide))]
      have := h290 (ig (itm (Q.2.1 p) k) 2).toNat (by omega)
      rw [show (((ig (itm (Q.2.1 p) k) 2).toNat : Nat) : Int) = ig (itm (Q.2.1 p) k) 2 by omega] at this
      exact this
    rw [e9]
    have := ofP_le hQ (ig (itm (Q.2.1 p) k) 2).toNat (by omega)
    obtain ⟨C, d1, d2, d3⟩ := r_tell (N := N) (x := 15) (y := (ofP Q (ig (itm (Q.2.1 p) k) 2).toNat : Int)) b2 (by rw [List.length_append]; simp only [List.length_cons, List.length_nil]; omega) (by decide) (yb_w (by omega) (by omega))
    rw [d1, zbV_s]
    refine ⟨C, rfl, ?_, b3.trans d3⟩
    rw [List.append_assoc] at d2
    exact d2
  rw [if_neg c7, if_neg c7]
  by_cases c8 : (itm (Q.2.1 p) k).1 = 8
  · have t := pt.1 c8
    rw [if_pos c8, if_pos c8, n1 (by rw [c8]; decide), hm (by omega)]
    obtain ⟨B, b1, b2, b3⟩ := r_tell (N := N) (x := 1) (y := ig (itm (Q.2.1 p) k) 1) h (by omega) (by decide) (w 0 (by rw [c8]; decide))
    rw [b1, zbV_s, ad b3 _ (by omega), (adw _ (by omega)).1]
    obtain ⟨C, d1, d2, d3⟩ := r_tell (N := N) (x := 13) (y := (adr Q p (mtL (Q.2.1 p) k) : Int) + 1) b2 (by rw [List.length_append]; simp only [List.length_cons, List.length_nil]; omega) (by decide) (adw _ (by omega)).1
    rw [d1, zbV_s]
    refine ⟨C, rfl, ?_, b3.trans d3⟩
    rw [List.append_assoc] at d2
    exact d2
  rw [if_neg c8, if_neg c8]
  by_cases c9 : (itm (Q.2.1 p) k).1 = 9
  · have t := pt.2.1 c9
    rw [if_pos c9, if_pos c9, hm (by omega), ad (fr.refl _ _) _ (by omega)]
    obtain ⟨C, d1, d2, d3⟩ := r_tell (N := N) (x := 14) (y := (adr Q p (mtL (Q.2.1 p) k) : Int)) h (by omega) (by decide) (adw _ (by omega)).2
    rw [d1, zbV_s]
    exact ⟨C, rfl, d2, d3⟩
  rw [if_neg c9, if_neg c9]
  by_cases c11 : (itm (Q.2.1 p) k).1 = 11
  · have t := pt.2.2.2.1 c11
    rw [if_pos c11, if_pos c11, n1 (by rw [c11]; decide), hm (by omega)]
    obtain ⟨B, b1, b2, b3⟩ := r_tell (N := N) (x := 1) (y := ig (itm (Q.2.1 p) k) 1) h (by omega) (by decide) (w 0 (by rw [c11]; decide))
    rw [b1, zbV_s, ad b3 _ (by omega), (adw _ (by omega)).1]
    obtain ⟨C, d1, d2, d3⟩ := r_tell (N := N) (x := 13) (y := (adr Q p (mtL (Q.2.1 p) k) : Int) + 1) b2 (by rw [List.length_append]; simp only [List.length_cons, List.length_nil]; omega) (by decide) (adw _ (by omega)).1
    rw [d1, zbV_s]
    refine ⟨C, rfl, ?_, b3.trans d3⟩
    rw [List.append_assoc] at d2
    exact d2
  rw [if_neg c11, if_neg c11]
  by_cases c12 : (itm (Q.2.1 p) k).1 = 12
  · have t := pt.2.2.2.2 c12
    have km : z_M_field N 0 p (mtL (Q.2.1 p) k : Nat) 0 A = some (itm (Q.2.1 p) (mtL (Q.2.1 p) k)).1 := rp_kind (z := 0) (by decide) (by omega) (by omega) a1 (by omega) (by omega)
    rw [if_pos c12, if_pos c12, hm (by omega), km, zbP_s]
    by_cases cm : (itm (Q.2.1 p) (mtL (Q.2.1 p) k)).1 = 10
    · rw [if_pos cm, if_pos cm, ad (fr.refl _ _) _ (by omega)]
      obtain ⟨C, d1, d2, d3⟩ := r_tell (N := N) (x := 14) (y := (adr Q p (mtL (Q.2.1 p) k) : Int)) h (by omega) (by decide) (adw _ (by omega)).2
      rw [d1, zbV_s]
      exact ⟨C, rfl, d2, d3⟩
    · rw [if_neg cm, if_neg cm, List.append_nil]
      exact ⟨A, rfl, h, fr.refl _ _⟩
  · rw [if_neg c12, if_neg c12, List.append_nil]
    exact ⟨A, rfl, h, fr.refl _ _⟩
end
