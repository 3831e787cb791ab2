/-! blocks of the reference: IF -/
def qB (lv : Nat) (a j : Nat) : Prop := ((a = 271 ∨ a = 273) ∧ j = lv) ∨ (a = 226 ∧ j = 66)
section
variable {N w z sc dp lv t p a b : Nat} {A B : zA} {D : Nat → T} {s : St}
theorem rQ_lv_n {yw nc e a : Nat} {Z : Nat → Prop} (h : e < lv) (ha : 271 ≤ a ∧ a ≤ 275 ∨ 279 ≤ a ∧ a ≤ 283) : ¬ rQ w dp lv yw nc Z a e := fun q => by
  rcases q with q | q | q | q | q | q | q | q | q | q | q | q
  all_goals omega
theorem rQ_row_n {yw nc e a : Nat} {Z : Nat → Prop} (h : e < 61 * lv) (ha : 276 ≤ a ∧ a ≤ 278) : ¬ rQ w dp lv yw nc Z a e := fun q => by
  rcases q with q | q | q | q | q | q | q | q | q | q | q | q
  all_goals omega
theorem rQ_wy_n {yw nc e : Nat} {Z : Nat → Prop} (h : e < yw) : ¬ rQ w dp lv yw nc Z 284 e := fun q => by
  rcases q with q | q | q | q | q | q | q | q | q | q | q | q
  all_goals omega
theorem RW.same {s' : St} {f : Nat → T} (h : RW A w sc dp lv t D s) (h1 : ∀ i, i < 61 → f i = s.1 i) (h2 : s' = (f, s.2)) : RW A w sc dp lv t D s' := by
  rw [h2]
  obtain ⟨x1, x2, x3⟩ := h
  exact ⟨x1, fun i hi => by dsimp only; rw [h1 i hi]; exact x2 i hi, x3⟩
theorem r_block {x : Int} (h : RW A w sc dp lv t D s) (hl : lv < 30) (hx : zw x = x) (hy : s.2.2.1.length ≤ 900) : ∃ B, z_M_enterBlock N x A = some B ∧ RW B w sc dp (lv + 1) t D s ∧ ri B 271 lv = x ∧ ri B 273 lv = s.2.2.1.length ∧ fr (qB lv) A B := by
  have h66 := h.2.2.2.2.1.2.1
  have h81 := h.2.2.2.1.1
  unfold z_M_enterBlock
  rw [h66, zwr_ok (by omega) (by omega), zi_rs_o (by decide), zi_rs_o (by decide), h66, h81, zwr_ok (by omega) (by omega), zlet_s, zi_rs_o (by decide), zi_rs_o (by decide), h66]
  have f1 : fr (fun a j => (a = 271 ∨ a = 273) ∧ j = lv) A (rs (rs A 271 lv x) 273 lv s.2.2.1.length) := (fr_rs ⟨Or.inl rfl, by omega⟩).trans (fr_rs ⟨Or.inr rfl, by omega⟩)
  have v1 : ri (rs (rs A 271 lv x) 273 lv s.2.2.1.length) 271 lv = x := by rw [ri_rs_o (by decide), ri_rs_s, hx]
  have v3 : ri (rs (rs A 271 lv x) 273 lv s.2.2.1.length) 273 lv = s.2.2.1.length := by rw [ri_rs_s, yb_w (by omega) (by omega)]
  have h1 := h.lev f1 (fun a j q => by omega)
  generalize rs (rs A 271 lv x) 273 lv s.2.2.1.length = A1 at *
  have f2 : fr qC A1 (zsi A1 226 66 (lv + 1)) := fr_si ⟨rfl, Or.inr (Or.inl (by omega))⟩
  have f2' : fr (qB lv) A1 (zsi A1 226 66 (lv + 1)) := fr_si (Or.inr ⟨rfl, rfl⟩)
  have e66 : zi (zsi A1 226 66 (lv + 1)) 226 66 = lv + 1 := by rw [zi_si_s, yb_w (by omega) (by omega)]
  have eo : ∀ j, j ≠ 66 → zi (zsi A1 226 66 (lv + 1)) 226 j = zi A1 226 j := fun j hj => zi_si_j hj
  have ee : ∀ a e, 226 < a → ri (zsi A1 226 66 (lv + 1)) a e = ri A1 a e := fun a e ha => ri_si_o (by omega)
  generalize zsi A1 226 66 (lv + 1) = B at *
  refine ⟨B, rfl, h1.upd (f := s.1) f2 ?_ (h1.2.1.mono (fun i hi => ?_) (Nat.le_refl _) (fun _ _ => rfl)) h1.2.2.2.2.2.2.2.1 h1.2.2.2.2.2.2.2.2, by rw [ee _ _ (by omega)]; exact v1, by rw [ee _ _ (by omega)]; exact v3, (f1.mono (fun a j q => Or.inl q)).trans f2'⟩
  · have := h1.2.2.2.2.1
    unfold RFl at this ⊢
    rw [eo 62 (by omega), e66, eo 80 (by omega), eo 64 (by omega), eo 65 (by omega)]
    exact ⟨this.1, by omega, this.2.2⟩
  · unfold rpl
    rw [eo 63 (by omega), ee 267 _ (by omega), ee 268 _ (by omega)]
theorem r_unblock (h : RW A w sc dp (lv + 1) t D s) (hl : lv < 30) : RW (zsi A 226 66 lv) w sc dp lv t D s ∧ fr (fun a j => a = 226 ∧ j = 66) A (zsi A 226 66 lv) := by
  have f2 : fr qC A (zsi A 226 66 lv) := fr_si ⟨rfl, Or.inr (Or.inl (by omega))⟩
  have f2' : fr (fun a j => a = 226 ∧ j = 66) A (zsi A 226 66 lv) := fr_si ⟨rfl, rfl⟩
  have e66 : zi (zsi A 226 66 lv) 226 66 = lv := by rw [zi_si_s, yb_w (by omega) (by omega)]
  have eo : ∀ j, j ≠ 66 → zi (zsi A 226 66 lv) 226 j = zi A 226 j := fun j hj => zi_si_j hj
  have ee : ∀ a e, 226 < a → ri (zsi A 226 66 lv) a e = ri A a e := fun a e ha => ri_si_o (by omega)
  generalize zsi A 226 66 lv = B at *
  refine ⟨h.upd (f := s.1) f2 ?_ (h.2.1.mono (fun i hi => ?_) (Nat.le_refl _) (fun _ _ => rfl)) h.2.2.2.2.2.2.2.1 h.2.2.2.2.2.2.2.2, f2'⟩
  · have := h.2.2.2.2.1
    unfold RFl at this ⊢
    rw [eo 62 (by omega), e66, eo 80 (by omega), eo 64 (by omega), eo 65 (by omega)]
    exact ⟨this.1, rfl, this.2.2⟩
  · unfold rpl
    rw [eo 63 (by omega), ee 267 _ (by omega), ee 268 _ (by omega)]
/-- both ways told apart -/
theorem r_join {l e j0 : Nat} {f g : Nat → T} {ch : T} (hN : 300000 ≤ N) (hd : dp ≤ 3) (hl : l < 30) : ∀ (r k fu t : Nat) (D : Nat → T) (A : zA), k + r = 61 → r < fu → t + r < 16000 → j0 < t → D j0 = ch → ri A 272 l = j0 → RW A w sc dp (l + 1) t D (fun i => if i < k then sJoin ch f g i else g i, s.2) → SV A 277 l t D f → ∃ (B : zA) (t' : Nat) (D' : Nat → T), z_M_ends_114_l N fu e l k A = z_M_ends_186 N e B ∧ RW B w sc dp (l + 1) t' D' (sJoin ch f g, s.2) ∧ t ≤ t' ∧ t' ≤ t + r ∧ (∀ i, i < t → D' i = D i) ∧ fr (qX w dp s.2.2.1.length) A B := by
  intro r
  induction r with
  | zero =>
    intro k fu t D A h1 h2 h3 h4 h5 h6 h hv
    obtain ⟨u, rfl⟩ : ∃ u, fu = u + 1 := ⟨fu - 1, by omega⟩
    refine ⟨A, t, D, ?_, h.same (f := sJoin ch f g) (fun i hi => by dsimp only; rw [if_pos (by omega)]) rfl, by omega, by omega, fun _ _ => rfl, fr.refl _ _⟩
    show z_M_ends_114_b (z_M_ends_114_l N u) N e l k A = _
    unfold z_M_ends_114_b
    rw [if_neg (by omega)]
  | succ r ih =>
    intro k fu t D A h1 h2 h3 h4 h5 h6 h hv
    obtain ⟨u, rfl⟩ : ∃ u, fu = u + 1 := ⟨fu - 1, by omega⟩
    have w1 : zw ((k : Int) + 1) = ((k + 1 : Nat) : Int) := by rw [yb_w (by omega) (by omega)]; omega
    obtain ⟨x, x1, x2, x3⟩ := hv k (by omega)
    obtain ⟨y, y1, y2, y3⟩ := r_get (N := N) (r := k) h hd (by omega)
    have y3 : D y = g k := by rw [y3]; dsimp only; rw [if_neg (by omega)]
    have st : z_M_ends_114_l N (u + 1) e l k A = z_M_ends_114_b (z_M_ends_114_l N u) N e l k A := rfl
    unfold z_M_ends_114_b at st
    rw [if_pos (by omega), zrd_ok (by omega) (by omega), x2, y2, zbP_s, w1, zrd_ok (by omega) (by omega), h6, zrd_ok (by omega) (by omega), x2] at st
    rw [zbP_s] at st
    have ht := h.1.1.1
    by_cases c : x = y
    · subst c
      rw [if_pos rfl] at st
      have ej : sJoin ch f g k = g k := by unfold sJoin; rw [cif_pos (by rw [← x3, y3])]
      obtain ⟨B, t', D', b1, b2, b3, b4, b5, b6⟩ := ih (k + 1) u t D A (by omega) (by omega) (by omega) h4 h5 h6 (h.same (f := fun i => if i < k + 1 then sJoin ch f g i else g i) (fun i hi => by
        dsimp only
        by_cases z1 : i < k
        · rw [if_pos (by omega), if_pos z1]
        · by_cases z2 : i = k
          · rw [if_pos (by omega), if_neg z1, z2, ej]
          · rw [if_neg (by omega), if_neg z1]) rfl) hv
      exact ⟨B, t', D', by rw [st, b1], b2, b3, by omega, b5, b6⟩
    · rw [if_neg (by omega)] at st
      have ne : ¬ f k = g k := fun q => c (h.1.2.1.inj x y x1 y1 (by rw [x3, y3, q]))
      obtain ⟨j, t1, A1, D1, c1, c2, c3, c4, c5, c6, c7, c8⟩ := r_make (k := 5) (x := j0) (y := x) (z := y) hN h.1 (by omega) (Or.inr (Or.inr (Or.inr (Or.inr (Or.inr (Or.inr (Or.inl ⟨rfl, by dsimp only; omega, by dsimp only; omega, by dsimp only; omega, by dsimp only; omega, by dsimp only; omega, by dsimp only; omega⟩))))))) (by decide) (by decide) (yb_w (by omega) (by omega)) (yb_w (by omega) (by omega)) (yb_w (by omega) (by omega))
      have c4 : D1 j = sJoin ch f g k := by
        rw [c4]
        show tCho (D j0) (D x) (D y) = _
        unfold sJoin
        rw [cif_neg ne, h5, x3, y3]
      have h' := h.th c8 c2 c5 c7
      obtain ⟨A2, d1, d2, d3⟩ := r_set (N := N) (r := k) h' hd (by omega) c3 c4
      rw [c1, zbI_s, d1, zbV_s] at st
      have q272 : ri A2 272 l = j0 := by rw [d3.e (fun z => by unfold qP at z; omega), c8.e (fun z => by unfold qT at z; omega)]; exact h6
      have sv2 : SV A2 277 l t1 D1 f := hv.mono (fun i hi => by rw [d3.e (fun z => by unfold qP at z; omega), c8.e (fun z => by unfold qT at z; omega)]) c5 c7
      obtain ⟨B, t', D', b1, b2, b3, b4, b5, b6⟩ := ih (k + 1) u t1 D1 A2 (by omega) (by omega) (by omega) (by omega) (by rw [c7 j0 h4]; exact h5) q272 (d2.same (f := fun i => if i < k + 1 then sJoin ch f g i else g i) (fun i hi => by
        show _ = (if i = k then sJoin ch f g k else if i < k then sJoin ch f g i else g i)
        by_cases z1 : i < k
        · rw [if_pos (by omega), if_neg (by omega), if_pos z1]
        · by_cases z2 : i = k
          · rw [if_pos (by omega), if_pos z2, z2]
          · rw [if_neg (by omega), if_neg z2, if_neg z1]) rfl) sv2
      exact ⟨B, t', D', by rw [st, b1], b2, by omega, by omega, fun i hi => by rw [b5 i (by omega), c7 i hi], ((c8.mono (fun a j q => Or.inl q)).trans (d3.mono (fun a j q => Or.inr (Or.inl q)))).trans b6⟩
end
