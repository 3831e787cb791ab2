/-! found; circling -/
section
variable {N w sc dp lv t : Nat} {A B : zA} {D : Nat → T} {s : St}
noncomputable def rdm (S : Nat → Bool) (g : Nat → T) (W : Int) : Nat → Bool := fun i => S i && cif (g i = tCir W i) false true
def qM (l : Nat) (a j : Nat) : Prop := qT a j ∨ (a = 279 ∧ j = l)
theorem zml_sl (A : zA) (a j : Nat) (x : Int64) (b k : Nat) : zml (zsl A a j x) b k = if b = a ∧ k = j then x else zml A b k := rfl
theorem found_run {l : Nat} {S : Nat → Bool} {W : Int} (hN : 300000 ≤ N) (hd : dp ≤ 3) (hl : l < 30) (hW0 : 0 ≤ W) (hW : W < 30000) : ∀ (r k fu t : Nat) (D : Nat → T) (A : zA) (x2 : Int), k + r = 61 → r < fu → t + r < 16000 → (x2 = 0 ∨ x2 = 1) → ri A 281 l = W → MKS A l (fun i => if i < k then rdm S s.1 W i else S i) → RW A w sc dp (l + 1) t D s → ∃ (B : zA) (t' : Nat) (D' : Nat → T) (y : Int), z_M_found_11_l N fu l x2 k A = z_M_found_71 N l y B ∧ RW B w sc dp (l + 1) t' D' s ∧ MKS B l (rdm S s.1 W) ∧ (y = 0 ∨ y = 1) ∧ (y = 1 ↔ x2 = 1 ∧ ∀ i, k ≤ i → i < 61 → rdm S s.1 W i = S i) ∧ t ≤ t' ∧ (∀ i, i < t → D' i = D i) ∧ fr (qM l) A B := by
  intro r
  induction r with
  | zero =>
    intro k fu t D A x2 h1 h2 h3 hx hw hM h
    obtain ⟨u, rfl⟩ : ∃ u, fu = u + 1 := ⟨fu - 1, by omega⟩
    refine ⟨A, t, D, x2, ?_, h, fun i hi => by rw [hM i hi]; dsimp only; rw [if_pos (by omega)], hx, ⟨fun q => ⟨q, fun i a b => by omega⟩, fun q => q.1⟩, by omega, fun _ _ => rfl, fr.refl _ _⟩
    show z_M_found_11_b (z_M_found_11_l N u) N l x2 k A = _
    unfold z_M_found_11_b
    rw [if_neg (by omega)]
  | succ r ih =>
    intro k fu t D A x2 h1 h2 h3 hx hw hM h
    obtain ⟨u, rfl⟩ : ∃ u, fu = u + 1 := ⟨fu - 1, by omega⟩
    have w1 : zw ((k : Int) + 1) = ((k + 1 : Nat) : Int) := by rw [yb_w (by omega) (by omega)]; omega
    have h66 : zi A 226 66 = (l : Int) + 1 := by have := h.2.2.2.2.1.2.1; omega
    have st : z_M_found_11_l N (u + 1) l x2 k A = z_M_found_11_b (z_M_found_11_l N u) N l x2 k A := rfl
    unfold z_M_found_11_b at st
    rw [if_pos (by omega), M_circles h66 hl hM (by omega), zbP_s, w1, if_neg (show ¬ k < k by omega)] at st
    have step : rdm S s.1 W k = S k → ∀ A1 t1 D1, RW A1 w sc dp (l + 1) t1 D1 s → t ≤ t1 → t1 ≤ t + 1 → (∀ i, i < t → D1 i = D i) → fr qT A A1 → ∃ (B : zA) (t' : Nat) (D' : Nat → T) (y : Int), z_M_found_11_l N u l x2 ((k + 1 : Nat) : Int) A1 = z_M_found_71 N l y B ∧ RW B w sc dp (l + 1) t' D' s ∧ MKS B l (rdm S s.1 W) ∧ (y = 0 ∨ y = 1) ∧ (y = 1 ↔ x2 = 1 ∧ ∀ i, k ≤ i → i < 61 → rdm S s.1 W i = S i) ∧ t ≤ t' ∧ (∀ i, i < t → D' i = D i) ∧ fr (qM l) A B := by
      intro hk A1 t1 D1 hA1 q1 q2 q3 q4
      obtain ⟨B, t', D', y, b1, b2, b3, b4, b5, b6, b7, b8⟩ := ih (k + 1) u t1 D1 A1 x2 (by omega) (by omega) (by omega) hx (by rw [q4.e (fun z => by unfold qT at z; omega)]; exact hw) (fun i hi => by
        rw [q4.l (fun z => by unfold qT at z; omega), hM i hi]
        dsimp only
        by_cases z1 : i < k
        · rw [if_pos z1, if_pos (by omega)]
        · by_cases z2 : i = k
          · rw [if_neg z1, if_pos (by omega), z2, hk]
          · rw [if_neg z1, if_neg (by omega)]) hA1
      refine ⟨B, t', D', y, b1, b2, b3, b4, b5.trans ⟨fun z => ⟨z.1, fun i i1 i2 => ?_⟩, fun z => ⟨z.1, fun i i1 i2 => z.2 i (by omega) i2⟩⟩, by omega, fun i hi => by rw [b7 i (by omega), q3 i hi], (q4.mono (fun a j z => Or.inl z)).trans b8⟩
      by_cases c : i = k
      · rw [c]; exact hk
      · exact z.2 i (by omega) i2
    by_cases c : S k = true
    · rw [if_pos c, if_neg (by decide)] at st
      obtain ⟨g, g1, g2, g3⟩ := r_get (N := N) (r := k) h hd (by omega)
      obtain ⟨j, t1, A1, D1, c1, c2, c3, c4, c5, c6, c7, c8⟩ := r_make (k := 6) (x := W) (y := k) (z := 0) hN h.1 (by omega) (Or.inr (Or.inr (Or.inr (Or.inr (Or.inr (Or.inr (Or.inr ⟨rfl, rfl⟩))))))) (by decide) (by decide) (yb_w (by omega) (by omega)) (yb_w (by omega) (by omega)) zwi0
      have c4 : D1 j = tCir W k := c4
      have hA1 := h.th c8 c2 c5 c7
      rw [g2, zbP_s, zrd_ok (by omega) (by omega), hw, c1, zbI_s] at st
      by_cases q : g = j
      · subst q
        rw [if_pos rfl] at st
        have hk : s.1 k = tCir W k := by rw [← g3, ← c7 g g1]; exact c4
        have hrd : rdm S s.1 W k = false := by unfold rdm; rw [cif_pos hk, Bool.and_false]
        unfold zrl zwl at st
        rw [if_pos (by omega), Int.toNat_natCast] at st
        dsimp only at st
        rw [if_pos (by omega)] at st
        generalize hv : zml A1 279 l &&& (zlsl (Int64.ofNat 1) k ^^^ Int64.ofNat 18446744073709551615) = v at st
        have f3 : fr (qM l) A1 (zsl A1 279 l v) := fr_sl (Or.inr ⟨rfl, rfl⟩)
        have f3' : fr (fun a j => a = 279 ∧ j = l) A1 (zsl A1 279 l v) := fr_sl ⟨rfl, rfl⟩
        have hA2 := hA1.lev f3' (fun a j z => by omega)
        have v2 : ∀ i : Nat, zml (zsl A1 279 l v) 279 l = v := fun _ => by rw [zml_sl, if_pos ⟨rfl, rfl⟩]
        have e2 : ∀ a e, ri (zsl A1 279 l v) a e = ri A1 a e := fun _ _ => rfl
        generalize zsl A1 279 l v = A2 at *
        have hM2 : MKS A2 l (fun i => if i < k + 1 then rdm S s.1 W i else S i) := fun i hi => by
          rw [v2 0, ← hv, bt_clear _ (by omega) (by omega), c8.l (fun z => by unfold qT at z; omega), hM i hi]
          dsimp only
          by_cases z1 : i < k
          · have : Nat.beq i k = false := by
              cases hb : Nat.beq i k with
              | false => rfl
              | true => have := Nat.eq_of_beq_eq_true hb; omega
            rw [this, if_pos z1, if_pos (by omega)]
            simp
          · by_cases z2 : i = k
            · subst z2
              rw [if_pos (show i < i + 1 by omega), hrd]
              simp
            · have : Nat.beq i k = false := by
                cases hb : Nat.beq i k with
                | false => rfl
                | true => have := Nat.eq_of_beq_eq_true hb; omega
              rw [this, if_neg z1, if_neg (by omega)]
              simp
        obtain ⟨B, t', D', y, b1, b2, b3, b4, b5, b6, b7, b8⟩ := ih (k + 1) u t1 D1 A2 0 (by omega) (by omega) (by omega) (Or.inl rfl) (by rw [e2, c8.e (fun z => by unfold qT at z; omega)]; exact hw) hM2 hA2
        refine ⟨B, t', D', y, by rw [st, b1], b2, b3, b4, ⟨fun z => ?_, fun z => ?_⟩, by omega, fun i hi => by rw [b7 i (by omega), c7 i hi], ((c8.mono (fun a j z => Or.inl z)).trans f3).trans b8⟩
        · have := (b5.mp z).1
          omega
        · have := z.2 k (Nat.le_refl _) (by omega)
          rw [hrd, c] at this
          cases this
      · rw [if_neg (by omega)] at st
        have hk : ¬ s.1 k = tCir W k := fun z => q (c2.2.1.inj g j (by omega) c3 (by rw [c7 g g1, g3, c4]; exact z))
        have hrd : rdm S s.1 W k = S k := by unfold rdm; rw [cif_neg hk, Bool.and_true]
        rw [st]
        exact step hrd A1 t1 D1 hA1 c5 c6 c7 c8
    · rw [if_neg c, if_pos rfl] at st
      have hrd : rdm S s.1 W k = S k := by
        unfold rdm
        have : S k = false := by cases hs : S k with
          | false => rfl
          | true => exact absurd hs c
        rw [this, Bool.false_and]
      rw [st]
      exact step hrd A t D h (by omega) (by omega) (fun _ _ => rfl) (fr.refl _ _)
/-- what a level of WHILE holds -/
def WI (X : zA) (l t : Nat) (W I : Int) (yw : Nat) (D : Nat → T) (f0 : Nat → T) (qu : Int) : Prop := ri X 271 l = 3 ∧ ri X 273 l = yw ∧ ri X 280 l = qu ∧ ri X 281 l = W ∧ ri X 282 l = I ∧ ri X 283 l = t ∧ SV X 278 l t D f0
theorem WI.mono {X Y : zA} {l t : Nat} {W I : Int} {yw : Nat} {D : Nat → T} {f0 : Nat → T} {qu : Int} {Q : Nat → Nat → Prop} (h : WI X l t W I yw D f0 qu) (f : fr Q X Y) (hq : ∀ a j, Q a j → ((271 ≤ a ∧ a ≤ 275 ∨ 280 ≤ a ∧ a ≤ 283) → j ≠ l) ∧ (a = 278 → 61 * l + 61 ≤ j)) : WI Y l t W I yw D f0 qu := by
  obtain ⟨h1, h2, h3, h4, h5, h6, h7⟩ := h
  have e : ∀ a, (271 ≤ a ∧ a ≤ 275 ∨ 280 ≤ a ∧ a ≤ 283) → ri Y a l = ri X a l := fun a ha => f.e (fun z => by have := (hq _ _ z).1 ha; omega)
  refine ⟨by rw [e _ (by omega)]; exact h1, by rw [e _ (by omega)]; exact h2, by rw [e _ (by omega)]; exact h3, by rw [e _ (by omega)]; exact h4, by rw [e _ (by omega)]; exact h5, by rw [e _ (by omega)]; exact h6, fun i hi => ?_⟩
  rw [f.e (fun z => by have := (hq _ _ z).2 rfl; omega)]
  exact h7 i hi
/-- found: which ones circle on; its things are given back -/
theorem r_found {l t0 : Nat} {S : Nat → Bool} {W I : Int} {D0 : Nat → T} {f0 : Nat → T} {s0 : St} {A0 : zA} (hN : 300000 ≤ N) (hd : dp ≤ 3) (hl : l < 30) (hW0 : 0 ≤ W) (hW : W < 30000) (ht : t + 61 < 16000) (h : RW A w sc dp (l + 1) t D s) (hM : MKS A l S) (hI : WI A l t0 W I s0.2.2.1.length D0 f0 1) (ht0 : t0 ≤ t) (hD0 : ∀ i, i < t0 → D i = D0 i) (h0 : RC A0 w sc dp (l + 1) t0 D0 s0) (e1 : s.2.1 = s0.2.1) (e2 : s.2.2.1 = s0.2.2.1) (e3 : s.2.2.2.2.2 = s0.2.2.2.2.2) : ∃ (B : zA) (y : Int), z_M_found N A = some (y, B) ∧ RC B w sc dp (l + 1) t0 D0 s ∧ MKS B l (rdm S s.1 W) ∧ WI B l t0 W I s0.2.2.1.length D0 f0 1 ∧ (y = 0 ∨ y = 1) ∧ (y = 1 ↔ ∀ i, i < 61 → rdm S s.1 W i = S i) ∧ fr (qM l) A B := by
  have h66 : zi A 226 66 = (l : Int) + 1 := by have := h.2.2.2.2.1.2.1; omega
  have wl : zw ((l : Int) + 1 - 1) = l := by rw [yb_w (by omega) (by omega)]; omega
  obtain ⟨A1, t1, D1, y, b1, b2, b3, b4, b5, b6, b7, b8⟩ := found_run (S := S) (s := s) hN hd hl hW0 hW 61 0 N t D A 1 (by omega) (by omega) (by omega) (Or.inr rfl) hI.2.2.2.1 (fun i hi => by rw [hM i hi]; dsimp only; rw [if_neg (by omega)]) h
  rw [show ((0 : Nat) : Int) = 0 from rfl] at b1
  unfold z_M_found z_M_found_11
  rw [h66, wl, b1]
  unfold z_M_found_71
  have qm : ∀ a j, qM l a j → ((271 ≤ a ∧ a ≤ 275 ∨ 280 ≤ a ∧ a ≤ 283) → j ≠ l) ∧ (a = 278 → 61 * l + 61 ≤ j) := fun a j q => by unfold qM qT at q; omega
  have hI1 := hI.mono b8 qm
  obtain ⟨B, c1, c2, c3⟩ := r_giveBack (n := t0) hN b2.1 (by omega)
  rw [zrd_ok (by omega) (by omega), hI1.2.2.2.2.2.1, c1, zbV_s, if_pos b4]
  have c2' : RTh B t0 D0 := ⟨c2.1, c2.2.1.cong (fun i hi => by rw [b7 i (by omega), hD0 i hi]), c2.2.2⟩
  have hD1 : ∀ i, i < t0 → D1 i = D0 i := fun i hi => by rw [b7 i (by omega), hD0 i hi]
  have hinj := b2.1.2.1.inj
  obtain ⟨x1, x2, x3, x4, x5, x6, x7, x8, x9⟩ := b2
  obtain ⟨y1, y3, y4, y5, y6, y7⟩ := h0
  rw [e1] at x3
  rw [e2] at x4
  rw [e3] at x6
  have z3 := y3.down x3 hinj (by omega) hD1
  have z4 := y4.down x4 hinj (by omega) hD1
  have z6 := y6.down x6 hinj (by omega) hD1
  have e : ∀ a e, 258 < a → ri B a e = ri A1 a e := fun a e ha => c3.e (fun z => by unfold qT at z; omega)
  have i : ∀ j, j ≠ 42 → zi B 226 j = zi A1 226 j := fun j hj => c3.i (fun z => by unfold qT at z; omega)
  have r := Nat.le_refl t0
  refine ⟨B, y, rfl, ⟨c2', ?_, ?_, ?_, ?_, by rw [e 261 _ (by omega)]; exact x7, by rw [e 261 _ (by omega)]; exact x8, x9⟩, fun i hi => by rw [c3.l (fun z => by unfold qT at z; omega)]; exact b3 i hi, hI1.mono c3 (fun a j q => by unfold qT at q; omega), b4, b5.trans ⟨fun z i hi => z.2 i (by omega) hi, fun z => ⟨rfl, fun i _ hi => z i hi⟩⟩, b8.trans (c3.mono (fun a j q => Or.inl q))⟩
  · rw [e1]; exact z3.mono (e _ _ (by omega)) (fun _ => e _ _ (by omega)) r (fun _ _ => rfl)
  · rw [e2]; exact z4.mono (i _ (by omega)) (fun _ _ => e _ _ (by omega)) r (fun _ _ => rfl)
  · unfold RFl
    rw [i 62 (by omega), i 66 (by omega), i 80 (by omega), i 64 (by omega), i 65 (by omega)]
    exact x5
  · rw [e3]; exact z6.mono (by rw [e 261 _ (by omega)]; omega) (fun c _ => ⟨e _ _ (by omega), e _ _ (by omega), e _ _ (by omega)⟩) (fun _ _ _ _ _ => e _ _ (by omega)) r (fun _ _ => rfl)
end
