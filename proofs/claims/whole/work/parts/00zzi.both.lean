/-! class and reference side by side: what one does leaves the other be -/
def rcs : List Nat := (List.range 70).map (fun r => 226 + r)
theorem rcs_mem {a : Nat} : rcs.contains a = true ↔ 226 ≤ a ∧ a ≤ 295 := by
  unfold rcs
  rw [List.contains_iff_mem, List.mem_map]
  constructor
  · rintro ⟨r, h, rfl⟩
    have := List.mem_range.mp h
    omega
  · intro h
    exact ⟨a - 226, List.mem_range.mpr (by omega), by omega⟩
theorem rcs_n {a : Nat} (h : a < 226 ∨ 295 < a) : rcs.contains a = false := nc_of (fun q => by have := rcs_mem.mp q; omega)
theorem fx_rc : ∀ r, r < 70 → fx (226 + r) = true := by decide
theorem fx_rc' {a : Nat} (h : 226 ≤ a) (h2 : a ≤ 295) : fx a = true := by
  have := fx_rc (a - 226) (by omega)
  rw [show 226 + (a - 226) = a by omega] at this
  exact this
theorem fr.cF {A B : zA} {Q : Nat → Nat → Prop} (f : fr Q A B) (hq : ∀ a j, Q a j → 226 ≤ a ∧ a ≤ 295) (h : Own A) : cF rcs A B := by
  obtain ⟨f1, f2, f3⟩ := f
  have mr : ∀ a j, zmr B a j = zmr A a j := fun a j => by unfold zmr; rw [f2]
  have hc : ∀ o f, yc B o f = yc A o f := fun o f => by unfold yc; rw [mr]
  have hl : ∀ o f, yl B o f = yl A o f := fun o f => by unfold yl; rw [hc, f1]
  have hO : Own B := by
    obtain ⟨o1, o2, o3, o4⟩ := h
    refine ⟨fun a s hs => by rw [f1]; exact o1 a s hs, fun o f c hd hm => ?_, fun o f ho hf => ?_, fun o f o' f' c hd hd' hm hm' => ?_⟩
    · rw [mr] at hm; rw [f1]; exact o2 o f c hd hm
    · obtain ⟨c, hc⟩ := o3 o f ho hf; exact ⟨c, by rw [mr]; exact hc⟩
    · rw [mr] at hm hm'; exact o4 o f o' f' c hd hd' hm hm'
  refine ⟨hO, ?_, fun a j ha hs => ?_, fun o g hd hs => ⟨hl o g, fun e => ?_⟩⟩
  · have e0 : big B = big A := by unfold big; rw [f1]
    have e1 : tot B = tot A := by unfold tot; rw [e0]
    have e2 : sy B = sy A := by unfold sy; simp only [hl]
    have e3 : ∀ o f, t1 B o f = t1 A o f := fun o f => by unfold t1; rw [mr]
    have e4 : ty B = ty A := by unfold ty; simp only [e3]
    exact ⟨⟨by rw [e1, e2, e4]; exact Int.le_refl _, by rw [e0, e2, e4]; exact Int.le_refl _⟩, fun _ => by unfold smc; rw [f1], fun s z => by rw [f1]; exact z⟩
  · have hn : ¬ Q a j := fun q => by
      have := hq a j q
      rw [rcs_mem.mpr (by omega)] at hs
      cases hs
    exact ⟨(f3 a j hn).1, (f3 a j hn).2, mr a j⟩
  · unfold yv ri
    rw [hc]
    unfold zi
    rw [(f3 _ _ (fun q => by
      have := hq _ _ q
      have hne := h.ne3 hd (fx_rc' (a := yc A o g) (by omega) (by omega)) (by omega)
      exact hne rfl)).1]
/-- the class's steps leave the reference's cells -/
def nr (S : List Nat) : Prop := ∀ a, 226 ≤ a → a ≤ 295 → S.contains a = false
theorem cF.re {S : List Nat} {A B : zA} (f : cF S A B) (hs : nr S) {a : Nat} (h1 : 226 ≤ a) (h2 : a ≤ 295) (e : Int) : ri B a e = ri A a e := f.e (fx_rc' h1 h2) (hs a h1 h2)
theorem cF.rz {S : List Nat} {A B : zA} (f : cF S A B) (hs : nr S) (j : Nat) : zi B 226 j = zi A 226 j := f.i (by decide) (hs 226 (by decide) (by decide))
theorem RSt.cF {S : List Nat} {A B : zA} {z : Nat} {Q : Pr} (h : RSt A z Q) (f : cF S A B) (hs : nr S) : RSt B z Q := fun p hp => by
  obtain ⟨h1, h2, h3⟩ := h p hp
  refine ⟨by unfold rn at *; rw [f.re hs (by omega) (by omega)]; exact h1, by rw [f.re hs (by omega) (by omega)]; exact h2, fun k hk => ⟨by rw [f.re hs (by omega) (by omega)]; exact (h3 k hk).1, fun i hi => by rw [f.re hs (by omega) (by omega)]; exact (h3 k hk).2 i hi⟩⟩
theorem nr_wal : nr wal := fun a h1 _ => wal_n (by omega)
theorem nr_one {o : Nat} (h : o < 226) : nr [o] := fun a h1 _ => cont2 (by omega)
/-! the reference's copies -/
def RL (A : zA) (z : Nat) : Prop := ∀ p : Nat, p < 4 → 0 ≤ rn A (4 * z + p) ∧ rn A (4 * z + p) ≤ 240
section
variable {N : Nat}
theorem r_copyItem {x y : Nat} (hx : x + 5 ≤ 14400) (hy : y + 5 ≤ 14400) (hd : x + 5 ≤ y ∨ y + 5 ≤ x) : ∀ (r k f : Nat) (A : zA), k + r = 5 → r < f → ∃ B, z_M_copyItem_2_l N f x y k A = some B ∧ (∀ i : Nat, k ≤ i → i < 5 → ri B 228 (y + i) = ri A 228 (x + i)) ∧ fr (fun a j => a = 228 ∧ y + k ≤ j ∧ j < y + 5) A B := by
  intro r
  induction r with
  | zero =>
    intro k f A h1 h2
    obtain ⟨g, rfl⟩ : ∃ g, f = g + 1 := ⟨f - 1, by omega⟩
    refine ⟨A, ?_, fun i a b => by omega, fr.refl _ _⟩
    show z_M_copyItem_2_b (z_M_copyItem_2_l N g) N x y k A = _
    unfold z_M_copyItem_2_b
    rw [if_neg (by omega)]
  | succ r ih =>
    intro k f A h1 h2
    obtain ⟨g, rfl⟩ : ∃ g, f = g + 1 := ⟨f - 1, by omega⟩
    have w1 : zw ((k : Int) + 1) = ((k + 1 : Nat) : Int) := by rw [yb_w (by omega) (by omega)]; omega
    have f1 : fr (fun a j => a = 228 ∧ j = y + k) A (rs A 228 (y + k) (ri A 228 (x + k))) := fr_rs ⟨rfl, by omega⟩
    have v1 : ri (rs A 228 (y + k) (ri A 228 (x + k))) 228 (y + k) = ri A 228 (x + k) := by
      have := ri_rg A 228 (x + k)
      rw [ri_rs_s, yb_w this.1 this.2]
    obtain ⟨B, b1, b2, b3⟩ := ih (k + 1) g (rs A 228 (y + k) (ri A 228 (x + k))) (by omega) (by omega)
    refine ⟨B, ?_, fun i i1 i2 => ?_, (f1.mono (fun a j q => ⟨q.1, by omega, by omega⟩)).trans (b3.mono (fun a j q => ⟨q.1, by omega, q.2.2⟩))⟩
    · rw [← b1]
      show z_M_copyItem_2_b (z_M_copyItem_2_l N g) N x y k A = _
      unfold z_M_copyItem_2_b
      rw [if_pos (by omega), zrd_ok (by omega) (by omega), zwr_ok (by omega) (by omega), w1]
    · by_cases c : i = k
      · subst c
        rw [b3.e (fun q => by omega), v1]
      · rw [b2 i (by omega) i2, f1.e (fun q => by omega)]
theorem r_copyItem' {x y : Nat} {A : zA} (hN : 300000 ≤ N) (hx : x + 5 ≤ 14400) (hy : y + 5 ≤ 14400) (hd : x + 5 ≤ y ∨ y + 5 ≤ x) : ∃ B, z_M_copyItem N x y A = some B ∧ (∀ i : Nat, i < 5 → ri B 228 (y + i) = ri A 228 (x + i)) ∧ fr (fun a j => a = 228 ∧ y ≤ j ∧ j < y + 5) A B := by
  obtain ⟨B, b1, b2, b3⟩ := r_copyItem (N := N) hx hy hd 5 0 N A (by omega) (by omega)
  exact ⟨B, b1, fun i hi => b2 i (by omega) hi, b3⟩
theorem r_copyPart {x y p : Nat} (hN : 300000 ≤ N) (hx : x < 3) (hy : y < 3) (hne : x ≠ y) (hp : p < 4) : ∀ (r k f : Nat) (A : zA), (((k + r : Nat)) : Int) = rn A (4 * x + p) → k + r ≤ 240 → r < f → ∃ B, z_M_copyPart_43_l N f x y p k A = some B ∧ (∀ q i : Nat, k ≤ q → q < k + r → i < 5 → ri B 228 (rad (4 * y + p) q i) = ri A 228 (rad (4 * x + p) q i)) ∧ fr (fun a j => a = 228 ∧ 1200 * (4 * y + p) + 5 * k ≤ j ∧ j < 1200 * (4 * y + p) + 1200) A B := by
  intro r
  induction r with
  | zero =>
    intro k f A h0 h1 h2
    obtain ⟨g, rfl⟩ : ∃ g, f = g + 1 := ⟨f - 1, by omega⟩
    refine ⟨A, ?_, fun q i a b => by omega, fr.refl _ _⟩
    show z_M_copyPart_43_b (z_M_copyPart_43_l N g) N x y p k A = _
    unfold z_M_copyPart_43_b
    unfold rn at h0
    rw [z_M_row_e (by omega) (by omega), zbP_s, zrd_ok (by omega) (by omega), if_neg (by omega)]
  | succ r ih =>
    intro k f A h0 h1 h2
    obtain ⟨g, rfl⟩ : ∃ g, f = g + 1 := ⟨f - 1, by omega⟩
    have w1 : zw ((k : Int) + 1) = ((k + 1 : Nat) : Int) := by rw [yb_w (by omega) (by omega)]; omega
    have ex : rad (4 * (x : Int) + p) k 0 = ((5 * (240 * (4 * x + p) + k) : Nat) : Int) := by unfold rad; omega
    have ey : rad (4 * (y : Int) + p) k 0 = ((5 * (240 * (4 * y + p) + k) : Nat) : Int) := by unfold rad; omega
    obtain ⟨C, c1, c2, c3⟩ := r_copyItem' (N := N) (A := A) (x := 5 * (240 * (4 * x + p) + k)) (y := 5 * (240 * (4 * y + p) + k)) hN (by omega) (by omega) (by omega)
    obtain ⟨B, b1, b2, b3⟩ := ih (k + 1) g C (by unfold rn at *; rw [c3.e (fun q => by omega)]; omega) (by omega) (by omega)
    refine ⟨B, ?_, fun q i q1 q2 q3 => ?_, (c3.mono (fun a j z => ⟨z.1, by omega, by omega⟩)).trans (b3.mono (fun a j z => ⟨z.1, by omega, z.2.2⟩))⟩
    · rw [← b1]
      show z_M_copyPart_43_b (z_M_copyPart_43_l N g) N x y p k A = _
      unfold z_M_copyPart_43_b
      unfold rn at h0
      rw [z_M_row_e (by omega) (by omega), zbP_s, zrd_ok (by omega) (by omega), if_pos (by omega), z_M_place_e (by omega) (by omega) (by omega) (by omega), zbP_s, z_M_place_e (by omega) (by omega) (by omega) (by omega), zbP_s, ex, ey, c1, zbV_s, w1]
    · by_cases c : q = k
      · subst c
        rw [b3.e (fun z => by unfold rad at z; omega)]
        have := c2 i q3
        unfold rad
        rw [show (5 : Int) * (240 * (4 * (y : Int) + p) + q) + i = ((5 * (240 * (4 * y + p) + q) : Nat) : Int) + i by omega, this]
        congr 1
      · rw [b2 q i (by omega) (by omega) q3, c3.e (fun z => by unfold rad at z; omega)]
def qCp (y : Nat) (a j : Nat) : Prop := (a = 228 ∧ 4800 * y ≤ j ∧ j < 4800 * y + 4800) ∨ ((a = 229 ∨ a = 230) ∧ 4 * y ≤ j ∧ j < 4 * y + 4)
theorem r_copyState {x y : Nat} (hN : 300000 ≤ N) (hx : x < 3) (hy : y < 3) (hne : x ≠ y) : ∀ (r p f : Nat) (A : zA), p + r = 4 → r < f → RL A x → ∃ B, z_M_copyState_2_l N f x y p A = some B ∧ (∀ q : Nat, p ≤ q → q < 4 → rn B (4 * y + q) = rn A (4 * x + q) ∧ ri B 230 (4 * y + q) = ri A 230 (4 * x + q) ∧ ∀ k i : Nat, (k : Int) < rn A (4 * x + q) → i < 5 → ri B 228 (rad (4 * y + q) k i) = ri A 228 (rad (4 * x + q) k i)) ∧ fr (fun a j => (a = 228 ∧ 1200 * (4 * y + p) ≤ j ∧ j < 4800 * y + 4800) ∨ ((a = 229 ∨ a = 230) ∧ 4 * y + p ≤ j ∧ j < 4 * y + 4)) A B := by
  intro r
  induction r with
  | zero =>
    intro p f A h1 h2 hL
    obtain ⟨g, rfl⟩ : ∃ g, f = g + 1 := ⟨f - 1, by omega⟩
    refine ⟨A, ?_, fun q a b => by omega, fr.refl _ _⟩
    show z_M_copyState_2_b (z_M_copyState_2_l N g) N x y p A = _
    unfold z_M_copyState_2_b
    rw [if_neg (by omega)]
  | succ r ih =>
    intro p f A h1 h2 hL
    obtain ⟨g, rfl⟩ : ∃ g, f = g + 1 := ⟨f - 1, by omega⟩
    have w1 : zw ((p : Int) + 1) = ((p + 1 : Nat) : Int) := by rw [yb_w (by omega) (by omega)]; omega
    obtain ⟨l1, l2⟩ := hL p (by omega)
    have f1 : fr (fun a j => (a = 229 ∨ a = 230) ∧ j = 4 * y + p) A (rs (rs A 229 (4 * y + p) (ri A 229 (4 * x + p))) 230 (4 * y + p) (ri A 230 (4 * x + p))) := (fr_rs ⟨Or.inl rfl, by omega⟩).trans (fr_rs ⟨Or.inr rfl, by omega⟩)
    have g1 := ri_rg A 229 (4 * x + p)
    have g2 := ri_rg A 230 (4 * x + p)
    have v9 : ri (rs (rs A 229 (4 * y + p) (ri A 229 (4 * x + p))) 230 (4 * y + p) (ri A 230 (4 * x + p))) 229 (4 * y + p) = ri A 229 (4 * x + p) := by rw [ri_rs_o (by decide), ri_rs_s, yb_w g1.1 g1.2]
    have v0 : ri (rs (rs A 229 (4 * y + p) (ri A 229 (4 * x + p))) 230 (4 * y + p) (ri A 230 (4 * x + p))) 230 (4 * y + p) = ri A 230 (4 * x + p) := by rw [ri_rs_s, yb_w g2.1 g2.2]
    have st : ∀ C, z_M_copyPart_43 N x y p 0 (rs (rs A 229 (4 * y + p) (ri A 229 (4 * x + p))) 230 (4 * y + p) (ri A 230 (4 * x + p))) = some C → z_M_copyPart N x y p A = some C := fun C hC => by
      unfold z_M_copyPart
      rw [z_M_row_e (by omega) (by omega), zbP_s, z_M_row_e (by omega) (by omega), zbP_s, zrd_ok (by omega) (by omega), zwr_ok (by omega) (by omega), z_M_row_e (by omega) (by omega), zbP_s, z_M_row_e (by omega) (by omega), zbP_s, zrd_ok (by omega) (by omega), ri_rs_o (by decide), zwr_ok (by omega) (by omega)]
      exact hC
    generalize rs (rs A 229 (4 * y + p) (ri A 229 (4 * x + p))) 230 (4 * y + p) (ri A 230 (4 * x + p)) = A1 at *
    have e1 : rn A1 (4 * x + p) = rn A (4 * x + p) := f1.e (fun q => by omega)
    obtain ⟨C, c1, c2, c3⟩ := r_copyPart (N := N) hN hx hy hne (show p < 4 by omega) (rn A (4 * x + p)).toNat 0 N A1 (by rw [e1]; omega) (by omega) (by omega)
    rw [show ((0 : Nat) : Int) = 0 from rfl] at c1
    have hC := st C c1
    have F1 := (f1.mono (Q' := fun a j => (a = 228 ∧ 1200 * (4 * y + p) ≤ j ∧ j < 1200 * (4 * y + p) + 1200) ∨ ((a = 229 ∨ a = 230) ∧ j = 4 * y + p)) (fun a j q => Or.inr q)).trans (c3.mono (fun a j q => Or.inl ⟨q.1, by omega, q.2.2⟩))
    have hLC : RL C x := fun q hq => by
      have : rn C (4 * x + q) = rn A (4 * x + q) := F1.e (fun z => by omega)
      rw [this]; exact hL q hq
    obtain ⟨B, b1, b2, b3⟩ := ih (p + 1) g C (by omega) (by omega) hLC
    refine ⟨B, ?_, fun q q1 q2 => ?_, (F1.mono (fun a j z => ?_)).trans (b3.mono (fun a j z => ?_))⟩
    · rw [← b1]
      show z_M_copyState_2_b (z_M_copyState_2_l N g) N x y p A = _
      unfold z_M_copyState_2_b
      rw [if_pos (by omega), hC, zbV_s, w1]
    · by_cases c : q = p
      · subst c
        refine ⟨?_, ?_, fun k i hk hi => ?_⟩
        · unfold rn
          rw [b3.e (fun z => by omega), c3.e (fun z => by omega)]
          exact v9
        · rw [b3.e (fun z => by omega), c3.e (fun z => by omega)]
          exact v0
        · rw [b3.e (fun z => by unfold rad at z; omega), c2 k i (by omega) (by omega) hi, f1.e (fun z => by omega)]
      · obtain ⟨d1, d2, d3⟩ := b2 q (by omega) q2
        have e2 : rn C (4 * x + q) = rn A (4 * x + q) := F1.e (fun z => by omega)
        refine ⟨by rw [d1, e2], by rw [d2, F1.e (fun z => by omega)], fun k i hk hi => ?_⟩
        rw [d3 k i (by rw [e2]; exact hk) hi, F1.e (fun z => by
          have := hL q q2
          unfold rad at z
          omega)]
    · omega
    · omega
theorem r_copyState' {x y : Nat} {A : zA} {Q : Pr} (hN : 300000 ≤ N) (hx : x < 3) (hy : y < 3) (hne : x ≠ y) (hL : RL A x) (hQ : WO Q) (h : RSt A x Q) : ∃ B, z_M_copyState N x y A = some B ∧ RSt B y Q ∧ RL B y ∧ fr (qCp y) A B := by
  obtain ⟨B, b1, b2, b3⟩ := r_copyState (N := N) hN hx hy hne 4 0 N A (by omega) (by omega) hL
  refine ⟨B, b1, fun p hp => ?_, fun p hp => ?_, b3.mono (fun a j q => ?_)⟩
  · obtain ⟨h1, h2, h3⟩ := h p hp
    have hp3 := exP3 hQ hp
    obtain ⟨d1, d2, d3⟩ := b2 p (by omega) (by omega)
    refine ⟨by rw [d1]; exact h1, by rw [d2]; exact h2, fun k hk => ⟨?_, fun i hi => ?_⟩⟩
    · have := d3 k 0 (by omega) (by omega)
      rw [show ((0 : Nat) : Int) = 0 from rfl] at this
      rw [this]; exact (h3 k hk).1
    · have hb := nbk_le (itm (Q.2.1 p) k).1
      have := d3 k (i + 1) (by omega) (by omega)
      rw [show ((i + 1 : Nat) : Int) = (i : Int) + 1 by omega] at this
      rw [this]; exact (h3 k hk).2 i hi
  · obtain ⟨d1, d2, d3⟩ := b2 p (by omega) hp
    rw [d1]; exact hL p hp
  · unfold qCp; omega
end
