/-! the reference's kept rows; frames of a walk's piece -/
/-- row l of cell c holds places f -/
def SV (A : zA) (c l t : Nat) (D : Nat → T) (f : Nat → T) : Prop := ∀ i : Nat, i < 61 → ix t D (ri A c (61 * l + i)) (f i)
def qR (c l : Nat) (a j : Nat) : Prop := a = c ∧ 61 * l ≤ j ∧ j < 61 * l + 61
theorem SV.mono {A B : zA} {c l t t' : Nat} {D D' : Nat → T} {f : Nat → T} (h : SV A c l t D f) (he : ∀ i : Nat, i < 61 → ri B c (61 * l + i) = ri A c (61 * l + i)) (ht : t ≤ t') (hD : ∀ i, i < t → D' i = D i) : SV B c l t' D' f := fun i hi => by
  rw [he i hi]; exact (h i hi).mono ht hD
section
variable {N : Nat}
theorem lay_276_run {dp l : Nat} (hd3 : dp ≤ 3) (hl : l < 30) : ∀ (r k f : Nat) (A : zA), k + r = 61 → r < f → zi A 226 62 = dp → zi A 226 66 = l + 1 → ∃ B, z_M_lay_276_2_l N f k A = some B ∧ fr (qR 276 l) A B ∧ (∀ i : Nat, k ≤ i → i < 61 → ri B 276 (61 * l + i) = rpl A dp i) ∧ ∀ i : Nat, i < k → ri B 276 (61 * l + i) = ri A 276 (61 * l + i) := by
  intro r
  induction r with
  | zero =>
    intro k f A h1 h2 hd h66
    obtain ⟨g, rfl⟩ : ∃ g, f = g + 1 := ⟨f - 1, by omega⟩
    refine ⟨A, ?_, fr.refl _ _, fun i a b => by omega, fun _ _ => rfl⟩
    show z_M_lay_276_2_b (z_M_lay_276_2_l N g) N k A = _
    unfold z_M_lay_276_2_b
    rw [if_neg (by omega)]
  | succ r ih =>
    intro k f A h1 h2 hd h66
    obtain ⟨g, rfl⟩ : ∃ g, f = g + 1 := ⟨f - 1, by omega⟩
    have w1 : zw ((k : Int) + 1) = ((k + 1 : Nat) : Int) := by rw [yb_w (by omega) (by omega)]; omega
    have st : z_M_lay_276_2_l N (g + 1) k A = z_M_lay_276_2_l N g ((k + 1 : Nat) : Int) (rs A 276 (61 * l + k) (rpl A dp k)) := by
      show z_M_lay_276_2_b (z_M_lay_276_2_l N g) N k A = _
      unfold z_M_lay_276_2_b
      rw [if_pos (by omega), M_get hd hd3 (by omega), zbP_s, h66, zwr_ok (by omega) (by omega), w1]
      congr 2
      omega
    have vk : zw (rpl A dp k) = rpl A dp k := by
      unfold rpl
      repeat' split
      · exact yb_w (yb_rg _ _ _).1 (yb_rg _ _ _).2
      · exact yb_w (ri_rg _ _ _).1 (ri_rg _ _ _).2
      · exact yb_w (ri_rg _ _ _).1 (ri_rg _ _ _).2
    have f1 : fr (qR 276 l) A (rs A 276 (61 * l + k) (rpl A dp k)) := fr_rs ⟨rfl, by omega, by omega⟩
    have ep : ∀ i, rpl (rs A 276 (61 * l + k) (rpl A dp k)) dp i = rpl A dp i := fun i => by
      unfold rpl
      rw [zi_rs_o (by decide), ri_rs_o (by decide), ri_rs_o (by decide)]
    have ev : ∀ i : Nat, ri (rs A 276 (61 * l + k) (rpl A dp k)) 276 (61 * l + i) = if i = k then rpl A dp k else ri A 276 (61 * l + i) := fun i => by
      rw [ri_rs (by omega) (by omega), vk]
      by_cases c : i = k
      · rw [if_pos c, if_pos (by omega)]
      · rw [if_neg c, if_neg (by omega)]
    have z62 : zi (rs A 276 (61 * l + k) (rpl A dp k)) 226 62 = dp := by rw [zi_rs_o (by decide)]; exact hd
    have z66 : zi (rs A 276 (61 * l + k) (rpl A dp k)) 226 66 = l + 1 := by rw [zi_rs_o (by decide)]; exact h66
    generalize rs A 276 (61 * l + k) (rpl A dp k) = A1 at *
    obtain ⟨B, b1, b2, b3, b4⟩ := ih (k + 1) g A1 (by omega) (by omega) z62 z66
    refine ⟨B, by rw [st, b1], f1.trans b2, fun i i1 i2 => ?_, fun i hi => ?_⟩
    · by_cases c : i = k
      · rw [b4 i (by omega), ev, if_pos c, c]
      · rw [b3 i (by omega) i2, ep]
    · rw [b4 i (by omega), ev, if_neg (by omega)]
theorem r_lay_276 {A : zA} {w sc dp l t : Nat} {D : Nat → T} {s : St} (hN : 300000 ≤ N) (h : RW A w sc dp (l + 1) t D s) (hd3 : dp ≤ 3) (hl : l < 30) : ∃ B, z_M_lay_276 N A = some B ∧ RW B w sc dp (l + 1) t D s ∧ SV B 276 l t D s.1 ∧ fr (qR 276 l) A B := by
  obtain ⟨B, b1, b2, b3, b4⟩ := lay_276_run (N := N) hd3 hl 61 0 N A (by omega) (by omega) h.2.2.2.2.1.1 (by have := h.2.2.2.2.1.2.1; omega)
  refine ⟨B, b1, h.lev b2 (fun a j q => by unfold qR at q; omega), fun i hi => ?_, b2⟩
  rw [b3 i (by omega) hi]
  exact h.2.1 i hi
end
section
variable {N : Nat}
theorem lay_277_run {dp l : Nat} (hd3 : dp ≤ 3) (hl : l < 30) : ∀ (r k f : Nat) (A : zA), k + r = 61 → r < f → zi A 226 62 = dp → zi A 226 66 = l + 1 → ∃ B, z_M_lay_277_2_l N f k A = some B ∧ fr (qR 277 l) A B ∧ (∀ i : Nat, k ≤ i → i < 61 → ri B 277 (61 * l + i) = rpl A dp i) ∧ ∀ i : Nat, i < k → ri B 277 (61 * l + i) = ri A 277 (61 * l + i) := by
  intro r
  induction r with
  | zero =>
    intro k f A h1 h2 hd h66
    obtain ⟨g, rfl⟩ : ∃ g, f = g + 1 := ⟨f - 1, by omega⟩
    refine ⟨A, ?_, fr.refl _ _, fun i a b => by omega, fun _ _ => rfl⟩
    show z_M_lay_277_2_b (z_M_lay_277_2_l N g) N k A = _
    unfold z_M_lay_277_2_b
    rw [if_neg (by omega)]
  | succ r ih =>
    intro k f A h1 h2 hd h66
    obtain ⟨g, rfl⟩ : ∃ g, f = g + 1 := ⟨f - 1, by omega⟩
    have w1 : zw ((k : Int) + 1) = ((k + 1 : Nat) : Int) := by rw [yb_w (by omega) (by omega)]; omega
    have st : z_M_lay_277_2_l N (g + 1) k A = z_M_lay_277_2_l N g ((k + 1 : Nat) : Int) (rs A 277 (61 * l + k) (rpl A dp k)) := by
      show z_M_lay_277_2_b (z_M_lay_277_2_l N g) N k A = _
      unfold z_M_lay_277_2_b
      rw [if_pos (by omega), M_get hd hd3 (by omega), zbP_s, h66, zwr_ok (by omega) (by omega), w1]
      congr 2
      omega
    have vk : zw (rpl A dp k) = rpl A dp k := by
      unfold rpl
      repeat' split
      · exact yb_w (yb_rg _ _ _).1 (yb_rg _ _ _).2
      · exact yb_w (ri_rg _ _ _).1 (ri_rg _ _ _).2
      · exact yb_w (ri_rg _ _ _).1 (ri_rg _ _ _).2
    have f1 : fr (qR 277 l) A (rs A 277 (61 * l + k) (rpl A dp k)) := fr_rs ⟨rfl, by omega, by omega⟩
    have ep : ∀ i, rpl (rs A 277 (61 * l + k) (rpl A dp k)) dp i = rpl A dp i := fun i => by
      unfold rpl
      rw [zi_rs_o (by decide), ri_rs_o (by decide), ri_rs_o (by decide)]
    have ev : ∀ i : Nat, ri (rs A 277 (61 * l + k) (rpl A dp k)) 277 (61 * l + i) = if i = k then rpl A dp k else ri A 277 (61 * l + i) := fun i => by
      rw [ri_rs (by omega) (by omega), vk]
      by_cases c : i = k
      · rw [if_pos c, if_pos (by omega)]
      · rw [if_neg c, if_neg (by omega)]
    have z62 : zi (rs A 277 (61 * l + k) (rpl A dp k)) 226 62 = dp := by rw [zi_rs_o (by decide)]; exact hd
    have z66 : zi (rs A 277 (61 * l + k) (rpl A dp k)) 226 66 = l + 1 := by rw [zi_rs_o (by decide)]; exact h66
    generalize rs A 277 (61 * l + k) (rpl A dp k) = A1 at *
    obtain ⟨B, b1, b2, b3, b4⟩ := ih (k + 1) g A1 (by omega) (by omega) z62 z66
    refine ⟨B, by rw [st, b1], f1.trans b2, fun i i1 i2 => ?_, fun i hi => ?_⟩
    · by_cases c : i = k
      · rw [b4 i (by omega), ev, if_pos c, c]
      · rw [b3 i (by omega) i2, ep]
    · rw [b4 i (by omega), ev, if_neg (by omega)]
theorem r_lay_277 {A : zA} {w sc dp l t : Nat} {D : Nat → T} {s : St} (hN : 300000 ≤ N) (h : RW A w sc dp (l + 1) t D s) (hd3 : dp ≤ 3) (hl : l < 30) : ∃ B, z_M_lay_277 N A = some B ∧ RW B w sc dp (l + 1) t D s ∧ SV B 277 l t D s.1 ∧ fr (qR 277 l) A B := by
  obtain ⟨B, b1, b2, b3, b4⟩ := lay_277_run (N := N) hd3 hl 61 0 N A (by omega) (by omega) h.2.2.2.2.1.1 (by have := h.2.2.2.2.1.2.1; omega)
  refine ⟨B, b1, h.lev b2 (fun a j q => by unfold qR at q; omega), fun i hi => ?_, b2⟩
  rw [b3 i (by omega) hi]
  exact h.2.1 i hi
end
section
variable {N : Nat}
theorem lay_278_run {dp l : Nat} (hd3 : dp ≤ 3) (hl : l < 30) : ∀ (r k f : Nat) (A : zA), k + r = 61 → r < f → zi A 226 62 = dp → zi A 226 66 = l + 1 → ∃ B, z_M_lay_278_2_l N f k A = some B ∧ fr (qR 278 l) A B ∧ (∀ i : Nat, k ≤ i → i < 61 → ri B 278 (61 * l + i) = rpl A dp i) ∧ ∀ i : Nat, i < k → ri B 278 (61 * l + i) = ri A 278 (61 * l + i) := by
  intro r
  induction r with
  | zero =>
    intro k f A h1 h2 hd h66
    obtain ⟨g, rfl⟩ : ∃ g, f = g + 1 := ⟨f - 1, by omega⟩
    refine ⟨A, ?_, fr.refl _ _, fun i a b => by omega, fun _ _ => rfl⟩
    show z_M_lay_278_2_b (z_M_lay_278_2_l N g) N k A = _
    unfold z_M_lay_278_2_b
    rw [if_neg (by omega)]
  | succ r ih =>
    intro k f A h1 h2 hd h66
    obtain ⟨g, rfl⟩ : ∃ g, f = g + 1 := ⟨f - 1, by omega⟩
    have w1 : zw ((k : Int) + 1) = ((k + 1 : Nat) : Int) := by rw [yb_w (by omega) (by omega)]; omega
    have st : z_M_lay_278_2_l N (g + 1) k A = z_M_lay_278_2_l N g ((k + 1 : Nat) : Int) (rs A 278 (61 * l + k) (rpl A dp k)) := by
      show z_M_lay_278_2_b (z_M_lay_278_2_l N g) N k A = _
      unfold z_M_lay_278_2_b
      rw [if_pos (by omega), M_get hd hd3 (by omega), zbP_s, h66, zwr_ok (by omega) (by omega), w1]
      congr 2
      omega
    have vk : zw (rpl A dp k) = rpl A dp k := by
      unfold rpl
      repeat' split
      · exact yb_w (yb_rg _ _ _).1 (yb_rg _ _ _).2
      · exact yb_w (ri_rg _ _ _).1 (ri_rg _ _ _).2
      · exact yb_w (ri_rg _ _ _).1 (ri_rg _ _ _).2
    have f1 : fr (qR 278 l) A (rs A 278 (61 * l + k) (rpl A dp k)) := fr_rs ⟨rfl, by omega, by omega⟩
    have ep : ∀ i, rpl (rs A 278 (61 * l + k) (rpl A dp k)) dp i = rpl A dp i := fun i => by
      unfold rpl
      rw [zi_rs_o (by decide), ri_rs_o (by decide), ri_rs_o (by decide)]
    have ev : ∀ i : Nat, ri (rs A 278 (61 * l + k) (rpl A dp k)) 278 (61 * l + i) = if i = k then rpl A dp k else ri A 278 (61 * l + i) := fun i => by
      rw [ri_rs (by omega) (by omega), vk]
      by_cases c : i = k
      · rw [if_pos c, if_pos (by omega)]
      · rw [if_neg c, if_neg (by omega)]
    have z62 : zi (rs A 278 (61 * l + k) (rpl A dp k)) 226 62 = dp := by rw [zi_rs_o (by decide)]; exact hd
    have z66 : zi (rs A 278 (61 * l + k) (rpl A dp k)) 226 66 = l + 1 := by rw [zi_rs_o (by decide)]; exact h66
    generalize rs A 278 (61 * l + k) (rpl A dp k) = A1 at *
    obtain ⟨B, b1, b2, b3, b4⟩ := ih (k + 1) g A1 (by omega) (by omega) z62 z66
    refine ⟨B, by rw [st, b1], f1.trans b2, fun i i1 i2 => ?_, fun i hi => ?_⟩
    · by_cases c : i = k
      · rw [b4 i (by omega), ev, if_pos c, c]
      · rw [b3 i (by omega) i2, ep]
    · rw [b4 i (by omega), ev, if_neg (by omega)]
theorem r_lay_278 {A : zA} {w sc dp l t : Nat} {D : Nat → T} {s : St} (hN : 300000 ≤ N) (h : RW A w sc dp (l + 1) t D s) (hd3 : dp ≤ 3) (hl : l < 30) : ∃ B, z_M_lay_278 N A = some B ∧ RW B w sc dp (l + 1) t D s ∧ SV B 278 l t D s.1 ∧ fr (qR 278 l) A B := by
  obtain ⟨B, b1, b2, b3, b4⟩ := lay_278_run (N := N) hd3 hl 61 0 N A (by omega) (by omega) h.2.2.2.2.1.1 (by have := h.2.2.2.2.1.2.1; omega)
  refine ⟨B, b1, h.lev b2 (fun a j q => by unfold qR at q; omega), fun i hi => ?_, b2⟩
  rw [b3 i (by omega) hi]
  exact h.2.1 i hi
end
section
variable {N : Nat}
theorem take_276_run {dp l : Nat} (hd3 : dp ≤ 3) (hl : l < 30) : ∀ (r k f : Nat) (A : zA), k + r = 61 → r < f → zi A 226 62 = dp → zi A 226 66 = l + 1 → ∃ B, z_M_takeUp_276_2_l N f k A = some B ∧ fr (qP dp) A B ∧ (∀ i : Nat, k ≤ i → i < 61 → rpl B dp i = ri A 276 (61 * l + i)) ∧ ∀ i : Nat, i < k → rpl B dp i = rpl A dp i := by
  intro r
  induction r with
  | zero =>
    intro k f A h1 h2 hd h66
    obtain ⟨g, rfl⟩ : ∃ g, f = g + 1 := ⟨f - 1, by omega⟩
    refine ⟨A, ?_, fr.refl _ _, fun i a b => by omega, fun _ _ => rfl⟩
    show z_M_takeUp_276_2_b (z_M_takeUp_276_2_l N g) N k A = _
    unfold z_M_takeUp_276_2_b
    rw [if_neg (by omega)]
  | succ r ih =>
    intro k f A h1 h2 hd h66
    obtain ⟨g, rfl⟩ : ∃ g, f = g + 1 := ⟨f - 1, by omega⟩
    have w1 : zw ((k : Int) + 1) = ((k + 1 : Nat) : Int) := by rw [yb_w (by omega) (by omega)]; omega
    have st : z_M_takeUp_276_2_l N (g + 1) k A = z_M_takeUp_276_2_l N g ((k + 1 : Nat) : Int) (rse A dp k (ri A 276 (61 * l + k))) := by
      show z_M_takeUp_276_2_b (z_M_takeUp_276_2_l N g) N k A = _
      unfold z_M_takeUp_276_2_b
      rw [if_pos (by omega), h66, zrd_ok (by omega) (by omega), M_set hd hd3 (by omega), zbV_s, w1, show (61 : Int) * ((l : Int) + 1 - 1) + k = 61 * l + k by omega]
    have vk : zw (ri A 276 (61 * l + k)) = ri A 276 (61 * l + k) := yb_w (ri_rg _ _ _).1 (ri_rg _ _ _).2
    have f1 : fr (qP dp) A (rse A dp k (ri A 276 (61 * l + k))) := rse_fr (by omega)
    have ep : ∀ i, i < 61 → rpl (rse A dp k (ri A 276 (61 * l + k))) dp i = if i = k then ri A 276 (61 * l + k) else rpl A dp i := fun i hi => rpl_rse (by omega) hi vk
    generalize rse A dp k (ri A 276 (61 * l + k)) = A1 at *
    have z62 : zi A1 226 62 = dp := by rw [f1.i (fun z => by unfold qP at z; omega)]; exact hd
    have z66 : zi A1 226 66 = l + 1 := by rw [f1.i (fun z => by unfold qP at z; omega)]; exact h66
    obtain ⟨B, b1, b2, b3, b4⟩ := ih (k + 1) g A1 (by omega) (by omega) z62 z66
    refine ⟨B, by rw [st, b1], f1.trans b2, fun i i1 i2 => ?_, fun i hi => ?_⟩
    · by_cases c : i = k
      · rw [b4 i (by omega), ep i i2, if_pos c, c]
      · rw [b3 i (by omega) i2, f1.e (fun z => by unfold qP at z; omega)]
    · rw [b4 i (by omega), ep i (by omega), if_neg (by omega)]
theorem r_take_276 {A : zA} {w sc dp l t : Nat} {D : Nat → T} {s : St} {f : Nat → T} (hN : 300000 ≤ N) (h : RW A w sc dp (l + 1) t D s) (hd3 : dp ≤ 3) (hl : l < 30) (hv : SV A 276 l t D f) : ∃ B, z_M_takeUp_276 N A = some B ∧ RW B w sc dp (l + 1) t D (f, s.2) ∧ fr (qP dp) A B := by
  obtain ⟨B, b1, b2, b3, b4⟩ := take_276_run (N := N) hd3 hl 61 0 N A (by omega) (by omega) h.2.2.2.2.1.1 (by have := h.2.2.2.2.1.2.1; omega)
  refine ⟨B, b1, h.pl b2 (fun i hi => ?_), b2⟩
  rw [b3 i (by omega) hi]
  exact hv i hi
end
section
variable {N : Nat}
theorem take_278_run {dp l : Nat} (hd3 : dp ≤ 3) (hl : l < 30) : ∀ (r k f : Nat) (A : zA), k + r = 61 → r < f → zi A 226 62 = dp → zi A 226 66 = l + 1 → ∃ B, z_M_takeUp_278_2_l N f k A = some B ∧ fr (qP dp) A B ∧ (∀ i : Nat, k ≤ i → i < 61 → rpl B dp i = ri A 278 (61 * l + i)) ∧ ∀ i : Nat, i < k → rpl B dp i = rpl A dp i := by
  intro r
  induction r with
  | zero =>
    intro k f A h1 h2 hd h66
    obtain ⟨g, rfl⟩ : ∃ g, f = g + 1 := ⟨f - 1, by omega⟩
    refine ⟨A, ?_, fr.refl _ _, fun i a b => by omega, fun _ _ => rfl⟩
    show z_M_takeUp_278_2_b (z_M_takeUp_278_2_l N g) N k A = _
    unfold z_M_takeUp_278_2_b
    rw [if_neg (by omega)]
  | succ r ih =>
    intro k f A h1 h2 hd h66
    obtain ⟨g, rfl⟩ : ∃ g, f = g + 1 := ⟨f - 1, by omega⟩
    have w1 : zw ((k : Int) + 1) = ((k + 1 : Nat) : Int) := by rw [yb_w (by omega) (by omega)]; omega
    have st : z_M_takeUp_278_2_l N (g + 1) k A = z_M_takeUp_278_2_l N g ((k + 1 : Nat) : Int) (rse A dp k (ri A 278 (61 * l + k))) := by
      show z_M_takeUp_278_2_b (z_M_takeUp_278_2_l N g) N k A = _
      unfold z_M_takeUp_278_2_b
      rw [if_pos (by omega), h66, zrd_ok (by omega) (by omega), M_set hd hd3 (by omega), zbV_s, w1, show (61 : Int) * ((l : Int) + 1 - 1) + k = 61 * l + k by omega]
    have vk : zw (ri A 278 (61 * l + k)) = ri A 278 (61 * l + k) := yb_w (ri_rg _ _ _).1 (ri_rg _ _ _).2
    have f1 : fr (qP dp) A (rse A dp k (ri A 278 (61 * l + k))) := rse_fr (by omega)
    have ep : ∀ i, i < 61 → rpl (rse A dp k (ri A 278 (61 * l + k))) dp i = if i = k then ri A 278 (61 * l + k) else rpl A dp i := fun i hi => rpl_rse (by omega) hi vk
    generalize rse A dp k (ri A 278 (61 * l + k)) = A1 at *
    have z62 : zi A1 226 62 = dp := by rw [f1.i (fun z => by unfold qP at z; omega)]; exact hd
    have z66 : zi A1 226 66 = l + 1 := by rw [f1.i (fun z => by unfold qP at z; omega)]; exact h66
    obtain ⟨B, b1, b2, b3, b4⟩ := ih (k + 1) g A1 (by omega) (by omega) z62 z66
    refine ⟨B, by rw [st, b1], f1.trans b2, fun i i1 i2 => ?_, fun i hi => ?_⟩
    · by_cases c : i = k
      · rw [b4 i (by omega), ep i i2, if_pos c, c]
      · rw [b3 i (by omega) i2, f1.e (fun z => by unfold qP at z; omega)]
    · rw [b4 i (by omega), ep i (by omega), if_neg (by omega)]
theorem r_take_278 {A : zA} {w sc dp l t : Nat} {D : Nat → T} {s : St} {f : Nat → T} (hN : 300000 ≤ N) (h : RW A w sc dp (l + 1) t D s) (hd3 : dp ≤ 3) (hl : l < 30) (hv : SV A 278 l t D f) : ∃ B, z_M_takeUp_278 N A = some B ∧ RW B w sc dp (l + 1) t D (f, s.2) ∧ fr (qP dp) A B := by
  obtain ⟨B, b1, b2, b3, b4⟩ := take_278_run (N := N) hd3 hl 61 0 N A (by omega) (by omega) h.2.2.2.2.1.1 (by have := h.2.2.2.2.1.2.1; omega)
  refine ⟨B, b1, h.pl b2 (fun i hi => ?_), b2⟩
  rw [b3 i (by omega) hi]
  exact hv i hi
end
section
variable {A B : zA} {w sc dp lv t : Nat} {D : Nat → T} {s : St}
/-- counters -/
def qC (a j : Nat) : Prop := a = 226 ∧ (j = 62 ∨ (64 ≤ j ∧ j ≤ 66) ∨ j = 80)
theorem RW.upd {sc' dp' lv' : Nat} {f : Nat → T} {W I : Int} (h : RW A w sc dp lv t D s) (g : fr qC A B) (hF : RFl B sc' dp' lv' W I) (hp : RPl B dp' t D f) (hW : ri A 261 w ≤ 61 * W) (hI : 0 ≤ I) : RW B w sc' dp' lv' t D (f, s.2.1, s.2.2.1, W, I, s.2.2.2.2.2) := by
  obtain ⟨h1, h2, h3, h4, h5, h6, h7, h8, h9⟩ := h
  have e : ∀ a e, 226 < a → ri B a e = ri A a e := fun a e ha => g.e (fun z => by unfold qC at z; omega)
  have r := Nat.le_refl t
  exact ⟨h1.fr g (fun a j z => by unfold qC at z; unfold qT; omega), hp, h3.mono (e _ _ (by omega)) (fun _ => e _ _ (by omega)) r (fun _ _ => rfl), h4.mono (g.i (fun z => by unfold qC at z; omega)) (fun _ _ => e _ _ (by omega)) r (fun _ _ => rfl), hF, h6.mono (by rw [e 261 _ (by omega)]; omega) (fun c _ => ⟨e _ _ (by omega), e _ _ (by omega), e _ _ (by omega)⟩) (fun _ _ _ _ _ => e _ _ (by omega)) r (fun _ _ => rfl), by rw [e 261 _ (by omega)]; exact h7, by rw [e 261 _ (by omega)]; exact hW, hI⟩
theorem RW.way {l x : List (Int × T)} (h : RW A w sc dp lv t D s) (hx : s.2.2.1 = l ++ x) (hl : l.length ≤ 900) : RW (zsi A 226 81 l.length) w sc dp lv t D (s.1, s.2.1, l, s.2.2.2) := by
  obtain ⟨h1, h2, h3, h4, h5, h6, h7, h8, h9⟩ := h
  have g : fr (fun a j => a = 226 ∧ j = 81) A (zsi A 226 81 l.length) := fr_si ⟨rfl, rfl⟩
  have e : ∀ a e, 226 < a → ri (zsi A 226 81 l.length) a e = ri A a e := fun a e ha => g.e (fun z => by omega)
  have i : ∀ j, j ≠ 81 → zi (zsi A 226 81 l.length) 226 j = zi A 226 j := fun j hj => g.i (fun z => by omega)
  have r := Nat.le_refl t
  have e81 : zi (zsi A 226 81 l.length) 226 81 = l.length := by rw [zi_si_s, yb_w (by omega) (by omega)]
  generalize zsi A 226 81 l.length = B at *
  refine ⟨h1.fr g (fun a j z => by unfold qT; omega), h2.mono (fun k hk => ?_) r (fun _ _ => rfl), h3.mono (e _ _ (by omega)) (fun _ => e _ _ (by omega)) r (fun _ _ => rfl), ⟨e81, fun k hk => ?_⟩, ?_, h6.mono (by rw [e 261 _ (by omega)]; omega) (fun c _ => ⟨e _ _ (by omega), e _ _ (by omega), e _ _ (by omega)⟩) (fun _ _ _ _ _ => e _ _ (by omega)) r (fun _ _ => rfl), by rw [e 261 _ (by omega)]; exact h7, by rw [e 261 _ (by omega)]; exact h8, h9⟩
  · unfold rpl
    rw [i 63 (by omega), e 267 _ (by omega), e 268 _ (by omega)]
  · have hk : k < l.length := hk
    have hk' : k < s.2.2.1.length := by rw [hx, List.length_append]; omega
    obtain ⟨j, j1, j2, j3, j4⟩ := h4.2 k hk'
    have eg : s.2.2.1[k] = l[k] := by
      have : s.2.2.1[k]? = l[k]? := by rw [hx, List.getElem?_append_left hk]
      rw [List.getElem?_eq_getElem hk', List.getElem?_eq_getElem hk] at this
      exact Option.some.inj this
    rw [eg] at j2 j3 j4
    rw [e 284 _ (by omega)]
    exact ⟨j, j1, j2, j3, j4⟩
  · unfold RFl
    rw [i 62 (by omega), i 66 (by omega), i 80 (by omega), i 64 (by omega), i 65 (by omega)]
    exact h5
/-- what a walk's piece may change -/
def rQ (w dp lv yw nc : Nat) (Z : Nat → Prop) (a j : Nat) : Prop := (252 ≤ a ∧ a ≤ 258) ∨ (a = 226 ∧ (j = 42 ∨ (62 ≤ j ∧ j ≤ 66) ∨ j = 80 ∨ j = 81)) ∨ ((271 ≤ a ∧ a ≤ 275 ∨ 279 ≤ a ∧ a ≤ 283) ∧ lv ≤ j) ∨ (276 ≤ a ∧ a ≤ 278 ∧ 61 * lv ≤ j) ∨ a = 267 ∨ (a = 268 ∧ 60 * dp + 6 ≤ j) ∨ ((a = 269 ∨ a = 270) ∧ dp ≤ j) ∨ (a = 284 ∧ yw ≤ j) ∨ (a = 259 ∧ 2000 * w ≤ j ∧ j < 2000 * w + 2000) ∨ ((a = 260 ∨ a = 261) ∧ j = w) ∨ (262 ≤ a ∧ a ≤ 265 ∧ 4000 * w + nc ≤ j ∧ j < 4000 * w + 4000) ∨ (a = 266 ∧ 16000 * w ≤ j ∧ j < 16000 * w + 16000 ∧ Z (j - 16000 * w))
def fz (t : Nat) (W : Int) (D : Nat → T) (j : Nat) : Prop := ¬ (j < t ∧ ∃ (V : Int) (r : Int), V < W ∧ D j = tCir V r)
def FQ (w sc dp lv t t' : Nat) (D D' : Nat → T) (s : St) (A B : zA) : Prop := t ≤ t' ∧ (∀ i, i < t → D' i = D i) ∧ fr (rQ w dp lv s.2.2.1.length (ri A 261 w).toNat (fz t s.2.2.2.1 D)) A B ∧ ri A 261 w ≤ ri B 261 w ∧ (0 < sc → ri B 261 w = ri A 261 w)
theorem rQ_mono {w dp dp' lv lv' yw yw' nc nc' : Nat} {Z Z' : Nat → Prop} (h1 : dp ≤ dp') (h2 : lv ≤ lv') (h3 : yw ≤ yw') (h4 : nc ≤ nc') (h5 : ∀ j, Z' j → Z j) : ∀ a j, rQ w dp' lv' yw' nc' Z' a j → rQ w dp lv yw nc Z a j := by
  intro a j q
  unfold rQ at *
  rcases q with q | q | q | q | q | q | q | q | q | q | q | q
  · exact Or.inl q
  · exact Or.inr (Or.inl q)
  · exact Or.inr (Or.inr (Or.inl (by omega)))
  · exact Or.inr (Or.inr (Or.inr (Or.inl (by omega))))
  · exact Or.inr (Or.inr (Or.inr (Or.inr (Or.inl q))))
  · exact Or.inr (Or.inr (Or.inr (Or.inr (Or.inr (Or.inl (by omega))))))
  · exact Or.inr (Or.inr (Or.inr (Or.inr (Or.inr (Or.inr (Or.inl (by omega)))))))
  · exact Or.inr (Or.inr (Or.inr (Or.inr (Or.inr (Or.inr (Or.inr (Or.inl (by omega))))))))
  · exact Or.inr (Or.inr (Or.inr (Or.inr (Or.inr (Or.inr (Or.inr (Or.inr (Or.inl q))))))))
  · exact Or.inr (Or.inr (Or.inr (Or.inr (Or.inr (Or.inr (Or.inr (Or.inr (Or.inr (Or.inl q)))))))))
  · exact Or.inr (Or.inr (Or.inr (Or.inr (Or.inr (Or.inr (Or.inr (Or.inr (Or.inr (Or.inr (Or.inl (by omega)))))))))))
  · exact Or.inr (Or.inr (Or.inr (Or.inr (Or.inr (Or.inr (Or.inr (Or.inr (Or.inr (Or.inr (Or.inr ⟨q.1, q.2.1, q.2.2.1, h5 _ q.2.2.2⟩))))))))))
theorem fz_mono {t t' : Nat} {W W' : Int} {D D' : Nat → T} (ht : t ≤ t') (hW : W ≤ W') (hD : ∀ i, i < t → D' i = D i) : ∀ j, fz t' W' D' j → fz t W D j := fun j h q => by
  obtain ⟨q1, V, r, q2, q3⟩ := q
  exact h ⟨by omega, V, r, by omega, by rw [hD j q1]; exact q3⟩
/-- pieces one after the other -/
theorem FQ.trans {t1 t2 dp' lv' : Nat} {D1 D2 : Nat → T} {s1 : St} {C : zA} (h : FQ w sc dp lv t t1 D D1 s A B) (g : FQ w sc dp' lv' t1 t2 D1 D2 s1 B C) (hd : dp ≤ dp') (hl : lv ≤ lv') (hy : s.2.2.1.length ≤ s1.2.2.1.length) (hW : s.2.2.2.1 ≤ s1.2.2.2.1) (h0 : 0 ≤ ri A 261 w) : FQ w sc dp lv t t2 D D2 s A C := by
  obtain ⟨a1, a2, a3, a4, a5⟩ := h
  obtain ⟨b1, b2, b3, b4, b5⟩ := g
  refine ⟨by omega, fun i hi => by rw [b2 i (by omega), a2 i hi], a3.trans (b3.mono (rQ_mono hd hl hy (by omega) (fz_mono a1 hW a2))), by omega, fun z => by rw [b5 z, a5 z]⟩
/-- a step that touches no record -/
theorem FQ.of {t1 : Nat} {D1 : Nat → T} {Q : Nat → Nat → Prop} (ht : t ≤ t1) (hD : ∀ i, i < t → D1 i = D i) (f : fr Q A B) (hq : ∀ a j, Q a j → rQ w dp lv s.2.2.1.length (ri A 261 w).toNat (fz t s.2.2.2.1 D) a j) (h1 : ¬ Q 261 w) : FQ w sc dp lv t t1 D D1 s A B := by
  have e : ri B 261 w = ri A 261 w := f.e (by rw [Int.toNat_natCast]; exact h1)
  exact ⟨ht, hD, f.mono hq, by omega, fun _ => e⟩
section
variable {yw nc a j : Nat} {Z : Nat → Prop}
theorem rQ_th (h : 252 ≤ a ∧ a ≤ 258) : rQ w dp lv yw nc Z a j := Or.inl h
theorem rQ_f (h : a = 226 ∧ (j = 42 ∨ (62 ≤ j ∧ j ≤ 66) ∨ j = 80 ∨ j = 81)) : rQ w dp lv yw nc Z a j := Or.inr (Or.inl h)
theorem rQ_lv (h : (271 ≤ a ∧ a ≤ 275 ∨ 279 ≤ a ∧ a ≤ 283) ∧ lv ≤ j) : rQ w dp lv yw nc Z a j := Or.inr (Or.inr (Or.inl h))
theorem rQ_row (h : 276 ≤ a ∧ a ≤ 278 ∧ 61 * lv ≤ j) : rQ w dp lv yw nc Z a j := Or.inr (Or.inr (Or.inr (Or.inl h)))
theorem rQ_sh (h : a = 267) : rQ w dp lv yw nc Z a j := Or.inr (Or.inr (Or.inr (Or.inr (Or.inl h))))
theorem rQ_own (h : a = 268 ∧ 60 * dp + 6 ≤ j) : rQ w dp lv yw nc Z a j := Or.inr (Or.inr (Or.inr (Or.inr (Or.inr (Or.inl h)))))
theorem rQ_wb (h : (a = 269 ∨ a = 270) ∧ dp ≤ j) : rQ w dp lv yw nc Z a j := Or.inr (Or.inr (Or.inr (Or.inr (Or.inr (Or.inr (Or.inl h))))))
theorem rQ_wy (h : a = 284 ∧ yw ≤ j) : rQ w dp lv yw nc Z a j := Or.inr (Or.inr (Or.inr (Or.inr (Or.inr (Or.inr (Or.inr (Or.inl h)))))))
theorem rQ_sd (h : a = 259 ∧ 2000 * w ≤ j ∧ j < 2000 * w + 2000) : rQ w dp lv yw nc Z a j := Or.inr (Or.inr (Or.inr (Or.inr (Or.inr (Or.inr (Or.inr (Or.inr (Or.inl h))))))))
theorem rQ_ct (h : (a = 260 ∨ a = 261) ∧ j = w) : rQ w dp lv yw nc Z a j := Or.inr (Or.inr (Or.inr (Or.inr (Or.inr (Or.inr (Or.inr (Or.inr (Or.inr (Or.inl h)))))))))
theorem rQ_rc (h : 262 ≤ a ∧ a ≤ 265 ∧ 4000 * w + nc ≤ j ∧ j < 4000 * w + 4000) : rQ w dp lv yw nc Z a j := Or.inr (Or.inr (Or.inr (Or.inr (Or.inr (Or.inr (Or.inr (Or.inr (Or.inr (Or.inr (Or.inl h))))))))))
theorem rQ_co (h : a = 266 ∧ 16000 * w ≤ j ∧ j < 16000 * w + 16000 ∧ Z (j - 16000 * w)) : rQ w dp lv yw nc Z a j := Or.inr (Or.inr (Or.inr (Or.inr (Or.inr (Or.inr (Or.inr (Or.inr (Or.inr (Or.inr (Or.inr h))))))))))
theorem rQ_no (h : rQ w dp lv yw nc Z a j) : a = 226 ∨ (252 ≤ a ∧ a ≤ 284) := by
  rcases h with q | q | q | q | q | q | q | q | q | q | q | q
  · omega
  · omega
  · obtain ⟨q, -⟩ := q; omega
  · obtain ⟨q, q', -⟩ := q; omega
  · omega
  · omega
  · obtain ⟨q, -⟩ := q; omega
  · omega
  · omega
  · obtain ⟨q, -⟩ := q; omega
  · obtain ⟨q, q', -⟩ := q; omega
  · obtain ⟨q, -⟩ := q; omega
end
theorem qX_rQ {w dp lv yw nc : Nat} {Z : Nat → Prop} : ∀ a j, qX w dp yw a j → rQ w dp lv yw nc Z a j := by
  intro a j q
  rcases q with (q | q) | (q | q | q) | ((q | q) | q | q) | q
  · exact rQ_th q
  · exact rQ_f ⟨q.1, Or.inl q.2⟩
  · exact rQ_f ⟨q.1, Or.inr (Or.inl (by omega))⟩
  · exact rQ_sh q
  · exact rQ_own q
  · exact rQ_sd q
  · exact rQ_ct ⟨Or.inl q.1, q.2⟩
  · exact rQ_wy q
  · exact rQ_f ⟨q.1, Or.inr (Or.inr (Or.inr q.2))⟩
  · exact rQ_f ⟨q.1, Or.inr (Or.inl (by omega))⟩
theorem qX_261 {w dp yw j : Nat} : ¬ qX w dp yw 261 j := by
  intro q
  rcases q with (q | q) | (q | q | q) | ((q | q) | q | q) | q
  all_goals omega
theorem FQ.qx {t1 : Nat} {D1 : Nat → T} (ht : t ≤ t1) (hD : ∀ i, i < t → D1 i = D i) (f : fr (qX w dp s.2.2.1.length) A B) : FQ w sc dp lv t t1 D D1 s A B := FQ.of ht hD f qX_rQ qX_261
end
