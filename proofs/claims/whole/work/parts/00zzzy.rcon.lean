/-! CONSTANTS of the reference -/
def KnR (A : zA) (kn : Kn) : Prop := ∀ r : Nat, r < 60 → (∀ v, kn r = some v → ri A 239 r = 1 ∧ ri A 240 r = v) ∧ (kn r = none → ri A 239 r = 0)
def KsR (A : zA) (ca cb l : Nat) (kn : Kn) : Prop := ∀ r : Nat, r < 60 → (∀ v, kn r = some v → ri A ca (60 * (l : Int) + r) = 1 ∧ ri A cb (60 * (l : Int) + r) = v) ∧ (kn r = none → ri A ca (60 * (l : Int) + r) = 0)
def qCn (p L : Nat) (a j : Nat) : Prop := qIn p a j ∨ a = 239 ∨ a = 240 ∨ (241 ≤ a ∧ a ≤ 244 ∧ 60 * L ≤ j) ∨ (a = 245 ∧ L ≤ j)
theorem qCn_mono {p L L' a j : Nat} (h : L ≤ L') (z : qCn p L' a j) : qCn p L a j := by
  unfold qCn at *
  rcases z with z | z | z | z | z
  · exact Or.inl z
  · exact Or.inr (Or.inl z)
  · exact Or.inr (Or.inr (Or.inl z))
  · exact Or.inr (Or.inr (Or.inr (Or.inl ⟨z.1, z.2.1, by omega⟩)))
  · exact Or.inr (Or.inr (Or.inr (Or.inr ⟨z.1, by omega⟩)))
section
variable {N : Nat} {A : zA} {X : List It} {g p T p' L : Nat} {s : KS}
theorem KsR.fr {F : Nat → Nat → Prop} {B : zA} {ca cb l : Nat} {kn : Kn} (h : KsR A ca cb l kn) (f : fr F A B) (h1 : ∀ r, r < 60 → ¬ F ca (60 * l + r)) (h2 : ∀ r, r < 60 → ¬ F cb (60 * l + r)) : KsR B ca cb l kn := fun r hr => by
  have e : (60 * (l : Int) + r).toNat = 60 * l + r := by omega
  rw [f.e (by rw [e]; exact h1 r hr), f.e (by rw [e]; exact h2 r hr)]
  exact h r hr
theorem KnR.fr {F : Nat → Nat → Prop} {B : zA} {kn : Kn} (h : KnR A kn) (f : fr F A B) (h1 : ∀ r, ¬ F 239 r) (h2 : ∀ r, ¬ F 240 r) : KnR B kn := fun r hr => by
  rw [f.e (h1 _), f.e (h2 _)]
  exact h r hr
theorem r_sv1 {l : Nat} (hl : l < 30) : ∀ (r i f : Nat) (B : zA), i + r = 60 → r < f → ∃ C, z_M_saveKnown_241_242_3_l N f l i B = some C ∧ (∀ q : Nat, q < 60 → (ri C 241 (60 * (l : Int) + q) = if i ≤ q then ri B 239 q else ri B 241 (60 * (l : Int) + q)) ∧ (ri C 242 (60 * (l : Int) + q) = if i ≤ q then ri B 240 q else ri B 242 (60 * (l : Int) + q))) ∧ fr (fun a j => (a = 241 ∨ a = 242) ∧ 60 * l ≤ j ∧ j < 60 * l + 60) B C := by
  intro r
  induction r with
  | zero =>
    intro i f B h1 h2
    obtain ⟨u, rfl⟩ : ∃ u, f = u + 1 := ⟨f - 1, by omega⟩
    refine ⟨B, ?_, fun q hq => ⟨by rw [if_neg (show ¬ i ≤ q by omega)], by rw [if_neg (show ¬ i ≤ q by omega)]⟩, fr.refl _ _⟩
    show z_M_saveKnown_241_242_3_b (z_M_saveKnown_241_242_3_l N u) N l i B = _
    unfold z_M_saveKnown_241_242_3_b
    rw [if_neg (by omega)]
  | succ r ih =>
    intro i f B h1 h2
    obtain ⟨u, rfl⟩ : ∃ u, f = u + 1 := ⟨f - 1, by omega⟩
    have w1 : zw ((i : Int) + 1) = ((i + 1 : Nat) : Int) := by rw [yb_w (by omega) (by omega)]; omega
    have r1 := ri_rg B 239 i
    have f1 : fr (fun a j => a = 241 ∧ j = 60 * l + i) B (rs B 241 (60 * (l : Int) + i) (ri B 239 i)) := fr_rs ⟨rfl, by omega⟩
    have v1 : ri (rs B 241 (60 * (l : Int) + i) (ri B 239 i)) 241 (60 * (l : Int) + i) = ri B 239 i := by rw [ri_rs_s, yb_w r1.1 r1.2]
    have st0 : z_M_saveKnown_241_242_3_l N (u + 1) l i B = z_M_saveKnown_241_242_3_l N u l ((i + 1 : Nat) : Int) (rs (rs B 241 (60 * (l : Int) + i) (ri B 239 i)) 242 (60 * (l : Int) + i) (ri (rs B 241 (60 * (l : Int) + i) (ri B 239 i)) 240 i)) := by
      show z_M_saveKnown_241_242_3_b (z_M_saveKnown_241_242_3_l N u) N l i B = _
      unfold z_M_saveKnown_241_242_3_b
      rw [if_pos (by omega), zrd_ok (by omega) (by omega), zwr_ok (by omega) (by omega), zrd_ok (by omega) (by omega), zwr_ok (by omega) (by omega), w1]
    generalize rs B 241 (60 * (l : Int) + i) (ri B 239 i) = B1 at *
    have r2 := ri_rg B1 240 i
    have f2 : fr (fun a j => a = 242 ∧ j = 60 * l + i) B1 (rs B1 242 (60 * (l : Int) + i) (ri B1 240 i)) := fr_rs ⟨rfl, by omega⟩
    have v2 : ri (rs B1 242 (60 * (l : Int) + i) (ri B1 240 i)) 242 (60 * (l : Int) + i) = ri B1 240 i := by rw [ri_rs_s, yb_w r2.1 r2.2]
    generalize rs B1 242 (60 * (l : Int) + i) (ri B1 240 i) = B2 at *
    obtain ⟨C, c1, c2, c3⟩ := ih (i + 1) u B2 (by omega) (by omega)
    refine ⟨C, by rw [st0]; exact c1, fun q hq => ?_, ((f1.mono (fun a j z => ⟨Or.inl z.1, by omega, by omega⟩)).trans (f2.mono (fun a j z => ⟨Or.inr z.1, by omega, by omega⟩))).trans c3⟩
    obtain ⟨d1, d2⟩ := c2 q hq
    rw [d1, d2]
    by_cases c : q = i
    · subst c
      rw [if_neg (show ¬ q + 1 ≤ q by omega), if_neg (show ¬ q + 1 ≤ q by omega), if_pos (Nat.le_refl q), if_pos (Nat.le_refl q), v2, f2.e (fun z => by omega), v1, f1.e (fun z => by omega)]
      exact ⟨rfl, rfl⟩
    · by_cases c2 : i + 1 ≤ q
      · rw [if_pos c2, if_pos c2, if_pos (show i ≤ q by omega), if_pos (show i ≤ q by omega), f2.e (fun z => by omega), f1.e (fun z => by omega), f2.e (fun z => by omega), f1.e (fun z => by omega)]
        exact ⟨rfl, rfl⟩
      · rw [if_neg c2, if_neg c2, if_neg (show ¬ i ≤ q by omega), if_neg (show ¬ i ≤ q by omega), f2.e (fun z => by omega), f1.e (fun z => by omega), f2.e (fun z => by omega), f1.e (fun z => by omega)]
        exact ⟨rfl, rfl⟩
theorem r_sv2 {l : Nat} (hl : l < 30) : ∀ (r i f : Nat) (B : zA), i + r = 60 → r < f → ∃ C, z_M_saveKnown_243_244_3_l N f l i B = some C ∧ (∀ q : Nat, q < 60 → (ri C 243 (60 * (l : Int) + q) = if i ≤ q then ri B 239 q else ri B 243 (60 * (l : Int) + q)) ∧ (ri C 244 (60 * (l : Int) + q) = if i ≤ q then ri B 240 q else ri B 244 (60 * (l : Int) + q))) ∧ fr (fun a j => (a = 243 ∨ a = 244) ∧ 60 * l ≤ j ∧ j < 60 * l + 60) B C := by
  intro r
  induction r with
  | zero =>
    intro i f B h1 h2
    obtain ⟨u, rfl⟩ : ∃ u, f = u + 1 := ⟨f - 1, by omega⟩
    refine ⟨B, ?_, fun q hq => ⟨by rw [if_neg (show ¬ i ≤ q by omega)], by rw [if_neg (show ¬ i ≤ q by omega)]⟩, fr.refl _ _⟩
    show z_M_saveKnown_243_244_3_b (z_M_saveKnown_243_244_3_l N u) N l i B = _
    unfold z_M_saveKnown_243_244_3_b
    rw [if_neg (by omega)]
  | succ r ih =>
    intro i f B h1 h2
    obtain ⟨u, rfl⟩ : ∃ u, f = u + 1 := ⟨f - 1, by omega⟩
    have w1 : zw ((i : Int) + 1) = ((i + 1 : Nat) : Int) := by rw [yb_w (by omega) (by omega)]; omega
    have r1 := ri_rg B 239 i
    have f1 : fr (fun a j => a = 243 ∧ j = 60 * l + i) B (rs B 243 (60 * (l : Int) + i) (ri B 239 i)) := fr_rs ⟨rfl, by omega⟩
    have v1 : ri (rs B 243 (60 * (l : Int) + i) (ri B 239 i)) 243 (60 * (l : Int) + i) = ri B 239 i := by rw [ri_rs_s, yb_w r1.1 r1.2]
    have st0 : z_M_saveKnown_243_244_3_l N (u + 1) l i B = z_M_saveKnown_243_244_3_l N u l ((i + 1 : Nat) : Int) (rs (rs B 243 (60 * (l : Int) + i) (ri B 239 i)) 244 (60 * (l : Int) + i) (ri (rs B 243 (60 * (l : Int) + i) (ri B 239 i)) 240 i)) := by
      show z_M_saveKnown_243_244_3_b (z_M_saveKnown_243_244_3_l N u) N l i B = _
      unfold z_M_saveKnown_243_244_3_b
      rw [if_pos (by omega), zrd_ok (by omega) (by omega), zwr_ok (by omega) (by omega), zrd_ok (by omega) (by omega), zwr_ok (by omega) (by omega), w1]
    generalize rs B 243 (60 * (l : Int) + i) (ri B 239 i) = B1 at *
    have r2 := ri_rg B1 240 i
    have f2 : fr (fun a j => a = 244 ∧ j = 60 * l + i) B1 (rs B1 244 (60 * (l : Int) + i) (ri B1 240 i)) := fr_rs ⟨rfl, by omega⟩
    have v2 : ri (rs B1 244 (60 * (l : Int) + i) (ri B1 240 i)) 244 (60 * (l : Int) + i) = ri B1 240 i := by rw [ri_rs_s, yb_w r2.1 r2.2]
    generalize rs B1 244 (60 * (l : Int) + i) (ri B1 240 i) = B2 at *
    obtain ⟨C, c1, c2, c3⟩ := ih (i + 1) u B2 (by omega) (by omega)
    refine ⟨C, by rw [st0]; exact c1, fun q hq => ?_, ((f1.mono (fun a j z => ⟨Or.inl z.1, by omega, by omega⟩)).trans (f2.mono (fun a j z => ⟨Or.inr z.1, by omega, by omega⟩))).trans c3⟩
    obtain ⟨d1, d2⟩ := c2 q hq
    rw [d1, d2]
    by_cases c : q = i
    · subst c
      rw [if_neg (show ¬ q + 1 ≤ q by omega), if_neg (show ¬ q + 1 ≤ q by omega), if_pos (Nat.le_refl q), if_pos (Nat.le_refl q), v2, f2.e (fun z => by omega), v1, f1.e (fun z => by omega)]
      exact ⟨rfl, rfl⟩
    · by_cases c2 : i + 1 ≤ q
      · rw [if_pos c2, if_pos c2, if_pos (show i ≤ q by omega), if_pos (show i ≤ q by omega), f2.e (fun z => by omega), f1.e (fun z => by omega), f2.e (fun z => by omega), f1.e (fun z => by omega)]
        exact ⟨rfl, rfl⟩
      · rw [if_neg c2, if_neg c2, if_neg (show ¬ i ≤ q by omega), if_neg (show ¬ i ≤ q by omega), f2.e (fun z => by omega), f1.e (fun z => by omega), f2.e (fun z => by omega), f1.e (fun z => by omega)]
        exact ⟨rfl, rfl⟩
theorem r_ld1 {l : Nat} (hl : l < 30) : ∀ (r i f : Nat) (B : zA), i + r = 60 → r < f → ∃ C, z_M_loadKnown_241_242_3_l N f l i B = some C ∧ (∀ q : Nat, q < 60 → (ri C 239 q = if i ≤ q then ri B 241 (60 * (l : Int) + q) else ri B 239 q) ∧ (ri C 240 q = if i ≤ q then ri B 242 (60 * (l : Int) + q) else ri B 240 q)) ∧ fr (fun a j => (a = 239 ∨ a = 240) ∧ 0 ≤ j ∧ j < 0 + 60) B C := by
  intro r
  induction r with
  | zero =>
    intro i f B h1 h2
    obtain ⟨u, rfl⟩ : ∃ u, f = u + 1 := ⟨f - 1, by omega⟩
    refine ⟨B, ?_, fun q hq => ⟨by rw [if_neg (show ¬ i ≤ q by omega)], by rw [if_neg (show ¬ i ≤ q by omega)]⟩, fr.refl _ _⟩
    show z_M_loadKnown_241_242_3_b (z_M_loadKnown_241_242_3_l N u) N l i B = _
    unfold z_M_loadKnown_241_242_3_b
    rw [if_neg (by omega)]
  | succ r ih =>
    intro i f B h1 h2
    obtain ⟨u, rfl⟩ : ∃ u, f = u + 1 := ⟨f - 1, by omega⟩
    have w1 : zw ((i : Int) + 1) = ((i + 1 : Nat) : Int) := by rw [yb_w (by omega) (by omega)]; omega
    have r1 := ri_rg B 241 (60 * (l : Int) + i)
    have f1 : fr (fun a j => a = 239 ∧ j = 0 + i) B (rs B 239 i (ri B 241 (60 * (l : Int) + i))) := fr_rs ⟨rfl, by omega⟩
    have v1 : ri (rs B 239 i (ri B 241 (60 * (l : Int) + i))) 239 i = ri B 241 (60 * (l : Int) + i) := by rw [ri_rs_s, yb_w r1.1 r1.2]
    have st0 : z_M_loadKnown_241_242_3_l N (u + 1) l i B = z_M_loadKnown_241_242_3_l N u l ((i + 1 : Nat) : Int) (rs (rs B 239 i (ri B 241 (60 * (l : Int) + i))) 240 i (ri (rs B 239 i (ri B 241 (60 * (l : Int) + i))) 242 (60 * (l : Int) + i))) := by
      show z_M_loadKnown_241_242_3_b (z_M_loadKnown_241_242_3_l N u) N l i B = _
      unfold z_M_loadKnown_241_242_3_b
      rw [if_pos (by omega), zrd_ok (by omega) (by omega), zwr_ok (by omega) (by omega), zrd_ok (by omega) (by omega), zwr_ok (by omega) (by omega), w1]
    generalize rs B 239 i (ri B 241 (60 * (l : Int) + i)) = B1 at *
    have r2 := ri_rg B1 242 (60 * (l : Int) + i)
    have f2 : fr (fun a j => a = 240 ∧ j = 0 + i) B1 (rs B1 240 i (ri B1 242 (60 * (l : Int) + i))) := fr_rs ⟨rfl, by omega⟩
    have v2 : ri (rs B1 240 i (ri B1 242 (60 * (l : Int) + i))) 240 i = ri B1 242 (60 * (l : Int) + i) := by rw [ri_rs_s, yb_w r2.1 r2.2]
    generalize rs B1 240 i (ri B1 242 (60 * (l : Int) + i)) = B2 at *
    obtain ⟨C, c1, c2, c3⟩ := ih (i + 1) u B2 (by omega) (by omega)
    refine ⟨C, by rw [st0]; exact c1, fun q hq => ?_, ((f1.mono (fun a j z => ⟨Or.inl z.1, by omega, by omega⟩)).trans (f2.mono (fun a j z => ⟨Or.inr z.1, by omega, by omega⟩))).trans c3⟩
    obtain ⟨d1, d2⟩ := c2 q hq
    rw [d1, d2]
    by_cases c : q = i
    · subst c
      rw [if_neg (show ¬ q + 1 ≤ q by omega), if_neg (show ¬ q + 1 ≤ q by omega), if_pos (Nat.le_refl q), if_pos (Nat.le_refl q), v2, f2.e (fun z => by omega), v1, f1.e (fun z => by omega)]
      exact ⟨rfl, rfl⟩
    · by_cases c2 : i + 1 ≤ q
      · rw [if_pos c2, if_pos c2, if_pos (show i ≤ q by omega), if_pos (show i ≤ q by omega), f2.e (fun z => by omega), f1.e (fun z => by omega), f2.e (fun z => by omega), f1.e (fun z => by omega)]
        exact ⟨rfl, rfl⟩
      · rw [if_neg c2, if_neg c2, if_neg (show ¬ i ≤ q by omega), if_neg (show ¬ i ≤ q by omega), f2.e (fun z => by omega), f1.e (fun z => by omega), f2.e (fun z => by omega), f1.e (fun z => by omega)]
        exact ⟨rfl, rfl⟩
theorem r_save1 {l : Nat} {kn : Kn} (hN : 300000 ≤ N) (hl : l < 30) (h : KnR A kn) : ∃ B, z_M_saveKnown_241_242 N l A = some B ∧ KsR B 241 242 l kn ∧ fr (fun a j => (a = 241 ∨ a = 242) ∧ 60 * l ≤ j ∧ j < 60 * l + 60) A B := by
  obtain ⟨C, c1, c2, c3⟩ := r_sv1 (N := N) hl 60 0 N A (by omega) (by omega)
  refine ⟨C, c1, fun r hr => ?_, c3⟩
  obtain ⟨d1, d2⟩ := c2 r hr
  rw [if_pos (Nat.zero_le r)] at d1 d2
  rw [d1, d2]
  exact h r hr
theorem r_save2 {l : Nat} {kn : Kn} (hN : 300000 ≤ N) (hl : l < 30) (h : KnR A kn) : ∃ B, z_M_saveKnown_243_244 N l A = some B ∧ KsR B 243 244 l kn ∧ fr (fun a j => (a = 243 ∨ a = 244) ∧ 60 * l ≤ j ∧ j < 60 * l + 60) A B := by
  obtain ⟨C, c1, c2, c3⟩ := r_sv2 (N := N) hl 60 0 N A (by omega) (by omega)
  refine ⟨C, c1, fun r hr => ?_, c3⟩
  obtain ⟨d1, d2⟩ := c2 r hr
  rw [if_pos (Nat.zero_le r)] at d1 d2
  rw [d1, d2]
  exact h r hr
theorem r_load1 {l : Nat} {kn : Kn} (hN : 300000 ≤ N) (hl : l < 30) (h : KsR A 241 242 l kn) : ∃ B, z_M_loadKnown_241_242 N l A = some B ∧ KnR B kn ∧ fr (fun a j => (a = 239 ∨ a = 240) ∧ 0 ≤ j ∧ j < 0 + 60) A B := by
  obtain ⟨C, c1, c2, c3⟩ := r_ld1 (N := N) hl 60 0 N A (by omega) (by omega)
  refine ⟨C, c1, fun r hr => ?_, c3⟩
  obtain ⟨d1, d2⟩ := c2 r hr
  rw [if_pos (Nat.zero_le r)] at d1 d2
  rw [d1, d2]
  exact h r hr
end
