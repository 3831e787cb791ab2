/-! which instruction of the machine an instruction of MJ stands for: the words that are wanted -/
theorem mj_mono_app (h xs : mj_H) : h.length ≤ (h ++ xs).length ∧ mj_sl h ≤ mj_sl (h ++ xs) := by
  rw [mj_sl_app, List.length_append]
  omega
theorem mj_mono_put {nT a ci j : Nat} {v : Value} {h h1 : mj_H} (hg : mj_put nT h a ci j v = some h1) : h.length ≤ h1.length ∧ mj_sl h ≤ mj_sl h1 := by
  obtain ⟨vs, g1, g2, g3, rfl⟩ := mj_put_spec hg
  rw [List.length_set, mj_sl_set h a false ci vs _ g1 (List.length_set ..)]
  exact ⟨Nat.le_refl _, Nat.le_refl _⟩
theorem mj_mono_ast {nT t a : Nat} {x : Int32} {v : Value} {h h1 : mj_H} (hg : mj_ast nT t h a x v = some h1) : h.length ≤ h1.length ∧ mj_sl h ≤ mj_sl h1 := by
  obtain ⟨vs, g1, -, g2, g3, rfl⟩ := mj_ast_spec hg
  rw [List.length_set, mj_sl_set h a true t vs _ g1 (List.length_set ..)]
  exact ⟨Nat.le_refl _, Nat.le_refl _⟩
set_option maxHeartbeats 4000000 in
theorem mj_i_mono {P : mj_Pr} {nT pc pc1 : Nat} {i : Instr} {L L1 : mj_L} {S S1 : List Value} {h h1 : mj_H} (hi : mj_i P nT i pc L S h = some (pc1, L1, S1, h1)) : h.length ≤ h1.length ∧ mj_sl h ≤ mj_sl h1 := by
  unfold mj_i at hi
  repeat' split at hi
  all_goals first
    | (cases hi; done)
    | (cases hi; exact ⟨Nat.le_refl _, Nat.le_refl _⟩)
    | (cases hi; exact mj_mono_put (by assumption))
    | (cases hi; exact mj_mono_ast (by assumption))
    | (cases hi; exact mj_mono_app _ _)
theorem mj_lib_mono {nT k : Nat} {as : List Value} {h h1 : mj_H} {v : Option Value} (hl : mj_lib nT k as h = some (v, h1)) : h1.length = h.length ∧ mj_sl h1 = mj_sl h := by
  unfold mj_lib at hl
  repeat' split at hl
  all_goals first
    | (cases hl; done)
    | (cases hl; exact ⟨rfl, rfl⟩)
    | (rename_i hbb hc; cases hl
       refine ⟨List.length_set .., mj_sl_set _ _ _ _ _ _ hbb ?_⟩
       exact mj_cpl_len hc.2.2.2.2.2.2.2.2.1 hc.2.2.2.2.2.2.2.2.2)
set_option maxHeartbeats 4000000 in
theorem mj_body_mono {P : mj_Pr} {nT d w mi pc : Nat} {L : mj_L} {S : List Value} {h h1 : mj_H} {o : mj_O} {go : Nat → Nat → Nat → Nat → mj_L → List Value → mj_H → Option (mj_O × mj_H)} (ih : ∀ (d w mi pc : Nat) (L : mj_L) (S : List Value) (h : mj_H) (o : mj_O) (h1 : mj_H), go d w mi pc L S h = some (o, h1) → h.length ≤ h1.length ∧ mj_sl h ≤ mj_sl h1) (hx : mj_body P nT go d w mi pc L S h = some (o, h1)) : h.length ≤ h1.length ∧ mj_sl h ≤ mj_sl h1 := by
  unfold mj_body at hx
  repeat' split at hx
  all_goals first
    | (cases hx; done)
    | (cases hx; exact ⟨Nat.le_refl _, Nat.le_refl _⟩)
    | (cases hx; exact mj_mono_app _ _)
    | (rename_i hl
       have a1 := mj_lib_mono hl
       have a2 := ih _ _ _ _ _ _ _ _ _ hx
       omega)
    | (rename_i hl
       have a1 := ih _ _ _ _ _ _ _ _ _ hl
       have a2 := ih _ _ _ _ _ _ _ _ _ hx
       omega)
    | (rename_i hl _ _ _
       have a1 := ih _ _ _ _ _ _ _ _ _ hl
       have a2 := ih _ _ _ _ _ _ _ _ _ hx
       omega)
    | (rename_i hl
       have a1 := mj_i_mono hl
       have a2 := ih _ _ _ _ _ _ _ _ _ hx
       omega)
theorem mj_ex_mono (P : mj_Pr) (nT : Nat) : ∀ (n d w mi pc : Nat) (L : mj_L) (S : List Value) (h : mj_H) (o : mj_O) (h1 : mj_H), mj_ex P nT n d w mi pc L S h = some (o, h1) → h.length ≤ h1.length ∧ mj_sl h ≤ mj_sl h1
  | 0, d, w, mi, pc, L, S, h, o, h1, hx => by cases hx
  | n + 1, d, w, mi, pc, L, S, h, o, h1, hx => mj_body_mono (mj_ex_mono P nT n) hx
