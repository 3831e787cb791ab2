/-! locals that are not told -/
def zle (L M : mj_L) : Prop := L.length = M.length ∧ ∀ (i : Nat) (v : Value), L[i]? = some (some v) → M[i]? = some (some v)
theorem zle_refl (L : mj_L) : zle L L := ⟨rfl, fun _ _ h => h⟩
theorem zle_clr {L M : mj_L} (h : zle L M) (i : Nat) : zle (mj_clr L i) (mj_clr M i) := by
  obtain ⟨hl, hv⟩ := h
  cases i with
  | zero => exact ⟨hl, hv⟩
  | succ j =>
    have hcl : ∀ (X : mj_L), (mj_clr X (j + 1)).length = X.length ∧ ∀ (k : Nat), (mj_clr X (j + 1))[k]? = if k = j then (match X[j]? with
        | some (some (.long _)) => some none
        | some (some (.double _)) => some none
        | q => q) else X[k]? := by
      intro X
      have hs : (X.set j none).length = X.length ∧ ∀ k, (X.set j none)[k]? = if k = j then (if j < X.length then some none else none) else X[k]? := by
        refine ⟨by simp, fun k => ?_⟩
        rw [List.getElem?_set]
        by_cases e : j = k
        · rw [if_pos e, if_pos e.symm]
        · rw [if_neg e, if_neg (fun q => e q.symm)]
      unfold mj_clr
      simp only
      split
      · rename_i heq
        have := (List.getElem?_eq_some_iff.mp heq).1
        refine ⟨hs.1, fun k => ?_⟩
        rw [hs.2 k, if_pos this, heq]
      · rename_i heq
        have := (List.getElem?_eq_some_iff.mp heq).1
        refine ⟨hs.1, fun k => ?_⟩
        rw [hs.2 k, if_pos this, heq]
      · rename_i q1 q2
        refine ⟨rfl, fun k => ?_⟩
        split
        · rename_i e; subst e
          split
          · exact absurd ‹_› (q1 _)
          · exact absurd ‹_› (q2 _)
          · rfl
        · rfl
    refine ⟨by rw [(hcl L).1, (hcl M).1, hl], fun k v => ?_⟩
    rw [(hcl L).2, (hcl M).2]
    by_cases e : k = j
    · rw [if_pos e, if_pos e]
      intro hq
      cases hx : L[j]? with
      | none => rw [hx] at hq; cases hq
      | some x => cases x with
        | none => rw [hx] at hq; cases hq
        | some u =>
          have hm := hv j u hx
          rw [hx] at hq
          rw [hm]
          exact hq
    · rw [if_neg e, if_neg e]
      exact hv k v
theorem zle_set {L M : mj_L} (h : zle L M) (i : Nat) (x : Option Value) : zle (L.set i x) (M.set i x) := by
  refine ⟨by simp [h.1], fun k v => ?_⟩
  rw [List.getElem?_set, List.getElem?_set, h.1]
  split
  · exact id
  · exact h.2 k v
theorem zle_st1 {L M : mj_L} (h : zle L M) (i : Nat) (v : Value) : zle (mj_st1 L i v) (mj_st1 M i v) := zle_set (zle_clr h i) i _
theorem zle_st2 {L M : mj_L} (h : zle L M) (i : Nat) (v : Value) : zle (mj_st2 L i v) (mj_st2 M i v) := zle_set (zle_set (zle_clr h i) i _) _ _
set_option maxHeartbeats 8000000 in
theorem zle_i {P : mj_Pr} {nT pc pc1 : Nat} {i : Instr} {L L1 M : mj_L} {S S1 : List Value} {h h1 : mj_H} (hi : mj_i P nT i pc L S h = some (pc1, L1, S1, h1)) (hm : zle L M) : ∃ M1, mj_i P nT i pc M S h = some (pc1, M1, S1, h1) ∧ zle L1 M1 := by
  unfold mj_i at hi
  repeat' split at hi
  all_goals first
    | (cases hi; done)
    | (rename_i hx; cases hi; have hy := hm.2 _ _ hx; refine ⟨M, ?_, hm⟩; unfold mj_i; simp only [hy]; done)
    | (rename_i hx; cases hi; have hy := hm.2 _ _ hx; refine ⟨_, ?_, zle_st1 hm _ _⟩; unfold mj_i; simp only [hy]; done)
    | (rename_i hx; cases hi; have hz := hm.1; refine ⟨_, ?_, zle_st1 hm _ _⟩; unfold mj_i; simp only; rw [if_pos (by omega)]; done)
    | (rename_i hx; cases hi; have hz := hm.1; refine ⟨_, ?_, zle_st2 hm _ _⟩; unfold mj_i; simp only; rw [if_pos (by omega)]; done)
    | (cases hi; refine ⟨M, ?_, hm⟩; unfold mj_i; simp only [*]; done)
    | (cases hi; refine ⟨M, ?_, hm⟩; unfold mj_i; simp only [*, if_true, if_false, not_false_eq_true, and_self]; done)
    | (cases hi; refine ⟨M, ?_, hm⟩; unfold mj_i; simp [*]; done)
theorem zle_ex (P : mj_Pr) (nT : Nat) : ∀ (n d w mi pc : Nat) (L M : mj_L) (S : List Value) (h : mj_H) (r : mj_O × mj_H), mj_ex P nT n d w mi pc L S h = some r → zle L M → mj_ex P nT n d w mi pc M S h = some r
  | 0, d, w, mi, pc, L, M, S, h, r, hx, hm => by cases hx
  | n + 1, d, w, mi, pc, L, M, S, h, r, hx, hm => by
    have ih := zle_ex P nT n
    change mj_body P nT (mj_ex P nT n) d w mi pc L S h = some r at hx
    show mj_body P nT (mj_ex P nT n) d w mi pc M S h = some r
    unfold mj_body at hx ⊢
    repeat' split at hx
    all_goals first
      | (cases hx; done)
      | (simp only [*, if_true, and_self]; exact ih _ _ _ _ _ _ _ _ _ hx hm)
      | (simp only [*, if_true, and_self]; done)
      | (rename_i hl; obtain ⟨M1, e1, e2⟩ := zle_i hl hm; simp only [*]; exact ih _ _ _ _ _ _ _ _ _ hx e2)
      | (simp [*] at hx ⊢; done)
/-- L tells no more than M -/
def zsub : zLs → zLs → Prop
  | [], [] => True
  | none :: l, _ :: m => zsub l m
  | some u :: l, some v :: m => zval u = zval v ∧ zsub l m
  | _, _ => False
theorem zsub_le : ∀ (L M : zLs), zsub L M → zle (zL L) (zL M)
  | [], [], _ => zle_refl _
  | none :: l, x :: m, h => by
    have ih := zsub_le l m h
    refine ⟨by simpa [zL] using ih.1, fun i v => ?_⟩
    cases i with
    | zero => intro q; simp [zL] at q
    | succ i => exact ih.2 i v
  | some u :: l, some v :: m, h => by
    have ih := zsub_le l m h.2
    refine ⟨by simpa [zL] using ih.1, fun i x => ?_⟩
    cases i with
    | zero => intro q; simp only [zL, List.map_cons, Option.map_some, List.getElem?_cons_zero] at q ⊢; rw [← h.1]; exact q
    | succ i => exact ih.2 i x
  | some u :: l, none :: m, h => h.elim
  | [], _ :: _, h => h.elim
  | some _ :: _, [], h => h.elim
  | none :: _, [], h => h.elim
theorem zG_to {R : Type} {F : Option R} {P : R → zO → zA → Prop} {d w mi pc : Nat} {L M : zLs} {S T : List zV} {A : zA} (h : zsub L M) (hS : zS S = zS T) (k : zG F P d w mi pc L S A) : zG F P d w mi pc M T A := by
  intro r hr hf
  obtain ⟨n, o, A1, e1, e2⟩ := k r hr hf
  exact ⟨n, o, A1, by rw [← hS]; exact zle_ex _ _ _ _ _ _ _ _ _ _ _ _ e1 (zsub_le _ _ h), e2⟩
