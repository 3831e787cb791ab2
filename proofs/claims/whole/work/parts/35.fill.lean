/-! more steps do no harm; a loop that fills an array in one step -/
section MQU
variable {P : mj_Pr} {nT : Nat} {g1 g2 : Nat → Nat → Nat → Nat → mj_L → List Value → mj_H → Option (mj_O × mj_H)} {d w mi pc : Nat} {L : mj_L} {S : List Value} {h : mj_H} {r : mj_O × mj_H}
theorem mj_body_le (hg : ∀ d w mi pc L S h r, g1 d w mi pc L S h = some r → g2 d w mi pc L S h = some r) (hx : mj_body P nT g1 d w mi pc L S h = some r) : mj_body P nT g2 d w mi pc L S h = some r := by
  unfold mj_body at hx ⊢
  cases hc : P.code mi pc with
  | none =>
    rw [hc] at hx
    cases hx
  | some q =>
    obtain ⟨i, len⟩ := q
    rw [hc] at hx
    dsimp only at hx ⊢
    split at hx
    · exact hx
    · exact hx
    · exact hx
    · exact hx
    · exact hx
    · rename_i k
      split at hx
      · rename_i hk
        try rw [if_pos hk]
        split at hx
        · rename_i as q hp
          try rw [hp]
          try dsimp only
          split at hx
          · rename_i hq
            try rw [if_pos hq]
            split at hx
            · rename_i v h1 hl
              try rw [hl]
              exact hg _ _ _ _ _ _ _ _ hx
            · cases hx
          · cases hx
        · cases hx
      · rename_i hk
        try rw [if_neg hk]
        split at hx
        · rename_i as q hp
          try rw [hp]
          try dsimp only
          split at hx
          · rename_i hq
            try rw [if_pos hq]
            split at hx
            · rename_i v h1 hl
              rw [hg _ _ _ _ _ _ _ _ hl]
              exact hg _ _ _ _ _ _ _ _ hx
            · rename_i x a h1 hl
              rw [hg _ _ _ _ _ _ _ _ hl]
              try dsimp only
              split at hx
              · rename_i t ht
                try rw [ht]
                exact hg _ _ _ _ _ _ _ _ hx
              · cases hx
            · cases hx
          · cases hx
        · cases hx
    · rename_i i n1 n2 n3 n4 n5 n6
      split at hx
      · rename_i pc1 L1 S1 h1 hi
        have h9 := hg _ _ _ _ _ _ _ _ hx
        exact h9
      · cases hx
theorem mj_ex_le (P : mj_Pr) (nT : Nat) : ∀ (n k : Nat), n ≤ k → ∀ d w mi pc L S h r, mj_ex P nT n d w mi pc L S h = some r → mj_ex P nT k d w mi pc L S h = some r
  | 0, k, _ => fun _ _ _ _ _ _ _ _ hx => nomatch hx
  | n + 1, 0, hk => absurd hk (by omega)
  | n + 1, k + 1, hk => fun d w mi pc L S h r hx => mj_body_le (g1 := mj_ex P nT n) (g2 := mj_ex P nT k) (mj_ex_le P nT n k (by omega)) hx
theorem mj_st {n : Nat} {i : Instr} {len pc1 : Nat} {L1 : mj_L} {S1 : List Value} {h1 : mj_H} (hc : P.code mi pc = some (i, len)) (hp : ∀ gm L S H, P.code mi pc = some (i, len) → mj_body P nT gm d w mi pc L S H = match mj_i P nT i (pc + len) L S H with
      | some (pc1, L1, S1, H1) => gm d w mi pc1 L1 S1 H1
      | none => none) (hi : mj_i P nT i (pc + len) L S h = some (pc1, L1, S1, h1)) : mj_ex P nT (n + 1) d w mi pc L S h = mj_ex P nT n d w mi pc1 L1 S1 h1 := by
  show mj_body P nT (mj_ex P nT n) d w mi pc L S h = _
  rw [hp _ _ _ _ hc, hi]
end MQU
/-- the loop: local 1 counts up to 4096, field 49 of class 12 is the array -/
def mq_lc : List (Nat × Instr × Nat) := [(7, .iload 1, 1), (8, .iconst 4096, 3), (11, .if_icmp .ge 27, 3), (14, .aload 0, 1), (15, .getfield 1585, 3), (18, .iload 1, 1), (19, .iconst (-1), 1), (20, .iastore, 1), (21, .iinc 1 1, 3), (24, .goto 7, 3)]
section MQV
variable {P : mj_Pr} {nT : Nat} {d w mi : Nat}
theorem mq_i32 {j : Nat} (hj : j < 4096) : (Int32.ofNat j).toNatClampNeg = j ∧ ¬ Int32.ofNat j < 0 ∧ mj_cnd .ge (Int32.ofNat j) 4096 = false ∧ Int32.ofNat j + 1 = Int32.ofNat (j + 1) := by
  have h1 : (Int32.ofNat j).toInt = j := Int32.toInt_ofNat_of_lt (by omega)
  refine ⟨Int32.toNatClampNeg_ofNat_of_lt (by omega), ?_, ?_, ?_⟩
  · rw [Int32.lt_iff_toInt_lt, h1]
    show ¬ (j : Int) < 0
    omega
  · have h2 : ¬ (4096 : Int32) ≤ Int32.ofNat j := by
      rw [Int32.le_iff_toInt_le, h1]
      show ¬ (4096 : Int) ≤ j
      omega
    simp [mj_cnd, h2]
  · rw [Int32.ofNat_add]
    rfl
theorem mq_loop1 (hlc : ∀ q ∈ mq_lc, P.code mi q.1 = some q.2) {n j rr b : Nat} {l2 : Option Value} {fs vs : List Value} {h : mj_H} (hj : j < 4096) (hr : h[rr]? = some (false, 12, fs)) (hf : fs[49]? = some (.ref b)) (hb : h[b]? = some (true, 0, vs)) (hv : vs.length = 4096) (hn : nT ≤ b) : mj_ex P nT (n + 10) d w mi 7 [some (.ref rr), some (.int (Int32.ofNat j)), l2] [] h = mj_ex P nT n d w mi 7 [some (.ref rr), some (.int (Int32.ofNat (j + 1))), l2] [] (h.set b (true, 0, vs.set j (.int (-1)))) := by
  obtain ⟨e1, e2, e3, e4⟩ := mq_i32 hj
  have hg : mj_get h rr 12 49 = some (.ref b) := by
    unfold mj_get
    rw [hr]
    exact hf
  have ha : mj_ast nT 0 h b (Int32.ofNat j) (.int (-1)) = some (h.set b (true, 0, vs.set j (.int (-1)))) := by
    unfold mj_ast
    rw [hb]
    dsimp only
    rw [e1, if_pos ⟨rfl, e2, by omega, hn⟩]
  rw [mj_st (hlc (7, .iload 1, 1) (by simp [mq_lc])) (fun gm L S H hc => by unfold mj_body; rw [hc]; rfl) rfl]
  rw [mj_st (hlc (8, .iconst 4096, 3) (by simp [mq_lc])) (fun gm L S H hc => by unfold mj_body; rw [hc]; rfl) rfl]
  rw [mj_st (hlc (11, .if_icmp .ge 27, 3) (by simp [mq_lc])) (fun gm L S H hc => by unfold mj_body; rw [hc]; rfl) (pc1 := 14) (L1 := [some (.ref rr), some (.int (Int32.ofNat j)), l2]) (S1 := []) (h1 := h) (by
    show some (if mj_cnd .ge (Int32.ofNat j) 4096 then (27 : Int).toNat else 14, _, _, _) = _
    rw [e3]
    rfl)]
  rw [mj_st (hlc (14, .aload 0, 1) (by simp [mq_lc])) (fun gm L S H hc => by unfold mj_body; rw [hc]; rfl) rfl]
  rw [mj_st (hlc (15, .getfield 1585, 3) (by simp [mq_lc])) (fun gm L S H hc => by unfold mj_body; rw [hc]; rfl) (pc1 := 18) (L1 := [some (.ref rr), some (.int (Int32.ofNat j)), l2]) (S1 := [.ref b]) (h1 := h) (by
    show (match mj_get h rr 12 49 with
      | some v => some (18, _, v :: [], h)
      | none => none) = _
    rw [hg])]
  rw [mj_st (hlc (18, .iload 1, 1) (by simp [mq_lc])) (fun gm L S H hc => by unfold mj_body; rw [hc]; rfl) rfl]
  rw [mj_st (hlc (19, .iconst (-1), 1) (by simp [mq_lc])) (fun gm L S H hc => by unfold mj_body; rw [hc]; rfl) rfl]
  rw [mj_st (hlc (20, .iastore, 1) (by simp [mq_lc])) (fun gm L S H hc => by unfold mj_body; rw [hc]; rfl) (pc1 := 21) (L1 := [some (.ref rr), some (.int (Int32.ofNat j)), l2]) (S1 := []) (h1 := h.set b (true, 0, vs.set j (.int (-1)))) (by
    show (match mj_ast nT 0 h b (Int32.ofNat j) (.int (-1)) with
      | some h1 => some (21, _, [], h1)
      | none => none) = _
    rw [ha])]
  rw [mj_st (hlc (21, .iinc 1 1, 3) (by simp [mq_lc])) (fun gm L S H hc => by unfold mj_body; rw [hc]; rfl) (pc1 := 24) (L1 := [some (.ref rr), some (.int (Int32.ofNat (j + 1))), l2]) (S1 := []) (h1 := h.set b (true, 0, vs.set j (.int (-1)))) (by
    show some (24, [some (.ref rr), some (.int (Int32.ofNat j + 1)), l2], _, _) = _
    rw [e4])]
  rw [mj_st (hlc (24, .goto 7, 3) (by simp [mq_lc])) (fun gm L S H hc => by unfold mj_body; rw [hc]; rfl) rfl]
  rfl
theorem mq_loop (hlc : ∀ q ∈ mq_lc, P.code mi q.1 = some q.2) {n rr b : Nat} {l2 : Option Value} {fs : List Value} (hf : fs[49]? = some (.ref b)) (hn : nT ≤ b) (hne : rr ≠ b) : ∀ (m j : Nat) (vs : List Value) (h : mj_H), j + m = 4096 → h[rr]? = some (false, 12, fs) → h[b]? = some (true, 0, vs) → vs.length = 4096 → mj_ex P nT (n + 10 * m) d w mi 7 [some (.ref rr), some (.int (Int32.ofNat j)), l2] [] h = mj_ex P nT n d w mi 7 [some (.ref rr), some (.int (Int32.ofNat 4096)), l2] [] (h.set b (true, 0, vs.take j ++ List.replicate m (.int (-1))))
  | 0, j, vs, h, hj, hr, hb, hv => by
    have : j = 4096 := by omega
    subst this
    have e : h.set b (true, 0, vs.take 4096 ++ List.replicate 0 (.int (-1))) = h := by
      rw [List.take_of_length_le (by omega), List.replicate_zero, List.append_nil]
      refine List.ext_getElem? fun i => ?_
      by_cases hi : b = i
      · subst hi
        rw [List.getElem?_set_self (List.getElem?_eq_some_iff.mp hb).1, hb]
      · rw [List.getElem?_set_ne hi]
    rw [e, Nat.mul_zero, Nat.add_zero]
  | m + 1, j, vs, h, hj, hr, hb, hv => by
    have hl : b < h.length := (List.getElem?_eq_some_iff.mp hb).1
    rw [show n + 10 * (m + 1) = n + 10 * m + 10 by omega, mq_loop1 hlc (by omega) hr hf hb hv hn]
    rw [mq_loop hlc hf hn hne m (j + 1) (vs.set j (.int (-1))) _ (by omega) (by rw [List.getElem?_set_ne (fun z => hne z.symm)]; exact hr) (List.getElem?_set_self hl) (by simpa using hv), List.set_set]
    congr 4
    rw [List.take_succ_eq_append_getElem (by simp; omega), List.getElem_set_self, List.take_set_of_le (Nat.le_refl _), List.append_assoc]
    rfl
end MQV
