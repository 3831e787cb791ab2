/-! a cell that nobody looks at may be another one -/
def mj_nul : mj_C := (false, 999, [])
section
variable {P : mj_Pr} {nT : Nat} {h h1 : mj_H} {c : mj_C} {a : Nat}
theorem n_at {x : mj_C} (hz : h[0]? = some mj_nul) (ha : h[a]? = some x) (hx : x ≠ mj_nul) : a ≠ 0 ∧ (h.set 0 c)[a]? = some x := by
  have h0 : a ≠ 0 := fun q => by
    subst q
    rw [hz] at ha
    exact hx (Option.some.inj ha).symm
  exact ⟨h0, by rw [List.getElem?_set_ne (by omega)]; exact ha⟩
theorem n_tr {t : Nat} {vs : List Value} : ((true, t, vs) : mj_C) ≠ mj_nul := fun q => by cases q
theorem n_ald {t : Nat} {x : Int32} {v : Value} (hz : h[0]? = some mj_nul) (hh : mj_ald t h a x = some v) : mj_ald t (h.set 0 c) a x = some v := by
  unfold mj_ald at hh ⊢
  split at hh
  · next u vs e =>
    rw [(n_at (c := c) hz e n_tr).2]
    exact hh
  · cases hh
theorem n_len {n : Int32} (hz : h[0]? = some mj_nul) (hh : mj_len h a = some n) : mj_len (h.set 0 c) a = some n := by
  unfold mj_len at hh ⊢
  split at hh
  · next u vs e =>
    rw [(n_at (c := c) hz e n_tr).2]
    exact hh
  · cases hh
theorem n_set {y : mj_C} (hz : h[0]? = some mj_nul) (h0 : a ≠ 0) : (h.set 0 c).set a y = (h.set a y).set 0 c ∧ (h.set a y)[0]? = some mj_nul := ⟨List.set_comm _ _ (by omega), by rw [List.getElem?_set_ne h0]; exact hz⟩
theorem n_ast {t : Nat} {x : Int32} {v : Value} (hz : h[0]? = some mj_nul) (hh : mj_ast nT t h a x v = some h1) : mj_ast nT t (h.set 0 c) a x v = some (h1.set 0 c) ∧ h1[0]? = some mj_nul := by
  unfold mj_ast at hh ⊢
  split at hh
  · next u vs e =>
    obtain ⟨h0, e2⟩ := n_at (c := c) hz e n_tr
    rw [e2]
    try dsimp only
    split at hh
    · next q =>
      rw [if_pos q]
      cases hh
      obtain ⟨s1, s2⟩ := n_set (c := c) (y := (true, u, vs.set x.toNatClampNeg v)) hz h0
      exact ⟨by rw [s1], s2⟩
    · cases hh
  · cases hh
theorem n_get {ci j : Nat} {v : Value} (hz : h[0]? = some mj_nul) (hh : mj_get h a ci j = some v) : mj_get (h.set 0 c) a ci j = some v := by
  unfold mj_get at hh ⊢
  split at hh
  · next u vs e =>
    have ne : ((false, u, vs) : mj_C) ≠ mj_nul := fun q => by
      cases q
      split at hh <;> cases hh
    rw [(n_at (c := c) hz e ne).2]
    exact hh
  · cases hh
theorem n_put {ci j : Nat} {v : Value} (hz : h[0]? = some mj_nul) (hh : mj_put nT h a ci j v = some h1) : mj_put nT (h.set 0 c) a ci j v = some (h1.set 0 c) ∧ h1[0]? = some mj_nul := by
  unfold mj_put at hh ⊢
  split at hh
  · next u vs e =>
    have ne : ((false, u, vs) : mj_C) ≠ mj_nul := fun q => by
      cases q
      split at hh
      · next q => exact absurd q.2.1 (Nat.not_lt_zero _)
      · cases hh
    obtain ⟨h0, e2⟩ := n_at (c := c) hz e ne
    rw [e2]
    try dsimp only
    split at hh
    · next q =>
      rw [if_pos q]
      cases hh
      obtain ⟨s1, s2⟩ := n_set (c := c) (y := (false, u, vs.set j v)) hz h0
      exact ⟨by rw [s1], s2⟩
    · cases hh
  · cases hh
theorem n_app {l : mj_H} (hz : h[0]? = some mj_nul) : (h.set 0 c) ++ l = (h ++ l).set 0 c ∧ (h ++ l)[0]? = some mj_nul ∧ (h.set 0 c).length = h.length := by
  have hl := (List.getElem?_eq_some_iff.mp hz).1
  exact ⟨by rw [List.set_append_left _ _ hl], by rw [List.getElem?_append_left hl]; exact hz, List.length_set⟩
theorem n_lib {k : Nat} {as : List Value} {v : Option Value} (hz : h[0]? = some mj_nul) (hh : mj_lib nT k as h = some (v, h1)) : mj_lib nT k as (h.set 0 c) = some (v, h1.set 0 c) ∧ h1[0]? = some mj_nul := by
  unfold mj_lib at hh ⊢
  split at hh
  · cases hh; exact ⟨rfl, hz⟩
  · cases hh; exact ⟨rfl, hz⟩
  · cases hh; exact ⟨rfl, hz⟩
  · split at hh
    · next e1 e2 =>
      obtain ⟨-, q1⟩ := n_at (c := c) hz e1 n_tr
      obtain ⟨h0, q2⟩ := n_at (c := c) hz e2 n_tr
      try dsimp only
      rw [q1, q2]
      try dsimp only
      split at hh
      · next q =>
        rw [if_pos q]
        cases hh
        obtain ⟨s1, s2⟩ := n_set (c := c) (y := (true, _, _)) hz h0
        exact ⟨by rw [s1], s2⟩
      · cases hh
    · cases hh
  · cases hh
theorem n_rcv {rc : Option Nat} {as : List Value} (hz : h[0]? = some mj_nul) (hr : rc ≠ some 999) (hh : mj_rcv rc as h = true) : mj_rcv rc as (h.set 0 c) = true := by
  unfold mj_rcv at hh ⊢
  split at hh
  · rfl
  · next ci b r =>
    try dsimp only
    split at hh
    · next u vs e =>
      have ne : ((false, u, vs) : mj_C) ≠ mj_nul := fun q => by
        cases q
        have := of_decide_eq_true hh
        exact hr (by rw [← this])
      rw [(n_at (c := c) hz e ne).2]
      exact hh
    · cases hh
  · cases hh
set_option maxHeartbeats 4000000 in
theorem n_i {i : Instr} {pc pc1 : Nat} {L L1 : mj_L} {S S1 : List Value} (hz : h[0]? = some mj_nul) (hi : mj_i P nT i pc L S h = some (pc1, L1, S1, h1)) : mj_i P nT i pc L S (h.set 0 c) = some (pc1, L1, S1, h1.set 0 c) ∧ h1[0]? = some mj_nul := by
  have ap := fun l => n_app (c := c) (l := l) hz
  cases i with
  | getfield n =>
    simp only [mj_i] at hi ⊢
    split at hi
    · split at hi
      · next e => cases hi; rw [n_get (c := c) hz e]; exact ⟨rfl, hz⟩
      · cases hi
    · cases hi
  | putfield n =>
    simp only [mj_i] at hi ⊢
    split at hi
    · split at hi
      · next q =>
        rw [if_pos q]
        split at hi
        · next e =>
          cases hi
          obtain ⟨q1, q2⟩ := n_put (c := c) hz e
          rw [q1]; exact ⟨rfl, q2⟩
        · cases hi
      · cases hi
    · cases hi
  | new ci =>
    simp only [mj_i] at hi ⊢
    cases hi
    obtain ⟨a1, a2, a3⟩ := ap [(false, ci, P.dfl ci)]
    rw [a3, a1]
    exact ⟨rfl, a2⟩
  | newarray t =>
    simp only [mj_i] at hi ⊢
    split at hi
    · split at hi
      · next q =>
        cases hi
        rw [if_pos q, (ap []).2.2, (ap _).1]
        exact ⟨rfl, (ap _).2.1⟩
      · cases hi
    · cases hi
  | anewarray t =>
    simp only [mj_i] at hi ⊢
    split at hi
    · split at hi
      · next q =>
        cases hi
        rw [if_pos q, (ap []).2.2, (ap _).1]
        exact ⟨rfl, (ap _).2.1⟩
      · cases hi
    · cases hi
  | multianewarray t u =>
    simp only [mj_i] at hi ⊢
    split at hi
    · split at hi
      · next q =>
        cases hi
        rw [if_pos q, (ap []).2.2, (ap _).1]
        exact ⟨rfl, (ap _).2.1⟩
      · cases hi
    · cases hi
  | arraylength =>
    simp only [mj_i] at hi ⊢
    split at hi
    · split at hi
      · next e => cases hi; rw [n_len (c := c) hz e]; exact ⟨rfl, hz⟩
      · cases hi
    · cases hi
  | iaload =>
    simp only [mj_i] at hi ⊢
    split at hi
    · split at hi
      · next e => cases hi; rw [n_ald (c := c) hz e]; exact ⟨rfl, hz⟩
      · cases hi
    · cases hi
  | laload =>
    simp only [mj_i] at hi ⊢
    split at hi
    · split at hi
      · next e => cases hi; rw [n_ald (c := c) hz e]; exact ⟨rfl, hz⟩
      · cases hi
    · cases hi
  | caload =>
    simp only [mj_i] at hi ⊢
    split at hi
    · split at hi
      · next e => cases hi; rw [n_ald (c := c) hz e]; exact ⟨rfl, hz⟩
      · cases hi
    · cases hi
  | baload =>
    simp only [mj_i] at hi ⊢
    split at hi
    · split at hi
      · next e => cases hi; rw [n_ald (c := c) hz e]; exact ⟨rfl, hz⟩
      · cases hi
    · cases hi
  | aaload =>
    simp only [mj_i] at hi ⊢
    split at hi
    · split at hi
      · next e =>
        rw [(n_at (c := c) hz e n_tr).2]
        try dsimp only
        split at hi
        · next q =>
          rw [if_pos q]
          split at hi
          · next e2 => cases hi; first | exact ⟨rfl, hz⟩ | (rw [e2]; exact ⟨rfl, hz⟩)
          · cases hi
        · cases hi
      · cases hi
    · cases hi
  | iastore =>
    simp only [mj_i] at hi ⊢
    split at hi
    · split at hi
      · next e =>
        cases hi
        obtain ⟨q1, q2⟩ := n_ast (c := c) hz e
        rw [q1]; exact ⟨rfl, q2⟩
      · cases hi
    · cases hi
  | lastore =>
    simp only [mj_i] at hi ⊢
    split at hi
    · split at hi
      · next e =>
        cases hi
        obtain ⟨q1, q2⟩ := n_ast (c := c) hz e
        rw [q1]; exact ⟨rfl, q2⟩
      · cases hi
    · cases hi
  | castore =>
    simp only [mj_i] at hi ⊢
    split at hi
    · split at hi
      · next q =>
        rw [if_pos q]
        split at hi
        · next e =>
          cases hi
          obtain ⟨q1, q2⟩ := n_ast (c := c) hz e
          rw [q1]; exact ⟨rfl, q2⟩
        · cases hi
      · cases hi
    · cases hi
  | bastore =>
    simp only [mj_i] at hi ⊢
    split at hi
    · split at hi
      · next q =>
        rw [if_pos q]
        split at hi
        · next e =>
          cases hi
          obtain ⟨q1, q2⟩ := n_ast (c := c) hz e
          rw [q1]; exact ⟨rfl, q2⟩
        · cases hi
      · cases hi
    · cases hi
  | aastore =>
    simp only [mj_i] at hi ⊢
    split at hi
    · split at hi
      · next e0 =>
        rw [(n_at (c := c) hz e0 (fun q => by cases q)).2]
        try dsimp only
        split at hi
        · next e =>
          cases hi
          obtain ⟨q1, q2⟩ := n_ast (c := c) hz e
          rw [q1]; exact ⟨rfl, q2⟩
        · cases hi
      · cases hi
    · cases hi
  | _ =>
    simp only [mj_i] at hi ⊢
    revert hi
    repeat' split
    all_goals (intro hi; first | (cases hi; exact ⟨rfl, hz⟩) | cases hi)
theorem n_ex (hrc : ∀ k, P.rc k ≠ some 999) : ∀ (n d w mi pc : Nat) (L : mj_L) (S : List Value) (h : mj_H) (o : mj_O) (h1 : mj_H), h[0]? = some mj_nul → mj_ex P nT n d w mi pc L S h = some (o, h1) → mj_ex P nT n d w mi pc L S (h.set 0 c) = some (o, h1.set 0 c) ∧ h1[0]? = some mj_nul
  | 0, _, _, _, _, _, _, _, _, _, _, hx => nomatch hx
  | n + 1, d, w, mi, pc, L, S, h, o, h1, hz, hx => by
    have hg := n_ex hrc n
    have hx : mj_body P nT (mj_ex P nT n) d w mi pc L S h = some (o, h1) := hx
    show mj_body P nT (mj_ex P nT n) d w mi pc L S (h.set 0 c) = some (o, h1.set 0 c) ∧ _
    unfold mj_body at hx ⊢
    cases hc : P.code mi pc with
    | none =>
      rw [hc] at hx
      cases hx
    | some q =>
      obtain ⟨i, len⟩ := q
      rw [hc] at hx
      dsimp only at hx ⊢
      split at hx
      · split at hx
        · cases hx; exact ⟨rfl, hz⟩
        · cases hx
      · split at hx
        · split at hx
          · next q => cases hx; rw [if_pos q]; exact ⟨rfl, hz⟩
          · cases hx
        · cases hx
      · split at hx
        · cases hx; exact ⟨rfl, hz⟩
        · cases hx
      · split at hx
        · cases hx; exact ⟨rfl, hz⟩
        · cases hx
      · split at hx
        · split at hx
          · next q =>
            cases hx
            obtain ⟨a1, a2, a3⟩ := n_app (c := c) (l := [(false, 100 + _, [])]) hz
            rw [if_pos q, a3, a1]
            exact ⟨rfl, a2⟩
          · cases hx
        · cases hx
      · rename_i k
        try dsimp only
        split at hx
        · rename_i hk
          rw [if_pos hk]
          split at hx
          · rename_i as q hp
            try rw [hp]
            try dsimp only
            split at hx
            · rename_i hq
              rw [if_pos hq]
              split at hx
              · rename_i v h2 hl
                obtain ⟨b1, b2⟩ := n_lib (c := c) hz hl
                rw [b1]
                exact hg _ _ _ _ _ _ _ _ _ b2 hx
              · cases hx
            · cases hx
          · cases hx
        · rename_i hk
          rw [if_neg hk]
          split at hx
          · rename_i as q hp
            try rw [hp]
            try dsimp only
            split at hx
            · rename_i hq
              rw [if_pos ⟨hq.1, hq.2.1, hq.2.2.1, n_rcv hz (hrc k) hq.2.2.2.1, hq.2.2.2.2⟩]
              split at hx
              · rename_i v h2 hl
                obtain ⟨b1, b2⟩ := hg _ _ _ _ _ _ _ _ _ hz hl
                rw [b1]
                exact hg _ _ _ _ _ _ _ _ _ b2 hx
              · rename_i x a h2 hl
                obtain ⟨b1, b2⟩ := hg _ _ _ _ _ _ _ _ _ hz hl
                rw [b1]
                try dsimp only
                split at hx
                · rename_i t ht
                  try rw [ht]
                  exact hg _ _ _ _ _ _ _ _ _ b2 hx
                · cases hx
              · cases hx
            · cases hx
          · cases hx
      · rename_i i n1 n2 n3 n4 n5 n6
        split at hx
        · rename_i pc1 L1 S1 h2 hi
          obtain ⟨b1, b2⟩ := n_i (c := c) hz hi
          rw [b1]
          exact hg _ _ _ _ _ _ _ _ _ b2 hx
        · cases hx
end
