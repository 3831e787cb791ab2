/-! the reference says whether two walks said the same -/
noncomputable def wlk (Q : Pr) (mt : Nat → Nat → Nat) : St := wk (pgO Q mt) 20 false 3 0 (Q.2.1 3).length st0
section
variable {N t : Nat} {A B : zA} {D : Nat → T} {V : List Nat} {s1 s2 : St}
theorem r_said_run {Q1 Q2 : Int → Int → Prop} {L : List (Int × Option Nat)} (hN : 300000 ≤ N) (hs : s1.2.1 = s2.2.1) (hQ1 : Q1 = QU s1.2.2.2.2.2 (fun _ _ => False)) (hQ2 : Q2 = QU s2.2.2.2.2.2 (fun _ _ => False)) (l1 : LV Q1 s1) (l2 : LV Q2 s2) (hL : s1.2.1 = L.map (fun q => (q.1, q.2.map D))) (hL2 : ∀ q ∈ L, 0 ≤ q.1 ∧ q.1 ≤ 8 ∧ ∀ j, q.2 = some j → j < t) (hl : (fl L).length ≤ 2000) : ∀ (r n f : Nat) (V : List Nat) (A : zA), n + r = (fl L).length → r < f → RSl A 0 (fl L) → SR A t D s1 s2 → RCH A t V → (∀ j ∈ V, Rch s1.2.1 s1.2.2.2.2.2 (D j) ∧ tAll Q1 (D j) ∧ tAll Q2 (D j)) → (∀ (m : Nat) (hm : m < (fl L).length), m < n → ∀ j : Nat, (fl L)[m] = (j : Int) → j ∈ V) → ∃ B, z_M_alike_137_l N f 1 n A = some (cif (Sam s1 s2) 1 0, B) ∧ fr qK A B := by
  intro r
  induction r with
  | zero =>
    intro n f V A e1 e2 hR h hV h1 h2
    obtain ⟨g, rfl⟩ : ∃ g, f = g + 1 := ⟨f - 1, by omega⟩
    have ht := h.1.1.1
    have hn : ri A 260 0 = (fl L).length := hR.1
    obtain ⟨B, b1, b2⟩ := r_same_run (N := N) (D := D) hs hQ1 hQ2 l1 l2 t 0 N V A (by omega) (by omega) (by omega) h hV ⟨h1, fun q hq x hx => by
      rw [hL] at hq
      obtain ⟨p, p1, rfl⟩ := List.mem_map.mp hq
      obtain ⟨a, b⟩ := p
      cases b with
      | none => cases hx
      | some j =>
        have hx : D j = x := Option.some.inj hx
        obtain ⟨m, hm, he⟩ := List.getElem_of_mem (fl_some p1 (j := j) rfl)
        exact ⟨j, h2 m hm (by omega) j he, hx⟩, fun k' hk' hlt => by omega⟩
    refine ⟨B, ?_, b2⟩
    show z_M_alike_137_b (z_M_alike_137_l N g) N 1 n A = _
    unfold z_M_alike_137_b z_M_alike_178
    rw [zrd_ok (by decide) (by decide), hn, if_neg (by omega)]
    exact b1
  | succ r ih =>
    intro n f V A e1 e2 hR h hV h1 h2
    obtain ⟨g, rfl⟩ : ∃ g, f = g + 1 := ⟨f - 1, by omega⟩
    have ht := h.1.1.1
    have hn : ri A 260 0 = (fl L).length := hR.1
    have hv : ri A 259 n = (fl L)[n]'(by omega) := by
      have := hR.2 n (by omega)
      rw [show (2000 : Int) * ((0 : Nat) : Int) + n = n by omega] at this
      exact this
    have w1 : zw ((n : Int) + 1) = ((n + 1 : Nat) : Int) := by rw [yb_w (by omega) (by omega)]; omega
    have st : z_M_alike_137_l N (g + 1) 1 n A = (if (fl L)[n]'(by omega) < 0 then z_M_alike_137_l N g 1 ((n + 1 : Nat) : Int) A else zbV (z_M_reach N ((fl L)[n]'(by omega)) A) fun A7 => z_M_alike_137_l N g 1 ((n + 1 : Nat) : Int) A7) := by
      show z_M_alike_137_b (z_M_alike_137_l N g) N 1 n A = _
      unfold z_M_alike_137_b
      rw [zrd_ok (by decide) (by decide), hn, if_pos (by omega), if_neg (by decide), zrd_ok (by omega) (by omega), hv, zrd_ok (by omega) (by omega), hv, w1]
    have hmem : (fl L)[n]'(by omega) ∈ fl L := List.getElem_mem _
    rw [st]
    generalize hx : (fl L)[n]'(by omega) = x at *
    rcases fl_mem hmem with ⟨q, q1, q2⟩ | ⟨q, q1, j, q2, q3⟩
    · have := wc_rg (wd := q.1) ⟨(hL2 q q1).1, (hL2 q q1).2.1⟩
      rw [if_pos (by omega)]
      exact ih (n + 1) g V A (by omega) (by omega) hR h hV h1 (fun m hm hlt j hj => by
        by_cases z : m = n
        · subst z; rw [hx] at hj; omega
        · exact h2 m hm (by omega) j hj)
    · have hj := (hL2 q q1).2.2 j q2
      rw [if_neg (by omega), q3]
      obtain ⟨B, b1, b2, b3⟩ := r_reach (N := N) hV ht hj
      rw [b1, zbV_s]
      have hqs : (q.1, q.2.map D) ∈ s1.2.1 := by rw [hL]; exact List.mem_map.mpr ⟨q, q1, rfl⟩
      have hqd : (q.1, q.2.map D).2 = some (D j) := by show q.2.map D = _; rw [q2]; rfl
      obtain ⟨C, c1, c2⟩ := ih (n + 1) g (addv V j) B (by omega) (by omega) (hR.mono (b3.e (fun z => by unfold qK at z; omega)) (fun i _ => b3.e (fun z => by unfold qK at z; omega))) (h.fr b3 (fun a j z => z)) b2 (fun i hi => by
        rcases addv_mem.mp hi with hi | rfl
        · exact h1 i hi
        · exact ⟨Rch.said hqs hqd, l1.2.1 _ hqs _ hqd, l2.2.1 _ (by rw [← hs]; exact hqs) _ hqd⟩) (fun m hm hlt i hi => by
        by_cases z : m = n
        · subst z
          rw [hx] at hi
          exact addv_mem.mpr (Or.inr (by omega))
        · exact addv_mem.mpr (Or.inl (h2 m hm (by omega) i hi)))
      exact ⟨C, c1, b3.trans c2⟩
/-- nothing is marked yet -/
theorem r_clear {x1 : Int} (hN : 300000 ≤ N) : ∀ (r k f : Nat) (A : zA), k + r = t → t ≤ 16000 → r < f → zi A 226 42 = t → (∀ i : Nat, i < k → ri A 285 i = 0) → ∃ B, z_M_alike_109_l N f x1 k A = z_M_alike_137 N x1 0 B ∧ fr qK A B ∧ RCH B t [] := by
  intro r
  induction r with
  | zero =>
    intro k f A e1 ht e2 h42 h
    obtain ⟨g, rfl⟩ : ∃ g, f = g + 1 := ⟨f - 1, by omega⟩
    refine ⟨zsi A 226 83 0, ?_, fr_si (Or.inr (Or.inr ⟨rfl, rfl⟩)), by simp, fun i hi => (by cases hi), ?_, fun k hk => absurd hk (Nat.not_lt_zero k), fun i hi => ?_⟩
    · show z_M_alike_109_b (z_M_alike_109_l N g) N x1 k A = _
      unfold z_M_alike_109_b
      rw [if_neg (by omega), zlet_s]
    · rw [zi_si_s]; decide
    · rw [ri_si_o (by decide), h i (by omega), if_neg (by simp)]
  | succ r ih =>
    intro k f A e1 ht e2 h42 h
    obtain ⟨g, rfl⟩ : ∃ g, f = g + 1 := ⟨f - 1, by omega⟩
    have w1 : zw ((k : Int) + 1) = ((k + 1 : Nat) : Int) := by rw [yb_w (by omega) (by omega)]; omega
    obtain ⟨B, b1, b2, b3⟩ := ih (k + 1) g (rs A 285 k 0) (by omega) ht (by omega) (by rw [zi_rs_o (by decide)]; exact h42) (fun i hi => by
      rw [ri_rs (by omega) (by omega)]
      by_cases z : i = k
      · rw [if_pos (by omega)]; decide
      · rw [if_neg (by omega)]; exact h i (by omega))
    refine ⟨B, ?_, (fr_rs (Or.inl rfl)).trans b2, b3⟩
    rw [← b1]
    show z_M_alike_109_b (z_M_alike_109_l N g) N x1 k A = _
    unfold z_M_alike_109_b
    rw [if_pos (by omega), zwr_ok (by omega) (by omega), w1]
/-- said alike, as numbers -/
theorem r_eq_run {M M' : List Int} (hM : RSl A 0 M) (hM' : RSl A 1 M') (hlen : M.length = M'.length) (hl : M.length ≤ 2000) : ∀ (r n f : Nat), n + r = M.length → r + 1 < f → (∀ (k : Nat) (hk : k < M.length), k < n → M[k] = M'[k]'(by omega)) → z_M_alike_62_l N f 1 n A = z_M_alike_109 N (if M = M' then 1 else 0) 0 A := by
  intro r
  induction r with
  | zero =>
    intro n f e1 e2 h
    obtain ⟨g, rfl⟩ : ∃ g, f = g + 1 := ⟨f - 1, by omega⟩
    have hn : ri A 260 0 = M.length := hM.1
    have : M = M' := List.ext_getElem hlen (fun i h1 h2 => h i h1 (by omega))
    show z_M_alike_62_b (z_M_alike_62_l N g) N 1 n A = _
    unfold z_M_alike_62_b
    rw [zrd_ok (by decide) (by decide), hn, if_neg (by omega), if_pos this]
  | succ r ih =>
    intro n f e1 e2 h
    obtain ⟨g, rfl⟩ : ∃ g, f = g + 1 := ⟨f - 1, by omega⟩
    have hn : ri A 260 0 = M.length := hM.1
    have w1 : zw ((n : Int) + 1) = ((n + 1 : Nat) : Int) := by rw [yb_w (by omega) (by omega)]; omega
    have hv : ri A 259 n = M[n]'(by omega) := by
      have := hM.2 n (by omega)
      rw [show (2000 : Int) * ((0 : Nat) : Int) + n = n by omega] at this
      exact this
    have hv' : ri A 259 (2000 + n) = M'[n]'(by omega) := by
      have := hM'.2 n (by omega)
      rw [show (2000 : Int) * ((1 : Nat) : Int) + n = 2000 + n by omega] at this
      exact this
    show z_M_alike_62_b (z_M_alike_62_l N g) N 1 n A = _
    unfold z_M_alike_62_b
    rw [zrd_ok (by decide) (by decide), hn, if_pos (by omega), if_neg (by decide), zrd_ok (by omega) (by omega), zrd_ok (by omega) (by omega), hv, hv', w1]
    by_cases c : M[n]'(by omega) = M'[n]'(by omega)
    · rw [if_pos c]
      exact ih (n + 1) g (by omega) (by omega) (fun k hk hlt => by
        by_cases z : k = n
        · subst z; exact c
        · exact h k hk (by omega))
    · rw [if_neg c, if_neg (fun z => c (by subst z; rfl))]
      obtain ⟨g', rfl⟩ : ∃ g', g = g' + 1 := ⟨g - 1, by omega⟩
      show z_M_alike_62_b (z_M_alike_62_l N g') N 0 _ A = _
      unfold z_M_alike_62_b
      rw [zrd_ok (by decide) (by decide), hn, if_pos rfl]
      split <;> rfl
theorem r_said (hN : 300000 ≤ N) (h : SR A t D s1 s2) (l1 : LV (QU s1.2.2.2.2.2 (fun _ _ => False)) s1) (l2 : LV (QU s2.2.2.2.2.2 (fun _ _ => False)) s2) (hl1 : s1.2.1.length ≤ 150) (hl2 : s2.2.1.length ≤ 150) : ∃ B, (zrd A 260 2 0 fun v3 => zrd A 260 2 1 fun v4 => (if v3 = v4 then z_M_alike_62 N 1 0 A else z_M_alike_62 N 0 0 A)) = some (cif (Sam s1 s2) 1 0, B) ∧ fr qK A B := by
  obtain ⟨L, a1, a2, a3⟩ := h.2.1
  obtain ⟨M, b1, b2, b3⟩ := h.2.2.1
  have inj := h.1.2.1.inj
  have ht := h.1.1.1
  have h42 : zi A 226 42 = t := h.1.1.2.1
  have fL := fl_len L
  have fM := fl_len M
  have e1 : L.length ≤ 150 := by rw [a1, List.length_map] at hl1; exact hl1
  have e2 : M.length ≤ 150 := by rw [b1, List.length_map] at hl2; exact hl2
  have eqv : fl L = fl M ↔ s1.2.1 = s2.2.1 := by
    constructor
    · intro z
      rw [a1, b1, fl_inj (fun q hq => ⟨(a2 q hq).1, (a2 q hq).2.1⟩) (fun q hq => ⟨(b2 q hq).1, (b2 q hq).2.1⟩) z]
    · intro z
      rw [a1, b1] at z
      rw [map_inj inj (fun q hq => (a2 q hq).2.2) (fun q hq => (b2 q hq).2.2) z]
  have n0 : ri A 260 0 = (fl L).length := a3.1
  have n1 : ri A 260 1 = (fl M).length := b3.1
  have flag : ∀ x1 : Int, (x1 = 0 ∧ s1.2.1 ≠ s2.2.1) ∨ (x1 = 1 ∧ s1.2.1 = s2.2.1) → ∃ B, z_M_alike_109 N x1 0 A = some (cif (Sam s1 s2) 1 0, B) ∧ fr qK A B := fun x1 hx => by
    obtain ⟨B, c1, c2, c3⟩ := r_clear (N := N) (x1 := x1) hN t 0 N A (by omega) ht (by omega) h42 (fun i hi => by omega)
    rw [show ((0 : Nat) : Int) = 0 from rfl] at c1
    unfold z_M_alike_109
    rw [c1]
    rcases hx with ⟨rfl, hne⟩ | ⟨rfl, heq⟩
    · rw [cif_neg (fun z => hne z.1)]
      refine ⟨B, ?_, c2⟩
      have m0 : ri B 260 0 = (fl L).length := by rw [c2.e (fun z => by unfold qK at z; omega)]; exact n0
      have fin : z_M_alike_178 N 0 0 B = some (0, B) := by
        obtain ⟨g, rfl⟩ : ∃ g, N = g + 1 := ⟨N - 1, by omega⟩
        show z_M_alike_178_b (z_M_alike_178_l (g + 1) g) (g + 1) 0 0 B = _
        unfold z_M_alike_178_b
        have h83 : zi B 226 83 = 0 := c3.2.2.1
        rw [h83, if_neg (by decide), if_pos (Or.inl rfl)]
      unfold z_M_alike_137
      obtain ⟨g, hg⟩ : ∃ g, N = g + 1 := ⟨N - 1, by omega⟩
      have : ∀ f, z_M_alike_137_l N (f + 1) 0 0 B = some (0, B) := fun f => by
        show z_M_alike_137_b (z_M_alike_137_l N f) N 0 0 B = _
        unfold z_M_alike_137_b
        rw [zrd_ok (by decide) (by decide), m0, if_pos rfl, fin]
        split <;> rfl
      have t2 := this g
      rw [← hg] at t2
      exact t2
    · obtain ⟨E, d1, d2⟩ := r_said_run (N := N) (D := D) (L := L) hN heq rfl rfl l1 l2 a1 a2 (by omega) (fl L).length 0 N [] B (by omega) (by omega) (a3.mono (c2.e (fun z => by unfold qK at z; omega)) (fun i _ => c2.e (fun z => by unfold qK at z; omega))) (h.fr c2 (fun a j z => z)) c3 (fun j hj => (by cases hj)) (fun m hm hlt => by omega)
      exact ⟨E, d1, c2.trans d2⟩
  rw [zrd_ok (by decide) (by decide), zrd_ok (by decide) (by decide), n0, n1]
  by_cases c : (fl L).length = (fl M).length
  · rw [if_pos (by omega)]
    unfold z_M_alike_62
    have r := r_eq_run (N := N) a3 b3 c (by omega) (fl L).length 0 N (by omega) (by omega) (fun k hk hlt => by omega)
    rw [show ((0 : Nat) : Int) = 0 from rfl] at r
    rw [r]
    by_cases z : fl L = fl M
    · rw [if_pos z]; exact flag 1 (Or.inr ⟨rfl, eqv.mp z⟩)
    · rw [if_neg z]; exact flag 0 (Or.inl ⟨rfl, fun w => z (eqv.mpr w)⟩)
  · rw [if_neg (by omega)]
    unfold z_M_alike_62
    have : z_M_alike_62_l N N 0 0 A = z_M_alike_109 N 0 0 A := by
      obtain ⟨g, hg⟩ : ∃ g, N = g + 1 := ⟨N - 1, by omega⟩
      have : ∀ f, z_M_alike_62_l N (f + 1) 0 0 A = z_M_alike_109 N 0 0 A := fun f => by
        show z_M_alike_62_b (z_M_alike_62_l N f) N 0 0 A = _
        unfold z_M_alike_62_b
        rw [zrd_ok (by decide) (by decide), if_pos rfl]
        split <;> rfl
      have t2 := this g
      rw [← hg] at t2
      exact t2
    rw [this]
    exact flag 0 (Or.inl ⟨rfl, fun w => c (by rw [eqv.mpr w])⟩)
end
