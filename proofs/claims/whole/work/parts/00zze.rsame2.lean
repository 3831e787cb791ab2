section
variable {N t : Nat} {A B : zA} {D : Nat → T} {V : List Nat} {s1 s2 : St}
theorem rc_uniq {w : Nat} {cc : List (Int × Nat × T × T)} {q q' : Int × Nat × T × T} (h : RCc A w t D cc) (inj : ∀ i j, i < t → j < t → D i = D j → i = j) (h1 : q ∈ cc) (h2 : q' ∈ cc) (e1 : q.1 = q'.1) (e2 : (q.2.1 : Int) = q'.2.1) : q.2.2 = q'.2.2 := by
  obtain ⟨jt, c, a1, a2, a3, a4, ⟨x, -, x2, x3⟩, ⟨y, -, y2, y3⟩, -⟩ := h q h1
  obtain ⟨ju, d, b1, b2, b3, b4, ⟨x', -, x2', x3'⟩, ⟨y', -, y2', y3'⟩, -⟩ := h q' h2
  have : jt = ju := inj jt ju a1 b1 (by rw [a2, b2, e1, e2])
  subst this
  have hc : c = d := by omega
  subst hc
  have h3 : x = x' := by omega
  have h4 : y = y' := by omega
  exact Prod.ext (by rw [← x3, ← x3', h3]) (by rw [← y3, ← y3', h4])
theorem r_same_run {Q1 Q2 : Int → Int → Prop} (hs : s1.2.1 = s2.2.1) (hQ1 : Q1 = QU s1.2.2.2.2.2 (fun _ _ => False)) (hQ2 : Q2 = QU s2.2.2.2.2.2 (fun _ _ => False)) (l1 : LV Q1 s1) (l2 : LV Q2 s2) : ∀ (r k f : Nat) (V : List Nat) (A : zA), k + r = t → r + 2 < f → k ≤ V.length → SR A t D s1 s2 → RCH A t V → VI D s1 s2 Q1 Q2 V k → ∃ B, z_M_alike_178_l N f 1 k A = some (cif (Sam s1 s2) 1 0, B) ∧ fr qK A B := by
  have fin : ∀ (f : Nat) (V : List Nat) (A : zA), 0 < f → RCH A t V → VI D s1 s2 Q1 Q2 V V.length → ∃ B, z_M_alike_178_l N f 1 (V.length : Int) A = some (cif (Sam s1 s2) 1 0, B) ∧ fr qK A B := fun f V A hf hV hI => by
    obtain ⟨g, rfl⟩ : ∃ g, f = g + 1 := ⟨f - 1, by omega⟩
    refine ⟨A, ?_, fr.refl _ _⟩
    show z_M_alike_178_b (z_M_alike_178_l N g) N 1 (V.length : Int) A = _
    unfold z_M_alike_178_b
    rw [hV.2.2.1, if_neg (by omega), if_pos (Or.inr rfl), cif_pos (VI_end hI hs)]
  intro r
  induction r with
  | zero =>
    intro k f V A e1 e2 hk h hV hI
    have hlen := nd_len hV.1 hV.2.1
    have : k = V.length := by omega
    subst this
    exact fin f V A (by omega) hV hI
  | succ r ih =>
    intro k f V A e1 e2 hk h hV hI
    by_cases hkl : k < V.length
    · obtain ⟨g, rfl⟩ : ∃ g, f = g + 1 := ⟨f - 1, by omega⟩
      have ht := h.1.1.1
      have inj := h.1.2.1.inj
      have hiV : V[k] ∈ V := List.getElem_mem hkl
      have hi := hV.2.1 _ hiV
      obtain ⟨i1, i2, i3⟩ := hI.1 _ hiV
      have w1 : zw ((k : Int) + 1) = ((k + 1 : Nat) : Int) := by rw [yb_w (by omega) (by omega)]; omega
      have st : z_M_alike_178_l N (g + 1) 1 k A = zbI (z_M_parts N V[k] A) fun v4 A5 => z_M_alike_178_l N g v4 ((k + 1 : Nat) : Int) A5 := by
        show z_M_alike_178_b (z_M_alike_178_l N g) N 1 (k : Int) A = _
        unfold z_M_alike_178_b
        rw [hV.2.2.1, if_pos (by omega), if_neg (by decide), zrd_ok (by omega) (by omega), hV.2.2.2.1 k hkl, w1]
      -- what held of the former ones holds still
      have keep : ∀ (W : List Nat) (y : List Nat), W = V ++ y → (∀ k' (hk' : k' < W.length), k' < k → (∀ v, chd s1.2.2.2.2.2 (D W[k']) v → ∃ j ∈ W, D j = v) ∧ (∀ q1 ∈ s1.2.2.2.2.2, ∀ q2 ∈ s2.2.2.2.2.2, D W[k'] = tCir q1.1 q1.2.1 → D W[k'] = tCir q2.1 q2.2.1 → q1.2.2 = q2.2.2)) := fun W y hW k' hk' hlt => by
        have hkv : k' < V.length := by omega
        have : W[k'] = V[k'] := by simp only [hW, List.getElem_append_left hkv]
        rw [this]
        obtain ⟨c1, c2⟩ := hI.2.2 k' hkv hlt
        refine ⟨fun v hv => ?_, c2⟩
        obtain ⟨j, j1, j2⟩ := c1 v hv
        exact ⟨j, by rw [hW]; exact List.mem_append.mpr (Or.inl j1), j2⟩
      have keepb : ∀ (W : List Nat) (y : List Nat), W = V ++ y → (∀ q ∈ s1.2.1, ∀ x, q.2 = some x → ∃ j ∈ W, D j = x) := fun W y hW q hq x hx' => by
        obtain ⟨j, j1, j2⟩ := hI.2.1 q hq x hx'
        exact ⟨j, by rw [hW]; exact List.mem_append.mpr (Or.inl j1), j2⟩
      by_cases h7 : tkd (D V[k]) = 7
      · have hg := h.1.2.1.1 _ hi
        have hcd : D V[k] = tCir (rkc A V[k]).2.1 (rkc A V[k]).2.2.1 := by
          have e7 : (rkc A V[k]).1 = 7 := by rw [← cden_kd (D := D) hg.1, ← hg.2]; exact h7
          rw [hg.2]
          unfold cden
          rw [e7]
          rfl
        have j2 := i2
        have j3 := i3
        rw [hcd, tAll_cir, hQ1] at j2
        rw [hcd, tAll_cir, hQ2] at j3
        obtain ⟨q1, p1, p2, p3⟩ := j2.resolve_left (fun z => z)
        obtain ⟨q2, r1, r2, r3⟩ := j3.resolve_left (fun z => z)
        have ec1 : D V[k] = tCir q1.1 q1.2.1 := by rw [hcd, p2, p3]
        have ec2 : D V[k] = tCir q2.1 q2.2.1 := by rw [hcd, r2, r3]
        obtain ⟨C, W, fl, c1, c2, c3, ⟨y, hWV⟩, c5, c6, c7, c8⟩ := r_circ (N := N) h hV hi p1 r1 ec1 ec2
        rw [st, c1, zbI_s]
        have hC := h.fr c3 (fun a j q => q)
        rcases c8 with ⟨rfl, heq⟩ | ⟨rfl, hne⟩
        · have hVI : VI D s1 s2 Q1 Q2 W (k + 1) := by
            refine ⟨fun j hj => ?_, keepb W _ hWV, fun k' hk' hlt => ?_⟩
            · rcases c5 j hj with hin | hin
              · exact hI.1 j hin
              · have la := l1.2.2 q1 p1
                have lb := l2.2.2 q2 r1
                have hch : chd s1.2.2.2.2.2 (D V[k]) (D j) := Or.inr (Or.inr (Or.inr (Or.inr ⟨q1, p1, ec1, hin⟩)))
                refine ⟨i1.step hch, ?_, ?_⟩
                · rcases hin with hin | hin
                  · rw [hin]; exact la.1
                  · rw [hin]; exact la.2
                · rw [← heq] at lb
                  rcases hin with hin | hin
                  · rw [hin]; exact lb.1
                  · rw [hin]; exact lb.2
            · by_cases z : k' = k
              · subst z
                have : W[k'] = V[k'] := by simp only [hWV, List.getElem_append_left hkl]
                rw [this]
                refine ⟨fun v hv => ?_, fun q1' h1' q2' h2' z1 z2 => ?_⟩
                · rw [ec1] at hv
                  obtain ⟨q', n1, n2, n3, n4⟩ := chd_cir hv
                  have hu := rc_uniq h.2.2.2.1 inj n1 p1 n2 n3
                  rcases n4 with rfl | rfl
                  · rw [hu]; exact c6
                  · rw [hu]; exact c7
                · rw [ec1] at z1
                  rw [ec2] at z2
                  obtain ⟨y1, y2⟩ := tCir_inj z1
                  obtain ⟨y3, y4⟩ := tCir_inj z2
                  rw [← rc_uniq h.2.2.2.1 inj p1 h1' y1 y2, ← rc_uniq h.2.2.2.2.1 inj r1 h2' y3 y4]
                  exact heq
              · exact keep W _ hWV k' hk' (by omega)
          obtain ⟨E, m1, m2⟩ := ih (k + 1) g W C (by omega) (by omega) (by rw [hWV, List.length_append]; omega) hC c2 hVI
          exact ⟨E, m1, c3.trans m2⟩
        · have hns : ¬ Sam s1 s2 := fun z => hne (z.2 _ i1 q1 p1 q2 r1 ec1 ec2)
          rw [cif_neg hns]
          obtain ⟨g', rfl⟩ : ∃ g', g = g' + 1 := ⟨g - 1, by omega⟩
          refine ⟨C, ?_, c3⟩
          show z_M_alike_178_b (z_M_alike_178_l N g') N 0 _ C = _
          unfold z_M_alike_178_b
          rw [if_pos rfl, if_pos (Or.inl rfl)]
          split <;> rfl
      · obtain ⟨C, W, c1, c2, c3, ⟨y, hWV⟩, c5, c6⟩ := r_parts (N := N) h.1 hV hi h7
        rw [st, c1, zbI_s]
        have hC := h.fr c3 (fun a j q => q)
        have hVI : VI D s1 s2 Q1 Q2 W (k + 1) := by
          refine ⟨fun j hj => ?_, keepb W _ hWV, fun k' hk' hlt => ?_⟩
          · rcases c6 j hj with hin | hin
            · exact hI.1 j hin
            · exact ⟨i1.step (hin _), tAll_chd i2 (hin []), tAll_chd i3 (hin [])⟩
          · by_cases z : k' = k
            · subst z
              have : W[k'] = V[k'] := by simp only [hWV, List.getElem_append_left hkl]
              rw [this]
              refine ⟨fun v hv => c5 _ v hv, fun q1' h1' q2' h2' z1 z2 => ?_⟩
              rw [z1] at h7
              exact absurd rfl h7
            · exact keep W _ hWV k' hk' (by omega)
        obtain ⟨E, m1, m2⟩ := ih (k + 1) g W C (by omega) (by omega) (by rw [hWV, List.length_append]; omega) hC c2 hVI
        exact ⟨E, m1, c3.trans m2⟩
    · have hkk : k = V.length := by omega
      subst hkk
      exact fin f V A (by omega) hV hI
/-- the said numbers -/
theorem fl_cons (q : Int × Option Nat) (L : List (Int × Option Nat)) : fl (q :: L) = fx1 q ++ fl L := by unfold fl; rw [List.flatMap_cons]
theorem fl_mem {L : List (Int × Option Nat)} {x : Int} (h : x ∈ fl L) : (∃ q ∈ L, x = wc q.1) ∨ ∃ q ∈ L, ∃ j : Nat, q.2 = some j ∧ x = j := by
  unfold fl at h
  obtain ⟨q, q1, q2⟩ := List.mem_flatMap.mp h
  obtain ⟨a, b⟩ := q
  unfold fx1 at q2
  rcases List.mem_cons.mp q2 with z | z
  · exact Or.inl ⟨_, q1, z⟩
  · cases b with
    | none => cases z
    | some j => rw [List.mem_singleton] at z; exact Or.inr ⟨_, q1, j, rfl, z⟩
theorem fl_some {L : List (Int × Option Nat)} {q : Int × Option Nat} {j : Nat} (h : q ∈ L) (hj : q.2 = some j) : (j : Int) ∈ fl L := by
  unfold fl
  refine List.mem_flatMap.mpr ⟨q, h, ?_⟩
  obtain ⟨a, b⟩ := q
  have hj : b = some j := hj
  subst hj
  simp [fx1]
theorem wc_inj {a b : Int} (ha : 0 ≤ a ∧ a ≤ 8) (hb : 0 ≤ b ∧ b ≤ 8) (h : wc a = wc b) : a = b := by
  unfold wc at h
  repeat' split at h
  all_goals omega
theorem fl_inj : ∀ {L M : List (Int × Option Nat)}, (∀ q ∈ L, 0 ≤ q.1 ∧ q.1 ≤ 8) → (∀ q ∈ M, 0 ≤ q.1 ∧ q.1 ≤ 8) → fl L = fl M → L = M
  | [], [], _, _, _ => rfl
  | [], q :: M, _, _, h => by rw [fl_cons] at h; unfold fx1 at h; cases h
  | q :: L, [], _, _, h => by rw [fl_cons] at h; unfold fx1 at h; cases h
  | (a, x) :: L, (b, y) :: M, hL, hM, h => by
    have ha : 0 ≤ a ∧ a ≤ 8 := hL _ List.mem_cons_self
    have hb : 0 ≤ b ∧ b ≤ 8 := hM _ List.mem_cons_self
    rw [fl_cons, fl_cons] at h
    have neg : ∀ (X : List (Int × Option Nat)) (j : Nat) (R : List Int), (∀ q ∈ X, 0 ≤ q.1 ∧ q.1 ≤ 8) → fl X = (j : Int) :: R → False := fun X j R hX he => by
      cases X with
      | nil => cases he
      | cons q X =>
        rw [fl_cons] at he
        unfold fx1 at he
        have e := (List.cons.inj he).1
        have := wc_rg (wd := q.1) (hX q List.mem_cons_self)
        omega
    have hL' : ∀ q ∈ L, 0 ≤ q.1 ∧ q.1 ≤ 8 := fun q hq => hL q (List.mem_cons_of_mem _ hq)
    have hM' : ∀ q ∈ M, 0 ≤ q.1 ∧ q.1 ≤ 8 := fun q hq => hM q (List.mem_cons_of_mem _ hq)
    have h1 := (List.cons.inj h).1
    have h2 := (List.cons.inj h).2
    have eab := wc_inj ha hb h1
    cases x with
    | none =>
      cases y with
      | none =>
        have h2 : fl L = fl M := h2
        rw [eab, fl_inj hL' hM' h2]
      | some j =>
        have h2 : fl L = (j : Int) :: fl M := h2
        exact (neg L j _ hL' h2).elim
    | some i =>
      cases y with
      | none =>
        have h2 : (i : Int) :: fl L = fl M := h2
        exact (neg M i _ hM' h2.symm).elim
      | some j =>
        have h2 : (i : Int) :: fl L = (j : Int) :: fl M := h2
        have e1 := (List.cons.inj h2).1
        have e2 := (List.cons.inj h2).2
        rw [eab, fl_inj hL' hM' e2, show i = j by omega]
theorem map_inj {L M : List (Int × Option Nat)} (inj : ∀ i j, i < t → j < t → D i = D j → i = j) : (∀ q ∈ L, ∀ j, q.2 = some j → j < t) → (∀ q ∈ M, ∀ j, q.2 = some j → j < t) → L.map (fun q => (q.1, q.2.map D)) = M.map (fun q => (q.1, q.2.map D)) → L = M := by
  intro hL hM h
  have hlen : L.length = M.length := by
    have := congrArg List.length h
    rw [List.length_map, List.length_map] at this
    exact this
  apply List.ext_getElem hlen
  intro i h1 h2
  have e : (L.map (fun q => (q.1, q.2.map D)))[i]'(by rw [List.length_map]; exact h1) = (M.map (fun q => (q.1, q.2.map D)))[i]'(by rw [List.length_map]; exact h2) := by simp only [h]
  rw [List.getElem_map, List.getElem_map] at e
  have q1 := hL _ (List.getElem_mem h1)
  have q2 := hM _ (List.getElem_mem h2)
  generalize L[i] = x at *
  generalize M[i] = y at *
  obtain ⟨x1, x2⟩ := x
  obtain ⟨y1, y2⟩ := y
  simp only [Prod.mk.injEq] at e
  obtain ⟨e1, e2⟩ := e
  cases x2 with
  | none =>
    cases y2 with
    | none => rw [e1]
    | some v => cases e2
  | some u =>
    cases y2 with
    | none => cases e2
    | some v => rw [e1, inj u v (q1 u rfl) (q2 v rfl) (Option.some.inj e2)]
end
