section
variable {N : Nat} {A : zA} {t : Nat} {D : Nat → T} {s1 s2 : St}
theorem cc_uniq {ta : Nat} {cc : List (Int × Nat × T × T)} {q q' : Int × Nat × T × T} (h : CCc A ta t D cc) (h1 : q ∈ cc) (h2 : q' ∈ cc) (e1 : q.1 = q'.1) (e2 : (q.2.1 : Int) = q'.2.1) : q.2.2 = q'.2.2 := by
  obtain ⟨-, -, -, ⟨x, -, x2, x3⟩, ⟨y, -, y2, y3⟩, -⟩ := h q h1
  obtain ⟨-, -, -, ⟨x', -, x2', x3'⟩, ⟨y', -, y2', y3'⟩, -⟩ := h q' h2
  rw [e1, e2] at x2 y2
  have h3 : x = x' := by omega
  have h4 : y = y' := by omega
  exact Prod.ext (by rw [← x3, ← x3', h3]) (by rw [← y3, ← y3', h4])
theorem tAll_chd {Q : Int → Int → Prop} {u v : T} (h : tAll Q u) (hc : chd [] u v) : tAll Q v := by
  rcases hc with ⟨o', s', t', rfl, q⟩ | ⟨s', t', rfl, q⟩ | ⟨s', t', r', rfl, q⟩ | ⟨s', t', r', rfl, q⟩ | ⟨q', h1, -⟩
  · obtain ⟨a, b⟩ := tAll_wrk.mp h
    rcases q with rfl | rfl <;> assumption
  · obtain ⟨a, b⟩ := tAll_lod.mp h
    rcases q with rfl | rfl <;> assumption
  · obtain ⟨a, b, c⟩ := tAll_sto.mp h
    rcases q with rfl | rfl | rfl <;> assumption
  · obtain ⟨a, b, c⟩ := tAll_cho.mp h
    rcases q with rfl | rfl | rfl <;> assumption
  · cases h1
/-- what holds of the chain, k of it being done -/
def VI (D : Nat → T) (s1 s2 : St) (Q1 Q2 : Int → Int → Prop) (V : List Nat) (k : Nat) : Prop := (∀ j ∈ V, Rch s1.2.1 s1.2.2.2.2.2 (D j) ∧ tAll Q1 (D j) ∧ tAll Q2 (D j)) ∧ (∀ q ∈ s1.2.1, ∀ x, q.2 = some x → ∃ j ∈ V, D j = x) ∧ (∀ k' (hk : k' < V.length), k' < k → (∀ v, chd s1.2.2.2.2.2 (D V[k']) v → ∃ j ∈ V, D j = v) ∧ (∀ q1 ∈ s1.2.2.2.2.2, ∀ q2 ∈ s2.2.2.2.2.2, D V[k'] = tCir q1.1 q1.2.1 → D V[k'] = tCir q2.1 q2.2.1 → q1.2.2 = q2.2.2))
theorem VI_end {Q1 Q2 : Int → Int → Prop} {V : List Nat} (h : VI D s1 s2 Q1 Q2 V V.length) (hs : s1.2.1 = s2.2.1) : Sam s1 s2 := by
  refine ⟨hs, fun u hu q1 h1 q2 h2 e1 e2 => ?_⟩
  have : ∃ j ∈ V, D j = u := Rch.of (fun u => ∃ j ∈ V, D j = u) h.2.1 (fun u v hu' hc => by
    obtain ⟨j, j1, rfl⟩ := hu'
    obtain ⟨k, hk, rfl⟩ := List.getElem_of_mem j1
    exact (h.2.2 k hk hk).1 v hc) hu
  obtain ⟨j, j1, rfl⟩ := this
  obtain ⟨k, hk, rfl⟩ := List.getElem_of_mem j1
  exact (h.2.2 k hk hk).2 q1 h1 q2 h2 e1 e2
theorem same_run {Q1 Q2 : Int → Int → Prop} (hs : s1.2.1 = s2.2.1) (hQ1 : Q1 = QU s1.2.2.2.2.2 (fun _ _ => False)) (hQ2 : Q2 = QU s2.2.2.2.2.2 (fun _ _ => False)) (l1 : LV Q1 s1) (l2 : LV Q2 s2) (ht : t ≤ 40000) : ∀ (r k f : Nat) (V : List Nat) (A : zA), k + r = t → r + 2 < f → k ≤ V.length → SA A t D s1 s2 → CHN A t V → VI D s1 s2 Q1 Q2 V k → ∃ B, z_Wk_saidTheSame_69_l N f 1 (if h : k < V.length then (V[k] : Int) else -1) k A = some (cif (Sam s1 s2) 1 0, B) ∧ LKF A B := by
  intro r
  induction r with
  | zero =>
    intro k f V A e1 e2 hk h hV hI
    obtain ⟨g, rfl⟩ : ∃ g, f = g + 1 := ⟨f - 1, by omega⟩
    have hlen := nd_len hV.1 hV.2.1
    have : k = V.length := by omega
    subst this
    rw [dif_neg (Nat.lt_irrefl _)]
    refine ⟨A, ?_, LKF.refl h.1⟩
    show z_Wk_saidTheSame_69_b (z_Wk_saidTheSame_69_l N g) N 1 (-1) _ A = _
    unfold z_Wk_saidTheSame_69_b
    rw [if_neg (by decide), Th_has h.2.1, if_neg (by omega), zbP_s, if_pos rfl, if_pos (Or.inr rfl), cif_pos (VI_end hI hs)]
  | succ r ih =>
    intro k f V A e1 e2 hk h hV hI
    obtain ⟨g, rfl⟩ : ∃ g, f = g + 1 := ⟨f - 1, by omega⟩
    by_cases hkl : k < V.length
    · rw [dif_pos hkl]
      have hiV : V[k] ∈ V := List.getElem_mem hkl
      have hi := hV.2.1 _ hiV
      obtain ⟨i1, i2, i3⟩ := hI.1 _ hiV
      have w1 : zw ((k : Int) + 1) = ((k + 1 : Nat) : Int) := by rw [yb_w (by omega) (by omega)]; omega
      obtain ⟨B, V', b1, b2, b3, ⟨x, hx⟩, b5, b6⟩ := Th_reachFields (N := N) h.1 h.2.1 h.2.2.1 ht hV hi
      have hB := h.lk b2
      have hgk : (tk B 111 V[k]).1 = tkd (D V[k]) := by
        have := hB.2.2.1.1 _ hi
        rw [this.2, cden_kd this.1]
      have hkV' : k < V'.length := by rw [hx, List.length_append]; omega
      have eV : V'[k] = V[k] := by simp only [hx, List.getElem_append_left hkl]
      show ∃ B, z_Wk_saidTheSame_69_b (z_Wk_saidTheSame_69_l N g) N 1 V[k] k A = _ ∧ _
      unfold z_Wk_saidTheSame_69_b
      rw [if_neg (by decide), Th_has h.2.1, if_pos (by omega), zbP_s, if_neg (by decide), if_pos (by omega), b1, zbV_s, Th_kind hB.1 (by decide) hB.2.1 hi, zbP_s, hgk]
      -- going on along the chain
      have nxt : ∀ (E : zA) (W : List Nat) (fl : Int), SA E t D s1 s2 → CHN E t W → (∃ y, W = V ++ y) → z_Wk_saidTheSame_117 (z_Wk_saidTheSame_69_l N g) N fl V[k] k E = z_Wk_saidTheSame_69_l N g fl (if h : k + 1 < W.length then (W[k + 1] : Int) else -1) ((k + 1 : Nat) : Int) E := fun E W fl hE hW ⟨y, hy⟩ => by
        unfold z_Wk_saidTheSame_117 z_Th_reachedAfter
        have hkW : k < W.length := by rw [hy, List.length_append]; omega
        have eW : W[k] = V[k] := by simp only [hy, List.getElem_append_left hkl]
        have hl0 := hE.2.1.l0
        have hOE := hE.1
        have hd : dyo.contains 111 = true := by decide
        rw [Th_has hE.2.1, if_pos (by omega), zbP_s, if_neg (by decide)]
        have rd : yv E 111 0 ((V[k] : Int) * 7 + 6) = tn E 111 V[k] 6 := by unfold tn; rw [Int.mul_comm]
        simp (disch := (first | decide | omega | assumption | ((repeat (first | apply Own.ys | apply Own.si | apply Own.rs)); assumption) | (simp only [yl_ys, yl_si, yl_rs]; omega))) only [zgr_d, zrD_d, rd, zbP_s, w1]
        have := hW.2.2.2.1 k hkW
        rw [eW] at this
        rw [this]
      -- what held of the former ones holds still
      have keep : ∀ (W : List Nat) (y : List Nat), W = V ++ y → (∀ k' (hk' : k' < W.length), k' < k → (∀ v, chd s1.2.2.2.2.2 (D W[k']) v → ∃ j ∈ W, D j = v) ∧ (∀ q1 ∈ s1.2.2.2.2.2, ∀ q2 ∈ s2.2.2.2.2.2, D W[k'] = tCir q1.1 q1.2.1 → D W[k'] = tCir q2.1 q2.2.1 → q1.2.2 = q2.2.2)) := fun W y hW k' hk' hlt => by
        have hkv : k' < V.length := by omega
        have : W[k'] = V[k'] := by simp only [hW, List.getElem_append_left hkv]
        rw [this]
        obtain ⟨c1, c2⟩ := hI.2.2 k' hkv hlt
        refine ⟨fun v hv => ?_, c2⟩
        obtain ⟨j, j1, j2⟩ := c1 v hv
        exact ⟨j, by rw [hW]; exact List.mem_append.mpr (Or.inl j1), j2⟩
      have keepb : ∀ (W : List Nat) (y : List Nat), W = V ++ y → (∀ q ∈ s1.2.1, ∀ x, q.2 = some x → ∃ j ∈ W, D j = x) := fun W y hW q hq x hx' => by
        obtain ⟨j, j1, j2⟩ := hI.2.1 q hq x hx'
        exact ⟨j, by rw [hW]; exact List.mem_append.mpr (Or.inl j1), j2⟩
      by_cases h7 : tkd (D V[k]) = 7
      · rw [if_pos h7]
        have hgB := hB.2.2.1.1 _ hi
        have hcd : D V[k] = tCir (tn B 111 V[k] 1) (tn B 111 V[k] 2) := by
          have e0 : tk B 111 V[k] = ((tk B 111 V[k]).1, tn B 111 V[k] 1, tn B 111 V[k] 2, tn B 111 V[k] 3) := rfl
          rw [hgB.2, e0, hgk, h7]; rfl
        generalize hwr : tn B 111 V[k] 1 = w at *
        generalize hrr : tn B 111 V[k] 2 = rr at *
        have j2 := i2
        have j3 := i3
        rw [hcd, tAll_cir, hQ1] at j2
        rw [hcd, tAll_cir, hQ2] at j3
        obtain ⟨q1, p1, p2, p3⟩ := j2.resolve_left (fun z => z)
        obtain ⟨q2, r1, r2, r3⟩ := j3.resolve_left (fun z => z)
        have ec1 : D V[k] = tCir q1.1 q1.2.1 := by rw [hcd, p2, p3]
        have ec2 : D V[k] = tCir q2.1 q2.2.1 := by rw [hcd, r2, r3]
        obtain ⟨C, W, fl, c1, c2, c3, ⟨y, hy⟩, c5, c6, c7, c8⟩ := circlesAlike (N := N) hB ht b3 hi p1 r1 ec1 ec2
        rw [c1, zbI_s]
        have hC := hB.lk c2
        have hWV : W = V ++ (x ++ y) := by rw [hy, hx, List.append_assoc]
        rw [nxt C W fl hC c3 ⟨_, hWV⟩]
        rcases c8 with ⟨rfl, heq⟩ | ⟨rfl, hne⟩
        · have hVI : VI D s1 s2 Q1 Q2 W (k + 1) := by
            refine ⟨fun j hj => ?_, keepb W _ hWV, fun k' hk' hlt => ?_⟩
            · have hin : j ∈ V' ∨ D j = q1.2.2.1 ∨ D j = q1.2.2.2 := c5 j hj
              rcases hin with hin | hin
              · rcases b6 j hin with hin | hin
                · exact hI.1 j hin
                · exact ⟨i1.step (hin _), tAll_chd i2 (hin []), tAll_chd i3 (hin [])⟩
              · have la := l1.2.2 q1 p1
                have lb := l2.2.2 q2 r1
                have hch : chd s1.2.2.2.2.2 (D V[k]) (D j) := Or.inr (Or.inr (Or.inr (Or.inr ⟨q1, p1, ec1, hin⟩)))
                refine ⟨i1.step hch, ?_, ?_⟩
                · rcases hin with hin | hin
                  · rw [hin]; exact la.1
                  · rw [hin]; exact la.2
                · rw [← heq] at lb
                  rcases hin with hin | hin
                  · rw [hin]; exact lb.1
                  · rw [hin]; exact lb.2
            · by_cases z : k' = k
              · subst z
                have : W[k'] = V[k'] := by simp only [hWV, List.getElem_append_left hkl]
                rw [this]
                refine ⟨fun v hv => ?_, fun q1' h1' q2' h2' z1 z2 => ?_⟩
                · rw [ec1] at hv
                  obtain ⟨q', n1, n2, n3, n4⟩ := chd_cir hv
                  have hu := cc_uniq h.2.2.2.2.2.1 n1 p1 n2 n3
                  rcases n4 with rfl | rfl
                  · rw [hu]; exact c6
                  · rw [hu]; exact c7
                · rw [ec1] at z1
                  rw [ec2] at z2
                  obtain ⟨y1, y2⟩ := tCir_inj z1
                  obtain ⟨y3, y4⟩ := tCir_inj z2
                  rw [← cc_uniq h.2.2.2.2.2.1 p1 h1' y1 y2, ← cc_uniq h.2.2.2.2.2.2.1 r1 h2' y3 y4]
                  exact heq
              · exact keep W _ hWV k' hk' (by omega)
          obtain ⟨E, m1, m2⟩ := ih (k + 1) g W C (by omega) (by omega) (by rw [hWV, List.length_append]; omega) hC c3 hVI
          exact ⟨E, m1, (b2.trans c2).trans m2⟩
        · have hns : ¬ Sam s1 s2 := fun z => hne (z.2 _ i1 q1 p1 q2 r1 ec1 ec2)
          rw [cif_neg hns]
          obtain ⟨g', rfl⟩ : ∃ g', g = g' + 1 := ⟨g - 1, by omega⟩
          refine ⟨C, ?_, b2.trans c2⟩
          show z_Wk_saidTheSame_69_b (z_Wk_saidTheSame_69_l N g') N 0 _ _ C = _
          unfold z_Wk_saidTheSame_69_b
          rw [if_pos rfl, if_pos (Or.inl rfl)]
      · rw [if_neg h7, nxt B V' 1 hB b3 ⟨x, hx⟩]
        have hVI : VI D s1 s2 Q1 Q2 V' (k + 1) := by
          refine ⟨fun j hj => ?_, keepb V' x hx, fun k' hk' hlt => ?_⟩
          · rcases b6 j hj with hin | hin
            · exact hI.1 j hin
            · exact ⟨i1.step (hin _), tAll_chd i2 (hin []), tAll_chd i3 (hin [])⟩
          · by_cases z : k' = k
            · subst z
              rw [eV]
              refine ⟨fun v hv => b5 _ v h7 hv, fun q1' h1' q2' h2' z1 z2 => ?_⟩
              rw [z1] at h7
              exact absurd rfl h7
            · exact keep V' x hx k' hk' (by omega)
        obtain ⟨E, m1, m2⟩ := ih (k + 1) g V' B (by omega) (by omega) (by omega) hB b3 hVI
        exact ⟨E, m1, b2.trans m2⟩
    · have hkk : k = V.length := by omega
      subst hkk
      rw [dif_neg (Nat.lt_irrefl _)]
      refine ⟨A, ?_, LKF.refl h.1⟩
      show z_Wk_saidTheSame_69_b (z_Wk_saidTheSame_69_l N g) N 1 (-1) _ A = _
      unfold z_Wk_saidTheSame_69_b
      rw [if_neg (by decide), Th_has h.2.1, if_neg (by omega), zbP_s, if_pos rfl, if_pos (Or.inr rfl), cif_pos (VI_end hI hs)]
theorem said_run {Q1 Q2 : Int → Int → Prop} (hN : 300000 ≤ N) (hs : s1.2.1 = s2.2.1) (hQ1 : Q1 = QU s1.2.2.2.2.2 (fun _ _ => False)) (hQ2 : Q2 = QU s2.2.2.2.2.2 (fun _ _ => False)) (l1 : LV Q1 s1) (l2 : LV Q2 s2) (ht : t ≤ 40000) (hl : s1.2.1.length ≤ 150) : ∀ (r n f : Nat) (V : List Nat) (A : zA), n + r = s1.2.1.length → r < f → SA A t D s1 s2 → CHN A t V → (∀ j ∈ V, Rch s1.2.1 s1.2.2.2.2.2 (D j) ∧ tAll Q1 (D j) ∧ tAll Q2 (D j)) → (∀ k (hk : k < s1.2.1.length), k < n → ∀ x, s1.2.1[k].2 = some x → ∃ j ∈ V, D j = x) → ∃ B, z_Wk_saidTheSame_25_l N f n A = some (cif (Sam s1 s2) 1 0, B) ∧ LKF A B := by
  intro r
  induction r with
  | zero =>
    intro n f V A e1 e2 h hV h1 h2
    obtain ⟨g, rfl⟩ : ∃ g, f = g + 1 := ⟨f - 1, by omega⟩
    have hn := h.2.2.2.1.1
    show ∃ B, z_Wk_saidTheSame_25_b (z_Wk_saidTheSame_25_l N g) N n A = _ ∧ _
    unfold z_Wk_saidTheSame_25_b z_Wk_saidTheSame_69
    rw [if_neg (by omega), hV.2.2.2.2.1]
    exact same_run hs hQ1 hQ2 l1 l2 ht t 0 N V A (by omega) (by omega) (by omega) h hV ⟨h1, fun q hq x hx => by
      obtain ⟨k, hk, rfl⟩ := List.getElem_of_mem hq
      exact h2 k hk (by omega) x hx, fun k' hk' hlt => by omega⟩
  | succ r ih =>
    intro n f V A e1 e2 h hV h1 h2
    obtain ⟨g, rfl⟩ : ∃ g, f = g + 1 := ⟨f - 1, by omega⟩
    have hn := h.2.2.2.1.1
    have w1 : zw ((n : Int) + 1) = ((n + 1 : Nat) : Int) := by rw [yb_w (by omega) (by omega)]; omega
    obtain ⟨a1, a2⟩ := h.2.2.2.1.2 n (by omega)
    have a2 : ixo t D (ri A 116 n) (s1.2.1[n]'(by omega)).2 := a2
    have key : z_Wk_saidTheSame_25_l N (g + 1) n A = zbV (z_Th_reach N 111 (ri A 116 n) A) fun A3 => z_Wk_saidTheSame_25_l N g ((n + 1 : Nat) : Int) A3 := by
      show z_Wk_saidTheSame_25_b (z_Wk_saidTheSame_25_l N g) N n A = _
      unfold z_Wk_saidTheSame_25_b z_Ta_thingSaid
      rw [if_pos (by omega), if_neg (by omega), if_pos (by omega), zgf_s (show zfr 114 1 = some 116 by decide), zrD_f h.1 (show zsh 116 = some (true, 0, 150) by decide) (by omega) (by omega), zbP_s, w1]
    rw [key]
    cases hu : (s1.2.1[n]'(by omega)).2 with
    | none =>
      rw [hu] at a2
      rw [Th_reach' h.1 h.2.1 ht hV a2, zbV_s]
      exact ih (n + 1) g V A (by omega) (by omega) h hV h1 (fun k hk hlt x hx => by
        by_cases z : k = n
        · subst z
          rw [hu] at hx
          cases hx
        · exact h2 k hk (by omega) x hx)
    | some u =>
      rw [hu] at a2
      obtain ⟨j, j1, j2, j3⟩ := a2
      rw [j2]
      obtain ⟨B, b1, b2, b3⟩ := Th_reachA (N := N) h.1 h.2.1 ht hV j1
      rw [b1, zbV_s]
      have hmem : s1.2.1[n]'(by omega) ∈ s1.2.1 := List.getElem_mem _
      obtain ⟨E, m1, m2⟩ := ih (n + 1) g (addv V j) B (by omega) (by omega) (h.lk b2) b3 (fun i hi => by
        rcases addv_mem.mp hi with hi | rfl
        · exact h1 i hi
        · rw [j3]
          exact ⟨Rch.said hmem hu, l1.2.1 _ hmem u hu, l2.2.1 _ (by rw [← hs]; exact hmem) u hu⟩) (fun k hk hlt x hx => by
        by_cases z : k = n
        · subst z
          rw [hu] at hx
          cases hx
          exact ⟨j, addv_mem.mpr (Or.inr rfl), j3⟩
        · obtain ⟨i, i1, i2⟩ := h2 k hk (by omega) x hx
          exact ⟨i, addv_mem.mpr (Or.inl i1), i2⟩)
      exact ⟨E, m1, b2.trans m2⟩
/-- the class says whether two walks said the same -/
theorem Wk_saidTheSame (hN : 300000 ≤ N) (h : SA A t D s1 s2) (hk : ∀ i, i < t → tn A 111 i 6 = -2) (l1 : LV (QU s1.2.2.2.2.2 (fun _ _ => False)) s1) (l2 : LV (QU s2.2.2.2.2.2 (fun _ _ => False)) s2) (ht : t ≤ 40000) (hl : s1.2.1.length ≤ 150) : ∃ B, z_Wk_saidTheSame N A = some (cif (Sam s1 s2) 1 0, B) ∧ LKF A B := by
  unfold z_Wk_saidTheSame
  rw [Ta_saysWhat hN h hl, zbP_s]
  by_cases hs : s1.2.1 = s2.2.1
  · rw [cif_pos hs, if_neg (by decide)]
    unfold z_Th_beginReaching
    rw [zlet_s, zlet_s, zbV_s]
    have hO := h.1
    have hd : dyo.contains 111 = true := by decide
    have hfx : fx 111 = true := by decide
    have oY : Own (zsi A 111 3 (-1)) := hO
    have LX : LKF A (zsi (zsi A 111 3 (-1)) 111 4 (-1)) := ⟨(cF_si hO hfx (by decide) (by decide)).trans (cF_si oY hfx (by decide) (by decide)), fun i k _ _ => by unfold tn; rw [yv_si oY hd (by decide) hfx, yv_si hO hd (by decide) hfx], fun e => by rw [yv_si oY hd (by decide) hfx, yv_si hO hd (by decide) hfx], fun _ => rfl, by rw [zi_si_j (by decide), zi_si_j (by decide)]⟩
    have hC : CHN (zsi (zsi A 111 3 (-1)) 111 4 (-1)) t [] := by
      refine ⟨by simp, fun i hi => (by cases hi), fun i hi _ => ?_, fun k hk => absurd hk (Nat.not_lt_zero k), ?_, ?_⟩
      · unfold tn
        rw [yv_si oY hd (by decide) hfx, yv_si hO hd (by decide) hfx]
        exact hk i hi
      · rw [zi_si_j (by decide), zi_si_s]; decide
      · rw [zi_si_s]; decide
    unfold z_Wk_saidTheSame_25
    obtain ⟨B, b1, b2⟩ := said_run hN hs rfl rfl l1 l2 ht hl s1.2.1.length 0 N [] _ (by omega) (by omega) (h.lk LX) hC (fun j hj => (by cases hj)) (fun k hk hlt => by omega)
    exact ⟨B, b1, LX.trans b2⟩
  · rw [cif_neg hs, if_pos rfl, cif_neg (fun z => hs z.1)]
    exact ⟨A, rfl, LKF.refl h.1⟩
end
