/-! WHILE of the reference: turn and found -/
/-- the state without its places -/
def RC (A : zA) (w sc dp lv t : Nat) (D : Nat → T) (s : St) : Prop := RTh A t D ∧ RSd A w t D s.2.1 ∧ RWy A t D s.2.2.1 ∧ RFl A sc dp lv s.2.2.2.1 s.2.2.2.2.1 ∧ RCc A w t D s.2.2.2.2.2 ∧ 0 ≤ ri A 261 w ∧ ri A 261 w ≤ 61 * s.2.2.2.1 ∧ 0 ≤ s.2.2.2.2.1
section
variable {N w sc dp lv t : Nat} {A B : zA} {D : Nat → T} {s : St}
theorem RW.rc (h : RW A w sc dp lv t D s) : RC A w sc dp lv t D s := by
  obtain ⟨h1, h2, h3⟩ := h
  exact ⟨h1, h3⟩
theorem RC.rw (h : RC A w sc dp lv t D s) {f : Nat → T} (hp : RPl A dp t D f) : RW A w sc dp lv t D (f, s.2) := by
  obtain ⟨h1, h3⟩ := h
  exact ⟨h1, hp, h3⟩
/-- places alone, or rows the state doesn't speak of -/
theorem RC.pf {Q : Nat → Nat → Prop} (h : RC A w sc dp lv t D s) (f : fr Q A B) (hq : ∀ a j, Q a j → qP dp a j ∨ a = 263 ∨ (269 ≤ a ∧ a ≤ 283)) : RC B w sc dp lv t D s := by
  obtain ⟨h1, h3, h4, h5, h6, h7, h8, h9⟩ := h
  have e : ∀ a e, 226 < a → ¬ (a = 263 ∨ (267 ≤ a ∧ a ≤ 283)) → ri B a e = ri A a e := fun a e h0 ha => f.e (fun z => by
    rcases hq _ _ z with q | q
    · unfold qP at q; omega
    · omega)
  have i : ∀ j, j ≠ 63 → zi B 226 j = zi A 226 j := fun j hj => f.i (fun z => by
    rcases hq _ _ z with q | q
    · unfold qP at q; omega
    · omega)
  have r := Nat.le_refl t
  refine ⟨h1.fr f (fun a j z => ?_), h3.mono (e _ _ (by omega) (by omega)) (fun _ => e _ _ (by omega) (by omega)) r (fun _ _ => rfl), h4.mono (i _ (by omega)) (fun _ _ => e _ _ (by omega) (by omega)) r (fun _ _ => rfl), ?_, h6.mono (by rw [e 261 _ (by omega) (by omega)]; omega) (fun c _ => ⟨e _ _ (by omega) (by omega), e _ _ (by omega) (by omega), e _ _ (by omega) (by omega)⟩) (fun _ _ _ _ _ => e _ _ (by omega) (by omega)) r (fun _ _ => rfl), by rw [e 261 _ (by omega) (by omega)]; exact h7, by rw [e 261 _ (by omega) (by omega)]; exact h8, h9⟩
  · unfold qT
    rcases hq _ _ z with q | q
    · unfold qP at q; omega
    · omega
  · unfold RFl
    rw [i 62 (by omega), i 66 (by omega), i 80 (by omega), i 64 (by omega), i 65 (by omega)]
    exact h5
theorem RC.upd {sc' dp' lv' : Nat} {f : Nat → T} {W I : Int} (h : RC A w sc dp lv t D s) (g : fr qC A B) (hF : RFl B sc' dp' lv' W I) (hW : ri A 261 w ≤ 61 * W) (hI : 0 ≤ I) : RC B w sc' dp' lv' t D (f, s.2.1, s.2.2.1, W, I, s.2.2.2.2.2) := by
  obtain ⟨h1, h3, h4, h5, h6, h7, h8, h9⟩ := h
  have e : ∀ a e, 226 < a → ri B a e = ri A a e := fun a e ha => g.e (fun z => by unfold qC at z; omega)
  have r := Nat.le_refl t
  exact ⟨h1.fr g (fun a j z => by unfold qC at z; unfold qT; omega), h3.mono (e _ _ (by omega)) (fun _ => e _ _ (by omega)) r (fun _ _ => rfl), h4.mono (g.i (fun z => by unfold qC at z; omega)) (fun _ _ => e _ _ (by omega)) r (fun _ _ => rfl), hF, h6.mono (by rw [e 261 _ (by omega)]; omega) (fun c _ => ⟨e _ _ (by omega), e _ _ (by omega), e _ _ (by omega)⟩) (fun _ _ _ _ _ => e _ _ (by omega)) r (fun _ _ => rfl), by rw [e 261 _ (by omega)]; exact h7, by rw [e 261 _ (by omega)]; exact hW, hI⟩
theorem c_take_278 {l : Nat} {f : Nat → T} (hN : 300000 ≤ N) (h : RC A w sc dp (l + 1) t D s) (hd3 : dp ≤ 3) (hl : l < 30) (hv : SV A 278 l t D f) : ∃ B, z_M_takeUp_278 N A = some B ∧ RW B w sc dp (l + 1) t D (f, s.2) ∧ fr (qP dp) A B := by
  obtain ⟨B, b1, b2, b3, b4⟩ := take_278_run (N := N) hd3 hl 61 0 N A (by omega) (by omega) h.2.2.2.1.1 (by have := h.2.2.2.1.2.1; omega)
  refine ⟨B, b1, (h.pf b2 (fun a j q => Or.inl q)).rw (fun i hi => ?_), b2⟩
  rw [b3 i (by omega) hi]
  exact hv i hi
/-- things given back: what was there before is there -/
theorem RSd.down {t' : Nat} {D' : Nat → T} {S : List (Int × Option T)} {A0 : zA} (h : RSd A0 w t D S) (h' : RSd A w t' D' S) (hi : ∀ i j, i < t' → j < t' → D' i = D' j → i = j) (ht : t ≤ t') (hD : ∀ i, i < t → D' i = D i) : RSd A w t D S := by
  obtain ⟨L, l1, l2, l3⟩ := h
  obtain ⟨M, m1, m2, m3⟩ := h'
  have hLM : L = M := by
    have hlen : L.length = M.length := by
      have := congrArg List.length l1
      rw [m1, List.length_map, List.length_map] at this
      exact this.symm
    apply List.ext_getElem hlen
    intro i h1 h2
    have e : (L.map (fun q => (q.1, q.2.map D)))[i]'(by rw [List.length_map]; exact h1) = (M.map (fun q => (q.1, q.2.map D')))[i]'(by rw [List.length_map]; exact h2) := by
      have : L.map (fun q => (q.1, q.2.map D)) = M.map (fun q => (q.1, q.2.map D')) := by rw [← l1, ← m1]
      simp only [this]
    rw [List.getElem_map, List.getElem_map] at e
    have q1 := l2 _ (List.getElem_mem h1)
    have q2 := m2 _ (List.getElem_mem h2)
    generalize L[i] = x at *
    generalize M[i] = y at *
    obtain ⟨x1, x2⟩ := x
    obtain ⟨y1, y2⟩ := y
    simp only [Prod.mk.injEq] at e
    obtain ⟨e1, e2⟩ := e
    cases x2 with
    | none =>
      cases y2 with
      | none => rw [e1]
      | some v => cases e2
    | some u =>
      cases y2 with
      | none => cases e2
      | some v =>
        have e3 : D u = D' v := Option.some.inj e2
        have hu := q1.2.2 u rfl
        have := hi u v (by omega) (q2.2.2 v rfl) (by rw [hD u hu]; exact e3)
        rw [e1, this]
  subst hLM
  exact ⟨L, l1, l2, m3⟩
theorem RWy.down {t' : Nat} {D' : Nat → T} {l : List (Int × T)} {A0 : zA} (h : RWy A0 t D l) (h' : RWy A t' D' l) (hi : ∀ i j, i < t' → j < t' → D' i = D' j → i = j) (ht : t ≤ t') (hD : ∀ i, i < t → D' i = D i) : RWy A t D l := ⟨h'.1, fun k hk => by
  obtain ⟨j, j1, j2, j3, j4⟩ := h.2 k hk
  obtain ⟨u, u1, u2, u3, u4⟩ := h'.2 k hk
  have : u = j := hi u j u1 (by omega) (by rw [u3, hD j j1, j3])
  subst this
  exact ⟨u, j1, u2, j3, j4⟩⟩
theorem ix.down {t' : Nat} {D' : Nat → T} {x y : Int} {u : T} (h : ix t D x u) (h' : ix t' D' y u) (hi : ∀ i j, i < t' → j < t' → D' i = D' j → i = j) (ht : t ≤ t') (hD : ∀ i, i < t → D' i = D i) : ix t D y u := by
  obtain ⟨j, j1, j2, j3⟩ := h
  obtain ⟨v, v1, v2, v3⟩ := h'
  have : v = j := hi v j v1 (by omega) (by rw [v3, hD j j1, j3])
  subst this
  exact ⟨v, j1, v2, j3⟩
theorem RCc.down {t' : Nat} {D' : Nat → T} {l : List (Int × Nat × T × T)} {A0 : zA} (h : RCc A0 w t D l) (h' : RCc A w t' D' l) (hi : ∀ i j, i < t' → j < t' → D' i = D' j → i = j) (ht : t ≤ t') (hD : ∀ i, i < t → D' i = D i) : RCc A w t D l := fun q hq => by
  obtain ⟨jt, c, q1, q2, q3, q4, q5, q6, q7⟩ := h q hq
  obtain ⟨jv, c', r1, r2, r3, r4, r5, r6, r7⟩ := h' q hq
  have : jv = jt := hi jv jt r1 (by omega) (by rw [r2, hD jt q1, q2])
  subst this
  exact ⟨jv, c', q1, q2, r3, r4, q5.down r5 hi ht hD, q6.down r6 hi ht hD, r7⟩
/-- turn's circling ones -/
theorem turn_run {l : Nat} {S : Nat → Bool} {f0 : Nat → T} {W : Int} (hN : 300000 ≤ N) (hd : dp ≤ 3) (hl : l < 30) (hW0 : 0 ≤ W) (hW : W < 30000) : ∀ (r k fu t : Nat) (D : Nat → T) (A : zA), k + r = 61 → r < fu → t + r < 16000 → s.2.2.2.1 = W → MKS A l S → RW A w sc dp (l + 1) t D (fun i => if i < k ∧ S i = true then tCir W i else f0 i, s.2) → ∃ (B : zA) (t' : Nat) (D' : Nat → T), z_M_turn_37_l N fu k A = some B ∧ RW B w sc dp (l + 1) t' D' (fun i => if S i then tCir W i else f0 i, s.2.1, s.2.2.1, W + 1, s.2.2.2.2) ∧ t ≤ t' ∧ t' ≤ t + r ∧ (∀ i, i < t → D' i = D i) ∧ fr (qX w dp s.2.2.1.length) A B := by
  intro r
  induction r with
  | zero =>
    intro k fu t D A h1 h2 h3 hs hM h
    obtain ⟨u, rfl⟩ : ∃ u, fu = u + 1 := ⟨fu - 1, by omega⟩
    have h64 : zi A 226 64 = W := by have := h.2.2.2.2.1.2.2.2.1; rw [← hs]; exact this
    have f1 : fr qC A (zsi A 226 64 (W + 1)) := fr_si ⟨rfl, Or.inr (Or.inl (by omega))⟩
    have f1' : fr (qX w dp s.2.2.1.length) A (zsi A 226 64 (W + 1)) := fr_si (Or.inr (Or.inr (Or.inr ⟨rfl, Or.inl rfl⟩)))
    have e64 : zi (zsi A 226 64 (W + 1)) 226 64 = W + 1 := by rw [zi_si_s, yb_w (by omega) (by omega)]
    have eo : ∀ j, j ≠ 64 → zi (zsi A 226 64 (W + 1)) 226 j = zi A 226 j := fun j hj => zi_si_j hj
    have ee : ∀ a e, 226 < a → ri (zsi A 226 64 (W + 1)) a e = ri A a e := fun a e ha => ri_si_o (by omega)
    refine ⟨zsi A 226 64 (W + 1), t, D, ?_, ?_, by omega, by omega, fun _ _ => rfl, f1'⟩
    · show z_M_turn_37_b (z_M_turn_37_l N u) N k A = _
      unfold z_M_turn_37_b
      rw [if_neg (by omega), zlet_s, h64]
    · generalize zsi A 226 64 (W + 1) = B at *
      have q : RPl B dp t D (fun i => if i < k ∧ S i = true then tCir W i else f0 i) := h.2.1.mono (fun i hi => by
        unfold rpl
        rw [eo 63 (by omega), ee 267 _ (by omega), ee 268 _ (by omega)]) (Nat.le_refl _) (fun _ _ => rfl)
      refine h.upd f1 ?_ (fun i hi => ?_) ?_ h.2.2.2.2.2.2.2.2
      · have := h.2.2.2.2.1
        unfold RFl at this ⊢
        rw [eo 62 (by omega), eo 66 (by omega), eo 80 (by omega), e64, eo 65 (by omega)]
        exact ⟨this.1, this.2.1, this.2.2.1, rfl, this.2.2.2.2⟩
      · have := q i hi
        dsimp only at this ⊢
        by_cases c : S i = true
        · rw [if_pos ⟨by omega, c⟩] at this; rw [if_pos c]; exact this
        · rw [if_neg (fun z => c z.2)] at this; rw [if_neg c]; exact this
      · have := h.2.2.2.2.2.2.2.1
        dsimp only at this
        omega
  | succ r ih =>
    intro k fu t D A h1 h2 h3 hs hM h
    obtain ⟨u, rfl⟩ : ∃ u, fu = u + 1 := ⟨fu - 1, by omega⟩
    have w1 : zw ((k : Int) + 1) = ((k + 1 : Nat) : Int) := by rw [yb_w (by omega) (by omega)]; omega
    have h64 : zi A 226 64 = W := by have := h.2.2.2.2.1.2.2.2.1; rw [← hs]; exact this
    have h66 : zi A 226 66 = (l : Int) + 1 := by have := h.2.2.2.2.1.2.1; omega
    have st : z_M_turn_37_l N (u + 1) k A = z_M_turn_37_b (z_M_turn_37_l N u) N k A := rfl
    unfold z_M_turn_37_b at st
    rw [if_pos (by omega), M_circles h66 hl hM (by omega), zbP_s, w1, h64] at st
    by_cases c : S k = true
    · rw [if_pos c, if_neg (by decide)] at st
      obtain ⟨j, t1, A1, D1, c1, c2, c3, c4, c5, c6, c7, c8⟩ := r_make (k := 6) (x := W) (y := k) (z := 0) hN h.1 (by omega) (Or.inr (Or.inr (Or.inr (Or.inr (Or.inr (Or.inr (Or.inr ⟨rfl, rfl⟩))))))) (by decide) (by decide) (yb_w (by omega) (by omega)) (yb_w (by omega) (by omega)) zwi0
      have c4 : D1 j = tCir W k := c4
      obtain ⟨A2, d1, d2, d3⟩ := r_set (N := N) (r := k) (h.th c8 c2 c5 c7) hd (by omega) c3 c4
      rw [c1, zbI_s, d1, zbV_s] at st
      have hM2 : MKS A2 l S := fun i hi => by
        rw [d3.l (fun q => by unfold qP at q; omega), c8.l (fun q => by unfold qT at q; omega)]
        exact hM i hi
      obtain ⟨B, t', D', b1, b2, b3, b4, b5, b6⟩ := ih (k + 1) u t1 D1 A2 (by omega) (by omega) (by omega) hs hM2 (d2.same (f := fun i => if i < k + 1 ∧ S i = true then tCir W i else f0 i) (fun i hi => by
        show _ = (if i = k then tCir W k else if i < k ∧ S i = true then tCir W i else f0 i)
        by_cases z : i = k
        · rw [if_pos z, if_pos ⟨by omega, by rw [z]; exact c⟩, z]
        · rw [if_neg z]
          by_cases z2 : i < k ∧ S i = true
          · rw [if_pos z2, if_pos ⟨by omega, z2.2⟩]
          · rw [if_neg z2, if_neg (fun q => z2 ⟨by omega, q.2⟩)]) rfl)
      exact ⟨B, t', D', by rw [st, b1], b2, by omega, by omega, fun i hi => by rw [b5 i (by omega), c7 i hi], ((c8.mono (fun a j q => Or.inl q)).trans (d3.mono (fun a j q => Or.inr (Or.inl q)))).trans b6⟩
    · rw [if_neg c, if_pos rfl] at st
      obtain ⟨B, t', D', b1, b2, b3, b4, b5, b6⟩ := ih (k + 1) u t D A (by omega) (by omega) (by omega) hs hM (h.same (f := fun i => if i < k + 1 ∧ S i = true then tCir W i else f0 i) (fun i hi => by
        dsimp only
        by_cases z2 : i < k ∧ S i = true
        · rw [if_pos z2, if_pos ⟨by omega, z2.2⟩]
        · rw [if_neg z2, if_neg (fun q => z2 ⟨by have : i ≠ k := fun y => c (by rw [← y]; exact q.2); omega, q.2⟩)]) rfl)
      exact ⟨B, t', D', by rw [st, b1], b2, b3, by omega, b5, b6⟩
/-- a turn -/
theorem r_turn {l : Nat} {S : Nat → Bool} {f0 : Nat → T} {W I : Int} (hN : 300000 ≤ N) (hd : dp ≤ 3) (hl : l < 30) (hW0 : 0 ≤ W) (hW : W < 30000) (hI0 : 0 ≤ I) (hI : I < 30000) (ht : t + 61 < 16000) (h : RC A w sc dp (l + 1) t D s) (hv : SV A 278 l t D f0) (h1 : ri A 281 l = W) (h2 : ri A 282 l = I) (hM : MKS A l S) (hc : ri A 261 w ≤ 61 * W) : ∃ (B : zA) (t' : Nat) (D' : Nat → T), z_M_turn N A = some B ∧ RW B w sc dp (l + 1) t' D' (sBeg W S (f0, s.2.1, s.2.2.1, W, I, s.2.2.2.2.2)) ∧ t ≤ t' ∧ t' ≤ t + 61 ∧ (∀ i, i < t → D' i = D i) ∧ fr (qX w dp s.2.2.1.length) A B := by
  have h66 : zi A 226 66 = (l : Int) + 1 := by have := h.2.2.2.1.2.1; omega
  have wl : zw ((l : Int) + 1 - 1) = l := by rw [yb_w (by omega) (by omega)]; omega
  obtain ⟨A1, b1, b2, b3⟩ := c_take_278 hN h hd hl hv
  unfold z_M_turn
  have e1 : ∀ a e, 268 < a → ri A1 a e = ri A a e := fun a e ha => b3.e (fun z => by unfold qP at z; omega)
  rw [b1, zbV_s, h66, wl, zrd_ok (by omega) (by omega), e1 281 _ (by omega), h1, zlet_s, zrd_ok (by omega) (by omega), ri_si_o (by decide), e1 282 _ (by omega), h2, zlet_s]
  have hM1 : MKS A1 l S := fun i hi => by rw [b3.l (fun q => by unfold qP at q; omega)]; exact hM i hi
  have f2 : fr qC A1 (zsi (zsi A1 226 64 W) 226 65 I) := (fr_si ⟨rfl, Or.inr (Or.inl (by omega))⟩).trans (fr_si ⟨rfl, Or.inr (Or.inl (by omega))⟩)
  have f2' : fr (qX w dp s.2.2.1.length) A1 (zsi (zsi A1 226 64 W) 226 65 I) := (fr_si (Or.inr (Or.inr (Or.inr ⟨rfl, Or.inl rfl⟩)))).trans (fr_si (Or.inr (Or.inr (Or.inr ⟨rfl, Or.inr rfl⟩))))
  have e64 : zi (zsi (zsi A1 226 64 W) 226 65 I) 226 64 = W := by rw [zi_si_j (by decide), zi_si_s, yb_w (by omega) (by omega)]
  have e65 : zi (zsi (zsi A1 226 64 W) 226 65 I) 226 65 = I := by rw [zi_si_s, yb_w (by omega) (by omega)]
  have eo : ∀ j, j ≠ 64 → j ≠ 65 → zi (zsi (zsi A1 226 64 W) 226 65 I) 226 j = zi A1 226 j := fun j h4 h5 => by rw [zi_si_j h5, zi_si_j h4]
  have ee : ∀ a e, 226 < a → ri (zsi (zsi A1 226 64 W) 226 65 I) a e = ri A1 a e := fun a e ha => by rw [ri_si_o (by omega), ri_si_o (by omega)]
  have hM2 : MKS (zsi (zsi A1 226 64 W) 226 65 I) l S := hM1
  generalize zsi (zsi A1 226 64 W) 226 65 I = A2 at *
  have h2' : RW A2 w sc dp (l + 1) t D (f0, s.2.1, s.2.2.1, W, I, s.2.2.2.2.2) := by
    refine b2.upd f2 ?_ (b2.2.1.mono (fun i hi => ?_) (Nat.le_refl _) (fun _ _ => rfl)) (by rw [b3.e (fun z => by unfold qP at z; omega)]; exact hc) hI0
    · have := b2.2.2.2.2.1
      unfold RFl at this ⊢
      rw [eo 62 (by omega) (by omega), eo 66 (by omega) (by omega), eo 80 (by omega) (by omega), e64, e65]
      exact ⟨this.1, this.2.1, this.2.2.1, rfl, rfl⟩
    · unfold rpl
      rw [eo 63 (by omega) (by omega), ee 267 _ (by omega), ee 268 _ (by omega)]
  obtain ⟨B, t', D', c1, c2, c3, c4, c5, c6⟩ := turn_run (s := (f0, s.2.1, s.2.2.1, W, I, s.2.2.2.2.2)) (S := S) (f0 := f0) (W := W) hN hd hl hW0 hW 61 0 N t D A2 (by omega) (by omega) (by omega) rfl hM2 (h2'.same (f := fun i => if i < 0 ∧ S i = true then tCir W i else f0 i) (fun i hi => by dsimp only; rw [if_neg (by omega)]) rfl)
  rw [show ((0 : Nat) : Int) = 0 from rfl] at c1
  unfold z_M_turn_37
  exact ⟨B, t', D', c1, c2, c3, c4, c5, ((b3.mono (fun a j q => Or.inr (Or.inl q))).trans f2').trans c6⟩
end
