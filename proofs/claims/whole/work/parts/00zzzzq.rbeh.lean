/-! the reference's expressions: what comes behind; the whole of it -/
def RSb (Tx : Nat → Int) (L p b : Nat) (B : zA) (v : Int) (o : Option (Nat × Mq)) : Prop := (o = none → RXf L p b B) ∧ ∀ w q, o = some (w, q) → (w = 1 ∧ v = 0 ∧ RXx Tx L p b B 0 q) ∨ (w = 0 ∧ v = 1 ∧ RXx Tx L p b B 1 q) ∨ (w = 2 ∧ v = 2 ∧ RXx Tx L p b B 1 q ∧ q.1 = [])
section
variable {N : Nat} {Tx : Nat → Int} {L p b d : Nat} {mb : Bool} {A B : zA} {q : Mq} {X : List It} {g : Nat} {σ π : List Int} {s : Ps}
theorem prd_at {k : Int} : ∀ (σ π : List Int) (s : Ps), (prd k σ π s).2.2.1 = s.1
  | [], π, s => rfl
  | o :: σ, [], s => rfl
  | o :: σ, [y], s => rfl
  | o :: σ, y :: x :: π, s => by
    show (if 10 ≤ o ∧ k ≤ str (o - 10) then prd k σ ((twk (o - 10) x y s).1 :: π) (twk (o - 10) x y s).2 else (o :: σ, y :: x :: π, s)).2.2.1 = s.1
    split
    · rw [prd_at σ]; rfl
    · rfl
theorem rx_close {o : Int} (hL : L ≤ 120) (h : RXx Tx L p b A 1 (o :: σ, π, s)) (ho : o = 1 ∨ o = 2) (hl : s.1 < L) : RXx Tx L p (b + 3) (zsi (zsi (zsi A 226 19 (zi A 226 19 - 1)) 226 21 (zi (zsi A 226 19 (zi A 226 19 - 1)) 226 21 - 1)) 226 13 (zi (zsi (zsi A 226 19 (zi A 226 19 - 1)) 226 21 (zi (zsi A 226 19 (zi A 226 19 - 1)) 226 21 - 1)) 226 13 + 1)) 1 (σ, π, tav s) ∧ fr (qXp p) A (zsi (zsi (zsi A 226 19 (zi A 226 19 - 1)) 226 21 (zi (zsi A 226 19 (zi A 226 19 - 1)) 226 21 - 1)) 226 13 (zi (zsi (zsi A 226 19 (zi A 226 19 - 1)) 226 21 (zi (zsi A 226 19 (zi A 226 19 - 1)) 226 21 - 1)) 226 13 + 1)) := by
  obtain ⟨t1, t2, t3⟩ := rx_top hL h
  obtain ⟨ht, ⟨k1, k2, k3, k4, k5, k6, k7, k8, k9⟩, ⟨a1, a2, a3, a4, a5, a6, a7⟩⟩ := h
  have k2 : stk A 235 (o :: σ) := k2
  have k5 : zi A 226 21 = nst (o :: σ) := k5
  have k5' : zi A 226 21 = 1 + (nst σ : Int) := by
    rw [k5]
    show (((if o < 10 then 1 else 0) + nst σ : Nat) : Int) = _
    rw [if_pos (by omega)]
    omega
  have k6 : π.length = pn (o :: σ) + 1 := k6
  have k6' : π.length = pn σ + 1 := by
    rw [k6]
    show (if o = 1 ∨ o = 2 then 0 else 1) + pn σ + 1 = _
    rw [if_pos ho]
    omega
  have k9 : σ.length + 1 ≤ s.1 := k9
  have a2 : zi A 226 13 = s.1 := a2
  have a5 : s.2.1.length + (σ.length + 1) + b ≤ 2 * s.1 := a5
  have a4 : RP A (4 + p) s.2.1 s.2.2 := a4
  have hn := nst_le σ
  have v19 : zi (zsi A 226 19 (zi A 226 19 - 1)) 226 19 = (σ.length : Int) := by rw [zi_si_s, t1, yb_w (by omega) (by omega)]; omega
  have v21 : zi (zsi (zsi A 226 19 (zi A 226 19 - 1)) 226 21 (zi (zsi A 226 19 (zi A 226 19 - 1)) 226 21 - 1)) 226 21 = (nst σ : Int) := by rw [zi_si_s, zi_si_j (by decide), k5', yb_w (by omega) (by omega)]; omega
  have v13 : zi (zsi (zsi A 226 19 (zi A 226 19 - 1)) 226 21 (zi (zsi A 226 19 (zi A 226 19 - 1)) 226 21 - 1)) 226 13 = (s.1 : Int) := by rw [zi_si_j (by decide), zi_si_j (by decide)]; exact a2
  have w13 : zi (zsi (zsi (zsi A 226 19 (zi A 226 19 - 1)) 226 21 (zi (zsi A 226 19 (zi A 226 19 - 1)) 226 21 - 1)) 226 13 (zi (zsi (zsi A 226 19 (zi A 226 19 - 1)) 226 21 (zi (zsi A 226 19 (zi A 226 19 - 1)) 226 21 - 1)) 226 13 + 1)) 226 13 = (s.1 : Int) + 1 := by rw [zi_si_s, v13, yb_w (by omega) (by omega)]
  have w19 : zi (zsi (zsi (zsi A 226 19 (zi A 226 19 - 1)) 226 21 (zi (zsi A 226 19 (zi A 226 19 - 1)) 226 21 - 1)) 226 13 (zi (zsi (zsi A 226 19 (zi A 226 19 - 1)) 226 21 (zi (zsi A 226 19 (zi A 226 19 - 1)) 226 21 - 1)) 226 13 + 1)) 226 19 = (σ.length : Int) := by rw [zi_si_j (by decide), zi_si_j (by decide)]; exact v19
  have w21 : zi (zsi (zsi (zsi A 226 19 (zi A 226 19 - 1)) 226 21 (zi (zsi A 226 19 (zi A 226 19 - 1)) 226 21 - 1)) 226 13 (zi (zsi (zsi A 226 19 (zi A 226 19 - 1)) 226 21 (zi (zsi A 226 19 (zi A 226 19 - 1)) 226 21 - 1)) 226 13 + 1)) 226 21 = (nst σ : Int) := by rw [zi_si_j (by decide)]; exact v21
  have ff : fr (fun a j => a = 226 ∧ (j = 13 ∨ j = 19 ∨ j = 21)) A (zsi (zsi (zsi A 226 19 (zi A 226 19 - 1)) 226 21 (zi (zsi A 226 19 (zi A 226 19 - 1)) 226 21 - 1)) 226 13 (zi (zsi (zsi A 226 19 (zi A 226 19 - 1)) 226 21 (zi (zsi A 226 19 (zi A 226 19 - 1)) 226 21 - 1)) 226 13 + 1)) := ((fr_si ⟨rfl, by omega⟩).trans (fr_si ⟨rfl, by omega⟩)).trans (fr_si ⟨rfl, by omega⟩)
  generalize zsi (zsi (zsi A 226 19 (zi A 226 19 - 1)) 226 21 (zi (zsi A 226 19 (zi A 226 19 - 1)) 226 21 - 1)) 226 13 (zi (zsi (zsi A 226 19 (zi A 226 19 - 1)) 226 21 (zi (zsi A 226 19 (zi A 226 19 - 1)) 226 21 - 1)) 226 13 + 1) = C at *
  refine ⟨⟨ht.fr ff (fun z => by omega) (fun z => by omega) (fun j z => by omega), ⟨w19, stk_fr k2.2 ff (fun j z => by omega), by rw [ff.i (fun z => by omega)]; exact k3, stk_fr k4 ff (fun j z => by omega), w21, k6', fun o' ho' => k7 o' (List.mem_cons_of_mem _ ho'), k8, ?_⟩, ⟨by rw [ff.i (fun z => by omega)]; exact a1, ?_, hl, a4.fr (by omega) ff (fun a j z q => by rw [z.1] at q; exact nqRo226 q), ?_, a6, a7⟩⟩, ff.mono (fun a j z => Or.inl ⟨z.1, by omega⟩)⟩
  · show σ.length ≤ s.1 + 1
    omega
  · rw [w13]
    show (s.1 : Int) + 1 = ((s.1 + 1 : Nat) : Int)
    omega
  · show s.2.1.length + σ.length + (b + 3) ≤ 2 * (s.1 + 1)
    omega
theorem rx_get {y : Int} (hL : L ≤ 120) (hp : p < 4) (h : RXx Tx L p (b + 1) A 1 (σ, y :: π, s)) : ∃ B, RXx Tx L p b B 1 (σ, (tge y s).1 :: π, (tge y s).2) ∧ fr (qXp p) A B ∧ ∀ {R : Type} (K : zA → Option R), (zbI (z_M_fresh N A) fun v10 A11 => zrd A11 236 128 ((zi A11 226 20) - 1) fun v12 => zbV (z_M_emit N 1 (zi A11 226 14) 3 v10 v12 0 0 A11) fun A13 => zwr A13 236 128 ((zi A13 226 20) - 1) v10 K) = K B := by
  obtain ⟨ht, hk, ⟨a1, a2, a3, a4, a5, a6, a7⟩⟩ := h
  have a3 : s.1 ≤ L := a3
  have a4 : RP A (4 + p) s.2.1 s.2.2 := a4
  have a5 : s.2.1.length + σ.length + (b + 1) ≤ 2 * s.1 := a5
  have a6 : s.2.2 ≤ 7 + s.2.1.length := a6
  have a7 : 7 ≤ s.2.2 := a7
  obtain ⟨g1, g2, g3⟩ := r_fresh (n := N) hp ht.2.2 a4 (by omega)
  generalize rs A 230 ((4 + p : Nat) : Int) ((s.2.2 : Int) + 1) = A1 at *
  have t1 : zi A1 226 14 = p := by rw [g3.i nqRo226]; exact ht.2.2
  obtain ⟨k1, k2, k3, k4, k5, k6, k7, k8, k9⟩ := hk
  have k3 : zi A 226 20 = (π.length : Int) + 1 := k3
  have k4 : stk A 236 (y :: π) := k4
  have k6 : π.length + 1 = pn σ + 1 := k6
  have k9 : σ.length ≤ s.1 := k9
  have hpl := pn_le σ
  have ry := k8 y List.mem_cons_self
  have e20 : zi A1 226 20 = (π.length : Int) + 1 := by rw [g3.i nqRo226]; exact k3
  have s1 : stk A1 236 (y :: π) := stk_fr k4 g3 (fun j => nqRo (by omega))
  obtain ⟨C, c1, c2, c3⟩ := RP_emit (N := N) (x3 := 3) (x4 := (s.2.2 : Int)) (x5 := y) (x6 := 0) (x7 := 0) hp g2 (by omega) (by decide) (w300 (by omega) (by omega)) (w300 ry.1 (by omega)) (by decide) (by decide)
  have e20' : zi C 226 20 = (π.length : Int) + 1 := by rw [c3.i nqRo226]; exact e20
  have s2 : stk C 236 π := stk_fr s1.2 c3 (fun j => nqRo (by omega))
  have f4 : fr (fun a _ => a = 236) C (rs C 236 (π.length : Int) (s.2.2 : Int)) := fr_rs rfl
  have s3 : stk (rs C 236 (π.length : Int) (s.2.2 : Int)) 236 ((s.2.2 : Int) :: π) := stk_push s2 (w300 (by omega) (by omega))
  have fA : fr (fun a j => a = 236 ∨ qRo (4 + p) a j) A (rs C 236 (π.length : Int) (s.2.2 : Int)) := ((g3.mono (fun a j z => Or.inr z)).trans (c3.mono (fun a j z => Or.inr z))).trans (f4.mono (fun a j z => Or.inl z))
  have nF : ∀ a j, a = 226 ∨ a = 227 ∨ a = 235 → ¬ (a = 236 ∨ qRo (4 + p) a j) := fun a j ha z => by
    rcases z with z | z
    · omega
    · exact nqRo (by omega) z
  refine ⟨_, ⟨ht.fr fA (nF _ _ (by omega)) (nF _ _ (by omega)) (fun j => nF _ _ (by omega)), ⟨by rw [fA.i (nF _ _ (by omega))]; exact k1, stk_fr k2 fA (fun j => nF _ _ (by omega)), by rw [fA.i (nF _ _ (by omega)), k3]; rfl, s3, by rw [fA.i (nF _ _ (by omega))]; exact k5, k6, k7, ?_, k9⟩, ⟨by rw [fA.i (nF _ _ (by omega))]; exact a1, by rw [fA.i (nF _ _ (by omega))]; exact a2, a3, RP.fr c2 (by show (s.2.1 ++ [(3, (s.2.2 : Int), y, 0, 0)]).length ≤ 240; rw [List.length_append]; simp only [List.length_cons, List.length_nil]; omega) f4 (fun a j z q => by rw [z] at q; exact nqRo (by omega) q), ?_, ?_, ?_⟩⟩, fA.mono (fun a j z => ?_), fun K => ?_⟩
  · intro x hx
    rcases List.mem_cons.mp hx with e | e
    · rw [e]
      show (0 : Int) ≤ (s.2.2 : Int) ∧ (s.2.2 : Int) ≤ 300
      omega
    · exact k8 x (List.mem_cons_of_mem _ e)
  · show (s.2.1 ++ [(3, (s.2.2 : Int), y, 0, 0)]).length + σ.length + b ≤ 2 * s.1
    rw [List.length_append]
    simp only [List.length_cons, List.length_nil]
    omega
  · show s.2.2 + 1 ≤ 7 + (s.2.1 ++ [(3, (s.2.2 : Int), y, 0, 0)]).length
    rw [List.length_append]
    simp only [List.length_cons, List.length_nil]
    omega
  · show 7 ≤ s.2.2 + 1
    omega
  · rcases z with z | z
    · exact Or.inr (Or.inr (Or.inl z))
    · exact Or.inr (Or.inr (Or.inr z))
  · rw [g1, zbI_s, e20, t1, zrd_ok (by omega) (by omega), show (π.length : Int) + 1 - 1 = (π.length : Int) by omega, s1.1, c1, zbV_s, e20', zwr_ok (by omega) (by omega), show (π.length : Int) + 1 - 1 = (π.length : Int) by omega]
theorem r_246 (hN : 300000 ≤ N) (hL : L ≤ 120) (hp : p < 4) (h : RXx Tx L p b A 1 (σ, π, s)) : ∃ B, z_M_behind_246 N A = some (1, B) ∧ fr (qXp p) A B ∧ RXx Tx L p b B 1 (pwh σ π s) := by
  unfold z_M_behind_246
  have k9 : σ.length ≤ s.1 := h.2.1.2.2.2.2.2.2.2.2
  have a3 : s.1 ≤ L := h.2.2.2.2.1
  obtain ⟨B, b1, b2, b3⟩ := r_whole (N := N) hL hp N σ π s A (by omega) h
  unfold z_M_whole z_M_whole_0
  rw [b1, zbV_s]
  exact ⟨B, rfl, b3, b2⟩
theorem r_131 (hN : 300000 ≤ N) (hT : TXT Tx L) (hp : p < 4) (h : RXx Tx L p b A 1 (σ, π, s)) : ∃ v B, z_M_behind_131 N (if Tx s.1 = 41 then 1 else if Tx s.1 = 93 then 2 else 0) A = some (v, B) ∧ fr (qXp p) A B ∧ RSb Tx L p b B v (mcl Tx (σ, π, s)) := by
  have hL := hT.1
  unfold z_M_behind_131
  have bad : mcl Tx (σ, π, s) = none → ∃ v B, (zlet (zsi A 226 16 1) fun A3 => some ((2 : Int), A3)) = some (v, B) ∧ fr (qXp p) A B ∧ RSb Tx L p b B v (mcl Tx (σ, π, s)) := fun e => by
    rw [zlet_s, e]
    exact ⟨_, _, rfl, fr_si (Or.inl ⟨rfl, by omega⟩), ⟨fun _ => h.2.2.fail hL h.1, fun w q z => by cases z⟩⟩
  rcases σ with _ | ⟨o, σ⟩
  · have k1 : zi A 226 19 = 0 := h.2.1.1
    rw [if_pos k1]
    refine ⟨2, A, rfl, fr.refl _ _, ⟨fun z => (by cases z), fun w q z => ?_⟩⟩
    cases z
    exact Or.inr (Or.inr ⟨rfl, rfl, h, rfl⟩)
  · obtain ⟨t1, t2, t3⟩ := rx_top hL h
    rw [if_neg (by omega)]
    have em : mcl Tx (o :: σ, π, s) = if Tx s.1 = 41 ∧ o = 1 then some (0, pwh σ π (tav s)) else if Tx s.1 = 93 ∧ o = 2 then (match π with
        | y :: π' => some (0, pwh σ ((tge y (tav s)).1 :: π') (tge y (tav s)).2)
        | [] => none) else none := rfl
    have hpi : ∃ y π', π = y :: π' := by
      have k6 : π.length = pn (o :: σ) + 1 := h.2.1.2.2.2.2.2.1
      rcases π with _ | ⟨y, π'⟩
      · simp only [List.length_nil] at k6; omega
      · exact ⟨y, π', rfl⟩
    by_cases c41 : Tx s.1 = 41
    · rw [if_pos c41, if_neg (by decide), zrd_ok (by omega) (by omega), show zi A 226 19 - 1 = (σ.length : Int) by omega, t2]
      by_cases co : o = 1
      · rw [if_pos co, zlet_s, zlet_s, zlet_s, if_neg (by decide)]
        obtain ⟨c1, c2⟩ := rx_close hL h (Or.inl co) (hT.lt (k := s.1) (by rw [c41]; decide))
        rw [show zi A 226 19 - 1 = (σ.length : Int) by omega] at c1 c2
        obtain ⟨B, b1, b2, b3⟩ := r_246 hN hL hp c1
        rw [b1, em, if_pos ⟨c41, co⟩]
        refine ⟨1, B, rfl, c2.trans b2, ⟨fun z => (by cases z), fun w q z => ?_⟩⟩
        cases z
        exact Or.inr (Or.inl ⟨rfl, rfl, b3.mono (by omega)⟩)
      · rw [if_neg co]
        exact bad (by rw [em, if_neg (fun z => co z.2), if_neg (fun z => by omega)])
    · rw [if_neg c41]
      by_cases c93 : Tx s.1 = 93
      · rw [if_pos c93, if_neg (by decide), zrd_ok (by omega) (by omega), show zi A 226 19 - 1 = (σ.length : Int) by omega, t2]
        by_cases co : o = 2
        · rw [if_pos co, zlet_s, zlet_s, zlet_s, if_pos rfl]
          obtain ⟨c1, c2⟩ := rx_close hL h (Or.inr co) (hT.lt (k := s.1) (by rw [c93]; decide))
          rw [show zi A 226 19 - 1 = (σ.length : Int) by omega] at c1 c2
          obtain ⟨y, π', rfl⟩ := hpi
          obtain ⟨C, d1, d2, d3⟩ := rx_get (N := N) hL hp c1
          rw [d3]
          obtain ⟨B, b1, b2, b3⟩ := r_246 hN hL hp d1
          rw [b1, em, if_neg (fun z => c41 z.1), if_pos ⟨c93, co⟩]
          refine ⟨1, B, rfl, (c2.trans d2).trans b2, ⟨fun z => (by cases z), fun w q z => ?_⟩⟩
          cases z
          exact Or.inr (Or.inl ⟨rfl, rfl, b3.mono (by omega)⟩)
        · rw [if_neg co]
          exact bad (by rw [em, if_neg (fun z => c41 z.1), if_neg (fun z => co z.2)])
      · rw [if_neg c93, if_pos rfl]
        exact bad (by rw [em, if_neg (fun z => c41 z.1), if_neg (fun z => c93 z.1)])
theorem r_31 {op : Int} (hN : 300000 ≤ N) (hT : TXT Tx L) (hp : p < 4) (h : RXx Tx L p b A 1 (σ, π, s)) (ho : opc (Tx s.1) = op) (h0 : 0 ≤ op) : ∃ v B, z_M_behind_31 N op (mkk op) A = some (v, B) ∧ fr (qXp p) A B ∧ RSb Tx L p b B v (mop op (prd (mkk op) σ π s)) := by
  have hL := hT.1
  have h5 : op ≤ 5 := by rcases opc_cases (Tx s.1) with z | z | z | z | z | z | z <;> omega
  have hlt : s.1 < L := hT.lt (k := s.1) (by rcases opc_cases (Tx s.1) with z | z | z | z | z | z | z <;> omega)
  have k9 : σ.length ≤ s.1 := h.2.1.2.2.2.2.2.2.2.2
  obtain ⟨C, c1, c2, c3⟩ := r_reduce (N := N) (k := mkk op) hL hp N σ π s A (by omega) h
  unfold z_M_behind_31 z_M_reduce z_M_reduce_0
  rw [c1, zbV_s, r_str, zbP_s]
  have hat : (prd (mkk op) σ π s).2.2.1 = s.1 := prd_at σ π s
  generalize prd (mkk op) σ π s = q1 at *
  obtain ⟨σ1, π1, s1⟩ := q1
  have hat : s1.1 = s.1 := hat
  have lay : ∀ D : zA, fr (fun a j => a = 226 ∧ j = 16) C D → ∃ B, z_M_behind_70 N op D = some (0, B) ∧ fr (qXp p) C B ∧ (zi D 226 16 = 0 → RXx Tx L p b B 0 ((10 + op) :: σ1, π1, tav s1)) ∧ (zi D 226 16 = 1 → RXf L p b B) := fun D fD => by
    obtain ⟨ht, ⟨k1, k2, k3, k4, k5, k6, k7, k8, k9⟩, ⟨a1, a2, a3, a4, a5, a6, a7⟩⟩ := c2
    have k1 : zi C 226 19 = (σ1.length : Int) := k1
    have k2 : stk C 235 σ1 := k2
    have k6 : π1.length = pn σ1 + 1 := k6
    have k9 : σ1.length ≤ s1.1 := k9
    have a2 : zi C 226 13 = (s1.1 : Int) := a2
    have a3 : s1.1 ≤ L := a3
    have a4 : RP C (4 + p) s1.2.1 s1.2.2 := a4
    have a5 : s1.2.1.length + σ1.length + b ≤ 2 * s1.1 := a5
    unfold z_M_behind_70
    have d19 : zi D 226 19 = (σ1.length : Int) := by rw [fD.i (fun z => by omega)]; exact k1
    have d13 : zi D 226 13 = (s1.1 : Int) := by rw [fD.i (fun z => by omega)]; exact a2
    rw [d19, zwr_ok (by omega) (by omega), zlet_s, zlet_s, zi_rs_o (by decide), d19, zi_si_j (by decide), zi_rs_o (by decide), d13]
    have s1' : stk (rs D 235 (σ1.length : Int) (10 + op)) 235 ((10 + op) :: σ1) := stk_push (stk_fr k2 fD (fun j z => by omega)) (w300 (by omega) (by omega))
    have f2 : fr (fun a j => a = 226 ∧ (j = 13 ∨ j = 19)) (rs D 235 (σ1.length : Int) (10 + op)) (zsi (zsi (rs D 235 (σ1.length : Int) (10 + op)) 226 19 ((σ1.length : Int) + 1)) 226 13 ((s1.1 : Int) + 1)) := (fr_si ⟨rfl, by omega⟩).trans (fr_si ⟨rfl, by omega⟩)
    have w19 : zi (zsi (zsi (rs D 235 (σ1.length : Int) (10 + op)) 226 19 ((σ1.length : Int) + 1)) 226 13 ((s1.1 : Int) + 1)) 226 19 = (σ1.length : Int) + 1 := by rw [zi_si_j (by decide), zi_si_s, yb_w (by omega) (by omega)]
    have w13 : zi (zsi (zsi (rs D 235 (σ1.length : Int) (10 + op)) 226 19 ((σ1.length : Int) + 1)) 226 13 ((s1.1 : Int) + 1)) 226 13 = (s1.1 : Int) + 1 := by rw [zi_si_s, yb_w (by omega) (by omega)]
    have f1 : fr (fun a _ => a = 235) D (rs D 235 (σ1.length : Int) (10 + op)) := fr_rs rfl
    have ff : fr (fun a j => a = 235 ∨ (a = 226 ∧ (j = 13 ∨ j = 16 ∨ j = 19))) C (zsi (zsi (rs D 235 (σ1.length : Int) (10 + op)) 226 19 ((σ1.length : Int) + 1)) 226 13 ((s1.1 : Int) + 1)) := ((fD.mono (fun a j z => Or.inr ⟨z.1, by omega⟩)).trans (f1.mono (fun a j z => Or.inl z))).trans (f2.mono (fun a j z => Or.inr ⟨z.1, by omega⟩))
    have w16 : zi (zsi (zsi (rs D 235 (σ1.length : Int) (10 + op)) 226 19 ((σ1.length : Int) + 1)) 226 13 ((s1.1 : Int) + 1)) 226 16 = zi D 226 16 := by rw [zi_si_j (by decide), zi_si_j (by decide), zi_rs_o (by decide)]
    generalize zsi (zsi (rs D 235 (σ1.length : Int) (10 + op)) 226 19 ((σ1.length : Int) + 1)) 226 13 ((s1.1 : Int) + 1) = E at *
    refine ⟨E, rfl, ff.mono (fun a j z => ?_), fun e0 => ⟨ht.fr ff (fun z => by omega) (fun z => by omega) (fun j z => by omega), ⟨by rw [w19]; rfl, stk_fr s1' f2 (fun j z => by omega), by rw [ff.i (fun z => by omega)]; exact k3, stk_fr k4 ff (fun j z => by omega), ?_, ?_, ?_, k8, ?_⟩, ⟨by rw [w16]; exact e0, ?_, ?_, a4.fr (by omega) ff (fun a j z q => ?_), ?_, a6, a7⟩⟩, fun e1 => ⟨by rw [w16]; exact e1, by rw [ff.i (fun z => by omega)]; exact ht.1, by rw [w13]; omega, by rw [ff.i (fun z => by omega)]; exact ht.2.2, ?_, ?_⟩⟩
    · rcases z with z | z
      · exact Or.inr (Or.inl z)
      · exact Or.inl ⟨z.1, by omega⟩
    · rw [ff.i (fun z => by omega)]
      show zi C 226 21 = ((nst ((10 + op) :: σ1) : Nat) : Int)
      rw [nst_op h0]
      exact k5
    · show π1.length = (if 10 + op = 1 ∨ 10 + op = 2 then 0 else 1) + pn σ1 + 0
      rw [if_neg (by omega)]
      omega
    · intro o' ho'
      rcases List.mem_cons.mp ho' with e | e
      · rw [e]; omega
      · exact k7 o' e
    · show σ1.length + 1 ≤ s1.1 + 1
      omega
    · rw [w13]
      show (s1.1 : Int) + 1 = ((s1.1 + 1 : Nat) : Int)
      omega
    · show s1.1 + 1 ≤ L
      omega
    · rcases z with z | z
      · rw [z] at q; exact nqRo (by omega) q
      · rw [z.1] at q; exact nqRo226 q
    · show s1.2.1.length + (σ1.length + 1) + b ≤ 2 * (s1.1 + 1)
      omega
    · rw [ff.e (fun z => by omega), a4.1]; omega
    · rw [ff.e (fun z => by omega), a4.1]; omega
  have good : ¬ (str op = 1 ∧ 14 ≤ σ1.headD 0) → ∃ v B, z_M_behind_70 N op C = some (v, B) ∧ fr (qXp p) A B ∧ RSb Tx L p b B v (mop op (σ1, π1, s1)) := fun c => by
    obtain ⟨B, b1, b2, b3, b4⟩ := lay C (fr.refl _ _)
    refine ⟨0, B, b1, c3.trans b2, ?_⟩
    have e : mop op (σ1, π1, s1) = some (1, ((10 + op) :: σ1, π1, tav s1)) := if_neg c
    rw [e]
    refine ⟨fun z => (by cases z), fun w q z => ?_⟩
    cases z
    exact Or.inl ⟨rfl, rfl, b3 c2.2.2.1⟩
  by_cases cs : str op = 1
  · rw [if_pos cs]
    rcases σ1 with _ | ⟨o, σ2⟩
    · have k1 : zi C 226 19 = 0 := c2.2.1.1
      rw [if_neg (by omega)]
      exact good (fun z => absurd z.2 (by decide))
    · obtain ⟨t1, t2, t3⟩ := rx_top hL c2
      rw [if_pos (by omega), zrd_ok (by omega) (by omega), show zi C 226 19 - 1 = (σ2.length : Int) by omega, t2]
      by_cases c14 : o < 14
      · rw [if_pos c14]
        exact good (fun z => by have : 14 ≤ o := z.2; omega)
      · rw [if_neg c14, zlet_s]
        obtain ⟨B, b1, b2, b3, b4⟩ := lay (zsi C 226 16 1) (fr_si ⟨rfl, rfl⟩)
        refine ⟨0, B, b1, c3.trans b2, ?_⟩
        have e : mop op (o :: σ2, π1, s1) = none := if_pos ⟨cs, by show 14 ≤ o; omega⟩
        rw [e]
        exact ⟨fun _ => b4 (by rw [zi_si_s]; decide), fun w q z => by cases z⟩
  · rw [if_neg cs]
    exact good (fun z => cs z.1)
theorem r_behind (hN : 300000 ≤ N) (hT : TXT Tx L) (hp : p < 4) (h : RXx Tx L p b A 1 (σ, π, s)) : ∃ v B, z_M_behind N A = some (v, B) ∧ fr (qXp p) A B ∧ RSb Tx L p b B v (mbe Tx (σ, π, s)) := by
  have hL := hT.1
  have a2 : zi A 226 13 = s.1 := h.2.2.2.1
  have a3 : s.1 ≤ L := h.2.2.2.2.1
  have k9 : σ.length ≤ s.1 := h.2.1.2.2.2.2.2.2.2.2
  unfold z_M_behind
  rw [r_look hT h.1.1 h.1.2.1 a2, zbP_s, r_opc, zbP_s]
  have em : mbe Tx (σ, π, s) = if opc (Tx s.1) < 0 then mcl Tx (prd 1 σ π s) else mop (opc (Tx s.1)) (prd (mkk (opc (Tx s.1))) σ π s) := rfl
  rw [em]
  by_cases c : opc (Tx s.1) < 0
  · rw [if_pos c, if_pos c]
    obtain ⟨C, c1, c2, c3⟩ := r_reduce (N := N) (k := 1) hL hp N σ π s A (by omega) h
    unfold z_M_reduce z_M_reduce_0
    rw [c1, zbV_s]
    have hat : (prd 1 σ π s).2.2.1 = s.1 := prd_at σ π s
    generalize prd 1 σ π s = q1 at *
    obtain ⟨σ1, π1, s1⟩ := q1
    have hat : s1.1 = s.1 := hat
    obtain ⟨v, B, b1, b2, b3⟩ := r_131 hN hT hp c2
    refine ⟨v, B, ?_, c3.trans b2, b3⟩
    rw [← b1, hat]
    by_cases c41 : Tx s.1 = 41
    · rw [if_pos c41, if_pos c41]
    · rw [if_neg c41, if_neg c41]
      split <;> rfl
  · rw [if_neg c, if_neg c, r_str, zbP_s]
    have hk : mkk (opc (Tx s.1)) = if str (opc (Tx s.1)) = 1 then 2 else str (opc (Tx s.1)) := by
      unfold mkk
      rw [if_neg c]
    obtain ⟨v, B, b1, b2, b3⟩ := r_31 hN hT hp h rfl (by omega)
    refine ⟨v, B, ?_, b2, b3⟩
    rw [← b1]
    by_cases c1 : str (opc (Tx s.1)) = 1
    · rw [if_pos c1, hk, if_pos c1]
    · rw [if_neg c1, zbP_s, hk, if_neg c1]
/-- each step reads a letter -/
theorem mfa_at {u : Nat × Mq} (hT : TXT Tx L) (hL : s.1 ≤ L) (h : mfa Tx mb (σ, π, s) = some u) : s.1 < u.2.2.2.1 := by
  unfold mfa at h
  split at h
  · next c =>
    cases h
    have g5 := (tdg_rg hT 5 0 s.1 (by decide) hL).2.2.2.2 (by decide) c.1 c.2
    show s.1 < (pwh _ _ _).2.2.1
    rw [pwh_at]
    exact g5
  · split at h
    · cases h
      show s.1 < (pwh _ _ _).2.2.1
      rw [pwh_at]
      show s.1 < s.1 + 1
      omega
    · split at h
      · cases h
        show s.1 < (pwh _ _ _).2.2.1
        rw [pwh_at]
        show s.1 < s.1 + 1
        omega
      · split at h
        · split at h
          · cases h; show s.1 < s.1 + 1; omega
          · split at h
            · cases h; show s.1 < s.1 + 1 + 1; omega
            · split at h
              · cases h; show s.1 < s.1 + 1; omega
              · cases h
        · cases h
theorem mcl_at {q : Mq} {u : Nat × Mq} (h : mcl Tx q = some u) (h2 : u.1 ≠ 2) : q.2.2.1 < u.2.2.2.1 := by
  obtain ⟨σ, π, s⟩ := q
  rcases σ with _ | ⟨o, σ⟩
  · cases h; exact absurd rfl h2
  · have em : mcl Tx (o :: σ, π, s) = if Tx s.1 = 41 ∧ o = 1 then some (0, pwh σ π (tav s)) else if Tx s.1 = 93 ∧ o = 2 then (match π with
        | y :: π' => some (0, pwh σ ((tge y (tav s)).1 :: π') (tge y (tav s)).2)
        | [] => none) else none := rfl
    rw [em] at h
    split at h
    · cases h
      show s.1 < (pwh _ _ _).2.2.1
      rw [pwh_at]
      show s.1 < s.1 + 1
      omega
    · split at h
      · rcases π with _ | ⟨y, π'⟩
        · cases h
        · cases h
          show s.1 < (pwh _ _ _).2.2.1
          rw [pwh_at]
          show s.1 < s.1 + 1
          omega
      · cases h
theorem mbe_at {u : Nat × Mq} (h : mbe Tx (σ, π, s) = some u) (h2 : u.1 ≠ 2) : s.1 < u.2.2.2.1 := by
  have em : mbe Tx (σ, π, s) = if opc (Tx s.1) < 0 then mcl Tx (prd 1 σ π s) else mop (opc (Tx s.1)) (prd (mkk (opc (Tx s.1))) σ π s) := rfl
  rw [em] at h
  split at h
  · have := mcl_at h h2
    rw [prd_at] at this
    exact this
  · unfold mop at h
    split at h
    · cases h
    · cases h
      show s.1 < (prd _ σ π s).2.2.1 + 1
      rw [prd_at]
      omega
end
