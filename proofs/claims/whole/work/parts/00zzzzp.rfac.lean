/-! the reference's expressions: factors and operators -/
section
variable {N : Nat} {Tx : Nat → Int} {L p b d : Nat} {mb : Bool} {A B : zA} {q : Mq} {X : List It} {g : Nat} {σ π : List Int} {s : Ps}
theorem r_look {a : Nat} (hT : TXT Tx L) (h1 : zi A 226 1 = L) (h7 : ∀ k : Nat, k < L → ri A 227 k = Tx k) (ha : zi A 226 13 = a) : z_M_look N A = some (Tx a) := by
  have := hT.1
  unfold z_M_look
  by_cases c : zi A 226 13 < zi A 226 1
  · rw [if_pos c, zrd_ok (by omega) (by omega), ha, h7 a (by omega)]
  · rw [if_neg c, hT.2.2 a (by omega)]
theorem r_dig (c : Int) : z_M_isDigit N c A = some (if 48 ≤ c ∧ c ≤ 57 then 1 else 0) := by
  unfold z_M_isDigit
  by_cases c1 : c < 48
  · rw [if_pos c1, if_neg (by omega)]
  · rw [if_neg c1]
    by_cases c2 : 57 < c
    · rw [if_pos c2, if_neg (by omega)]
    · rw [if_neg c2, if_pos (by omega)]
theorem r_isv (c : Int) : z_M_isVariable N c A = some (if 97 ≤ c ∧ c ≤ 102 then 1 else 0) := by
  unfold z_M_isVariable
  by_cases c1 : c < 97
  · rw [if_pos c1, if_neg (by omega)]
  · rw [if_neg c1]
    by_cases c2 : 102 < c
    · rw [if_pos c2, if_neg (by omega)]
    · rw [if_neg c2, if_pos (by omega)]
theorem r_opc (c : Int) : z_M_operatorOf N c A = some (opc c) := by
  unfold z_M_operatorOf opc
  repeat' split
  all_goals first | rfl | omega
theorem RXx.mono {b' : Nat} (h : RXx Tx L p b A d q) (hb : b' ≤ b) : RXx Tx L p b' A d q := ⟨h.1, h.2.1, by
  obtain ⟨a1, a2, a3, a4, a5, a6, a7⟩ := h.2.2
  exact ⟨a1, a2, a3, a4, by omega, a6, a7⟩⟩
theorem RXf.mono {b' : Nat} (h : RXf L p b A) (hb : b' ≤ b) : RXf L p b' A := ⟨h.1, h.2.1, h.2.2.1, h.2.2.2.1, h.2.2.2.2.1, by have := h.2.2.2.2.2; omega⟩
/-- the place in the text goes on by one -/
theorem RPa.at {n : Nat} (h : RPa L p b A s n) (hl : s.1 < L) (hL : L ≤ 120) : RPa L p (b + 2) (zsi A 226 13 (zi A 226 13 + 1)) (tav s) n := by
  obtain ⟨a1, a2, a3, a4, a5, a6, a7⟩ := h
  have f : fr (fun a j => a = 226 ∧ j = 13) A (zsi A 226 13 (zi A 226 13 + 1)) := fr_si ⟨rfl, rfl⟩
  have a5' : s.2.1.length + n + b ≤ 2 * s.1 := a5
  refine ⟨by rw [zi_si_j (by decide)]; exact a1, ?_, hl, a4.fr (by omega) f (fun a j z q => by rw [z.1] at q; exact nqRo226 q), ?_, a6, a7⟩
  · rw [zi_si_s, a2, yb_w (by omega) (by omega)]
    show (s.1 : Int) + 1 = ((s.1 + 1 : Nat) : Int)
    omega
  · show s.2.1.length + n + (b + 2) ≤ 2 * (s.1 + 1)
    omega
theorem f_at : fr (fun a j => a = 226 ∧ j = 13) A (zsi A 226 13 (zi A 226 13 + 1)) := fr_si ⟨rfl, rfl⟩
theorem RSk.fr {F : Nat → Nat → Prop} {s' : Ps} (h : RSk A (σ, π, s) d) (f : fr F A B) (h1 : ∀ j, 19 ≤ j → j ≤ 21 → ¬ F 226 j) (h2 : ∀ j, ¬ F 235 j) (h3 : ∀ j, ¬ F 236 j) (hs : s.1 ≤ s'.1) : RSk B (σ, π, s') d := by
  obtain ⟨k1, k2, k3, k4, k5, k6, k7, k8, k9⟩ := h
  have k9 : σ.length ≤ s.1 := k9
  exact ⟨by rw [f.i (h1 19 (by omega) (by omega))]; exact k1, stk_fr k2 f h2, by rw [f.i (h1 20 (by omega) (by omega))]; exact k3, stk_fr k4 f h3, by rw [f.i (h1 21 (by omega) (by omega))]; exact k5, k6, k7, k8, by show σ.length ≤ s'.1; omega⟩
theorem rx_at (hL : L ≤ 120) (h : RXx Tx L p b A d (σ, π, s)) (hl : s.1 < L) : RXx Tx L p (b + 2) (zsi A 226 13 (zi A 226 13 + 1)) d (σ, π, tav s) := ⟨h.1.fr f_at (fun z => by omega) (fun z => by omega) (fun j z => by omega), RSk.fr h.2.1 f_at (fun j j1 j2 z => by omega) (fun j z => by omega) (fun j z => by omega) (by show s.1 ≤ s.1 + 1; omega), h.2.2.at hl hL⟩
theorem RPa.fail {n : Nat} (hL : L ≤ 120) (ht : RTx Tx L p A) (h : RPa L p b A s n) : RXf L p b (zsi A 226 16 1) := by
  obtain ⟨a1, a2, a3, a4, a5, a6, a7⟩ := h
  refine ⟨by rw [zi_si_s]; decide, by rw [zi_si_j (by decide)]; exact ht.1, by rw [zi_si_j (by decide), a2]; omega, by rw [zi_si_j (by decide)]; exact ht.2.2, ?_, ?_⟩
  · rw [ri_si_o (by decide), a4.1]; omega
  · rw [ri_si_o (by decide), a4.1]; omega
theorem RPa.atfail {n : Nat} (hL : L ≤ 120) (ht : RTx Tx L p A) (h : RPa L p b A s n) : RXf L p b (zsi (zsi A 226 13 (zi A 226 13 + 1)) 226 16 1) := by
  obtain ⟨a1, a2, a3, a4, a5, a6, a7⟩ := h
  have e : zi (zsi (zsi A 226 13 (zi A 226 13 + 1)) 226 16 1) 226 13 = (s.1 : Int) + 1 := by rw [zi_si_j (by decide), zi_si_s, a2, yb_w (by omega) (by omega)]
  refine ⟨by rw [zi_si_s]; decide, by rw [zi_si_j (by decide), zi_si_j (by decide)]; exact ht.1, by rw [e]; omega, by rw [zi_si_j (by decide), zi_si_j (by decide)]; exact ht.2.2, ?_, ?_⟩
  · rw [ri_si_o (by decide), ri_si_o (by decide), a4.1]; omega
  · rw [ri_si_o (by decide), ri_si_o (by decide), a4.1]; omega
theorem RXf.fr {F : Nat → Nat → Prop} (h : RXf L p b A) (f : fr F A B) (h1 : ∀ j, j = 1 ∨ j = 13 ∨ j = 14 ∨ j = 16 → ¬ F 226 j) (h2 : ∀ j, ¬ F 229 j) : RXf L p b B := ⟨by rw [f.i (h1 16 (by omega))]; exact h.1, by rw [f.i (h1 1 (by omega))]; exact h.2.1, by rw [f.i (h1 13 (by omega))]; exact h.2.2.1, by rw [f.i (h1 14 (by omega))]; exact h.2.2.2.1, by rw [f.e (h2 _)]; exact h.2.2.2.2.1, by rw [f.e (h2 _)]; exact h.2.2.2.2.2⟩
theorem rx_push {v : Int} (hL : L ≤ 120) (h : RXx Tx L p b A 0 (σ, π, s)) (hv : 0 ≤ v ∧ v ≤ 300) : ∃ B, z_M_push N v A = some B ∧ RXx Tx L p b B 1 (σ, v :: π, s) ∧ fr (qXp p) A B ∧ zi B 226 20 = (π.length : Int) + 1 ∧ zi B 226 14 = p ∧ ri B 236 (π.length : Int) = v := by
  obtain ⟨ht, ⟨k1, k2, k3, k4, k5, k6, k7, k8, k9⟩, ⟨a1, a2, a3, a4, a5, a6, a7⟩⟩ := h
  have k3 : zi A 226 20 = (π.length : Int) := k3
  have k6 : π.length = pn σ + 0 := k6
  have k9 : σ.length ≤ s.1 := k9
  have a3 : s.1 ≤ L := a3
  have hpl := pn_le σ
  have a4' : RP A (4 + p) s.2.1 s.2.2 := a4
  have a5' : s.2.1.length + σ.length + b ≤ 2 * s.1 := a5
  unfold z_M_push
  rw [k3, zwr_ok (by omega) (by omega), zlet_s, zi_rs_o (by decide), k3]
  have f1 : fr (fun a _ => a = 236) A (rs A 236 (π.length : Int) v) := fr_rs rfl
  have s1 : stk (rs A 236 (π.length : Int) v) 236 (v :: π) := stk_push k4 (w300 hv.1 (by omega))
  have f2 : fr (fun a j => a = 226 ∧ j = 20) (rs A 236 (π.length : Int) v) (zsi (rs A 236 (π.length : Int) v) 226 20 ((π.length : Int) + 1)) := fr_si ⟨rfl, rfl⟩
  have e20 : zi (zsi (rs A 236 (π.length : Int) v) 226 20 ((π.length : Int) + 1)) 226 20 = (π.length : Int) + 1 := by rw [zi_si_s, yb_w (by omega) (by omega)]
  have fX : fr (qXp p) A (zsi (rs A 236 (π.length : Int) v) 226 20 ((π.length : Int) + 1)) := (f1.mono (fun a j z => Or.inr (Or.inr (Or.inl z)))).trans (f2.mono (fun a j z => Or.inl ⟨z.1, by omega⟩))
  have ff : fr (fun a j => a = 236 ∨ (a = 226 ∧ j = 20)) A (zsi (rs A 236 (π.length : Int) v) 226 20 ((π.length : Int) + 1)) := (f1.mono (fun a j z => Or.inl z)).trans (f2.mono (fun a j z => Or.inr z))
  generalize zsi (rs A 236 (π.length : Int) v) 226 20 ((π.length : Int) + 1) = B at *
  have s2 : stk B 236 (v :: π) := stk_fr s1 f2 (fun j z => by omega)
  refine ⟨B, rfl, ⟨ht.fr ff (fun z => by omega) (fun z => by omega) (fun j z => by omega), ⟨by rw [ff.i (fun z => by omega)]; exact k1, stk_fr k2 ff (fun j z => by omega), by rw [e20]; rfl, s2, by rw [ff.i (fun z => by omega)]; exact k5, ?_, k7, ?_, k9⟩, ⟨by rw [ff.i (fun z => by omega)]; exact a1, by rw [ff.i (fun z => by omega)]; exact a2, a3, a4'.fr (by omega) ff (fun a j z q => ?_), a5, a6, a7⟩⟩, fX, e20, by rw [ff.i (fun z => by omega)]; exact ht.2.2, s2.1⟩
  · show π.length + 1 = pn σ + 1
    omega
  · intro x hx
    rcases List.mem_cons.mp hx with e | e
    · rw [e]; exact hv
    · exact k8 x e
  · rcases z with z | z
    · rw [z] at q; exact nqRo (by omega) q
    · rw [z.1] at q; exact nqRo226 q
/-- a constant -/
theorem rx_const {v : Int} (hL : L ≤ 120) (hp : p < 4) (h : RXx Tx L p (b + 1) A 0 (σ, π, s)) (hv : 0 ≤ v ∧ v ≤ 99999) : ∃ B, RXx Tx L p b B 1 (σ, (tcn v s).1 :: π, (tcn v s).2) ∧ fr (qXp p) A B ∧ ∀ {R : Type} (K : zA → Option R), (zbI (z_M_fresh N A) fun v1 A2 => zbV (z_M_push N v1 A2) fun A3 => zrd A3 236 128 ((zi A3 226 20) - 1) fun v4 => zbV (z_M_emit N 1 (zi A3 226 14) 0 v4 v 0 0 A3) K) = K B := by
  have h0 := h
  obtain ⟨ht, hk, ⟨a1, a2, a3, a4, a5, a6, a7⟩⟩ := h
  have a3 : s.1 ≤ L := a3
  have a4 : RP A (4 + p) s.2.1 s.2.2 := a4
  have a5 : s.2.1.length + σ.length + (b + 1) ≤ 2 * s.1 := a5
  have a6 : s.2.2 ≤ 7 + s.2.1.length := a6
  have a7 : 7 ≤ s.2.2 := a7
  obtain ⟨g1, g2, g3⟩ := r_fresh (n := N) hp ht.2.2 a4 (by omega)
  generalize rs A 230 ((4 + p : Nat) : Int) ((s.2.2 : Int) + 1) = A1 at *
  have h1 : RXx Tx L p b A1 0 (σ, π, (s.1, s.2.1, s.2.2 + 1)) ∨ True := Or.inr trivial
  have ht1 : RTx Tx L p A1 := ht.fr g3 nqRo226 nqRo226 (fun j => nqRo (by omega))
  have hk1 : RSk A1 (σ, π, s) 0 := RSk.fr hk g3 (fun j _ _ => nqRo226) (fun j => nqRo (by omega)) (fun j => nqRo (by omega)) (Nat.le_refl _)
  -- push
  obtain ⟨k1, k2, k3, k4, k5, k6, k7, k8, k9⟩ := hk1
  have k3 : zi A1 226 20 = (π.length : Int) := k3
  have k6 : π.length = pn σ + 0 := k6
  have k9 : σ.length ≤ s.1 := k9
  have hpl := pn_le σ
  have f1 : fr (fun a _ => a = 236) A1 (rs A1 236 (π.length : Int) (s.2.2 : Int)) := fr_rs rfl
  have s1 : stk (rs A1 236 (π.length : Int) (s.2.2 : Int)) 236 ((s.2.2 : Int) :: π) := stk_push k4 (w300 (by omega) (by omega))
  have f2 : fr (fun a j => a = 226 ∧ j = 20) (rs A1 236 (π.length : Int) (s.2.2 : Int)) (zsi (rs A1 236 (π.length : Int) (s.2.2 : Int)) 226 20 ((π.length : Int) + 1)) := fr_si ⟨rfl, rfl⟩
  have e20 : zi (zsi (rs A1 236 (π.length : Int) (s.2.2 : Int)) 226 20 ((π.length : Int) + 1)) 226 20 = (π.length : Int) + 1 := by rw [zi_si_s, yb_w (by omega) (by omega)]
  have pu : z_M_push N (s.2.2 : Int) A1 = some (zsi (rs A1 236 (π.length : Int) (s.2.2 : Int)) 226 20 ((π.length : Int) + 1)) := by
    unfold z_M_push
    rw [k3, zwr_ok (by omega) (by omega), zlet_s, zi_rs_o (by decide), k3]
  have ff : fr (fun a j => a = 236 ∨ (a = 226 ∧ j = 20)) A1 (zsi (rs A1 236 (π.length : Int) (s.2.2 : Int)) 226 20 ((π.length : Int) + 1)) := (f1.mono (fun a j z => Or.inl z)).trans (f2.mono (fun a j z => Or.inr z))
  generalize zsi (rs A1 236 (π.length : Int) (s.2.2 : Int)) 226 20 ((π.length : Int) + 1) = A2 at *
  have s2 : stk A2 236 ((s.2.2 : Int) :: π) := stk_fr s1 f2 (fun j z => by omega)
  have x2 : RP A2 (4 + p) s.2.1 (s.2.2 + 1) := g2.fr (by omega) ff (fun a j z q => by
    rcases z with z | z
    · rw [z] at q; exact nqRo (by omega) q
    · rw [z.1] at q; exact nqRo226 q)
  have t2 : zi A2 226 14 = p := by rw [ff.i (fun z => by omega)]; exact ht1.2.2
  obtain ⟨C, c1, c2, c3⟩ := RP_emit (N := N) (x3 := 0) (x4 := (s.2.2 : Int)) (x5 := v) (x6 := 0) (x7 := 0) hp x2 (by omega) (by decide) (w300 (by omega) (by omega)) (w300 hv.1 hv.2) (by decide) (by decide)
  have fA : fr (fun a j => a = 236 ∨ (a = 226 ∧ j = 20) ∨ qRo (4 + p) a j) A C := ((g3.mono (fun a j z => Or.inr (Or.inr z))).trans (ff.mono (fun a j z => by rcases z with z | z; exact Or.inl z; exact Or.inr (Or.inl z)))).trans (c3.mono (fun a j z => Or.inr (Or.inr z)))
  have nF : ∀ j, j ≠ 20 → ¬ ((226 = 236) ∨ (226 = 226 ∧ j = 20) ∨ qRo (4 + p) 226 j) := fun j hj z => by
    rcases z with z | z | z
    · omega
    · omega
    · exact nqRo226 z
  have nF' : ∀ a j, a = 227 ∨ a = 235 → ¬ ((a = 236) ∨ (a = 226 ∧ j = 20) ∨ qRo (4 + p) a j) := fun a j ha z => by
    rcases z with z | z | z
    · omega
    · omega
    · exact nqRo (by omega) z
  obtain ⟨l1, l2, l3, l4, l5, l6, l7, l8, l9⟩ := hk
  refine ⟨C, ⟨ht.fr fA (nF _ (by decide)) (nF _ (by decide)) (fun j => nF' _ _ (Or.inl rfl)), ⟨by rw [fA.i (nF _ (by decide))]; exact l1, stk_fr l2 fA (fun j => nF' _ _ (Or.inr rfl)), by rw [c3.i nqRo226, e20]; rfl, stk_fr s2 c3 (fun j => nqRo (by omega)), by rw [fA.i (nF _ (by decide))]; exact l5, ?_, l7, ?_, k9⟩, ⟨by rw [fA.i (nF _ (by decide))]; exact a1, by rw [fA.i (nF _ (by decide))]; exact a2, a3, c2, ?_, ?_, ?_⟩⟩, fA.mono (fun a j z => ?_), fun K => ?_⟩
  · show π.length + 1 = pn σ + 1
    omega
  · intro x hx
    rcases List.mem_cons.mp hx with e | e
    · rw [e]
      show (0 : Int) ≤ (s.2.2 : Int) ∧ (s.2.2 : Int) ≤ 300
      omega
    · exact k8 x e
  · show (s.2.1 ++ [(0, (s.2.2 : Int), v, 0, 0)]).length + σ.length + b ≤ 2 * s.1
    rw [List.length_append]
    simp only [List.length_cons, List.length_nil]
    omega
  · show s.2.2 + 1 ≤ 7 + (s.2.1 ++ [(0, (s.2.2 : Int), v, 0, 0)]).length
    rw [List.length_append]
    simp only [List.length_cons, List.length_nil]
    omega
  · show 7 ≤ s.2.2 + 1
    omega
  · rcases z with z | z | z
    · exact Or.inr (Or.inr (Or.inl z))
    · exact Or.inl ⟨z.1, by omega⟩
    · exact Or.inr (Or.inr (Or.inr z))
  · rw [g1, zbI_s, pu, zbV_s, e20, t2, zrd_ok (by omega) (by omega), show (π.length : Int) + 1 - 1 = (π.length : Int) by omega, s2.1, c1, zbV_s]
theorem nst_le : ∀ τ : List Int, nst τ ≤ τ.length
  | [] => Nat.le_refl _
  | e :: τ => by
    have := nst_le τ
    show (if e < 10 then 1 else 0) + nst τ ≤ τ.length + 1
    split <;> omega
/-- a bracket opens -/
theorem rx_open {o : Int} (hL : L ≤ 120) (h : RXx Tx L p (b + 1) A d (σ, π, s)) (ho : (o = 0 ∧ d = 1) ∨ (o = 1 ∧ d = 0) ∨ (o = 2 ∧ d = 0)) (hl : σ.length < s.1) : ∃ B, z_M_opens N o A = some B ∧ fr (qXp p) A B ∧ (nst σ < 5 → RXx Tx L p b B 0 (o :: σ, π, s)) ∧ (¬ nst σ < 5 → RXf L p b B) := by
  have h0 := h
  obtain ⟨ht, ⟨k1, k2, k3, k4, k5, k6, k7, k8, k9⟩, ⟨a1, a2, a3, a4, a5, a6, a7⟩⟩ := h
  have k1 : zi A 226 19 = (σ.length : Int) := k1
  have k5 : zi A 226 21 = (nst σ : Int) := k5
  have k6 : π.length = pn σ + d := k6
  have a3 : s.1 ≤ L := a3
  have a4 : RP A (4 + p) s.2.1 s.2.2 := a4
  have a5 : s.2.1.length + σ.length + (b + 1) ≤ 2 * s.1 := a5
  have hn := nst_le σ
  unfold z_M_opens
  rw [k1, zwr_ok (by omega) (by omega), zlet_s, zlet_s, zi_rs_o (by decide), k1]
  have f1 : fr (fun a _ => a = 235) A (rs A 235 (σ.length : Int) o) := fr_rs rfl
  have s1 : stk (rs A 235 (σ.length : Int) o) 235 (o :: σ) := stk_push k2 (w300 (by omega) (by omega))
  have e21 : zi (zsi (rs A 235 (σ.length : Int) o) 226 19 ((σ.length : Int) + 1)) 226 21 = (nst σ : Int) := by rw [zi_si_j (by decide), zi_rs_o (by decide)]; exact k5
  rw [e21]
  have f2 : fr (fun a j => a = 226 ∧ (j = 19 ∨ j = 21)) (rs A 235 (σ.length : Int) o) (zsi (zsi (rs A 235 (σ.length : Int) o) 226 19 ((σ.length : Int) + 1)) 226 21 ((nst σ : Int) + 1)) := (fr_si ⟨rfl, Or.inl rfl⟩).trans (fr_si ⟨rfl, Or.inr rfl⟩)
  have v19 : zi (zsi (zsi (rs A 235 (σ.length : Int) o) 226 19 ((σ.length : Int) + 1)) 226 21 ((nst σ : Int) + 1)) 226 19 = (σ.length : Int) + 1 := by rw [zi_si_j (by decide), zi_si_s, yb_w (by omega) (by omega)]
  have v21 : zi (zsi (zsi (rs A 235 (σ.length : Int) o) 226 19 ((σ.length : Int) + 1)) 226 21 ((nst σ : Int) + 1)) 226 21 = (nst σ : Int) + 1 := by rw [zi_si_s, yb_w (by omega) (by omega)]
  have ff : fr (fun a j => a = 235 ∨ (a = 226 ∧ (j = 19 ∨ j = 21))) A (zsi (zsi (rs A 235 (σ.length : Int) o) 226 19 ((σ.length : Int) + 1)) 226 21 ((nst σ : Int) + 1)) := (f1.mono (fun a j z => Or.inl z)).trans (f2.mono (fun a j z => Or.inr z))
  generalize zsi (zsi (rs A 235 (σ.length : Int) o) 226 19 ((σ.length : Int) + 1)) 226 21 ((nst σ : Int) + 1) = B at *
  have s2 : stk B 235 (o :: σ) := stk_fr s1 f2 (fun j z => by omega)
  have fX : fr (qXp p) A B := ff.mono (fun a j z => by
    rcases z with z | z
    · exact Or.inr (Or.inl z)
    · exact Or.inl ⟨z.1, by omega⟩)
  have ht' : RTx Tx L p B := ht.fr ff (fun z => by omega) (fun z => by omega) (fun j z => by omega)
  have hp' : RPa L p b B s (o :: σ).length := ⟨by rw [ff.i (fun z => by omega)]; exact a1, by rw [ff.i (fun z => by omega)]; exact a2, a3, a4.fr (by omega) ff (fun a j z q => by
    rcases z with z | z
    · rw [z] at q; exact nqRo (by omega) q
    · rw [z.1] at q; exact nqRo226 q), by show s.2.1.length + (σ.length + 1) + b ≤ 2 * s.1; omega, a6, a7⟩
  rw [v21]
  by_cases c : nst σ < 5
  · rw [if_neg (by omega)]
    refine ⟨B, rfl, fX, fun _ => ⟨ht', ⟨?_, s2, by rw [ff.i (fun z => by omega)]; exact k3, stk_fr k4 ff (fun j z => by omega), ?_, ?_, ?_, k8, ?_⟩, hp'⟩, fun q => absurd c q⟩
    · rw [v19]; rfl
    · rw [v21]
      show _ = (((if o < 10 then 1 else 0) + nst σ : Nat) : Int)
      rw [if_pos (by omega)]
      omega
    · show π.length = (if o = 1 ∨ o = 2 then 0 else 1) + pn σ + 0
      split <;> omega
    · intro o' ho'
      rcases List.mem_cons.mp ho' with e | e
      · rw [e]; omega
      · exact k7 o' e
    · show σ.length + 1 ≤ s.1
      omega
  · rw [if_pos (by omega), zlet_s]
    exact ⟨_, rfl, fX.trans (fr_si (Or.inl ⟨rfl, by omega⟩)), fun q => absurd q c, fun _ => hp'.fail hL ht'⟩
/-- digits -/
theorem r_digits (hT : TXT Tx L) : ∀ (n M a : Nat) (v x : Int) (A : zA), n < M → x = 5 - (n : Int) → n ≤ 5 → 0 ≤ v → (v + 1) * 10 ^ n ≤ 100000 → RTx Tx L p A → zi A 226 13 = a → a ≤ L → ∃ B, z_M_factor_30_l N M v x A = z_M_factor_75 N (tdg Tx n v a).1 B ∧ fr (fun a j => a = 226 ∧ j = 13) A B ∧ zi B 226 13 = (tdg Tx n v a).2
  | 0, M + 1, a, v, x, A, hM, hx, _, hv, hv2, ht, ha, hl => by
    unfold z_M_factor_30_l z_M_factor_30_b
    rw [if_neg (by omega)]
    exact ⟨A, rfl, fr.refl _ _, ha⟩
  | n + 1, M + 1, a, v, x, A, hM, hx, h5, hv, hv2, ht, ha, hl => by
    have t1 := hT.1
    unfold z_M_factor_30_l z_M_factor_30_b
    rw [if_pos (by omega), r_look hT ht.1 ht.2.1 ha, zbP_s, r_dig, zbP_s]
    have e : tdg Tx (n + 1) v a = if 48 ≤ Tx a ∧ Tx a ≤ 57 then tdg Tx n (10 * v + (Tx a - 48)) (a + 1) else (v, a) := rfl
    rw [e]
    by_cases c : 48 ≤ Tx a ∧ Tx a ≤ 57
    · have hlt := hT.lt (k := a) (by omega)
      rw [if_pos c, if_pos c, if_neg (by decide), zbP_s, zlet_s, ha]
      have p1 : (1 : Int) ≤ 10 ^ n := Int.pow_pos (by decide)
      have p2 : (v + 1) * 10 ^ (n + 1) = (10 * v + 10) * 10 ^ n := by
        rw [Int.pow_succ, Int.mul_comm ((10 : Int) ^ n) 10, ← Int.mul_assoc]
        congr 1
        omega
      have p3 : (10 * v + 10) * 1 ≤ (10 * v + 10) * 10 ^ n := Int.mul_le_mul_of_nonneg_left p1 (by omega)
      have p4 : (10 * v + (Tx a - 48) + 1) * 10 ^ n ≤ (10 * v + 10) * 10 ^ n := Int.mul_le_mul_of_nonneg_right (by omega) (by omega)
      rw [show 10 * v + Tx a - 48 = 10 * v + (Tx a - 48) by omega, yb_w (by omega) (by omega), yb_w (by omega) (by omega)]
      have f : fr (fun a j => a = 226 ∧ j = 13) A (zsi A 226 13 ((a : Int) + 1)) := fr_si ⟨rfl, rfl⟩
      obtain ⟨B, b1, b2, b3⟩ := r_digits hT n M (a + 1) (10 * v + (Tx a - 48)) (x + 1) _ (by omega) (by omega) (by omega) (by omega) (by omega) (ht.fr f (fun z => by omega) (fun z => by omega) (fun j z => by omega)) (by rw [zi_si_s, yb_w (by omega) (by omega)]; omega) (by omega)
      exact ⟨B, b1, f.trans b2, b3⟩
    · rw [if_neg c, if_neg c, if_pos rfl]
      exact ⟨A, rfl, fr.refl _ _, ha⟩
/-- what a step leads to -/
def RSt' (Tx : Nat → Int) (L p b : Nat) (B : zA) (v : Int) (o : Option (Nat × Mq)) : Prop := (o = none → RXf L p b B) ∧ ∀ w q, o = some (w, q) → v = w ∧ RXx Tx L p b B (1 - w) q
theorem r_236 (hN : 300000 ≤ N) (hL : L ≤ 120) (hp : p < 4) (h : RXx Tx L p b A 1 (σ, π, s)) : ∃ B, z_M_factor_236 N A = some (0, B) ∧ fr (qXp p) A B ∧ RXx Tx L p b B 1 (pwh σ π s) := by
  unfold z_M_factor_236
  rw [if_pos h.2.2.1]
  have k9 : σ.length ≤ s.1 := h.2.1.2.2.2.2.2.2.2.2
  have a3 : s.1 ≤ L := h.2.2.2.2.1
  obtain ⟨B, b1, b2, b3⟩ := r_whole (N := N) hL hp N σ π s A (by omega) h
  unfold z_M_whole z_M_whole_0
  rw [b1, zbV_s]
  exact ⟨B, rfl, b3, b2⟩
theorem qXat {p a j : Nat} (h : a = 226 ∧ j = 13) : qXp p a j := Or.inl ⟨h.1, Or.inl h.2⟩
theorem r_factor (hN : 300000 ≤ N) (hT : TXT Tx L) (hp : p < 4) (hm : mb = true ↔ p = 3) (h : RXx Tx L p b A 0 (σ, π, s)) : ∃ v B, z_M_factor N A = some (v, B) ∧ fr (qXp p) A B ∧ RSt' Tx L p b B v (mfa Tx mb (σ, π, s)) := by
  have hL := hT.1
  have ht := h.1
  have a2 : zi A 226 13 = s.1 := h.2.2.2.1
  have a3 : s.1 ≤ L := h.2.2.2.2.1
  unfold z_M_factor
  rw [r_look hT ht.1 ht.2.1 a2, zbP_s, zlet_s, r_dig, zbP_s]
  have at' : ∀ c : Int, c ≠ 0 → Tx s.1 = c → RXx Tx L p (b + 2) (zsi A 226 13 (zi A 226 13 + 1)) 0 (σ, π, tav s) := fun c hc e => rx_at hL h (hT.lt (k := s.1) (by rw [e]; exact hc))
  have fa : fr (qXp p) A (zsi A 226 13 (zi A 226 13 + 1)) := f_at.mono (fun a j z => qXat z)
  have p14 : zi (zsi A 226 13 (zi A 226 13 + 1)) 226 14 = p := by rw [zi_si_j (by decide)]; exact ht.2.2
  have fin : ∀ w : Int × Ps, mfa Tx mb (σ, π, s) = some (0, pwh σ (w.1 :: π) w.2) → ∀ C : zA, fr (qXp p) A C → RXx Tx L p b C 1 (σ, w.1 :: π, w.2) → ∃ v B, z_M_factor_236 N C = some (v, B) ∧ fr (qXp p) A B ∧ RSt' Tx L p b B v (mfa Tx mb (σ, π, s)) := fun w e C fC hC => by
    obtain ⟨B, b1, b2, b3⟩ := r_236 hN hL hp hC
    refine ⟨0, B, b1, fC.trans b2, ?_⟩
    rw [e]
    exact ⟨fun z => (by cases z), fun w' q' z => by cases z; exact ⟨rfl, b3⟩⟩
  by_cases cd : 48 ≤ Tx s.1 ∧ Tx s.1 ≤ 57
  · rw [if_pos cd, if_neg (by decide)]
    have h1 := at' _ (by omega) rfl
    obtain ⟨ht1, hk1, hp1⟩ := h1
    have e0 : tdg Tx 5 0 s.1 = tdg Tx 4 (Tx s.1 - 48) (s.1 + 1) := by
      show (if 48 ≤ Tx s.1 ∧ Tx s.1 ≤ 57 then tdg Tx 4 (10 * 0 + (Tx s.1 - 48)) (s.1 + 1) else _) = _
      rw [if_pos cd, show (10 : Int) * 0 + (Tx s.1 - 48) = Tx s.1 - 48 by omega]
    have hlt := hT.lt (k := s.1) (by omega)
    obtain ⟨C, c1, c2, c3⟩ := r_digits (N := N) hT 4 N (s.1 + 1) (Tx s.1 - 48) 1 _ (by omega) (by omega) (by omega) (by omega) (by omega) ht1 hp1.2.1 hlt
    unfold z_M_factor_30
    rw [yb_w (by omega) (by omega), c1, ← e0]
    rw [← e0] at c3
    obtain ⟨g1, g2, g3, g4, g5⟩ := tdg_rg hT 5 0 s.1 (by decide) a3
    have g5 := g5 (by decide) cd.1 cd.2
    have g2 : (tdg Tx 5 0 s.1).1 + 1 ≤ 100000 := g2
    obtain ⟨a1', a2', a3', a4', a5', a6', a7'⟩ := hp1
    have a4' : RP (zsi A 226 13 (zi A 226 13 + 1)) (4 + p) s.2.1 s.2.2 := a4'
    have a5' : s.2.1.length + σ.length + (b + 2) ≤ 2 * (s.1 + 1) := a5'
    have hC : RXx Tx L p (b + 1) C 0 (σ, π, ((tdg Tx 5 0 s.1).2, s.2)) := ⟨ht1.fr c2 (fun z => by omega) (fun z => by omega) (fun j z => by omega), RSk.fr hk1 c2 (fun j _ _ z => by omega) (fun j z => by omega) (fun j z => by omega) (by show s.1 + 1 ≤ (tdg Tx 5 0 s.1).2; omega), ⟨by rw [c2.i (fun z => by omega)]; exact a1', c3, g4, a4'.fr (by omega) c2 (fun a j z q => by rw [z.1] at q; exact nqRo226 q), by show s.2.1.length + σ.length + (b + 1) ≤ 2 * (tdg Tx 5 0 s.1).2; omega, a6', a7'⟩⟩
    unfold z_M_factor_75
    obtain ⟨D, d1, d2, d3⟩ := rx_const (N := N) (v := (tdg Tx 5 0 s.1).1) hL hp hC ⟨g1, by omega⟩
    rw [d3]
    exact fin (tcn (tdg Tx 5 0 s.1).1 ((tdg Tx 5 0 s.1).2, s.2)) (by unfold mfa; rw [if_pos cd]) D ((fa.trans (c2.mono (fun a j z => qXat z))).trans d2) d1
  rw [if_neg cd, if_pos rfl, r_isv, zbP_s]
  have pw : ∀ v : Int, 0 ≤ v ∧ v ≤ 300 → Tx s.1 ≠ 0 → mfa Tx mb (σ, π, s) = some (0, pwh σ (v :: π) (tav s)) → ∃ u B, z_M_factor_148 N v (zsi A 226 13 (zi A 226 13 + 1)) = some (u, B) ∧ fr (qXp p) A B ∧ RSt' Tx L p b B u (mfa Tx mb (σ, π, s)) := fun v hv hc e => by
    unfold z_M_factor_148
    obtain ⟨C, c1, c2, c3, -⟩ := rx_push (N := N) hL (at' _ hc rfl) hv
    rw [c1, zbV_s]
    exact fin (v, tav s) e C (fa.trans c3) (c2.mono (by omega))
  by_cases cv : 97 ≤ Tx s.1 ∧ Tx s.1 ≤ 102
  · rw [if_pos cv, if_neg (by decide)]
    unfold z_M_factor_132
    rw [if_neg (by omega), yb_w (by omega) (by omega)]
    exact pw _ (by omega) (by omega) (by unfold mfa; rw [if_neg cd, if_pos cv])
  rw [if_neg cv, if_pos rfl, p14]
  by_cases cx : Tx s.1 = 120 ∧ mb = false
  · have hp3 : ¬ ((p : Int) = 3) := fun z => by
      have := hm.mpr (by omega)
      rw [cx.2] at this
      cases this
    rw [if_pos cx.1, if_neg hp3]
    unfold z_M_factor_132
    rw [if_pos cx.1]
    exact pw _ (by decide) (by omega) (by unfold mfa; rw [if_neg cd, if_neg cv, if_pos cx])
  have e154 : (if Tx s.1 = 120 then (if (p : Int) = 3 then z_M_factor_154 N (Tx s.1) (zsi A 226 13 (zi A 226 13 + 1)) else z_M_factor_132 N (Tx s.1) (zsi A 226 13 (zi A 226 13 + 1))) else z_M_factor_154 N (Tx s.1) (zsi A 226 13 (zi A 226 13 + 1))) = z_M_factor_154 N (Tx s.1) (zsi A 226 13 (zi A 226 13 + 1)) := by
    split
    · next c =>
      rw [if_pos (by
        have : mb = true := by
          cases mb with
          | true => rfl
          | false => exact absurd ⟨c, rfl⟩ cx
        have := hm.mp this
        omega)]
    · rfl
  rw [e154]
  have em : mfa Tx mb (σ, π, s) = if nst σ < 5 then (if Tx s.1 = 40 then some (1, (1 :: σ, π, tav s)) else if Tx s.1 = 65 ∧ Tx (s.1 + 1) = 91 then some (1, (2 :: σ, π, tav (tav s))) else if Tx s.1 = 45 then some (1, (0 :: σ, (tcn 0 (tav s)).1 :: π, (tcn 0 (tav s)).2)) else none) else none := by
    unfold mfa
    rw [if_neg cd, if_neg cv, if_neg cx]
  have k9 : σ.length ≤ s.1 := h.2.1.2.2.2.2.2.2.2.2
  have op : ∀ (o : Int) (q' : Mq) (C : zA), fr (qXp p) A C → (∃ B, z_M_opens N o C = some B ∧ fr (qXp p) C B ∧ (nst σ < 5 → RXx Tx L p b B 0 q') ∧ (¬ nst σ < 5 → RXf L p b B)) → mfa Tx mb (σ, π, s) = (if nst σ < 5 then some (1, q') else none) → ∃ v B, (zbV (z_M_opens N o C) fun A2 => some ((1 : Int), A2)) = some (v, B) ∧ fr (qXp p) A B ∧ RSt' Tx L p b B v (mfa Tx mb (σ, π, s)) := fun o q' C fC hB e => by
    obtain ⟨B, b1, b2, b3, b4⟩ := hB
    rw [b1, zbV_s]
    refine ⟨1, B, rfl, fC.trans b2, ?_⟩
    rw [e]
    by_cases c : nst σ < 5
    · rw [if_pos c]
      exact ⟨fun z => (by cases z), fun w q' z => by cases z; exact ⟨rfl, b3 c⟩⟩
    · rw [if_neg c]
      exact ⟨fun _ => b4 c, fun w q' z => by cases z⟩
  unfold z_M_factor_154
  by_cases c40 : Tx s.1 = 40
  · rw [if_pos c40]
    exact op 1 (1 :: σ, π, tav s) _ fa (rx_open hL ((at' _ (by decide) c40).mono (b' := b + 1) (by omega)) (Or.inr (Or.inl ⟨rfl, rfl⟩)) (by show σ.length < s.1 + 1; omega)) (by rw [em, if_pos c40])
  rw [if_neg c40]
  by_cases c65 : Tx s.1 = 65
  · rw [if_pos c65]
    have h1 := at' _ (by decide) c65
    unfold z_M_need
    rw [r_look hT h1.1.1 h1.1.2.1 h1.2.2.2.1, zbP_s]
    by_cases c91 : Tx (s.1 + 1) = 91
    · rw [if_pos (show Tx (tav s).1 = 91 from c91), zlet_s, zbV_s]
      have h2 := rx_at hL h1 (hT.lt (k := s.1 + 1) (by rw [c91]; decide))
      exact op 2 (2 :: σ, π, tav (tav s)) _ (fa.trans (f_at.mono (fun a j z => qXat z))) (rx_open hL (h2.mono (b' := b + 1) (by omega)) (Or.inr (Or.inr ⟨rfl, rfl⟩)) (by show σ.length < s.1 + 1 + 1; omega)) (by rw [em, if_neg c40, if_pos (show Tx s.1 = 65 ∧ Tx (s.1 + 1) = 91 from ⟨c65, c91⟩)])
    · rw [if_neg (show ¬ Tx (tav s).1 = 91 from c91), zlet_s, zlet_s, zbV_s]
      -- failed already, and it opens all the same
      have e0 : mfa Tx mb (σ, π, s) = none := by
        rw [em, if_neg c40, if_neg (show ¬ (Tx s.1 = 65 ∧ Tx (s.1 + 1) = 91) from fun z => c91 z.2), if_neg (show ¬ Tx s.1 = 45 by omega)]
        split <;> rfl
      rw [e0]
      have n19 : zi A 226 19 = (σ.length : Int) := h.2.1.1
      have n21 : zi A 226 21 = (nst σ : Int) := h.2.1.2.2.2.2.1
      have hn := nst_le σ
      have r0 : RXf L p b (zsi (zsi A 226 13 (zi A 226 13 + 1)) 226 16 1) := h.2.2.atfail hL ht
      have e13 : zi (zsi (zsi A 226 13 (zi A 226 13 + 1)) 226 16 1) 226 13 = (s.1 : Int) + 1 := by rw [zi_si_j (by decide), zi_si_s, a2, yb_w (by omega) (by omega)]
      have g19 : zi (zsi (zsi (zsi A 226 13 (zi A 226 13 + 1)) 226 16 1) 226 13 ((zi (zsi (zsi A 226 13 (zi A 226 13 + 1)) 226 16 1) 226 13) + 1)) 226 19 = (σ.length : Int) := by rw [zi_si_j (by decide), zi_si_j (by decide), zi_si_j (by decide)]; exact n19
      have g21 : zi (zsi (zsi (zsi A 226 13 (zi A 226 13 + 1)) 226 16 1) 226 13 ((zi (zsi (zsi A 226 13 (zi A 226 13 + 1)) 226 16 1) 226 13) + 1)) 226 21 = (nst σ : Int) := by rw [zi_si_j (by decide), zi_si_j (by decide), zi_si_j (by decide)]; exact n21
      have f3 : fr (qXp p) A (zsi (zsi (zsi A 226 13 (zi A 226 13 + 1)) 226 16 1) 226 13 ((zi (zsi (zsi A 226 13 (zi A 226 13 + 1)) 226 16 1) 226 13) + 1)) := (fa.trans (fr_si (Or.inl ⟨rfl, by omega⟩))).trans (fr_si (Or.inl ⟨rfl, by omega⟩))
      have r1 : RXf L p b (zsi (zsi (zsi A 226 13 (zi A 226 13 + 1)) 226 16 1) 226 13 ((zi (zsi (zsi A 226 13 (zi A 226 13 + 1)) 226 16 1) 226 13) + 1)) := ⟨by rw [zi_si_j (by decide)]; exact r0.1, by rw [zi_si_j (by decide)]; exact r0.2.1, by rw [zi_si_s, e13, yb_w (by omega) (by omega)]; omega, by rw [zi_si_j (by decide)]; exact r0.2.2.2.1, by rw [ri_si_o (by decide)]; exact r0.2.2.2.2.1, by rw [ri_si_o (by decide)]; exact r0.2.2.2.2.2⟩
      generalize zsi (zsi (zsi A 226 13 (zi A 226 13 + 1)) 226 16 1) 226 13 ((zi (zsi (zsi A 226 13 (zi A 226 13 + 1)) 226 16 1) 226 13) + 1) = C at *
      unfold z_M_opens
      rw [g19, zwr_ok (by omega) (by omega), zlet_s, zlet_s]
      have f4 : fr (fun a j => a = 235 ∨ (a = 226 ∧ (j = 19 ∨ j = 21))) C (zsi (zsi (rs C 235 (σ.length : Int) 2) 226 19 (zi (rs C 235 (σ.length : Int) 2) 226 19 + 1)) 226 21 (zi (zsi (rs C 235 (σ.length : Int) 2) 226 19 (zi (rs C 235 (σ.length : Int) 2) 226 19 + 1)) 226 21 + 1)) := ((fr_rs (Or.inl rfl)).trans (fr_si (Or.inr ⟨rfl, Or.inl rfl⟩))).trans (fr_si (Or.inr ⟨rfl, Or.inr rfl⟩))
      have f4' : fr (qXp p) C (zsi (zsi (rs C 235 (σ.length : Int) 2) 226 19 (zi (rs C 235 (σ.length : Int) 2) 226 19 + 1)) 226 21 (zi (zsi (rs C 235 (σ.length : Int) 2) 226 19 (zi (rs C 235 (σ.length : Int) 2) 226 19 + 1)) 226 21 + 1)) := f4.mono (fun a j z => by
        rcases z with z | z
        · exact Or.inr (Or.inl z)
        · exact Or.inl ⟨z.1, by omega⟩)
      have r2 : RXf L p b (zsi (zsi (rs C 235 (σ.length : Int) 2) 226 19 (zi (rs C 235 (σ.length : Int) 2) 226 19 + 1)) 226 21 (zi (zsi (rs C 235 (σ.length : Int) 2) 226 19 (zi (rs C 235 (σ.length : Int) 2) 226 19 + 1)) 226 21 + 1)) := r1.fr f4 (fun j hj z => by omega) (fun j z => by omega)
      generalize zsi (zsi (rs C 235 (σ.length : Int) 2) 226 19 (zi (rs C 235 (σ.length : Int) 2) 226 19 + 1)) 226 21 (zi (zsi (rs C 235 (σ.length : Int) 2) 226 19 (zi (rs C 235 (σ.length : Int) 2) 226 19 + 1)) 226 21 + 1) = D at *
      split
      · rw [zlet_s, zbV_s]
        refine ⟨_, _, rfl, (f3.trans f4').trans (fr_si (Or.inl ⟨rfl, by omega⟩)), ⟨fun _ => ⟨by rw [zi_si_s]; decide, by rw [zi_si_j (by decide)]; exact r2.2.1, by rw [zi_si_j (by decide)]; exact r2.2.2.1, by rw [zi_si_j (by decide)]; exact r2.2.2.2.1, by rw [ri_si_o (by decide)]; exact r2.2.2.2.2.1, by rw [ri_si_o (by decide)]; exact r2.2.2.2.2.2⟩, fun w q' z => by cases z⟩⟩
      · rw [zbV_s]
        exact ⟨_, _, rfl, f3.trans f4', ⟨fun _ => r2, fun w q' z => by cases z⟩⟩
  rw [if_neg c65]
  by_cases c45 : Tx s.1 = 45
  · rw [if_pos c45]
    obtain ⟨D, d1, d2, d3⟩ := rx_const (N := N) (v := 0) hL hp (at' _ (by decide) c45) (by decide)
    rw [d3]
    exact op 0 (0 :: σ, (tcn 0 (tav s)).1 :: π, (tcn 0 (tav s)).2) D (fa.trans d2) (rx_open hL d1 (Or.inl ⟨rfl, rfl⟩) (by show σ.length < s.1 + 1; omega)) (by rw [em, if_neg c40, if_neg (show ¬ (Tx s.1 = 65 ∧ Tx (s.1 + 1) = 91) from fun z => c65 z.1), if_pos c45])
  · rw [if_neg c45, zlet_s]
    have e0 : mfa Tx mb (σ, π, s) = none := by
      rw [em, if_neg c40, if_neg (show ¬ (Tx s.1 = 65 ∧ Tx (s.1 + 1) = 91) from fun z => c65 z.1), if_neg c45]
      split <;> rfl
    rw [e0]
    have r0 : RXf L p b (zsi (zsi A 226 13 (zi A 226 13 + 1)) 226 16 1) := h.2.2.atfail hL ht
    unfold z_M_factor_236
    rw [if_neg (by rw [r0.1]; decide)]
    exact ⟨_, _, rfl, fa.trans (fr_si (Or.inl ⟨rfl, by omega⟩)), ⟨fun _ => r0, fun w q' z => by cases z⟩⟩
end
