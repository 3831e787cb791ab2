/-! the reference's expressions: its cells are the machine -/
def stk (A : zA) (a : Nat) : List Int → Prop
  | [] => True
  | o :: σ => ri A a (σ.length : Int) = o ∧ stk A a σ
def pn : List Int → Nat
  | [] => 0
  | o :: σ => (if o = 1 ∨ o = 2 then 0 else 1) + pn σ
theorem pn_le : ∀ σ : List Int, pn σ ≤ σ.length
  | [] => Nat.le_refl _
  | o :: σ => by
    have := pn_le σ
    show (if o = 1 ∨ o = 2 then 0 else 1) + pn σ ≤ σ.length + 1
    split <;> omega
theorem stk_eq {A B : zA} {a : Nat} : ∀ {σ : List Int}, stk A a σ → (∀ i : Nat, i < σ.length → ri B a i = ri A a i) → stk B a σ
  | [], _, _ => trivial
  | o :: σ, h, e => ⟨by rw [e σ.length (by show σ.length < σ.length + 1; omega)]; exact h.1, stk_eq h.2 (fun i hi => e i (by show i < σ.length + 1; omega))⟩
theorem stk_fr {A B : zA} {a : Nat} {σ : List Int} {F : Nat → Nat → Prop} (h : stk A a σ) (f : fr F A B) (hn : ∀ j, ¬ F a j) : stk B a σ := stk_eq h (fun i _ => f.e (hn _))
theorem stk_push {A : zA} {a : Nat} {σ : List Int} {v : Int} (h : stk A a σ) (hv : zw v = v) : stk (rs A a (σ.length : Int) v) a (v :: σ) := ⟨by rw [ri_rs_s, hv], stk_eq h (fun i hi => ri_rs_n (by omega) (by omega) (by omega))⟩
def RTx (Tx : Nat → Int) (L p : Nat) (A : zA) : Prop := zi A 226 1 = L ∧ (∀ k : Nat, k < L → ri A 227 k = Tx k) ∧ zi A 226 14 = p
def RSk (A : zA) (q : Mq) (d : Nat) : Prop := zi A 226 19 = q.1.length ∧ stk A 235 q.1 ∧ zi A 226 20 = q.2.1.length ∧ stk A 236 q.2.1 ∧ zi A 226 21 = nst q.1 ∧ q.2.1.length = pn q.1 + d ∧ (∀ o ∈ q.1, 0 ≤ o ∧ o ≤ 15) ∧ (∀ x ∈ q.2.1, 0 ≤ x ∧ x ≤ 300) ∧ q.1.length ≤ q.2.2.1
def RPa (L p b : Nat) (A : zA) (s : Ps) (n : Nat) : Prop := zi A 226 16 = 0 ∧ zi A 226 13 = s.1 ∧ s.1 ≤ L ∧ RP A (4 + p) s.2.1 s.2.2 ∧ s.2.1.length + n + b ≤ 2 * s.1 ∧ s.2.2 ≤ 7 + s.2.1.length ∧ 7 ≤ s.2.2
def RXx (Tx : Nat → Int) (L p b : Nat) (A : zA) (d : Nat) (q : Mq) : Prop := RTx Tx L p A ∧ RSk A q d ∧ RPa L p b A q.2.2 q.1.length
def RXf (L p b : Nat) (A : zA) : Prop := zi A 226 16 = 1 ∧ zi A 226 1 = L ∧ (0 ≤ zi A 226 13 ∧ zi A 226 13 ≤ 300) ∧ zi A 226 14 = p ∧ 0 ≤ ri A 229 (4 + p : Nat) ∧ ri A 229 (4 + p : Nat) + b ≤ 240
def qWk (p : Nat) (a j : Nat) : Prop := (a = 226 ∧ j = 20) ∨ a = 236 ∨ qRo (4 + p) a j
def qXp (p : Nat) (a j : Nat) : Prop := (a = 226 ∧ (j = 13 ∨ j = 16 ∨ j = 19 ∨ j = 20 ∨ j = 21)) ∨ a = 235 ∨ a = 236 ∨ qRo (4 + p) a j
theorem qW_X {p a j : Nat} (h : qWk p a j) : qXp p a j := by unfold qWk at h; unfold qXp; rcases h with h | h | h <;> simp_all
section
variable {N : Nat} {Tx : Nat → Int} {L p b d : Nat} {A B : zA} {q : Mq} {X : List It} {g : Nat}
theorem RTx.fr {F : Nat → Nat → Prop} (h : RTx Tx L p A) (f : fr F A B) (h1 : ¬ F 226 1) (h4 : ¬ F 226 14) (h7 : ∀ j, ¬ F 227 j) : RTx Tx L p B := ⟨by rw [f.i h1]; exact h.1, fun k hk => by rw [f.e (h7 _)]; exact h.2.1 k hk, by rw [f.i h4]; exact h.2.2⟩
theorem nqRo226 {r j : Nat} : ¬ qRo r 226 j := fun q => by unfold qRo at q; omega
theorem nqRo {r a j : Nat} (h : a < 228 ∨ 230 < a) : ¬ qRo r a j := fun q => by unfold qRo at q; omega
theorem r_fresh {n : Nat} (hp : p < 4) (ht : zi A 226 14 = p) (hx : RP A (4 + p) X g) (hg : g ≤ 100000) : z_M_fresh n A = some ((g : Int), rs A 230 ((4 + p : Nat) : Int) ((g : Int) + 1)) ∧ RP (rs A 230 ((4 + p : Nat) : Int) ((g : Int) + 1)) (4 + p) X (g + 1) ∧ fr (qRo (4 + p)) A (rs A 230 ((4 + p : Nat) : Int) ((g : Int) + 1)) := by
  have e4 : ((4 + p : Nat) : Int) = 4 * 1 + (p : Int) := by omega
  refine ⟨?_, ⟨by rw [ri_rs_o (by decide)]; exact hx.1, by rw [ri_rs_s, yb_w (by omega) (by omega)]; omega, fun k hk => ⟨by rw [ri_rs_o (by decide)]; exact (hx.2.2 k hk).1, fun i hi => by rw [ri_rs_o (by decide)]; exact (hx.2.2 k hk).2 i hi⟩⟩, fr_rs (Or.inr ⟨Or.inr rfl, by omega⟩)⟩
  have w1 : zw ((g : Int) + 1) = (g : Int) + 1 := yb_w (by omega) (by omega)
  unfold z_M_fresh
  rw [ht, z_M_row_e (by omega) (by omega), zbP_s, zrd_ok (by omega) (by omega), ← e4, hx.2.1, zwr_ok (by omega) (by omega), zi_rs_o (by decide), ht, z_M_row_e (by omega) (by omega), zbP_s, zrd_ok (by omega) (by omega), ← e4, ri_rs_s, w1, yb_w (by omega) (by omega)]
  congr 2
  omega
theorem r_mwork {o x y : Int} {π : List Int} (hp : p < 4) (ht : zi A 226 14 = p) (h20 : zi A 226 20 = (π.length : Int) + 2) (hs : stk A 236 (y :: x :: π)) (hl : π.length ≤ 120) (hx : RP A (4 + p) X g) (hX : X.length < 240) (hg : g ≤ 300) (rx : 0 ≤ x ∧ x ≤ 300) (ry : 0 ≤ y ∧ y ≤ 300) (ro : 0 ≤ o ∧ o ≤ 15) : ∃ B, z_M_work N o A = some B ∧ zi B 226 20 = (π.length : Int) + 1 ∧ stk B 236 ((g : Int) :: π) ∧ RP B (4 + p) (X ++ [(2, (g : Int), x, y, o)]) (g + 1) ∧ fr (qWk p) A B := by
  unfold z_M_work
  rw [zlet_s, h20]
  have f1 : fr (fun a j => a = 226 ∧ j = 20) A (zsi A 226 20 ((π.length : Int) + 2 - 1)) := fr_si ⟨rfl, rfl⟩
  have v1 : zi (zsi A 226 20 ((π.length : Int) + 2 - 1)) 226 20 = (π.length : Int) + 1 := by rw [zi_si_s, yb_w (by omega) (by omega)]; omega
  have t1 : zi (zsi A 226 20 ((π.length : Int) + 2 - 1)) 226 14 = p := by rw [zi_si_j (by decide)]; exact ht
  have s1 : stk (zsi A 226 20 ((π.length : Int) + 2 - 1)) 236 (y :: x :: π) := stk_fr hs f1 (fun j z => by omega)
  have x1 : RP (zsi A 226 20 ((π.length : Int) + 2 - 1)) (4 + p) X g := hx.fr (by omega) f1 (fun a j z q => by rw [z.1] at q; exact nqRo226 q)
  generalize zsi A 226 20 ((π.length : Int) + 2 - 1) = A1 at *
  obtain ⟨g1, g2, g3⟩ := r_fresh (n := N) hp t1 x1 (by omega)
  rw [g1, zbI_s]
  have v2 : zi (rs A1 230 ((4 + p : Nat) : Int) ((g : Int) + 1)) 226 20 = (π.length : Int) + 1 := by rw [zi_rs_o (by decide)]; exact v1
  have t2 : zi (rs A1 230 ((4 + p : Nat) : Int) ((g : Int) + 1)) 226 14 = p := by rw [zi_rs_o (by decide)]; exact t1
  have s2 : stk (rs A1 230 ((4 + p : Nat) : Int) ((g : Int) + 1)) 236 (y :: x :: π) := stk_fr s1 g3 (fun j => nqRo (by omega))
  generalize rs A1 230 ((4 + p : Nat) : Int) ((g : Int) + 1) = A2 at *
  rw [v2, t2, zrd_ok (by omega) (by omega), zrd_ok (by omega) (by omega), show (π.length : Int) + 1 - 1 = (π.length : Int) by omega, s2.2.1, show (π.length : Int) + 1 = ((x :: π).length : Int) from rfl, s2.1]
  obtain ⟨C, c1, c2, c3⟩ := RP_emit (N := N) (x3 := 2) (x4 := (g : Int)) (x5 := x) (x6 := y) (x7 := o) hp g2 hX (by decide) (w300 (by omega) (by omega)) (w300 rx.1 (by omega)) (w300 ry.1 (by omega)) (w300 ro.1 (by omega))
  rw [c1, zbV_s]
  have v3 : zi C 226 20 = (π.length : Int) + 1 := by rw [c3.i nqRo226]; exact v2
  have s3 : stk C 236 π := stk_fr s2.2.2 c3 (fun j => nqRo (by omega))
  rw [v3, zwr_ok (by omega) (by omega), show (π.length : Int) + 1 - 1 = (π.length : Int) by omega]
  have f4 : fr (fun a _ => a = 236) C (rs C 236 (π.length : Int) (g : Int)) := fr_rs rfl
  refine ⟨_, rfl, by rw [zi_rs_o (by decide)]; exact v3, stk_push s3 (w300 (by omega) (by omega)), c2.fr (by rw [List.length_append]; simp only [List.length_cons, List.length_nil]; omega) f4 (fun a j z q => by rw [z] at q; exact nqRo (by omega) q), ?_⟩
  refine (((f1.mono (fun a j z => Or.inl z)).trans (g3.mono (fun a j z => Or.inr (Or.inr z)))).trans (c3.mono (fun a j z => Or.inr (Or.inr z)))).trans (f4.mono (fun a j z => Or.inr (Or.inl z)))
/-- one work: the operator o is off the stack already -/
theorem rx_work {o x y c : Int} {σ π : List Int} {s : Ps} (hL : L ≤ 120) (hp : p < 4) (h : RXx Tx L p b A 1 (o :: σ, y :: x :: π, s)) (hpn : ¬ (o = 1 ∨ o = 2)) (hc : 0 ≤ c ∧ c ≤ 5) {C : zA} (f : fr (fun a j => a = 226 ∧ (j = 19 ∨ j = 21)) A C) (h19 : zi C 226 19 = (σ.length : Int)) (h21 : zi C 226 21 = nst σ) : ∃ B, z_M_work N c C = some B ∧ RXx Tx L p b B 1 (σ, (twk c x y s).1 :: π, (twk c x y s).2) ∧ fr (qXp p) A B := by
  obtain ⟨ht, ⟨k1, k2, k3, k4, k5, k6, k7, k8, k9⟩, ⟨a1, a2, a3, a4, a5, a6, a7⟩⟩ := h
  have k4 : stk A 236 (y :: x :: π) := k4
  have k2 : stk A 235 (o :: σ) := k2
  have k3 : zi A 226 20 = ((y :: x :: π).length : Int) := k3
  have k6 : (y :: x :: π).length = pn (o :: σ) + 1 := k6
  have k9 : (o :: σ).length ≤ s.1 := k9
  have a5 : s.2.1.length + (o :: σ).length + b ≤ 2 * s.1 := a5
  have a3 : s.1 ≤ L := a3
  have k6' : π.length = pn σ := by
    have : pn (o :: σ) = 1 + pn σ := by show (if o = 1 ∨ o = 2 then 0 else 1) + pn σ = _; rw [if_neg hpn]
    simp only [List.length_cons] at k6
    omega
  have hpl := pn_le σ
  have a6 : s.2.2 ≤ 7 + s.2.1.length := a6
  have a4 : RP A (4 + p) s.2.1 s.2.2 := a4
  simp only [List.length_cons] at k9 a5
  have y8 := k8 y (List.mem_cons_self)
  have x8 := k8 x (List.mem_cons_of_mem _ List.mem_cons_self)
  have n20 : zi C 226 20 = (π.length : Int) + 2 := by rw [f.i (fun z => by omega), k3]; simp only [List.length_cons]; omega
  obtain ⟨B, b1, b2, b3, b4, b5⟩ := r_mwork (N := N) (A := C) (o := c) hp (by rw [f.i (fun z => by omega)]; exact ht.2.2) n20 (stk_fr k4 f (fun j z => by omega)) (by omega) (a4.fr (by omega) f (fun a j z q => by rw [z.1] at q; exact nqRo226 q)) (by omega) (by omega) x8 y8 (by omega)
  have nW : ∀ j, j ≠ 20 → ¬ qWk p 226 j := fun j hj z => by
    unfold qWk at z
    rcases z with z | z | z
    · exact hj z.2
    · omega
    · exact nqRo226 z
  have nW' : ∀ a j, a = 227 ∨ a = 235 → ¬ qWk p a j := fun a j ha z => by
    unfold qWk at z
    rcases z with z | z | z
    · omega
    · omega
    · exact nqRo (by omega) z
  refine ⟨B, b1, ⟨(ht.fr f (fun z => by omega) (fun z => by omega) (fun j z => by omega)).fr b5 (nW _ (by decide)) (nW _ (by decide)) (fun j => nW' _ _ (Or.inl rfl)), ⟨?_, ?_, ?_, b3, ?_, ?_, ?_, ?_, ?_⟩, ⟨?_, ?_, a3, b4, ?_, ?_, ?_⟩⟩, (f.mono (fun a j z => Or.inl ⟨z.1, by omega⟩)).trans (b5.mono (fun a j z => qW_X z))⟩
  · rw [b5.i (nW _ (by decide))]; exact h19
  · exact stk_fr (stk_fr k2.2 f (fun j z => by omega)) b5 (fun j => nW' _ _ (Or.inr rfl))
  · rw [b2]; rfl
  · rw [b5.i (nW _ (by decide))]; exact h21
  · show π.length + 1 = pn σ + 1
    omega
  · exact fun o' ho' => k7 o' (List.mem_cons_of_mem _ ho')
  · intro x' hx'
    rcases List.mem_cons.mp hx' with e | e
    · rw [e]
      show (0 : Int) ≤ (s.2.2 : Int) ∧ (s.2.2 : Int) ≤ 300
      have a6 : s.2.2 ≤ 7 + s.2.1.length := a6
      omega
    · exact k8 x' (List.mem_cons_of_mem _ (List.mem_cons_of_mem _ e))
  · show σ.length ≤ s.1
    omega
  · rw [b5.i (nW _ (by decide)), f.i (fun z => by omega)]; exact a1
  · rw [b5.i (nW _ (by decide)), f.i (fun z => by omega)]; exact a2
  · show (s.2.1 ++ [(2, (s.2.2 : Int), x, y, c)]).length + σ.length + b ≤ 2 * s.1
    rw [List.length_append]
    simp only [List.length_cons, List.length_nil]
    omega
  · show s.2.2 + 1 ≤ 7 + (s.2.1 ++ [(2, (s.2.2 : Int), x, y, c)]).length
    rw [List.length_append]
    simp only [List.length_cons, List.length_nil]
    have a6 : s.2.2 ≤ 7 + s.2.1.length := a6
    omega
  · show 7 ≤ s.2.2 + 1
    have a7 : 7 ≤ s.2.2 := a7
    omega
theorem rx_two {o : Int} {σ π : List Int} {s : Ps} (h : RXx Tx L p b A 1 (o :: σ, π, s)) (hpn : ¬ (o = 1 ∨ o = 2)) : ∃ y x π', π = y :: x :: π' := by
  have k6 : π.length = pn (o :: σ) + 1 := h.2.1.2.2.2.2.2.1
  have : pn (o :: σ) = 1 + pn σ := by show (if o = 1 ∨ o = 2 then 0 else 1) + pn σ = _; rw [if_neg hpn]
  rcases π with _ | ⟨y, _ | ⟨x, π'⟩⟩
  · simp only [List.length_nil] at k6; omega
  · simp only [List.length_cons, List.length_nil] at k6; omega
  · exact ⟨y, x, π', rfl⟩
theorem rx_top {o : Int} {σ π : List Int} {s : Ps} (hL : L ≤ 120) (h : RXx Tx L p b A d (o :: σ, π, s)) : zi A 226 19 = (σ.length : Int) + 1 ∧ ri A 235 (σ.length : Int) = o ∧ σ.length < 128 := by
  have k1 : zi A 226 19 = ((o :: σ).length : Int) := h.2.1.1
  have k9 : (o :: σ).length ≤ s.1 := h.2.1.2.2.2.2.2.2.2.2
  have a3 : s.1 ≤ L := h.2.2.2.2.1
  simp only [List.length_cons] at k1 k9
  exact ⟨by omega, h.2.1.2.1.1, by omega⟩
theorem r_whole (hL : L ≤ 120) (hp : p < 4) : ∀ (M : Nat) (σ π : List Int) (s : Ps) (A : zA), σ.length < M → RXx Tx L p b A 1 (σ, π, s) → ∃ B, z_M_whole_0_l N M A = some B ∧ RXx Tx L p b B 1 (pwh σ π s) ∧ fr (qXp p) A B
  | 0, σ, π, s, A, hM, h => by omega
  | M + 1, [], π, s, A, hM, h => by
    have k1 : zi A 226 19 = 0 := h.2.1.1
    unfold z_M_whole_0_l z_M_whole_0_b
    rw [if_neg (by omega)]
    exact ⟨A, rfl, h, fr.refl _ _⟩
  | M + 1, o :: σ, π, s, A, hM, h => by
    obtain ⟨t1, t2, t3⟩ := rx_top hL h
    unfold z_M_whole_0_l z_M_whole_0_b
    rw [if_pos (by omega), zrd_ok (by omega) (by omega), show zi A 226 19 - 1 = (σ.length : Int) by omega, t2]
    by_cases c : o = 0
    · obtain ⟨y, x, π', rfl⟩ := rx_two h (by omega)
      rw [if_pos c, zlet_s, zlet_s]
      have n21 : zi A 226 21 = nst (o :: σ) := h.2.1.2.2.2.2.1
      have n21' : zi A 226 21 = 1 + (nst σ : Int) := by
        rw [n21]
        show (((if o < 10 then 1 else 0) + nst σ : Nat) : Int) = _
        rw [if_pos (by omega)]
        omega
      have bd : nst σ < 1000 := by
        have : ∀ τ : List Int, nst τ ≤ τ.length := fun τ => by
          induction τ with
          | nil => exact Nat.le_refl _
          | cons e τ ih =>
            show (if e < 10 then 1 else 0) + nst τ ≤ τ.length + 1
            split <;> omega
        have := this σ
        omega
      have f : fr (fun a j => a = 226 ∧ (j = 19 ∨ j = 21)) A (zsi (zsi A 226 19 (σ.length : Int)) 226 21 (zi (zsi A 226 19 (σ.length : Int)) 226 21 - 1)) := (fr_si ⟨rfl, Or.inl rfl⟩).trans (fr_si ⟨rfl, Or.inr rfl⟩)
      obtain ⟨B, b1, b2, b3⟩ := rx_work (N := N) (c := 1) hL hp h (by omega) (by decide) f (by rw [zi_si_j (by decide), zi_si_s, yb_w (by omega) (by omega)]) (by rw [zi_si_s, zi_si_j (by decide), n21', yb_w (by omega) (by omega)]; omega)
      rw [b1, zbV_s]
      obtain ⟨C, c1, c2, c3⟩ := r_whole hL hp M σ _ _ B (by simp only [List.length_cons] at hM; omega) b2
      refine ⟨C, c1, ?_, b3.trans c3⟩
      have e : pwh (o :: σ) (y :: x :: π') s = pwh σ ((twk 1 x y s).1 :: π') (twk 1 x y s).2 := by
        show (if o = 0 then _ else _) = _
        rw [if_pos c]
      rw [e]
      exact c2
    · rw [if_neg c]
      refine ⟨A, rfl, ?_, fr.refl _ _⟩
      have e : pwh (o :: σ) π s = (o :: σ, π, s) := by
        rcases π with _ | ⟨y, _ | ⟨x, π'⟩⟩
        · rfl
        · rfl
        · show (if o = 0 then _ else _) = _
          rw [if_neg c]
      rw [e]
      exact h
theorem r_str (o : Int) : z_M_strength N o A = some (str o) := by
  unfold z_M_strength str
  by_cases c2 : o = 2
  · rw [if_pos c2, if_pos (Or.inl c2)]
  · rw [if_neg c2]
    by_cases c3 : o = 3
    · rw [if_pos c3, if_pos (Or.inr c3)]
    · rw [if_neg c3, if_neg (show ¬ (o = 2 ∨ o = 3) by omega)]
      split <;> rfl
theorem r_reduce {k : Int} (hL : L ≤ 120) (hp : p < 4) : ∀ (M : Nat) (σ π : List Int) (s : Ps) (A : zA), σ.length < M → RXx Tx L p b A 1 (σ, π, s) → ∃ B, z_M_reduce_0_l N M k A = some B ∧ RXx Tx L p b B 1 (prd k σ π s) ∧ fr (qXp p) A B
  | 0, σ, π, s, A, hM, h => by omega
  | M + 1, [], π, s, A, hM, h => by
    have k1 : zi A 226 19 = 0 := h.2.1.1
    unfold z_M_reduce_0_l z_M_reduce_0_b
    rw [if_neg (by omega)]
    exact ⟨A, rfl, h, fr.refl _ _⟩
  | M + 1, o :: σ, π, s, A, hM, h => by
    obtain ⟨t1, t2, t3⟩ := rx_top hL h
    have ro := h.2.1.2.2.2.2.2.2.1 o List.mem_cons_self
    unfold z_M_reduce_0_l z_M_reduce_0_b
    rw [if_pos (by omega), zrd_ok (by omega) (by omega), show zi A 226 19 - 1 = (σ.length : Int) by omega, t2]
    have stop : ¬ (10 ≤ o ∧ k ≤ str (o - 10)) → ∃ B, some A = some B ∧ RXx Tx L p b B 1 (prd k (o :: σ) π s) ∧ fr (qXp p) A B := fun c => by
      refine ⟨A, rfl, ?_, fr.refl _ _⟩
      have e : prd k (o :: σ) π s = (o :: σ, π, s) := by
        rcases π with _ | ⟨y, _ | ⟨x, π'⟩⟩
        · rfl
        · rfl
        · show (if 10 ≤ o ∧ k ≤ str (o - 10) then _ else _) = _
          rw [if_neg c]
      rw [e]
      exact h
    by_cases c : o < 10
    · rw [if_pos c]
      exact stop (by omega)
    · rw [if_neg c, zrd_ok (by omega) (by omega), t2, yb_w (by omega) (by omega), r_str, zbP_s]
      by_cases c2 : str (o - 10) < k
      · rw [if_pos c2]
        exact stop (by omega)
      · rw [if_neg c2, zlet_s]
        obtain ⟨y, x, π', rfl⟩ := rx_two h (by omega)
        have n19 : zi (zsi A 226 19 (σ.length : Int)) 226 19 = (σ.length : Int) := by rw [zi_si_s, yb_w (by omega) (by omega)]
        rw [n19, zrd_ok (by omega) (by omega), ri_si_o (by decide), t2, yb_w (by omega) (by omega)]
        have n21 : zi A 226 21 = nst (o :: σ) := h.2.1.2.2.2.2.1
        have n21' : zi A 226 21 = (nst σ : Int) := by
          rw [n21]
          show (((if o < 10 then 1 else 0) + nst σ : Nat) : Int) = _
          rw [if_neg c]
          omega
        have f : fr (fun a j => a = 226 ∧ (j = 19 ∨ j = 21)) A (zsi A 226 19 (σ.length : Int)) := fr_si ⟨rfl, Or.inl rfl⟩
        obtain ⟨B, b1, b2, b3⟩ := rx_work (N := N) (c := o - 10) hL hp h (by omega) (by omega) f n19 (by rw [zi_si_j (by decide)]; exact n21')
        rw [b1, zbV_s]
        obtain ⟨C, c1, c2', c3⟩ := r_reduce hL hp M σ _ _ B (by simp only [List.length_cons] at hM; omega) b2
        refine ⟨C, c1, ?_, b3.trans c3⟩
        have e : prd k (o :: σ) (y :: x :: π') s = prd k σ ((twk (o - 10) x y s).1 :: π') (twk (o - 10) x y s).2 := by
          show (if 10 ≤ o ∧ k ≤ str (o - 10) then _ else _) = _
          rw [if_pos (by omega)]
        rw [e]
        exact c2'
end
