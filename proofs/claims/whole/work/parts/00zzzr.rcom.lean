/-! COMMON of the reference: names -/
def phi (g i : Nat) : Nat := if i < g then i else 60 + (i - g)
theorem phi_inj {g i j : Nat} (hg : g ≤ 60) (h : phi g i = phi g j) : i = j := by
  unfold phi at h
  split at h <;> split at h <;> omega
def trK (g : Nat) (y : Nd) : Int × Int × Int := if y.1 = 0 then (100, y.2.1, 0) else if y.1 = 1 then (y.2.1, (phi g y.2.2.1.toNat : Int), (phi g y.2.2.2.toNat : Int)) else (50, (phi g y.2.1.toNat : Int), y.2.2.1)
theorem trK_inj {g : Nat} {y z : Nd} (hg : g ≤ 60) (hy : KO y) (hz : KO z) (y5 : y.1 ≠ 5) (z5 : z.1 ≠ 5) (h : trK g y = trK g z) : y = z := by
  have t0 : ∀ v : Int, trK g (0, v, 0, 0) = (100, v, 0) := fun v => by unfold trK; rw [if_pos rfl]
  have t1 : ∀ (o : Int) (a b : Nat), trK g (1, o, (a : Int), (b : Int)) = (o, (phi g a : Int), (phi g b : Int)) := fun o a b => by
    unfold trK
    rw [if_neg (by show ¬ (1 : Int) = 0; decide), if_pos rfl]
    dsimp only
    rw [Int.toNat_natCast, Int.toNat_natCast]
  have t2 : ∀ a c : Nat, trK g (2, (a : Int), (c : Int), 0) = (50, (phi g a : Int), (c : Int)) := fun a c => by
    unfold trK
    rw [if_neg (by show ¬ (2 : Int) = 0; decide), if_neg (by show ¬ (2 : Int) = 1; decide)]
    dsimp only
    rw [Int.toNat_natCast]
  rcases hy with ⟨v, rfl⟩ | ⟨o, a, b, o1, o2, rfl⟩ | ⟨a, c, rfl⟩ | ⟨n, rfl⟩
  · rcases hz with ⟨v', rfl⟩ | ⟨o', a', b', o1', o2', rfl⟩ | ⟨a', c', rfl⟩ | ⟨n', rfl⟩
    · rw [t0, t0] at h
      rw [(Prod.mk.inj (Prod.mk.inj h).2).1]
    · rw [t0, t1] at h
      have := (Prod.mk.inj h).1
      omega
    · rw [t0, t2] at h
      have := (Prod.mk.inj h).1
      omega
    · exact absurd rfl z5
  · rcases hz with ⟨v', rfl⟩ | ⟨o', a', b', o1', o2', rfl⟩ | ⟨a', c', rfl⟩ | ⟨n', rfl⟩
    · rw [t0, t1] at h
      have := (Prod.mk.inj h).1
      omega
    · rw [t1, t1] at h
      obtain ⟨e1, e2⟩ := Prod.mk.inj h
      obtain ⟨e2, e3⟩ := Prod.mk.inj e2
      rw [e1, phi_inj hg (Int.natCast_inj.mp e2), phi_inj hg (Int.natCast_inj.mp e3)]
    · rw [t1, t2] at h
      have := (Prod.mk.inj h).1
      omega
    · exact absurd rfl z5
  · rcases hz with ⟨v', rfl⟩ | ⟨o', a', b', o1', o2', rfl⟩ | ⟨a', c', rfl⟩ | ⟨n', rfl⟩
    · rw [t0, t2] at h
      have := (Prod.mk.inj h).1
      omega
    · rw [t1, t2] at h
      have := (Prod.mk.inj h).1
      omega
    · rw [t2, t2] at h
      obtain ⟨-, e2⟩ := Prod.mk.inj h
      obtain ⟨e2, e3⟩ := Prod.mk.inj e2
      rw [phi_inj hg (Int.natCast_inj.mp e2), e3]
    · exact absurd rfl z5
  · exact absurd rfl y5
theorem trK_0 {g : Nat} {y : Nd} (hy : KO y) (y5 : y.1 ≠ 5) : 0 ≤ (trK g y).1 ∧ (trK g y).1 ≤ 100 := by
  unfold trK
  rcases hy with ⟨v, rfl⟩ | ⟨o, a, b, o1, o2, rfl⟩ | ⟨a, c, rfl⟩ | ⟨n, rfl⟩
  · rw [if_pos rfl]; exact ⟨by show (0 : Int) ≤ 100; decide, by show (100 : Int) ≤ 100; decide⟩
  · rw [if_neg (by show ¬ (1 : Int) = 0; decide), if_pos rfl]; exact ⟨o1, by show o ≤ 100; omega⟩
  · rw [if_neg (by show ¬ (2 : Int) = 0; decide), if_neg (by show ¬ (2 : Int) = 1; decide)]; exact ⟨by show (0 : Int) ≤ 50; decide, by show (50 : Int) ≤ 100; decide⟩
  · exact absurd rfl y5
def RKy (A : zA) (g : Nat) (y : Nd) (q : Nat) : Prop := if y.1 = 5 then ri A 246 q = -1 else (ri A 246 q, ri A 247 q, ri A 248 q) = trK g y
def RNB (A : zA) (g : Nat) (s : NS) : Prop := zi A 226 34 = ((60 + (s.1.length - g) : Nat) : Int) ∧ (∀ i : Nat, i < 60 → ri A 246 i = -1) ∧ (∀ i : Nat, g ≤ i → i < s.1.length → RKy A g (kat s.1 i) (60 + (i - g))) ∧ (∀ r : Nat, r < g → ri A 249 r = (phi g (s.2.1 r) : Int)) ∧ zi A 226 35 = s.2.2.1
def qNm (a j : Nat) : Prop := a = 246 ∨ a = 247 ∨ a = 248 ∨ (a = 226 ∧ j = 34)
def qN9 (a j : Nat) : Prop := qNm a j ∨ a = 249 ∨ (a = 226 ∧ j = 35)
section
variable {N : Nat} {A : zA} {g m : Nat} {s : NS}
theorem r_own (hg : g ≤ 60) : ∀ (r i f : Nat) (B : zA), i + r = 60 → r < f → zi B 226 34 = (i : Int) → (∀ q : Nat, q < i → ri B 246 q = -1 ∧ ri B 249 q = q) → ∃ C, z_M_renew_12_l N f i B = some C ∧ zi C 226 34 = 60 ∧ (∀ q : Nat, q < 60 → ri C 246 q = -1 ∧ ri C 249 q = q) ∧ fr (fun a j => qNm a j ∨ a = 249) B C := by
  intro r
  induction r with
  | zero =>
    intro i f B h1 h2 h34 hq
    obtain ⟨u, rfl⟩ : ∃ u, f = u + 1 := ⟨f - 1, by omega⟩
    have : i = 60 := by omega
    subst this
    refine ⟨B, ?_, h34, hq, fr.refl _ _⟩
    show z_M_renew_12_b (z_M_renew_12_l N u) N (60 : Nat) B = _
    unfold z_M_renew_12_b
    rw [if_neg (by decide)]
  | succ r ih =>
    intro i f B h1 h2 h34 hq
    obtain ⟨u, rfl⟩ : ∃ u, f = u + 1 := ⟨f - 1, by omega⟩
    have w1 : zw ((i : Int) + 1) = ((i + 1 : Nat) : Int) := by rw [yb_w (by omega) (by omega)]; omega
    have f1 : fr (fun a j => qNm a j ∨ a = 249) B (rs B 246 i (-1)) := fr_rs (Or.inl (Or.inl rfl))
    have a1 : zi (rs B 246 i (-1)) 226 34 = (i : Int) := by rw [zi_rs_o (by decide)]; exact h34
    have f2 : fr (fun a j => qNm a j ∨ a = 249) (rs B 246 i (-1)) (zsi (rs B 246 i (-1)) 226 34 ((i : Int) + 1)) := fr_si (Or.inl (Or.inr (Or.inr (Or.inr ⟨rfl, rfl⟩))))
    have a2 : zi (zsi (rs B 246 i (-1)) 226 34 ((i : Int) + 1)) 226 34 = ((i + 1 : Nat) : Int) := by rw [zi_si_s, w1]
    have f3 : fr (fun a j => qNm a j ∨ a = 249) (zsi (rs B 246 i (-1)) 226 34 ((i : Int) + 1)) (rs (zsi (rs B 246 i (-1)) 226 34 ((i : Int) + 1)) 249 i i) := fr_rs (Or.inr rfl)
    have a3 : zi (rs (zsi (rs B 246 i (-1)) 226 34 ((i : Int) + 1)) 249 i i) 226 34 = ((i + 1 : Nat) : Int) := by rw [zi_rs_o (by decide)]; exact a2
    have e : z_M_renew_12_l N (u + 1) i B = z_M_renew_12_l N u ((i + 1 : Nat) : Int) (rs (zsi (rs B 246 i (-1)) 226 34 ((i : Int) + 1)) 249 i i) := by
      show z_M_renew_12_b (z_M_renew_12_l N u) N i B = _
      unfold z_M_renew_12_b z_M_newName
      rw [if_pos (by omega), h34, zwr_ok (by omega) (by omega), zlet_s, a1, a2, zbI_s, show zw (((i + 1 : Nat) : Int) - 1) = (i : Int) by rw [yb_w (by omega) (by omega)]; omega, zwr_ok (by omega) (by omega), w1]
    have v : ∀ q : Nat, q < i + 1 → ri (rs (zsi (rs B 246 i (-1)) 226 34 ((i : Int) + 1)) 249 i i) 246 q = -1 ∧ ri (rs (zsi (rs B 246 i (-1)) 226 34 ((i : Int) + 1)) 249 i i) 249 q = q := fun q hq' => by
      have e1 : ri (rs (zsi (rs B 246 i (-1)) 226 34 ((i : Int) + 1)) 249 i i) 246 q = ri (rs B 246 i (-1)) 246 q := by rw [ri_rs_o (by decide)]; exact zi_si_o (by decide)
      rw [e1]
      by_cases c : q = i
      · subst c
        rw [ri_rs_s, ri_rs_s]
        exact ⟨by decide, yb_w (by omega) (by omega)⟩
      · rw [ri_rs_n (by omega) (by omega) (by omega), ri_rs_n (by omega) (by omega) (by omega)]
        have e2 : ri (zsi (rs B 246 i (-1)) 226 34 ((i : Int) + 1)) 249 q = ri B 249 q := by
          have : ri (zsi (rs B 246 i (-1)) 226 34 ((i : Int) + 1)) 249 q = ri (rs B 246 i (-1)) 249 q := zi_si_o (by decide)
          rw [this, ri_rs_o (by decide)]
        rw [e2]
        exact hq q (by omega)
    obtain ⟨C, c1, c2, c3, c4⟩ := ih (i + 1) u _ (by omega) (by omega) a3 v
    exact ⟨C, by rw [e]; exact c1, c2, c3, ((f1.trans f2).trans f3).trans c4⟩
theorem r_renew (hN : 300000 ≤ N) (hg : g ≤ 60) : ∃ B, z_M_renew N A = some B ∧ RNB B g (ownK g, id, 0, 0) ∧ fr qN9 A B := by
  have f1 : fr qN9 A (zsi A 226 34 0) := fr_si (Or.inl (Or.inr (Or.inr (Or.inr ⟨rfl, rfl⟩))))
  have f2 : fr qN9 (zsi A 226 34 0) (zsi (zsi A 226 34 0) 226 35 0) := fr_si (Or.inr (Or.inr ⟨rfl, rfl⟩))
  have v1 : zi (zsi (zsi A 226 34 0) 226 35 0) 226 34 = 0 := by rw [zi_si_j (by decide), zi_si_s]; decide
  have v2 : zi (zsi (zsi A 226 34 0) 226 35 0) 226 35 = 0 := by rw [zi_si_s]; decide
  have e : z_M_renew N A = z_M_renew_12 N 0 (zsi (zsi A 226 34 0) 226 35 0) := by
    unfold z_M_renew
    rw [zlet_s, zlet_s]
  generalize zsi (zsi A 226 34 0) 226 35 0 = B at *
  obtain ⟨C, c1, c2, c3, c4⟩ := r_own (N := N) hg 60 0 N B (by omega) (by omega) v1 (fun q hq => absurd hq (Nat.not_lt_zero _))
  rw [show ((0 : Nat) : Int) = 0 from rfl] at c1
  refine ⟨C, by rw [e]; exact c1, ⟨?_, fun i hi => (c3 i hi).1, fun i h1 h2 => ?_, fun r hr => ?_, ?_⟩, (f1.trans f2).trans (c4.mono (fun a j z => z.elim Or.inl (fun z => Or.inr (Or.inl z))))⟩
  · show _ = ((60 + ((ownK g).length - g) : Nat) : Int)
    rw [ownK_len, c2, Nat.sub_self]
    rfl
  · have h2 : i < (ownK g).length := h2
    rw [ownK_len] at h2
    omega
  · show _ = (phi g r : Int)
    unfold phi
    rw [if_pos hr]
    exact (c3 r (by omega)).2
  · show _ = ((0 : Nat) : Int)
    rw [c4.i (fun z => by unfold qNm at z; omega)]; exact v2
/-- a new entry -/
theorem RNB_put {B : zA} {y : Nd} (hg : g ≤ 60) (hw : WNS g m s) (hn : RNB A g s) (f : fr (fun a j => ((a = 246 ∨ a = 247 ∨ a = 248) ∧ j = 60 + (s.1.length - g)) ∨ (a = 226 ∧ j = 34)) A B) (h34 : zi B 226 34 = ((60 + (s.1.length - g) + 1 : Nat) : Int)) (hy : RKy B g y (60 + (s.1.length - g))) : RNB B g (s.1 ++ [y], s.2) := by
  obtain ⟨n1, n2, n3, n4, n5⟩ := hn
  have hgl := hw.1
  have hl : (s.1 ++ [y]).length = s.1.length + 1 := by rw [List.length_append]; rfl
  refine ⟨?_, fun i hi => by rw [f.e (fun z => by omega)]; exact n2 i hi, fun i h1 h2 => ?_, fun r hr => by rw [f.e (fun z => by omega)]; exact n4 r hr, by rw [f.i (fun z => by omega)]; exact n5⟩
  · show _ = ((60 + ((s.1 ++ [y]).length - g) : Nat) : Int)
    rw [hl, h34]
    congr 1
    omega
  · have h2 : i < (s.1 ++ [y]).length := h2
    rw [hl] at h2
    show RKy B g (kat (s.1 ++ [y]) i) _
    by_cases c : i < s.1.length
    · rw [kat_app1 c]
      have := n3 i h1 c
      unfold RKy at this ⊢
      rw [f.e (fun z => by omega), f.e (fun z => by omega), f.e (fun z => by omega)]
      exact this
    · have : i = s.1.length := by omega
      subst this
      rw [kat_app2]; exact hy
theorem r_nameOf_run {y : Nd} (hg : g ≤ 60) (hw : WNS g m s) (hm : m ≤ 1000) (hn : RNB A g s) (hy : KO y) (y5 : y.1 ≠ 5) (wy1 : zw (trK g y).2.1 = (trK g y).2.1) (wy2 : zw (trK g y).2.2 = (trK g y).2.2) : ∀ (r x f : Nat), x + r = 60 + (s.1.length - g) → r < f → (∀ i, g ≤ i → i < s.1.length → 60 + (i - g) < x → kat s.1 i ≠ y) → ∃ B, z_M_nameOf_3_l N f (trK g y).1 (trK g y).2.1 (trK g y).2.2 x A = some ((phi g (mkN s.1 y).1 : Int), B) ∧ RNB B g ((mkN s.1 y).2, s.2) ∧ fr qNm A B := by
  obtain ⟨a1, a2, a3, a4, a5, a6, a7, a8, a9⟩ := id hw
  obtain ⟨n1, n2, n3, n4, n5⟩ := id hn
  have t0 := trK_0 (g := g) hy y5
  have y8 : y.1 ≠ 8 := by
    rcases hy with ⟨v, rfl⟩ | ⟨o, a, b, o1, o2, rfl⟩ | ⟨a, c, rfl⟩ | ⟨n, rfl⟩
    · show (0 : Int) ≠ 8; decide
    · show (1 : Int) ≠ 8; decide
    · show (2 : Int) ≠ 8; decide
    · show (5 : Int) ≠ 8; decide
  intro r
  induction r with
  | zero =>
    intro x f h1 h2 hq
    obtain ⟨u, rfl⟩ : ∃ u, f = u + 1 := ⟨f - 1, by omega⟩
    have hx : x = 60 + (s.1.length - g) := by omega
    rcases mkN_ok s.1 y with ⟨b1, b2, -⟩ | ⟨b1, b2, b3⟩
    · exfalso
      by_cases c : (mkN s.1 y).1 < g
      · rw [a6 _ c] at b2
        exact y8 (by rw [← b2])
      · exact hq _ (by omega) b1 (by omega) b2
    · have st : z_M_nameOf_3_l N (u + 1) (trK g y).1 (trK g y).2.1 (trK g y).2.2 x A = z_M_nameOf_54 N (trK g y).1 (trK g y).2.1 (trK g y).2.2 A := by
        show z_M_nameOf_3_b (z_M_nameOf_3_l N u) N _ _ _ x A = _
        unfold z_M_nameOf_3_b
        rw [n1, if_neg (by omega)]
      rw [st]
      unfold z_M_nameOf_54
      generalize hQ : 60 + (s.1.length - g) = Qi at *
      have f1 : fr (fun a j => ((a = 246 ∨ a = 247 ∨ a = 248) ∧ j = Qi) ∨ (a = 226 ∧ j = 34)) A (rs A 246 Qi (trK g y).1) := fr_rs (Or.inl ⟨Or.inl rfl, by omega⟩)
      have z1 : zi (rs A 246 Qi (trK g y).1) 226 34 = (Qi : Int) := by rw [zi_rs_o (by decide)]; exact n1
      have f2 : fr (fun a j => ((a = 246 ∨ a = 247 ∨ a = 248) ∧ j = Qi) ∨ (a = 226 ∧ j = 34)) (rs A 246 Qi (trK g y).1) (rs (rs A 246 Qi (trK g y).1) 247 Qi (trK g y).2.1) := fr_rs (Or.inl ⟨Or.inr (Or.inl rfl), by omega⟩)
      have z2 : zi (rs (rs A 246 Qi (trK g y).1) 247 Qi (trK g y).2.1) 226 34 = (Qi : Int) := by rw [zi_rs_o (by decide)]; exact z1
      have f3 : fr (fun a j => ((a = 246 ∨ a = 247 ∨ a = 248) ∧ j = Qi) ∨ (a = 226 ∧ j = 34)) (rs (rs A 246 Qi (trK g y).1) 247 Qi (trK g y).2.1) (rs (rs (rs A 246 Qi (trK g y).1) 247 Qi (trK g y).2.1) 248 Qi (trK g y).2.2) := fr_rs (Or.inl ⟨Or.inr (Or.inr rfl), by omega⟩)
      have z3 : zi (rs (rs (rs A 246 Qi (trK g y).1) 247 Qi (trK g y).2.1) 248 Qi (trK g y).2.2) 226 34 = (Qi : Int) := by rw [zi_rs_o (by decide)]; exact z2
      have v1 : ri (rs (rs (rs A 246 Qi (trK g y).1) 247 Qi (trK g y).2.1) 248 Qi (trK g y).2.2) 246 Qi = (trK g y).1 := by rw [ri_rs_o (by decide), ri_rs_o (by decide), ri_rs_s, yb_w (by omega) (by omega)]
      have v2 : ri (rs (rs (rs A 246 Qi (trK g y).1) 247 Qi (trK g y).2.1) 248 Qi (trK g y).2.2) 247 Qi = (trK g y).2.1 := by rw [ri_rs_o (by decide), ri_rs_s, wy1]
      have v3 : ri (rs (rs (rs A 246 Qi (trK g y).1) 247 Qi (trK g y).2.1) 248 Qi (trK g y).2.2) 248 Qi = (trK g y).2.2 := by rw [ri_rs_s, wy2]
      rw [n1, zwr_ok (by omega) (by omega), z1, zwr_ok (by omega) (by omega), z2, zwr_ok (by omega) (by omega), zlet_s, z3]
      generalize rs (rs (rs A 246 Qi (trK g y).1) 247 Qi (trK g y).2.1) 248 Qi (trK g y).2.2 = B at *
      have f4 : fr (fun a j => ((a = 246 ∨ a = 247 ∨ a = 248) ∧ j = Qi) ∨ (a = 226 ∧ j = 34)) B (zsi B 226 34 ((Qi : Int) + 1)) := fr_si (Or.inr ⟨rfl, rfl⟩)
      have z4 : zi (zsi B 226 34 ((Qi : Int) + 1)) 226 34 = ((Qi + 1 : Nat) : Int) := by rw [zi_si_s, yb_w (by omega) (by omega)]; omega
      have v4 : ∀ (a : Nat), a ≠ 226 → ri (zsi B 226 34 ((Qi : Int) + 1)) a Qi = ri B a Qi := fun a ha => zi_si_o ha
      rw [z4]
      have fA := ((f1.trans f2).trans f3).trans f4
      refine ⟨_, ?_, ?_, fA.mono (fun a j z => by unfold qNm; omega)⟩
      · rw [b2, yb_w (by omega) (by omega)]
        have : phi g s.1.length = Qi := by unfold phi; rw [if_neg (by omega)]; omega
        rw [this, show ((Qi + 1 : Nat) : Int) - 1 = Qi by omega]
      · rw [b3]
        refine RNB_put (m := m) hg hw hn (fA.mono (fun a j z => by omega)) (by rw [hQ]; exact z4) ?_
        rw [hQ]
        unfold RKy
        rw [if_neg y5, v4 _ (by decide), v4 _ (by decide), v4 _ (by decide), v1, v2, v3]
  | succ r ih =>
    intro x f h1 h2 hq
    obtain ⟨u, rfl⟩ : ∃ u, f = u + 1 := ⟨f - 1, by omega⟩
    have w1 : zw ((x : Int) + 1) = ((x + 1 : Nat) : Int) := by rw [yb_w (by omega) (by omega)]; omega
    have st : z_M_nameOf_3_l N (u + 1) (trK g y).1 (trK g y).2.1 (trK g y).2.2 x A = (if ri A 246 x = (trK g y).1 then (if ri A 247 x = (trK g y).2.1 then (if ri A 248 x = (trK g y).2.2 then some ((x : Int), A) else z_M_nameOf_3_l N u (trK g y).1 (trK g y).2.1 (trK g y).2.2 ((x + 1 : Nat) : Int) A) else z_M_nameOf_3_l N u (trK g y).1 (trK g y).2.1 (trK g y).2.2 ((x + 1 : Nat) : Int) A) else z_M_nameOf_3_l N u (trK g y).1 (trK g y).2.1 (trK g y).2.2 ((x + 1 : Nat) : Int) A) := by
      show z_M_nameOf_3_b (z_M_nameOf_3_l N u) N _ _ _ x A = _
      unfold z_M_nameOf_3_b
      rw [n1, if_pos (by omega), zrd_ok (by omega) (by omega), zrd_ok (by omega) (by omega), zrd_ok (by omega) (by omega), w1]
    have go : (∀ i, g ≤ i → i < s.1.length → 60 + (i - g) = x → kat s.1 i ≠ y) → ∃ B, z_M_nameOf_3_l N u (trK g y).1 (trK g y).2.1 (trK g y).2.2 ((x + 1 : Nat) : Int) A = some ((phi g (mkN s.1 y).1 : Int), B) ∧ RNB B g ((mkN s.1 y).2, s.2) ∧ fr qNm A B := fun hx => ih (x + 1) u (by omega) (by omega) (fun i i1 i2 i3 => by
      by_cases e : 60 + (i - g) = x
      · exact hx i i1 i2 e
      · exact hq i i1 i2 (by omega))
    by_cases c60 : x < 60
    · rw [st, n2 x c60, if_neg (by omega)]
      exact go (fun i i1 i2 e => by omega)
    · obtain ⟨i, hi⟩ : ∃ i, i = x - 60 + g := ⟨_, rfl⟩
      have i1 : g ≤ i := by omega
      have i2 : i < s.1.length := by omega
      have ix : 60 + (i - g) = x := by omega
      have hk := n3 i i1 i2
      rw [ix] at hk
      unfold RKy at hk
      have onl : ∀ j, g ≤ j → j < s.1.length → 60 + (j - g) = x → j = i := fun j j1 j2 j3 => by omega
      by_cases k5 : (kat s.1 i).1 = 5
      · rw [if_pos k5] at hk
        rw [st, hk, if_neg (by omega)]
        exact go (fun j j1 j2 e z => by rw [onl j j1 j2 e] at z; rw [z] at k5; exact y5 k5)
      · rw [if_neg k5] at hk
        by_cases cy : kat s.1 i = y
        · rw [cy] at hk
          have e1 : ri A 246 x = (trK g y).1 := congrArg (fun q : Int × Int × Int => q.1) hk
          have e2 : ri A 247 x = (trK g y).2.1 := congrArg (fun q : Int × Int × Int => q.2.1) hk
          have e3 : ri A 248 x = (trK g y).2.2 := congrArg (fun q : Int × Int × Int => q.2.2) hk
          rw [st, if_pos e1, if_pos e2, if_pos e3]
          rcases mkN_ok s.1 y with ⟨b1, b2, b3⟩ | ⟨b1, -, -⟩
          · have : (mkN s.1 y).1 = i := by
              rcases Nat.lt_trichotomy (mkN s.1 y).1 i with z | z | z
              · exact absurd (b2.trans cy.symm) (a8 _ _ z i2)
              · exact z
              · exact absurd (cy.trans b2.symm) (a8 _ _ z b1)
            refine ⟨A, ?_, by rw [b3]; exact hn, fr.refl _ _⟩
            rw [this]
            unfold phi
            rw [if_neg (by omega), ix]
          · exact absurd cy (b1 i i2)
        · have hne : ¬ (ri A 246 x = (trK g y).1 ∧ ri A 247 x = (trK g y).2.1 ∧ ri A 248 x = (trK g y).2.2) := fun z => by
            have : trK g (kat s.1 i) = trK g y := by
              rw [← hk, z.1, z.2.1, z.2.2]
            exact cy (trK_inj hg (a7 i i1 i2) hy k5 y5 this)
          have g0 := go (fun j j1 j2 e z => by rw [onl j j1 j2 e] at z; exact cy z)
          rw [st]
          by_cases d1 : ri A 246 x = (trK g y).1
          · rw [if_pos d1]
            by_cases d2 : ri A 247 x = (trK g y).2.1
            · rw [if_pos d2, if_neg (fun d3 => hne ⟨d1, d2, d3⟩)]
              exact g0
            · rw [if_neg d2]; exact g0
          · rw [if_neg d1]; exact g0
theorem r_nameOf {y : Nd} (hN : 300000 ≤ N) (hg : g ≤ 60) (hw : WNS g m s) (hm : m ≤ 1000) (hn : RNB A g s) (hy : KO y) (y5 : y.1 ≠ 5) (wy1 : zw (trK g y).2.1 = (trK g y).2.1) (wy2 : zw (trK g y).2.2 = (trK g y).2.2) : ∃ B, z_M_nameOf N (trK g y).1 (trK g y).2.1 (trK g y).2.2 A = some ((phi g (mkN s.1 y).1 : Int), B) ∧ RNB B g ((mkN s.1 y).2, s.2) ∧ fr qNm A B := by
  have := hw.2.1
  exact r_nameOf_run (N := N) hg hw hm hn hy y5 wy1 wy2 (60 + (s.1.length - g)) 0 N (by omega) (by omega) (fun i _ _ h => by omega)
theorem r_newName (hg : g ≤ 60) (hw : WNS g m s) (hm : m ≤ 1000) (hn : RNB A g s) : ∃ B, z_M_newName N A = some ((phi g (mkN s.1 (5, (s.2.2.2 : Int), 0, 0)).1 : Int), B) ∧ RNB B g ((mkN s.1 (5, (s.2.2.2 : Int), 0, 0)).2, s.2) ∧ fr qNm A B := by
  obtain ⟨a1, a2, a3, a4, a5, a6, a7, a8, a9⟩ := id hw
  obtain ⟨n1, n2, n3, n4, n5⟩ := id hn
  rcases mkN_ok s.1 (5, (s.2.2.2 : Int), 0, 0) with ⟨b1, b2, -⟩ | ⟨b1, b2, b3⟩
  · exfalso
    have := a9 _ b1 _ b2
    omega
  · unfold z_M_newName
    generalize hQ : 60 + (s.1.length - g) = Qi at *
    have f1 : fr (fun a j => ((a = 246 ∨ a = 247 ∨ a = 248) ∧ j = Qi) ∨ (a = 226 ∧ j = 34)) A (rs A 246 Qi (-1)) := fr_rs (Or.inl ⟨Or.inl rfl, by omega⟩)
    have z1 : zi (rs A 246 Qi (-1)) 226 34 = (Qi : Int) := by rw [zi_rs_o (by decide)]; exact n1
    have v1 : ri (rs A 246 Qi (-1)) 246 Qi = -1 := by rw [ri_rs_s]; decide
    rw [n1, zwr_ok (by omega) (by omega), zlet_s, z1]
    generalize rs A 246 Qi (-1) = B at *
    have f4 : fr (fun a j => ((a = 246 ∨ a = 247 ∨ a = 248) ∧ j = Qi) ∨ (a = 226 ∧ j = 34)) B (zsi B 226 34 ((Qi : Int) + 1)) := fr_si (Or.inr ⟨rfl, rfl⟩)
    have z4 : zi (zsi B 226 34 ((Qi : Int) + 1)) 226 34 = ((Qi + 1 : Nat) : Int) := by rw [zi_si_s, yb_w (by omega) (by omega)]; omega
    have v4 : ri (zsi B 226 34 ((Qi : Int) + 1)) 246 Qi = -1 := by rw [← v1]; exact zi_si_o (by decide)
    rw [z4]
    refine ⟨_, ?_, ?_, (f1.trans f4).mono (fun a j z => by unfold qNm; omega)⟩
    · rw [b2, yb_w (by omega) (by omega)]
      have : phi g s.1.length = Qi := by unfold phi; rw [if_neg (by omega)]; omega
      rw [this, show ((Qi + 1 : Nat) : Int) - 1 = Qi by omega]
    · rw [b3]
      refine RNB_put (m := m) hg hw hn ((f1.trans f4).mono (fun a j z => by omega)) (by rw [hQ]; exact z4) ?_
      rw [hQ]
      unfold RKy
      rw [if_pos rfl]
      exact v4
theorem r_least_run {t : Nat} (hg : g ≤ 60) (hn : ∀ r : Nat, r < g → ri A 249 r = (phi g (s.2.1 r) : Int)) : ∀ (n f : Nat) (acc : Int), n ≤ g → n < f → ((acc = -1 ∧ ∀ r, n ≤ r → r < g → s.2.1 r ≠ t) ∨ (∃ q : Nat, n ≤ q ∧ q < g ∧ acc = q ∧ s.2.1 q = t ∧ ∀ r, n ≤ r → r < q → s.2.1 r ≠ t)) → z_M_least_16_l N f (phi g t : Int) acc ((n : Int) - 1) A = some (lsF s.2.1 t g) := by
  intro n
  induction n with
  | zero =>
    intro f acc h1 h2 ha
    obtain ⟨u, rfl⟩ : ∃ u, f = u + 1 := ⟨f - 1, by omega⟩
    show z_M_least_16_b (z_M_least_16_l N u) N _ acc (((0 : Nat) : Int) - 1) A = _
    unfold z_M_least_16_b
    rw [if_pos (by decide)]
    rcases lsF_ok (nm := s.2.1) (t := t) g with ⟨e1, e2⟩ | ⟨l, l1, l2, l3, l4⟩
    · rw [e1]
      rcases ha with ⟨ha, -⟩ | ⟨q, -, q2, -, q4, -⟩
      · rw [ha]
      · exact absurd q4 (e2 q q2)
    · rw [l2]
      rcases ha with ⟨-, ha⟩ | ⟨q, -, q2, q3, q4, q5⟩
      · exact absurd l3 (ha l (by omega) l1)
      · have : q = l := by
          rcases Nat.lt_trichotomy q l with z | z | z
          · exact absurd q4 (l4 q z)
          · exact z
          · exact absurd l3 (q5 l (by omega) z)
        rw [q3, this]
  | succ n ih =>
    intro f acc h1 h2 ha
    obtain ⟨u, rfl⟩ : ∃ u, f = u + 1 := ⟨f - 1, by omega⟩
    have e1 : (((n + 1 : Nat) : Int) - 1) = (n : Int) := by omega
    have w1 : zw ((n : Int) + (-1)) = (n : Int) - 1 := by rw [yb_w (by omega) (by omega)]; omega
    rw [e1]
    show z_M_least_16_b (z_M_least_16_l N u) N _ acc (n : Int) A = _
    unfold z_M_least_16_b
    rw [if_neg (by omega), zrd_ok (by omega) (by omega), hn n (by omega), w1]
    by_cases c : s.2.1 n = t
    · rw [if_pos (by rw [c])]
      refine ih u _ (by omega) (by omega) (Or.inr ⟨n, Nat.le_refl _, by omega, rfl, c, fun r r1 r2 => by omega⟩)
    · rw [if_neg (fun z => c (phi_inj hg (Int.natCast_inj.mp z)))]
      refine ih u _ (by omega) (by omega) ?_
      rcases ha with ⟨ha, hb⟩ | ⟨q, q1, q2, q3, q4, q5⟩
      · exact Or.inl ⟨ha, fun r r1 r2 => by
          by_cases e : r = n
          · rw [e]; exact c
          · exact hb r (by omega) r2⟩
      · exact Or.inr ⟨q, by omega, q2, q3, q4, fun r r1 r2 => by
          by_cases e : r = n
          · rw [e]; exact c
          · exact q5 r (by omega) r2⟩
theorem r_least {p t : Nat} (hN : 300000 ≤ N) (hp : p < 4) (hg : g ≤ 60) (hr : ri A 230 p = g) (hn : RNB A g s) : z_M_least N p (phi g t : Int) A = some (lsF s.2.1 t g) := by
  unfold z_M_least z_M_least_16
  rw [z_M_row_e (by omega) (by omega), zbP_s, zrd_ok (by omega) (by omega), show (4 : Int) * 0 + p = p by omega, hr, yb_w (by omega) (by omega)]
  exact r_least_run hg hn.2.2.2.1 g N (-1) (Nat.le_refl _) (by omega) (Or.inl ⟨rfl, fun r r1 r2 => by omega⟩)
end
