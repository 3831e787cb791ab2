/-! the class's walker: how its cells hold a state of the walk -/
def ix (t : Nat) (D : Nat → T) (x : Int) (u : T) : Prop := ∃ j : Nat, j < t ∧ x = j ∧ D j = u
def ixo (t : Nat) (D : Nat → T) (x : Int) (u : Option T) : Prop := match u with
  | none => x = -1
  | some v => ix t D x v
theorem ix.mono {t t' : Nat} {D D' : Nat → T} {x : Int} {u : T} (h : ix t D x u) (ht : t ≤ t') (hD : ∀ i, i < t → D' i = D i) : ix t' D' x u := by
  obtain ⟨j, h1, h2, h3⟩ := h
  exact ⟨j, by omega, h2, by rw [hD j h1]; exact h3⟩
theorem ixo.mono {t t' : Nat} {D D' : Nat → T} {x : Int} {u : Option T} (h : ixo t D x u) (ht : t ≤ t') (hD : ∀ i, i < t → D' i = D i) : ixo t' D' x u := by
  cases u with
  | none => exact h
  | some v => exact ix.mono h ht hD
def CT (A : zA) (t : Nat) (D : Nat → T) : Prop := Own A ∧ TT A 111 t ∧ GT (tk A 111) t D ∧ ∀ i, i < t → tn A 111 i 6 = -2
def CR (A : zA) (c ta R : Nat) : Prop := zmr A 110 5 = some c ∧ zmr A 110 8 = some ta ∧ zmr A 110 9 = some R
def CPl (A : zA) (c t : Nat) (D f : Nat → T) : Prop := ∀ i : Nat, i < 61 → ix t D (ri A c i) (f i)
def CSd (A : zA) (ta t : Nat) (D : Nat → T) (l : List (Int × Option T)) : Prop := zi A ta 2 = l.length ∧ ∀ (k : Nat) (h : k < l.length), ri A (ta + 1) k = l[k].1 ∧ ixo t D (ri A (ta + 2) k) l[k].2
def CWy (A : zA) (t : Nat) (D : Nat → T) (l : List (Int × T)) : Prop := zi A 110 7 = l.length ∧ ∀ (k : Nat) (h : k < l.length), ∃ j : Nat, j < t ∧ ri A 194 k = 2 * j + l[k].1 ∧ D j = l[k].2 ∧ (l[k].1 = 0 ∨ l[k].1 = 1)
def CFl (A : zA) (sil : Bool) (w i : Int) : Prop := zi A 110 10 = (if sil then 1 else 0) ∧ zi A 110 11 = w ∧ zi A 110 12 = i
def CCc (A : zA) (ta t : Nat) (D : Nat → T) (l : List (Int × Nat × T × T)) : Prop := ∀ q ∈ l, 0 ≤ q.1 ∧ q.1 < 50 ∧ q.2.1 < 61 ∧ ix t D (yv A ta 3 (q.1 * 61 + q.2.1)) q.2.2.1 ∧ ix t D (yv A ta 4 (q.1 * 61 + q.2.1)) q.2.2.2 ∧ zmr A ta 3 ≠ none
def TAI (A : zA) (ta : Nat) : Prop := (zmr A ta 3 = none ∧ zmr A ta 4 = none) ∨ (zmr A ta 3 ≠ none ∧ zmr A ta 4 ≠ none ∧ yl A ta 3 = 3050 ∧ yl A ta 4 = 3050)
def CW (A : zA) (sil : Bool) (c ta R t : Nat) (D : Nat → T) (s : St) : Prop := CT A t D ∧ CR A c ta R ∧ CPl A c t D s.1 ∧ CSd A ta t D s.2.1 ∧ CWy A t D s.2.2.1 ∧ CFl A sil s.2.2.2.1 s.2.2.2.2.1 ∧ CCc A ta t D s.2.2.2.2.2 ∧ TAI A ta
section
variable {A B : zA} {c ta R t t' : Nat} {D D' : Nat → T}
theorem CPl.mono {f : Nat → T} (h : CPl A c t D f) (he : ∀ i : Nat, i < 61 → ri B c i = ri A c i) (ht : t ≤ t') (hD : ∀ i, i < t → D' i = D i) : CPl B c t' D' f := fun i hi => by
  rw [he i hi]; exact (h i hi).mono ht hD
theorem CSd.mono {l : List (Int × Option T)} (h : CSd A ta t D l) (h2 : zi B ta 2 = zi A ta 2) (he : ∀ i : Nat, ri B (ta + 1) i = ri A (ta + 1) i ∧ ri B (ta + 2) i = ri A (ta + 2) i) (ht : t ≤ t') (hD : ∀ i, i < t → D' i = D i) : CSd B ta t' D' l := ⟨by rw [h2]; exact h.1, fun k hk => by rw [(he k).1, (he k).2]; exact ⟨(h.2 k hk).1, (h.2 k hk).2.mono ht hD⟩⟩
theorem CWy.mono {l : List (Int × T)} (h : CWy A t D l) (h2 : zi B 110 7 = zi A 110 7) (he : ∀ i : Nat, ri B 194 i = ri A 194 i) (ht : t ≤ t') (hD : ∀ i, i < t → D' i = D i) : CWy B t' D' l := ⟨by rw [h2]; exact h.1, fun k hk => by
  obtain ⟨j, h1, h2, h3, h4⟩ := h.2 k hk
  rw [he k]
  exact ⟨j, by omega, h2, by rw [hD j h1]; exact h3, h4⟩⟩
theorem CFl.mono {sil : Bool} {w i : Int} (h : CFl A sil w i) (h1 : zi B 110 10 = zi A 110 10) (h2 : zi B 110 11 = zi A 110 11) (h3 : zi B 110 12 = zi A 110 12) : CFl B sil w i := ⟨by rw [h1]; exact h.1, by rw [h2]; exact h.2.1, by rw [h3]; exact h.2.2⟩
theorem CCc.mono {l : List (Int × Nat × T × T)} (h : CCc A ta t D l) (h1 : zmr B ta 3 = zmr A ta 3) (he : ∀ e, yv B ta 3 e = yv A ta 3 e ∧ yv B ta 4 e = yv A ta 4 e) (ht : t ≤ t') (hD : ∀ i, i < t → D' i = D i) : CCc B ta t' D' l := fun q hq => by
  obtain ⟨h1', h2, h3, h4, h5, h6⟩ := h q hq
  refine ⟨h1', h2, h3, ?_, ?_, by rw [h1]; exact h6⟩
  · rw [(he _).1]; exact h4.mono ht hD
  · rw [(he _).2]; exact h5.mono ht hD
theorem TAI.mono (h : TAI A ta) (h1 : zmr B ta 3 = zmr A ta 3) (h2 : zmr B ta 4 = zmr A ta 4) (h3 : yl B ta 3 = yl A ta 3) (h4 : yl B ta 4 = yl A ta 4) : TAI B ta := by
  unfold TAI
  rw [h1, h2, h3, h4]; exact h
end
def okc (lv c : Nat) : Prop := c = 193 ∨ ∃ l, l < lv ∧ c = 121 + 3 * l
def okt (ta : Nat) : Prop := ta = 114 ∨ ta = 117
theorem kfx : ∀ r, r < 73 → fx (121 + r) = true ∧ zsh (121 + r) = some (true, 0, 61) := by decide
theorem okc.fx {lv c : Nat} (h : okc lv c) (hl : lv ≤ 24) : fx c = true ∧ zsh c = some (true, 0, 61) ∧ 121 ≤ c ∧ c ≤ 193 ∧ (c = 193 ∨ c < 121 + 3 * lv) := by
  rcases h with rfl | ⟨l, h1, rfl⟩
  · exact ⟨(kfx 72 (by decide)).1, (kfx 72 (by decide)).2, by decide, by decide, Or.inl rfl⟩
  · exact ⟨(kfx (3 * l) (by omega)).1, (kfx (3 * l) (by omega)).2, by omega, by omega, Or.inr (by omega)⟩
theorem okt.fx {ta : Nat} (h : okt ta) : fx ta = true ∧ fx (ta + 1) = true ∧ fx (ta + 2) = true ∧ zsh ta = some (false, 9, 5) ∧ zsh (ta + 1) = some (true, 0, 150) ∧ zsh (ta + 2) = some (true, 0, 150) ∧ dy ta 3 = true ∧ dy ta 4 = true ∧ 114 ≤ ta ∧ ta ≤ 117 ∧ zfr ta 0 = some (ta + 1) ∧ zfr ta 1 = some (ta + 2) := by
  rcases h with rfl | rfl <;> decide
def wl (lv c ta : Nat) : List Nat := [110, 111, ta, ta + 1, ta + 2, 194, c] ++ (List.range (72 - 3 * lv)).map (fun r => 121 + 3 * lv + r)
theorem wl_mem {lv c ta a : Nat} : (wl lv c ta).contains a = true ↔ a = 110 ∨ a = 111 ∨ a = ta ∨ a = ta + 1 ∨ a = ta + 2 ∨ a = 194 ∨ a = c ∨ (121 + 3 * lv ≤ a ∧ a < 193) := by
  unfold wl
  simp only [List.contains_iff_mem, List.mem_append, List.mem_cons, List.mem_map, List.mem_range, List.not_mem_nil, or_false]
  constructor
  · rintro (h | ⟨r, h1, h2⟩)
    · omega
    · omega
  · intro h
    by_cases q : 121 + 3 * lv ≤ a ∧ a < 193
    · exact Or.inr ⟨a - (121 + 3 * lv), by omega, by omega⟩
    · exact Or.inl (by omega)
theorem nc_of {S : List Nat} {a : Nat} (h : ¬ S.contains a = true) : S.contains a = false := by
  cases hc : S.contains a with
  | false => rfl
  | true => exact absurd hc h
/-- more things, more said: from A to B -/
def WX (lv c ta t t' : Nat) (D D' : Nat → T) (A B : zA) : Prop := t ≤ t' ∧ (∀ i, i < t → D' i = D i) ∧ cF (wl lv c ta) A B
theorem WX.trans {lv c ta t t' t'' : Nat} {D D' D'' : Nat → T} {A B C : zA} (h : WX lv c ta t t' D D' A B) (g : WX lv c ta t' t'' D' D'' B C) : WX lv c ta t t'' D D'' A C := ⟨by have := h.1; have := g.1; omega, fun i hi => by rw [g.2.1 i (by have := h.1; omega), h.2.1 i hi], h.2.2.trans g.2.2⟩
theorem WX.up {lv lv' c ta t t' : Nat} {D D' : Nat → T} {A B : zA} (h : WX lv' c ta t t' D D' A B) (hl : lv ≤ lv') : WX lv c ta t t' D D' A B := ⟨h.1, h.2.1, h.2.2.mono (fun a ha => wl_mem.mpr (by have := wl_mem.mp ha; omega))⟩
theorem WX.refl {lv c ta t : Nat} {D : Nat → T} {A : zA} (h : Own A) : WX lv c ta t t D D A A := ⟨Nat.le_refl _, fun _ _ => rfl, cF.refl _ h⟩
section
variable {N : Nat} {A : zA} {sil : Bool} {lv c ta R t : Nat} {D : Nat → T} {s : St}
/-- what leaves the walker's own cells alone, but for things -/
theorem CW.th {B : zA} {t' : Nat} {D' : Nat → T} (h : CW A sil c ta R t D s) (hc : okc lv c) (hl : lv ≤ 24) (hta : okt ta) (hf : cF [111] A B) (hT : CT B t' D') (ht : t ≤ t') (hD : ∀ i, i < t → D' i = D i) : CW B sil c ta R t' D' s := by
  obtain ⟨c1, c2, c3, c4, c5⟩ := hc.fx hl
  obtain ⟨a1, a2, a3, a4, a5, a6, a7, a8, a9, a10, a11⟩ := hta.fx
  obtain ⟨h1, h2, h3, h4, h5, h6, h7, h8⟩ := h
  have n1 : ∀ a, a ≠ 111 → ([111] : List Nat).contains a = false := fun a ha => cont2 ha
  have m1 : ∀ j, zmr B 110 j = zmr A 110 j := fun j => hf.r (by decide) (by decide)
  have m2 : ∀ j, zmr B ta j = zmr A ta j := fun j => hf.r a1 (n1 _ (by omega))
  refine ⟨hT, ⟨by rw [m1]; exact h2.1, by rw [m1]; exact h2.2.1, by rw [m1]; exact h2.2.2⟩, h3.mono (fun i hi => hf.e c1 (n1 _ (by omega))) ht hD, h4.mono (hf.i a1 (n1 _ (by omega))) (fun i => ⟨hf.e a2 (n1 _ (by omega)), hf.e a3 (n1 _ (by omega))⟩) ht hD, h5.mono (hf.i (by decide) (by decide)) (fun i => hf.e (by decide) (by decide)) ht hD, h6.mono (hf.i (by decide) (by decide)) (hf.i (by decide) (by decide)) (hf.i (by decide) (by decide)), h7.mono (m2 _) (fun e => ⟨hf.v a7 (n1 _ (by omega)), hf.v a8 (n1 _ (by omega))⟩) ht hD, h8.mono (m2 _) (m2 _) (hf.n a7 (n1 _ (by omega))) (hf.n a8 (n1 _ (by omega)))⟩
theorem cF111 {B : zA} (hf : cF [111] A B) : cF (wl 24 c ta) A B := hf.mono (fun a ha => by
  simp only [List.contains_iff_mem, List.mem_cons, List.not_mem_nil, or_false] at ha
  exact wl_mem.mpr (by omega))
theorem w_make {k x y z : Int} (hN : 300000 ≤ N) (h : CW A sil c ta R t D s) (hc : okc lv c) (hl : lv ≤ 24) (hta : okt ta) (ht : t < 39000) (hn : wn (k, x, y, z) t) (wk : zw k = k) (wx : zw x = x) (wy : zw y = y) (wz : zw z = z) : ∃ (j t' : Nat) (B : zA) (D' : Nat → T), z_Th_make N 111 k x y z A = some ((j : Int), B) ∧ CW B sil c ta R t' D' s ∧ j < t' ∧ D' j = cden D (k, x, y, z) ∧ t' ≤ t + 1 ∧ WX 24 c ta t t' D D' A B ∧ cF [111] A B := by
  obtain ⟨hO, hTT, hGT, hLK⟩ := h.1
  obtain ⟨j, t', B, b1, b2, b3, b4, b5, b6, b7, b8, b9, b10, b11⟩ := Th_make hN hO (by decide) hTT (by omega) wk wx wy wz
  have kB : ∀ i, i < t → tk B 111 i = tk A 111 i := fun i hi => (b8 i hi).1
  by_cases c1 : t' = t
  · subst c1
    have hG : GT (tk B 111) t' D := hGT.take (Nat.le_refl _) kB
    refine ⟨j, t', B, D, b1, h.th hc hl hta b2 ⟨b2.own, b3, hG, fun i hi => by rw [(b8 i hi).2]; exact hLK i hi⟩ (Nat.le_refl _) (fun _ _ => rfl), b4, ?_, by omega, ⟨Nat.le_refl _, fun _ _ => rfl, cF111 b2⟩, b2⟩
    rw [(hG.1 j b4).2, b5]
  · obtain ⟨rfl, b9'⟩ := b9.resolve_left c1
    have : t' = j + 1 := by omega
    subst this
    have hG := hGT.ext kB b5 hn (fun i hi he => b3.2.1 i j hi (by omega) (by rw [kB i hi, b5]; exact he))
    have hD : ∀ i, i < j → (fun i => if i = j then cden D (k, x, y, z) else D i) i = D i := fun i hi => by dsimp only; rw [if_neg (by omega)]
    refine ⟨j, j + 1, B, _, b1, h.th hc hl hta b2 ⟨b2.own, b3, hG, fun i hi => by
      by_cases z : i < j
      · rw [(b8 i z).2]; exact hLK i z
      · rw [show i = j by omega]; exact b9'⟩ (by omega) hD, by omega, ?_, by omega, ⟨by omega, hD, cF111 b2⟩, b2⟩
    rw [if_pos rfl]
/-- things stay where their cells do -/
theorem TT.fr {S : List Nat} {A B : zA} {o t : Nat} (ho : tho.contains o = true) (h : TT A o t) (hf : cF S A B) (hs : S.contains o = false) : TT B o t ∧ (∀ i, tk B o i = tk A o i) ∧ (∀ i j, tn B o i j = tn A o i j) := by
  have hd := tho_dy ho
  have v0 : ∀ e, yv B o 0 e = yv A o 0 e := fun e => hf.v (dy_of hd (by decide)) hs
  have v1 : ∀ e, yv B o 1 e = yv A o 1 e := fun e => hf.v (dy_of hd (by decide)) hs
  have l0 : yl B o 0 = yl A o 0 := hf.n (dy_of hd (by decide)) hs
  have l1 : yl B o 1 = yl A o 1 := hf.n (dy_of hd (by decide)) hs
  have nB : ∀ i j, tn B o i j = tn A o i j := fun i j => v0 _
  have kB : ∀ i, tk B o i = tk A o i := fun i => by unfold tk; simp only [nB]
  obtain ⟨⟨q, q1, q2, q3, q4, q5, q6⟩, d1, d2⟩ := h
  refine ⟨⟨⟨q, q1, by rw [l0]; exact q2, by rw [l1]; exact q3, q4, ?_, ?_⟩, fun i j hij hj => by rw [kB, kB]; exact d1 i j hij hj, by rw [hf.i (tho_fx ho) hs]; exact d2⟩, kB, nB⟩
  · simp only [nB, v1]; exact q5
  · simp only [nB, v1]; exact q6
theorem CT.fr {S : List Nat} {A B : zA} {t : Nat} {D : Nat → T} (h : CT A t D) (hf : cF S A B) (hs : S.contains 111 = false) : CT B t D := by
  obtain ⟨h1, h2, h3⟩ := TT.fr (by decide) h.2.1 hf hs
  exact ⟨hf.own, h1, h.2.2.1.take (Nat.le_refl _) (fun i _ => h2 i), fun i hi => by rw [h3]; exact h.2.2.2 i hi⟩
/-- a place is set -/
theorem w_set {r j : Nat} (h : CW A sil c ta R t D s) (hc : okc lv c) (hl : lv ≤ 24) (hta : okt ta) (hr : r < 61) (hj : j < t) (ht : t < 39000) : CW (rs A c r j) sil c ta R t D (sSet r (D j) s) ∧ WX 24 c ta t t D D A (rs A c r j) := by
  obtain ⟨c1, c2, c3, c4, c5⟩ := hc.fx hl
  obtain ⟨a1, a2, a3, a4, a5, a6, a7, a8, a9, a10, a11⟩ := hta.fx
  obtain ⟨h1, h2, h3, h4, h5, h6, h7, h8⟩ := h
  have hO := h1.1
  have hf : cF [c] A (rs A c r j) := cF_rs hO c1 (by omega) (cont1 c)
  have n1 : ∀ a, a ≠ c → ([c] : List Nat).contains a = false := fun a ha => cont2 ha
  have m2 : ∀ a j', zmr (rs A c r j) a j' = zmr A a j' := fun _ _ => rfl
  refine ⟨⟨h1.fr hf (n1 _ (by omega)), h2, fun i hi => ?_, h4.mono (zi_rs_o (by omega)) (fun i => ⟨ri_rs_o (by omega), ri_rs_o (by omega)⟩) (Nat.le_refl _) (fun _ _ => rfl), h5.mono (zi_rs_o (by omega)) (fun i => ri_rs_o (by omega)) (Nat.le_refl _) (fun _ _ => rfl), h6.mono (zi_rs_o (by omega)) (zi_rs_o (by omega)) (zi_rs_o (by omega)), h7.mono rfl (fun e => ⟨hf.v a7 (n1 _ (by omega)), hf.v a8 (n1 _ (by omega))⟩) (Nat.le_refl _) (fun _ _ => rfl), h8⟩, Nat.le_refl _, fun _ _ => rfl, hf.mono (fun a ha => ?_)⟩
  · show ix t D (ri (rs A c r j) c i) (if i = r then D j else s.1 i)
    rw [ri_rs (by omega) (by omega)]
    by_cases q : i = r
    · rw [if_pos q, if_pos (by omega)]
      exact ⟨j, hj, yb_w (by omega) (by omega), rfl⟩
    · rw [if_neg q, if_neg (by omega)]
      exact h3 i hi
  · simp only [List.contains_iff_mem, List.mem_cons, List.not_mem_nil, or_false] at ha
    exact wl_mem.mpr (by omega)
end
