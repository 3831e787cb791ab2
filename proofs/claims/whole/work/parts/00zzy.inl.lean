/-! INLINE, on lists -/
def sfn (b : Int) (i : It) (j : Nat) : Int := if ¬ (i.1 = 0 ∧ j = 1) ∧ ¬ (i.1 = 2 ∧ j = 3) ∧ ¬ (i.1 = 7 ∧ j = 1) ∧ 6 ≤ ig i (j + 1) then ig i (j + 1) + b else ig i (j + 1)
def shf (b : Int) (i : It) : It := (i.1, sfn b i 0, sfn b i 1, sfn b i 2, sfn b i 3)
theorem shf_g (b : Int) (i : It) {j : Nat} (h : j < 4) : ig (shf b i) (j + 1) = sfn b i j := by
  rcases (show j = 0 ∨ j = 1 ∨ j = 2 ∨ j = 3 by omega) with rfl | rfl | rfl | rfl <;> rfl
theorem shf_sk (b : Int) (i : It) : sk (shf b i) = sk i := by
  unfold sk
  show (i.1, if i.1 = 7 then sfn b i 1 else 0) = _
  by_cases c : i.1 = 7
  · rw [if_pos c, if_pos c]
    unfold sfn
    rw [if_neg (fun z => z.2.2.1 ⟨c, rfl⟩)]
    rfl
  · rw [if_neg c, if_neg c]
def inl1 (Q : Pr) (s : List It × Nat × Nat) (i : It) : List It × Nat × Nat := if i.1 = 7 ∧ s.2.1 + Q.2.2 (ig i 2).toNat ≤ 66 then (s.1 ++ ((1, (s.2.1 : Int), ig i 1, 0, 0) :: (Q.2.1 (ig i 2).toNat).map (shf ((s.2.1 : Int) - 6))), s.2.1 + Q.2.2 (ig i 2).toNat - 6, s.2.2 + 1) else (s.1 ++ [i], s.2.1, s.2.2)
def inS (Q : Pr) (X : List It) (g k : Nat) : List It × Nat × Nat := (X.take k).foldl (inl1 Q) ([], g, 0)
theorem inS_0 {Q : Pr} {X : List It} {g : Nat} : inS Q X g 0 = ([], g, 0) := rfl
theorem inS_s {Q : Pr} {X : List It} {g k : Nat} (h : k < X.length) : inS Q X g (k + 1) = inl1 Q (inS Q X g k) (itm X k) := by
  unfold inS
  rw [List.take_succ_eq_append_getElem h, List.foldl_append, itm_get h]
  rfl
def Rep (nd : Int → Nat) : List It → List It → Prop
  | [], Y => Y = []
  | i :: X, Y => ∃ W Y', Y = W ++ Y' ∧ (W = [i] ∨ (i.1 = 7 ∧ bal nd (nd i.2.2.1) W)) ∧ Rep nd X Y'
theorem Rep_app {nd : Int → Nat} : ∀ {X Z Y : List It}, Rep nd (X ++ Z) Y → ∃ Y1 Y2, Y = Y1 ++ Y2 ∧ Rep nd X Y1 ∧ Rep nd Z Y2
  | [], Z, Y, h => ⟨[], Y, rfl, rfl, h⟩
  | i :: X, Z, Y, h => by
    obtain ⟨W, Y', h1, h2, h3⟩ := h
    obtain ⟨Y1, Y2, e1, e2, e3⟩ := Rep_app h3
    exact ⟨W ++ Y1, Y2, by rw [h1, e1, List.append_assoc], ⟨W, Y1, rfl, h2, e2⟩, e3⟩
theorem Rep_snoc {nd : Int → Nat} {i : It} {W : List It} (hW : W = [i] ∨ (i.1 = 7 ∧ bal nd (nd i.2.2.1) W)) : ∀ {X Y : List It}, Rep nd X Y → Rep nd (X ++ [i]) (Y ++ W)
  | [], Y, h => by
    have : Y = [] := h
    subst this
    exact ⟨W, [], by simp, hW, rfl⟩
  | j :: X, Y, h => by
    obtain ⟨V, Y', h1, h2, h3⟩ := h
    exact ⟨V, Y' ++ W, by rw [h1, List.append_assoc], h2, Rep_snoc hW h3⟩
theorem Rep_plain {nd : Int → Nat} : ∀ {X Y : List It}, Rep nd X Y → (∀ i ∈ X, i.1 ≤ 6) → Y = X
  | [], _, h, _ => h
  | i :: X, Y, h, hp => by
    obtain ⟨W, Y', h1, h2, h3⟩ := h
    have := Rep_plain h3 (fun j hj => hp j (List.mem_cons_of_mem _ hj))
    rcases h2 with h2 | h2
    · rw [h1, h2, this]; rfl
    · have := hp i List.mem_cons_self
      omega
theorem bal_rep {nd : Int → Nat} : ∀ n X, bal nd n X → ∀ Y, Rep nd X Y → bal nd n Y := by
  apply bal_ind
  · intro n Y h
    have : Y = [] := h
    rw [this]; exact bal_nil n
  · intro n i X hi ih Y h
    obtain ⟨W, Y', h1, h2, h3⟩ := h
    rw [h1]
    refine bal_app ?_ (ih Y' h3)
    rcases h2 with h2 | ⟨h7, h2⟩
    · rw [h2]; exact bal_one hi
    · rcases hi with hi | ⟨m, rfl, -, hm⟩
      · omega
      · exact bal_mono _ _ h2 _ (by omega)
  · intro n a P b Q c X ha hb hc ihP ihQ ihX Y h
    obtain ⟨Wa, Y1, e1, e2, e3⟩ := h
    obtain ⟨P', Y2, e4, e5, e6⟩ := Rep_app e3
    obtain ⟨Wb, Y3, e7, e8, e9⟩ := e6
    obtain ⟨Q', Y4, e10, e11, e12⟩ := Rep_app e9
    obtain ⟨Wc, Y5, e13, e14, e15⟩ := e12
    have wa : Wa = [a] := e2.resolve_right (fun z => by omega)
    have wb : Wb = [b] := e8.resolve_right (fun z => by omega)
    have wc : Wc = [c] := e14.resolve_right (fun z => by omega)
    rw [e1, e4, e7, e10, e13, wa, wb, wc]
    have := bal_if ha hb hc (ihP P' e5) (ihQ Q' e11) (ihX Y5 e15)
    simpa using this
  · intro n a P b Q c X ha hb hc hPp ihP ihQ ihX Y h
    obtain ⟨Wa, Y1, e1, e2, e3⟩ := h
    obtain ⟨P', Y2, e4, e5, e6⟩ := Rep_app e3
    obtain ⟨Wb, Y3, e7, e8, e9⟩ := e6
    obtain ⟨Q', Y4, e10, e11, e12⟩ := Rep_app e9
    obtain ⟨Wc, Y5, e13, e14, e15⟩ := e12
    have wa : Wa = [a] := e2.resolve_right (fun z => by omega)
    have wb : Wb = [b] := e8.resolve_right (fun z => by omega)
    have wc : Wc = [c] := e14.resolve_right (fun z => by omega)
    have pp := Rep_plain e5 (fun i hi => (hPp i hi).2)
    rw [e1, e4, e7, e10, e13, wa, wb, wc, pp]
    have := bal_wh ha hb hc hPp (ihQ Q' e11) (ihX Y5 e15)
    simpa using this
theorem okI_g {T p g g' : Nat} {i : It} (h : okI T p g i) (hg : g ≤ g') : okI T p g' i := by
  obtain ⟨o1, o2, o3, o4, o5⟩ := h
  exact ⟨o1, o2, fun j hj => ⟨(o3 j hj).1, (o3 j hj).2.1, fun hr => by have := (o3 j hj).2.2 hr; omega⟩, o4, o5⟩
theorem okI_shf {T p q g h : Nat} {i : It} (hi : okI T q h i) (hqp : q < p) (h60 : g + h ≤ 66) (h6 : 6 ≤ g) : okI T p (g + h - 6) (shf ((g : Int) - 6) i) := by
  obtain ⟨o1, o2, o3, o4, o5⟩ := hi
  have hb := nbk_le i.1
  refine ⟨o1, o2, fun j hj => ?_, fun z => ?_, fun z => ?_⟩
  · have hj : j < nbk i.1 := hj
    rw [shf_g _ _ (by omega)]
    obtain ⟨a1, a2, a3⟩ := o3 j hj
    unfold sfn
    by_cases c : ¬ (i.1 = 0 ∧ j = 1) ∧ ¬ (i.1 = 2 ∧ j = 3) ∧ ¬ (i.1 = 7 ∧ j = 1) ∧ 6 ≤ ig i (j + 1)
    · have := a3 ⟨c.1, c.2.1, c.2.2.1⟩
      rw [if_pos c]
      exact ⟨by omega, by omega, fun _ => by omega⟩
    · rw [if_neg c]
      refine ⟨a1, a2, fun hr => ?_⟩
      have hr : isr i.1 j := hr
      have := a3 hr
      unfold isr at hr
      by_cases d : 6 ≤ ig i (j + 1)
      · exact absurd ⟨hr.1, hr.2.1, hr.2.2, d⟩ c
      · omega
  · have z : i.1 = 2 := z
    have : ig (shf ((g : Int) - 6) i) (3 + 1) = _ := shf_g _ _ (by omega)
    show 0 ≤ ig (shf ((g : Int) - 6) i) (3 + 1) ∧ ig (shf ((g : Int) - 6) i) (3 + 1) ≤ 5
    rw [this]
    unfold sfn
    rw [if_neg (fun y => y.2.1 ⟨z, rfl⟩)]
    exact o4 z
  · have z : i.1 = 7 := z
    have : ig (shf ((g : Int) - 6) i) (1 + 1) = _ := shf_g _ _ (by omega)
    show 0 ≤ ig (shf ((g : Int) - 6) i) (1 + 1) ∧ ig (shf ((g : Int) - 6) i) (1 + 1) < _ ∧ ig (shf ((g : Int) - 6) i) (1 + 1) < _
    rw [this]
    unfold sfn
    rw [if_neg (fun y => y.2.2.1 ⟨z, rfl⟩)]
    have := o5 z
    exact ⟨this.1, this.2.1, by have := this.2.2; show ig i 2 < _; omega⟩
theorem okI_mov {T p : Nat} {a b : Int} {g : Nat} (ha : 0 ≤ a ∧ a < g) (hb : 0 ≤ b ∧ b < g) (hg : g ≤ 60) : okI T p g (1, a, b, 0, 0) := by
  refine ⟨by show (0 : Int) ≤ 1; decide, by show (1 : Int) ≤ 12; decide, fun j hj => ?_, fun z => ?_, fun z => ?_⟩
  · have hj : j < 2 := hj
    rcases (show j = 0 ∨ j = 1 by omega) with rfl | rfl
    · show -2147483648 ≤ a ∧ a < 2147483648 ∧ (_ → 0 ≤ a ∧ a < g)
      exact ⟨by omega, by omega, fun _ => ha⟩
    · show -2147483648 ≤ b ∧ b < 2147483648 ∧ (_ → 0 ≤ b ∧ b < g)
      exact ⟨by omega, by omega, fun _ => hb⟩
  · exact absurd (show (1 : Int) = 2 from z) (by decide)
  · exact absurd (show (1 : Int) = 7 from z) (by decide)
theorem map_shf_sk (b : Int) (X : List It) : X.map sk = (X.map (shf b)).map sk := by
  rw [List.map_map]
  apply List.map_congr_left
  intro i _
  exact (shf_sk b i).symm
/-- what holds after k items -/
theorem inS_inv {Q : Pr} {p g : Nat} {X : List It} (hG : GQ Q) (hp : p ≤ 3) (hX : okL Q.1 p g X) (h7 : 7 ≤ g) (h60 : g ≤ 60) : ∀ k, k ≤ X.length → okL Q.1 p (inS Q X g k).2.1 (inS Q X g k).1 ∧ g ≤ (inS Q X g k).2.1 ∧ (inS Q X g k).2.1 ≤ 60 ∧ ∀ nd sz, WN Q nd sz → Rep nd (X.take k) (inS Q X g k).1 ∧ szL sz (inS Q X g k).1 ≤ szL sz (X.take k) := by
  intro k
  induction k with
  | zero => intro _; exact ⟨fun i hi => (by cases hi), Nat.le_refl _, h60, fun nd sz _ => ⟨rfl, Nat.le_refl _⟩⟩
  | succ k ih =>
    intro hk
    obtain ⟨i1, i2, i3, i4⟩ := ih (by omega)
    have hkl : k < X.length := by omega
    have hoi := hX _ (itm_mem hkl)
    rw [inS_s hkl, List.take_succ_eq_append_getElem hkl, ← itm_get hkl]
    generalize itm X k = i at *
    generalize inS Q X g k = s at *
    unfold inl1
    by_cases c : i.1 = 7 ∧ s.2.1 + Q.2.2 (ig i 2).toNat ≤ 66
    · rw [if_pos c]
      obtain ⟨o1, o2, o3, o4, o5⟩ := hoi
      have ot := o5 c.1
      have hq : exP Q (ig i 2).toNat := Or.inl (by omega)
      obtain ⟨q1, q2, q3, q4⟩ := hG.1.2 _ hq
      have hn : nbk i.1 = 2 := by rw [c.1]; decide
      have ha := (o3 0 (by omega)).2.2 (by unfold isr; omega)
      have ha : 0 ≤ ig i 1 ∧ ig i 1 < g := ha
      refine ⟨fun j hj => ?_, by show g ≤ _; dsimp only; omega, by dsimp only; omega, fun nd sz hW => ?_⟩
      · rcases List.mem_append.mp hj with z | z
        · exact okI_g (i1 j z) (by dsimp only; omega)
        · rcases List.mem_cons.mp z with z | z
          · rw [z]; exact okI_mov ⟨by omega, by dsimp only; omega⟩ ⟨ha.1, by dsimp only; omega⟩ (by dsimp only; omega)
          · obtain ⟨m, m1, rfl⟩ := List.mem_map.mp z
            exact okI_shf (q4 m m1) (by omega) c.2 (by omega)
      · obtain ⟨r1, r2⟩ := i4 nd sz hW
        have hb := hW.2.1 _ hq
        have el : lvl nd (ig i 2).toNat = nd i.2.2.1 := by
          unfold lvl
          have := hG.1.1
          rw [if_neg (by omega), show (((ig i 2).toNat : Nat) : Int) = ig i 2 by omega]
          rfl
        refine ⟨Rep_snoc (Or.inr ⟨c.1, ?_⟩) r1, ?_⟩
        · rw [← el]
          exact bal_cons (Or.inl ⟨by show (0 : Int) ≤ 1; decide, by show (1 : Int) ≤ 6; decide⟩) (bal_sk _ _ hb _ (map_shf_sk _ _))
        · rw [szL_app, szL_app, szL_cons, ← szL_sk (map_shf_sk ((s.2.1 : Int) - 6) _)]
          have h3 := (hW.2.2.1 (ig i 2).toNat (by omega)).1
          have e2 : szL sz [i] = 1 + sz (ig i 2).toNat := by
            rw [szL_cons, if_pos c.1]
            rfl
          rw [e2, if_neg (show ¬ ((1 : Int), (s.2.1 : Int), ig i 1, (0 : Int), (0 : Int)).1 = 7 by show ¬ (1 : Int) = 7; decide)]
          omega
    · rw [if_neg c]
      refine ⟨fun j hj => ?_, i2, i3, fun nd sz hW => ?_⟩
      · rcases List.mem_append.mp hj with z | z
        · exact i1 j z
        · rw [List.mem_singleton] at z; rw [z]; exact okI_g hoi i2
      · obtain ⟨r1, r2⟩ := i4 nd sz hW
        refine ⟨Rep_snoc (Or.inl rfl) r1, ?_⟩
        rw [szL_app, szL_app]
        omega
def inlQ (Q : Pr) (p : Nat) : Pr := updG Q p (inS Q (Q.2.1 p) (Q.2.2 p) (Q.2.1 p).length).1 (inS Q (Q.2.1 p) (Q.2.2 p) (Q.2.1 p).length).2.1
theorem inl_ok {Q : Pr} {p : Nat} (hG : GQ Q) (hp : exP Q p) : GQ (inlQ Q p) := by
  obtain ⟨a1, a2, a3, a4⟩ := hG.1.2 p hp
  obtain ⟨h1, h2, h3, h4⟩ := inS_inv (Q := Q) (p := p) (g := Q.2.2 p) (X := Q.2.1 p) hG (exP3 hG.1 hp) a4 a1 a2 _ (Nat.le_refl _)
  refine hG.putG hp (by omega) h3 (fun nd sz n hW hb => ?_) (fun nd sz hW => ?_) h1
  · have := (h4 nd sz hW).1
    rw [List.take_length] at this
    exact bal_rep n _ hb _ this
  · have := (h4 nd sz hW).2
    rw [List.take_length] at this
    exact this
