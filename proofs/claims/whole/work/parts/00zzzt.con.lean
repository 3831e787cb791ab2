/-! an induction over blocks -/
section
variable {nd : Int → Nat} {kd nm : Nat → Int} {mt : Nat → Nat}
theorem Bl_rec {P : Nat → Nat → Nat → Prop} (h0 : ∀ n a, P n a a)
    (h1 : ∀ n a b, a < b → ((0 ≤ kd a ∧ kd a ≤ 6) ∨ (kd a = 7 ∧ ∃ m, n = m + 1 ∧ nd (nm a) ≤ m)) → Bl nd kd nm mt n (a + 1) b → P n (a + 1) b → P n a b)
    (h2 : ∀ n a b, kd a = 8 → a < mt a → mt a < mt (mt a) → mt (mt a) < b → kd (mt a) = 9 → kd (mt (mt a)) = 12 → mt (mt (mt a)) = a → Bl nd kd nm mt n (a + 1) (mt a) → Bl nd kd nm mt n (mt a + 1) (mt (mt a)) → Bl nd kd nm mt (n + 1) (mt (mt a) + 1) b → P n (a + 1) (mt a) → P n (mt a + 1) (mt (mt a)) → P (n + 1) (mt (mt a) + 1) b → P (n + 1) a b)
    (h3 : ∀ n a b, kd a = 10 → a < mt a → mt a < mt (mt a) → mt (mt a) < b → kd (mt a) = 11 → kd (mt (mt a)) = 12 → mt (mt (mt a)) = a → (∀ k, a < k → k < mt a → 0 ≤ kd k ∧ kd k ≤ 6) → Bl nd kd nm mt n (a + 1) (mt a) → Bl nd kd nm mt n (mt a + 1) (mt (mt a)) → Bl nd kd nm mt (n + 1) (mt (mt a) + 1) b → P n (a + 1) (mt a) → P n (mt a + 1) (mt (mt a)) → P (n + 1) (mt (mt a) + 1) b → P (n + 1) a b) : ∀ n a b, Bl nd kd nm mt n a b → P n a b := by
  have z0 : ∀ (l n a b : Nat), b - a = l → a ≤ b → (∀ k, a ≤ k → k < b → 0 ≤ kd k ∧ kd k ≤ 6) → P n a b := by
    intro l
    induction l with
    | zero =>
      intro n a b e hab _
      have : a = b := by omega
      rw [this]; exact h0 n b
    | succ l ih =>
      intro n a b e hab h
      exact h1 n a b (by omega) (Or.inl (h a (Nat.le_refl _) (by omega))) (Bl_plain (by omega) (fun k k1 k2 => h k (by omega) k2)) (ih n (a + 1) b (by omega) (by omega) (fun k k1 k2 => h k (by omega) k2))
  intro n
  induction n with
  | zero => exact fun a b h => z0 (b - a) 0 a b rfl h.1 h.2
  | succ n ihn =>
    have key : ∀ l a b, Bs nd kd nm mt n (Bl nd kd nm mt n) l a b → P (n + 1) a b := by
      intro l
      induction l with
      | zero =>
        intro a b h
        have : a = b := h
        rw [this]; exact h0 _ b
      | succ l ih =>
        intro a b h
        rcases h with h | ⟨hab, ⟨c1, c2⟩ | ⟨c1, c2, c3, c4, c5, c6, c7, c8, c9, c10⟩ | ⟨c1, c2, c3, c4, c5, c6, c7, c8, c9, c10⟩⟩
        · rw [h]; exact h0 _ b
        · exact h1 (n + 1) a b hab (c1.imp id (fun z => ⟨z.1, n, rfl, z.2⟩)) (Bs_down c2) (ih _ _ c2)
        · exact h2 n a b c1 c2 c3 c4 c5 c6 c7 c8 c9 (Bs_down c10) (ihn _ _ c8) (ihn _ _ c9) (ih _ _ c10)
        · exact h3 n a b c1 c2 c3 c4 c5 c6 c7 c8 (Bl_plain (by omega) (fun k k1 k2 => c8 k (by omega) k2)) c9 (Bs_down c10) (z0 _ n (a + 1) (mt a) rfl (by omega) (fun k k1 k2 => c8 k (by omega) k2)) (ihn _ _ c9) (ih _ _ c10)
    exact fun a b h => key (b - a) a b h
end
theorem Bl_L {X : List It} {nd : Int → Nat} {n : Nat} (h : bal nd n X) : Bl nd (fun k => (itm X k).1) (fun k => ig (itm X k) 2) (mtL X) n 0 X.length := by
  obtain ⟨mt, b⟩ := bal_Bl h
  exact Bl_congr b (fun k k1 k2 => ⟨rfl, rfl, fun k8 => (mtL_eq b k k2 k8).symm⟩)
/-! CONSTANTS: what is known -/
abbrev Kn : Type := Nat → Option Int
abbrev KS : Type := Kn × List It × Nat
def okK (kn : Kn) : Prop := ∀ r v, kn r = some v → -2147483648 ≤ v ∧ v < 2147483648
def vw (kn : Kn) (i : It) : Option Int :=
  if i.1 = 0 then some (ig i 2) else if i.1 = 1 then kn (ig i 2).toNat
  else if i.1 = 2 then (match kn (ig i 2).toNat, kn (ig i 3).toNat with
    | some s, some t => if ig i 4 = 3 ∧ t = 0 then none else some (wkO (ig i 4) s t)
    | _, _ => none)
  else none
def kset (kn : Kn) (d : Nat) (v : Option Int) : Kn := fun r => if r = d then v else kn r
def kfg (kn : Kn) : Kn := fun r => if r < 6 then none else kn r
/-- a plain item, or a CALL -/
def plI (kn : Kn) (i : It) : It := match vw kn i with
  | some v => if wri i < 0 ∨ i.1 = 0 then i else (0, wri i, v, 0, 0)
  | none => i
def plC (kn : Kn) (i : It) : Nat := match vw kn i with
  | some _ => if wri i < 0 ∨ i.1 = 0 then 0 else 1
  | none => 0
def plK (kn : Kn) (i : It) : Kn := if wri i < 0 then (if i.1 = 7 then kfg kn else kn) else kset kn (wri i).toNat (vw kn i)
def plS1 (i : It) (s : KS) : KS := (plK s.1 i, s.2.1 ++ [plI s.1 i], s.2.2 + plC s.1 i)
noncomputable def kjn (f g : Kn) : Kn := fun r => if g r = f r then g r else none
noncomputable def fgW (X : List It) (a e : Nat) (kn : Kn) : Kn := fun r => cif (∃ m, a < m ∧ m < e ∧ spl (itm X m) r) none (kn r)
noncomputable def ifC (X : List It) (R : Nat → Nat → KS → KS) (a : Nat) (s : KS) : KS :=
  match s.1 (ig (itm X a) 1).toNat with
  | none => (kjn (R (a + 1) (mtL X a) (s.1, s.2.1 ++ [itm X a], s.2.2)).1 (R (mtL X a + 1) (mtL X (mtL X a)) (s.1, (R (a + 1) (mtL X a) (s.1, s.2.1 ++ [itm X a], s.2.2)).2.1 ++ [itm X (mtL X a)], (R (a + 1) (mtL X a) (s.1, s.2.1 ++ [itm X a], s.2.2)).2.2)).1,
      (R (mtL X a + 1) (mtL X (mtL X a)) (s.1, (R (a + 1) (mtL X a) (s.1, s.2.1 ++ [itm X a], s.2.2)).2.1 ++ [itm X (mtL X a)], (R (a + 1) (mtL X a) (s.1, s.2.1 ++ [itm X a], s.2.2)).2.2)).2.1 ++ [itm X (mtL X (mtL X a))],
      (R (mtL X a + 1) (mtL X (mtL X a)) (s.1, (R (a + 1) (mtL X a) (s.1, s.2.1 ++ [itm X a], s.2.2)).2.1 ++ [itm X (mtL X a)], (R (a + 1) (mtL X a) (s.1, s.2.1 ++ [itm X a], s.2.2)).2.2)).2.2)
  | some v => if v = 0 then R (mtL X a + 1) (mtL X (mtL X a)) (s.1, s.2.1, s.2.2 + 1) else R (a + 1) (mtL X a) (s.1, s.2.1, s.2.2 + 1)
noncomputable def whC (X : List It) (R : Nat → Nat → KS → KS) (a : Nat) (s : KS) : KS :=
  ((R (a + 1) (mtL X a) (fgW X a (mtL X (mtL X a)) s.1, s.2.1 ++ [itm X a], s.2.2)).1,
    (R (mtL X a + 1) (mtL X (mtL X a)) ((R (a + 1) (mtL X a) (fgW X a (mtL X (mtL X a)) s.1, s.2.1 ++ [itm X a], s.2.2)).1, (R (a + 1) (mtL X a) (fgW X a (mtL X (mtL X a)) s.1, s.2.1 ++ [itm X a], s.2.2)).2.1 ++ [itm X (mtL X a)], (R (a + 1) (mtL X a) (fgW X a (mtL X (mtL X a)) s.1, s.2.1 ++ [itm X a], s.2.2)).2.2)).2.1 ++ [itm X (mtL X (mtL X a))],
    (R (mtL X a + 1) (mtL X (mtL X a)) ((R (a + 1) (mtL X a) (fgW X a (mtL X (mtL X a)) s.1, s.2.1 ++ [itm X a], s.2.2)).1, (R (a + 1) (mtL X a) (fgW X a (mtL X (mtL X a)) s.1, s.2.1 ++ [itm X a], s.2.2)).2.1 ++ [itm X (mtL X a)], (R (a + 1) (mtL X a) (fgW X a (mtL X (mtL X a)) s.1, s.2.1 ++ [itm X a], s.2.2)).2.2)).2.2)
noncomputable def cfx (X : List It) : Nat → Nat → Nat → KS → KS
  | 0 => fun _ _ s => s
  | f + 1 => fun a b s => if a < b then (if (itm X a).1 = 8 then cfx X f (mtL X (mtL X a) + 1) b (ifC X (cfx X f) a s) else if (itm X a).1 = 10 then cfx X f (mtL X (mtL X a) + 1) b (whC X (cfx X f) a s) else cfx X f (a + 1) b (plS1 (itm X a) s)) else s
noncomputable def cf (X : List It) (a b : Nat) (s : KS) : KS := cfx X (b - a) a b s
theorem ifC_congr {X : List It} {R R' : Nat → Nat → KS → KS} {a : Nat} {s : KS} (h1 : ∀ s, R (a + 1) (mtL X a) s = R' (a + 1) (mtL X a) s) (h2 : ∀ s, R (mtL X a + 1) (mtL X (mtL X a)) s = R' (mtL X a + 1) (mtL X (mtL X a)) s) : ifC X R a s = ifC X R' a s := by
  unfold ifC
  cases s.1 (ig (itm X a) 1).toNat with
  | none => simp only [h1, h2]
  | some v => simp only [h1, h2]
theorem whC_congr {X : List It} {R R' : Nat → Nat → KS → KS} {a : Nat} {s : KS} (h1 : ∀ s, R (a + 1) (mtL X a) s = R' (a + 1) (mtL X a) s) (h2 : ∀ s, R (mtL X a + 1) (mtL X (mtL X a)) s = R' (mtL X a + 1) (mtL X (mtL X a)) s) : whC X R a s = whC X R' a s := by
  unfold whC
  simp only [h1, h2]
section
variable {X : List It} {nd : Int → Nat}
abbrev BlX (X : List It) (nd : Int → Nat) (n a b : Nat) : Prop := Bl nd (fun k => (itm X k).1) (fun k => ig (itm X k) 2) (mtL X) n a b
theorem cfx_st : ∀ n a b, BlX X nd n a b → ∀ f f' s, b - a ≤ f → b - a ≤ f' → cfx X f a b s = cfx X f' a b s := by
  refine Bl_rec (P := fun n a b => ∀ f f' s, b - a ≤ f → b - a ≤ f' → cfx X f a b s = cfx X f' a b s) ?_ ?_ ?_ ?_
  · intro n a f f' s _ _
    have e : ∀ f, cfx X f a a s = s := fun f => by
      cases f with
      | zero => rfl
      | succ f => show (if a < a then _ else _) = _; rw [if_neg (by omega)]
    rw [e, e]
  · intro n a b hab hk _ ih f f' s hf hf'
    obtain ⟨u, rfl⟩ : ∃ u, f = u + 1 := ⟨f - 1, by omega⟩
    obtain ⟨u', rfl⟩ : ∃ u', f' = u' + 1 := ⟨f' - 1, by omega⟩
    have hk' : (itm X a).1 ≤ 7 := by rcases hk with h | h <;> omega
    show (if a < b then _ else _) = (if a < b then _ else _)
    rw [if_pos hab, if_pos hab, if_neg (show ¬ (itm X a).1 = 8 by omega), if_neg (show ¬ (itm X a).1 = 10 by omega), if_neg (show ¬ (itm X a).1 = 8 by omega), if_neg (show ¬ (itm X a).1 = 10 by omega)]
    exact ih u u' _ (by omega) (by omega)
  · intro n a b k8 m1 m2 m3 _ _ _ _ _ _ ih1 ih2 ih3 f f' s hf hf'
    obtain ⟨u, rfl⟩ : ∃ u, f = u + 1 := ⟨f - 1, by omega⟩
    obtain ⟨u', rfl⟩ : ∃ u', f' = u' + 1 := ⟨f' - 1, by omega⟩
    show (if a < b then _ else _) = (if a < b then _ else _)
    rw [if_pos (show a < b by omega), if_pos (show a < b by omega), if_pos k8, if_pos k8, ifC_congr (R' := cfx X u') (fun s => ih1 u u' s (by omega) (by omega)) (fun s => ih2 u u' s (by omega) (by omega))]
    exact ih3 u u' _ (by omega) (by omega)
  · intro n a b k10 m1 m2 m3 _ _ _ _ _ _ _ ih1 ih2 ih3 f f' s hf hf'
    obtain ⟨u, rfl⟩ : ∃ u, f = u + 1 := ⟨f - 1, by omega⟩
    obtain ⟨u', rfl⟩ : ∃ u', f' = u' + 1 := ⟨f' - 1, by omega⟩
    show (if a < b then _ else _) = (if a < b then _ else _)
    rw [if_pos (show a < b by omega), if_pos (show a < b by omega), if_neg (show ¬ (itm X a).1 = 8 by omega), if_neg (show ¬ (itm X a).1 = 8 by omega), if_pos k10, if_pos k10, whC_congr (R' := cfx X u') (fun s => ih1 u u' s (by omega) (by omega)) (fun s => ih2 u u' s (by omega) (by omega))]
    exact ih3 u u' _ (by omega) (by omega)
theorem cf_nil (a : Nat) (s : KS) : cf X a a s = s := by
  unfold cf
  rw [Nat.sub_self]
  rfl
theorem cf_pl {n a b : Nat} {s : KS} (hab : a < b) (h7 : (itm X a).1 ≤ 7) : cf X a b s = cf X (a + 1) b (plS1 (itm X a) s) := by
  unfold cf
  obtain ⟨u, hu⟩ : ∃ u, b - a = u + 1 := ⟨b - a - 1, by omega⟩
  rw [hu, show b - (a + 1) = u by omega]
  show (if a < b then _ else _) = _
  rw [if_pos hab, if_neg (show ¬ (itm X a).1 = 8 by omega), if_neg (show ¬ (itm X a).1 = 10 by omega)]
theorem cf_if {n a b : Nat} {s : KS} (k8 : (itm X a).1 = 8) (m1 : a < mtL X a) (m2 : mtL X a < mtL X (mtL X a)) (m3 : mtL X (mtL X a) < b) (b1 : BlX X nd n (a + 1) (mtL X a)) (b2 : BlX X nd n (mtL X a + 1) (mtL X (mtL X a))) (b3 : BlX X nd (n + 1) (mtL X (mtL X a) + 1) b) : cf X a b s = cf X (mtL X (mtL X a) + 1) b (ifC X (cf X) a s) := by
  unfold cf
  obtain ⟨u, hu⟩ : ∃ u, b - a = u + 1 := ⟨b - a - 1, by omega⟩
  rw [hu]
  show (if a < b then _ else _) = _
  rw [if_pos (show a < b by omega), if_pos k8, ifC_congr (R' := fun a b => cfx X (b - a) a b) (fun s => cfx_st _ _ _ b1 _ _ s (by omega) (Nat.le_refl _)) (fun s => cfx_st _ _ _ b2 _ _ s (by omega) (Nat.le_refl _))]
  exact cfx_st _ _ _ b3 _ _ _ (by omega) (Nat.le_refl _)
theorem cf_wh {n a b : Nat} {s : KS} (k10 : (itm X a).1 = 10) (m1 : a < mtL X a) (m2 : mtL X a < mtL X (mtL X a)) (m3 : mtL X (mtL X a) < b) (b1 : BlX X nd n (a + 1) (mtL X a)) (b2 : BlX X nd n (mtL X a + 1) (mtL X (mtL X a))) (b3 : BlX X nd (n + 1) (mtL X (mtL X a) + 1) b) : cf X a b s = cf X (mtL X (mtL X a) + 1) b (whC X (cf X) a s) := by
  unfold cf
  obtain ⟨u, hu⟩ : ∃ u, b - a = u + 1 := ⟨b - a - 1, by omega⟩
  rw [hu]
  show (if a < b then _ else _) = _
  rw [if_pos (show a < b by omega), if_neg (show ¬ (itm X a).1 = 8 by omega), if_pos k10, whC_congr (R' := fun a b => cfx X (b - a) a b) (fun s => cfx_st _ _ _ b1 _ _ s (by omega) (Nat.le_refl _)) (fun s => cfx_st _ _ _ b2 _ _ s (by omega) (Nat.le_refl _))]
  exact cfx_st _ _ _ b3 _ _ _ (by omega) (Nat.le_refl _)
end
/-! what CONSTANTS makes keeps what must hold -/
def P0 (X : List It) : Pg := pgO (0, fun _ => X, fun _ => 0) (fun _ _ => 0)
def CK (X : List It) (T p g : Nat) (nd : Int → Nat) (n a b : Nat) (s t : KS) : Prop := okK t.1 ∧ ∃ w, t.2.1 = s.2.1 ++ w ∧ bal nd n w ∧ okL T p g w ∧ (∀ sz, szL sz w ≤ rsz (P0 X) sz 0 a (b - a)) ∧ w.length ≤ b - a ∧ s.2.2 ≤ t.2.2 ∧ t.2.2 ≤ s.2.2 + (b - a)
section
variable {X : List It} {nd : Int → Nat} {T p g : Nat}
theorem vw_rg {kn : Kn} {i : It} {v : Int} (hi : okI T p g i) (hk : okK kn) (h : vw kn i = some v) : -2147483648 ≤ v ∧ v < 2147483648 := by
  obtain ⟨o1, o2, o3, -⟩ := hi
  have hvk := nbk_v o1 o2
  unfold vw at h
  by_cases c0 : i.1 = 0
  · rw [if_pos c0] at h
    obtain ⟨a1, a2, -⟩ := o3 1 (by omega)
    rw [← Option.some.inj h]
    exact ⟨a1, a2⟩
  rw [if_neg c0] at h
  by_cases c1 : i.1 = 1
  · rw [if_pos c1] at h; exact hk _ _ h
  rw [if_neg c1] at h
  by_cases c2 : i.1 = 2
  · rw [if_pos c2] at h
    cases e1 : kn (ig i 2).toNat with
    | none => rw [e1] at h; cases h
    | some s =>
      cases e2 : kn (ig i 3).toNat with
      | none => rw [e1, e2] at h; cases h
      | some t =>
        rw [e1, e2] at h
        dsimp only at h
        by_cases c : ig i 4 = 3 ∧ t = 0
        · rw [if_pos c] at h; cases h
        · rw [if_neg c] at h
          rw [← Option.some.inj h]
          exact wkO_rg _ _ _
  · rw [if_neg c2] at h; cases h
theorem vw_k {kn : Kn} {i : It} (h : 3 ≤ i.1) : vw kn i = none := by
  unfold vw
  rw [if_neg (by omega), if_neg (by omega), if_neg (by omega)]
theorem plI_ok {kn : Kn} {i : It} (hi : okI T p g i) (hk : okK kn) (hg : g ≤ 60) : okI T p g (plI kn i) ∧ (plI kn i = i ∨ (0 ≤ i.1 ∧ i.1 ≤ 2 ∧ (plI kn i).1 = 0)) := by
  unfold plI
  cases e : vw kn i with
  | none => exact ⟨hi, Or.inl rfl⟩
  | some v =>
    dsimp only
    by_cases c : wri i < 0 ∨ i.1 = 0
    · rw [if_pos c]; exact ⟨hi, Or.inl rfl⟩
    · rw [if_neg c]
      obtain ⟨v1, v2⟩ := vw_rg hi hk e
      have h3 : i.1 < 3 := by
        by_cases z : 3 ≤ i.1
        · rw [vw_k z] at e; cases e
        · omega
      obtain ⟨d, d1, d2⟩ := wri_rg hi hg (by omega)
      obtain ⟨o1, o2, o3, -⟩ := id hi
      have hvk := nbk_v o1 o2
      obtain ⟨-, -, q3⟩ := o3 0 (by omega)
      have q3 := q3 ⟨by omega, by omega, by omega⟩
      have q3 : 0 ≤ ig i 1 ∧ ig i 1 < g := q3
      have hw : wri i = ig i 1 := by unfold wri; rw [if_pos (by omega)]
      refine ⟨⟨by show (0 : Int) ≤ 0; decide, by show (0 : Int) ≤ 12; decide, fun j hj => ?_, fun z => absurd z (show ¬ (0 : Int) = 2 by decide), fun z => absurd z (show ¬ (0 : Int) = 7 by decide)⟩, Or.inr ⟨by omega, by omega, rfl⟩⟩
      have hj : j < 2 := hj
      rcases (show j = 0 ∨ j = 1 by omega) with rfl | rfl
      · show -2147483648 ≤ wri i ∧ wri i < 2147483648 ∧ (_ → 0 ≤ wri i ∧ wri i < g)
        rw [hw]
        exact ⟨by omega, by omega, fun _ => q3⟩
      · show -2147483648 ≤ v ∧ v < 2147483648 ∧ (isr 0 1 → _)
        exact ⟨v1, v2, fun z => absurd ⟨rfl, rfl⟩ z.1⟩
theorem plC_le (kn : Kn) (i : It) : plC kn i ≤ 1 := by
  unfold plC
  split
  · split <;> omega
  · omega
theorem plK_ok {kn : Kn} {i : It} (hi : okI T p g i) (hk : okK kn) : okK (plK kn i) := by
  unfold plK
  by_cases c : wri i < 0
  · rw [if_pos c]
    by_cases c7 : i.1 = 7
    · rw [if_pos c7]
      intro r v h
      unfold kfg at h
      by_cases z : r < 6
      · rw [if_pos z] at h; cases h
      · rw [if_neg z] at h; exact hk r v h
    · rw [if_neg c7]; exact hk
  · rw [if_neg c]
    intro r v h
    unfold kset at h
    by_cases z : r = (wri i).toNat
    · rw [if_pos z] at h; exact vw_rg hi hk h
    · rw [if_neg z] at h; exact hk r v h
theorem CK.app {n m a b c d : Nat} {s t u : KS} (h : CK X T p g nd n a b s t) (h' : CK X T p g nd n c d t u) (hz : ∀ sz, rsz (P0 X) sz 0 a (b - a) + rsz (P0 X) sz 0 c (d - c) ≤ rsz (P0 X) sz 0 m (d - m)) (hl : b - a + (d - c) ≤ d - m) : CK X T p g nd n m d s u := by
  obtain ⟨k1, w1, a1, a2, a3, a4, a5, a6, a7⟩ := h
  obtain ⟨k2, w2, b1, b2, b3, b4, b5, b6, b7⟩ := h'
  refine ⟨k2, w1 ++ w2, by rw [b1, a1, List.append_assoc], bal_app a2 b2, fun i hi => (List.mem_append.mp hi).elim (a3 i) (b3 i), fun sz => ?_, by rw [List.length_append]; omega, by omega, by omega⟩
  have := hz sz
  have := a4 sz
  have := b4 sz
  unfold szL at *
  rw [List.map_append, List.sum_append]
  omega
theorem CK.up {n m a b c : Nat} {s t : KS} (h : CK X T p g nd n a b s t) (hn : n ≤ m) : CK X T p g nd m a b s t := by
  obtain ⟨k1, w1, a1, a2, a3, a4, a5, a6, a7⟩ := h
  exact ⟨k1, w1, a1, bal_mono _ _ a2 _ hn, a3, a4, a5, a6, a7⟩
theorem CK_pl {n a : Nat} {s : KS} (ho : okI T p g (itm X a)) (hg : g ≤ 60) (hs : okK s.1) (hk : (0 ≤ (itm X a).1 ∧ (itm X a).1 ≤ 6) ∨ ((itm X a).1 = 7 ∧ ∃ m, n = m + 1 ∧ nd (ig (itm X a) 2) ≤ m)) : CK X T p g nd n a (a + 1) s (plS1 (itm X a) s) := by
  obtain ⟨q1, q2⟩ := plI_ok ho hs hg
  have hC := plC_le s.1 (itm X a)
  refine ⟨plK_ok ho hs, [plI s.1 (itm X a)], rfl, bal_one ?_, fun i hi => by rw [List.mem_singleton.mp hi]; exact q1, fun sz => ?_, by show 1 ≤ a + 1 - a; omega, by show s.2.2 ≤ s.2.2 + _; omega, by show s.2.2 + _ ≤ s.2.2 + _; omega⟩
  · rcases q2 with q2 | ⟨z1, z2, z3⟩
    · rw [q2]
      rcases hk with hk | ⟨h7, m, m1, m2⟩
      · exact Or.inl hk
      · exact Or.inr ⟨m, m1, h7, m2⟩
    · exact Or.inl ⟨by rw [z3]; decide, by rw [z3]; decide⟩
  · rw [rsz_one (by omega)]
    rw [szL_cons]
    have e0 : szL sz [] = 0 := rfl
    rw [e0]
    have hc : cst (P0 X) sz 0 a = 1 + if (itm X a).1 = 7 then sz (ig (itm X a) 2).toNat else 0 := rfl
    rw [hc]
    rcases q2 with q2 | ⟨z1, z2, z3⟩
    · rw [q2]
      show 1 + (if (itm X a).1 = 7 then sz (ig (itm X a) 2).toNat else 0) + 0 ≤ _
      omega
    · rw [if_neg (by rw [z3]; decide)]
      omega
theorem kjn_ok {f h : Kn} (hg : okK h) : okK (kjn f h) := fun r v e => by
  unfold kjn at e
  by_cases c : h r = f r
  · rw [if_pos c] at e; exact hg r v e
  · rw [if_neg c] at e; cases e
theorem fgW_ok {a e : Nat} {kn : Kn} (hk : okK kn) : okK (fgW X a e kn) := fun r v h => by
  unfold fgW at h
  by_cases c : ∃ m, a < m ∧ m < e ∧ spl (itm X m) r
  · rw [cif_pos c] at h; cases h
  · rw [cif_neg c] at h; exact hk r v h
theorem cf_ok (hok : okL T p g X) (hg : g ≤ 60) : ∀ n a b, BlX X nd n a b → b ≤ X.length → ∀ s, okK s.1 → CK X T p g nd n a b s (cf X a b s) := by
  refine Bl_rec (P := fun n a b => b ≤ X.length → ∀ s, okK s.1 → CK X T p g nd n a b s (cf X a b s)) ?_ ?_ ?_ ?_
  · intro n a _ s hs
    rw [cf_nil]
    exact ⟨hs, [], by rw [List.append_nil], bal_nil n, fun i hi => absurd hi (by simp), fun sz => Nat.zero_le _, Nat.zero_le _, Nat.le_refl _, by omega⟩
  · intro n a b hab hk _ ih hb s hs
    have h7 : (itm X a).1 ≤ 7 := by rcases hk with h | h <;> omega
    rw [cf_pl (n := n) hab h7]
    have c1 := CK_pl (X := X) (n := n) (nd := nd) (s := s) (hok _ (itm_mem (show a < X.length by omega))) hg hs hk
    exact c1.app (ih hb _ c1.1) (fun sz => by
      have e : rsz (P0 X) sz 0 a (a + 1 - a) = cst (P0 X) sz 0 a := by
        rw [rsz_one (by omega), Nat.sub_self]; rfl
      rw [e, ← rsz_one hab]
      exact Nat.le_refl _) (by omega)
  · intro n a b k8 m1 m2 m3 k9 k12 _ b1 b2 b3 ih1 ih2 ih3 hb s hs
    rw [cf_if k8 m1 m2 m3 b1 b2 b3]
    have hoa := hok _ (itm_mem (show a < X.length by omega))
    have hom := hok _ (itm_mem (show mtL X a < X.length by omega))
    have hoe := hok _ (itm_mem (show mtL X (mtL X a) < X.length by omega))
    have hblk := fun sz => rsz_blk (P := P0 X) (sz := sz) (p := 0) m1 m2 m3
    generalize hm : mtL X a = m at *
    generalize he : mtL X m = e at *
    have fin : ∀ t, okK t.1 → (∃ w, t.2.1 = s.2.1 ++ w ∧ bal nd (n + 1) w ∧ okL T p g w ∧ (∀ sz, szL sz w ≤ rsz (P0 X) sz 0 (a + 1) (m - (a + 1)) + rsz (P0 X) sz 0 (m + 1) (e - (m + 1)) + 3) ∧ w.length ≤ e + 1 - a ∧ s.2.2 ≤ t.2.2 ∧ t.2.2 ≤ s.2.2 + (e + 1 - a)) → CK X T p g nd (n + 1) a b s (cf X (e + 1) b t) := fun t ht ⟨w, w1, w2, w3, w4, w5, w6, w7⟩ => by
      obtain ⟨z0, v, v1, v2, v3, v4, v5, v6, v7⟩ := ih3 hb t ht
      refine ⟨z0, w ++ v, by rw [v1, w1, List.append_assoc], bal_app w2 v2, fun i hi => (List.mem_append.mp hi).elim (w3 i) (v3 i), fun sz => ?_, by rw [List.length_append]; omega, by omega, by omega⟩
      have h1 := w4 sz
      have h2 := v4 sz
      have h3 := hblk sz
      rw [szL_app]
      omega
    refine fin _ ?_ ?_
    · unfold ifC
      rw [hm, he]
      cases ek : s.1 (ig (itm X a) 1).toNat with
      | none =>
        dsimp only
        obtain ⟨z0, -⟩ := ih1 (by omega) (s.1, s.2.1 ++ [itm X a], s.2.2) hs
        exact kjn_ok (ih2 (by omega) (s.1, (cf X (a + 1) m (s.1, s.2.1 ++ [itm X a], s.2.2)).2.1 ++ [itm X m], (cf X (a + 1) m (s.1, s.2.1 ++ [itm X a], s.2.2)).2.2) hs).1
      | some v =>
        dsimp only
        by_cases c : v = 0
        · rw [if_pos c]; exact (ih2 (by omega) (s.1, s.2.1, s.2.2 + 1) hs).1
        · rw [if_neg c]; exact (ih1 (by omega) (s.1, s.2.1, s.2.2 + 1) hs).1
    · unfold ifC
      rw [hm, he]
      cases ek : s.1 (ig (itm X a) 1).toNat with
      | none =>
        dsimp only
        obtain ⟨z0, w, w1, w2, w3, w4, w5, w6, w7⟩ := ih1 (by omega) (s.1, s.2.1 ++ [itm X a], s.2.2) hs
        obtain ⟨y0, v, v1, v2, v3, v4, v5, v6, v7⟩ := ih2 (by omega) (s.1, (cf X (a + 1) m (s.1, s.2.1 ++ [itm X a], s.2.2)).2.1 ++ [itm X m], (cf X (a + 1) m (s.1, s.2.1 ++ [itm X a], s.2.2)).2.2) hs
        dsimp only at w1 w6 w7 v1 v6 v7
        refine ⟨itm X a :: (w ++ itm X m :: (v ++ itm X e :: [])), ?_, bal_if k8 k9 k12 w2 v2 (bal_nil _), fun i hi => ?_, fun sz => ?_, ?_, ?_, ?_⟩
        · rw [v1, w1]; simp
        · rw [List.mem_cons, List.mem_append, List.mem_cons, List.mem_append, List.mem_singleton] at hi
          rcases hi with z | z | z | z | z
          · rw [z]; exact hoa
          · exact w3 i z
          · rw [z]; exact hom
          · exact v3 i z
          · rw [z]; exact hoe
        · have h1 := w4 sz
          have h2 := v4 sz
          rw [szL_cons, szL_app, szL_cons, szL_app, szL_cons, if_neg (by omega), if_neg (by omega), if_neg (by omega)]
          have e0 : szL sz [] = 0 := rfl
          omega
        · rw [List.length_cons, List.length_append, List.length_cons, List.length_append, List.length_cons, List.length_nil]
          omega
        · omega
        · omega
      | some v =>
        dsimp only
        by_cases c : v = 0
        · rw [if_pos c]
          obtain ⟨z0, w, w1, w2, w3, w4, w5, w6, w7⟩ := ih2 (by omega) (s.1, s.2.1, s.2.2 + 1) hs
          dsimp only at w1 w6 w7
          exact ⟨w, w1, bal_mono _ _ w2 _ (by omega), w3, fun sz => by have := w4 sz; omega, by omega, by omega, by omega⟩
        · rw [if_neg c]
          obtain ⟨z0, w, w1, w2, w3, w4, w5, w6, w7⟩ := ih1 (by omega) (s.1, s.2.1, s.2.2 + 1) hs
          dsimp only at w1 w6 w7
          exact ⟨w, w1, bal_mono _ _ w2 _ (by omega), w3, fun sz => by have := w4 sz; omega, by omega, by omega, by omega⟩
  · intro n a b k10 m1 m2 m3 k11 k12 _ hpl b1 b2 b3 ih1 ih2 ih3 hb s hs
    rw [cf_wh k10 m1 m2 m3 b1 b2 b3]
    have hoa := hok _ (itm_mem (show a < X.length by omega))
    have hom := hok _ (itm_mem (show mtL X a < X.length by omega))
    have hoe := hok _ (itm_mem (show mtL X (mtL X a) < X.length by omega))
    have hblk := fun sz => rsz_blk (P := P0 X) (sz := sz) (p := 0) m1 m2 m3
    have hpp : ∀ s, okK s.1 → CK X T p g nd 0 (a + 1) (mtL X a) s (cf X (a + 1) (mtL X a) s) := by
      have q : ∀ l c, c + l = mtL X a → a < c → ∀ s, okK s.1 → CK X T p g nd 0 c (mtL X a) s (cf X c (mtL X a) s) := by
        intro l
        induction l with
        | zero =>
          intro c hc _ s hs
          have : c = mtL X a := by omega
          rw [this, cf_nil]
          exact ⟨hs, [], by rw [List.append_nil], bal_nil 0, fun i hi => absurd hi (by simp), fun sz => Nat.zero_le _, Nat.zero_le _, Nat.le_refl _, by omega⟩
        | succ l ih =>
          intro c hc hac s hs
          have hpc := hpl c hac (by omega)
          rw [cf_pl (n := 0) (by omega) (by omega)]
          have c1 := CK_pl (X := X) (n := 0) (nd := nd) (s := s) (hok _ (itm_mem (show c < X.length by omega))) hg hs (Or.inl hpc)
          exact c1.app (ih (c + 1) (by omega) (by omega) _ c1.1) (fun sz => by
            have e : rsz (P0 X) sz 0 c (c + 1 - c) = cst (P0 X) sz 0 c := by
              rw [rsz_one (by omega), Nat.sub_self]; rfl
            rw [e, ← rsz_one (by omega)]
            exact Nat.le_refl _) (by omega)
      exact q (mtL X a - (a + 1)) (a + 1) (by omega) (by omega)
    generalize hm : mtL X a = m at *
    generalize he : mtL X m = e at *
    unfold whC
    rw [hm, he]
    obtain ⟨z0, w, w1, w2, w3, w4, w5, w6, w7⟩ := hpp (fgW X a e s.1, s.2.1 ++ [itm X a], s.2.2) (fgW_ok hs)
    obtain ⟨y0, v, v1, v2, v3, v4, v5, v6, v7⟩ := ih2 (by omega) ((cf X (a + 1) m (fgW X a e s.1, s.2.1 ++ [itm X a], s.2.2)).1, (cf X (a + 1) m (fgW X a e s.1, s.2.1 ++ [itm X a], s.2.2)).2.1 ++ [itm X m], (cf X (a + 1) m (fgW X a e s.1, s.2.1 ++ [itm X a], s.2.2)).2.2) z0
    obtain ⟨x0, u, u1, u2, u3, u4, u5, u6, u7⟩ := ih3 hb ((cf X (a + 1) m (fgW X a e s.1, s.2.1 ++ [itm X a], s.2.2)).1, (cf X (m + 1) e ((cf X (a + 1) m (fgW X a e s.1, s.2.1 ++ [itm X a], s.2.2)).1, (cf X (a + 1) m (fgW X a e s.1, s.2.1 ++ [itm X a], s.2.2)).2.1 ++ [itm X m], (cf X (a + 1) m (fgW X a e s.1, s.2.1 ++ [itm X a], s.2.2)).2.2)).2.1 ++ [itm X e], (cf X (m + 1) e ((cf X (a + 1) m (fgW X a e s.1, s.2.1 ++ [itm X a], s.2.2)).1, (cf X (a + 1) m (fgW X a e s.1, s.2.1 ++ [itm X a], s.2.2)).2.1 ++ [itm X m], (cf X (a + 1) m (fgW X a e s.1, s.2.1 ++ [itm X a], s.2.2)).2.2)).2.2) z0
    refine ⟨x0, itm X a :: (w ++ itm X m :: (v ++ itm X e :: u)), ?_, bal_wh k10 k11 k12 w2 v2 u2, fun i hi => ?_, fun sz => ?_, ?_, ?_, ?_⟩
    · rw [u1]
      dsimp only
      rw [v1, w1]; simp
    · rw [List.mem_cons, List.mem_append, List.mem_cons, List.mem_append, List.mem_cons] at hi
      rcases hi with z | z | z | z | z | z
      · rw [z]; exact hoa
      · exact w3 i z
      · rw [z]; exact hom
      · exact v3 i z
      · rw [z]; exact hoe
      · exact u3 i z
    · have h1 := w4 sz
      have h2 := v4 sz
      have h3 := u4 sz
      have h4 := hblk sz
      rw [szL_cons, szL_app, szL_cons, szL_app, szL_cons, if_neg (by omega), if_neg (by omega), if_neg (by omega)]
      omega
    · rw [List.length_cons, List.length_append, List.length_cons, List.length_append, List.length_cons]
      omega
    · dsimp only at w6 v6 u6
      omega
    · dsimp only at w7 v7 u7
      omega
end
noncomputable def kn0 (p : Nat) : Kn := fun _ => if p = 3 then some 0 else none
noncomputable def conL (X : List It) (p : Nat) : KS := cf X 0 X.length (kn0 p, [], 0)
noncomputable def conQ (Q : Pr) (p : Nat) : Pr := updG Q p (conL (Q.2.1 p) p).2.1 (Q.2.2 p)
theorem kn0_ok (p : Nat) : okK (kn0 p) := fun r v h => by
  unfold kn0 at h
  split at h
  · rw [← Option.some.inj h]; omega
  · cases h
theorem con_inv {Q : Pr} {p : Nat} (hG : GQ Q) (hp : exP Q p) : (conL (Q.2.1 p) p).2.1.length ≤ (Q.2.1 p).length ∧ okL Q.1 p (Q.2.2 p) (conL (Q.2.1 p) p).2.1 ∧ (∀ nd n, bal nd n (Q.2.1 p) → bal nd n (conL (Q.2.1 p) p).2.1) ∧ (∀ sz, szL sz (conL (Q.2.1 p) p).2.1 ≤ szL sz (Q.2.1 p)) ∧ (conL (Q.2.1 p) p).2.2 ≤ (Q.2.1 p).length := by
  obtain ⟨a1, a2, a3, a4⟩ := hG.1.2 p hp
  have key : ∀ nd n, bal nd n (Q.2.1 p) → CK (Q.2.1 p) Q.1 p (Q.2.2 p) nd n 0 (Q.2.1 p).length (kn0 p, [], 0) (conL (Q.2.1 p) p) := fun nd n hb => cf_ok a4 a2 n 0 _ (Bl_L hb) (Nat.le_refl _) _ (kn0_ok p)
  obtain ⟨-, w, w1, w2, w3, w4, w5, w6, w7⟩ := key _ _ (hG.n.2.1 p hp)
  have w1 : (conL (Q.2.1 p) p).2.1 = w := w1
  rw [w1]
  refine ⟨by omega, w3, fun nd n hb => ?_, fun sz => ?_, ?_⟩
  · obtain ⟨-, v, v1, v2, -⟩ := key nd n hb
    have v1 : (conL (Q.2.1 p) p).2.1 = v := v1
    rw [← w1, v1]; exact v2
  · have := w4 sz
    rw [Nat.sub_zero] at this
    have e : rsz (P0 (Q.2.1 p)) sz 0 0 (Q.2.1 p).length = szL sz (Q.2.1 p) := rsz_all (Q := (0, fun _ => Q.2.1 p, fun _ => 0)) (mt := fun _ _ => 0) (p := 0)
    omega
  · have w7 : (conL (Q.2.1 p) p).2.2 ≤ 0 + ((Q.2.1 p).length - 0) := w7
    omega
theorem con_ok {Q : Pr} {p : Nat} (hG : GQ Q) (hp : exP Q p) : GQ (conQ Q p) := by
  obtain ⟨a1, a2, a3, a4⟩ := hG.1.2 p hp
  obtain ⟨h1, h2, h3, h4, -⟩ := con_inv hG hp
  exact hG.putG hp a1 a2 (fun nd sz n _ hb => h3 nd n hb) (fun nd sz _ => h4 sz) h2
