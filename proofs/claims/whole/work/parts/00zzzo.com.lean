/-! an item is changed, its turn is not -/
def shp (i j : It) : Prop := (i.1 = j.1 ∧ (i.1 = 7 → i.2.2.1 = j.2.2.1)) ∨ (0 ≤ i.1 ∧ i.1 ≤ 6 ∧ 0 ≤ j.1 ∧ j.1 ≤ 6)
theorem shp_flt {i j : It} (h : shp i j) : flt i.1 = flt j.1 := by
  rcases h with h | h
  · rw [h.1]
  · rw [flt_7 (by omega), flt_7 (by omega)]
theorem set_cut {X : List It} {k : Nat} {i : It} (hk : k < X.length) : X.set k i = X.take k ++ ([i] ++ X.drop (k + 1)) := by
  rw [List.set_eq_take_append_cons_drop, if_pos hk]
  rfl
theorem bal_set {nd : Int → Nat} {n k : Nat} {X : List It} {i : It} (hk : k < X.length) (hb : bal nd n X) (hs : shp (itm X k) i) : bal nd n (X.set k i) := by
  rcases hs with ⟨h1, h2⟩ | hs
  · refine bal_sk n X hb _ ?_
    rw [List.map_set]
    have e : sk i = (X.map sk)[k]'(by rw [List.length_map]; exact hk) := by
      rw [List.getElem_map, ← itm_get hk]
      unfold sk
      by_cases c : (itm X k).1 = 7
      · rw [if_pos (by omega), if_pos c, h1, h2 c]
      · rw [if_neg (by omega), if_neg c, h1]
    rw [e, List.set_getElem_self]
  · obtain ⟨m, m1, m2, m3⟩ := (bal_run n X hb).2 (X.take k) [itm X k] (X.drop (k + 1)) (cut1 hk) (by simp) (fun j hj => by
      rw [List.mem_singleton] at hj
      rw [hj]
      omega)
    rw [set_cut hk]
    exact m3 [i] (bal_one (Or.inl ⟨hs.2.2.1, hs.2.2.2⟩))
theorem szL_set {sz : Nat → Nat} {k : Nat} {X : List It} {i : It} (hk : k < X.length) (hs : shp (itm X k) i) : szL sz (X.set k i) = szL sz X := by
  have e1 : szL sz X = szL sz (X.take k ++ ([itm X k] ++ X.drop (k + 1))) := congrArg _ (cut1 hk)
  rw [e1, set_cut hk]
  unfold szL
  rw [List.map_append, List.map_append, List.map_append, List.map_append, List.sum_append, List.sum_append, List.sum_append, List.sum_append]
  have : ([i].map (fun i => 1 + if i.1 = 7 then sz i.2.2.1.toNat else 0)).sum = ([itm X k].map (fun i => 1 + if i.1 = 7 then sz i.2.2.1.toNat else 0)).sum := by
    rcases hs with ⟨h1, h2⟩ | hs
    · by_cases c : (itm X k).1 = 7
      · simp only [List.map_cons, List.map_nil]
        rw [if_pos (by omega), if_pos c, h2 c]
      · simp only [List.map_cons, List.map_nil]
        rw [if_neg (by omega), if_neg c]
    · simp only [List.map_cons, List.map_nil]
      rw [if_neg (by omega), if_neg (by omega)]
  rw [this]
theorem mtL_shp {X Y : List It} {nd nd' : Int → Nat} {n n' : Nat} (hX : bal nd n X) (hY : bal nd' n' Y) (hl : Y.length = X.length) (hk : ∀ k, k < X.length → flt (itm X k).1 = flt (itm Y k).1) : ∀ k, k < X.length → 8 ≤ (itm X k).1 → mtL X k = mtL Y k := by
  obtain ⟨m1, b1⟩ := bal_Bl hX
  obtain ⟨m2, b2⟩ := bal_Bl hY
  rw [hl] at b2
  intro k hk1 k8
  have u := Bl_uniq2 b1 b2 (fun k _ k2 => hk k k2) k (by omega) hk1 k8
  have f := hk k hk1
  rw [flt_8 k8] at f
  have k8' : 8 ≤ (itm Y k).1 := by
    unfold flt at f
    split at f
    · omega
    · omega
  rw [← mtL_eq b1 k hk1 k8, u]
  rw [← hl] at b2
  exact mtL_eq b2 k (by omega) k8'
theorem setN_ok {T p g w : Nat} {i : It} {v : Int} (hi : okI T p g i) (hw : w < nbk i.1) (hr : isr i.1 w) (h0 : 0 ≤ v) (hv : v < g) (hg : g ≤ 60) : okI T p g (setN i w v) := by
  obtain ⟨o1, o2, o3, o4, o5⟩ := hi
  have hb := nbk_le i.1
  have hvk := nbk_v o1 o2
  refine ⟨by rw [setN_1]; exact o1, by rw [setN_1]; exact o2, fun j hj => ?_, fun h2 => ?_, fun h7 => ?_⟩
  · rw [setN_1] at hj ⊢
    rw [setN_g i v (by omega) (by omega)]
    by_cases c : j = w
    · rw [if_pos c]; exact ⟨by omega, by omega, fun _ => ⟨h0, hv⟩⟩
    · rw [if_neg c]; exact o3 j hj
  · rw [setN_1] at h2
    have := setN_g i (w := w) (j := 3) v (by omega) (by omega)
    rw [if_neg (fun c => hr.2.1 ⟨h2, c.symm⟩)] at this
    have e : ig (setN i w v) 4 = ig i 4 := this
    rw [e]; exact o4 h2
  · rw [setN_1] at h7
    have := setN_g i (w := w) (j := 1) v (by omega) (by omega)
    rw [if_neg (fun c => hr.2.2 ⟨h7, c.symm⟩)] at this
    have e : ig (setN i w v) 2 = ig i 2 := this
    rw [e]; exact o5 h7
/-! COMMON: names -/
def kat (K : List Nd) (i : Nat) : Nd := K.getD i (0, 0, 0, 0)
theorem kat_get {K : List Nd} {i : Nat} (h : i < K.length) : kat K i = K[i] := by
  unfold kat
  rw [List.getD_eq_getElem?_getD, List.getElem?_eq_getElem h]
  rfl
theorem kat_app1 {K : List Nd} {y : Nd} {i : Nat} (h : i < K.length) : kat (K ++ [y]) i = kat K i := by
  rw [kat_get h, kat_get (by rw [List.length_append]; omega), List.getElem_append_left h]
theorem kat_app2 {K : List Nd} {y : Nd} : kat (K ++ [y]) K.length = y := by
  rw [kat_get (by rw [List.length_append]; simp)]
  simp
def dK (K : List Nd) : Prop := ∀ i j, i < j → j < K.length → kat K i ≠ kat K j
noncomputable def mkN (K : List Nd) (y : Nd) : Nat × List Nd := cif (∃ i, i < K.length ∧ kat K i = y) (Classical.epsilon (fun i => i < K.length ∧ kat K i = y), K) (K.length, K ++ [y])
theorem mkN_ok (K : List Nd) (y : Nd) : ((mkN K y).1 < K.length ∧ kat K (mkN K y).1 = y ∧ (mkN K y).2 = K) ∨ ((∀ i, i < K.length → kat K i ≠ y) ∧ (mkN K y).1 = K.length ∧ (mkN K y).2 = K ++ [y]) := by
  unfold mkN
  by_cases c : ∃ i, i < K.length ∧ kat K i = y
  · rw [cif_pos c]
    have := Classical.epsilon_spec c
    exact Or.inl ⟨this.1, this.2, rfl⟩
  · rw [cif_neg c]
    exact Or.inr ⟨fun i hi e => c ⟨i, hi, e⟩, rfl, rfl⟩
theorem mkN_dK {K : List Nd} {y : Nd} (h : dK K) : dK (mkN K y).2 := by
  rcases mkN_ok K y with ⟨-, -, e⟩ | ⟨a, -, e⟩
  · rw [e]; exact h
  · rw [e]
    intro i j hij hj
    rw [List.length_append] at hj
    have hj : j < K.length + 1 := hj
    by_cases c : j < K.length
    · rw [kat_app1 c, kat_app1 (by omega)]; exact h i j hij c
    · have : j = K.length := by omega
      subst this
      rw [kat_app2, kat_app1 hij]; exact a i hij
noncomputable def ownK (g : Nat) : List Nd := (List.range g).map (fun r : Nat => ((8 : Int), (r : Int), (0 : Int), (0 : Int)))
theorem ownK_len (g : Nat) : (ownK g).length = g := by unfold ownK; rw [List.length_map, List.length_range]
theorem ownK_s (g : Nat) : ownK (g + 1) = ownK g ++ [(8, (g : Int), 0, 0)] := by
  unfold ownK
  rw [List.range_succ, List.map_append]
  rfl
theorem ownK_at {g i : Nat} (h : i < g) : kat (ownK g) i = (8, (i : Int), 0, 0) := by
  rw [kat_get (by rw [ownK_len]; exact h)]
  unfold ownK
  rw [List.getElem_map, List.getElem_range]
theorem ownK_dK (g : Nat) : dK (ownK g) := fun i j hij hj e => by
  rw [ownK_len] at hj
  rw [ownK_at (by omega), ownK_at hj] at e
  have := (Prod.mk.inj (Prod.mk.inj e).2).1
  omega
theorem mkN_own (g : Nat) : mkN (ownK g) (8, (g : Int), 0, 0) = (g, ownK (g + 1)) := by
  rcases mkN_ok (ownK g) (8, (g : Int), 0, 0) with ⟨a, b, -⟩ | ⟨-, b, c⟩
  · exfalso
    rw [ownK_len] at a
    rw [ownK_at a] at b
    have := (Prod.mk.inj (Prod.mk.inj b).2).1
    omega
  · rw [ownK_len] at b
    rw [← ownK_s] at c
    exact Prod.ext b c
/-- the least register that has a name -/
def lsF (nm : Nat → Nat) (t : Nat) : Nat → Int
  | 0 => -1
  | n + 1 => if 0 ≤ lsF nm t n then lsF nm t n else if nm n = t then (n : Int) else -1
theorem lsF_ok {nm : Nat → Nat} {t : Nat} : ∀ g, (lsF nm t g = -1 ∧ ∀ r, r < g → nm r ≠ t) ∨ ∃ r, r < g ∧ lsF nm t g = (r : Int) ∧ nm r = t ∧ ∀ q, q < r → nm q ≠ t := by
  intro g
  induction g with
  | zero => exact Or.inl ⟨rfl, fun r hr => absurd hr (Nat.not_lt_zero _)⟩
  | succ g ih =>
    have e : lsF nm t (g + 1) = if 0 ≤ lsF nm t g then lsF nm t g else if nm g = t then (g : Int) else -1 := rfl
    rw [e]
    rcases ih with ⟨a, b⟩ | ⟨r, r1, r2, r3, r4⟩
    · rw [if_neg (by omega)]
      by_cases c : nm g = t
      · rw [if_pos c]
        exact Or.inr ⟨g, by omega, rfl, c, b⟩
      · rw [if_neg c]
        exact Or.inl ⟨rfl, fun r hr => by
          by_cases z : r = g
          · rw [z]; exact c
          · exact b r (by omega)⟩
    · rw [if_pos (by omega)]
      exact Or.inr ⟨r, by omega, r2, r3, r4⟩
theorem lsF_le {nm : Nat → Nat} {g r : Nat} (hr : r < g) : ∃ l : Nat, lsF nm (nm r) g = (l : Int) ∧ l ≤ r := by
  rcases lsF_ok (nm := nm) (t := nm r) g with ⟨-, b⟩ | ⟨l, l1, l2, l3, l4⟩
  · exact absurd rfl (b r hr)
  · refine ⟨l, l2, ?_⟩
    by_cases c : l ≤ r
    · exact c
    · exact absurd rfl (l4 r (by omega))
/-- what an item reads becomes the least -/
def rdL (g : Nat) (nm : Nat → Nat) (it : It) : Nat → It × Int
  | 0 => (it, 0)
  | i + 1 => if lsF nm (nm (ig (rdL g nm it i).1 ((frk it.1).toNat + i + 1)).toNat) g = ig (rdL g nm it i).1 ((frk it.1).toNat + i + 1) then rdL g nm it i else (setN (rdL g nm it i).1 ((frk it.1).toNat + i) (lsF nm (nm (ig (rdL g nm it i).1 ((frk it.1).toNat + i + 1)).toNat) g), 1)
theorem rdL_ok {T p g : Nat} {nm : Nat → Nat} {it : It} (hi : okI T p g it) (hg : g ≤ 60) : ∀ n : Nat, (n : Int) ≤ rdk it.1 → (rdL g nm it n).1.1 = it.1 ∧ okI T p g (rdL g nm it n).1 ∧ (it.1 = 7 → ig (rdL g nm it n).1 2 = ig it 2) ∧ ((rdL g nm it n).2 = 0 ∨ (rdL g nm it n).2 = 1) ∧ (it.1 = 2 → ig (rdL g nm it n).1 4 = ig it 4) := by
  intro n
  induction n with
  | zero => exact fun _ => ⟨rfl, hi, fun _ => rfl, Or.inl rfl, fun _ => rfl⟩
  | succ n ih =>
    intro hn
    obtain ⟨i1, i2, i3, i4, i5⟩ := ih (by omega)
    have e : rdL g nm it (n + 1) = if lsF nm (nm (ig (rdL g nm it n).1 ((frk it.1).toNat + n + 1)).toNat) g = ig (rdL g nm it n).1 ((frk it.1).toNat + n + 1) then rdL g nm it n else (setN (rdL g nm it n).1 ((frk it.1).toNat + n) (lsF nm (nm (ig (rdL g nm it n).1 ((frk it.1).toNat + n + 1)).toNat) g), 1) := rfl
    generalize hs : rdL g nm it n = s at *
    obtain ⟨q1, q2, d, q3, q4⟩ := rd_rg i2 hg (n := n) (by rw [i1]; omega)
    rw [i1] at q1 q2 q3
    have hdg : d < g := by
      have := ((i2.2.2.1 _ (by rw [i1]; exact q1)).2.2 (by rw [i1]; exact q2)).2
      omega
    rw [q3, Int.toNat_natCast] at e
    obtain ⟨l, l1, l2⟩ := lsF_le (nm := nm) hdg
    rw [l1] at e
    have hb := nbk_le it.1
    obtain ⟨o1, o2, -⟩ := id hi
    have hvk := nbk_v o1 o2
    by_cases c : (l : Int) = (d : Int)
    · rw [if_pos c] at e
      rw [e]
      exact ⟨i1, i2, i3, i4, i5⟩
    · rw [if_neg c] at e
      rw [e]
      refine ⟨by rw [setN_1]; exact i1, setN_ok i2 (by rw [i1]; exact q1) (by rw [i1]; exact q2) (by omega) (by omega) hg, fun h7 => ?_, Or.inr rfl, fun h2 => ?_⟩
      · have := setN_g s.1 (w := (frk it.1).toNat + n) (j := 1) (l : Int) (by omega) (by omega)
        rw [if_neg (fun c => q2.2.2 ⟨h7, c.symm⟩)] at this
        have e2 : ig (setN s.1 ((frk it.1).toNat + n) (l : Int)) 2 = ig s.1 2 := this
        rw [e2]; exact i3 h7
      · have := setN_g s.1 (w := (frk it.1).toNat + n) (j := 3) (l : Int) (by omega) (by omega)
        rw [if_neg (fun c => q2.2.1 ⟨h2, c.symm⟩)] at this
        have e2 : ig (setN s.1 ((frk it.1).toNat + n) (l : Int)) 4 = ig s.1 4 := this
        rw [e2]; exact i5 h2
/-- names, whose they are, stores and inputs -/
abbrev NS : Type := List Nd × (Nat → Nat) × Nat × Nat
def nset (nm : Nat → Nat) (d n : Nat) : Nat → Nat := fun r => if r = d then n else nm r
noncomputable def bmv (g : Nat) (j : It) (y : Nd) (s : NS) : It × NS × Int := (if lsF s.2.1 (mkN s.1 y).1 g < 0 then j else (1, ig j 1, lsF s.2.1 (mkN s.1 y).1 g, 0, 0), ((mkN s.1 y).2, nset s.2.1 (ig j 1).toNat (mkN s.1 y).1, s.2.2), if lsF s.2.1 (mkN s.1 y).1 g < 0 then 0 else 1)
noncomputable def goV (g : Nat) (j : It) (s : NS) : It × NS × Int :=
  if j.1 = 0 then (j, ((mkN s.1 (0, ig j 2, 0, 0)).2, nset s.2.1 (ig j 1).toNat (mkN s.1 (0, ig j 2, 0, 0)).1, s.2.2), 0)
  else if j.1 = 1 then (j, (s.1, nset s.2.1 (ig j 1).toNat (s.2.1 (ig j 2).toNat), s.2.2), 0)
  else if j.1 = 2 then bmv g j (1, ig j 4, (s.2.1 (ig j 2).toNat : Int), (s.2.1 (ig j 3).toNat : Int)) s
  else if j.1 = 3 then bmv g j (2, (s.2.1 (ig j 2).toNat : Int), (s.2.2.1 : Int), 0) s
  else if j.1 = 4 then (j, (s.1, s.2.1, s.2.2.1 + 1, s.2.2.2), 0)
  else if j.1 = 5 then (j, ((mkN s.1 (5, (s.2.2.2 : Int), 0, 0)).2, nset s.2.1 (ig j 1).toNat (mkN s.1 (5, (s.2.2.2 : Int), 0, 0)).1, s.2.2.1, s.2.2.2 + 1), 0)
  else if j.1 = 6 then (j, s, 0)
  else (j, (ownK g, id, 0, 0), 0)
noncomputable def cm1 (g : Nat) (it : It) (s : NS) : It × NS × Nat := ((goV g (rdL g s.2.1 it (rdk it.1).toNat).1 s).1, (goV g (rdL g s.2.1 it (rdk it.1).toNat).1 s).2.1, if (rdL g s.2.1 it (rdk it.1).toNat).2 = 0 ∧ (goV g (rdL g s.2.1 it (rdk it.1).toNat).1 s).2.2 = 0 then 0 else 1)
noncomputable def cmS (g : Nat) (X : List It) : Nat → List It × NS × Nat
  | 0 => (X, (ownK g, id, 0, 0), 0)
  | k + 1 => ((cmS g X k).1.set k (cm1 g (itm X k) (cmS g X k).2.1).1, (cm1 g (itm X k) (cmS g X k).2.1).2.1, (cmS g X k).2.2 + (cm1 g (itm X k) (cmS g X k).2.1).2.2)
/-- what holds of names -/
def KO (y : Nd) : Prop := (∃ v : Int, y = (0, v, 0, 0)) ∨ (∃ (o : Int) (a b : Nat), 0 ≤ o ∧ o ≤ 5 ∧ y = (1, o, (a : Int), (b : Int))) ∨ (∃ a c : Nat, y = (2, (a : Int), (c : Int), 0)) ∨ ∃ n : Nat, y = (5, (n : Int), 0, 0)
def WNS (g m : Nat) (s : NS) : Prop := g ≤ s.1.length ∧ s.1.length ≤ g + m ∧ s.2.2.1 ≤ m ∧ s.2.2.2 ≤ m ∧ (∀ r, r < g → s.2.1 r < s.1.length) ∧ (∀ i, i < g → kat s.1 i = (8, (i : Int), 0, 0)) ∧ (∀ i, g ≤ i → i < s.1.length → KO (kat s.1 i)) ∧ dK s.1 ∧ ∀ i, i < s.1.length → ∀ n : Int, kat s.1 i = (5, n, 0, 0) → n < s.2.2.2
theorem WNS_own (g m : Nat) : WNS g m (ownK g, id, 0, 0) := by
  refine ⟨?_, ?_, Nat.zero_le _, Nat.zero_le _, fun r hr => ?_, fun i hi => ownK_at hi, fun i h1 h2 => ?_, ownK_dK g, fun i hi n e => ?_⟩
  · show g ≤ (ownK g).length; rw [ownK_len]; exact Nat.le_refl _
  · show (ownK g).length ≤ _; rw [ownK_len]; omega
  · show r < (ownK g).length; rw [ownK_len]; exact hr
  · have h2 : i < (ownK g).length := h2
    rw [ownK_len] at h2
    omega
  · have hi : i < (ownK g).length := hi
    have e : kat (ownK g) i = _ := e
    rw [ownK_len] at hi
    rw [ownK_at hi] at e
    have := (Prod.mk.inj e).1
    omega
theorem WNS_mono {g m n : Nat} {s : NS} (h : WNS g m s) (hn : m ≤ n) : WNS g n s := ⟨h.1, by have := h.2.1; omega, by have := h.2.2.1; omega, by have := h.2.2.2.1; omega, h.2.2.2.2⟩
theorem WNS_mk {g m st ip d : Nat} {s : NS} {y : Nd} (h : WNS g m s) (hy : KO y) (h5 : ∀ n : Int, y = (5, n, 0, 0) → n < ip) (h1 : s.2.2.2 ≤ ip) (h2 : ip ≤ m + 1) (h3 : st ≤ m + 1) : WNS g (m + 1) ((mkN s.1 y).2, nset s.2.1 d (mkN s.1 y).1, st, ip) := by
  obtain ⟨a1, a2, a3, a4, a5, a6, a7, a8, a9⟩ := h
  have hd := mkN_dK (y := y) a8
  rcases mkN_ok s.1 y with ⟨b1, b2, b3⟩ | ⟨b1, b2, b3⟩
  · refine ⟨?_, ?_, h3, h2, fun r hr => ?_, fun i hi => ?_, fun i i1 i2 => ?_, hd, fun i hi n e => ?_⟩
    · show g ≤ (mkN s.1 y).2.length; rw [b3]; exact a1
    · show (mkN s.1 y).2.length ≤ _; rw [b3]; omega
    · show nset s.2.1 d (mkN s.1 y).1 r < (mkN s.1 y).2.length
      rw [b3]
      unfold nset
      split
      · exact b1
      · exact a5 r hr
    · show kat (mkN s.1 y).2 i = _; rw [b3]; exact a6 i hi
    · have i2 : i < (mkN s.1 y).2.length := i2
      show KO (kat (mkN s.1 y).2 i); rw [b3] at i2 ⊢; exact a7 i i1 i2
    · have hi : i < (mkN s.1 y).2.length := hi
      have e : kat (mkN s.1 y).2 i = _ := e
      rw [b3] at hi e
      have := a9 i hi n e
      show n < (ip : Int)
      omega
  · have hl : (mkN s.1 y).2.length = s.1.length + 1 := by rw [b3, List.length_append]; rfl
    refine ⟨?_, ?_, h3, h2, fun r hr => ?_, fun i hi => ?_, fun i i1 i2 => ?_, hd, fun i hi n e => ?_⟩
    · show g ≤ (mkN s.1 y).2.length; omega
    · show (mkN s.1 y).2.length ≤ _; omega
    · show nset s.2.1 d (mkN s.1 y).1 r < (mkN s.1 y).2.length
      rw [hl]
      unfold nset
      split
      · omega
      · have := a5 r hr; omega
    · show kat (mkN s.1 y).2 i = _
      rw [b3, kat_app1 (by omega)]; exact a6 i hi
    · have i2 : i < (mkN s.1 y).2.length := i2
      show KO (kat (mkN s.1 y).2 i)
      rw [hl] at i2
      rw [b3]
      by_cases c : i < s.1.length
      · rw [kat_app1 c]; exact a7 i i1 c
      · have : i = s.1.length := by omega
        subst this
        rw [kat_app2]; exact hy
    · have hi : i < (mkN s.1 y).2.length := hi
      have e : kat (mkN s.1 y).2 i = _ := e
      rw [hl] at hi
      rw [b3] at e
      show n < (ip : Int)
      by_cases c : i < s.1.length
      · rw [kat_app1 c] at e
        have := a9 i c n e
        omega
      · have : i = s.1.length := by omega
        subst this
        rw [kat_app2] at e
        exact h5 n e
theorem itm_out {X : List It} {j : Nat} (h : X.length ≤ j) : itm X j = (0, 0, 0, 0, 0) := by
  unfold itm
  rw [List.getD_eq_getElem?_getD, List.getElem?_eq_none h]
  rfl
section
variable {T p g : Nat} {X : List It}
theorem goV_ok {m : Nat} {j : It} {s : NS} (hj : okI T p g j) (hg : g ≤ 60) (hs : WNS g m s) : WNS g (m + 1) (goV g j s).2.1 ∧ okI T p g (goV g j s).1 ∧ shp j (goV g j s).1 ∧ ((goV g j s).2.2 = 0 ∨ (goV g j s).2.2 = 1) := by
  obtain ⟨o1, o2, o3, o4, o5⟩ := id hj
  have hvk := nbk_v o1 o2
  obtain ⟨a1, a2, a3, a4, a5, a6, a7, a8, a9⟩ := id hs
  have sh : shp j j := Or.inl ⟨rfl, fun _ => rfl⟩
  have bm : ∀ y, KO y → y.1 ≠ 5 → (j.1 = 2 ∨ j.1 = 3) → WNS g (m + 1) (bmv g j y s).2.1 ∧ okI T p g (bmv g j y s).1 ∧ shp j (bmv g j y s).1 ∧ ((bmv g j y s).2.2 = 0 ∨ (bmv g j y s).2.2 = 1) := fun y hy h5 hk => by
    refine ⟨WNS_mk hs hy (fun n e => by rw [e] at h5; exact absurd rfl h5) (Nat.le_refl _) (Nat.le_succ_of_le a4) (Nat.le_succ_of_le a3), ?_, ?_, ?_⟩
    · unfold bmv
      dsimp only
      rcases lsF_ok (nm := s.2.1) (t := (mkN s.1 y).1) g with ⟨e, -⟩ | ⟨r, r1, r2, -, -⟩
      · rw [e, if_pos (by decide)]; exact hj
      · rw [r2, if_neg (by omega)]
        obtain ⟨d1, d2, d3⟩ := o3 0 (by omega)
        have d3 := d3 ⟨by omega, by omega, by omega⟩
        have d3 : 0 ≤ ig j 1 ∧ ig j 1 < g := d3
        refine ⟨by show (0 : Int) ≤ 1; decide, by show (1 : Int) ≤ 12; decide, fun q hq => ?_, fun z => absurd z (show ¬ (1 : Int) = 2 by decide), fun z => absurd z (show ¬ (1 : Int) = 7 by decide)⟩
        have hq : q < 2 := hq
        rcases (show q = 0 ∨ q = 1 by omega) with rfl | rfl
        · exact ⟨d1, d2, fun _ => d3⟩
        · show -2147483648 ≤ (r : Int) ∧ (r : Int) < 2147483648 ∧ (_ → 0 ≤ (r : Int) ∧ (r : Int) < g)
          exact ⟨by omega, by omega, fun _ => ⟨by omega, by omega⟩⟩
    · unfold bmv
      dsimp only
      split
      · exact sh
      · exact Or.inr ⟨by omega, by omega, by show (0 : Int) ≤ 1; decide, by show (1 : Int) ≤ 6; decide⟩
    · unfold bmv
      dsimp only
      split
      · exact Or.inl rfl
      · exact Or.inr rfl
  unfold goV
  by_cases c0 : j.1 = 0
  · rw [if_pos c0]
    exact ⟨WNS_mk hs (Or.inl ⟨_, rfl⟩) (fun n e => by have := (Prod.mk.inj e).1; omega) (Nat.le_refl _) (Nat.le_succ_of_le a4) (Nat.le_succ_of_le a3), hj, sh, Or.inl rfl⟩
  rw [if_neg c0]
  by_cases c1 : j.1 = 1
  · rw [if_pos c1]
    refine ⟨⟨a1, by show s.1.length ≤ _; omega, by show s.2.2.1 ≤ _; omega, by show s.2.2.2 ≤ _; omega, fun r hr => ?_, a6, a7, a8, a9⟩, hj, sh, Or.inl rfl⟩
    show nset s.2.1 (ig j 1).toNat (s.2.1 (ig j 2).toNat) r < s.1.length
    unfold nset
    split
    · obtain ⟨-, -, d3⟩ := o3 1 (by omega)
      have d3 := d3 ⟨by omega, by omega, by omega⟩
      have d3 : 0 ≤ ig j 2 ∧ ig j 2 < g := d3
      exact a5 _ (by omega)
    · exact a5 r hr
  rw [if_neg c1]
  by_cases c2 : j.1 = 2
  · rw [if_pos c2]
    have := o4 c2
    exact bm _ (Or.inr (Or.inl ⟨_, _, _, this.1, this.2, rfl⟩)) (by show (1 : Int) ≠ 5; decide) (Or.inl c2)
  rw [if_neg c2]
  by_cases c3 : j.1 = 3
  · rw [if_pos c3]
    exact bm _ (Or.inr (Or.inr (Or.inl ⟨_, _, rfl⟩))) (by show (2 : Int) ≠ 5; decide) (Or.inr c3)
  rw [if_neg c3]
  by_cases c4 : j.1 = 4
  · rw [if_pos c4]
    exact ⟨⟨a1, by show s.1.length ≤ _; omega, by show s.2.2.1 + 1 ≤ _; omega, by show s.2.2.2 ≤ _; omega, a5, a6, a7, a8, a9⟩, hj, sh, Or.inl rfl⟩
  rw [if_neg c4]
  by_cases c5 : j.1 = 5
  · rw [if_pos c5]
    exact ⟨WNS_mk hs (Or.inr (Or.inr (Or.inr ⟨_, rfl⟩))) (fun n e => by have := (Prod.mk.inj (Prod.mk.inj e).2).1; omega) (by omega) (by omega) (by omega), hj, sh, Or.inl rfl⟩
  rw [if_neg c5]
  by_cases c6 : j.1 = 6
  · rw [if_pos c6]
    exact ⟨WNS_mono hs (by omega), hj, sh, Or.inl rfl⟩
  rw [if_neg c6]
  exact ⟨WNS_own g _, hj, sh, Or.inl rfl⟩
theorem cm1_ok {m : Nat} {it : It} {s : NS} (hi : okI T p g it) (hg : g ≤ 60) (hs : WNS g m s) : WNS g (m + 1) (cm1 g it s).2.1 ∧ okI T p g (cm1 g it s).1 ∧ shp it (cm1 g it s).1 ∧ (cm1 g it s).2.2 ≤ 1 := by
  have hr := rdk_0 it.1
  obtain ⟨b1, b2, b3, b4, b5⟩ := rdL_ok (nm := s.2.1) hi hg (rdk it.1).toNat (by omega)
  obtain ⟨c1, c2, c3, c4⟩ := goV_ok b2 hg hs
  refine ⟨c1, c2, ?_, ?_⟩
  · show shp it (goV g (rdL g s.2.1 it (rdk it.1).toNat).1 s).1
    rcases c3 with ⟨e1, e2⟩ | e
    · refine Or.inl ⟨b1.symm.trans e1, fun h7 => ?_⟩
      rw [← e2 (by rw [b1]; exact h7)]
      exact (b3 h7).symm
    · rw [b1] at e
      exact Or.inr e
  · unfold cm1
    dsimp only
    split <;> omega
theorem cmS_ok (hok : okL T p g X) (hg : g ≤ 60) : ∀ k, k ≤ X.length → (cmS g X k).1.length = X.length ∧ (∀ j, k ≤ j → itm (cmS g X k).1 j = itm X j) ∧ okL T p g (cmS g X k).1 ∧ (∀ nd n, bal nd n X → bal nd n (cmS g X k).1) ∧ (∀ sz, szL sz (cmS g X k).1 = szL sz X) ∧ WNS g k (cmS g X k).2.1 ∧ (cmS g X k).2.2 ≤ k ∧ ∀ j, j < X.length → flt (itm X j).1 = flt (itm (cmS g X k).1 j).1 := by
  intro k
  induction k with
  | zero => exact fun _ => ⟨rfl, fun _ _ => rfl, hok, fun _ _ h => h, fun _ => rfl, WNS_own g 0, Nat.le_refl _, fun _ _ => rfl⟩
  | succ k ih =>
    intro hk
    obtain ⟨i1, i2, i3, i4, i5, i6, i7, i8⟩ := ih (by omega)
    have e : cmS g X (k + 1) = ((cmS g X k).1.set k (cm1 g (itm X k) (cmS g X k).2.1).1, (cm1 g (itm X k) (cmS g X k).2.1).2.1, (cmS g X k).2.2 + (cm1 g (itm X k) (cmS g X k).2.1).2.2) := rfl
    rw [e]
    obtain ⟨c1, c2, c3, c4⟩ := cm1_ok (it := itm X k) (hok _ (itm_mem (by omega))) hg i6
    have hk' : k < (cmS g X k).1.length := by omega
    have hik : itm (cmS g X k).1 k = itm X k := i2 k (Nat.le_refl _)
    have c3' : shp (itm (cmS g X k).1 k) (cm1 g (itm X k) (cmS g X k).2.1).1 := by rw [hik]; exact c3
    refine ⟨by dsimp only; rw [List.length_set]; exact i1, fun j hj => ?_, fun i hi => ?_, fun nd n h => bal_set hk' (i4 nd n h) c3', fun sz => by dsimp only; rw [szL_set hk' c3']; exact i5 sz, c1, by dsimp only; omega, fun j hj => ?_⟩
    · dsimp only
      by_cases cj : j < (cmS g X k).1.length
      · rw [itm_set cj, if_neg (by omega)]; exact i2 j (by omega)
      · rw [itm_out (by rw [List.length_set]; omega), itm_out (by omega)]
    · rcases List.mem_or_eq_of_mem_set hi with z | z
      · exact i3 i z
      · rw [z]; exact c2
    · dsimp only
      rw [itm_set (by omega)]
      by_cases cj : j = k
      · rw [if_pos cj, cj]
        exact shp_flt c3
      · rw [if_neg cj]; exact i8 j hj
noncomputable def comQ (Q : Pr) (p : Nat) : Pr := updG Q p (cmS (Q.2.2 p) (Q.2.1 p) (Q.2.1 p).length).1 (Q.2.2 p)
theorem com_ok {Q : Pr} {p : Nat} (hG : GQ Q) (hp : exP Q p) : GQ (comQ Q p) := by
  obtain ⟨a1, a2, a3, a4⟩ := hG.1.2 p hp
  obtain ⟨h1, h2, h3, h4, h5, h6, h7, h8⟩ := cmS_ok (g := Q.2.2 p) (X := Q.2.1 p) a4 a2 _ (Nat.le_refl _)
  exact hG.putG hp a1 a2 (fun nd sz n _ hb => h4 nd n hb) (fun nd sz _ => by rw [h5]; exact Nat.le_refl _) h3
end
