/-! MJ's cells and locals as the machine's -/
def mj_cv (ad : Nat → Nat) (v : Value) : Value := match v with
  | .ref k => .ref (ad k)
  | .int x => .int x
  | .long x => .long x
  | .float x => .float x
  | .double x => .double x
  | .null => .null
  | .retAddr x => .retAddr x
theorem mj_cv_cat (ad : Nat → Nat) (v : Value) : (mj_cv ad v).category = v.category := by cases v <;> rfl
def mj_pr (ad : Nat → Nat) : Nat → mj_L → List (Nat × Value)
  | _, [] => []
  | i, none :: r => mj_pr ad (i + 1) r
  | i, some v :: r => (i, mj_cv ad v) :: mj_pr ad (i + 1) r
theorem mj_pr_mem (ad : Nat → Nat) : ∀ (L : mj_L) (i : Nat) (q : Nat × Value), q ∈ mj_pr ad i L ↔ ∃ (j : Nat) (v : Value), L[j]? = some (some v) ∧ q = (i + j, mj_cv ad v)
  | [], i, q => by simp [mj_pr]
  | none :: r, i, q => by
    rw [mj_pr, mj_pr_mem ad r (i + 1) q]
    constructor
    · rintro ⟨j, v, h1, h2⟩
      exact ⟨j + 1, v, h1, by rw [h2]; simp; omega⟩
    · rintro ⟨j, v, h1, h2⟩
      cases j with
      | zero => simp at h1
      | succ j => exact ⟨j, v, h1, by rw [h2]; simp; omega⟩
  | some w :: r, i, q => by
    rw [mj_pr, List.mem_cons, mj_pr_mem ad r (i + 1) q]
    constructor
    · rintro (h | ⟨j, v, h1, h2⟩)
      · exact ⟨0, w, rfl, by rw [h]; simp⟩
      · exact ⟨j + 1, v, h1, by rw [h2]; simp; omega⟩
    · rintro ⟨j, v, h1, h2⟩
      cases j with
      | zero =>
        simp only [List.getElem?_cons_zero, Option.some.injEq] at h1
        subst h1
        exact Or.inl (by rw [h2]; simp)
      | succ j => exact Or.inr ⟨j, v, h1, by rw [h2]; simp; omega⟩
def mj_Lr (ad : Nat → Nat) (L : mj_L) (ls : Array Slot) : Prop := lv_has ls L.length (mj_pr ad 0 L)
theorem mj_Lr.at {ad : Nat → Nat} {L : mj_L} {ls : Array Slot} (h : mj_Lr ad L ls) {k : Nat} {v : Value} (hk : L[k]? = some (some v)) : ls[k]? = some (.val (mj_cv ad v)) :=
  h.2.2 (k, mj_cv ad v) ((mj_pr_mem ad L 0 _).mpr ⟨k, v, hk, by simp⟩)
theorem mj_clr_len (L : mj_L) (i : Nat) : (mj_clr L i).length = L.length := by
  unfold mj_clr
  split
  · rfl
  · split <;> simp
theorem mj_st1_len (L : mj_L) (i : Nat) (v : Value) : (mj_st1 L i v).length = L.length := by simp [mj_st1, mj_clr_len]
theorem mj_st2_len (L : mj_L) (i : Nat) (v : Value) : (mj_st2 L i v).length = L.length := by simp [mj_st2, mj_clr_len]
/-- what is left of the others when i is written -/
theorem mj_clr_at {L : mj_L} {i j : Nat} {v : Value} (h : (mj_clr L i)[j]? = some (some v)) : L[j]? = some (some v) ∧ ¬ (j + 1 = i ∧ v.category = 2) := by
  unfold mj_clr at h
  split at h
  · exact ⟨h, by omega⟩
  · rename_i k
    split at h
    · rename_i x hx
      by_cases e : j = k
      · subst e
        have hl := (List.getElem?_eq_some_iff.mp hx).1
        rw [List.getElem?_set_self hl] at h
        cases h
      · rw [List.getElem?_set_ne (fun q => e q.symm)] at h
        exact ⟨h, by omega⟩
    · rename_i x hx
      by_cases e : j = k
      · subst e
        have hl := (List.getElem?_eq_some_iff.mp hx).1
        rw [List.getElem?_set_self hl] at h
        cases h
      · rw [List.getElem?_set_ne (fun q => e q.symm)] at h
        exact ⟨h, by omega⟩
    · rename_i n1 n2
      refine ⟨h, fun ⟨e, hc⟩ => ?_⟩
      have e' : j = k := by omega
      subst e'
      cases v with
      | long x => exact n1 x h
      | double x => exact n2 x h
      | _ => simp [Value.category] at hc
theorem mj_pr_st1 {ad : Nat → Nat} {L : mj_L} {i : Nat} {v : Value} : ∀ q ∈ mj_pr ad 0 (mj_st1 L i v), q ∈ (i, mj_cv ad v) :: (mj_pr ad 0 L).filter (fun q => !(q.1 == i) && !(q.1 + 1 == i && q.2.category == 2)) := by
  intro q hq
  obtain ⟨j, w, h1, rfl⟩ := (mj_pr_mem ad _ 0 q).mp hq
  unfold mj_st1 at h1
  by_cases e : j = i
  · subst e
    have hl : j < (mj_clr L j).length := by
      have := (List.getElem?_eq_some_iff.mp h1).1
      simpa using this
    rw [List.getElem?_set_self hl] at h1
    cases h1
    exact List.mem_cons.mpr (Or.inl (by simp))
  · rw [List.getElem?_set_ne (fun q => e q.symm)] at h1
    obtain ⟨h2, h3⟩ := mj_clr_at h1
    refine List.mem_cons.mpr (Or.inr (List.mem_filter.mpr ⟨(mj_pr_mem ad L 0 _).mpr ⟨j, w, h2, rfl⟩, ?_⟩))
    simp only [Nat.zero_add, mj_cv_cat, Bool.and_eq_true, Bool.not_eq_true', beq_eq_false_iff_ne, ne_eq, Bool.and_eq_false_iff]
    exact ⟨e, by by_cases z : j + 1 = i
                 · exact Or.inr (fun y => h3 ⟨z, y⟩)
                 · exact Or.inl z⟩
theorem mj_pr_st2 {ad : Nat → Nat} {L : mj_L} {i : Nat} {v : Value} : ∀ q ∈ mj_pr ad 0 (mj_st2 L i v), q ∈ (i, mj_cv ad v) :: (mj_pr ad 0 L).filter (fun q => !(q.1 == i) && (!(q.1 == i + 1) && !(q.1 + 1 == i && q.2.category == 2))) := by
  intro q hq
  obtain ⟨j, w, h1, rfl⟩ := (mj_pr_mem ad _ 0 q).mp hq
  unfold mj_st2 at h1
  by_cases e1 : j = i + 1
  · subst e1
    have hl : i + 1 < ((mj_clr L i).set i (some v)).length := by
      have := (List.getElem?_eq_some_iff.mp h1).1
      simpa using this
    rw [List.getElem?_set_self hl] at h1
    cases h1
  · rw [List.getElem?_set_ne (fun q => e1 q.symm)] at h1
    by_cases e : j = i
    · subst e
      have hl : j < (mj_clr L j).length := by
        have := (List.getElem?_eq_some_iff.mp h1).1
        simpa using this
      rw [List.getElem?_set_self hl] at h1
      cases h1
      exact List.mem_cons.mpr (Or.inl (by simp))
    · rw [List.getElem?_set_ne (fun q => e q.symm)] at h1
      obtain ⟨h2, h3⟩ := mj_clr_at h1
      refine List.mem_cons.mpr (Or.inr (List.mem_filter.mpr ⟨(mj_pr_mem ad L 0 _).mpr ⟨j, w, h2, rfl⟩, ?_⟩))
      simp only [Nat.zero_add, mj_cv_cat, Bool.and_eq_true, Bool.not_eq_true', beq_eq_false_iff_ne, ne_eq, Bool.and_eq_false_iff]
      exact ⟨e, e1, by by_cases z : j + 1 = i
                       · exact Or.inr (fun y => h3 ⟨z, y⟩)
                       · exact Or.inl z⟩
theorem mj_Lr.of {ad : Nat → Nat} {L : mj_L} {ls : Array Slot} {n : Nat} {l : List (Nat × Value)} (h : lv_has ls n l) (hn : n = L.length) (hs : ∀ q ∈ mj_pr ad 0 L, q ∈ l) : mj_Lr ad L ls := by
  subst hn
  exact ⟨h.1, h.2.1, fun q hq => h.2.2 q (hs q hq)⟩
/-! the cells -/
def mj_ty (t : Nat) : FieldType := match t with
  | 0 => .int
  | 1 => .long
  | 2 => .char
  | 3 => .boolean
  | 4 => .byte
  | 5 => .short
  | 6 => .object "PassChain$Part"
  | 7 => .array .int
  | 8 => .array .long
  | _ => .int
def mj_xn (x : Nat) : String := match x with
  | 100 => "java/lang/IllegalArgumentException"
  | 101 => "java/lang/IllegalStateException"
  | _ => "java/util/NoSuchElementException"
abbrev mj_tys (dA : Nat → ClassId) : List (ClassId × FieldType) := [(dA 0, .int), (dA 1, .long), (dA 2, .char), (dA 3, .boolean), (dA 6, .object "PassChain$Part"), (dA 7, .array .int), (dA 8, .array .long)]
/-- what is fixed: where cells lie, the classes' numbers -/
abbrev mj_F : Type := va_G × List vw_C × (Nat → ClassId) × (Nat → Nat) × Nat × Nat × Heap
abbrev mj_F.D (F : mj_F) : va_G := F.1
abbrev mj_F.cl (F : mj_F) : List vw_C := F.2.1
abbrev mj_F.dA (F : mj_F) : Nat → ClassId := F.2.2.1
abbrev mj_F.ad (F : mj_F) : Nat → Nat := F.2.2.2.1
abbrev mj_F.nT (F : mj_F) : Nat := F.2.2.2.2.1
abbrev mj_F.base (F : mj_F) : Nat := F.2.2.2.2.2.1
abbrev mj_F.h0 (F : mj_F) : Heap := F.2.2.2.2.2.2
abbrev mj_F.cv (F : mj_F) (v : Value) : Value := mj_cv F.ad v
def mj_F.ok (F : mj_F) : Prop := (∀ k, F.nT ≤ k → F.ad k = F.base + (k - F.nT)) ∧ ∀ k, k < F.nT → F.ad k < F.base
/-- a cell without monitor and hash -/
def mj_pl (cell : Cell) (ca : ClassId) : Prop := cell = { cls := ca, slots := cell.slots, vm := .none }
theorem mj_pl.cls {cell : Cell} {ca : ClassId} (h : mj_pl cell ca) : cell.cls = ca := by rw [h]
theorem mj_pl.vm {cell : Cell} {ca : ClassId} (h : mj_pl cell ca) : cell.vm = .none := by rw [h]
theorem mj_pl.set {cell : Cell} {ca : ClassId} (h : mj_pl cell ca) (j : Nat) (v : Value) : mj_pl (cell.setSlot j v) ca := by
  unfold mj_pl at h ⊢
  rw [h]
  rfl
def mj_at (F : mj_F) (s : State) (k : Nat) (x : mj_C) (H : Heap) : Prop := match x with
  | (false, ci, vs) => (∃ r : vw_C, F.cl[ci]? = some r ∧ vs.length = r.2.2 ∧ t_OB (F.ad k) (F.D.1 ci) r.2.2 (F.D.2 ci) H (vp_V (vs.map F.cv))) ∨ (F.cl[ci]? = none ∧ ∃ cell : Cell, H[F.ad k]? = some cell ∧ cell.vm = .none ∧ s.vm.findClass (mj_xn ci) = some cell.cls)
  | (true, t, vs) => ∃ cell : Cell, H[F.ad k]? = some cell ∧ s.isArrayOf cell (mj_ty t) ∧ cell.vm ≠ .unknown ∧ cell.slots.toList = vs.map F.cv ∧ (F.nT ≤ k → mj_pl cell (F.dA t))
def mj_P (F : mj_F) (s : State) (h : mj_H) (H : Heap) : Prop := (∀ (k : Nat) (x : mj_C), h[k]? = some x → mj_at F s k x H) ∧ H.size = F.base + (h.length - F.nT) ∧ F.nT ≤ h.length ∧ ∀ q : Nat, q < F.base → H[q]? = F.h0[q]?
theorem mj_at.kept {F : mj_F} {s : State} {k : Nat} {x : mj_C} {H H1 : Heap} (h : mj_at F s k x H) (hq : H1[F.ad k]? = H[F.ad k]?) : mj_at F s k x H1 := by
  obtain ⟨b, ci, vs⟩ := x
  cases b with
  | false =>
    rcases h with ⟨r, h1, h2, h3⟩ | ⟨h0, cell, h1, h2⟩
    · exact Or.inl ⟨r, h1, h2, h3.kept hq⟩
    · exact Or.inr ⟨h0, cell, by rw [hq]; exact h1, h2⟩
  | true =>
    obtain ⟨cell, h1, h2⟩ := h
    exact ⟨cell, by rw [hq]; exact h1, h2⟩
theorem mj_at.moved {F : mj_F} {s t : State} {k : Nat} {x : mj_C} {H : Heap} (hvm : s.vm.Alike t.vm) (h : mj_at F s k x H) : mj_at F t k x H := by
  obtain ⟨b, ci, vs⟩ := x
  cases b with
  | false =>
    rcases h with ⟨r, h1, h2, h3⟩ | ⟨h0, cell, h1, h2, h3⟩
    · exact Or.inl ⟨r, h1, h2, h3⟩
    · exact Or.inr ⟨h0, cell, h1, h2, by rw [hvm.findClass]; exact h3⟩
  | true =>
    obtain ⟨cell, h1, h2, h3⟩ := h
    exact ⟨cell, h1, State.isArrayOf_alike hvm h2, h3⟩
theorem mj_P.moved {F : mj_F} {s t : State} {h : mj_H} {H : Heap} (hvm : s.vm.Alike t.vm) (hP : mj_P F s h H) : mj_P F t h H := ⟨fun k x hk => (hP.1 k x hk).moved hvm, hP.2⟩
theorem mj_ad_ne {F : mj_F} (hF : F.ok) {a k : Nat} (ha : F.nT ≤ a) (hne : k ≠ a) : F.ad k ≠ F.ad a := by
  have h1 := hF.1 a ha
  by_cases hk : k < F.nT
  · have := hF.2 k hk
    omega
  · have := hF.1 k (by omega)
    omega
theorem mj_ad_lt {F : mj_F} (hF : F.ok) {s : State} {h : mj_H} {H : Heap} (hP : mj_P F s h H) {k : Nat} (hk : k < h.length) : F.ad k < H.size := by
  obtain ⟨-, h2, h3, -⟩ := hP
  by_cases e : k < F.nT
  · have := hF.2 k e
    omega
  · have := hF.1 k (by omega)
    omega
theorem mj_ad_new {F : mj_F} (hF : F.ok) {s : State} {h : mj_H} {H : Heap} (hP : mj_P F s h H) : F.ad h.length = H.size := by
  have := hF.1 h.length hP.2.2.1
  have := hP.2.1
  omega
/-- a cell is written -/
theorem mj_P.set {F : mj_F} (hF : F.ok) {s : State} {h : mj_H} {H H1 : Heap} (hP : mj_P F s h H) {a : Nat} {x : mj_C} (ha : F.nT ≤ a) (hat : mj_at F s a x H1) (hz : H1.size = H.size) (oq : ∀ q : Nat, q ≠ F.ad a → H1[q]? = H[q]?) : mj_P F s (h.set a x) H1 := by
  refine ⟨fun k y hk => ?_, by rw [hz, List.length_set]; exact hP.2.1, by rw [List.length_set]; exact hP.2.2.1, fun q hq => by
    have := hF.1 a ha
    rw [oq q (by omega)]
    exact hP.2.2.2 q hq⟩
  by_cases e : k = a
  · subst e
    have hl : k < h.length := by
      have := (List.getElem?_eq_some_iff.mp hk).1
      simpa using this
    rw [List.getElem?_set_self hl] at hk
    cases hk
    exact hat
  · rw [List.getElem?_set_ne (fun q => e q.symm)] at hk
    exact (hP.1 k y hk).kept (oq _ (mj_ad_ne hF ha e))
/-- a cell is made -/
theorem mj_P.push {F : mj_F} (hF : F.ok) {s : State} {h : mj_H} {H H1 : Heap} (hP : mj_P F s h H) {x : mj_C} (hat : mj_at F s h.length x H1) (hz : H1.size = H.size + 1) (oq : ∀ q : Nat, q < H.size → H1[q]? = H[q]?) : mj_P F s (h ++ [x]) H1 := by
  refine ⟨fun k y hk => ?_, by rw [hz, List.length_append, hP.2.1]; have := hP.2.2.1; simp; omega, by rw [List.length_append]; have := hP.2.2.1; omega, fun q hq => by
    have := hP.2.1
    rw [oq q (by omega)]
    exact hP.2.2.2 q hq⟩
  by_cases e : k < h.length
  · rw [List.getElem?_append_left e] at hk
    exact (hP.1 k y hk).kept (oq _ (mj_ad_lt hF hP e))
  · rw [List.getElem?_append_right (by omega)] at hk
    have hl : k - h.length < 1 := (List.getElem?_eq_some_iff.mp hk).1
    have hk0 : k = h.length := by omega
    subst hk0
    rw [Nat.sub_self] at hk
    cases hk
    exact hat
/-- how much the cells hold -/
def mj_sl (h : mj_H) : Nat := match h with
  | [] => 0
  | (true, _, vs) :: r => vs.length + mj_sl r
  | (false, ci, vs) :: r => (if 100 ≤ ci then 6 else vs.length) + mj_sl r
theorem mj_sl_app : ∀ (h g : mj_H), mj_sl (h ++ g) = mj_sl h + mj_sl g
  | [], g => by simp [mj_sl]
  | (true, t, vs) :: r, g => by simp [mj_sl, mj_sl_app r g]; omega
  | (false, t, vs) :: r, g => by simp [mj_sl, mj_sl_app r g]; omega
