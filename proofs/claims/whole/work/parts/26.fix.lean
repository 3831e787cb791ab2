/-! the program's links hold; what is given at the start lasts -/
theorem mp_hcode : ∀ (mi pc : Nat) (i : Instr) (len : Nat), mp_P.code mi pc = some (i, len) → ∃ r : Instr, decode (mp_I.bc mi) pc = .ok (r, len) ∧ mj_Lk mp_tb mp_nb mp_ab mp_cl mp_P mp_I mi pc len i r := by
  intro mi pc i len h
  have h : mp_code mi pc = some (i, len) := h
  unfold mp_code at h
  cases h1 : Nat.blt mi mp_n with
  | false =>
    rw [h1] at h
    cases h
  | true =>
    rw [h1] at h
    cases h2 : Nat.blt pc (mp_len mi) with
    | false =>
      rw [h2] at h
      cases h
    | true =>
      rw [h2] at h
      have h : mp_tr mi pc = some (i, len) := h
      have h3 := mp_all (Nat.blt_eq.mp h1) pc (Nat.blt_eq.mp h2)
      unfold mp_at at h3
      rw [h] at h3
      dsimp only at h3
      split at h3
      · rename_i r l2 hd
        simp only [Bool.and_eq_true, decide_eq_true_eq] at h3
        obtain ⟨rfl, h5⟩ := h3
        exact ⟨r, hd, mj_ck_ok mp_tbok (ow := mp_ow) rfl h5⟩
      · cases h3
def mp_hp (ct : Nat) : Nat := if ct = 13 then 717 else if ct = 15 then 718 else if ct = 33 then 1599 else 0
def mp_hq (mi i : Nat) : Bool := match (mp_hnd mi)[i]?, (mp_hd mi)[i]? with
  | some (a, b, t, k), some (a2, b2, t2, ct) => decide (a2 = a) && decide (b2 = b) && decide (t2 = t) && decide (k ≤ 2) && decide (ct ≠ 0) && mp_w (mp_hp ct) (.classLink (mp_own mi) ct (mj_xn (100 + k)))
  | _, _ => false
set_option maxRecDepth 100000 in
theorem mp_hck : (List.range 29).all (fun mi => decide ((mp_hnd mi).length = (mp_hd mi).length) && (List.range (mp_hnd mi).length).all (mp_hq mi)) = true := by decide +kernel
theorem mp_blt {a b : Nat} (h : b ≤ a) : Nat.blt a b = false := by
  cases z : Nat.blt a b with
  | false => rfl
  | true =>
    have := Nat.blt_eq.mp z
    omega
theorem mp_beq {a b : Nat} (h : a ≠ b) : Nat.beq a b = false := by
  cases z : Nat.beq a b with
  | false => rfl
  | true => exact absurd (Nat.eq_of_beq_eq_true z) h
theorem mp_hbig {mi : Nat} (h : 29 ≤ mi) : mp_hnd mi = [] ∧ mp_hd mi = [] := by
  have e1 : Nat.blt mi 18 = false := mp_blt (by omega)
  have e2 : Nat.blt mi 26 = false := mp_blt (by omega)
  have e3 : Nat.blt mi 28 = false := mp_blt (by omega)
  have e4 : Nat.beq mi 28 = false := mp_beq (by omega)
  constructor
  · unfold mp_hnd
    rw [e1, e2, e3, e4]
    rfl
  · unfold mp_hd
    rw [e1, e2, e3, e4]
    rfl
theorem mp_hr (mi : Nat) : mj_Hr mp_tb (mp_I.own mi) (mp_P.hnd mi) (mp_I.hd mi) := by
  show mj_Hr mp_tb (mp_own mi) (mp_hnd mi) (mp_hd mi)
  by_cases h : mi < 29
  · have h1 := List.all_eq_true.mp mp_hck mi (List.mem_range.mpr h)
    simp only [Bool.and_eq_true, decide_eq_true_eq] at h1
    refine ⟨h1.1, fun i a b t k hi => ?_⟩
    have hl := (List.getElem?_eq_some_iff.mp hi).1
    have h2 := List.all_eq_true.mp h1.2 i (List.mem_range.mpr hl)
    unfold mp_hq at h2
    rw [hi] at h2
    split at h2
    · rename_i a1 b1 t1 k1 a2 b2 t2 ct e1 e2
      cases e1
      simp only [Bool.and_eq_true, decide_eq_true_eq] at h2
      obtain ⟨⟨⟨⟨⟨rfl, rfl⟩, rfl⟩, g1⟩, g2⟩, g3⟩ := h2
      exact ⟨g1, ct, e2, g2, mp_in g3⟩
    · cases h2
  · obtain ⟨e1, e2⟩ := mp_hbig (mi := mi) (by omega)
    rw [e1, e2]
    exact ⟨rfl, fun i a b t k hi => by simp at hi⟩
theorem mp_xx : ∀ x, x ≤ 2 → Cond.instantiable (mj_xn (100 + x)) 6 ∈ mp_tb ∧ mp_cl[100 + x]? = none := by
  intro x hx
  refine ⟨?_, List.getElem?_eq_none (by show 13 ≤ 100 + x; omega)⟩
  rcases (by omega : x = 0 ∨ x = 1 ∨ x = 2) with rfl | rfl | rfl
  · exact mp_in mp_tn0
  · exact mp_in mp_tn1
  · exact mp_in mp_tn2
/-- arrays of arrays -/
theorem mp_AA {t : FieldType} {A B : Array Value} {u U : State} (hvm : u.vm.Alike U.vm) (h : (Cond.arrayOver (.array t)).before A u = true) : (Cond.arrayOver (.array t)).before B U = true := by
  have h0 : (Cond.arrayOver (.array t)).holds A u none u [] = true := h
  simp only [Cond.holds, Cond.value, beq_iff_eq] at h0
  cases hc : u.vm.findClass (FieldType.array t).toString with
  | none => simp [hc] at h0
  | some comp =>
    simp only [hc, Option.bind_some, Option.bind_eq_some_iff, Option.map_eq_some_iff] at h0
    obtain ⟨c, hi, k, hk, hb⟩ := h0
    obtain ⟨k', hk', he⟩ := hvm.2.2 _ _ hk
    have hi2 : (U.vm.classes.findIdx? fun (x : Class) => match x.kind with | .array component _ => component == comp | _ => false) = some c := by
      have e1 := va_idx_bare U.vm comp
      have e2 := va_idx_bare u.vm comp
      first | rw [hvm.bare_eq] at e1 | rw [← hvm.bare_eq] at e1
      exact (e1.symm.trans e2).trans hi
    have hkind : k'.kind = k.kind := by rw [he]
    have f1 : U.vm.findClass (FieldType.array t).toString = some comp := by rw [hvm.findClass]; exact hc
    have f2 : ∀ n, U.vm.findClass n = u.vm.findClass n := fun n => by rw [hvm.findClass]
    show (Cond.arrayOver (.array t)).holds B U none U [] = true
    simp only [Cond.holds, Cond.value, beq_iff_eq]
    rw [f1, Option.bind_some]
    refine Option.bind_eq_some_iff.mpr ⟨c, hi2, Option.map_eq_some_iff.mpr ⟨k', hk', ?_⟩⟩
    rw [hkind, f2]
    exact hb
/-- what is given at the start and lasts -/
def mp_E (F : mj_F) (U : State) : Prop := (∀ q ∈ mp_st, va_Z q.2.1 q.2.2.1 q.2.2.2 (.ref (F.ad q.1)) (fun z => F.base ≤ z) U F.h0) ∧ (∀ w ∈ mp_ab, ∀ a : Array Value, w.before a U = true) ∧ (∀ q ∈ mp_tx, ∃ sa : Nat, vk_R q.1 q.2.1 q.2.2 sa U) ∧ (mj_Sz F Bundle.tN "UNASSIGNED_STACK" Bundle.steD U ∧ mj_Sz F Bundle.tN "SUPPRESSED_SENTINEL" Bundle.listD U) ∧ ∀ x y, x ≤ 2 → y ≤ 2 → x ≠ y → va_Nc (mj_xn (100 + x)) (mj_xn (100 + y)) U
theorem mp_Ew (F : mj_F) : mj_Ew (mp_E F) := by
  intro s U hW h
  obtain ⟨h1, h2, h3, h4, h5⟩ := h
  refine ⟨fun q hq => (h1 q hq).moved hW.alike, fun w hw a => ?_, fun q hq => ?_, ⟨h4.1.moved hW.alike, h4.2.moved hW.alike⟩, fun x y a b c => (h5 x y a b c).moved hW.alike⟩
  · simp only [mp_ab, List.mem_cons, List.not_mem_nil, or_false] at hw
    rcases hw with rfl | rfl | rfl
    · exact (va_AO.moved hW.alike (va_AO.of (h2 _ (by simp [mp_ab]) #[]))).use
    · exact mp_AA hW.alike (h2 _ (by simp [mp_ab]) #[])
    · exact mp_AA hW.alike (h2 _ (by simp [mp_ab]) #[])
  · obtain ⟨sa, z⟩ := h3 q hq
    exact ⟨sa, z.warm hW⟩
theorem mp_fix {l : Launch} {F : mj_F} (hF : F.ok) (hcl : F.cl = mp_cl) (hl : l.stackTraces = false) : mj_Fix l F mp_tb mp_nb mp_ab (mp_E F) mp_P mp_I := by
  refine ⟨hF, fun w hw => (List.mem_filter.mp hw).2, fun w hw => (List.mem_filter.mp hw).2, mp_Ew F, fun U h => h.1, fun U h => h.2.1, fun U h => h.2.2.1, fun U h => h.2.2.2.1, fun U h => h.2.2.2.2, fun x hx => ?_, hl, ?_, mp_hr⟩
  · rw [hcl]
    exact mp_xx x hx
  · rw [hcl]
    exact mp_hcode
