/-! MJ's run of the law is the machine's -/
def R_law : String := "PassChainLaw"
def lw_P (b : Addr) (xs : List Int32) (args : Array Value) (s : State) : Prop := args = #[.ref b] ∧ s.IntsAt b xs ∧ xs.length ≤ 2560 ∧ (Jvm.Cond.and given_1 narrow_1).before args s = true
def lw_Q (_ : Array Value) (s : State) (o : Outcome) (t : State) : Prop := o = .returned (some (.int 1)) ∧ Framed s o t [] 601024 7293034
def lw_Z (below : List Frame) (a : Array Value) (s : State) : State → Prop := fun t => ∃ o, t.status = .running ∧ Ended t below o ∧ lw_Q a s o t
/-- what holds at the law's entry -/
def lw_At (p : Program) (s : State) (m : MethodId) (meth : Method) (c : Code) (b L : Nat) (xs : Nat → Int32) : Prop :=
  p.tables.exec = Jvm.exec ∧ c.code = code ∧ meth.sig.returnType = ret ∧ c.maxLocals = 7 ∧ s.vm.findClass R_law = some m.cls ∧ (∀ w ∈ lw_tbl, w.before #[Value.ref b] s = true) ∧ va_X b L xs s s.heap ∧ b < s.heap.size ∧ meth.locks = false ∧ (Jvm.Cond.and given_1 narrow_1).before #[Value.ref b] s = true ∧ meth.name = "law" ∧ c.exceptionTable.toList = []
theorem mp_Sz0 {F : mj_F} {s : State} {args : Array Value} {C n d : String} (h0 : F.h0 = s.heap) (hb : F.base = s.heap.size) (hl : (Cond.laysStatic C n d).before args s = true) (hr : (Cond.isRef (.static C n d)).before args s = true) : mj_Sz F C n d s := by
  obtain ⟨c, k, i, f, a, cell, hc, hi, hst, ha, hcell, hs, hcls, hlt, hty⟩ := Cond.laysStatic_spec hl
  cases hv : (Term.static C n d).eval args s none [] s with
  | none => simp [Cond.before, Cond.holds, Cond.value, hv] at hr
  | some v =>
    have hrv : v.isRef = true := by
      simp only [Cond.before, Cond.holds, Cond.value, hv] at hr
      cases v <;> simp_all [Value.isRef]
    obtain ⟨-, a', cell', ha', hcell', -, hslot⟩ := Term.static_spec hi hv
    cases ha.symm.trans ha'
    cases hcell.symm.trans hcell'
    exact ⟨c, k, i, f, a, cell, v, hc, hi, hst, ha, by rw [h0]; exact hcell, hs, hcls, hlt, hty, hslot, hrv, by rw [hb]; exact (Array.getElem?_eq_some_iff.mp hcell).1⟩
def mp_ad (b t1 t2 t3 B k : Nat) : Nat := match k with
  | 0 => b
  | 1 => t1
  | 2 => t2
  | 3 => t3
  | k + 4 => B + k
theorem mp_arrC {s : State} {args : Array Value} {ty : FieldType} (h : (Cond.arrayClass ty).before args s = true) : ∃ cA : ClassId, ArrOfT s cA ty ∧ s.vm.findClass ("[" ++ ty.toString) = some cA := by
  obtain ⟨c, k, comp, f1, f2, f3⟩ := Cond.arrayClass_spec h
  exact ⟨c, fun N z => ⟨(fun k h => by cases h), k, f2, comp, f3⟩, f1⟩
theorem mp_arrs {s : State} {args : Array Value} (hts : ∀ w ∈ lw_tbl, w.before args s = true) (t : Nat) : ∃ cA : ClassId, (t = 0 ∨ t = 1 ∨ t = 2 ∨ t = 3 ∨ t = 6 ∨ t = 7 ∨ t = 8) → ArrOfT s cA (mj_ty t) ∧ va_RA s cA (mj_ty t) := by
  have htb : ∀ w ∈ mp_tb, w.before args s = true := fun w hw => hts w (List.mem_filter.mp hw).1
  by_cases h : t = 0 ∨ t = 1 ∨ t = 2 ∨ t = 3 ∨ t = 6 ∨ t = 7 ∨ t = 8
  · rcases h with rfl | rfl | rfl | rfl | rfl | rfl | rfl
    · obtain ⟨c, h1, h2⟩ := mp_arrC (htb _ (mp_in mp_a0))
      exact ⟨c, fun _ => ⟨h1, h2⟩⟩
    · obtain ⟨c, h1, h2⟩ := mp_arrC (htb _ (mp_in mp_a1))
      exact ⟨c, fun _ => ⟨h1, h2⟩⟩
    · obtain ⟨c, h1, h2⟩ := mp_arrC (htb _ (mp_in mp_a2))
      exact ⟨c, fun _ => ⟨h1, h2⟩⟩
    · obtain ⟨c, h1, h2⟩ := mp_arrC (htb _ (mp_in mp_a3))
      exact ⟨c, fun _ => ⟨h1, h2⟩⟩
    · obtain ⟨comp, c, k, f1, -, f2, f3, f4⟩ := Cond.arrayOver_spec (hts _ mp_ao0)
      exact ⟨c, fun _ => ⟨fun N z => ⟨(fun k h => by cases h), k, f2, comp, f3⟩, k, comp, f2, f3, f1, f4⟩⟩
    · obtain ⟨comp, c, k, f1, f2, f3, f4⟩ := Cond.arrayOver_specA (hts _ mp_ao1)
      exact ⟨c, fun _ => ⟨fun N z => ⟨(fun k h => by cases h), k, f2, comp, f3⟩, f4⟩⟩
    · obtain ⟨comp, c, k, f1, f2, f3, f4⟩ := Cond.arrayOver_specA (hts _ mp_ao2)
      exact ⟨c, fun _ => ⟨fun N z => ⟨(fun k h => by cases h), k, f2, comp, f3⟩, f4⟩⟩
  · exact ⟨0, fun z => absurd z h⟩
theorem mp_cls {s : State} {args : Array Value} (hts : ∀ w ∈ lw_tbl, w.before args s = true) (c : Nat) : ∃ d : ClassId × (Nat → Nat), ∀ q : vw_C, mp_cl[c]? = some q → u_Kn s q.1 q.2.1 q.2.2 d.1 d.2 := by
  have htb : ∀ w ∈ mp_tb, w.before args s = true := fun w hw => hts w (List.mem_filter.mp hw).1
  by_cases hc : c < 13
  · obtain ⟨k1, -, k2, -, -, -, -, -, k3, -⟩ := mp_cok hc
    obtain ⟨cC, iS, h⟩ := u_known htb k2 (htb _ k3)
    exact ⟨(cC, iS), fun q hq => by
      rw [k1] at hq
      cases hq
      exact h⟩
  · refine ⟨(0, fun _ => 0), fun q hq => ?_⟩
    rw [List.getElem?_eq_none (by show 13 ≤ c; omega)] at hq
    cases hq
theorem mp_start {p : Program} {e : Env} {s : State} {m : MethodId} {below : List Frame} {meth : Method} {c : Code} {l : Launch} {b L : Nat} {xs : Nat → Int32} (hl : l.stackTraces = false) (C0 : lw_At p s m meth c b L xs) {n : Nat} {h1 : mj_H} (hx : mj_ex mp_P 4 n 2048 84000 0 0 (mj_en 7 [.ref 0]) [] (mp_h0 L xs) = some (.inl (some (.int 1)), h1)) (hcn : h1.length ≤ 601028) (hsn : mj_sl h1 ≤ 7293073 + L) : W p l e room_1 s m #[Value.ref b] below meth c s.heap [] 0 0 (lw_Z below #[Value.ref b] s) (entryFrame m ([Value.ref b] : List Value).toArray 7) := by
  obtain ⟨hexec, hb, hret, hml, hown, hts, ⟨scr, x1, x2, x3, x4, x5⟩, hbl, hlocks, hgv, hname, htab⟩ := C0
  have hs : ∀ w ∈ mp_fl, w.before #[Value.ref b] s = true := flat_of_before _ hgv
  have htb : ∀ w ∈ mp_tb, w.before #[Value.ref b] s = true := fun w hw => hts w (List.mem_filter.mp hw).1
  obtain ⟨D0, hD0⟩ := Classical.skolem.mp (mp_cls hts)
  obtain ⟨dA, hdA⟩ := Classical.skolem.mp (mp_arrs hts)
  obtain ⟨t1, c1, e1, a1, b1, g1, v1⟩ := mp_n0 hs
  obtain ⟨t2, c2, e2, a2, b2, g2, v2⟩ := mp_n1 hs
  obtain ⟨t3, c3, e3, a3, b3, g3, v3⟩ := mp_n2 hs
  obtain ⟨F, hF0⟩ : ∃ F : mj_F, F = ((fun c => (D0 c).1, fun c => (D0 c).2), mp_cl, dA, mp_ad b t1 t2 t3 s.heap.size, 4, s.heap.size, s.heap) := ⟨_, rfl⟩
  have hlt1 : t1 < s.heap.size := (Array.getElem?_eq_some_iff.mp a1).1
  have hlt2 : t2 < s.heap.size := (Array.getElem?_eq_some_iff.mp a2).1
  have hlt3 : t3 < s.heap.size := (Array.getElem?_eq_some_iff.mp a3).1
  have had : F.ad = mp_ad b t1 t2 t3 s.heap.size := by rw [hF0]
  have hnT : F.nT = 4 := by rw [hF0]
  have hba : F.base = s.heap.size := by rw [hF0]
  have hh0 : F.h0 = s.heap := by rw [hF0]
  have hcl : F.cl = mp_cl := by rw [hF0]
  have hFo : F.ok := by
    refine ⟨fun k hk => ?_, fun k hk => ?_⟩
    · rw [hnT] at hk
      rw [had, hba, hnT]
      obtain ⟨j, rfl⟩ := Nat.exists_eq_add_of_le hk
      rw [Nat.add_comm 4 j, Nat.add_sub_cancel]
      rfl
    · rw [hnT] at hk
      rw [had, hba]
      rcases (by omega : k = 0 ∨ k = 1 ∨ k = 2 ∨ k = 3) with rfl | rfl | rfl | rfl
      · exact hbl
      · exact hlt1
      · exact hlt2
      · exact hlt3
  have hcv : ∀ vs : List Int32, (vs.map Value.int).map F.cv = vs.map Value.int := fun vs => by simp [mj_cv]
  have hA : ∀ a : Nat, a < s.heap.size → ¬ F.base ≤ a := fun a ha => by rw [hba]; omega
  have hini : (Cond.initialized "PassChain").before #[Value.ref b] s = true := htb _ (mp_cok (ci := 0) (by omega)).2.2.2.2.2.2.2.2.2
  have hE : mp_E F s := by
    refine ⟨fun q hq => ?_, fun w hw a => ?_, mp_xs hs hts, ⟨mp_Sz0 hh0 hba (hts _ mp_lyu) (hs _ mp_nu), mp_Sz0 hh0 hba (hts _ mp_lys) (hs _ mp_ns)⟩, fun x y hx hy hxy => ?_⟩
    · rw [hh0, had]
      simp only [mp_st, List.mem_cons, List.not_mem_nil, or_false] at hq
      rcases hq with rfl | rfl | rfl
      · exact va_Zof (hts _ mp_ly0) hini e1 hA
      · exact va_Zof (hts _ mp_ly1) hini e2 hA
      · exact va_Zof (hts _ mp_ly2) hini e3 hA
    · simp only [mp_ab, List.mem_cons, List.not_mem_nil, or_false] at hw
      rcases hw with rfl | rfl | rfl
      · exact (va_AO.of (hts _ mp_ao0)).use
      · exact mp_AA (Vm.Alike.refl _) (hts _ mp_ao1)
      · exact mp_AA (Vm.Alike.refl _) (hts _ mp_ao2)
    · rcases (by omega : x = 0 ∨ x = 1 ∨ x = 2) with rfl | rfl | rfl <;> rcases (by omega : y = 0 ∨ y = 1 ∨ y = 2) with rfl | rfl | rfl
      · exact absurd rfl hxy
      · exact va_Nc.of (hs _ mp_nc01)
      · exact va_Nc.of (hs _ mp_nc02)
      · exact va_Nc.of (hs _ mp_nc10)
      · exact absurd rfl hxy
      · exact va_Nc.of (hs _ mp_nc12)
      · exact va_Nc.of (hs _ mp_nc20)
      · exact va_Nc.of (hs _ mp_nc21)
      · exact absurd rfl hxy
  have hK : va_K F.D F.cl (mj_tys F.dA) s := by
    rw [hF0]
    refine ⟨fun c q hq => hD0 c q hq, fun k q hk => ?_⟩
    have hk : ([(dA 0, .int), (dA 1, .long), (dA 2, .char), (dA 3, .boolean), (dA 6, .object "PassChain$Part"), (dA 7, .array .int), (dA 8, .array .long)] : List (ClassId × FieldType))[k]? = some q := hk
    have hm := List.mem_of_getElem? hk
    simp only [List.mem_cons, List.not_mem_nil, or_false] at hm
    rcases hm with rfl | rfl | rfl | rfl | rfl | rfl | rfl
    · exact hdA 0 (by omega)
    · exact hdA 1 (by omega)
    · exact hdA 2 (by omega)
    · exact hdA 3 (by omega)
    · exact hdA 6 (by omega)
    · exact hdA 7 (by omega)
    · exact hdA 8 (by omega)
  have hX : mj_X F mp_nb (mp_E F) s := by
    refine ⟨hK, fun w hw => ?_, hE⟩
    have h9 := List.mem_filter.mp hw
    have h8 := h9.2
    have h7 := hts w h9.1
    cases w with
    | fieldLinkNest a b c d e f => exact va_Nw.of rfl h7
    | methodLinkNest a b c d => exact va_Nw.of rfl h7
    | _ => simp [mj_nestW] at h8
  have hP : mj_P F s (mp_h0 L xs) s.heap := by
    refine ⟨fun k x hk => ?_, ?_, ?_, fun q _ => by rw [hh0]⟩
    · have hk4 : k < 4 := (List.getElem?_eq_some_iff.mp hk).1
      rcases (by omega : k = 0 ∨ k = 1 ∨ k = 2 ∨ k = 3) with rfl | rfl | rfl | rfl
      · cases hk
        refine ⟨scr, by rw [had]; exact x1, x2, x3, ?_, fun z => by rw [hnT] at z; omega⟩
        refine List.ext_getElem? fun j => ?_
        rw [Array.getElem?_toList]
        by_cases hj : j < L
        · rw [x5 j hj]
          simp [hj, mj_cv]
        · rw [Array.getElem?_eq_none (by omega), List.getElem?_eq_none (by simp; omega)]
      · cases hk
        exact ⟨c1, by rw [had]; exact a1, b1, g1, by rw [hcv]; exact v1, fun z => by rw [hnT] at z; omega⟩
      · cases hk
        exact ⟨c2, by rw [had]; exact a2, b2, g2, by rw [hcv]; exact v2, fun z => by rw [hnT] at z; omega⟩
      · cases hk
        exact ⟨c3, by rw [had]; exact a3, b3, g3, by rw [hcv]; exact v3, fun z => by rw [hnT] at z; omega⟩
    · rw [hba, hnT]
      rfl
    · rw [hnT]
      exact Nat.le_refl _
  have hlen0 : (mp_h0 L xs).length = 4 := rfl
  have hsl0 : mj_sl (mp_h0 L xs) = 39 + L := by
    simp only [mp_h0, mj_sl, List.length_map, List.length_range]
    show L + (13 + (13 + (13 + 0))) = 39 + L
    omega
  have hx' : mj_ex mp_P F.nT n 2048 84000 0 0 (mj_en 7 [.ref 0]) [] (mp_h0 L xs) = some (.inl (some (.int 1)), h1) := by
    rw [hnT]
    exact hx
  have k9 := mj_sound (mp_fix (l := l) hFo hcl hl) n 2048 84000 0 0 (mj_en 7 [.ref 0]) [] (mp_h0 L xs) _ h1 hx' p e room_1 s m #[Value.ref b] below meth c s.heap [] 0 0 ((lg_sl (([.ref 0] : List Value).map (mj_cv F.ad)) ++ List.replicate (7 - (lg_sl (([.ref 0] : List Value).map (mj_cv F.ad))).length) Slot.unset).toArray)
    ⟨hexec, hb, hret, hml, hown, htb, hlocks, hname, by rw [htab]; rfl, hX⟩ hP (mj_entry F.ad [.ref 0] 7 (by decide)) (by decide) (fun q hq => nomatch hq) (Nat.le_refl _) (Nat.le_refl _) (by rw [hlen0]; show 0 + (h1.length - 4) ≤ 601024; omega) (by rw [hsl0]; show 0 + (mj_sl h1 - (39 + L)) ≤ 7293034; omega)
  have hent : entryFrame m ([Value.ref b] : List Value).toArray 7 = F0 m 0 ((lg_sl (([.ref 0] : List Value).map (mj_cv F.ad)) ++ List.replicate (7 - (lg_sl (([.ref 0] : List Value).map (mj_cv F.ad))).length) Slot.unset).toArray) (([] : List Value).map F.cv) := by
    have hz : ([.ref 0] : List Value).map (mj_cv F.ad) = [Value.ref b] := by rw [had]; rfl
    rw [hz, lg_entry_eq]
    rfl
  rw [hent]
  intro T hT X
  obtain ⟨t, st, o, q1, q2, ⟨q3, q4⟩, Lo, ⟨q5, q6, q7⟩, q8⟩ := k9 T hT X
  subst q3
  refine ⟨t, st, _, q1, q2, rfl, q5, q6, q7.weaken (fun y hy hy2 => ?_) (by rw [hlen0]; omega) (by rw [hsl0]; omega)⟩
  have h9 : F.base ≤ y.base := q8 y hy
  rw [hba] at h9
  exact absurd hy2 (Nat.not_lt.mpr h9)
