/-! MJ's runs are the machine's -/
def mj_QQ (F : mj_F) (below : List Frame) (args : Array Value) (s : State) (o : mj_O) (h1 : mj_H) (mc ms : Nat) : State → Prop := match o with
  | .inl v => MQ below (mj_Qc F v h1) args s mc ms (fun q => F.base ≤ q)
  | .inr q => mj_MX below (mj_QX F q.2 h1) args s mc ms (fun q => F.base ≤ q)
/-- what is fixed of the program, the tables and the start -/
def mj_Fix (l : Launch) (F : mj_F) (tb nb ab : List Cond) (E : State → Prop) (P : mj_Pr) (I : mj_I) : Prop :=
  F.ok ∧ (∀ w ∈ tb, goodWord w = true) ∧ (∀ w ∈ nb, mj_nestW w = true) ∧ mj_Ew E ∧ (∀ U : State, E U → ∀ q ∈ I.st, va_Z q.2.1 q.2.2.1 q.2.2.2 (.ref (F.ad q.1)) (fun z => F.base ≤ z) U F.h0) ∧ (∀ U : State, E U → ∀ w ∈ ab, ∀ a : Array Value, w.before a U = true) ∧
  (∀ U : State, E U → ∀ q ∈ I.tx, ∃ sa : Nat, vk_R q.1 q.2.1 q.2.2 sa U) ∧ (∀ U : State, E U → mj_Sz F Bundle.tN "UNASSIGNED_STACK" Bundle.steD U ∧ mj_Sz F Bundle.tN "SUPPRESSED_SENTINEL" Bundle.listD U) ∧ (∀ U : State, E U → ∀ x y, x ≤ 2 → y ≤ 2 → x ≠ y → va_Nc (mj_xn (100 + x)) (mj_xn (100 + y)) U) ∧ (∀ x, x ≤ 2 → Cond.instantiable (mj_xn (100 + x)) 6 ∈ tb ∧ F.cl[100 + x]? = none) ∧ l.stackTraces = false ∧
  (∀ (mi pc : Nat) (i : Instr) (len : Nat), P.code mi pc = some (i, len) → ∃ r : Instr, decode (I.bc mi) pc = .ok (r, len) ∧ mj_Lk tb nb ab F.cl P I mi pc len i r) ∧
  ∀ mi, mj_Hr tb (I.own mi) (P.hnd mi) (I.hd mi)
/-- the frame of method mi in the machine -/
def mj_At (tb nb : List Cond) (E : State → Prop) (F : mj_F) (P : mj_Pr) (I : mj_I) (mi : Nat) (p : Program) (s : State) (m : MethodId) (args : Array Value) (meth : Method) (c : Code) : Prop :=
  p.tables.exec = Jvm.exec ∧ c.code = I.bc mi ∧ meth.sig.returnType = I.rt mi ∧ c.maxLocals = P.maxL mi ∧ s.vm.findClass (I.own mi) = some m.cls ∧ (∀ w ∈ tb, w.before args s = true) ∧ meth.locks = false ∧ meth.name = (I.nm mi).name ∧ c.exceptionTable.toList.map (fun h => (h.startPc, h.endPc, h.handlerPc, h.catchType)) = I.hd mi ∧ mj_X F nb E s
def mj_Snd (l : Launch) (F : mj_F) (tb nb ab : List Cond) (E : State → Prop) (P : mj_Pr) (I : mj_I) (n : Nat) : Prop :=
  ∀ (d w mi pc : Nat) (L : mj_L) (S : List Value) (h : mj_H) (o : mj_O) (h1 : mj_H), mj_ex P F.nT n d w mi pc L S h = some (o, h1) → ∀ (p : Program) (e : Env) (R : Room) (s : State) (m : MethodId) (args : Array Value) (below : List Frame) (meth : Method) (c : Code) (H : Heap) (locs : List Loc) (cells slots : Nat) (ls : Array Slot),
    mj_At tb nb E F P I mi p s m args meth c → mj_P F s h H → mj_Lr F.ad L ls → L.length = P.maxL mi → (∀ q ∈ locs, F.base ≤ q.base) → d ≤ R.frames → w ≤ R.locals → cells + (h1.length - h.length) ≤ R.cells → slots + (mj_sl h1 - mj_sl h) ≤ R.slots →
    W p l e R s m args below meth c H locs cells slots (mj_QQ F below args s o h1 (cells + (h1.length - h.length)) (slots + (mj_sl h1 - mj_sl h))) (F0 m pc ls (S.map F.cv))
theorem mj_ex_thr (P : mj_Pr) (nT : Nat) : ∀ (n d w mi pc : Nat) (L : mj_L) (S : List Value) (h : mj_H) (x a : Nat) (h1 : mj_H), mj_ex P nT n d w mi pc L S h = some (.inr (x, a), h1) → x ≤ 2 ∧ h1[a]? = some (false, 100 + x, [])
  | 0, d, w, mi, pc, L, S, h, x, a, h1, hx => by cases hx
  | n + 1, d, w, mi, pc, L, S, h, x, a, h1, hx => by
    have ih := mj_ex_thr P nT n
    have hx : mj_body P nT (mj_ex P nT n) d w mi pc L S h = some (.inr (x, a), h1) := hx
    unfold mj_body at hx
    repeat' split at hx
    all_goals first
      | (cases hx; done)
      | exact ih _ _ _ _ _ _ _ _ _ _ hx
      | (rename_i hc
         cases hx
         exact ⟨hc.1, by simp⟩)
section MJZ
variable {l : Launch} {F : mj_F} {tb nb ab : List Cond} {E : State → Prop} {P : mj_Pr} {I : mj_I}
/-- contracts out of runs -/
theorem mj_met (hfx : mj_Fix l F tb nb ab E P I) {n d w k : Nat} {as : List Value} {h h1 : mj_H} {v : Option Value} (ih : mj_Snd l F tb nb ab E P I n) (hx : mj_ex P F.nT n d w k 0 (mj_en (P.maxL k) as) [] h = some (.inl v, h1)) (hpl : plainName (I.nm k).cls = true) (hoc : I.own k = (I.nm k).cls) (hemp : (I.hd k).isEmpty = true) (hin : (mj_in as).length ≤ P.maxL k) :
    Met l (I.nm k) (Cond.code (I.nm k) (I.bc k) (P.maxL k) (I.rt k) :: tb) { frames := d, cells := h1.length - h.length, slots := mj_sl h1 - mj_sl h, locals := w } (mj_Pc F nb E as h) (mj_Qc F v h1) (h1.length - h.length) (mj_sl h1 - mj_sl h) (fun q => F.base ≤ q) := by
  refine Met.ofW (cc := I.bc k) (maxL := P.maxL k) (ret := I.rt k) hpl rfl ?_
  intro p e s m args below meth c s₁ B hml hv
  obtain ⟨rfl, hP, hX⟩ := hv
  have hts0 := atoms_spec (ws := Cond.code (I.nm k) (I.bc k) (P.maxL k) (I.rt k) :: tb) B.pre
  have hown : s.vm.findClass (I.nm k).cls = some m.cls := findClass_of_methodNamed B.named
  obtain ⟨meth', c', hm', hc', -, -, -, -, hemp', -⟩ := Cond.code_spec B.named (hts0 _ List.mem_cons_self)
  cases B.method.symm.trans hm'
  cases (Stand.of_body B).code.symm.trans hc'
  have htab : c.exceptionTable.toList.map (fun h => (h.startPc, h.endPc, h.handlerPc, h.catchType)) = I.hd k := by
    rw [List.isEmpty_iff.mp hemp, List.map_eq_nil_iff]
    simpa using hemp'
  rw [lg_entry_eq]
  have k9 := ih d w k 0 _ [] h _ h1 hx p e (headSpec (Cond.code (I.nm k) (I.bc k) (P.maxL k) (I.rt k) :: tb) { frames := d, cells := h1.length - h.length, slots := mj_sl h1 - mj_sl h, locals := w }).room s m (as.map F.cv).toArray below meth c s.heap [] 0 0 _
    ⟨B.exec, B.bytes, B.returns, hml, by rw [hoc]; exact hown, fun w hw => hts0 w (List.mem_cons_of_mem _ hw), B.notSynchronized, (name_of_methodNamed B.named B.method).1, htab, hX⟩ hP (mj_entry F.ad as (P.maxL k) hin) (by simp [mj_en]; omega) (fun q hq => nomatch hq) (Nat.le_refl _) (Nat.le_refl _) (by simp [headSpec]) (by simp [headSpec])
  rw [Nat.zero_add, Nat.zero_add] at k9
  exact k9
theorem mj_metW (hfx : mj_Fix l F tb nb ab E P I) {n d w k : Nat} {as : List Value} {h h1 : mj_H} {v : Option Value} (ih : mj_Snd l F tb nb ab E P I n) (hx : mj_ex P F.nT n d w k 0 (mj_en (P.maxL k) as) [] h = some (.inl v, h1)) (hpl : plainName (I.nm k).cls = true) (hoc : I.own k = (I.nm k).cls) (hin : (mj_in as).length ≤ P.maxL k) :
    Met l (I.nm k) (Cond.codeWith (I.nm k) (I.bc k) (P.maxL k) (I.rt k) (I.hd k) :: tb) { frames := d, cells := h1.length - h.length, slots := mj_sl h1 - mj_sl h, locals := w } (mj_Pc F nb E as h) (mj_Qc F v h1) (h1.length - h.length) (mj_sl h1 - mj_sl h) (fun q => F.base ≤ q) := by
  refine va_MetW (cc := I.bc k) (maxL := P.maxL k) (ret := I.rt k) (hh := I.hd k) hpl rfl ?_
  intro p e s m args below meth c s₁ B hml hv
  obtain ⟨rfl, hP, hX⟩ := hv
  have hts0 := atoms_spec (ws := Cond.codeWith (I.nm k) (I.bc k) (P.maxL k) (I.rt k) (I.hd k) :: tb) B.pre
  have hown : s.vm.findClass (I.nm k).cls = some m.cls := findClass_of_methodNamed B.named
  obtain ⟨m9, meth', c', hn9, hm', hc', -, -, htab, -⟩ := Cond.codeWith_spec (hts0 _ List.mem_cons_self)
  cases B.named.symm.trans hn9
  cases B.method.symm.trans hm'
  cases (Stand.of_body B).code.symm.trans hc'
  rw [lg_entry_eq]
  have k9 := ih d w k 0 _ [] h _ h1 hx p e (headSpec (Cond.codeWith (I.nm k) (I.bc k) (P.maxL k) (I.rt k) (I.hd k) :: tb) { frames := d, cells := h1.length - h.length, slots := mj_sl h1 - mj_sl h, locals := w }).room s m (as.map F.cv).toArray below meth c s.heap [] 0 0 _
    ⟨B.exec, B.bytes, B.returns, hml, by rw [hoc]; exact hown, fun w hw => hts0 w (List.mem_cons_of_mem _ hw), B.notSynchronized, (name_of_methodNamed B.named B.method).1, htab, hX⟩ hP (mj_entry F.ad as (P.maxL k) hin) (by simp [mj_en]; omega) (fun q hq => nomatch hq) (Nat.le_refl _) (Nat.le_refl _) (by simp [headSpec]) (by simp [headSpec])
  rw [Nat.zero_add, Nat.zero_add] at k9
  exact k9
theorem mj_metX (hfx : mj_Fix l F tb nb ab E P I) {n d w k x a : Nat} {as : List Value} {h h1 : mj_H} (ih : mj_Snd l F tb nb ab E P I n) (hx : mj_ex P F.nT n d w k 0 (mj_en (P.maxL k) as) [] h = some (.inr (x, a), h1)) (hpl : plainName (I.nm k).cls = true) (hoc : I.own k = (I.nm k).cls) (hemp : (I.hd k).isEmpty = true) (hin : (mj_in as).length ≤ P.maxL k) :
    mj_MetX l (I.nm k) (Cond.code (I.nm k) (I.bc k) (P.maxL k) (I.rt k) :: tb) { frames := d, cells := h1.length - h.length, slots := mj_sl h1 - mj_sl h, locals := w } (mj_Pc F nb E as h) (mj_QX F a h1) (h1.length - h.length) (mj_sl h1 - mj_sl h) (fun q => F.base ≤ q) := by
  refine mj_MetX.ofW (cc := I.bc k) (maxL := P.maxL k) (ret := I.rt k) hpl rfl ?_
  intro p e s m args below meth c s₁ B hml hv
  obtain ⟨rfl, hP, hX⟩ := hv
  have hts0 := atoms_spec (ws := Cond.code (I.nm k) (I.bc k) (P.maxL k) (I.rt k) :: tb) B.pre
  have hown : s.vm.findClass (I.nm k).cls = some m.cls := findClass_of_methodNamed B.named
  obtain ⟨meth', c', hm', hc', -, -, -, -, hemp', -⟩ := Cond.code_spec B.named (hts0 _ List.mem_cons_self)
  cases B.method.symm.trans hm'
  cases (Stand.of_body B).code.symm.trans hc'
  have htab : c.exceptionTable.toList.map (fun h => (h.startPc, h.endPc, h.handlerPc, h.catchType)) = I.hd k := by
    rw [List.isEmpty_iff.mp hemp, List.map_eq_nil_iff]
    simpa using hemp'
  rw [lg_entry_eq]
  have k9 := ih d w k 0 _ [] h _ h1 hx p e (headSpec (Cond.code (I.nm k) (I.bc k) (P.maxL k) (I.rt k) :: tb) { frames := d, cells := h1.length - h.length, slots := mj_sl h1 - mj_sl h, locals := w }).room s m (as.map F.cv).toArray below meth c s.heap [] 0 0 _
    ⟨B.exec, B.bytes, B.returns, hml, by rw [hoc]; exact hown, fun w hw => hts0 w (List.mem_cons_of_mem _ hw), B.notSynchronized, (name_of_methodNamed B.named B.method).1, htab, hX⟩ hP (mj_entry F.ad as (P.maxL k) hin) (by simp [mj_en]; omega) (fun q hq => nomatch hq) (Nat.le_refl _) (Nat.le_refl _) (by simp [headSpec]) (by simp [headSpec])
  rw [Nat.zero_add, Nat.zero_add] at k9
  exact k9
/-- the rest of a run, behind an instruction -/
theorem mj_rest {n d w mi pc1 : Nat} {L L1 : mj_L} {S1 : List Value} {h h1 h2 : mj_H} {o : mj_O} (ih : mj_Snd l F tb nb ab E P I n) (hx : mj_ex P F.nT n d w mi pc1 L1 S1 h1 = some (o, h2)) {p : Program} {e : Env} {R : Room} {s : State} {m : MethodId} {args : Array Value} {below : List Frame} {meth : Method} {c : Code} {cells slots : Nat} (hat : mj_At tb nb E F P I mi p s m args meth c) (hLL : L.length = P.maxL mi) (hd : d ≤ R.frames) (hw : w ≤ R.locals) (hrc : cells + (h2.length - h.length) ≤ R.cells) (hrs : slots + (mj_sl h2 - mj_sl h) ≤ R.slots) (g1 : h.length ≤ h1.length) (g2 : mj_sl h ≤ mj_sl h1) :
    mj_Kt p l e R s m args below meth c F (mj_QQ F below args s o h2 (cells + (h2.length - h.length)) (slots + (mj_sl h2 - mj_sl h))) h L.length cells slots pc1 L1 S1 h1 := by
  intro H1 locs1 ls1 hP1 hL1 hlo1 hn1
  have hm := mj_ex_mono P F.nT n _ _ _ _ _ _ _ _ _ hx
  have k := ih d w mi pc1 L1 S1 h1 o h2 hx p e R s m args below meth c H1 locs1 (cells + (h1.length - h.length)) (slots + (mj_sl h1 - mj_sl h)) ls1 hat hP1 hL1 (hn1.trans hLL) hlo1 hd hw (by omega) (by omega)
  rw [show cells + (h1.length - h.length) + (h2.length - h1.length) = cells + (h2.length - h.length) by omega, show slots + (mj_sl h1 - mj_sl h) + (mj_sl h2 - mj_sl h1) = slots + (mj_sl h2 - mj_sl h) by omega] at k
  exact k
end MJZ
