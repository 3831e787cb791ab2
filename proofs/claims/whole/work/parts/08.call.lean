/-! calls that return -/
/-- what a method's start is given besides the words of the tables -/
def mj_X (F : mj_F) (nb : List Cond) (E : State → Prop) (U : State) : Prop := va_K F.D F.cl (mj_tys F.dA) U ∧ (∀ w ∈ nb, va_Nw w U) ∧ E U
/-- what more is given, and lasts -/
abbrev mj_Ew (E : State → Prop) : Prop := ∀ s U : State, s.WarmedH U.vm → E s → E U
def mj_nestW (w : Cond) : Bool := match w with
  | .fieldLinkNest .. => true
  | .methodLinkNest .. => true
  | _ => false
theorem mj_X.warm {F : mj_F} {nb : List Cond} {E : State → Prop} {s U : State} (hnb : ∀ w ∈ nb, mj_nestW w = true) (hE : mj_Ew E) (hW : s.WarmedH U.vm) (h : mj_X F nb E s) : mj_X F nb E U := by
  refine ⟨va_K.moved hW.alike h.1, fun w hw => ?_, hE s U hW h.2.2⟩
  have h1 := h.2.1 w hw
  have h2 := hnb w hw
  cases w with
  | fieldLinkNest a b c d e f => exact va_Nw.warmF hW h1
  | methodLinkNest a b c d => exact va_Nw.warmM hW h1
  | _ => simp [mj_nestW] at h2
theorem mj_X.same {F : mj_F} {nb : List Cond} {E : State → Prop} {s U : State} (hnb : ∀ w ∈ nb, mj_nestW w = true) (hE : mj_Ew E) (hv : s.vm = U.vm) (h : mj_X F nb E s) : mj_X F nb E U := by
  have hal : s.vm.Alike U.vm := by rw [hv]; exact Vm.Alike.refl _
  refine ⟨va_K.moved hal h.1, fun w hw => ?_, hE s U (by rw [← hv]; exact State.WarmedH.refl s) h.2.2⟩
  have h1 := h.2.1 w hw
  have h2 := hnb w hw
  cases w with
  | fieldLinkNest a b c d e f => exact va_Nw.same rfl hv h1
  | methodLinkNest a b c d => exact va_Nw.same rfl hv h1
  | _ => simp [mj_nestW] at h2
def mj_Pc (F : mj_F) (nb : List Cond) (E : State → Prop) (as : List Value) (h : mj_H) : Array Value → State → Prop := va_Pc (as.map F.cv) (fun U => mj_P F U h U.heap ∧ mj_X F nb E U)
def mj_Qc (F : mj_F) (v : Option Value) (h1 : mj_H) : Array Value → State → Outcome → State → Prop := fun _ _ oc t => oc = .returned (v.map F.cv) ∧ mj_P F t h1 t.heap
theorem mj_Pc.blind {F : mj_F} {nb : List Cond} {E : State → Prop} {as : List Value} {h : mj_H} (hnb : ∀ w ∈ nb, mj_nestW w = true) (hE : mj_Ew E) : FrameBlind (mj_Pc F nb E as h) := by
  intro a U g mk q
  obtain ⟨q0, qP, qX⟩ := q
  exact ⟨q0, mj_P.moved (s := U) (t := U.calling g mk a) (Vm.Alike.refl U.vm) qP, qX.same hnb hE (rfl : U.vm = (U.calling g mk a).vm)⟩
theorem mj_Pc.at {F : mj_F} {nb : List Cond} {E : State → Prop} {as : List Value} {h : mj_H} {s U : State} {H : Heap} (hnb : ∀ w ∈ nb, mj_nestW w = true) (hE : mj_Ew E) (hP : mj_P F s h H) (hX : mj_X F nb E s) (hU : U.heap = H) (hW : s.WarmedH U.vm) : mj_Pc F nb E as h (as.map F.cv).toArray U :=
  ⟨rfl, by rw [hU]; exact hP.moved hW.alike, hX.warm hnb hE hW⟩
/-- locals at the entry -/
theorem mj_in_sl (ad : Nat → Nat) : ∀ as : List Value, (lg_sl (as.map (mj_cv ad))).length = (mj_in as).length
  | [] => rfl
  | v :: r => by
    have ih := mj_in_sl ad r
    have e : lg_sl ((v :: r).map (mj_cv ad)) = (if (mj_cv ad v).category = 2 then [.val (mj_cv ad v), .second] else [.val (mj_cv ad v)]) ++ lg_sl (r.map (mj_cv ad)) := by
      simp only [lg_sl, List.map_cons, List.flatMap_cons]
    rw [e, List.length_append, ih]
    cases v <;> simp [mj_cv, Value.category, mj_in] <;> omega
theorem mj_in_args (ad : Nat → Nat) : ∀ (as : List Value) (i : Nat), ∀ q ∈ mj_pr ad i (mj_in as), q ∈ lv_args i (as.map (mj_cv ad))
  | [], i, q, hq => by simp [mj_in, mj_pr] at hq
  | v :: r, i, q, hq => by
    have ih := fun j => mj_in_args ad r j q
    cases v with
    | double x =>
      simp only [mj_in, mj_pr, List.mem_cons] at hq
      rcases hq with hq | hq
      · exact List.mem_cons.mpr (Or.inl hq)
      · exact List.mem_cons.mpr (Or.inr (ih (i + 2) hq))
    | long x =>
      simp only [mj_in, mj_pr, List.mem_cons] at hq
      rcases hq with hq | hq
      · exact List.mem_cons.mpr (Or.inl hq)
      · exact List.mem_cons.mpr (Or.inr (ih (i + 2) hq))
    | _ =>
      simp only [mj_in, mj_pr, List.mem_cons] at hq
      rcases hq with hq | hq
      · exact List.mem_cons.mpr (Or.inl hq)
      · exact List.mem_cons.mpr (Or.inr (ih (i + 1) hq))
theorem mj_pr_app (ad : Nat → Nat) : ∀ (L : mj_L) (i n : Nat), mj_pr ad i (L ++ List.replicate n none) = mj_pr ad i L
  | [], i, 0 => rfl
  | [], i, n + 1 => by
    show mj_pr ad i (none :: List.replicate n none) = _
    rw [mj_pr]
    exact mj_pr_app ad [] (i + 1) n
  | none :: L, i, n => by
    show mj_pr ad i (none :: (L ++ List.replicate n none)) = _
    rw [mj_pr, mj_pr]
    exact mj_pr_app ad L (i + 1) n
  | some v :: L, i, n => by
    show mj_pr ad i (some v :: (L ++ List.replicate n none)) = _
    rw [mj_pr, mj_pr, mj_pr_app ad L (i + 1) n]
theorem mj_entry (ad : Nat → Nat) (as : List Value) (n : Nat) (hn : (mj_in as).length ≤ n) : mj_Lr ad (mj_en n as) ((lg_sl (as.map (mj_cv ad)) ++ List.replicate (n - (lg_sl (as.map (mj_cv ad))).length) Slot.unset).toArray) := by
  have hl := lv_entry (as.map (mj_cv ad)) (n := n) (by rw [mj_in_sl ad as]; exact hn)
  refine mj_Lr.of hl (by simp [mj_en]; omega) (fun q hq => ?_)
  unfold mj_en at hq
  rw [mj_pr_app] at hq
  exact mj_in_args ad as 0 q hq
section MJC
variable {p : Program} {l : Launch} {e : Env} {R : Room} {s : State} {m : MethodId} {args : Array Value} {below : List Frame} {meth : Method} {c : Code} {H : Heap} {locs : List Loc} {cells slots : Nat} {Q : State → Prop}
variable {cc : ByteArray} {pc len pc1 : Nat} {ls : Array Slot} {F : mj_F} {P : mj_Pr} {L L1 : mj_L} {S S1 : List Value} {h h1 : mj_H}
/-- behind a call -/
theorem mj_after {mc ms nL : Nat} {st0 r : List Value} {a : Array Value} {v : Option Value} (hr : va_Run p l e R s m args below meth c H locs cells slots mc ms (F0 m pc ls st0) (r.map F.cv) (mj_Qc F v h1 a) (fun q => F.base ≤ q)) (hmc : mc = h1.length - h.length) (hms : ms = mj_sl h1 - mj_sl h) (hL : mj_Lr F.ad L ls) (hlo : ∀ q ∈ locs, F.base ≤ q.base) (hn : L.length = nL) (kk : mj_Kt p l e R s m args below meth c F Q h nL cells slots (pc + 3) L (v.toList ++ r) h1) : W p l e R s m args below meth c H locs cells slots Q (F0 m pc ls st0) := by
  intro T hT X
  obtain ⟨v2, st₀, t, T', Lo, h0, X', hLo, e1, e2, ⟨hv, hp⟩, st⟩ := hr T hT X
  cases hv
  have hal : s.vm.Alike t.vm := by rw [← e2]; exact X'.warmed.alike
  have hlo2 : ∀ q ∈ locs ++ Lo, F.base ≤ q.base := fun q hq => by
    rcases List.mem_append.mp hq with z | z
    · exact hlo q z
    · exact hLo q z
  have k := kk T'.heap (locs ++ Lo) ls (by rw [e1]; exact hp.moved hal.symm) hL hlo2 hn
  rw [← hmc, ← hms] at k
  obtain ⟨t2, a1, b1⟩ := k T' rfl X'
  refine ⟨t2, st t2 ?_, b1⟩
  have e3 : (v.map F.cv).toList ++ r.map F.cv = (v.toList ++ r).map F.cv := by cases v <;> simp
  rw [e3]
  exact a1
/-- a static method of the same class that has handlers -/
theorem mj_callSW {T : State} (X : Stand p l e R s m args below meth c T locs cells slots) (hexec : p.tables.exec = Jvm.exec) {own : String} {index : Nat} {y : MethodName} {bytes : ByteArray} {maxL : Nat} {ret : Option FieldType} {hh : List (Nat × Nat × Nat × Nat)}
    (hown : s.vm.findClass own = some m.cls) (hlink : (Cond.methodLink own index y).before args s = true) (hstat : (Cond.static y).before args s = true) (hinit : (Cond.initialized y.cls).before args s = true)
    (hcode : (Cond.codeWith y bytes maxL ret hh).before args s = true) (hy : y.cls ≠ "java/lang/invoke/MethodHandle" ∧ y.cls ≠ "java/lang/invoke/VarHandle")
    {W : Nat} {Pre : Pt → Array Value → Prop} {Post : Pt → Array Value → Option Value → Pt → Prop} (hK : Back l R p e below s args y 3 W Pre Post)
    {g : JFrame} (hg : g.method = m) (hsize : g.locals.size = c.maxLocals) {argsL rest : List Value} (hlen : ∀ sig, parseMethodDescriptor y.desc = some sig → argsL.length = sig.parameters.length)
    (hstack : g.stack = argsL.reverse ++ rest) (hW : 2 * g.monitorRoom + (rest.map fun v => v.category).sum ≤ W) (hdg : decode c.code g.pc = .ok (.invokestatic index, 3))
    (hpre : ∀ vm₁, s.WarmedH vm₁ → Pre ⟨T.setVm vm₁, locs, cells, slots⟩ argsL.toArray) :
    ∃ (v : Option Value) (vm₁ : Vm) (B : Pt), s.WarmedH vm₁ ∧ Stand p l e R s m args below meth c B.U B.locs B.cells B.slots ∧ Post ⟨T.setVm vm₁, locs, cells, slots⟩ argsL.toArray v B ∧
      ∀ target, Steps p.tables e below (B.U.setTop { g with pc := g.pc + 3, stack := v.toList ++ rest }) target → Steps p.tables e below (T.setTop g) target := by
  obtain ⟨mk, methM, cM, hnamed, hmethM, hcM, hbM, hlM, hxM, hrM, hkM, hsigM⟩ := Cond.codeWith_spec hcode
  have hstatic : methM.isStatic = true := Cond.static_spec hnamed hmethM hstat
  obtain ⟨kP, hkP, -⟩ := className_of_methodNamed hnamed
  have hinitP : kP.init = .initialized := Cond.initialized_spec (findClass_of_methodNamed hnamed) hkP hinit
  obtain ⟨vm₁, X₁, hstep₁⟩ := X.invokestatic hexec hown hlink hnamed hmethM hstatic hkP hinitP hy (g := g) hg (argsL := argsL) (rest := rest) (hlen _ hsigM) hstack hdg
  obtain ⟨v, B, X', hpost, hsteps⟩ := hK m meth c ⟨T.setVm vm₁, locs, cells, slots⟩ { g with stack := rest } (.invokestatic index) mk argsL.toArray X₁ hg hsize hdg hW (X₁.named hnamed) (hpre vm₁ X₁.warmed)
  exact ⟨v, vm₁, B, X₁.warmed, X', hpost, fun target h => hstep₁ _ fun acts => by rw [doInvoke_state]; exact hsteps.trans h⟩
end MJC
