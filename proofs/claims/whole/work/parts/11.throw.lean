/-! throw new E("text"): the exception leaves the method -/
/-- a static field of the library, as it lay at the law's start -/
def mj_Sz (F : mj_F) (C n d : String) (U : State) : Prop := ∃ (ca : ClassId) (k : Class) (i : Nat) (f : Field) (a : Nat) (cell : Cell) (v : Value), U.vm.findClass C = some ca ∧ U.fieldFound? C n d = some (ca, k, i, f) ∧ f.isStatic = true ∧ k.statics = some a ∧ F.h0[a]? = some cell ∧ cell.vm.isStatics = true ∧ cell.cls = ca ∧ f.slot < cell.slots.size ∧ k.staticTypes[f.slot]? = some f.type ∧ cell.slots[f.slot]? = some v ∧ v.isRef = true ∧ a < F.base
theorem mj_Sz.moved {F : mj_F} {C n d : String} {u U : State} (hvm : u.vm.Alike U.vm) (h : mj_Sz F C n d u) : mj_Sz F C n d U := by
  obtain ⟨ca, k, i, f, a, cell, v, h1, h2, h3, h4, h5, h6, h7, h8, h9, h10⟩ := h
  obtain ⟨k', hi', he⟩ := State.fieldFound?_setVm hvm h2
  exact ⟨ca, k', i, f, a, cell, v, by rw [hvm.findClass]; exact h1, hi', h3, by rw [he]; exact h4, h5, h6, h7, h8, by rw [he]; exact h9, h10⟩
theorem mj_Sz.words {F : mj_F} {C n d : String} {s : State} {args : Array Value} (h : mj_Sz F C n d s) (h0 : ∀ q : Nat, q < F.base → s.heap[q]? = F.h0[q]?) : (Cond.laysStatic C n d).before args s = true ∧ (Cond.isRef (.static C n d)).before args s = true := by
  obtain ⟨ca, k, i, f, a, cell, v, h1, h2, h3, h4, h5, h6, h7, h8, h9, h10, h11, h12⟩ := h
  have hc : s.heap[a]? = some cell := by rw [h0 a h12]; exact h5
  constructor
  · show (Cond.laysStatic C n d).holds args s none s [] = true
    exact Cond.laysStatic_of h1 h2 h3 h4 hc h6 h7 h8 h9
  · have he : (Term.static C n d).eval args s none [] s = some v := by
      simp [Term.eval, State.fieldNamed?, h2, h3, h4, hc, h6, h10]
    simp only [Cond.before, Cond.holds, Cond.value, he]
    cases v <;> simp_all [Value.isRef]
theorem mj_castSelf {s : State} {args : Array Value} {C : String} {n : Nat} (h : (Cond.instantiable C n).before args s = true) : (Cond.castable C C).before args s = true := by
  obtain ⟨ca, k, h1, h2, h3, -⟩ := Cond.instantiable_spec h
  have ha : s.vm.assignable ca ca = true := va_assign (C := C) ⟨h1, k, h2, h3⟩
  simp [Cond.before, Cond.holds, Cond.value, h1, ha]
/-- a throw's words -/
def mj_Wt (tb : List Cond) (cls : String) (w : Cond) : Prop := w ∈ tb ∨ w = .castable cls cls ∨ w = .laysStatic Bundle.tN "UNASSIGNED_STACK" Bundle.steD ∨ w = .laysStatic Bundle.tN "SUPPRESSED_SENTINEL" Bundle.listD ∨ w = .isRef (.static Bundle.tN "UNASSIGNED_STACK" Bundle.steD) ∨ w = .isRef (.static Bundle.tN "SUPPRESSED_SENTINEL" Bundle.listD) ∨ ∃ (y : MethodName) (b : ByteArray), w = .declares y ∧ Cond.instanceMethod y ∈ tb ∧ Cond.code y b 2 none ∈ tb
section MJT
variable {p : Program} {l : Launch} {e : Env} {R : Room} {s : State} {m : MethodId} {args : Array Value} {below : List Frame} {meth : Method} {c : Code} {H : Heap} {locs : List Loc} {cells slots : Nat} {Q : State → Prop}
variable {cc : ByteArray} {pc len pc1 : Nat} {ls : Array Slot} {F : mj_F} {P : mj_Pr} {L L1 : mj_L} {S S1 : List Value} {h h1 : mj_H}
/-- the same frame as if the method were called anew in the heap as it is now -/
theorem mj_anew {T : State} (X : Stand p l e R s m args below meth c T locs cells slots) {R' : Room} (hf : R'.frames ≤ R.frames) (hl : R'.locals ≤ R.locals) (hc : cells + R'.cells ≤ R.cells) (hs : slots + R'.slots ≤ R.slots) : Stand p l e R' ((T.setVm s.vm).setFrames (.invoking m args :: below)) m args below meth c T [] 0 0 := by
  have htop : (T.setVm s.vm).topJava?.isSome := X.here.top
  have hfr : ((T.setVm s.vm).setFrames (.invoking m args :: below)).frames = .invoking m args :: below := State.frames_setFrames _ (State.cur_lt_of_top htop)
  have hlim : e.platform.stackLimits (T.setVm s.vm).me = e.platform.stackLimits s.me := X.limits
  have hby : (T.setVm s.vm).me.stackBytes = s.me.stackBytes := X.bytes
  have hnone : T.heap.toList.drop T.heap.size = [] := List.drop_eq_nil_of_le (Nat.le_of_eq Array.length_toList)
  obtain ⟨g0, hg0⟩ := Option.isSome_iff_exists.mp htop
  obtain ⟨r0, hr0⟩ := State.topJava?_eq_some.mp hg0
  obtain ⟨t0, ht0, -⟩ := State.frames_cons hr0
  have hroom : ((T.setVm s.vm).setFrames (.invoking m args :: below)).hasRoom e.platform R' = true := by
    have h := X.room
    have hu : ((T.setVm s.vm).setFrames (.invoking m args :: below)).localsInUse = s.localsInUse := by
      rw [State.localsInUse_invoking hfr (meth := meth) (c := c) X.method X.code, State.localsInUse_invoking X.frames X.method X.code]
    have q1 := X.heapSize
    have q2 := X.used
    simp only [State.hasRoom, Bool.and_eq_true, decide_eq_true_eq] at h ⊢
    obtain ⟨⟨⟨⟨b1, b2, b3, b4, b5, b6⟩, b7⟩, b8⟩, b9⟩ := h
    rw [X.frames, List.length_cons] at b2 b3
    simp only [hfr, hu, List.length_cons, State.stackLimits_setFrames, State.stackBytes_setFrames, hlim, hby]
    have c7 : T.heap.size + R'.cells ≤ e.platform.maxCells := by omega
    have c8 : T.slotsUsed + R'.slots ≤ e.platform.maxSlots := by omega
    exact ⟨⟨⟨⟨by omega, by omega, by omega, by omega, by omega, b6⟩, c7⟩, c8⟩, X.book⟩
  have hsame : ((T.setVm s.vm).setFrames (.invoking m args :: below)).sameButNew (T.setVm ((T.setVm s.vm).setFrames (.invoking m args :: below)).vm) [] 0 0 := by
    refine ⟨?_, Nat.le_refl _, Nat.le_refl _, ?_, ?_, fun a c9 h9 => ⟨c9, h9, rfl, rfl, fun _ _ => rfl⟩⟩
    · show T.setVm s.vm = { ((T.setVm s.vm).setFrames (.invoking m args :: below)).setFrames (T.setVm s.vm).frames with heap := T.heap, slotsUsed := T.slotsUsed }
      rw [State.setFrames_setFrames, State.setFrames_self ht0]
      rfl
    · show T.slotsUsed = T.slotsUsed + ((T.heap.toList.drop T.heap.size).map (·.slots.size)).sum
      rw [hnone]
      rfl
    · show ((T.heap.toList.drop T.heap.size).map (·.slots.size)).sum ≤ 0
      rw [hnone]
      exact Nat.le_refl _
  exact ⟨X.admits, X.cas, X.clock, hfr, hroom, X.hears, X.method, X.code, X.here, X.tail, X.warmed, by rw [State.stackLimits_setFrames]; rfl, by rw [State.stackBytes_setFrames]; rfl, hsame⟩
/-- cells that are not written stay -/
theorem mj_stays {U : State} {k n : Nat} (hs : s.sameButNew ({ U with vm := s.vm } : State) [] k n) : ∀ q : Nat, q < s.heap.size → U.heap[q]? = s.heap[q]? := by
  obtain ⟨-, -, -, -, -, h6⟩ := hs
  intro q hq
  obtain ⟨c9, e1, e2, e3, e4⟩ := h6 q _ (Array.getElem?_eq_getElem hq)
  have hsl : c9.slots = (s.heap[q]).slots := Array.ext_getElem? fun i => e4 i (fun z => nomatch z)
  have h9 : c9 = s.heap[q] := by
    rw [hsl] at e2
    exact e2
  have e5 : U.heap[q]? = some c9 := e1
  rw [e5, h9, Array.getElem?_eq_getElem hq]
/-- what a body owes that throws -/
def mj_QX (F : mj_F) (a : Nat) (h1 : mj_H) : Array Value → State → Outcome → State → Prop := fun _ _ oc t => oc = .threw (F.ad a) ∧ mj_P F t h1 t.heap
def mj_MX (below : List Frame) (Qc : Array Value → State → Outcome → State → Prop) (a : Array Value) (s : State) (mc ms : Nat) (free : Addr → Prop) : State → Prop := fun t =>
  ∃ o, t.status = .running ∧ Ended t below o ∧ Qc a s o t ∧ ∃ Lo, Jvm.Free.FrameEndT s o t Lo mc ms ∧ ∀ q ∈ Lo, free q.base
theorem mj_throw (hF : F.ok) (hexec : p.tables.exec = Jvm.exec) (hb : c.code = cc) (hml : c.maxLocals = L.length) (hP : mj_P F s h H) (hL : mj_Lr F.ad L ls) (hlo : ∀ q ∈ locs, F.base ≤ q.base) (hl : l.stackTraces = false) {tb : List Cond} (hgood : ∀ w ∈ tb, goodWord w = true) (hts : ∀ w ∈ tb, w.before args s = true) {own cls text : String} {names : List String} {ik is ic sa x : Nat} (hx : cls = mj_xn (100 + x)) (hcx : F.cl[100 + x]? = none) (hown : s.vm.findClass own = some m.cls) (hcls : Bundle.fit cls = true) (hnames : ∀ n ∈ names, Bundle.fit n = true) (hnl : names.length ≤ 3)
    (hk : Cond.classLink own ik cls ∈ tb) (hini : Cond.initialized cls ∈ tb) (hins : Cond.instantiable cls 6 ∈ tb) (hstr : vk_R own is text sa s)
    {ix : Nat} {rx : ByteArray} (x0 : decode rx 0 = .ok (.aload_n 0, 1)) (x1 : decode rx 1 = .ok (.aload_n 1, 1)) (x2 : decode rx 2 = .ok (.invokespecial ix, 3)) (x5 : decode rx 5 = .ok (.return_, 1)) (hat : ∀ w ∈ Bundle.ownAtomsX own ic cls ix rx names, mj_Wt tb cls w)
    (hU : mj_Sz F Bundle.tN "UNASSIGNED_STACK" Bundle.steD s) (hN : mj_Sz F Bundle.tN "SUPPRESSED_SENTINEL" Bundle.listD s)
    (d0 : decode cc pc = .ok (.new ik, 3)) (d3 : decode cc (pc + 3) = .ok (.dup, 1)) (d4 : decode cc (pc + 4) = .ok (.ldc is, 2)) (d6 : decode cc (pc + 6) = .ok (.invokespecial ic, 3)) (d9 : decode cc (pc + 9) = .ok (.athrow, 1)) (hout : ∀ x ∈ c.exceptionTable.toList, covers x (pc + 9) = false)
    (hfr : 8 ≤ R.frames) (hlc : 10300 ≤ R.locals) (hrc : cells + 1 ≤ R.cells) (hrs : slots + 6 ≤ R.slots) (hlocks : meth.locks = false) :
    W p l e R s m args below meth c H locs cells slots (mj_MX below (mj_QX F h.length (h ++ [(false, 100 + x, [])])) args s (cells + 1) (slots + 6) (fun q => F.base ≤ q)) (F0 m pc ls []) := by
  intro T hT X
  have htr : e.platform.stackTraces = false := (show e.platform.stackTraces = l.stackTraces by rw [X.admits.platform]).trans hl
  have Y := mj_anew X (R' := { frames := R.frames, locals := R.locals, cells := 1, slots := 6 }) (Nat.le_refl _) (Nat.le_refl _) hrc hrs
  obtain ⟨s', hA⟩ : ∃ z, z = (T.setVm s.vm).setFrames (.invoking m args :: below) := ⟨_, rfl⟩
  rw [← hA] at Y
  have hvm : s'.vm = s.vm := by rw [hA]; rfl
  have hhp : s'.heap = H := by rw [hA]; exact hT
  have hW0 : s.WarmedH s'.vm := by rw [hvm]; exact State.WarmedH.refl s
  have hts' : ∀ w ∈ tb, w.before args s' = true := fun w hw => word_at hW0 (good_of_word (hgood w hw)) (hts w hw)
  have h0' : ∀ q : Nat, q < F.base → s'.heap[q]? = F.h0[q]? := fun q hq => by rw [hhp]; exact hP.2.2.2 q hq
  have wU := (hU.moved (U := s') hW0.alike).words (args := args) h0'
  have wN := (hN.moved (U := s') hW0.alike).words (args := args) h0'
  have hall : ∀ w ∈ Bundle.ownAtomsX own ic cls ix rx names, w.before args s' = true := by
    intro w hw
    rcases hat w hw with z | z | z | z | z | z | ⟨y, b, z, z1, z2⟩
    · exact hts' w z
    · rw [z]; exact mj_castSelf (hts' _ hins)
    · rw [z]; exact wU.1
    · rw [z]; exact wN.1
    · rw [z]; exact wU.2
    · rw [z]; exact wN.2
    · rw [z]; exact mj_declares (hts' _ z1) (hts' _ z2)
  have hown' : s'.vm.findClass own = some m.cls := by rw [hvm]; exact hown
  obtain ⟨vm₁, cX, kX, hfX, hkX, -, -, X₁, st1⟩ := Y.newCold hexec (own := own) (C := cls) (index := ik) (n := 6) hown' (hts' _ hk) (hts' _ hins) (hts' _ hini)
    (g := F0 m pc ls []) rfl (by rw [hb]; exact d0) (Nat.le_refl _) (Nat.le_refl _)
  generalize hT1 : (T.setVm vm₁).pushCell { cls := cX, slots := kX.instanceTypes.map defaultValue, vm := .none } = T1 at X₁ st1
  have hcat : (Value.ref T.heap.size).category = 1 := rfl
  have hcellA : T1.heap[T.heap.size]? = some (freshCell cX kX) := by rw [← hT1]; exact State.heap_pushCell_size _ _
  have d3' : decode c.code (pc + 3) = .ok (.dup, 1) := by rw [hb]; exact d3
  have d4' : decode c.code (pc + 4) = .ok (.ldc is, 2) := by rw [hb]; exact d4
  have hstr' : vk_R own is text sa s' := vk_R.warm hW0 hstr
  obtain ⟨U, hsteps, hrun, hend, hW, hsame, ce, hce, hO1, hO2⟩ := mj_ctorX X₁ hexec htr (own := own) (cls := cls) (names := names) (ic := ic) x0 x1 x2 x5 hown' hcls hnames hall (fun x hx => nomatch hx) hfX hkX hcellA (by rw [hhp, hT]; exact Nat.le_refl _) (msg := .ref sa) rfl
    (g := { method := m, pc := pc + 6, locals := ls, stack := .ref sa :: .ref T.heap.size :: .ref T.heap.size :: [], locked := none }) rfl (hL.1.trans hml.symm) rfl rfl (rest := []) rfl
    (by rw [hb]; exact d6) (by rw [hb]; exact d9) hout (show names.length + 3 < R.frames by omega) (by
      simp only [List.map_cons, List.map_nil, List.sum_cons, List.sum_nil, hcat]
      show 2 * 0 + _ + _ ≤ R.locals
      omega) hlocks
  have hst := mj_stays hsame
  rw [hhp] at hst
  have hWs : s.WarmedH U.vm := State.WarmedH.trans hW0 hW
  have hcl : s.vm.findClass cls = some ce.cls := by
    have h9 := hfX
    rw [hvm] at h9
    rw [hO1]
    exact h9
  have hsz : U.heap.size = H.size + 1 := by
    obtain ⟨-, g2, g3, -⟩ := hsame
    have g3 : U.heap.size ≤ s'.heap.size + (0 + 1) := g3
    have g4 : T.heap.size < U.heap.size := (Array.getElem?_eq_some_iff.mp hce).1
    rw [hhp] at g3
    rw [hT] at g4
    omega
  have hPU : mj_P F U (h ++ [(false, 100 + x, [])]) U.heap := by
    refine mj_P.moved hWs.alike (hP.push hF (Or.inr ⟨hcx, ce, ?_, hO2, by rw [← hx]; exact hcl⟩) hsz hst)
    rw [mj_ad_new hF hP, ← hT]
    exact hce
  have hcomp : s.sameButNew ({ U with vm := s.vm } : State) locs (cells + 1) (slots + 6) := by
    subst hA
    obtain ⟨e1, e2⟩ := hsame
    rw [State.setFrames_setFrames] at e1
    have h2 : (T.setVm s.vm).sameButNew ({ U with vm := s.vm } : State) [] (0 + 1) (0 + 6) := ⟨e1, e2⟩
    have h3 := X.same.trans h2
    rw [List.append_nil] at h3
    exact h3
  have hadr : F.ad h.length = T.heap.size := by rw [mj_ad_new hF hP, hT]
  refine ⟨U, ?_, .threw T.heap.size, hrun, hend, ⟨by rw [hadr], hPU⟩, locs, ⟨⟨_, rfl⟩, hWs, hcomp⟩, hlo⟩
  refine st1 _ ?_
  show Steps p.tables e below (T1.setTop { method := m, pc := pc + 3, locals := ls, stack := [.ref T.heap.size], locked := none }) _
  jvm_step X₁.here [X₁.here.top, hexec, d3', Value.category]
  exact X₁.ldcString hexec (own := own) (text := text) (index := is) (a := sa) hown' hstr'.1 hstr'.2
    (g := { method := m, pc := pc + 4, locals := ls, stack := .ref T.heap.size :: .ref T.heap.size :: [], locked := none }) rfl d4' _ hsteps
end MJT
