/-! a callee throws, the caller catches -/
theorem mj_hn_spec : ∀ (hs : List (Nat × Nat × Nat × Nat)) (pc x t : Nat), mj_hn hs pc x = some t → ∃ i a b : Nat, hs[i]? = some (a, b, t, x) ∧ a ≤ pc ∧ pc < b ∧ ∀ j, j < i → ∀ a' b' t' k', hs[j]? = some (a', b', t', k') → ¬ (a' ≤ pc ∧ pc < b' ∧ x = k')
  | [], pc, x, t, h => by simp [mj_hn] at h
  | (a, b, t0, y) :: r, pc, x, t, h => by
    rw [mj_hn] at h
    split at h
    · rename_i hc
      obtain ⟨h1, h2, rfl⟩ := hc
      cases h
      exact ⟨0, a, b, rfl, h1, h2, fun j hj => absurd hj (Nat.not_lt_zero j)⟩
    · rename_i hc
      obtain ⟨i, a1, b1, h1, h2, h3, h4⟩ := mj_hn_spec r pc x t h
      refine ⟨i + 1, a1, b1, h1, h2, h3, fun j hj a' b' t' k' hq => ?_⟩
      cases j with
      | zero =>
        cases hq
        exact hc
      | succ j => exact h4 j (by omega) a' b' t' k' hq
/-- MJ's handlers are the method's -/
def mj_Hr (tb : List Cond) (own : String) (hs hh : List (Nat × Nat × Nat × Nat)) : Prop := hs.length = hh.length ∧ ∀ (i a b t k : Nat), hs[i]? = some (a, b, t, k) → k ≤ 2 ∧ ∃ ct : Nat, hh[i]? = some (a, b, t, ct) ∧ ct ≠ 0 ∧ Cond.classLink own ct (mj_xn (100 + k)) ∈ tb
section MJK
variable {p : Program} {l : Launch} {e : Env} {R : Room} {s : State} {m : MethodId} {args : Array Value} {below : List Frame} {meth : Method} {c : Code} {H : Heap} {locs : List Loc} {cells slots : Nat} {Q : State → Prop}
variable {cc : ByteArray} {pc len pc1 : Nat} {ls : Array Slot} {F : mj_F} {P : mj_Pr} {L L1 : mj_L} {S S1 : List Value} {h h1 : mj_H}
/-- the contract of a method that throws -/
def mj_MetX (l : Launch) (y : MethodName) (ws : List Cond) (rm : Room) (Pc : Array Value → State → Prop) (Qc : Array Value → State → Outcome → State → Prop) (mc ms : Nat) (free : Addr → Prop) : Prop :=
  MetFree l y (headSpec ws rm) Pc (fun _ _ _ _ _ => True) (fun a st o t => Qc a st o t ∧ ∃ Lo, Jvm.Free.FrameEndT st o t Lo mc ms ∧ ∀ q ∈ Lo, free q.base)
theorem mj_MetX.ofW {y : MethodName} {ws ws' : List Cond} {rm : Room} {Pc : Array Value → State → Prop} {Qc : Array Value → State → Outcome → State → Prop} {mc ms : Nat} {free : Addr → Prop} {cc : ByteArray} {maxL : Nat} {ret : Option FieldType}
    (hy : plainName y.cls = true) (hw : ws = Cond.code y cc maxL ret :: ws')
    (body : ∀ p e s m args below meth c s₁, BodyLoose p l y (headSpec ws rm) cc maxL ret e s m args below meth c s₁ → c.maxLocals = maxL → Pc args s →
      W p l e (headSpec ws rm).room s m args below meth c s.heap [] 0 0 (mj_MX below Qc args s mc ms free) (entryFrame m args maxL)) : mj_MetX l y ws rm Pc Qc mc ms free := by
  refine MetFree.of_bodyS (code := cc) (maxLocals := maxL) (ret := ret) hy ?_ ?_
  · intro args s m h hn
    obtain ⟨meth, c, h1, h2, h3, h4, h5, h6, -, -⟩ := Cond.code_spec hn (atoms_spec (ws := ws) h _ (by rw [hw]; exact List.mem_cons_self))
    exact ⟨meth, c, h1, h2, h3, h4, h5, h6⟩
  · intro p e s m args below meth c s₁ B hml hP _
    have hh0 : s₁.heap = s.heap := by rw [B.state]; rfl
    obtain ⟨t, a1, o, b1, b2, b3⟩ := body p e s m args below meth c s₁ B hml hP s₁ hh0 (Stand.of_body B)
    exact ⟨t, o, a1, b1, b2, b3⟩
theorem mj_backX {ws : List Cond} {rm : Room} {y : MethodName} {Pc : Array Value → State → Prop} {Qc : Array Value → State → Outcome → State → Prop} {mc ms ln wd : Nat} {free : Addr → Prop} {bytes : ByteArray} {maxL : Nat} {ret : Option FieldType}
    (hM : mj_MetX l y ws rm Pc Qc mc ms free) (hblind : FrameBlind Pc) (hrc : rm.cells = mc) (hrs : rm.slots = ms) (hframes : rm.frames + 1 ≤ R.frames) (hlocals : wd + (maxL + 11) + rm.locals ≤ R.locals)
    (hws : ∀ w ∈ ws, ∀ (a' : Array Value) (U : State), s.WarmedH U.vm → w.before a' U = true) (hcode : Cond.code y bytes maxL ret ∈ ws) (hinit : ∀ (a' : Array Value) (U : State), s.WarmedH U.vm → (Cond.initialized y.cls).before a' U = true) :
    Jvm.Free.BackT l R p e below s args y ln wd (PreOf R mc ms Pc) (fun A a xa B => ∃ (g : JFrame) (mk : MethodId) (t : State) (Lo : List Loc), B.U.heap = t.heap ∧ B.U.vm = t.vm ∧ Qc a (A.U.calling g mk a) (.threw xa) t ∧ B.locs = A.locs ++ Lo ∧ (∀ q ∈ Lo, free q.base) ∧ B.cells = A.cells + mc ∧ B.slots = A.slots + ms) := by
  refine Jvm.Free.BackT.of_free (S := headSpec ws rm) (P := Pc) (K := fun _ _ _ _ _ => True) (Q := fun a st o t => Qc a st o t ∧ ∃ Lo, Jvm.Free.FrameEndT st o t Lo mc ms ∧ ∀ q ∈ Lo, free q.base) (bytes := bytes) (maxL := maxL) (ret := ret)
    (E := fun a st o t Lo k n => k = mc ∧ n = ms ∧ ∀ q ∈ Lo, free q.base) hM hframes hlocals ?_ ?_ (fun _ _ _ _ _ _ _ _ _ => trivial) ?_ ?_
  · intro m meth c A a X hp
    exact ⟨atoms_intro fun w hw => hws w hw _ _ X.warmed, hws _ hcode _ _ X.warmed, hinit _ _ X.warmed, by rw [show (headSpec ws rm).room.cells = mc from hrc]; exact hp.1, by rw [show (headSpec ws rm).room.slots = ms from hrs]; exact hp.2.1⟩
  · intro m meth c A a g mk X hp
    exact hblind _ _ _ _ hp.2.2
  · intro a st o t ⟨hq, Lo, hF, hL⟩
    exact ⟨Lo, mc, ms, hF, rfl, rfl, hL⟩
  · intro m meth c A a g mk v t Lo k n X hp hq hF ⟨e1, e2, hL⟩
    subst e1; subst e2
    exact ⟨g, mk, t, Lo, rfl, rfl, hq.1, rfl, hL, rfl, rfl⟩
theorem mj_catch {tb nb : List Cond} {E : State → Prop} (hF : F.ok) (hgood : ∀ w ∈ tb, goodWord w = true) (hnb : ∀ w ∈ nb, mj_nestW w = true) (hE : mj_Ew E) (hexec : p.tables.exec = Jvm.exec) (hb : c.code = cc) (hml : c.maxLocals = L.length) (hP : mj_P F s h H) (hX : mj_X F nb E s) (hL : mj_Lr F.ad L ls) (hlo : ∀ q ∈ locs, F.base ≤ q.base) (hts : ∀ w ∈ tb, w.before args s = true) {own : String} (hown : s.vm.findClass own = some m.cls) (hnc : ∀ x y, x ≤ 2 → y ≤ 2 → x ≠ y → va_Nc (mj_xn (100 + x)) (mj_xn (100 + y)) s) {hs hh : List (Nat × Nat × Nat × Nat)} (hHr : mj_Hr tb own hs hh) (htab : c.exceptionTable.toList.map (fun h => (h.startPc, h.endPc, h.handlerPc, h.catchType)) = hh)
    {y : MethodName} {n mc ms maxL xk xa t : Nat} {rm : Room} {bytes : ByteArray} {ret : Option FieldType} {as r : List Value} {rc : Bool} {ri : Instr} (hpop : mj_pop n S [] = some (as, r)) (hwd : mj_wd r ≤ 8) (hln : mj_Ln tb nb own y n false rc ri) (hvt : rc = true ∧ ∀ idx, ri ≠ .invokespecial idx) (hcode : Cond.code y bytes maxL ret ∈ tb)
    (hrc : rc = true → ∃ (ci a : Nat) (vs : List Value) (T : u_T) (N : Nat) (as' : List Value), F.cl[ci]? = some (y.cls, T, N) ∧ as = .ref a :: as' ∧ h[a]? = some (false, ci, vs))
    (hM : mj_MetX l y (Cond.code y bytes maxL ret :: tb) rm (mj_Pc F nb E as h) (mj_QX F xa h1) mc ms (fun q => F.base ≤ q)) (hxa : h1[xa]? = some (false, 100 + xk, [])) (hxk : xk ≤ 2) (hxc : F.cl[100 + xk]? = none) (hhn : mj_hn hs pc xk = some t) (hins : Cond.instantiable (mj_xn (100 + xk)) 6 ∈ tb) (hrmc : rm.cells = mc) (hrms : rm.slots = ms) (hfr : rm.frames + 1 ≤ R.frames) (hlc : 8 + (maxL + 11) + rm.locals ≤ R.locals) (hf : cells + mc ≤ R.cells ∧ slots + ms ≤ R.slots) (hmc : mc = h1.length - h.length) (hms : ms = mj_sl h1 - mj_sl h) (hdg : decode cc pc = .ok (ri, 3))
    (kk : mj_Kt p l e R s m args below meth c F Q h L.length cells slots t L [.ref xa] h1) : W p l e R s m args below meth c H locs cells slots Q (F0 m pc ls (S.map F.cv)) := by
  obtain ⟨hlen, hS⟩ := mj_pop_at hpop
  obtain ⟨hini, hmh, hpd, hn1, idx, hcase⟩ := hln
  have hsz : ls.size = L.length := hL.1
  have hww : 2 * 0 + ((r.map F.cv).map fun v => v.category).sum ≤ 8 := by
    rw [mj_wd_eq]
    omega
  have hGI := mj_goodIn hgood hcode
  have hpre : ∀ U : State, U.heap = H → s.WarmedH U.vm → mj_Pc F nb E as h (as.map F.cv).toArray U := fun U hU hW => mj_Pc.at hnb hE hP hX hU hW
  have hbl := mj_Pc.blind (F := F) (E := E) (as := as) (h := h) hnb hE
  have hstack : S.map F.cv = (as.map F.cv).reverse ++ r.map F.cv := by rw [hS]; simp
  obtain ⟨hrt, hnsp⟩ := hvt
  subst hrt
  rcases hcase with ⟨hw, -⟩ | ⟨hw, -⟩ | ⟨-, -, rfl, hl, hin, hse⟩ | ⟨-, -, hw, -⟩ | ⟨-, -, hw, -⟩
  · cases hw
  · cases hw
  · obtain ⟨ci, a, vs, T0, N, as', hc, rfl, ha⟩ := hrc rfl
    have hB := mj_backX (p := p) (e := e) (below := below) (args := args) (s := s) (R := R) (ln := 3) (wd := 8) (bytes := bytes) (maxL := maxL) (ret := ret) hM hbl hrmc hrms hfr hlc (pay_in hts hGI) List.mem_cons_self (fun a' U hW => word_at hW (good_of_word (hgood _ hini)) (hts _ hini))
    intro T hT X
    obtain ⟨cellB, hcB, hoB, hclB⟩ := mj_recv hP hX hc ha
    obtain ⟨mk, methM, hnamed, hmethM, hstM, habM⟩ := Cond.instanceMethod_spec (hts _ hin)
    obtain ⟨methM', cM, hmethM', -, -, -, -, -, -, hsigM⟩ := Cond.code_spec hnamed (hts _ hcode)
    cases hmethM.symm.trans hmethM'
    obtain ⟨c2, r2, m2, q1, q2, q3, q4, kP, hkP, hkPi⟩ := Cond.selects_spec (hts _ hse)
    cases hclB.symm.trans q1
    cases (State.methodFound?_of_named hnamed hmh).symm.trans q2
    cases hnamed.symm.trans q3
    have hselP : selectMethod e.platform s.vm cellB.cls mk = .method mk := by rw [Launch.admits_selectMethod X.admits]; exact q4
    have hlen2 : (as'.map F.cv).length = methM.sig.parameters.length := by
      rw [hsigM] at hpd
      simp at hpd hlen ⊢
      omega
    have hstk : S.map F.cv = (as'.map F.cv).reverse ++ .ref (F.ad a) :: r.map F.cv := by rw [hstack]; simp [mj_cv]
    obtain ⟨vm₁, X₁, hstep₁⟩ := X.invokevirtual hexec hown (hts _ hl) hnamed hmethM hstM hkP hkPi hmh (a := F.ad a) (cell := cellB) (by rw [hT]; exact hcB)
      (fun z h => by rw [h] at hoB; cases hoB) hselP hmethM habM hkP hkPi (g := F0 m pc ls (S.map F.cv)) rfl (argsL := as'.map F.cv) (rest := r.map F.cv) hlen2 hstk (by rw [hb]; exact hdg)
    obtain ⟨x9, ⟨U', l2, c2', s2⟩, X', ⟨g', mk', t9, Lo, e1, e2, ⟨hq1, hq2⟩, h1', hLo, h2, h3⟩, hsteps⟩ := hB m meth c ⟨T.setVm vm₁, locs, cells, slots⟩ { (F0 m pc ls (S.map F.cv)) with stack := r.map F.cv } (.invokevirtual idx) mk (Value.ref (F.ad a) :: as'.map F.cv).toArray X₁ rfl (hsz.trans hml.symm) (by rw [hb]; exact hdg) hww (X₁.named hnamed) ⟨hf.1, hf.2, hpre (T.setVm vm₁) hT X₁.warmed⟩
    dsimp only [Pt.U, Pt.locs, Pt.cells, Pt.slots] at X' e1 e2 h1' h2 h3 hsteps
    subst h1'; subst h2; subst h3
    cases hq1
    have hal : s.vm.Alike t9.vm := by rw [← e2]; exact X'.warmed.alike
    have hP1 : mj_P F s h1 U'.heap := by rw [e1]; exact hq2.moved hal.symm
    have hce : ∃ ce : Cell, U'.heap[F.ad xa]? = some ce ∧ ce.vm = .none ∧ s.vm.findClass (mj_xn (100 + xk)) = some ce.cls := by
      rcases hP1.1 xa _ hxa with ⟨r0, g1, -⟩ | ⟨-, z⟩
      · rw [hxc] at g1
        cases g1
      · exact z
    obtain ⟨ce, hce1, hce2, hce3⟩ := hce
    have hpl : e.platform.magicAccessors = ({} : Platform).magicAccessors := by rw [X.admits.platform]
    obtain ⟨i, a0, b0, g1, g2, g3, g4⟩ := mj_hn_spec hs pc xk t hhn
    obtain ⟨-, ct, g5, g6, g7⟩ := hHr.2 i a0 b0 t xk g1
    have hget : ∀ (j : Nat) (w : Nat × Nat × Nat × Nat), hh[j]? = some w → ∃ z : ExceptionTableEntry, c.exceptionTable.toList[j]? = some z ∧ (z.startPc, z.endPc, z.handlerPc, z.catchType) = w := by
      intro j w hw
      rw [← htab, List.getElem?_map] at hw
      obtain ⟨z, hz1, hz2⟩ := Option.map_eq_some_iff.mp hw
      exact ⟨z, hz1, hz2⟩
    obtain ⟨z, hz1, hz2⟩ := hget i _ g5
    have hilt := (List.getElem?_eq_some_iff.mp hz1).1
    have hsplit : c.exceptionTable.toList = c.exceptionTable.toList.take i ++ z :: c.exceptionTable.toList.drop (i + 1) := by
      have hzz : c.exceptionTable.toList[i] = z := (List.getElem?_eq_some_iff.mp hz1).2
      rw [← hzz, List.getElem_cons_drop, List.take_append_drop]
    have hzs : z.startPc = a0 ∧ z.endPc = b0 ∧ z.handlerPc = t ∧ z.catchType = ct := by
      simp only [Prod.mk.injEq] at hz2
      exact hz2
    have hlen9 : c.exceptionTable.toList.length = hs.length := by
      have := congrArg List.length htab
      rw [List.length_map] at this
      rw [this, hHr.1]
    obtain ⟨c5, hc5, hcl5⟩ := Cond.classLink_spec hown (hts _ g7) e.platform hpl
    have hasg : s.vm.assignable ce.cls c5 = true := by
      cases Option.some.inj (hc5.symm.trans hce3)
      obtain ⟨ca, kca, w1, w2, w3, -⟩ := Cond.instantiable_spec (hts _ hins)
      cases Option.some.inj (w1.symm.trans hce3)
      exact va_assign (C := mj_xn (100 + xk)) ⟨hce3, kca, w2, w3⟩
    obtain ⟨vm', X'', st⟩ := X'.thenCaughtThrough (F.ad xa) (g := { (F0 m pc ls (S.map F.cv)) with stack := r.map F.cv }) rfl (hstep₁ _ fun acts => by rw [doInvoke_state]; exact hsteps) hce1 (by rw [hce2]; rfl) (by obtain ⟨k9, h9, -⟩ := Vm.findClass_spec hce3; exact ⟨k9, h9⟩) _ z _ hsplit
      (fun w hw => by
        obtain ⟨j, hj⟩ := List.getElem?_of_mem hw
        have hji : j < i := by
          have := (List.getElem?_eq_some_iff.mp hj).1
          simp at this
          omega
        rw [List.getElem?_take_of_lt hji] at hj
        have hjl : j < hs.length := by rw [← hlen9]; omega
        obtain ⟨⟨a1, b1, t1, k1⟩, hq⟩ : ∃ q, hs[j]? = some q := ⟨_, List.getElem?_eq_getElem hjl⟩
        have hno := g4 j hji a1 b1 t1 k1 hq
        obtain ⟨hk1, ct1, f1, f2, f3⟩ := hHr.2 j a1 b1 t1 k1 hq
        obtain ⟨w2, hw2, hw3⟩ := hget j _ f1
        cases hj.symm.trans hw2
        simp only [Prod.mk.injEq] at hw3
        obtain ⟨v1, v2, v3, v4⟩ := hw3
        by_cases hcv : a1 ≤ pc ∧ pc < b1
        · have hne : xk ≠ k1 := fun q => hno ⟨hcv.1, hcv.2, q⟩
          obtain ⟨c6, hc6, hcl6⟩ := Cond.classLink_spec hown (hts _ f3) e.platform hpl
          obtain ⟨a8, b8, y1, y2, y3⟩ := hnc xk k1 hxk hk1 hne
          cases Option.some.inj (y1.symm.trans hce3)
          cases Option.some.inj (y2.symm.trans hc6)
          exact Or.inr ⟨by rw [v4]; exact f2, _, by rw [v4]; exact hcl6, y3⟩
        · refine Or.inl ?_
          simp only [covers]
          show (decide (w.startPc ≤ pc) && decide (pc < w.endPc)) = false
          rw [v1, v2]
          simp only [Bool.and_eq_false_iff, decide_eq_false_iff_not]
          omega) (by
        simp only [covers]
        show (decide (z.startPc ≤ pc) && decide (pc < z.endPc)) = true
        rw [hzs.1, hzs.2.1]
        simp [g2, g3]) (Or.inr ⟨by rw [hzs.2.2.2]; exact g6, c5, by rw [hzs.2.2.2]; exact hcl5, hasg⟩)
    have hlo2 : ∀ q ∈ locs ++ Lo, F.base ≤ q.base := fun q hq => by
      rcases List.mem_append.mp hq with z | z
      · exact hlo q z
      · exact hLo q z
    have k := kk U'.heap (locs ++ Lo) ls hP1 hL hlo2 rfl
    rw [← hmc, ← hms] at k
    obtain ⟨t2, a1, b1⟩ := k (U'.setVm vm') rfl X''
    rw [hzs.2.2.1] at st
    exact ⟨t2, st.trans a1, b1⟩
  · exact absurd hw (hnsp idx)
  · exact absurd hw (hnsp idx)
end MJK
