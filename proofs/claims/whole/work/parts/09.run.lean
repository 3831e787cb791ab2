/-! a call's words: from a callee's contract to the caller's step -/
theorem mj_pop_spec : ∀ (n : Nat) (S acc as r : List Value), mj_pop n S acc = some (as, r) → ∃ xs : List Value, xs.length = n ∧ S = xs ++ r ∧ as = xs.reverse ++ acc
  | 0, S, acc, as, r, h => by
    simp only [mj_pop, Option.some.injEq, Prod.mk.injEq] at h
    exact ⟨[], rfl, h.2, by rw [← h.1]; rfl⟩
  | n + 1, [], acc, as, r, h => by simp [mj_pop] at h
  | n + 1, v :: S, acc, as, r, h => by
    rw [mj_pop] at h
    obtain ⟨xs, h1, h2, h3⟩ := mj_pop_spec n S (v :: acc) as r h
    exact ⟨v :: xs, by simp [h1], by simp [h2], by rw [h3]; simp⟩
theorem mj_pop_at {n : Nat} {S as r : List Value} (h : mj_pop n S [] = some (as, r)) : as.length = n ∧ S = as.reverse ++ r := by
  obtain ⟨xs, h1, h2, h3⟩ := mj_pop_spec n S [] as r h
  rw [List.append_nil] at h3
  subst h3
  exact ⟨by simpa using h1, by simpa using h2⟩
theorem mj_wd_eq (ad : Nat → Nat) : ∀ S : List Value, ((S.map (mj_cv ad)).map fun v => v.category).sum = mj_wd S
  | [] => rfl
  | v :: r => by
    have ih := mj_wd_eq ad r
    rw [List.map_cons, List.map_cons, List.sum_cons, ih]
    cases v <;> simp [mj_cv, Value.category, mj_wd] <;> omega
theorem mj_goodIn {tb : List Cond} (hg : ∀ w ∈ tb, goodWord w = true) {w0 : Cond} (h0 : w0 ∈ tb) : GoodIn tb (w0 :: tb) := by
  intro w hw
  rcases List.mem_cons.mp hw with rfl | hw
  · exact ⟨h0, good_of_word (hg _ h0)⟩
  · exact ⟨hw, good_of_word (hg _ hw)⟩
/-- how a method is named at a call: which instruction, which words -/
def mj_Ln (tb nb : List Cond) (own : String) (y : MethodName) (n : Nat) (w : Bool) (rc : Bool) (r : Instr) : Prop :=
  Cond.initialized y.cls ∈ tb ∧ (y.cls ≠ "java/lang/invoke/MethodHandle" ∧ y.cls ≠ "java/lang/invoke/VarHandle") ∧ (parseMethodDescriptor y.desc).map (fun d => d.parameters.length) = some (if rc then n - 1 else n) ∧ (rc = true → 1 ≤ n) ∧ ∃ idx : Nat,
    ((rc = false ∧ r = .invokestatic idx ∧ Cond.methodLink own idx y ∈ tb ∧ Cond.static y ∈ tb) ∨
    (rc = false ∧ w = false ∧ r = .invokestatic idx ∧ Cond.static y ∈ tb ∧ ∃ host : String, Cond.methodLinkNest own idx y host ∈ nb) ∨
    (rc = true ∧ w = false ∧ r = .invokevirtual idx ∧ Cond.methodLink own idx y ∈ tb ∧ Cond.instanceMethod y ∈ tb ∧ Cond.selects y.cls y y ∈ tb) ∨
    (rc = true ∧ w = false ∧ r = .invokespecial idx ∧ y.name = "<init>" ∧ Cond.methodLink own idx y ∈ tb ∧ Cond.instanceMethod y ∈ tb) ∨
    (rc = true ∧ w = false ∧ r = .invokespecial idx ∧ y.name = "<init>" ∧ Cond.instanceMethod y ∈ tb ∧ ∃ host : String, Cond.methodLinkNest own idx y host ∈ nb))
section MJR
variable {p : Program} {l : Launch} {e : Env} {R : Room} {s : State} {m : MethodId} {args : Array Value} {below : List Frame} {meth : Method} {c : Code} {H : Heap} {locs : List Loc} {cells slots : Nat} {Q : State → Prop}
variable {cc : ByteArray} {pc len pc1 : Nat} {ls : Array Slot} {F : mj_F} {P : mj_Pr} {L L1 : mj_L} {S S1 : List Value} {h h1 : mj_H}
/-- the receiver's cell -/
theorem mj_recv {nb : List Cond} {E : State → Prop} (hP : mj_P F s h H) (hX : mj_X F nb E s) {ci a : Nat} {vs : List Value} {C : String} {T : u_T} {N : Nat} (hc : F.cl[ci]? = some (C, T, N)) (ha : h[a]? = some (false, ci, vs)) : ∃ cellB : Cell, H[F.ad a]? = some cellB ∧ cellB.vm.isStatics = false ∧ s.vm.findClass C = some cellB.cls := by
  rcases hP.1 a _ ha with ⟨r0, g4, g5, cell, q1, q2, q3, q4⟩ | ⟨g4, -⟩
  · have hr : r0 = (C, T, N) := Option.some.inj (g4.symm.trans hc)
    subst hr
    exact ⟨cell, q1, by rw [q3]; rfl, by rw [q2]; exact (hX.1.1 ci _ hc).2.1⟩
  · rw [hc] at g4
    cases g4
theorem mj_toRun {tb nb : List Cond} {E : State → Prop} (hgood : ∀ w ∈ tb, goodWord w = true) (hnb : ∀ w ∈ nb, mj_nestW w = true) (hE : mj_Ew E) (hexec : p.tables.exec = Jvm.exec) (hb : c.code = cc) (hml : c.maxLocals = L.length) (hP : mj_P F s h H) (hX : mj_X F nb E s) (hL : mj_Lr F.ad L ls) (hts : ∀ w ∈ tb, w.before args s = true) {own : String} (hown : s.vm.findClass own = some m.cls)
    {y : MethodName} {n mc ms maxL : Nat} {rm : Room} {bytes : ByteArray} {ret : Option FieldType} {as r : List Value} {v : Option Value} {rc : Bool} {ri : Instr} (hpop : mj_pop n S [] = some (as, r)) (hwd : mj_wd r ≤ 8) (hln : mj_Ln tb nb own y n false rc ri) (hcode : Cond.code y bytes maxL ret ∈ tb) (hret : y.name = "<init>" → ret = none)
    (hrc : rc = true → ∃ (ci a : Nat) (vs : List Value) (T : u_T) (N : Nat) (as' : List Value), F.cl[ci]? = some (y.cls, T, N) ∧ as = .ref a :: as' ∧ h[a]? = some (false, ci, vs))
    (hM : Met l y (Cond.code y bytes maxL ret :: tb) rm (mj_Pc F nb E as h) (mj_Qc F v h1) mc ms (fun q => F.base ≤ q)) (hrmc : rm.cells = mc) (hrms : rm.slots = ms) (hfr : rm.frames + 1 ≤ R.frames) (hlc : 8 + (maxL + 11) + rm.locals ≤ R.locals) (hf : cells + mc ≤ R.cells ∧ slots + ms ≤ R.slots) (hdg : decode cc pc = .ok (ri, 3)) :
    va_Run p l e R s m args below meth c H locs cells slots mc ms (F0 m pc ls (S.map F.cv)) (r.map F.cv) (mj_Qc F v h1 (as.map F.cv).toArray) (fun q => F.base ≤ q) := by
  obtain ⟨hlen, hS⟩ := mj_pop_at hpop
  obtain ⟨hini, hmh, hpd, hn1, idx, hcase⟩ := hln
  have hcf : CallFix p m c cc L.length s args tb own := ⟨hexec, hb, hml, hown, hts⟩
  have hsz : ls.size = L.length := hL.1
  have hww : 2 * (F0 m pc ls (S.map F.cv)).monitorRoom + ((r.map F.cv).map fun v => v.category).sum ≤ 8 := by
    rw [mj_wd_eq]
    show 2 * 0 + _ ≤ 8
    omega
  have hGI := mj_goodIn hgood hcode
  have hpre : ∀ U : State, U.heap = H → s.WarmedH U.vm → mj_Pc F nb E as h (as.map F.cv).toArray U := fun U hU hW => mj_Pc.at hnb hE hP hX hU hW
  have hbl := mj_Pc.blind (F := F) (E := E) (as := as) (h := h) hnb hE
  have hstack : S.map F.cv = (as.map F.cv).reverse ++ r.map F.cv := by rw [hS]; simp
  rcases hcase with ⟨rfl, rfl, hl, hst⟩ | ⟨rfl, -, rfl, hst, host, hl⟩ | ⟨rfl, -, rfl, hl, hin, hse⟩ | ⟨rfl, -, rfl, hnm, hl, hin⟩ | ⟨rfl, -, rfl, hnm, hin, host, hl⟩
  · have hcb := callB_of (R := R) (own := own) (index := idx) n hts hGI rfl hrmc hrms (hts _ hini) (hts _ hl) ⟨hmh.1, hmh.2, hpd⟩ ⟨hfr, hlc⟩
    exact va_runS hcf hM ⟨hcb, hts _ hst⟩ ⟨hbl, hpre⟩ rfl (by simpa using hlen) hsz hstack hww hdg hf
  · have hcb := va_cnB (R := R) (own := own) (index := idx) (host := host) n hts hGI rfl hrmc hrms (hX.2.1 _ hl) (hts _ hini) ⟨hmh.1, hmh.2, hpd⟩ ⟨hfr, hlc⟩
    exact va_runSN hcf hM ⟨hcb, hts _ hst, trivial⟩ ⟨hbl, hpre⟩ rfl (by simpa using hlen) hsz hstack hww hdg hf
  · obtain ⟨ci, a, vs, T, N, as', hc, rfl, ha⟩ := hrc rfl
    have hcb := callB_of (R := R) (own := own) (index := idx) (n - 1) hts hGI rfl hrmc hrms (hts _ hini) (hts _ hl) ⟨hmh.1, hmh.2, hpd⟩ ⟨hfr, hlc⟩
    exact va_runV (C := y.cls) (b := F.ad a) (As := as'.map F.cv) hcf hM ⟨hcb, hts _ hin, hts _ hse⟩ ⟨hbl, mj_recv hP hX hc ha, hpre⟩ rfl (by simp at hlen ⊢; omega) hsz (by rw [show (F0 m pc ls (S.map F.cv)).stack = S.map F.cv from rfl, hstack]; simp [mj_cv]) hww hdg hf
  · obtain ⟨ci, a, vs, T, N, as', hc, rfl, ha⟩ := hrc rfl
    have hrn := hret hnm
    subst hrn
    have hcb := callB_of (R := R) (own := own) (index := idx) (n - 1) hts hGI rfl hrmc hrms (hts _ hini) (hts _ hl) ⟨hmh.1, hmh.2, hpd⟩ ⟨hfr, hlc⟩
    exact va_runI (b := F.ad a) (As := as'.map F.cv) hcf hM ⟨hcb, hnm, hts _ hin⟩ ⟨hbl, hpre⟩ rfl (by simp at hlen ⊢; omega) hsz (by rw [show (F0 m pc ls (S.map F.cv)).stack = S.map F.cv from rfl, hstack]; simp [mj_cv]) hww hdg hf
  · obtain ⟨ci, a, vs, T, N, as', hc, rfl, ha⟩ := hrc rfl
    have hrn := hret hnm
    subst hrn
    have hcb := va_cnB (R := R) (own := own) (index := idx) (host := host) (n - 1) hts hGI rfl hrmc hrms (hX.2.1 _ hl) (hts _ hini) ⟨hmh.1, hmh.2, hpd⟩ ⟨hfr, hlc⟩
    exact va_runIN (b := F.ad a) (As := as'.map F.cv) hcf hM ⟨hcb, hnm, hts _ hin⟩ ⟨hbl, hpre⟩ rfl (by simp at hlen ⊢; omega) hsz (by rw [show (F0 m pc ls (S.map F.cv)).stack = S.map F.cv from rfl, hstack]; simp [mj_cv]) hww hdg hf
/-- the same of a static method with handlers -/
theorem mj_toRunW {tb nb : List Cond} {E : State → Prop} (hgood : ∀ w ∈ tb, goodWord w = true) (hnb : ∀ w ∈ nb, mj_nestW w = true) (hE : mj_Ew E) (hexec : p.tables.exec = Jvm.exec) (hb : c.code = cc) (hml : c.maxLocals = L.length) (hP : mj_P F s h H) (hX : mj_X F nb E s) (hL : mj_Lr F.ad L ls) (hts : ∀ w ∈ tb, w.before args s = true) {own : String} (hown : s.vm.findClass own = some m.cls)
    {y : MethodName} {n mc ms maxL : Nat} {rm : Room} {bytes : ByteArray} {ret : Option FieldType} {hh : List (Nat × Nat × Nat × Nat)} {as r : List Value} {v : Option Value} {ri : Instr} (hpop : mj_pop n S [] = some (as, r)) (hwd : mj_wd r ≤ 8) (hln : mj_Ln tb nb own y n true false ri) (hcode : Cond.codeWith y bytes maxL ret hh ∈ tb)
    (hM : Met l y (Cond.codeWith y bytes maxL ret hh :: tb) rm (mj_Pc F nb E as h) (mj_Qc F v h1) mc ms (fun q => F.base ≤ q)) (hrmc : rm.cells = mc) (hrms : rm.slots = ms) (hfr : rm.frames + 1 ≤ R.frames) (hlc : 8 + (maxL + 11) + rm.locals ≤ R.locals) (hf : cells + mc ≤ R.cells ∧ slots + ms ≤ R.slots) (hdg : decode cc pc = .ok (ri, 3)) :
    va_Run p l e R s m args below meth c H locs cells slots mc ms (F0 m pc ls (S.map F.cv)) (r.map F.cv) (mj_Qc F v h1 (as.map F.cv).toArray) (fun q => F.base ≤ q) := by
  obtain ⟨hlen, hS⟩ := mj_pop_at hpop
  obtain ⟨hini, hmh, hpd, hn1, idx, hcase⟩ := hln
  have hsz : ls.size = L.length := hL.1
  have hww : 2 * (F0 m pc ls (S.map F.cv)).monitorRoom + ((r.map F.cv).map fun v => v.category).sum ≤ 8 := by
    rw [mj_wd_eq]
    show 2 * 0 + _ ≤ 8
    omega
  have hGI := mj_goodIn hgood hcode
  have hpre : ∀ U : State, U.heap = H → s.WarmedH U.vm → mj_Pc F nb E as h (as.map F.cv).toArray U := fun U hU hW => mj_Pc.at hnb hE hP hX hU hW
  have hbl := mj_Pc.blind (F := F) (E := E) (as := as) (h := h) hnb hE
  have hstack : S.map F.cv = (as.map F.cv).reverse ++ r.map F.cv := by rw [hS]; simp
  rcases hcase with ⟨-, rfl, hl, hst⟩ | ⟨-, hw, -⟩ | ⟨hw, -⟩ | ⟨hw, -⟩ | ⟨hw, -⟩
  · have hB : Back l R p e below s args y 3 8 (PreOf R mc ms (mj_Pc F nb E as h)) (PostOf (mj_Qc F v h1) mc ms (fun q => F.base ≤ q)) :=
      va_backW (bytes := bytes) (maxL := maxL) (ret := ret) (hh := hh) hM hbl hrmc hrms hfr hlc (pay_in hts hGI) List.mem_cons_self (fun a' U hW => word_at hW (good_of_word (hgood _ hini)) (hts _ hini))
    intro T hT X
    obtain ⟨v2, vm₁, ⟨U', l2, c2, s2⟩, hW₁, X', ⟨g', mk, t, Lo, e1, e2, hq, h1', hL', h2, h3⟩, stp⟩ := mj_callSW X hexec hown (hts _ hl) (hts _ hst) (hts _ hini) (hts _ hcode) hmh hB (g := F0 m pc ls (S.map F.cv)) rfl (hsz.trans hml.symm) (argsL := as.map F.cv) (rest := r.map F.cv) (fun sig hs => by rw [hs] at hpd; simp at hpd; simp [hlen, hpd]) hstack hww (by rw [hb]; exact hdg) (fun vm₁ hW₁ => ⟨hf.1, hf.2, hpre (T.setVm vm₁) hT hW₁⟩)
    dsimp only [Pt.U, Pt.locs, Pt.cells, Pt.slots] at X' e1 e2 h1' h2 h3 stp
    subst h1'; subst h2; subst h3
    exact ⟨v2, (T.setVm vm₁).calling g' mk (as.map F.cv).toArray, t, U', Lo, hT, X', hL', e1, e2, hq, stp⟩
  · cases hw
  · cases hw
  · cases hw
  · cases hw
end MJR
