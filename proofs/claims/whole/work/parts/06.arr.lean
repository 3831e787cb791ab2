/-! arrays: reading, writing, making -/
section MJA
variable {p : Program} {l : Launch} {e : Env} {R : Room} {s : State} {m : MethodId} {args : Array Value} {below : List Frame} {meth : Method} {c : Code} {H : Heap} {locs : List Loc} {cells slots : Nat} {Q : State → Prop}
variable {cc : ByteArray} {pc len pc1 : Nat} {ls : Array Slot} {F : mj_F} {P : mj_Pr} {L L1 : mj_L} {S S1 : List Value} {h h1 : mj_H}
theorem mj_ald_spec {t a : Nat} {x : Int32} {v : Value} (hg : mj_ald t h a x = some v) : ∃ vs : List Value, h[a]? = some (true, t, vs) ∧ ¬ x < 0 ∧ vs[x.toNatClampNeg]? = some v := by
  unfold mj_ald at hg
  split at hg
  · rename_i u vs hx
    split at hg
    · rename_i hu
      obtain ⟨rfl, h2⟩ := hu
      exact ⟨vs, hx, h2, hg⟩
    · cases hg
  · cases hg
theorem mj_ast_spec {nT t a : Nat} {x : Int32} {v : Value} (hg : mj_ast nT t h a x v = some h1) : ∃ vs : List Value, h[a]? = some (true, t, vs) ∧ ¬ x < 0 ∧ x.toNatClampNeg < vs.length ∧ nT ≤ a ∧ h1 = h.set a (true, t, vs.set x.toNatClampNeg v) := by
  unfold mj_ast at hg
  split at hg
  · rename_i u vs hx
    split at hg
    · rename_i hu
      obtain ⟨rfl, h2, h3, h4⟩ := hu
      exact ⟨vs, hx, h2, h3, h4, (Option.some.inj hg).symm⟩
    · cases hg
  · cases hg
/-- an array's cell -/
theorem mj_P.arr (hP : mj_P F s h H) {a t : Nat} {vs : List Value} (hx : h[a]? = some (true, t, vs)) : ∃ cell : Cell, H[F.ad a]? = some cell ∧ s.isArrayOf cell (mj_ty t) ∧ cell.vm ≠ .unknown ∧ cell.slots.size = vs.length ∧ (∀ (j : Nat) (v : Value), vs[j]? = some v → cell.slots[j]? = some (F.cv v)) ∧ cell.slots.toList = vs.map F.cv ∧ (F.nT ≤ a → mj_pl cell (F.dA t)) := by
  obtain ⟨cell, g1, g2, g3, g4, g5⟩ := hP.1 a _ hx
  refine ⟨cell, g1, g2, g3, ?_, fun j v hv => ?_, g4, g5⟩
  · rw [← Array.length_toList, g4, List.length_map]
  · rw [← Array.getElem?_toList, g4, List.getElem?_map, hv]
    rfl
theorem mj_P.ast (hF : F.ok) (hP : mj_P F s h H) {a t j : Nat} {vs : List Value} {v : Value} {cell : Cell} {H2 : Heap} (ha : F.nT ≤ a) (g2 : s.isArrayOf cell (mj_ty t)) (g4 : cell.slots.toList = vs.map F.cv) (g5 : F.nT ≤ a → mj_pl cell (F.dA t)) (e1 : H2[F.ad a]? = some (cell.setSlot j (F.cv v))) (e2 : H2.size = H.size) (e3 : ∀ q, q ≠ F.ad a → H2[q]? = H[q]?) : mj_P F s (h.set a (true, t, vs.set j v)) H2 := by
  refine hP.set hF ha ⟨_, e1, ?_, ?_, ?_, fun _ => (g5 ha).set _ _⟩ e2 e3
  · exact g2
  · show cell.vm ≠ .unknown
    rw [(g5 ha).vm]
    exact fun z => by cases z
  · show (cell.slots.setIfInBounds j (F.cv v)).toList = _
    rw [Array.toList_setIfInBounds, g4, List.map_set]
theorem mjo_arraylength (hexec : p.tables.exec = Jvm.exec) (hb : c.code = cc) (hP : mj_P F s h H) (hL : mj_Lr F.ad L ls) (hlo : ∀ q ∈ locs, F.base ≤ q.base) (hdg : decode cc pc = .ok (.arraylength, len)) (hlen : len = 1) (hi : mj_i P F.nT .arraylength (pc + len) L S h = some (pc1, L1, S1, h1)) (kk : mj_Kt p l e R s m args below meth c F Q h L.length cells slots pc1 L1 S1 h1) : W p l e R s m args below meth c H locs cells slots Q (F0 m pc ls (S.map F.cv)) := by
  subst hlen
  have hi : (match (generalizing := false) S with
    | .ref a :: r => match mj_len h a with
      | some n => some (pc + 1, L, .int n :: r, h)
      | none => none
    | _ => none) = some (pc1, L1, S1, h1) := hi
  split at hi
  · rename_i a r hz
    split at hi
    · rename_i n hn
      cases hi
      unfold mj_len at hn
      split at hn
      · rename_i u vs hx
        obtain ⟨cell, g1, g2, g3, g4, -⟩ := hP.arr hx
        cases hn
        exact W.alen hexec hb g1 g2 (by rw [g4]) rfl rfl hdg (kk.go hP hL hlo rfl)
      · cases hn
    · cases hi
  · cases hi
theorem mjo_iaload (hexec : p.tables.exec = Jvm.exec) (hb : c.code = cc) (hP : mj_P F s h H) (hL : mj_Lr F.ad L ls) (hlo : ∀ q ∈ locs, F.base ≤ q.base) (hdg : decode cc pc = .ok (.iaload, len)) (hlen : len = 1) (hi : mj_i P F.nT .iaload (pc + len) L S h = some (pc1, L1, S1, h1)) (kk : mj_Kt p l e R s m args below meth c F Q h L.length cells slots pc1 L1 S1 h1) : W p l e R s m args below meth c H locs cells slots Q (F0 m pc ls (S.map F.cv)) := by
  subst hlen
  have hi : (match (generalizing := false) S with
    | .int x :: .ref a :: r => match mj_ald 0 h a x with
      | some v => some (pc + 1, L, v :: r, h)
      | none => none
    | _ => none) = some (pc1, L1, S1, h1) := hi
  split at hi
  · rename_i x a r hz
    split at hi
    · rename_i v hv
      cases hi
      obtain ⟨vs, hx, h0, hv⟩ := mj_ald_spec hv
      obtain ⟨cell, g1, g2, g3, g4, g5, -⟩ := hP.arr hx
      have hlt := (List.getElem?_eq_some_iff.mp hv).1
      exact W.iald hexec hb g1 g2 g3 (fun q => q.elim h0 (fun z => by omega)) (g5 _ _ hv) rfl rfl hdg (kk.go hP hL hlo rfl)
    · cases hi
  · cases hi
theorem mjo_laload (hexec : p.tables.exec = Jvm.exec) (hb : c.code = cc) (hP : mj_P F s h H) (hL : mj_Lr F.ad L ls) (hlo : ∀ q ∈ locs, F.base ≤ q.base) (hdg : decode cc pc = .ok (.laload, len)) (hlen : len = 1) (hi : mj_i P F.nT .laload (pc + len) L S h = some (pc1, L1, S1, h1)) (kk : mj_Kt p l e R s m args below meth c F Q h L.length cells slots pc1 L1 S1 h1) : W p l e R s m args below meth c H locs cells slots Q (F0 m pc ls (S.map F.cv)) := by
  subst hlen
  have hi : (match (generalizing := false) S with
    | .int x :: .ref a :: r => match mj_ald 1 h a x with
      | some v => some (pc + 1, L, v :: r, h)
      | none => none
    | _ => none) = some (pc1, L1, S1, h1) := hi
  split at hi
  · rename_i x a r hz
    split at hi
    · rename_i v hv
      cases hi
      obtain ⟨vs, hx, h0, hv⟩ := mj_ald_spec hv
      obtain ⟨cell, g1, g2, g3, g4, g5, -⟩ := hP.arr hx
      have hlt := (List.getElem?_eq_some_iff.mp hv).1
      exact W.lald hexec hb g1 g2 g3 (fun q => q.elim h0 (fun z => by omega)) (g5 _ _ hv) rfl rfl hdg (kk.go hP hL hlo rfl)
    · cases hi
  · cases hi
theorem mjo_caload (hexec : p.tables.exec = Jvm.exec) (hb : c.code = cc) (hP : mj_P F s h H) (hL : mj_Lr F.ad L ls) (hlo : ∀ q ∈ locs, F.base ≤ q.base) (hdg : decode cc pc = .ok (.caload, len)) (hlen : len = 1) (hi : mj_i P F.nT .caload (pc + len) L S h = some (pc1, L1, S1, h1)) (kk : mj_Kt p l e R s m args below meth c F Q h L.length cells slots pc1 L1 S1 h1) : W p l e R s m args below meth c H locs cells slots Q (F0 m pc ls (S.map F.cv)) := by
  subst hlen
  have hi : (match (generalizing := false) S with
    | .int x :: .ref a :: r => match mj_ald 2 h a x with
      | some v => some (pc + 1, L, v :: r, h)
      | none => none
    | _ => none) = some (pc1, L1, S1, h1) := hi
  split at hi
  · rename_i x a r hz
    split at hi
    · rename_i v hv
      cases hi
      obtain ⟨vs, hx, h0, hv⟩ := mj_ald_spec hv
      obtain ⟨cell, g1, g2, g3, g4, g5, -⟩ := hP.arr hx
      have hlt := (List.getElem?_eq_some_iff.mp hv).1
      exact W.cald hexec hb g1 g2 g3 (fun q => q.elim h0 (fun z => by omega)) (g5 _ _ hv) rfl rfl hdg (kk.go hP hL hlo rfl)
    · cases hi
  · cases hi
theorem mjo_baload (hexec : p.tables.exec = Jvm.exec) (hb : c.code = cc) (hP : mj_P F s h H) (hL : mj_Lr F.ad L ls) (hlo : ∀ q ∈ locs, F.base ≤ q.base) (hdg : decode cc pc = .ok (.baload, len)) (hlen : len = 1) (hi : mj_i P F.nT .baload (pc + len) L S h = some (pc1, L1, S1, h1)) (kk : mj_Kt p l e R s m args below meth c F Q h L.length cells slots pc1 L1 S1 h1) : W p l e R s m args below meth c H locs cells slots Q (F0 m pc ls (S.map F.cv)) := by
  subst hlen
  have hi : (match (generalizing := false) S with
    | .int x :: .ref a :: r => match mj_ald 3 h a x with
      | some v => some (pc + 1, L, v :: r, h)
      | none => none
    | _ => none) = some (pc1, L1, S1, h1) := hi
  split at hi
  · rename_i x a r hz
    split at hi
    · rename_i v hv
      cases hi
      obtain ⟨vs, hx, h0, hv⟩ := mj_ald_spec hv
      obtain ⟨cell, g1, g2, g3, g4, g5, -⟩ := hP.arr hx
      have hlt := (List.getElem?_eq_some_iff.mp hv).1
      exact W.zald hexec hb g1 g2 g3 (fun q => q.elim h0 (fun z => by omega)) (g5 _ _ hv) rfl rfl hdg (kk.go hP hL hlo rfl)
    · cases hi
  · cases hi
theorem mjo_aaload (hexec : p.tables.exec = Jvm.exec) (hb : c.code = cc) (hP : mj_P F s h H) (hL : mj_Lr F.ad L ls) (hlo : ∀ q ∈ locs, F.base ≤ q.base) (hdg : decode cc pc = .ok (.aaload, len)) (hlen : len = 1) (hi : mj_i P F.nT .aaload (pc + len) L S h = some (pc1, L1, S1, h1)) (kk : mj_Kt p l e R s m args below meth c F Q h L.length cells slots pc1 L1 S1 h1) : W p l e R s m args below meth c H locs cells slots Q (F0 m pc ls (S.map F.cv)) := by
  subst hlen
  have hi : (match (generalizing := false) S with
    | .int x :: .ref a :: r => match h[a]? with
      | some (true, u, vs) => if 6 ≤ u ∧ u ≤ 8 ∧ ¬ x < 0 then match vs[x.toNatClampNeg]? with
        | some v => some (pc + 1, L, v :: r, h)
        | none => none
        else none
      | _ => none
    | _ => none) = some (pc1, L1, S1, h1) := hi
  split at hi
  · rename_i x a r hz
    split at hi
    · rename_i u vs hx
      split at hi
      · rename_i hu
        split at hi
        · rename_i v hv
          cases hi
          obtain ⟨cell, g1, g2, g3, g4, g5, -⟩ := hP.arr hx
          have hlt := (List.getElem?_eq_some_iff.mp hv).1
          have hty : (mj_ty u).isReference = true := by
            rcases (by omega : u = 6 ∨ u = 7 ∨ u = 8) with z | z | z <;> subst z <;> rfl
          exact W.aald hexec hb g1 g2 hty g3 (fun q => q.elim hu.2.2 (fun z => by omega)) (g5 _ _ hv) rfl rfl hdg (kk.go hP hL hlo rfl)
        · cases hi
      · cases hi
    · cases hi
  · cases hi
theorem mjo_iastore (hF : F.ok) (hexec : p.tables.exec = Jvm.exec) (hb : c.code = cc) (hP : mj_P F s h H) (hL : mj_Lr F.ad L ls) (hlo : ∀ q ∈ locs, F.base ≤ q.base) (hdg : decode cc pc = .ok (.iastore, len)) (hlen : len = 1) (hi : mj_i P F.nT .iastore (pc + len) L S h = some (pc1, L1, S1, h1)) (kk : mj_Kt p l e R s m args below meth c F Q h L.length cells slots pc1 L1 S1 h1) : W p l e R s m args below meth c H locs cells slots Q (F0 m pc ls (S.map F.cv)) := by
  subst hlen
  have hi : (match (generalizing := false) S with
    | .int v :: .int x :: .ref a :: r => match mj_ast F.nT 0 h a x (.int v) with
      | some h1 => some (pc + 1, L, r, h1)
      | none => none
    | _ => none) = some (pc1, L1, S1, h1) := hi
  split at hi
  · rename_i v x a r hz
    split at hi
    · rename_i h2 hv
      cases hi
      obtain ⟨vs, hx, h0, hlt, ha, rfl⟩ := mj_ast_spec hv
      obtain ⟨cell, g1, g2, g3, g4, g5, g6, g7⟩ := hP.arr hx
      refine W.iast hexec hb g1 g2 g3 (fun q => q.elim h0 (fun z => by omega)) rfl rfl hdg fun H2 e1 e2 e3 => ?_
      exact mj_Kt.goS kk hx (List.length_set ..) (hP.ast hF ha g2 g6 g7 e1 e2 e3) hL (mj_lo_add hF hlo ha) rfl
    · cases hi
  · cases hi
theorem mjo_lastore (hF : F.ok) (hexec : p.tables.exec = Jvm.exec) (hb : c.code = cc) (hP : mj_P F s h H) (hL : mj_Lr F.ad L ls) (hlo : ∀ q ∈ locs, F.base ≤ q.base) (hdg : decode cc pc = .ok (.lastore, len)) (hlen : len = 1) (hi : mj_i P F.nT .lastore (pc + len) L S h = some (pc1, L1, S1, h1)) (kk : mj_Kt p l e R s m args below meth c F Q h L.length cells slots pc1 L1 S1 h1) : W p l e R s m args below meth c H locs cells slots Q (F0 m pc ls (S.map F.cv)) := by
  subst hlen
  have hi : (match (generalizing := false) S with
    | .long v :: .int x :: .ref a :: r => match mj_ast F.nT 1 h a x (.long v) with
      | some h1 => some (pc + 1, L, r, h1)
      | none => none
    | _ => none) = some (pc1, L1, S1, h1) := hi
  split at hi
  · rename_i v x a r hz
    split at hi
    · rename_i h2 hv
      cases hi
      obtain ⟨vs, hx, h0, hlt, ha, rfl⟩ := mj_ast_spec hv
      obtain ⟨cell, g1, g2, g3, g4, g5, g6, g7⟩ := hP.arr hx
      refine W.last hexec hb g1 g2 g3 (fun q => q.elim h0 (fun z => by omega)) rfl rfl hdg fun H2 e1 e2 e3 => ?_
      exact mj_Kt.goS kk hx (List.length_set ..) (hP.ast hF ha g2 g6 g7 e1 e2 e3) hL (mj_lo_add hF hlo ha) rfl
    · cases hi
  · cases hi
theorem mjo_castore (hF : F.ok) (hexec : p.tables.exec = Jvm.exec) (hb : c.code = cc) (hP : mj_P F s h H) (hL : mj_Lr F.ad L ls) (hlo : ∀ q ∈ locs, F.base ≤ q.base) (hdg : decode cc pc = .ok (.castore, len)) (hlen : len = 1) (hi : mj_i P F.nT .castore (pc + len) L S h = some (pc1, L1, S1, h1)) (kk : mj_Kt p l e R s m args below meth c F Q h L.length cells slots pc1 L1 S1 h1) : W p l e R s m args below meth c H locs cells slots Q (F0 m pc ls (S.map F.cv)) := by
  subst hlen
  have hi : (match (generalizing := false) S with
    | .int v :: .int x :: .ref a :: r => if mj_fit 2 (.int v) then match mj_ast F.nT 2 h a x (.int v) with
      | some h1 => some (pc + 1, L, r, h1)
      | none => none
      else none
    | _ => none) = some (pc1, L1, S1, h1) := hi
  split at hi
  · rename_i v x a r hz
    split at hi
    · rename_i hfit
      split at hi
      · rename_i h2 hv
        cases hi
        obtain ⟨vs, hx, h0, hlt, ha, rfl⟩ := mj_ast_spec hv
        obtain ⟨cell, g1, g2, g3, g4, g5, g6, g7⟩ := hP.arr hx
        refine W.cast hexec hb g1 g2 g3 (fun q => q.elim h0 (fun z => by omega)) rfl rfl hdg fun H2 e1 e2 e3 => ?_
        have hn : narrow .char (.int v) = .int v := narrow_of_fits (mj_fit_ok (ty := .char) F.ad hfit)
        rw [hn] at e1
        exact mj_Kt.goS kk hx (List.length_set ..) (hP.ast hF ha g2 g6 g7 e1 e2 e3) hL (mj_lo_add hF hlo ha) rfl
      · cases hi
    · cases hi
  · cases hi
theorem mjo_bastore (hF : F.ok) (hexec : p.tables.exec = Jvm.exec) (hb : c.code = cc) (hP : mj_P F s h H) (hL : mj_Lr F.ad L ls) (hlo : ∀ q ∈ locs, F.base ≤ q.base) (hdg : decode cc pc = .ok (.bastore, len)) (hlen : len = 1) (hi : mj_i P F.nT .bastore (pc + len) L S h = some (pc1, L1, S1, h1)) (kk : mj_Kt p l e R s m args below meth c F Q h L.length cells slots pc1 L1 S1 h1) : W p l e R s m args below meth c H locs cells slots Q (F0 m pc ls (S.map F.cv)) := by
  subst hlen
  have hi : (match (generalizing := false) S with
    | .int v :: .int x :: .ref a :: r => if mj_fit 3 (.int v) then match mj_ast F.nT 3 h a x (.int v) with
      | some h1 => some (pc + 1, L, r, h1)
      | none => none
      else none
    | _ => none) = some (pc1, L1, S1, h1) := hi
  split at hi
  · rename_i v x a r hz
    split at hi
    · rename_i hfit
      split at hi
      · rename_i h2 hv
        cases hi
        obtain ⟨vs, hx, h0, hlt, ha, rfl⟩ := mj_ast_spec hv
        obtain ⟨cell, g1, g2, g3, g4, g5, g6, g7⟩ := hP.arr hx
        refine W.zast hexec hb g1 g2 g3 (fun q => q.elim h0 (fun z => by omega)) rfl rfl hdg fun H2 e1 e2 e3 => ?_
        have hn : narrow .boolean (.int v) = .int v := narrow_of_fits (mj_fit_ok (ty := .boolean) F.ad hfit)
        rw [hn] at e1
        exact mj_Kt.goS kk hx (List.length_set ..) (hP.ast hF ha g2 g6 g7 e1 e2 e3) hL (mj_lo_add hF hlo ha) rfl
      · cases hi
    · cases hi
  · cases hi
theorem mjo_aastore (hF : F.ok) (hexec : p.tables.exec = Jvm.exec) (hb : c.code = cc) (hP : mj_P F s h H) (hL : mj_Lr F.ad L ls) (hlo : ∀ q ∈ locs, F.base ≤ q.base) {T : u_T} {N : Nat} (hc : F.cl[3]? = some ("PassChain$Part", T, N)) (hK : va_K F.D F.cl (mj_tys F.dA) s) (hdg : decode cc pc = .ok (.aastore, len)) (hlen : len = 1) (hi : mj_i P F.nT .aastore (pc + len) L S h = some (pc1, L1, S1, h1)) (kk : mj_Kt p l e R s m args below meth c F Q h L.length cells slots pc1 L1 S1 h1) : W p l e R s m args below meth c H locs cells slots Q (F0 m pc ls (S.map F.cv)) := by
  subst hlen
  have hi : (match (generalizing := false) S with
    | .ref v :: .int x :: .ref a :: r => match h[v]? with
      | some (false, 3, _) => match mj_ast F.nT 6 h a x (.ref v) with
        | some h1 => some (pc + 1, L, r, h1)
        | none => none
      | _ => none
    | _ => none) = some (pc1, L1, S1, h1) := hi
  split at hi
  · rename_i v x a r hz
    split at hi
    · rename_i vv hvv
      split at hi
      · rename_i h2 hv
        cases hi
        obtain ⟨vs, hx, h0, hlt, ha, rfl⟩ := mj_ast_spec hv
        obtain ⟨cell, g1, g2, g3, g4, g5, g6, g7⟩ := hP.arr hx
        have hcl := (g7 ha).cls
        have hvm := (g7 ha).vm
        rcases hP.1 v _ hvv with ⟨r0, k4, k5, cellV, q1, q2, q3, q4⟩ | ⟨k4, -⟩
        · have hr : r0 = ("PassChain$Part", T, N) := Option.some.inj (k4.symm.trans hc)
          subst hr
          have hcls := (hK.1 3 _ hc).2
          obtain ⟨kA, comp, y1, y2, y3, -⟩ := (hK.2 4 _ rfl).2
          have hcomp : comp = F.D.1 3 := Option.some.inj (y3.symm.trans hcls.1)
          subst hcomp
          obtain ⟨kC, hkC, -⟩ := hcls.2
          refine W.aast hexec hb g1 (fun q hq => by rw [hvm] at hq; cases hq) g3 (by rw [hcl]; exact y1) y2 rfl hkC ⟨h0, by rw [g4]; exact hlt⟩ q1 (fun q hq => by rw [q3] at hq; cases hq) (by rw [q2]; exact hkC) (by rw [q2]; exact va_assign hcls) rfl rfl hdg fun H2 e1 e2 e3 => ?_
          exact mj_Kt.goS kk hx (List.length_set ..) (hP.ast hF ha g2 g6 g7 e1 e2 e3) hL (mj_lo_add hF hlo ha) rfl
        · rw [hc] at k4
          cases k4
      · cases hi
    · cases hi
  · cases hi
end MJA
