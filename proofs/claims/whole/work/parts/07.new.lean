/-! objects and arrays are made -/
section MJN
variable {p : Program} {l : Launch} {e : Env} {R : Room} {s : State} {m : MethodId} {args : Array Value} {below : List Frame} {meth : Method} {c : Code} {H : Heap} {locs : List Loc} {cells slots : Nat} {Q : State → Prop}
variable {cc : ByteArray} {pc len pc1 : Nat} {ls : Array Slot} {F : mj_F} {P : mj_Pr} {L L1 : mj_L} {S S1 : List Value} {h h1 : mj_H}
theorem mj_P.app (hF : F.ok) (hP : mj_P F s h H) {xs : mj_H} {H1 : Heap} (hat : ∀ (j : Nat) (x : mj_C), xs[j]? = some x → mj_at F s (h.length + j) x H1) (hz : H1.size = H.size + xs.length) (oq : ∀ q : Nat, q < H.size → H1[q]? = H[q]?) : mj_P F s (h ++ xs) H1 := by
  refine ⟨fun k y hk => ?_, by rw [hz, List.length_append, hP.2.1]; have := hP.2.2.1; omega, by rw [List.length_append]; have := hP.2.2.1; omega, fun q hq => by
    have := hP.2.1
    rw [oq q (by omega)]
    exact hP.2.2.2 q hq⟩
  by_cases e : k < h.length
  · rw [List.getElem?_append_left e] at hk
    exact (hP.1 k y hk).kept (oq _ (mj_ad_lt hF hP e))
  · rw [List.getElem?_append_right (by omega)] at hk
    have := hat (k - h.length) y hk
    rwa [show h.length + (k - h.length) = k by omega] at this
theorem mj_ad_newj (hF : F.ok) (hP : mj_P F s h H) (j : Nat) : F.ad (h.length + j) = H.size + j := by
  have := hF.1 (h.length + j) (by have := hP.2.2.1; omega)
  have := hP.2.1
  have := hP.2.2.1
  omega
theorem mjo_new (hF : F.ok) (hexec : p.tables.exec = Jvm.exec) (hb : c.code = cc) (hP : mj_P F s h H) (hL : mj_Lr F.ad L ls) (hlo : ∀ q ∈ locs, F.base ≤ q.base) {idx N ci : Nat} {own C : String} {T : u_T} {tb : List Cond} {tys : List (ClassId × FieldType)} (hts : ∀ w ∈ tb, w.before args s = true) (hin : ∀ w ∈ u_ws C T N, w ∈ tb) (ty0 : Nat → FieldType) (hty : ∀ k, k < N → parseFieldDescriptor (T k).2.2.1 = some (ty0 k)) (hown : s.vm.findClass own = some m.cls) (hcl : (Cond.classLink own idx C).before args s = true) (hinst : (Cond.instantiable C N).before args s = true) (hini : (Cond.initialized C).before args s = true) (hK : va_K F.D F.cl tys s) (hc : F.cl[ci]? = some (C, T, N)) (hci : ci < 100) (hdl : (P.dfl ci).length = N) (hdf : ∀ j, j < N → defaultValue (ty0 j) = vp_V (P.dfl ci) j) (hdr : (P.dfl ci).map F.cv = P.dfl ci)
    (hrc : cells + (h1.length - h.length) ≤ R.cells) (hrs : slots + (mj_sl h1 - mj_sl h) ≤ R.slots) (hdg : decode cc pc = .ok (.new idx, len)) (hlen : len = 3) (hi : mj_i P F.nT (.new ci) (pc + len) L S h = some (pc1, L1, S1, h1)) (kk : mj_Kt p l e R s m args below meth c F Q h L.length cells slots pc1 L1 S1 h1) : W p l e R s m args below meth c H locs cells slots Q (F0 m pc ls (S.map F.cv)) := by
  subst hlen
  cases (show some _ = some (pc1, L1, S1, h1) from hi)
  have e1 : (h ++ [((false, ci, P.dfl ci) : mj_C)]).length - h.length = 1 := by simp
  have e2 : mj_sl (h ++ [((false, ci, P.dfl ci) : mj_C)]) - mj_sl h = N := by
    rw [mj_sl_app]
    simp only [mj_sl, if_neg (show ¬ 100 ≤ ci by omega), hdl]
    omega
  rw [e1] at hrc
  rw [e2] at hrs
  have hKn := hK.1 ci _ hc
  refine W.newcK hexec hb hown hcl hinst hini rfl hdg hrc hrs hKn.2.1 rfl fun H1 kC hkC g1 g2 g3 => ?_
  have had := mj_ad_new hF hP
  have k := kk H1 locs ls (hP.push hF (Or.inl ⟨_, hc, hdl, ?_⟩) g2 g3) hL hlo rfl
  · rw [e1, e2] at k
    have e3 : (Value.ref h.length :: S).map F.cv = .ref H.size :: S.map F.cv := by
      show Value.ref (F.ad h.length) :: _ = _
      rw [had]
    rw [e3] at k
    exact k
  · rw [had, hdr]
    exact t_OB.to (u_born ty0 hts hin hKn hkC g1 hty) hdf
theorem mjo_newarray (hF : F.ok) (hexec : p.tables.exec = Jvm.exec) (hb : c.code = cc) (hP : mj_P F s h H) (hL : mj_Lr F.ad L ls) (hlo : ∀ q ∈ locs, F.base ≤ q.base) {a : ArrayType} (harr : (Cond.arrayClass (newarray.typeOf a)).before args s = true) (hty : newarray.typeOf a = mj_ty (mj_kind a)) (hA : ArrOfT s (F.dA (mj_kind a)) (mj_ty (mj_kind a))) (hRA : s.vm.findClass ("[" ++ (newarray.typeOf a).toString) = some (F.dA (mj_kind a))) (hbt : componentBytes (newarray.typeOf a) ≤ 8) (hdv : defaultValue (newarray.typeOf a) = mj_dv (mj_kind a)) (hdc : F.cv (mj_dv (mj_kind a)) = mj_dv (mj_kind a))
    (hrc : cells + (h1.length - h.length) ≤ R.cells) (hrs : slots + (mj_sl h1 - mj_sl h) ≤ R.slots) (hdg : decode cc pc = .ok (.newarray a, len)) (hlen : len = 2) (hi : mj_i P F.nT (.newarray a) (pc + len) L S h = some (pc1, L1, S1, h1)) (kk : mj_Kt p l e R s m args below meth c F Q h L.length cells slots pc1 L1 S1 h1) : W p l e R s m args below meth c H locs cells slots Q (F0 m pc ls (S.map F.cv)) := by
  subst hlen
  have hi : (match (generalizing := false) S with
    | .int n :: r => if ¬ n < 0 ∧ n.toNatClampNeg ≤ 1000000 then some (pc + 2, L, .ref h.length :: r, h ++ [(true, mj_kind a, List.replicate n.toNatClampNeg (mj_dv (mj_kind a)))]) else none
    | _ => none) = some (pc1, L1, S1, h1) := hi
  split at hi
  · rename_i n r hz
    split at hi
    · rename_i hn
      cases hi
      have e1 : (h ++ [((true, mj_kind a, List.replicate n.toNatClampNeg (mj_dv (mj_kind a))) : mj_C)]).length - h.length = 1 := by simp
      have e2 : mj_sl (h ++ [((true, mj_kind a, List.replicate n.toNatClampNeg (mj_dv (mj_kind a))) : mj_C)]) - mj_sl h = n.toNatClampNeg := by
        rw [mj_sl_app]
        simp only [mj_sl, List.length_replicate]
        omega
      rw [e1] at hrc
      rw [e2] at hrs
      refine va_newaK hexec hb harr rfl hdg rfl hn.1 rfl ?_ hrc hrs rfl fun H1 cA g1 g2 g3 g4 g5 => ?_
      · have : n.toNatClampNeg * componentBytes (newarray.typeOf a) ≤ 1000000 * 8 := Nat.mul_le_mul hn.2 hbt
        omega
      have hcA : cA = F.dA (mj_kind a) := Option.some.inj (g5.symm.trans hRA)
      subst hcA
      have had := mj_ad_new hF hP
      have k := kk H1 locs ls (hP.push hF ⟨arrV (F.dA (mj_kind a)) n.toNatClampNeg (fun _ => defaultValue (newarray.typeOf a)), by rw [had]; exact g1, hA _ _, (fun z => by cases z), ?_, fun _ => rfl⟩ g2 g3) hL hlo rfl
      · rw [e1, e2] at k
        have e3 : (Value.ref h.length :: r).map F.cv = .ref H.size :: r.map F.cv := by
          show Value.ref (F.ad h.length) :: _ = _
          rw [had]
        rw [e3] at k
        exact k
      · rw [← arrV_new, hdv]
        simp [hdc]
    · cases hi
  · cases hi
theorem mjo_anewarray (hF : F.ok) (hexec : p.tables.exec = Jvm.exec) (hb : c.code = cc) (hP : mj_P F s h H) (hL : mj_Lr F.ad L ls) (hlo : ∀ q ∈ locs, F.base ≤ q.base) {own : String} {idx : Nat} (hown : s.vm.findClass own = some m.cls) (hcl : (Cond.classLink own idx "PassChain$Part").before args s = true) (hover : (Cond.arrayOver (.object "PassChain$Part")).before args s = true) (hK : va_K F.D F.cl (mj_tys F.dA) s)
    (hrc : cells + (h1.length - h.length) ≤ R.cells) (hrs : slots + (mj_sl h1 - mj_sl h) ≤ R.slots) (hdg : decode cc pc = .ok (.anewarray idx, len)) (hlen : len = 3) (hi : mj_i P F.nT (.anewarray 6) (pc + len) L S h = some (pc1, L1, S1, h1)) (kk : mj_Kt p l e R s m args below meth c F Q h L.length cells slots pc1 L1 S1 h1) : W p l e R s m args below meth c H locs cells slots Q (F0 m pc ls (S.map F.cv)) := by
  subst hlen
  have hi : (match (generalizing := false) S with
    | .int n :: r => if ¬ n < 0 ∧ n.toNatClampNeg ≤ 1000000 then some (pc + 3, L, .ref h.length :: r, h ++ [(true, 6, List.replicate n.toNatClampNeg .null)]) else none
    | _ => none) = some (pc1, L1, S1, h1) := hi
  split at hi
  · rename_i n r hz
    split at hi
    · rename_i hn
      cases hi
      have e1 : (h ++ [((true, 6, List.replicate n.toNatClampNeg .null) : mj_C)]).length - h.length = 1 := by simp
      have e2 : mj_sl (h ++ [((true, 6, List.replicate n.toNatClampNeg .null) : mj_C)]) - mj_sl h = n.toNatClampNeg := by
        rw [mj_sl_app]
        simp only [mj_sl, List.length_replicate]
        omega
      rw [e1] at hrc
      rw [e2] at hrs
      refine W.anew hexec hb hown hcl hover rfl hdg rfl hn.1 (by omega) hrc hrs fun cA kA comp g1 g2 g3 g4 => ?_
      obtain ⟨hA, kA2, comp2, y1, y2, y3, y4⟩ := hK.2 4 _ rfl
      have hcA : cA = F.dA 6 := Option.some.inj (g1.symm.trans y4)
      subst hcA
      have had := mj_ad_new hF hP
      have k := kk (H.push { cls := F.dA 6, slots := Array.replicate n.toNatClampNeg .null, vm := .none }) locs ls (hP.push hF ⟨{ cls := F.dA 6, slots := Array.replicate n.toNatClampNeg .null, vm := .none }, by rw [had]; simp, by rw [arrV_new]; exact hA _ _, (fun z => by cases z), ?_, fun _ => rfl⟩ (by simp) (fun q hq => by rw [Array.getElem?_push_lt hq, Array.getElem?_eq_getElem hq])) hL hlo rfl
      · rw [e1, e2] at k
        have e3 : (Value.ref h.length :: r).map F.cv = .ref H.size :: r.map F.cv := by
          show Value.ref (F.ad h.length) :: _ = _
          rw [had]
        rw [e3] at k
        exact k
      · simp [mj_cv]
    · cases hi
  · cases hi
theorem mj_outer (ca : ClassId) (N h0 : Nat) : ∀ i : Nat, (Jvm.Free.Multi.outerC ca N h0 i).slots.toList = (List.range N).map (fun j => if j < i then Value.ref (h0 + 1 + j) else .null)
  | 0 => by
    show (Array.replicate N Value.null).toList = _
    apply List.ext_getElem
    · simp
    · intro j h1 h2
      simp
  | i + 1 => by
    show ((Jvm.Free.Multi.outerC ca N h0 i).slots.setIfInBounds i (Value.ref (h0 + 1 + i))).toList = _
    rw [Array.toList_setIfInBounds, mj_outer ca N h0 i]
    apply List.ext_getElem
    · simp
    · intro j h1 h2
      simp only [List.getElem_set, List.getElem_map, List.getElem_range]
      by_cases e : i = j
      · subst e
        simp
      · rw [if_neg e]
        by_cases f : j < i
        · rw [if_pos f, if_pos (by omega)]
        · rw [if_neg f, if_neg (by omega)]
theorem mj_plo (ca : ClassId) (N h0 : Nat) : ∀ i : Nat, mj_pl (Jvm.Free.Multi.outerC ca N h0 i) ca
  | 0 => rfl
  | i + 1 => (mj_plo ca N h0 i).set _ _
theorem mj_sl_rep (x : mj_C) : ∀ n : Nat, mj_sl (List.replicate n x) = n * mj_sl [x]
  | 0 => by simp [mj_sl]
  | n + 1 => by
    rw [List.replicate_succ, show x :: List.replicate n x = [x] ++ List.replicate n x from rfl, mj_sl_app, mj_sl_rep x n, Nat.succ_mul, Nat.add_comm]
theorem mjo_multi (hF : F.ok) (hexec : p.tables.exec = Jvm.exec) (hb : c.code = cc) (hP : mj_P F s h H) (hL : mj_Lr F.ad L ls) (hlo : ∀ q ∈ locs, F.base ≤ q.base) {own : String} {idx o t : Nat} (ho : o / 16 = t + 7) (hi2 : o % 16 = t) (hty : mj_ty (t + 7) = .array (mj_ty t)) (hown : s.vm.findClass own = some m.cls) (hcl : (Cond.classLink own idx ("[" ++ (FieldType.array (mj_ty t)).toString)).before args s = true) (hover : (Cond.arrayOver (.array (mj_ty t))).before args s = true) (harr : (Cond.arrayClass (mj_ty t)).before args s = true)
    (hRO : s.vm.findClass ("[" ++ (FieldType.array (mj_ty t)).toString) = some (F.dA (t + 7))) (hRI : s.vm.findClass (FieldType.array (mj_ty t)).toString = some (F.dA t)) (hbt : componentBytes (mj_ty t) ≤ 8) (hdv : defaultValue (mj_ty t) = mj_dv t) (hdc : F.cv (mj_dv t) = mj_dv t) (hdf : fits (mj_ty t) (defaultValue (mj_ty t)) = true) (hdd : (defaultValue (mj_ty t)).isDefault = true)
    (hrc : cells + (h1.length - h.length) ≤ R.cells) (hrs : slots + (mj_sl h1 - mj_sl h) ≤ R.slots) (hdg : decode cc pc = .ok (.multianewarray idx 2, len)) (hlen : len = 4) (hi : mj_i P F.nT (.multianewarray o 2) (pc + len) L S h = some (pc1, L1, S1, h1)) (kk : mj_Kt p l e R s m args below meth c F Q h L.length cells slots pc1 L1 S1 h1) : W p l e R s m args below meth c H locs cells slots Q (F0 m pc ls (S.map F.cv)) := by
  subst hlen
  have hi : (match (generalizing := false) S with
    | .int m :: .int n :: r => if ¬ n < 0 ∧ n.toNatClampNeg ≤ 1000 ∧ ¬ m < 0 ∧ m.toNatClampNeg ≤ 1000 then some (pc + 4, L, .ref h.length :: r, h ++ (true, o / 16, (List.range n.toNatClampNeg).map (fun j => .ref (h.length + 1 + j))) :: List.replicate n.toNatClampNeg (true, o % 16, List.replicate m.toNatClampNeg (mj_dv (o % 16)))) else none
    | _ => none) = some (pc1, L1, S1, h1) := hi
  rw [ho, hi2] at hi
  split at hi
  · rename_i k n r hz
    split at hi
    · rename_i hn
      cases hi
      generalize hxs : ((true, t + 7, (List.range n.toNatClampNeg).map (fun j => Value.ref (h.length + 1 + j))) : mj_C) :: List.replicate n.toNatClampNeg (true, t, List.replicate k.toNatClampNeg (mj_dv t)) = xs at kk hrc hrs
      have el : xs.length = 1 + n.toNatClampNeg := by rw [← hxs]; simp; omega
      have e1 : (h ++ xs).length - h.length = 1 + n.toNatClampNeg := by rw [List.length_append, el]; omega
      have e2 : mj_sl (h ++ xs) - mj_sl h = n.toNatClampNeg + n.toNatClampNeg * k.toNatClampNeg := by
        rw [mj_sl_app, ← hxs, mj_sl, mj_sl_rep]
        simp [mj_sl]
      rw [e1] at hrc
      rw [e2] at hrs
      have hb2 : k.toNatClampNeg * componentBytes (mj_ty t) ≤ 1000 * 8 := Nat.mul_le_mul hn.2.2.2 hbt
      intro T hT Xs
      obtain ⟨vm₁, cA, comp, -, fA, fC, hO, hI, X', step⟩ := Xs.multianewarray2F hexec hown hcl hover harr (g := F0 m pc ls (.int k :: .int n :: r.map F.cv)) rfl (by rw [hb]; exact hdg) rfl hn.1 hn.2.2.1 (by omega) (by omega) (by omega) hdf hdd hrc hrs
      have ec : comp = F.dA t := Option.some.inj (fC.symm.trans hRI)
      have eo : cA = F.dA (t + 7) := Option.some.inj (fA.symm.trans hRO)
      subst ec
      subst eo
      have hTh : (T.setVm vm₁).heap = H := hT
      obtain ⟨f1, f2, -, -⟩ := Jvm.Free.Multi.fill_facts (T.setVm vm₁) (F.dA (t + 7)) (F.dA t) n.toNatClampNeg k.toNatClampNeg (defaultValue (mj_ty t)) n.toNatClampNeg
      have hold : ∀ x : Nat, x < H.size → (Jvm.Free.Multi.fill (T.setVm vm₁) (F.dA (t + 7)) (F.dA t) n.toNatClampNeg k.toNatClampNeg (defaultValue (mj_ty t)) n.toNatClampNeg).heap[x]? = H[x]? := fun x hx => by
        have := Jvm.Free.Multi.fill_old (T.setVm vm₁) (F.dA (t + 7)) (F.dA t) n.toNatClampNeg k.toNatClampNeg (defaultValue (mj_ty t)) (a := x) (by rw [hTh]; exact hx) n.toNatClampNeg
        rw [hTh] at this
        exact this
      have hrow := Jvm.Free.Multi.fill_inner (T.setVm vm₁) (F.dA (t + 7)) (F.dA t) n.toNatClampNeg k.toNatClampNeg (defaultValue (mj_ty t)) n.toNatClampNeg
      rw [hTh] at f1 f2 hrow
      generalize Jvm.Free.Multi.fill (T.setVm vm₁) (F.dA (t + 7)) (F.dA t) n.toNatClampNeg k.toNatClampNeg (defaultValue (mj_ty t)) n.toNatClampNeg = G at X' step f1 f2 hold hrow
      have hP1 : mj_P F s (h ++ xs) G.heap := by
        refine hP.app hF (fun j x hx => ?_) (by rw [f1, el]; omega) hold
        rw [← hxs] at hx
        cases j with
        | zero =>
          cases hx
          refine ⟨_, by rw [mj_ad_newj hF hP]; exact f2, by rw [hty]; exact (hO _ _ _).1, (hO _ _ _).2, ?_, fun _ => mj_plo _ _ _ _⟩
          rw [mj_outer, List.map_map]
          apply List.map_congr_left
          intro j hj
          rw [if_pos (List.mem_range.mp hj)]
          show _ = Value.ref (F.ad (h.length + 1 + j))
          rw [show h.length + 1 + j = h.length + (1 + j) by omega, mj_ad_newj hF hP, ← Nat.add_assoc]
        | succ j =>
          rw [List.getElem?_cons_succ, List.getElem?_replicate] at hx
          split at hx
          · rename_i hj
            cases hx
            refine ⟨_, by rw [mj_ad_newj hF hP, show H.size + (j + 1) = H.size + 1 + j by omega]; exact hrow j hj, (hI _ _).1, (hI _ _).2, ?_, fun _ => rfl⟩
            show (Array.replicate k.toNatClampNeg (defaultValue (mj_ty t))).toList = _
            rw [hdv]
            simp [hdc]
          · cases hx
      have k9 := kk G.heap locs ls hP1 hL hlo rfl
      rw [e1, e2] at k9
      have e3 : (Value.ref h.length :: r).map F.cv = .ref H.size :: r.map F.cv := by
        show Value.ref (F.ad h.length) :: _ = _
        rw [mj_ad_new hF hP]
      rw [e3] at k9
      obtain ⟨t9, a1, b1⟩ := k9 G rfl (by rw [← Nat.add_assoc, ← Nat.add_assoc]; exact X')
      refine ⟨t9, step t9 ?_, b1⟩
      have e : T.heap.size = H.size := by rw [hT]
      rw [e]
      exact a1
    · cases hi
  · cases hi
end MJN
