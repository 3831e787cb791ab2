/-! switches, fields, arrays -/
theorem mj_sw_off (pc : Nat) : ∀ (ps : List (Int × Int)) (d x : Int), mj_sw (ps.map (fun q => (q.1, (pc : Int) + q.2))) ((pc : Int) + d) x = (pc : Int) + Op.lookupswitch.offset ps d x
  | [], d, x => rfl
  | (a, o) :: r, d, x => by
    rw [Op.lookupswitch.offset_cons, List.map_cons, mj_sw, mj_sw_off pc r d x]
    by_cases h : a = x
    · rw [if_pos h, if_pos h]
    · rw [if_neg h, if_neg h]
theorem mj_sw_nn : ∀ (ps : List (Int × Int)) (d x : Int), 0 ≤ d → (∀ q ∈ ps, 0 ≤ q.2) → 0 ≤ mj_sw ps d x
  | [], d, x, hd, _ => hd
  | (a, t) :: r, d, x, hd, hp => by
    rw [mj_sw]
    split
    · exact hp (a, t) List.mem_cons_self
    · exact mj_sw_nn r d x hd (fun q hq => hp q (List.mem_cons_of_mem _ hq))
/-- which values a field or an array takes -/
def mj_fk (ty : FieldType) : Nat := match ty with
  | .int => 0
  | .long => 1
  | .char => 2
  | .boolean => 3
  | .object _ => 6
  | .array _ => 6
  | _ => 9
theorem mj_fit_ok {ty : FieldType} {v : Value} (ad : Nat → Nat) (h : mj_fit (mj_fk ty) v = true) : fits ty (mj_cv ad v) = true := by
  cases ty <;> cases v <;> simp_all [mj_fit, mj_fk, fits, mj_cv]
section MJH
variable {p : Program} {l : Launch} {e : Env} {R : Room} {s : State} {m : MethodId} {args : Array Value} {below : List Frame} {meth : Method} {c : Code} {H : Heap} {locs : List Loc} {cells slots : Nat} {Q : State → Prop}
variable {cc : ByteArray} {pc len pc1 : Nat} {ls : Array Slot} {F : mj_F} {P : mj_Pr} {L L1 : mj_L} {S S1 : List Value} {h h1 : mj_H}
theorem mjo_tableswitch (hexec : p.tables.exec = Jvm.exec) (hb : c.code = cc) (hP : mj_P F s h H) (hL : mj_Lr F.ad L ls) (hlo : ∀ q ∈ locs, F.base ≤ q.base) {d d0 lo hi2 : Int} {ts os : Array Int} (hd : (pc : Int) + d0 = d) (hdn : 0 ≤ d) (hts : ts.toList = os.toList.map (fun o => (pc : Int) + o)) (hnn : ∀ t ∈ ts.toList, 0 ≤ t) (hdg : decode cc pc = .ok (.tableswitch d0 lo hi2 os, len)) (hi : mj_i P F.nT (.tableswitch d lo hi2 ts) (pc + len) L S h = some (pc1, L1, S1, h1)) (kk : mj_Kt p l e R s m args below meth c F Q h L.length cells slots pc1 L1 S1 h1) : W p l e R s m args below meth c H locs cells slots Q (F0 m pc ls (S.map F.cv)) := by
  have hi : (match (generalizing := false) S with
    | .int x :: r => if x.toInt < lo ∨ hi2 < x.toInt then some (d.toNat, L, r, h) else match ts[(x.toInt - lo).toNat]? with
      | some t => some (t.toNat, L, r, h)
      | none => none
    | _ => none) = some (pc1, L1, S1, h1) := hi
  split at hi
  · rename_i x r hz
    split at hi
    · rename_i hx
      cases hi
      exact lv_tableOut (tgt := d.toNat) hexec hb hdg hx (by omega) (kk.go hP hL hlo rfl)
    · rename_i hx
      split at hi
      · rename_i t ht
        cases hi
        have ht2 : ts.toList[(x.toInt - lo).toNat]? = some t := by simpa using ht
        have h0 : 0 ≤ t := hnn t (List.mem_of_getElem? ht2)
        rw [hts, List.getElem?_map] at ht2
        obtain ⟨o, ho, hot⟩ := Option.map_eq_some_iff.mp ht2
        exact lv_tableIn (tgt := t.toNat) hexec hb hdg (fun q => hx (Or.inl q)) (fun q => hx (Or.inr q)) (off := o) (by simpa using ho) (by omega) (kk.go hP hL hlo rfl)
      · cases hi
  · cases hi
theorem mjo_lookupswitch (hexec : p.tables.exec = Jvm.exec) (hb : c.code = cc) (hP : mj_P F s h H) (hL : mj_Lr F.ad L ls) (hlo : ∀ q ∈ locs, F.base ≤ q.base) {d d0 : Int} {ts os : Array (Int × Int)} (hd : (pc : Int) + d0 = d) (hdn : 0 ≤ d) (hts : ts.toList = os.toList.map (fun q => (q.1, (pc : Int) + q.2))) (hnn : ∀ t ∈ ts.toList, 0 ≤ t.2) (hsrt : (os.toList.zip (os.toList.drop 1)).all (fun (a, next) => a.1 < next.1) = true) (hdg : decode cc pc = .ok (.lookupswitch d0 os, len)) (hi : mj_i P F.nT (.lookupswitch d ts) (pc + len) L S h = some (pc1, L1, S1, h1)) (kk : mj_Kt p l e R s m args below meth c F Q h L.length cells slots pc1 L1 S1 h1) : W p l e R s m args below meth c H locs cells slots Q (F0 m pc ls (S.map F.cv)) := by
  have hi : (match (generalizing := false) S with
    | .int x :: r => some ((mj_sw ts.toList d x.toInt).toNat, L, r, h)
    | _ => none) = some (pc1, L1, S1, h1) := hi
  split at hi
  · rename_i x r hz
    cases hi
    have h0 := mj_sw_nn ts.toList d x.toInt hdn hnn
    have h2 : mj_sw ts.toList d x.toInt = (pc : Int) + Op.lookupswitch.offset os.toList d0 x.toInt := by rw [hts, ← hd, mj_sw_off]
    exact lv_lookup (tgt := (mj_sw ts.toList d x.toInt).toNat) hexec hb hdg hsrt rfl (by omega) (kk.go hP hL hlo rfl)
  · cases hi
theorem mj_get_spec {a ci j : Nat} {v : Value} (hg : mj_get h a ci j = some v) : ∃ vs : List Value, h[a]? = some (false, ci, vs) ∧ vs[j]? = some v := by
  unfold mj_get at hg
  split at hg
  · rename_i u vs hx
    split at hg
    · rename_i hu
      subst hu
      exact ⟨vs, hx, hg⟩
    · cases hg
  · cases hg
theorem mj_put_spec {nT a ci j : Nat} {v : Value} (hg : mj_put nT h a ci j v = some h1) : ∃ vs : List Value, h[a]? = some (false, ci, vs) ∧ j < vs.length ∧ nT ≤ a ∧ h1 = h.set a (false, ci, vs.set j v) := by
  unfold mj_put at hg
  split at hg
  · rename_i u vs hx
    split at hg
    · rename_i hu
      obtain ⟨rfl, h2, h3⟩ := hu
      exact ⟨vs, hx, h2, h3, (Option.some.inj hg).symm⟩
    · cases hg
  · cases hg
theorem mj_vpV {vs : List Value} {j : Nat} {v : Value} (hv : vs[j]? = some v) : vp_V (vs.map F.cv) j = F.cv v := by
  simp [vp_V, hv]
theorem mjo_getfield (hexec : p.tables.exec = Jvm.exec) (hb : c.code = cc) (hP : mj_P F s h H) (hL : mj_Lr F.ad L ls) (hlo : ∀ q ∈ locs, F.base ≤ q.base) {n idx N : Nat} {own C : String} {T : u_T} {tb : List Cond} {tys : List (ClassId × FieldType)} (hts : ∀ w ∈ tb, w.before args s = true) (hin : ∀ w ∈ u_ws C T N, w ∈ tb) (hown : s.vm.findClass own = some m.cls) (hK : va_K F.D F.cl tys s) (hc : F.cl[n / 128]? = some (C, T, N)) (hk : n % 128 < N) (hlink : (Cond.fieldLink own idx (T (n % 128)).1 (T (n % 128)).2.1 (T (n % 128)).2.2.1).before args s = true) (hdg : decode cc pc = .ok (.getfield idx, len)) (hlen : len = 3) (hi : mj_i P F.nT (.getfield n) (pc + len) L S h = some (pc1, L1, S1, h1)) (kk : mj_Kt p l e R s m args below meth c F Q h L.length cells slots pc1 L1 S1 h1) : W p l e R s m args below meth c H locs cells slots Q (F0 m pc ls (S.map F.cv)) := by
  subst hlen
  have hi : (match (generalizing := false) S with
    | .ref a :: r => match mj_get h a (n / 128) (n % 128) with
      | some v => some (pc + 3, L, v :: r, h)
      | none => none
    | _ => none) = some (pc1, L1, S1, h1) := hi
  split at hi
  · rename_i a r hz
    split at hi
    · rename_i v hg
      cases hi
      obtain ⟨vs, h2, h3⟩ := mj_get_spec hg
      rcases hP.1 a _ h2 with ⟨r0, g1, g2, cell, q1, q2, q3, q4⟩ | ⟨g1, -⟩
      · have hr : r0 = (C, T, N) := Option.some.inj (g1.symm.trans hc)
        subst hr
        obtain ⟨hS, hfc, kC, hkC, hkind⟩ := hK.1 _ _ hc
        obtain ⟨cf, kf, fi, f, hf, hsl⟩ := hS _ hk
        refine W.getf hexec hb hown hlink hf (u_facts hfc hkC (u_lays hts hin hk) hf).1 q1 (by rw [q3]; exact fun z => by cases z) (v := F.cv v) ?_ rfl rfl hdg (kk.go hP hL hlo rfl)
        rw [hsl, q4 _ hk, mj_vpV h3]
      · rw [hc] at g1
        cases g1
    · cases hi
  · cases hi
/-- behind a store into an object -/
theorem mj_P.put (hF : F.ok) (hP : mj_P F s h H) {a ci j N : Nat} {vs : List Value} {v : Value} {C : String} {T : u_T} {H2 : Heap} {cell : Cell} (hc : F.cl[ci]? = some (C, T, N)) (ha : F.nT ≤ a) (hl : vs.length = N) (hj : j < vs.length) (hap : ∀ x y, x < N → y < N → x ≠ y → F.D.2 ci x ≠ F.D.2 ci y)
    (q2 : cell.cls = F.D.1 ci) (q3 : cell.vm = .none) (q4 : ∀ k, k < N → cell.slots[F.D.2 ci k]? = some (vp_V (vs.map F.cv) k)) (e1 : H2[F.ad a]? = some (cell.setSlot (F.D.2 ci j) (F.cv v))) (e2 : H2.size = H.size) (e3 : ∀ q, q ≠ F.ad a → H2[q]? = H[q]?) : mj_P F s (h.set a (false, ci, vs.set j v)) H2 := by
  refine hP.set hF ha (Or.inl ⟨_, hc, by rw [List.length_set]; exact hl, ?_⟩) e2 e3
  refine t_OB.to (V := updV (vp_V (vs.map F.cv)) j (F.cv v)) ⟨_, e1, q2, q3, t_set q4 hap (by omega) (F.cv v)⟩ (fun k _ => ?_)
  rw [vp_updV_set (by rw [List.length_map]; exact hj), ← List.map_set]
theorem mj_sl_set : ∀ (h : mj_H) (a : Nat) (b : Bool) (t : Nat) (vs ws : List Value), h[a]? = some (b, t, vs) → ws.length = vs.length → mj_sl (h.set a (b, t, ws)) = mj_sl h
  | [], a, b, t, vs, ws, hx, _ => by simp at hx
  | x :: r, 0, b, t, vs, ws, hx, hl => by
    simp only [List.getElem?_cons_zero, Option.some.injEq] at hx
    subst hx
    cases b <;> simp [mj_sl, hl]
  | (true, u, us) :: r, a + 1, b, t, vs, ws, hx, hl => by
    rw [List.set_cons_succ, mj_sl, mj_sl, mj_sl_set r a b t vs ws hx hl]
  | (false, u, us) :: r, a + 1, b, t, vs, ws, hx, hl => by
    rw [List.set_cons_succ, mj_sl, mj_sl, mj_sl_set r a b t vs ws hx hl]
theorem mj_Kt.goS {nL a t : Nat} {b : Bool} {vs ws : List Value} (kk : mj_Kt p l e R s m args below meth c F Q h nL cells slots pc1 L1 S1 (h.set a (b, t, ws))) (hx : h[a]? = some (b, t, vs)) (hw : ws.length = vs.length) (hP : mj_P F s (h.set a (b, t, ws)) H) (hL : mj_Lr F.ad L1 ls) (hlo : ∀ q ∈ locs, F.base ≤ q.base) (hn : L1.length = nL) : W p l e R s m args below meth c H locs cells slots Q (F0 m pc1 ls (S1.map F.cv)) := by
  have k := kk H locs ls hP hL hlo hn
  rwa [List.length_set, mj_sl_set h a b t vs ws hx hw, Nat.sub_self, Nat.sub_self, Nat.add_zero, Nat.add_zero] at k
theorem mj_lo_add (hF : F.ok) (hlo : ∀ q ∈ locs, F.base ≤ q.base) {a j : Nat} (ha : F.nT ≤ a) : ∀ q ∈ locs ++ [(⟨F.ad a, j⟩ : Loc)], F.base ≤ q.base := by
  intro q hq
  rcases List.mem_append.mp hq with z | z
  · exact hlo q z
  · rw [List.mem_singleton.mp z]
    have := hF.1 a ha
    show F.base ≤ F.ad a
    omega
theorem mjo_putfield (hF : F.ok) (hexec : p.tables.exec = Jvm.exec) (hb : c.code = cc) (hP : mj_P F s h H) (hL : mj_Lr F.ad L ls) (hlo : ∀ q ∈ locs, F.base ≤ q.base) {n idx N ci j : Nat} {own C : String} {T : u_T} {tb : List Cond} {tys : List (ClassId × FieldType)} (hts : ∀ w ∈ tb, w.before args s = true) (hin : ∀ w ∈ u_ws C T N, w ∈ tb) (ty0 : Nat → FieldType) (hty : ∀ k, k < N → parseFieldDescriptor (T k).2.2.1 = some (ty0 k)) (hnm : ∀ a, a < N → ∀ b, b < N → a ≠ b → (T a).2.1 ≠ (T b).2.1) (hown : s.vm.findClass own = some m.cls) (hK : va_K F.D F.cl tys s) (hn1 : n / 16 / 128 = ci) (hn2 : n / 16 % 128 = j) (hc : F.cl[ci]? = some (C, T, N)) (hk : j < N) (hfk : n % 16 = mj_fk (ty0 j)) (hlink : (Cond.fieldLink own idx (T j).1 (T j).2.1 (T j).2.2.1).before args s = true) (hfin : (T j).2.2.2 = false ∨ (meth.name = "<init>" ∧ (T j).1 = own ∧ (T j).2.2.2 = true)) (hdg : decode cc pc = .ok (.putfield idx, len)) (hlen : len = 3) (hi : mj_i P F.nT (.putfield n) (pc + len) L S h = some (pc1, L1, S1, h1)) (kk : mj_Kt p l e R s m args below meth c F Q h L.length cells slots pc1 L1 S1 h1) : W p l e R s m args below meth c H locs cells slots Q (F0 m pc ls (S.map F.cv)) := by
  subst hlen
  have hi : (match (generalizing := false) S with
    | v :: .ref a :: r => if mj_fit (n % 16) v then match mj_put F.nT h a (n / 16 / 128) (n / 16 % 128) v with
      | some h1 => some (pc + 3, L, r, h1)
      | none => none
      else none
    | _ => none) = some (pc1, L1, S1, h1) := hi
  rw [hn1, hn2, hfk] at hi
  split at hi
  · rename_i v a r hz
    split at hi
    · rename_i hfit
      split at hi
      · rename_i h2 hg
        cases hi
        obtain ⟨vs, g1, g2, g3, rfl⟩ := mj_put_spec hg
        rcases hP.1 a _ g1 with ⟨r0, g4, g5, cell, q1, q2, q3, q4⟩ | ⟨g4, -⟩
        · have hr : r0 = (C, T, N) := Option.some.inj (g4.symm.trans hc)
          subst hr
          have hap := va_apart (own := own) hts hin ty0 hty hnm hK hc
          obtain ⟨hS, hfc, kC, hkC, hkind⟩ := hK.1 _ _ hc
          obtain ⟨cf, kf, fi, f, hf, hsl⟩ := hS _ hk
          have hst := (u_facts hfc hkC (u_lays hts hin hk) hf).1
          have hlay := hts _ (hin _ (u_in_lay hk))
          unfold u_lay at hlay
          have hfi : fits (ty0 j) (F.cv v) = true := mj_fit_ok F.ad hfit
          have hna := narrow_of_fits hfi
          rcases hfin with hfin | ⟨hin2, hdecl, hfin⟩
          · rw [if_neg (by rw [hfin]; decide)] at hlay
            have h6 := u_store hfc hkC hkind hlay hf (hty j hk) hna hfi
            refine W.putK hexec hb (f := f) ⟨hown, hlink, ⟨_, _, _, hf⟩, hst⟩ (by rw [q2]; exact h6) q1 q3 (by rw [hsl]; exact k2_hasslot (q4 _ hk)) rfl rfl hdg fun H2 e1 e2 e3 => ?_
            rw [hsl] at e1 ⊢
            exact mj_Kt.goS kk g1 (List.length_set ..) (hP.put hF hc g3 g5 g2 hap q2 q3 q4 e1 e2 e3) hL (mj_lo_add hF hlo g3) rfl
          · rw [if_pos hfin] at hlay
            have hcf : m.cls = cf := by
              obtain ⟨_, _, c', _, _, _, -, -, hf', -, -, -, hown2, -⟩ := Cond.laysFinal_spec hlay
              have e1 : c' = cf := by have := hf.symm.trans hf'; simp at this; exact this.1.symm
              rw [hdecl] at hown2
              rw [← e1]; exact Option.some.inj (hown.symm.trans hown2)
            have h6 := u_fits hfc hkC hkind (Or.inr hlay) hf (hty j hk) hna hfi
            refine W.putFinK hexec hb hown hlink hf hst hcf hin2 (by rw [q2]; exact h6) q1 q3 (by rw [hsl]; exact k2_hasslot (q4 _ hk)) rfl rfl hdg fun H2 e1 e2 e3 => ?_
            rw [hsl] at e1 ⊢
            exact mj_Kt.goS kk g1 (List.length_set ..) (hP.put hF hc g3 g5 g2 hap q2 q3 q4 e1 e2 e3) hL (mj_lo_add hF hlo g3) rfl
        · rw [hc] at g4
          cases g4
      · cases hi
    · cases hi
  · cases hi
theorem mjo_getstatic (hexec : p.tables.exec = Jvm.exec) (hb : c.code = cc) (hP : mj_P F s h H) (hL : mj_Lr F.ad L ls) (hlo : ∀ q ∈ locs, F.base ≤ q.base) {k idx : Nat} {own C n d host : String} (hown : s.vm.findClass own = some m.cls) (hZ : va_Z C n d (.ref (F.ad k)) (fun q => F.base ≤ q) s F.h0) (hlink : (Cond.fieldLinkNest own idx C n d host).before args s = true) (hdg : decode cc pc = .ok (.getstatic idx, len)) (hlen : len = 3) (hi : mj_i P F.nT (.getstatic k) (pc + len) L S h = some (pc1, L1, S1, h1)) (kk : mj_Kt p l e R s m args below meth c F Q h L.length cells slots pc1 L1 S1 h1) : W p l e R s m args below meth c H locs cells slots Q (F0 m pc ls (S.map F.cv)) := by
  subst hlen
  have hi : (if k < F.nT then some (pc + 3, L, .ref k :: S, h) else none) = some (pc1, L1, S1, h1) := hi
  split at hi
  · cases hi
    obtain ⟨cf, kf, fi, f, a, cell, g1, g2, g3, g4, g5, g6, g7, g8⟩ := hZ
    exact va_WgetsN hexec hb hown hlink g1 g2 g3 g4 (by rw [hP.2.2.2 a (Nat.not_le.mp g8)]; exact g5) (fun e => by rw [e] at g6; cases g6) g7 rfl hdg (kk.go hP hL hlo rfl)
  · cases hi
end MJH
