/-! methods of the library that MJ has as its own -/
theorem mj_arrV_list (ca : ClassId) (N : Nat) (f : Nat → Value) : (arrV ca N f).slots.toList = (List.range N).map f := by
  apply List.ext_getElem?
  intro i
  rw [Array.getElem?_toList, List.getElem?_map]
  by_cases h : i < N
  · rw [arrV_read _ _ h, List.getElem?_range h]
    rfl
  · rw [List.getElem?_eq_none (by simp; omega), Array.getElem?_eq_none (by rw [arrV_size]; omega)]
    rfl
theorem mj_isArr {cell : Cell} {ca : ClassId} {vs : List Value} (h1 : mj_pl cell ca) (h3 : cell.slots.toList = vs) : cell = arrV ca vs.length (fun j => vs.getD j .null) := by
  have e : cell.slots = (arrV ca vs.length (fun j => vs.getD j .null)).slots := by
    apply Array.toList_inj.mp
    rw [mj_arrV_list, h3]
    apply List.ext_getElem?
    intro i
    rw [List.getElem?_map]
    by_cases h : i < vs.length
    · rw [List.getElem?_range h]
      simp [h]
    · rw [List.getElem?_eq_none (Nat.not_lt.mp h), List.getElem?_eq_none (by rw [List.length_range]; exact Nat.not_lt.mp h)]
      rfl
  unfold mj_pl at h1
  rw [h1, e]
  rfl
theorem mj_cpl_len {f g : List Value} {sp dp n : Nat} (h1 : sp + n ≤ f.length) (h2 : dp + n ≤ g.length) : (mj_cpl f g sp dp n).length = g.length := by
  simp [mj_cpl]
  omega
theorem mj_cpl_get {f g : List Value} {sp dp n : Nat} (h1 : sp + n ≤ f.length) (h2 : dp + n ≤ g.length) (k : Nat) : (mj_cpl f g sp dp n)[k]? = if dp ≤ k ∧ k < dp + n then f[sp + (k - dp)]? else g[k]? := by
  unfold mj_cpl
  by_cases c1 : k < dp
  · rw [if_neg (by omega), List.append_assoc, List.getElem?_append_left (by simp; omega), List.getElem?_take_of_lt c1]
  · by_cases c2 : k < dp + n
    · rw [if_pos ⟨by omega, c2⟩, List.getElem?_append_left (by simp; omega), List.getElem?_append_right (by simp; omega)]
      simp only [List.length_take]
      rw [List.getElem?_take_of_lt (by omega), List.getElem?_drop]
      congr 1
      omega
    · rw [if_neg (by omega), List.getElem?_append_right (by simp; omega), List.getElem?_drop]
      congr 1
      simp only [List.length_append, List.length_take, List.length_drop]
      omega
theorem mj_ints_at {vs : List Value} (h : mj_ints vs = true) {j : Nat} {v : Value} (hv : vs[j]? = some v) : ∃ x, v = .int x := by
  have := List.all_eq_true.mp h v (List.mem_of_getElem? hv)
  cases v <;> simp at this ⊢
theorem mj_lngs_at {vs : List Value} (h : mj_lngs vs = true) {j : Nat} {v : Value} (hv : vs[j]? = some v) : ∃ x, v = .long x := by
  have := List.all_eq_true.mp h v (List.mem_of_getElem? hv)
  cases v <;> simp at this ⊢
section MJL
variable {p : Program} {l : Launch} {e : Env} {R : Room} {s : State} {m : MethodId} {args : Array Value} {below : List Frame} {meth : Method} {c : Code} {H : Heap} {locs : List Loc} {cells slots : Nat} {Q : State → Prop}
variable {cc : ByteArray} {pc len pc1 : Nat} {ls : Array Slot} {F : mj_F} {P : mj_Pr} {L L1 : mj_L} {S S1 : List Value} {h h1 : mj_H}
theorem mj_objInit (hexec : p.tables.exec = Jvm.exec) (hb : c.code = cc) (hml : c.maxLocals = L.length) (hP : mj_P F s h H) (hL : mj_Lr F.ad L ls) (hlo : ∀ q ∈ locs, F.base ≤ q.base) {own : String} {idx a : Nat} {r : List Value} (hown : s.vm.findClass own = some m.cls) (hlink : (Cond.methodLink own idx Lib.objectInit).before args s = true) (hinst : (Cond.instanceMethod Lib.objectInit).before args s = true) (hcode : (Cond.code Lib.objectInit ⟨#[0xb1]⟩ 1 none).before args s = true) (hfr : 1 ≤ R.frames) (hlc : 64 ≤ R.locals) (hwd : mj_wd r ≤ 8) (hdg : decode cc pc = .ok (.invokespecial idx, 3)) (kk : mj_Kt p l e R s m args below meth c F Q h L.length cells slots (pc + 3) L r h) : W p l e R s m args below meth c H locs cells slots Q (F0 m pc ls ((.ref a :: r).map F.cv)) := by
  refine W.objInit hexec hb hown hlink hinst hcode rfl (hL.1.trans hml.symm) (a := F.ad a) (rest := r.map F.cv) rfl hdg hfr ?_ (kk.go hP hL hlo rfl)
  rw [mj_wd_eq]
  show 2 * 0 + _ + 12 ≤ _
  omega
theorem mj_max (hexec : p.tables.exec = Jvm.exec) (hb : c.code = cc) (hml : c.maxLocals = L.length) (hP : mj_P F s h H) (hL : mj_Lr F.ad L ls) (hlo : ∀ q ∈ locs, F.base ≤ q.base) {own : String} {idx : Nat} {x y : Int32} {r : List Value} (hown : s.vm.findClass own = some m.cls) (hlink : (Cond.methodLink own idx Lib.Math.max.name).before args s = true) (hstat : (Cond.static Lib.Math.max.name).before args s = true) (hini : (Cond.initialized "java/lang/Math").before args s = true) (hcode : (Cond.code Lib.Math.max.name Lib.Math.max.code 2 (some .int)).before args s = true) (hfr : 1 ≤ R.frames) (hlc : 64 ≤ R.locals) (hcl : cells ≤ R.cells) (hsl : slots ≤ R.slots) (hwd : mj_wd r ≤ 8) (hdg : decode cc pc = .ok (.invokestatic idx, 3)) (kk : mj_Kt p l e R s m args below meth c F Q h L.length cells slots (pc + 3) L (.int (if x < y then y else x) :: r) h) : W p l e R s m args below meth c H locs cells slots Q (F0 m pc ls ((.int y :: .int x :: r).map F.cv)) := by
  refine va_mmax hexec hb (hml.trans hL.1.symm) hown hlink hstat hini hcode hfr ?_ hcl hsl hdg (kk.go hP hL hlo rfl)
  rw [mj_wd_eq]
  omega
theorem mj_min (hexec : p.tables.exec = Jvm.exec) (hb : c.code = cc) (hml : c.maxLocals = L.length) (hP : mj_P F s h H) (hL : mj_Lr F.ad L ls) (hlo : ∀ q ∈ locs, F.base ≤ q.base) {own : String} {idx : Nat} {x y : Int32} {r : List Value} (hown : s.vm.findClass own = some m.cls) (hlink : (Cond.methodLink own idx Lib.Math.min.name).before args s = true) (hstat : (Cond.static Lib.Math.min.name).before args s = true) (hini : (Cond.initialized "java/lang/Math").before args s = true) (hcode : (Cond.code Lib.Math.min.name Lib.Math.min.code 2 (some .int)).before args s = true) (hfr : 1 ≤ R.frames) (hlc : 64 ≤ R.locals) (hcl : cells ≤ R.cells) (hsl : slots ≤ R.slots) (hwd : mj_wd r ≤ 8) (hdg : decode cc pc = .ok (.invokestatic idx, 3)) (kk : mj_Kt p l e R s m args below meth c F Q h L.length cells slots (pc + 3) L (.int (if y < x then y else x) :: r) h) : W p l e R s m args below meth c H locs cells slots Q (F0 m pc ls ((.int y :: .int x :: r).map F.cv)) := by
  refine va_mmin hexec hb (hml.trans hL.1.symm) hown hlink hstat hini hcode hfr ?_ hcl hsl hdg (kk.go hP hL hlo rfl)
  rw [mj_wd_eq]
  omega
theorem mj_copy (hF : F.ok) (hexec : p.tables.exec = Jvm.exec) (hb : c.code = cc) (hml : c.maxLocals = L.length) (hP : mj_P F s h H) (hL : mj_Lr F.ad L ls) (hlo : ∀ q ∈ locs, F.base ≤ q.base) (hK : va_K F.D F.cl (mj_tys F.dA) s) {own : String} {idx a b t : Nat} {sp dp n : Int32} {f g r : List Value} (hown : s.vm.findClass own = some m.cls) (hlink : (Cond.methodLink own idx arraycopyName).before args s = true) (hnat : (Cond.native arraycopyName).before args s = true) (hstat : (Cond.static arraycopyName).before args s = true) (hini : (Cond.initialized "java/lang/System").before args s = true) (hfr : 1 ≤ R.frames) (hlc : 64 ≤ R.locals) (hwd : mj_wd r ≤ 8)
    (ha : h[a]? = some (true, t, f)) (hbb : h[b]? = some (true, t, g)) (hk : (t = 0 ∧ mj_ints f = true ∧ mj_ints g = true) ∨ (t = 1 ∧ mj_lngs f = true ∧ mj_lngs g = true)) (hna : F.nT ≤ a) (hnb : F.nT ≤ b) (h1 : ¬ sp < 0) (h2 : ¬ dp < 0) (h3 : ¬ n < 0) (h4 : sp.toNatClampNeg + n.toNatClampNeg ≤ f.length) (h5 : dp.toNatClampNeg + n.toNatClampNeg ≤ g.length)
    (hdg : decode cc pc = .ok (.invokestatic idx, 3)) (kk : mj_Kt p l e R s m args below meth c F Q h L.length cells slots (pc + 3) L r (h.set b (true, t, mj_cpl f g sp.toNatClampNeg dp.toNatClampNeg n.toNatClampNeg))) : W p l e R s m args below meth c H locs cells slots Q (F0 m pc ls ((.int n :: .int dp :: .ref b :: .int sp :: .ref a :: r).map F.cv)) := by
  have nn : ∀ z : Int32, ¬ z < 0 → z.toInt = (z.toNatClampNeg : Int) := by
    intro z hz
    have hz0 : (0 : Int) ≤ z.toInt := by
      have := Int32.not_lt.mp hz
      simpa using Int32.le_iff_toInt_le.mp this
    show z.toInt = ((z.toInt.toNat : Nat) : Int)
    omega
  obtain ⟨ca, ga1, ga2, ga3, ga4, ga5, ga6, ga7⟩ := hP.arr ha
  obtain ⟨cb, gb1, gb2, gb3, gb4, gb5, gb6, gb7⟩ := hP.arr hbb
  have ea := mj_isArr (ga7 hna) ga6
  have eb := mj_isArr (gb7 hnb) gb6
  rw [List.length_map] at ea eb
  subst ea
  subst eb
  intro T hT X
  obtain ⟨-, k0, hk0, cm0, hkk0⟩ := ga2
  obtain ⟨-, k1, hk1, cm1, hkk1⟩ := gb2
  have hel : ∀ i, i < n.toNatClampNeg → ∃ v, f[sp.toNatClampNeg + i]? = some v ∧ fits (mj_ty t) (F.cv v) = true ∧ ((∃ x, F.cv v = .int x) ∨ ∃ x, F.cv v = .long x) := by
    intro i hi
    obtain ⟨v, hv⟩ : ∃ v, f[sp.toNatClampNeg + i]? = some v := ⟨_, List.getElem?_eq_getElem (by omega)⟩
    refine ⟨v, hv, ?_⟩
    rcases hk with ⟨rfl, hf, -⟩ | ⟨rfl, hf, -⟩
    · obtain ⟨x, rfl⟩ := mj_ints_at hf hv
      exact ⟨rfl, Or.inl ⟨x, rfl⟩⟩
    · obtain ⟨x, rfl⟩ := mj_lngs_at hf hv
      exact ⟨rfl, Or.inr ⟨x, rfl⟩⟩
  have hprim : refKind (mj_ty t) = false := by rcases hk with ⟨rfl, -⟩ | ⟨rfl, -⟩ <;> rfl
  obtain ⟨vm', X', step⟩ := X.arraycopy hexec hown hlink hnat hstat hini (src := F.ad a) (dst := F.ad b) (cs := arrV (F.dA t) f.length (fun j => (f.map F.cv).getD j .null)) (cd := arrV (F.dA t) g.length (fun j => (g.map F.cv).getD j .null)) (srcPos := sp) (destPos := dp) (n := n) (by rw [hT]; exact ga1) (by rw [hT]; exact gb1)
    (fun _ h => by cases h) (fun _ h => by cases h) (fun h => by cases h) (fun h => by cases h) hk0 hk1 hkk0 hkk1 (by simp [hprim]) h1 h2 h3
    (by rw [nn sp h1, nn n h3, arrV_size]; omega)
    (by rw [nn dp h2, nn n h3, arrV_size]; omega)
    (fun vm₁ _ i hi => by
      obtain ⟨v, hv, hfit, hor⟩ := hel i hi
      have e : (arrV (F.dA t) f.length (fun j => (f.map F.cv).getD j .null)).slots.getD (sp.toNatClampNeg + i) .null = F.cv v := by
        rw [Array.getD_eq_getD_getElem?, arrV_read _ _ (by omega)]
        simp [hv]
      rw [e]
      refine ⟨hfit, ?_⟩
      rcases hor with ⟨x, hx⟩ | ⟨x, hx⟩ <;> rw [hx] <;> trivial)
    (g := F0 m pc ls ((.int n :: .int dp :: .ref b :: .int sp :: .ref a :: r).map F.cv)) rfl (by rw [hml]; exact hL.1) (rest := r.map F.cv) rfl (by rw [hb]; exact hdg) hfr (by
      show 2 * 0 + _ + _ ≤ _
      rw [mj_wd_eq]
      have : nativeFrameWords "java/lang/System" "arraycopy" 5 + 11 ≤ 56 := by decide
      omega)
  have e1 : copied (arrV (F.dA t) f.length (fun j => (f.map F.cv).getD j .null)) (arrV (F.dA t) g.length (fun j => (g.map F.cv).getD j .null)) sp dp n = arrV (F.dA t) g.length (va_cpy (fun j => (f.map F.cv).getD j .null) (fun j => (g.map F.cv).getD j .null) sp.toNatClampNeg dp.toNatClampNeg n.toNatClampNeg) := va_copied (fun z => z) (F.dA t) (F.dA t) _ _ h4
  rw [e1] at X' step
  have hlt : F.ad b < H.size := (Array.getElem?_eq_some_iff.mp gb1).1
  have hheap : ((T.setVm vm').setCell (F.ad b) (arrV (F.dA t) g.length (va_cpy (fun j => (f.map F.cv).getD j .null) (fun j => (g.map F.cv).getD j .null) sp.toNatClampNeg dp.toNatClampNeg n.toNatClampNeg))).heap = H.setIfInBounds (F.ad b) (arrV (F.dA t) g.length (va_cpy (fun j => (f.map F.cv).getD j .null) (fun j => (g.map F.cv).getD j .null) sp.toNatClampNeg dp.toNatClampNeg n.toNatClampNeg)) := by rw [← hT]; rfl
  have hlst : (arrV (F.dA t) g.length (va_cpy (fun j => (f.map F.cv).getD j .null) (fun j => (g.map F.cv).getD j .null) sp.toNatClampNeg dp.toNatClampNeg n.toNatClampNeg)).slots.toList = (mj_cpl f g sp.toNatClampNeg dp.toNatClampNeg n.toNatClampNeg).map F.cv := by
    rw [mj_arrV_list]
    apply List.ext_getElem?
    intro k
    rw [List.getElem?_map, List.getElem?_map, mj_cpl_get h4 h5]
    by_cases hkk : k < g.length
    · rw [List.getElem?_range hkk]
      unfold va_cpy
      by_cases hr : dp.toNatClampNeg ≤ k ∧ k < dp.toNatClampNeg + n.toNatClampNeg
      · rw [if_pos hr]
        have hq : sp.toNatClampNeg + (k - dp.toNatClampNeg) < f.length := by omega
        simp [hr, hq]
      · rw [if_neg hr]
        simp [hr, hkk]
    · rw [List.getElem?_eq_none (by simp; omega), if_neg (by omega), List.getElem?_eq_none (by omega)]
      rfl
  have hP1 : mj_P F s (h.set b (true, t, mj_cpl f g sp.toNatClampNeg dp.toNatClampNeg n.toNatClampNeg)) (H.setIfInBounds (F.ad b) (arrV (F.dA t) g.length (va_cpy (fun j => (f.map F.cv).getD j .null) (fun j => (g.map F.cv).getD j .null) sp.toNatClampNeg dp.toNatClampNeg n.toNatClampNeg))) := by
    refine hP.set hF hnb ⟨arrV (F.dA t) g.length (va_cpy (fun j => (f.map F.cv).getD j .null) (fun j => (g.map F.cv).getD j .null) sp.toNatClampNeg dp.toNatClampNeg n.toNatClampNeg), by rw [Array.getElem?_setIfInBounds_self_of_lt hlt], ⟨(fun _ h => by cases h), k1, hk1, cm1, hkk1⟩, (fun h => by cases h), hlst, fun _ => rfl⟩ (by simp) (fun q hq => by simp [Array.getElem?_setIfInBounds, Ne.symm hq])
  obtain ⟨t9, a1, b1⟩ := mj_Kt.goS kk hbb (mj_cpl_len h4 h5) hP1 hL (fun q hq => by
      rcases List.mem_append.mp hq with z | z
      · exact hlo q z
      · obtain ⟨z1, -, hz⟩ := List.mem_map.mp z
        rw [← hz]
        have := hF.1 b hnb
        show F.base ≤ F.ad b
        omega) rfl _ hheap X'
  exact ⟨t9, step t9 a1, b1⟩
end MJL
