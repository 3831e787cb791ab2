/-! copies, calls, ends -/
section
variable {R : Type} {F : Option R} {P : R → zO → zA → Prop} {d w mi pc pc1 len : Nat} {L : zLs} {S : List zV} {A : zA}
theorem zcl_ints {a n : Nat} : mj_ints (zcl A a (true, 0, n)).2.2 = true := by
  simp only [mj_ints, zcl, List.all_eq_true, List.mem_map]
  rintro v ⟨j, -, rfl⟩
  rw [zsk_i rfl]
theorem zcl_lngs {a n : Nat} : mj_lngs (zcl A a (true, 1, n)).2.2 = true := by
  simp only [mj_lngs, zcl, List.all_eq_true, List.mem_map]
  rintro v ⟨j, -, rfl⟩
  rw [zsk_l rfl]
theorem zcpl {a b t f g sp dp n : Nat} (ht : t = 0 ∨ t = 1) (hab : ¬ a = b) (h1 : sp + n ≤ f) (h2 : dp + n ≤ g) : mj_cpl (zcl A a (true, t, f)).2.2 (zcl A b (true, t, g)).2.2 sp dp n = (zcl (zcp A a sp b dp n) b (true, t, g)).2.2 := by
  have hl1 : (zcl A a (true, t, f)).2.2.length = f := zcl_len A a (true, t, f)
  have hl2 : (zcl A b (true, t, g)).2.2.length = g := zcl_len A b (true, t, g)
  have hsv : ∀ k, zsv (zcp A a sp b dp n) b (true, t, g) k = if dp ≤ k ∧ k < dp + n then zsv A a (true, t, f) (sp + (k - dp)) else zsv A b (true, t, g) k := by
    intro k
    rcases ht with rfl | rfl
    · rw [zsk_i rfl, zsk_i rfl, zsk_i rfl]
      simp only [zmi, zcp, true_and]
      split <;> rfl
    · rw [zsk_l rfl, zsk_l rfl, zsk_l rfl]
      simp only [zml, zcp, true_and]
      split <;> rfl
  apply List.ext_getElem?
  intro k
  rw [zcl_get]
  simp only
  unfold mj_cpl
  by_cases c1 : k < dp
  · rw [List.append_assoc, List.getElem?_append_left (by rw [List.length_take]; omega), List.getElem?_take_of_lt c1, zcl_get]
    simp only
    rw [if_pos (by omega), if_pos (by omega), hsv, if_neg (by omega)]
  · by_cases c2 : k < dp + n
    · rw [List.append_assoc, List.getElem?_append_right (by rw [List.length_take]; omega), List.length_take, List.getElem?_append_left (by rw [List.length_take, List.length_drop]; omega), List.getElem?_take_of_lt (by omega), List.getElem?_drop, zcl_get]
      simp only
      rw [if_pos (by omega), if_pos (by omega), hsv, if_pos ⟨by omega, c2⟩]
      congr 2; omega
    · rw [List.getElem?_append_right (by rw [List.length_append, List.length_take, List.length_take, List.length_drop]; omega), List.length_append, List.length_take, List.length_take, List.length_drop, List.getElem?_drop, zcl_get]
      simp only
      rw [show dp + n + (k - (min dp (zcl A b (true, t, g)).2.2.length + min n ((zcl A a (true, t, f)).2.2.length - sp))) = k by omega]
      split
      · rw [hsv, if_neg (by omega)]
      · rfl
theorem zsv_cp {a sp b dp n c : Nat} {t : zK} {k : Nat} (h : c ≠ b) : zsv (zcp A a sp b dp n) c t k = zsv A c t k := by
  simp only [zsv, zmi, zml, zmr, zcp, h, false_and, if_false]
theorem js_copy {a b : Nat} {sp dp n : Int} {K : zA → Option R} (hc : mp_code mi pc = some (.invokestatic 1003, len)) (e : pc + len = pc1) (hd : 1 ≤ d) (hw : 64 ≤ w) (hr : mj_wd (zS S) ≤ 8) (k : zG (K (zcp A a sp.toNat b dp.toNat n.toNat)) P d w mi pc1 L S (zcp A a sp.toNat b dp.toNat n.toNat)) : zG (zcy A a sp b dp n K) P d w mi pc L (.inl n :: .inl dp :: .inr (.inr (some b)) :: .inl sp :: .inr (.inr (some a)) :: S) A := by
  unfold zcy
  split
  · rename_i t f u g hsa hsb
    refine zG_ite (fun hh => ?_) (fun _ => zG_none)
    obtain ⟨rfl, ht, ha, hb, hab, h1, h2, h3, h4, h5⟩ := hh
    intro r hr2
    refine zW_l (as := [.ref a, .int (Int32.ofInt sp), .ref b, .int (Int32.ofInt dp), .int (Int32.ofInt n)]) (r := zS S) (v := none) (A1 := zcp A a sp.toNat b dp.toNat n.toNat) hc e (by decide) rfl hd hw hr (fun hf => ⟨?_, hf.cp hb⟩) rfl (k r hr2)
    have n1 := hf.sz hsa
    have n2 := hf.sz hsb
    simp only at n1 n2
    obtain ⟨i1, i2⟩ := zidx h1 (by omega)
    obtain ⟨j1, j2⟩ := zidx h2 (by omega)
    obtain ⟨k1, k2⟩ := zidx h3 (by omega)
    have c1 := zcl_len A a (true, t, f)
    have c2 := zcl_len A b (true, t, g)
    have c3 := zcpl (A := A) (sp := sp.toNat) (dp := dp.toNat) (n := n.toNat) ht hab (show sp.toNat + n.toNat ≤ f by omega) (show dp.toNat + n.toNat ≤ g by omega)
    have c4 := zhp_set (A1 := zcp A a sp.toNat b dp.toNat n.toNat) hsb rfl (fun c q hcb _ => zcl_ext (fun k => zsv_cp hcb))
    have c5 : (t = 0 ∧ mj_ints (zcl A a (true, t, f)).2.2 = true ∧ mj_ints (zcl A b (true, t, g)).2.2 = true) ∨ (t = 1 ∧ mj_lngs (zcl A a (true, t, f)).2.2 = true ∧ mj_lngs (zcl A b (true, t, g)).2.2 = true) := by
      rcases ht with rfl | rfl
      · exact Or.inl ⟨rfl, zcl_ints, zcl_ints⟩
      · exact Or.inr ⟨rfl, zcl_lngs, zcl_lngs⟩
    simp only [mj_lib, zhp_at hsa, zhp_at hsb, i2, j2, k2]
    simp only [zcl] at c1 c2 c3 c4 c5 ⊢
    rw [if_pos ⟨trivial, c5, ha, hb, hab, i1, j1, k1, by rw [c1]; omega, by rw [c2]; omega⟩, c3, c4]
  · exact zG_none
theorem zfuel (P : mj_Pr) (nT : Nat) : ∀ (n m d w mi pc : Nat) (L : mj_L) (S : List Value) (h : mj_H) (r : mj_O × mj_H), n ≤ m → mj_ex P nT n d w mi pc L S h = some r → mj_ex P nT m d w mi pc L S h = some r
  | 0, m, d, w, mi, pc, L, S, h, r, hm, hx => by cases hx
  | n + 1, 0, d, w, mi, pc, L, S, h, r, hm, hx => by omega
  | n + 1, m + 1, d, w, mi, pc, L, S, h, r, hm, hx => by
    have ih := fun d w mi pc L S h r => zfuel P nT n m d w mi pc L S h r (by omega)
    change mj_body P nT (mj_ex P nT n) d w mi pc L S h = some r at hx
    show mj_body P nT (mj_ex P nT m) d w mi pc L S h = some r
    unfold mj_body at hx ⊢
    repeat' split at hx
    all_goals first
      | (cases hx; done)
      | (rename_i hl; have hl2 := ih _ _ _ _ _ _ _ _ hl; simp only [*, if_true, and_self]; exact ih _ _ _ _ _ _ _ _ hx)
      | (rename_i hl _ _ _; have hl2 := ih _ _ _ _ _ _ _ _ hl; simp only [*, if_true, and_self]; exact ih _ _ _ _ _ _ _ _ hx)
      | (simp only [*, if_true, and_self]; exact ih _ _ _ _ _ _ _ _ hx)
      | (simp only [*, if_true, and_self]; done)
      | (simp [*] at hx ⊢; done)
def zwd : List zV → Nat
  | [] => 0
  | .inr (.inl _) :: r => zwd r + 2
  | _ :: r => zwd r + 1
theorem zwd_eq : ∀ S : List zV, mj_wd (zS S) = zwd S
  | [] => rfl
  | .inl x :: r => by have := zwd_eq r; simp only [zS, List.map_cons, zval, mj_wd, zwd] at this ⊢; rw [this]
  | .inr (.inl x) :: r => by have := zwd_eq r; simp only [zS, List.map_cons, zval, mj_wd, zwd] at this ⊢; rw [this]
  | .inr (.inr none) :: r => by have := zwd_eq r; simp only [zS, List.map_cons, zval, zrv, mj_wd, zwd] at this ⊢; rw [this]
  | .inr (.inr (some a)) :: r => by have := zwd_eq r; simp only [zS, List.map_cons, zval, zrv, mj_wd, zwd] at this ⊢; rw [this]
def zpop (n : Nat) (S acc : List zV) : Option (List zV × List zV) := match n, S with
  | 0, S => some (acc, S)
  | _ + 1, [] => none
  | n + 1, v :: S => zpop n S (v :: acc)
theorem zpop_ok : ∀ (n : Nat) (S acc as r : List zV), zpop n S acc = some (as, r) → mj_pop n (zS S) (zS acc) = some (zS as, zS r)
  | 0, S, acc, as, r, h => by cases h; rfl
  | n + 1, [], acc, as, r, h => by cases h
  | n + 1, v :: S, acc, as, r, h => zpop_ok n S (v :: acc) as r h
def zin : List zV → zLs
  | [] => []
  | .inr (.inl x) :: r => some (.inr (.inl x)) :: none :: zin r
  | v :: r => some v :: zin r
theorem zin_ok : ∀ as : List zV, mj_in (zS as) = zL (zin as)
  | [] => rfl
  | .inl x :: r => by have := zin_ok r; simp only [zS, zL, List.map_cons, zval, mj_in, zin, Option.map_some] at this ⊢; rw [this]
  | .inr (.inl x) :: r => by have := zin_ok r; simp only [zS, zL, List.map_cons, zval, mj_in, zin, Option.map_some, Option.map_none] at this ⊢; rw [this]
  | .inr (.inr none) :: r => by have := zin_ok r; simp only [zS, zL, List.map_cons, zval, zrv, mj_in, zin, Option.map_some] at this ⊢; rw [this]
  | .inr (.inr (some a)) :: r => by have := zin_ok r; simp only [zS, zL, List.map_cons, zval, zrv, mj_in, zin, Option.map_some] at this ⊢; rw [this]
def zen (n : Nat) (as : List zV) : zLs := zin as ++ List.replicate (n - (zin as).length) none
theorem zen_ok (n : Nat) (as : List zV) : mj_en n (zS as) = zL (zen n as) := by
  unfold mj_en zen
  rw [zin_ok]
  simp [zL]
theorem zW_call {k m : Nat} {as S0 : List zV} {L0 : zLs} {Q1 Q : zO → zA → Prop} (hc : mp_code mi pc = some (.invokestatic k, len)) (e : pc + len = pc1) (hk : Nat.blt k 1000 = true) (hp : zpop (mp_np k) S [] = some (as, S0)) (hm : mp_mxl k = m) (hL : zen m as = L0) (hl : Nat.ble (zin as).length m = true) (hd : 1 ≤ d) (hw : m + 19 ≤ w) (hwd : Nat.ble (zwd S0) 8 = true) (hrc : zFin A → mj_rcv (mp_rc k) (zS as) (zhp A) = true) (hcal : zW (d - 1) (w - (m + 19)) k 0 L0 [] A Q1) (hq : ∀ o A1, Q1 o A1 → (∃ v : Option zV, o = .inl v ∧ zW d w mi pc1 L (v.toList ++ S0) A1 Q) ∨ (∃ x a t, o = .inr (x, a) ∧ mj_hn (mp_hnd mi) pc x = some t ∧ zW d w mi t L [.inr (.inr (some a))] A1 Q)) : zW d w mi pc L S A Q := by
  intro hf
  subst e hm hL
  obtain ⟨n1, o1, A1, e1, f1, q1⟩ := hcal hf
  have g1 := zpop_ok _ _ _ _ _ hp
  have g2 : (mj_in (zS as)).length ≤ mp_mxl k := by rw [zin_ok, zL_len]; exact Nat.ble_eq.mp hl
  have g3 : mj_wd (zS S0) ≤ 8 := by rw [zwd_eq]; exact Nat.ble_eq.mp hwd
  have g4 : ¬ 1000 ≤ k := by have := Nat.blt_eq.mp hk; omega
  rw [← zen_ok] at e1
  have g5 : mj_pop (mp_P.np k) (zS S) [] = some (zS as, zS S0) := g1
  have g6 : 1 ≤ d ∧ mp_P.maxL k + 19 ≤ w ∧ mj_wd (zS S0) ≤ 8 ∧ mj_rcv (mp_P.rc k) (zS as) (zhp A) = true ∧ (mj_in (zS as)).length ≤ mp_P.maxL k := ⟨hd, hw, g3, hrc hf, g2⟩
  rcases hq o1 A1 q1 with ⟨v, rfl, kk⟩ | ⟨x, a, t, rfl, ht, kk⟩
  · obtain ⟨n2, o2, A2, e2, f2⟩ := kk f1
    refine ⟨max n1 n2 + 1, o2, A2, ?_, f2⟩
    have e1' := zfuel _ _ _ (max n1 n2) _ _ _ _ _ _ _ _ (by omega) e1
    have e2' := zfuel _ _ _ (max n1 n2) _ _ _ _ _ _ _ _ (by omega) e2
    show mj_body mp_P 4 (mj_ex mp_P 4 (max n1 n2)) d w mi pc (zL L) (zS S) (zhp A) = _
    unfold mj_body
    rw [show mp_P.code mi pc = some (.invokestatic k, len) from hc]
    simp only [if_neg g4, g5]
    rw [if_pos g6]
    have e1'' : mj_ex mp_P 4 (max n1 n2) (d - 1) (w - (mp_P.maxL k + 19)) k 0 (mj_en (mp_P.maxL k) (zS as)) [] (zhp A) = some (.inl (v.map zval), zhp A1) := e1'
    simp only [e1'']
    have : (v.map zval).toList ++ zS S0 = zS (v.toList ++ S0) := by cases v <;> rfl
    rw [this]
    exact e2'
  · obtain ⟨n2, o2, A2, e2, f2⟩ := kk f1
    refine ⟨max n1 n2 + 1, o2, A2, ?_, f2⟩
    have e1' := zfuel _ _ _ (max n1 n2) _ _ _ _ _ _ _ _ (by omega) e1
    have e2' := zfuel _ _ _ (max n1 n2) _ _ _ _ _ _ _ _ (by omega) e2
    show mj_body mp_P 4 (mj_ex mp_P 4 (max n1 n2)) d w mi pc (zL L) (zS S) (zhp A) = _
    unfold mj_body
    rw [show mp_P.code mi pc = some (.invokestatic k, len) from hc]
    simp only [if_neg g4, g5]
    rw [if_pos g6]
    have e1'' : mj_ex mp_P 4 (max n1 n2) (d - 1) (w - (mp_P.maxL k + 19)) k 0 (mj_en (mp_P.maxL k) (zS as)) [] (zhp A) = some (.inr (x, a), zhp A1) := e1'
    simp only [e1'', show mj_hn (mp_P.hnd mi) pc x = some t from ht]
    exact e2'
def zPI (r : Int × zA) (o : zO) (A1 : zA) : Prop := o = .inl (some (.inl r.1)) ∧ A1 = r.2 ∧ zrg r.1
def zPp (A0 : zA) (v : Int) (o : zO) (A1 : zA) : Prop := o = .inl (some (.inl v)) ∧ A1 = A0 ∧ zrg v
def zPV (r : zA) (o : zO) (A1 : zA) : Prop := o = .inl none ∧ A1 = r
def zPJ (A0 : zA) (v : Int64) (o : zO) (A1 : zA) : Prop := o = .inl (some (.inr (.inl v))) ∧ A1 = A0
def zPR (r : Nat × zA) (o : zO) (A1 : zA) : Prop := o = .inl (some (.inr (.inr (some r.1)))) ∧ A1 = r.2
def zPX (r : (Int ⊕ Nat) × zA) (o : zO) (A1 : zA) : Prop := A1 = r.2 ∧ ((∃ v, r.1 = .inl v ∧ o = .inl (some (.inl v)) ∧ zrg v) ∨ (∃ x a, r.1 = .inr x ∧ o = .inr (x, a)))
/-- the receiver is of the class -/
def zrc (k : Nat) (as : List zV) : Prop := match mp_rc k, as with
  | none, _ => True
  | some ci, .inr (.inr (some a)) :: _ => ∃ n, zsh a = some (false, ci, n)
  | _, _ => False
theorem zrc_ok {k : Nat} {as : List zV} (h : zrc k as) (hf : zFin A) : mj_rcv (mp_rc k) (zS as) (zhp A) = true := by
  unfold zrc at h
  unfold mj_rcv
  split at h
  · rename_i h1
    simp only [h1]
  · rename_i ci a r h1
    obtain ⟨n, hn⟩ := h
    simp only [h1, zS, List.map_cons, zval, zrv, zhp_at (hf.sh hn)]
    simp [zcl]
  · exact h.elim
section
variable {k m : Nat} {as S0 : List zV} {L0 : zLs}
theorem js_cI {F1 : Option (Int × zA)} {K : Int → zA → Option R} (hc : mp_code mi pc = some (.invokestatic k, len)) (e : pc + len = pc1) (hk : Nat.blt k 1000 = true) (hp : zpop (mp_np k) S [] = some (as, S0)) (hm : mp_mxl k = m) (hL : zen m as = L0) (hl : Nat.ble (zin as).length m = true) (hwd : Nat.ble (zwd S0) 8 = true) (hrc : zrc k as) (hd : 1 ≤ d) (hw : m + 19 ≤ w) (hcal : zG F1 zPI (d - 1) (w - (m + 19)) k 0 L0 [] A) (kk : ∀ v A1, F1 = some (v, A1) → zrg v → zG (K v A1) P d w mi pc1 L (.inl v :: S0) A1) : zG (zbI F1 K) P d w mi pc L S A := by
  unfold zbI
  cases hF : F1 with
  | none => exact zG_none
  | some q =>
    obtain ⟨v, A1⟩ := q
    intro r hr
    refine zW_call hc e hk hp hm hL hl hd hw hwd (fun hf => zrc_ok hrc hf) (hcal _ hF) (fun o A2 hq => ?_)
    obtain ⟨rfl, rfl, hv⟩ := hq
    exact Or.inl ⟨_, rfl, kk v _ hF hv r hr⟩
theorem js_cP {F1 : Option Int} {K : Int → Option R} (hc : mp_code mi pc = some (.invokestatic k, len)) (e : pc + len = pc1) (hk : Nat.blt k 1000 = true) (hp : zpop (mp_np k) S [] = some (as, S0)) (hm : mp_mxl k = m) (hL : zen m as = L0) (hl : Nat.ble (zin as).length m = true) (hwd : Nat.ble (zwd S0) 8 = true) (hrc : zrc k as) (hd : 1 ≤ d) (hw : m + 19 ≤ w) (hcal : zG F1 (zPp A) (d - 1) (w - (m + 19)) k 0 L0 [] A) (kk : ∀ v, F1 = some v → zrg v → zG (K v) P d w mi pc1 L (.inl v :: S0) A) : zG (zbP F1 K) P d w mi pc L S A := by
  unfold zbP
  cases hF : F1 with
  | none => exact zG_none
  | some v =>
    intro r hr
    refine zW_call hc e hk hp hm hL hl hd hw hwd (fun hf => zrc_ok hrc hf) (hcal _ hF) (fun o A2 hq => ?_)
    obtain ⟨rfl, rfl, hv⟩ := hq
    exact Or.inl ⟨_, rfl, kk v hF hv r hr⟩
theorem js_cV {F1 : Option zA} {K : zA → Option R} (hc : mp_code mi pc = some (.invokestatic k, len)) (e : pc + len = pc1) (hk : Nat.blt k 1000 = true) (hp : zpop (mp_np k) S [] = some (as, S0)) (hm : mp_mxl k = m) (hL : zen m as = L0) (hl : Nat.ble (zin as).length m = true) (hwd : Nat.ble (zwd S0) 8 = true) (hrc : zrc k as) (hd : 1 ≤ d) (hw : m + 19 ≤ w) (hcal : zG F1 zPV (d - 1) (w - (m + 19)) k 0 L0 [] A) (kk : ∀ A1, F1 = some A1 → zG (K A1) P d w mi pc1 L S0 A1) : zG (zbV F1 K) P d w mi pc L S A := by
  unfold zbV
  cases hF : F1 with
  | none => exact zG_none
  | some A1 =>
    intro r hr
    refine zW_call hc e hk hp hm hL hl hd hw hwd (fun hf => zrc_ok hrc hf) (hcal _ hF) (fun o A2 hq => ?_)
    obtain ⟨rfl, rfl⟩ := hq
    exact Or.inl ⟨_, rfl, kk _ hF r hr⟩
theorem js_cJ {F1 : Option Int64} {K : Int64 → Option R} (hc : mp_code mi pc = some (.invokestatic k, len)) (e : pc + len = pc1) (hk : Nat.blt k 1000 = true) (hp : zpop (mp_np k) S [] = some (as, S0)) (hm : mp_mxl k = m) (hL : zen m as = L0) (hl : Nat.ble (zin as).length m = true) (hwd : Nat.ble (zwd S0) 8 = true) (hrc : zrc k as) (hd : 1 ≤ d) (hw : m + 19 ≤ w) (hcal : zG F1 (zPJ A) (d - 1) (w - (m + 19)) k 0 L0 [] A) (kk : ∀ v, F1 = some v → zG (K v) P d w mi pc1 L (.inr (.inl v) :: S0) A) : zG (zbJ F1 K) P d w mi pc L S A := by
  unfold zbJ
  cases hF : F1 with
  | none => exact zG_none
  | some v =>
    intro r hr
    refine zW_call hc e hk hp hm hL hl hd hw hwd (fun hf => zrc_ok hrc hf) (hcal _ hF) (fun o A2 hq => ?_)
    obtain ⟨rfl, rfl⟩ := hq
    exact Or.inl ⟨_, rfl, kk v hF r hr⟩
theorem js_cR {F1 : Option (Nat × zA)} {K : Nat → zA → Option R} (hc : mp_code mi pc = some (.invokestatic k, len)) (e : pc + len = pc1) (hk : Nat.blt k 1000 = true) (hp : zpop (mp_np k) S [] = some (as, S0)) (hm : mp_mxl k = m) (hL : zen m as = L0) (hl : Nat.ble (zin as).length m = true) (hwd : Nat.ble (zwd S0) 8 = true) (hrc : zrc k as) (hd : 1 ≤ d) (hw : m + 19 ≤ w) (hcal : zG F1 zPR (d - 1) (w - (m + 19)) k 0 L0 [] A) (kk : ∀ v A1, F1 = some (v, A1) → zG (K v A1) P d w mi pc1 L (.inr (.inr (some v)) :: S0) A1) : zG (zbR F1 K) P d w mi pc L S A := by
  unfold zbR
  cases hF : F1 with
  | none => exact zG_none
  | some q =>
    obtain ⟨v, A1⟩ := q
    intro r hr
    refine zW_call hc e hk hp hm hL hl hd hw hwd (fun hf => zrc_ok hrc hf) (hcal _ hF) (fun o A2 hq => ?_)
    obtain ⟨rfl, rfl⟩ := hq
    exact Or.inl ⟨_, rfl, kk v _ hF r hr⟩
end
theorem zW_end {Q : zO → zA → Prop} {o : zO} {A1 : zA} (h : zFin A → mj_body mp_P 4 (mj_ex mp_P 4 0) d w mi pc (zL L) (zS S) (zhp A) = some (zo o, zhp A1) ∧ zFin A1) (hq : Q o A1) : zW d w mi pc L S A Q := fun hf => ⟨1, o, A1, (h hf).1, (h hf).2, hq⟩
theorem zend_i {x : Int} (hc : mp_code mi pc = some (.ireturn, len)) (hk : mj_fit (mp_rk mi) (.int (Int32.ofInt x)) = true) : mj_body mp_P 4 (mj_ex mp_P 4 0) d w mi pc (zL L) (zS [.inl x]) (zhp A) = some (zo (.inl (some (.inl x))), zhp A) := by
  unfold mj_body
  rw [show mp_P.code mi pc = some (.ireturn, len) from hc]
  simp only [zS, List.map_cons, List.map_nil, zval]
  rw [if_pos (show mj_fit (mp_P.rk mi) (.int (Int32.ofInt x)) = true from hk)]
  rfl
theorem zfit0 (x : Int) (h : mp_rk mi = 0) : mj_fit (mp_rk mi) (.int (Int32.ofInt x)) = true := by rw [h]; rfl
theorem zfit3 {x : Int} (h : mp_rk mi = 3) (hx : x = 0 ∨ x = 1) : mj_fit (mp_rk mi) (.int (Int32.ofInt x)) = true := by rw [h]; rcases hx with rfl | rfl <;> rfl
theorem zfit2' {x : Int} (h : mp_rk mi = 2) (hx : 0 ≤ x ∧ x ≤ 65535) : mj_fit (mp_rk mi) (.int (Int32.ofInt x)) = true := by rw [h]; exact zfit2 hx.1 hx.2
theorem je_I {x y : Int} (hc : mp_code mi pc = some (.ireturn, len)) (hk : mj_fit (mp_rk mi) (.int (Int32.ofInt x)) = true) (hy : zval (.inl y) = zval (.inl x)) (hx : zrg y) : zG (some (y, A)) zPI d w mi pc L [.inl x] A := by
  intro r hr; cases hr
  refine zW_end (o := .inl (some (.inl y))) (A1 := A) (fun hf => ⟨?_, hf⟩) ⟨rfl, rfl, hx⟩
  rw [zend_i hc hk]
  simp only [zo, Option.map_some, hy]
theorem je_P {x y : Int} (hc : mp_code mi pc = some (.ireturn, len)) (hk : mj_fit (mp_rk mi) (.int (Int32.ofInt x)) = true) (hy : zval (.inl y) = zval (.inl x)) (hx : zrg y) : zG (some y) (zPp A) d w mi pc L [.inl x] A := by
  intro r hr; cases hr
  refine zW_end (o := .inl (some (.inl y))) (A1 := A) (fun hf => ⟨?_, hf⟩) ⟨rfl, rfl, hx⟩
  rw [zend_i hc hk]
  simp only [zo, Option.map_some, hy]
theorem je_X {x y : Int} (hc : mp_code mi pc = some (.ireturn, len)) (hk : mj_fit (mp_rk mi) (.int (Int32.ofInt x)) = true) (hy : zval (.inl y) = zval (.inl x)) (hx : zrg y) : zG (some (.inl y, A)) zPX d w mi pc L [.inl x] A := by
  intro r hr; cases hr
  refine zW_end (o := .inl (some (.inl y))) (A1 := A) (fun hf => ⟨?_, hf⟩) ⟨rfl, Or.inl ⟨y, rfl, rfl, hx⟩⟩
  rw [zend_i hc hk]
  simp only [zo, Option.map_some, hy]
theorem je_V (hc : mp_code mi pc = some (.return_, len)) : zG (some A) zPV d w mi pc L [] A := by
  intro r hr; cases hr
  refine zW_end (o := .inl none) (A1 := A) (fun hf => ⟨?_, hf⟩) ⟨rfl, rfl⟩
  unfold mj_body
  rw [show mp_P.code mi pc = some (.return_, len) from hc]
  rfl
theorem je_J {x : Int64} (hc : mp_code mi pc = some (.lreturn, len)) : zG (some x) (zPJ A) d w mi pc L [.inr (.inl x)] A := by
  intro r hr; cases hr
  refine zW_end (o := .inl (some (.inr (.inl x)))) (A1 := A) (fun hf => ⟨?_, hf⟩) ⟨rfl, rfl⟩
  unfold mj_body
  rw [show mp_P.code mi pc = some (.lreturn, len) from hc]
  rfl
theorem je_R {x : Nat} (hc : mp_code mi pc = some (.areturn, len)) : zG (some (x, A)) zPR d w mi pc L [.inr (.inr (some x))] A := by
  intro r hr; cases hr
  refine zW_end (o := .inl (some (.inr (.inr (some x))))) (A1 := A) (fun hf => ⟨?_, hf⟩) ⟨rfl, rfl⟩
  unfold mj_body
  rw [show mp_P.code mi pc = some (.areturn, len) from hc]
  rfl
theorem je_T {x : Nat} (hc : mp_code mi pc = some (.ret x, len)) (hx : Nat.ble x 2 = true) (hd : 8 ≤ d) (hw : 10300 ≤ w) : zG (some (.inr x, znw A (false, 100 + x, 0))) zPX d w mi pc L [] A := by
  intro r hr; cases hr
  refine zW_end (o := .inr (x, A.1.length)) (A1 := znw A (false, 100 + x, 0)) (fun hf => ⟨?_, hf.nw _ (by show 0 ≤ 1000000; omega)⟩) ⟨rfl, Or.inr ⟨x, _, rfl, rfl⟩⟩
  have h1 : zhp (znw A (false, 100 + x, 0)) = zhp A ++ [(false, 100 + x, [])] := zhp_nw (A := A) (false, 100 + x, 0) (.int 0) (fun j hj => absurd hj (Nat.not_lt_zero j))
  unfold mj_body
  rw [show mp_P.code mi pc = some (.ret x, len) from hc]
  simp only [zS, List.map_nil]
  rw [if_pos ⟨Nat.ble_eq.mp hx, hd, hw⟩, h1, zhp_len]
  rfl
end
