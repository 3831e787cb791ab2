/-! from a run of the kernel's machine to the pure run -/
noncomputable def mq_ar (vs : List Value) : mq_C := (true, 0, vs.length, .int 0, [(0, (List.range vs.length).map (fun j => (j, vs.getD j .null)))])
noncomputable def mq_s0 (vs : List Value) : mq_H := (4, [(0, [(0, mq_ar vs), (1, mq_ar (mp_s1v.map .int)), (2, mq_ar (mp_s2v.map .int)), (3, mq_ar (mp_s3v.map .int))])])
def mr_Good (L : Nat) (xs : Nat → Int32) : Prop := ∃ (n : Nat) (h1 : mj_H), mj_ex mp_P 4 n 2048 84000 0 0 (mj_en 7 [.ref 0]) [] (mp_h0 L xs) = some (.inl (some (.int 1)), h1) ∧ h1.length ≤ 601028 ∧ mj_sl h1 ≤ 7293073 + L
theorem mr_get (f : Nat → Value) (k : Nat) : ∀ l : List Nat, k ∈ l → mq_get (l.map (fun j => (j, f j))) k = some (f k)
  | [], h => nomatch h
  | j :: l, h => by
    rw [List.map_cons, mq_get_cons]
    by_cases e : j = k
    · rw [if_pos e, e]
    · rw [if_neg e]
      exact mr_get f k l ((List.mem_cons.mp h).resolve_left (fun z => e z.symm))
theorem mr_ar {ρ : Nat → Int32} {vs : List Value} (hl : vs.length ≤ 16) : mq_c mp_P ρ (mq_ar vs) = (true, 0, vs.map (mq_v ρ)) := by
  show (true, 0, (List.range vs.length).map (fun j => mq_v ρ (mq_look mp_P (mq_ar vs) j))) = _
  congr 2
  refine List.ext_getElem? fun j => ?_
  by_cases hj : j < vs.length
  · rw [List.getElem?_map, List.getElem?_range hj, List.getElem?_map]
    have e : mq_look mp_P (mq_ar vs) j = vs.getD j .null := by
      unfold mq_look
      have g : mq_g2 (mq_ar vs).2.2.2.2 j = some (vs.getD j .null) := by
        unfold mq_g2 mq_sub
        have e1 : j / 16 = 0 := by omega
        have e2 : j % 16 = j := by omega
        rw [e1, e2]
        exact mr_get (fun j => vs.getD j .null) j _ (List.mem_range.mpr hj)
      rw [g]
    rw [List.getElem?_eq_getElem hj]
    simp only [Option.map_some, e, List.getD_eq_getElem?_getD, List.getElem?_eq_getElem hj, Option.getD_some]
  · rw [List.getElem?_eq_none (by simp; omega), List.getElem?_eq_none (by simp; omega)]
theorem mr_ints {ρ : Nat → Int32} (xs : List Int32) : (xs.map Value.int).map (mq_v ρ) = xs.map Value.int := by
  rw [List.map_map]
  rfl
theorem mr_s0 {ρ : Nat → Int32} {vs : List Value} {xs : Nat → Int32} (hl : vs.length ≤ 16) (hv : vs.map (mq_v ρ) = (List.range vs.length).map (fun j => .int (xs j))) : mq_h mp_P ρ (mq_s0 vs) = mp_h0 vs.length xs := by
  have e : mq_h mp_P ρ (mq_s0 vs) = [mq_c mp_P ρ (mq_ar vs), mq_c mp_P ρ (mq_ar (mp_s1v.map .int)), mq_c mp_P ρ (mq_ar (mp_s2v.map .int)), mq_c mp_P ρ (mq_ar (mp_s3v.map .int))] := rfl
  rw [e, mr_ar hl, mr_ar (by decide), mr_ar (by decide), mr_ar (by decide), mr_ints, mr_ints, mr_ints, hv]
  rfl
/-! how many slots -/
noncomputable def mq_sl1 (c : mq_C) : Nat := bif c.1 then c.2.2.1 else bif Nat.ble 100 c.2.1 then 6 else c.2.2.1
noncomputable def mq_sl (h : mq_H) : Nat := ((List.range h.1).map (fun a => mq_sl1 ((mq_g2 h.2 a).getD (true, 0, 0, .null, [])))).sum
theorem mr_sl1 {ρ : Nat → Int32} (c : mq_C) : mj_sl [mq_c mp_P ρ c] = mq_sl1 c := by
  obtain ⟨b, u, n, dv, m⟩ := c
  cases b with
  | true => simp [mq_c, mj_sl, mq_sl1]
  | false =>
    by_cases h : 100 ≤ u
    · simp [mq_c, mj_sl, mq_sl1, h, Nat.ble_eq.mpr h]
    · have : Nat.ble 100 u = false := by
        cases hb : Nat.ble 100 u with
        | false => rfl
        | true => exact absurd (Nat.ble_eq.mp hb) h
      simp [mq_c, mj_sl, mq_sl1, h, this]
theorem mr_slm (f : Nat → mj_C) : ∀ l : List Nat, mj_sl (l.map f) = (l.map (fun a => mj_sl [f a])).sum
  | [] => rfl
  | a :: l => by
    rw [List.map_cons, List.map_cons, List.sum_cons, ← mr_slm f l, show f a :: l.map f = [f a] ++ l.map f from rfl, mj_sl_app]
theorem mr_sl {ρ : Nat → Int32} (h : mq_H) : mj_sl (mq_h mp_P ρ h) = mq_sl h := by
  unfold mq_h mq_sl
  rw [mr_slm]
  congr 2
  funext a
  exact mr_sl1 _
/-! facts that a run must have written down -/
def mq_veq (a b : Value) : Bool := match a, b with
  | .int x, .int y => decide (x = y)
  | .retAddr i, .retAddr j => Nat.beq i j
  | .null, .null => true
  | _, _ => false
def mq_ceq (a b : ClassFile.Cond) : Bool := match a, b with
  | .eq, .eq => true
  | .ne, .ne => true
  | .lt, .lt => true
  | .ge, .ge => true
  | .gt, .gt => true
  | .le, .le => true
  | _, _ => false
def mq_feq (f g : mq_F) : Bool := match f, g with
  | .inl (c, b, x, y), .inl (c', b', x', y') => mq_ceq c c' && (b == b') && mq_veq x x' && mq_veq y y'
  | .inr (n, k, x, y), .inr (n', k', x', y') => Nat.beq n n' && Nat.beq k k' && mq_veq x x' && mq_veq y y'
  | _, _ => false
def mq_leq (E G : List mq_F) : Bool := match E, G with
  | [], [] => true
  | f :: E, g :: G => mq_feq f g && mq_leq E G
  | _, _ => false
theorem mq_veq_ok {a b : Value} (h : mq_veq a b = true) : a = b := by
  unfold mq_veq at h
  split at h
  · rw [of_decide_eq_true h]
  · rw [Nat.eq_of_beq_eq_true h]
  · rfl
  · cases h
theorem mq_ceq_ok {a b : ClassFile.Cond} (h : mq_ceq a b = true) : a = b := by
  cases a <;> cases b <;> first | rfl | cases h
theorem mq_feq_ok {f g : mq_F} (h : mq_feq f g = true) : f = g := by
  unfold mq_feq at h
  split at h
  · simp only [Bool.and_eq_true, beq_iff_eq] at h
    obtain ⟨⟨⟨h1, h2⟩, h3⟩, h4⟩ := h
    rw [mq_ceq_ok h1, h2, mq_veq_ok h3, mq_veq_ok h4]
  · simp only [Bool.and_eq_true] at h
    obtain ⟨⟨⟨h1, h2⟩, h3⟩, h4⟩ := h
    rw [Nat.eq_of_beq_eq_true h1, Nat.eq_of_beq_eq_true h2, mq_veq_ok h3, mq_veq_ok h4]
  · cases h
theorem mq_leq_ok : ∀ {E G : List mq_F}, mq_leq E G = true → E = G
  | [], [], _ => rfl
  | [], _ :: _, h => nomatch h
  | _ :: _, [], h => nomatch h
  | f :: E, g :: G, h => by
    unfold mq_leq at h
    rw [Bool.and_eq_true] at h
    rw [mq_feq_ok h.1, mq_leq_ok h.2]
/-- the kernel runs this: script vs, answers O, the first free unknown N; ends with 1, within the room, with the facts E -/
noncomputable def mq_ts (n : Nat) (vs : List Value) (O : List Nat) (N : Nat) (E : List mq_F) : Bool := match mq_runA mp_P 4 108 n 2048 84000 0 0 (mj_en 7 [.ref 0]) [] (mq_s0 vs) (O, N, []) with
  | some (.inl (some (.int x)), h1, X1) => decide (x = 1) && Nat.ble h1.1 601028 && Nat.ble (mq_sl h1) 7293073 && mq_leq X1.2.2 E
  | _ => false
theorem mr_lc : ∀ q ∈ mq_lc, mp_P.code 108 q.1 = some q.2 := by
  intro q hq
  simp only [mq_lc, List.mem_cons, List.not_mem_nil, or_false] at hq
  rcases hq with rfl | rfl | rfl | rfl | rfl | rfl | rfl | rfl | rfl | rfl <;> rfl
def mr_ok (ρ : Nat → Int32) (E : List mq_F) : Prop := match E with
  | [] => True
  | f :: E => mq_fh ρ f ∧ mr_ok ρ E
theorem mr_Ok {ρ : Nat → Int32} : ∀ {E : List mq_F}, mr_ok ρ E → mq_Ok ρ E
  | [], _, f, hf => nomatch hf
  | g :: E, h, f, hf => by
    rcases List.mem_cons.mp hf with e | hf
    · exact e ▸ h.1
    · exact mr_Ok h.2 f hf
theorem mr_leaf {n N : Nat} {vs : List Value} {O : List Nat} {E : List mq_F} {ρ xs : Nat → Int32} (ht : mq_ts n vs O N E = true) (hl : vs.length ≤ 16) (hv : vs.map (mq_v ρ) = (List.range vs.length).map (fun j => .int (xs j))) (hE : mr_ok ρ E) : mr_Good vs.length xs := by
  unfold mq_ts at ht
  split at ht
  · rename_i x h1 X1 hx
    simp only [Bool.and_eq_true, decide_eq_true_eq] at ht
    obtain ⟨⟨⟨h2, h3⟩, h4⟩, h5⟩ := ht
    have h5 := mq_leq_ok h5
    have k := (mq_runA_ok mp_df mr_lc n _ _ _ _ _ _ _ _ _ _ _ hx).2 ρ (by rw [h5]; exact mr_Ok hE)
    rw [mr_s0 hl hv] at k
    refine ⟨mq_KK * n, mq_h mp_P ρ h1, ?_, ?_, ?_⟩
    · rw [h2] at k
      exact k
    · rw [mq_h_len]
      exact Nat.le_of_ble_eq_true h3
    · rw [mr_sl]
      exact Nat.le_trans (Nat.le_of_ble_eq_true h4) (Nat.le_add_right _ _)
  · cases ht
/-- unknowns: the script's ints, then what was made of them -/
def mr_ρ (L : Nat) (xs : Nat → Int32) (ds : List Int32) (k : Nat) : Int32 := if k < L then xs k else ds.getD (k - L) 0
theorem mr_leaf5 {n N : Nat} {v0 v1 v2 v3 v4 : Value} {O : List Nat} {E : List mq_F} {ρ xs : Nat → Int32} (ht : mq_ts n [v0, v1, v2, v3, v4] O N E = true) (e0 : mq_v ρ v0 = .int (xs 0)) (e1 : mq_v ρ v1 = .int (xs 1)) (e2 : mq_v ρ v2 = .int (xs 2)) (e3 : mq_v ρ v3 = .int (xs 3)) (e4 : mq_v ρ v4 = .int (xs 4)) (hE : mr_ok ρ E) : mr_Good 5 xs := by
  have hv : [v0, v1, v2, v3, v4].map (mq_v ρ) = (List.range 5).map (fun j => .int (xs j)) := by
    show [mq_v ρ v0, mq_v ρ v1, mq_v ρ v2, mq_v ρ v3, mq_v ρ v4] = [.int (xs 0), .int (xs 1), .int (xs 2), .int (xs 3), .int (xs 4)]
    rw [e0, e1, e2, e3, e4]
  exact mr_leaf (vs := [v0, v1, v2, v3, v4]) ht (by simp) hv hE
/-! numbers -/
theorem mr_i {a b : Int32} (h : a.toInt = b.toInt) : Value.int b = .int a := by rw [Int32.toInt_inj.mp h]
theorem mr_eqt {x y : Int32} {a b : Int} (hx : x.toInt = a) (hy : y.toInt = b) (h : a = b) : mj_cnd .eq x y = true := decide_eq_true (Int32.toInt_inj.mp (by rw [hx, hy, h]))
theorem mr_eqf {x y : Int32} {a b : Int} (hx : x.toInt = a) (hy : y.toInt = b) (h : ¬ a = b) : mj_cnd .eq x y = false := decide_eq_false (fun z => h (by rw [← hx, ← hy, z]))
theorem mr_net {x y : Int32} {a b : Int} (hx : x.toInt = a) (hy : y.toInt = b) (h : ¬ a = b) : mj_cnd .ne x y = true := decide_eq_true (fun z => h (by rw [← hx, ← hy, z]))
theorem mr_nef {x y : Int32} {a b : Int} (hx : x.toInt = a) (hy : y.toInt = b) (h : a = b) : mj_cnd .ne x y = false := decide_eq_false (fun z => z (Int32.toInt_inj.mp (by rw [hx, hy, h])))
theorem mr_ltt {x y : Int32} {a b : Int} (hx : x.toInt = a) (hy : y.toInt = b) (h : a < b) : mj_cnd .lt x y = true := decide_eq_true (Int32.lt_iff_toInt_lt.mpr (by rw [hx, hy]; exact h))
theorem mr_ltf {x y : Int32} {a b : Int} (hx : x.toInt = a) (hy : y.toInt = b) (h : b ≤ a) : mj_cnd .lt x y = false := decide_eq_false (fun z => by have := Int32.lt_iff_toInt_lt.mp z; rw [hx, hy] at this; omega)
theorem mr_gett {x y : Int32} {a b : Int} (hx : x.toInt = a) (hy : y.toInt = b) (h : b ≤ a) : mj_cnd .ge x y = true := decide_eq_true (Int32.le_iff_toInt_le.mpr (by rw [hx, hy]; exact h))
theorem mr_gef {x y : Int32} {a b : Int} (hx : x.toInt = a) (hy : y.toInt = b) (h : a < b) : mj_cnd .ge x y = false := decide_eq_false (fun z => by have := Int32.le_iff_toInt_le.mp z; rw [hx, hy] at this; omega)
theorem mr_gtt {x y : Int32} {a b : Int} (hx : x.toInt = a) (hy : y.toInt = b) (h : b < a) : mj_cnd .gt x y = true := decide_eq_true (Int32.lt_iff_toInt_lt.mpr (by rw [hx, hy]; exact h))
theorem mr_gtf {x y : Int32} {a b : Int} (hx : x.toInt = a) (hy : y.toInt = b) (h : a ≤ b) : mj_cnd .gt x y = false := decide_eq_false (fun z => by have := Int32.lt_iff_toInt_lt.mp z; rw [hx, hy] at this; omega)
theorem mr_let {x y : Int32} {a b : Int} (hx : x.toInt = a) (hy : y.toInt = b) (h : a ≤ b) : mj_cnd .le x y = true := decide_eq_true (Int32.le_iff_toInt_le.mpr (by rw [hx, hy]; exact h))
theorem mr_lef {x y : Int32} {a b : Int} (hx : x.toInt = a) (hy : y.toInt = b) (h : b < a) : mj_cnd .le x y = false := decide_eq_false (fun z => by have := Int32.le_iff_toInt_le.mp z; rw [hx, hy] at this; omega)
theorem mr_chr {x : Int32} {a : Int} (hx : x.toInt = a) (h0 : 0 ≤ a) (h1 : a ≤ 65535) : mj_fit 2 (.int x) = true := by
  show (decide (0 ≤ x) && decide (x ≤ 65535)) = true
  rw [Bool.and_eq_true]
  exact ⟨decide_eq_true (Int32.le_iff_toInt_le.mpr (by rw [hx]; exact h0)), decide_eq_true (Int32.le_iff_toInt_le.mpr (by rw [hx]; exact h1))⟩
theorem mr_add0 (x : Int32) : mq_f 0 0 x = x := by
  show (0 : Int32) + x = x
  exact Int32.zero_add x
theorem mr_and {x m : Int32} {n : Nat} (hm : m.toBitVec.toNat = n) (hn : n < 2147483648) : 0 ≤ (mq_f 3 x m).toInt ∧ (mq_f 3 x m).toInt ≤ n := by
  show 0 ≤ (x &&& m).toInt ∧ (x &&& m).toInt ≤ n
  have h1 : (x &&& m).toBitVec.toNat ≤ n := by
    rw [Int32.toBitVec_and, BitVec.toNat_and, hm]
    exact Nat.and_le_right
  have h2 : (x &&& m).toInt = ((x &&& m).toBitVec.toNat : Int) := by
    show (x &&& m).toBitVec.toInt = _
    rw [BitVec.toInt_eq_toNat_of_lt (by omega)]
  rw [h2]
  omega
theorem mr_sh8 (x : BitVec 32) (k : Nat) (hk : k ≤ 24) : x.sshiftRight k &&& 255#32 = x >>> k &&& 255#32 := by
  apply BitVec.eq_of_getLsbD_eq
  intro i hi
  rw [BitVec.getLsbD_and, BitVec.getLsbD_and]
  by_cases h8 : i < 8
  · rw [BitVec.getLsbD_sshiftRight, BitVec.getLsbD_ushiftRight]
    have e1 : decide (32 ≤ i) = false := decide_eq_false (by omega)
    rw [e1, if_pos (by omega)]
    simp
  · have e : (255#32).getLsbD i = false := by
      rw [BitVec.getLsbD_ofNat]
      have : Nat.testBit 255 i = false := Nat.testBit_lt_two_pow (Nat.lt_of_lt_of_le (by decide : 255 < 2 ^ 8) (Nat.pow_le_pow_right (by decide) (by omega)))
      rw [this, Bool.and_false]
    rw [e, Bool.and_false, Bool.and_false]
theorem mr_sh0 (x : Int32) : mq_f 3 (mq_f 5 x 0) 255 = mq_f 3 (mq_f 6 x 0) 255 := Int32.toBitVec_inj.mp (mr_sh8 x.toBitVec 0 (by decide))
theorem mr_sh1 (x : Int32) : mq_f 3 (mq_f 5 x 8) 255 = mq_f 3 (mq_f 6 x 8) 255 := Int32.toBitVec_inj.mp (mr_sh8 x.toBitVec 8 (by decide))
theorem mr_sh2 (x : Int32) : mq_f 3 (mq_f 5 x 16) 255 = mq_f 3 (mq_f 6 x 16) 255 := Int32.toBitVec_inj.mp (mr_sh8 x.toBitVec 16 (by decide))
theorem mr_sh3 (x : Int32) : mq_f 3 (mq_f 5 x 24) 255 = mq_f 3 (mq_f 6 x 24) 255 := Int32.toBitVec_inj.mp (mr_sh8 x.toBitVec 24 (by decide))
theorem mr_i2c {x : Int32} (h0 : 0 ≤ x.toInt) (h1 : x.toInt ≤ 65535) : mq_f 7 x 0 = x := by
  show (x.toUInt32 % 65536).toInt32 = x
  apply Int32.toBitVec_inj.mp
  show x.toBitVec % 65536#32 = x.toBitVec
  have h0 : 0 ≤ x.toBitVec.toInt := h0
  have h1 : x.toBitVec.toInt ≤ 65535 := h1
  apply BitVec.eq_of_toNat_eq
  rw [BitVec.toInt_eq_toNat_cond] at h0 h1
  have := x.toBitVec.isLt
  rw [BitVec.toNat_umod]
  show _ % 65536 = _
  split at h0 <;> split at h1 <;> omega
theorem mr_out {x y : Int32} {a b : Int} {k : Nat} (hx : x.toInt = a) (hy : y.toInt = b) (h : a < b ∨ (k : Int) < a) : x.toInt < y.toInt ∨ (k : Int) < x.toInt := by
  rw [hx, hy]
  exact h
