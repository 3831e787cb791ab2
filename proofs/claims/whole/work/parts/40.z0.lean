/-! Z: MJ's cells as shapes and three maps (ints, longs, references) -/
abbrev zV : Type := Int ⊕ Int64 ⊕ Option Nat
abbrev zO : Type := Option zV ⊕ (Nat × Nat)
abbrev zLs : Type := List (Option zV)
def zfk (t : FieldType) : Nat := match t with
  | .long => 1
  | .object _ => 2
  | .array _ => 2
  | _ => 0
def zsk (s : zK) (j : Nat) : Nat := match s with
  | (true, t, _) => if t = 1 then 1 else if 6 ≤ t then 2 else 0
  | (false, ci, _) => zfk ((mp_ys ci).getD j .int)
def zrv (r : Option Nat) : Value := match r with
  | some a => .ref a
  | none => .null
def zsv (A : zA) (a : Nat) (s : zK) (j : Nat) : Value := match zsk s j with
  | 0 => .int (zmi A a j)
  | 1 => .long (zml A a j)
  | _ => zrv (zmr A a j)
def zcl (A : zA) (a : Nat) (s : zK) : mj_C := (s.1, s.2.1, (List.range s.2.2).map (zsv A a s))
def zhp (A : zA) : mj_H := A.1.mapIdx (zcl A)
def zval (v : zV) : Value := match v with
  | .inl z => .int (Int32.ofInt z)
  | .inr (.inl x) => .long x
  | .inr (.inr r) => zrv r
def zL (L : zLs) : mj_L := L.map (Option.map zval)
def zS (S : List zV) : List Value := S.map zval
def zo (o : zO) : mj_O := match o with
  | .inl v => .inl (v.map zval)
  | .inr q => .inr q
theorem zhp_len (A : zA) : (zhp A).length = A.1.length := by simp [zhp]
theorem zhp_get (A : zA) (a : Nat) : (zhp A)[a]? = (A.1[a]?).map (zcl A a) := by simp [zhp, List.getElem?_mapIdx]
theorem zhp_at {A : zA} {a : Nat} {s : zK} (h : A.1[a]? = some s) : (zhp A)[a]? = some (zcl A a s) := by rw [zhp_get, h]; rfl
theorem zcl_get (A : zA) (a : Nat) (s : zK) (j : Nat) : (zcl A a s).2.2[j]? = if j < s.2.2 then some (zsv A a s j) else none := by
  simp only [zcl, List.getElem?_map]
  by_cases h : j < s.2.2
  · rw [List.getElem?_range h, if_pos h]; rfl
  · rw [if_neg h, List.getElem?_eq_none (by simpa using h)]; rfl
theorem zcl_len (A : zA) (a : Nat) (s : zK) : (zcl A a s).2.2.length = s.2.2 := by simp [zcl]
theorem zw_rg (z : Int) : zrg (zw z) := by
  have := Int32.toInt_lt (Int32.ofInt z); have := Int32.le_toInt (Int32.ofInt z)
  unfold zrg zw; omega
theorem zi_rg (A : zA) (a j : Nat) : zrg (zi A a j) := by
  have := Int32.toInt_lt (zmi A a j); have := Int32.le_toInt (zmi A a j)
  unfold zrg zi; omega
theorem zt_rg (x : Int32) : zrg x.toInt := by
  have := Int32.toInt_lt x; have := Int32.le_toInt x
  unfold zrg; omega
theorem zof (z : Int) (h : zrg z) : (Int32.ofInt z).toInt = z := by
  unfold zrg at h
  exact Int32.toInt_ofInt_of_le (by omega) (by omega)
theorem zw_of {z : Int} (h1 : -2147483648 ≤ z) (h2 : z < 2147483648) : zw z = z := zof z ⟨h1, h2⟩
theorem zw_rg_of {z : Int} (h : zrg z) : zw z = z := zof z h
theorem zofw (z : Int) : Int32.ofInt (zw z) = Int32.ofInt z := Int32.ofInt_toInt _
theorem zofi (A : zA) (a j : Nat) : Int32.ofInt (zi A a j) = zmi A a j := by simp [zi]
theorem zval_w (z : Int) : zval (.inl (zw z)) = zval (.inl z) := by simp only [zval, zofw]
/-- the heap after a change of one cell's contents -/
theorem zhp_set {A A1 : zA} {a : Nat} {s : zK} (hs : A.1[a]? = some s) (h1 : A1.1 = A.1) (ho : ∀ b t, b ≠ a → A.1[b]? = some t → zcl A1 b t = zcl A b t) : (zhp A).set a (zcl A1 a s) = zhp A1 := by
  apply List.ext_getElem?
  intro b
  rw [List.getElem?_set, zhp_get, zhp_get, zhp_len, h1]
  have hl : a < A.1.length := (List.getElem?_eq_some_iff.mp hs).1
  by_cases e : a = b
  · subst e
    rw [if_pos rfl, if_pos hl, hs]; rfl
  · rw [if_neg e]
    cases hb : A.1[b]? with
    | none => rfl
    | some t => simp only [Option.map_some, ho b t (fun q => e q.symm) hb]
theorem zsv_si (A : zA) (a j : Nat) (z : Int) (b : Nat) (t : zK) (k : Nat) (h : b ≠ a ∨ k ≠ j) : zsv (zsi A a j z) b t k = zsv A b t k := by
  have : ¬ (b = a ∧ k = j) := by omega
  simp only [zsv, zmi, zml, zmr, zsi, zup, if_neg this]
theorem zsv_sl (A : zA) (a j : Nat) (z : Int64) (b : Nat) (t : zK) (k : Nat) (h : b ≠ a ∨ k ≠ j) : zsv (zsl A a j z) b t k = zsv A b t k := by
  have : ¬ (b = a ∧ k = j) := by omega
  simp only [zsv, zmi, zml, zmr, zsl, zup, if_neg this]
theorem zsv_sr (A : zA) (a j : Nat) (z : Option Nat) (b : Nat) (t : zK) (k : Nat) (h : b ≠ a ∨ k ≠ j) : zsv (zsr A a j z) b t k = zsv A b t k := by
  have : ¬ (b = a ∧ k = j) := by omega
  simp only [zsv, zmi, zml, zmr, zsr, zup, if_neg this]
/-- one slot changes -/
theorem zcl_slot {A A1 : zA} {a : Nat} {s : zK} {j : Nat} (v : Value) (hv : zsv A1 a s j = v) (ho : ∀ k, k ≠ j → zsv A1 a s k = zsv A a s k) : (zcl A a s).2.2.set j v = (zcl A1 a s).2.2 := by
  apply List.ext_getElem?
  intro k
  rw [List.getElem?_set, zcl_get, zcl_get, zcl_len]
  by_cases e : j = k
  · subst e; rw [if_pos rfl, hv]
  · rw [if_neg e]
    split
    · rw [ho k (fun q => e q.symm)]
    · rfl
theorem zcl_ext {A A1 : zA} {b : Nat} {t : zK} (h : ∀ k, zsv A1 b t k = zsv A b t k) : zcl A1 b t = zcl A b t := by
  have : zsv A1 b t = zsv A b t := funext h
  simp only [zcl, this]
