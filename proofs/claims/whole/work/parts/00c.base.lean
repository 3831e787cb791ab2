/-! base: words, cells, the combinators where they have an answer -/
theorem yb_rg (A : zA) (a j : Nat) : -2147483648 ≤ zi A a j ∧ zi A a j < 2147483648 := by
  have h1 := Int32.le_toInt (zmi A a j)
  have h2 := Int32.toInt_lt (zmi A a j)
  exact ⟨h1, h2⟩
theorem yb_wrg (z : Int) : -2147483648 ≤ zw z ∧ zw z < 2147483648 := by
  have h1 := Int32.le_toInt (Int32.ofInt z)
  have h2 := Int32.toInt_lt (Int32.ofInt z)
  exact ⟨h1, h2⟩
theorem yb_w {z : Int} (h1 : -2147483648 ≤ z) (h2 : z < 2147483648) : zw z = z := by
  unfold zw
  exact Int32.toInt_ofInt_of_le h1 h2
def ri (A : zA) (a : Nat) (e : Int) : Int := zi A a e.toNat
def rs (A : zA) (a : Nat) (e z : Int) : zA := zsi A a e.toNat z
theorem ri_rg (A : zA) (a : Nat) (e : Int) : -2147483648 ≤ ri A a e ∧ ri A a e < 2147483648 := yb_rg _ _ _
theorem zi_si (A : zA) (a j : Nat) (z : Int) (b k : Nat) : zi (zsi A a j z) b k = if b = a ∧ k = j then zw z else zi A b k := by
  unfold zi zsi zmi zup zw
  simp only
  split <;> rfl
theorem zi_si_o {A : zA} {a j : Nat} {z : Int} {b k : Nat} (h : b ≠ a) : zi (zsi A a j z) b k = zi A b k := by
  rw [zi_si, if_neg (fun q => h q.1)]
theorem zi_si_j {A : zA} {a j : Nat} {z : Int} {k : Nat} (h : k ≠ j) : zi (zsi A a j z) a k = zi A a k := by
  rw [zi_si, if_neg (fun q => h q.2)]
theorem zi_si_s {A : zA} {a j : Nat} {z : Int} : zi (zsi A a j z) a j = zw z := by
  rw [zi_si, if_pos ⟨rfl, rfl⟩]
theorem zi_rs_o {A : zA} {a : Nat} {e z : Int} {b k : Nat} (h : b ≠ a) : zi (rs A a e z) b k = zi A b k := zi_si_o h
theorem ri_si_o {A : zA} {a j : Nat} {z : Int} {b : Nat} {f : Int} (h : b ≠ a) : ri (zsi A a j z) b f = ri A b f := zi_si_o h
theorem ri_rs_o {A : zA} {a : Nat} {e z : Int} {b : Nat} {f : Int} (h : b ≠ a) : ri (rs A a e z) b f = ri A b f := zi_si_o h
theorem ri_rs_s {A : zA} {a : Nat} {e z : Int} : ri (rs A a e z) a e = zw z := zi_si_s
theorem ri_rs_n {A : zA} {a : Nat} {e z f : Int} (h0 : 0 ≤ e) (h1 : 0 ≤ f) (h : f ≠ e) : ri (rs A a e z) a f = ri A a f := zi_si_j (by omega)
theorem ri_rs {A : zA} {a : Nat} {e z f : Int} (h0 : 0 ≤ e) (h1 : 0 ≤ f) : ri (rs A a e z) a f = if f = e then zw z else ri A a f := by
  by_cases h : f = e
  · rw [if_pos h, h]; exact ri_rs_s
  · rw [if_neg h]; exact ri_rs_n h0 h1 h
theorem sh_si (A : zA) (a j : Nat) (z : Int) : (zsi A a j z).1 = A.1 := rfl
theorem sh_rs (A : zA) (a : Nat) (e z : Int) : (rs A a e z).1 = A.1 := rfl
theorem zrd_ok {R : Type} {A : zA} {a n : Nat} {e : Int} {K : Int → Option R} (h0 : 0 ≤ e) (h1 : e < n) : zrd A a n e K = K (ri A a e) := if_pos ⟨h0, h1⟩
theorem zwr_ok {R : Type} {A : zA} {a n : Nat} {e z : Int} {K : zA → Option R} (h0 : 0 ≤ e) (h1 : e < n) : zwr A a n e z K = K (rs A a e z) := if_pos ⟨h0, h1⟩
theorem zbP_s {R : Type} {v : Int} {K : Int → Option R} : zbP (some v) K = K v := rfl
theorem zbI_s {R : Type} {v : Int} {A : zA} {K : Int → zA → Option R} : zbI (some (v, A)) K = K v A := rfl
theorem zbV_s {R : Type} {A : zA} {K : zA → Option R} : zbV (some A) K = K A := rfl
theorem zlet_s {α R : Type} {x : α} {K : α → Option R} : zlet x K = K x := rfl
/-- items: kind and four numbers -/
abbrev It : Type := Int × Int × Int × Int × Int
def ig (i : It) (j : Nat) : Int := match j with
  | 0 => i.1
  | 1 => i.2.1
  | 2 => i.2.2.1
  | 3 => i.2.2.2.1
  | 4 => i.2.2.2.2
  | _ => 0
/-- the reference's items: row r is 4 * z + part -/
def rad (r k i : Int) : Int := 5 * (240 * r + k) + i
def ritm (A : zA) (r : Int) (k : Nat) : It := (ri A 228 (rad r k 0), ri A 228 (rad r k 1), ri A 228 (rad r k 2), ri A 228 (rad r k 3), ri A 228 (rad r k 4))
def rn (A : zA) (r : Int) : Int := ri A 229 r
def rP (A : zA) (r : Int) : List It := (List.range (rn A r).toNat).map (ritm A r)
theorem z_M_row_e {N : Nat} {x y : Int} {A : zA} (h0 : 0 ≤ 4 * x + y) (h1 : 4 * x + y < 12) : z_M_row N x y A = some (4 * x + y) := by
  unfold z_M_row
  rw [yb_w (by omega) (by omega)]
theorem z_M_place_e {N : Nat} {x y k : Int} {A : zA} (h0 : 0 ≤ 4 * x + y) (h1 : 4 * x + y < 12) (h2 : 0 ≤ k) (h3 : k ≤ 240) : z_M_place N x y k A = some (rad (4 * x + y) k 0) := by
  unfold z_M_place rad
  rw [yb_w (by omega) (by omega)]
  congr 1; omega
theorem z_M_field_e {N : Nat} {x y k i : Int} {A : zA} (h0 : 0 ≤ 4 * x + y) (h1 : 4 * x + y < 12) (h2 : 0 ≤ k) (h3 : k < 240) (h4 : 0 ≤ i) (h5 : i < 5) : z_M_field N x y k i A = some (ri A 228 (rad (4 * x + y) k i)) := by
  unfold z_M_field
  rw [z_M_place_e h0 h1 h2 (by omega), zbP_s, zrd_ok (by unfold rad; omega) (by unfold rad; omega)]
  unfold rad
  congr 2; omega
theorem z_M_emit_e {N : Nat} {x y a b c d e : Int} {A : zA} (h0 : 0 ≤ 4 * x + y) (h1 : 4 * x + y < 12) (h2 : 0 ≤ rn A (4 * x + y)) (h3 : rn A (4 * x + y) < 240) :
    ∃ B, z_M_emit N x y a b c d e A = some B ∧ B = rs (rs (rs (rs (rs (rs A 228 (rad (4 * x + y) (rn A (4 * x + y)) 0) a) 228 (rad (4 * x + y) (rn A (4 * x + y)) 1) b) 228 (rad (4 * x + y) (rn A (4 * x + y)) 2) c) 228 (rad (4 * x + y) (rn A (4 * x + y)) 3) d) 228 (rad (4 * x + y) (rn A (4 * x + y)) 4) e) 229 (4 * x + y) (rn A (4 * x + y) + 1) := by
  refine ⟨_, ?_, rfl⟩
  unfold z_M_emit
  have hr : ∀ B : zA, z_M_row N x y B = some (4 * x + y) := fun B => z_M_row_e h0 h1
  have hp : z_M_place N x y (rn A (4 * x + y)) A = some (rad (4 * x + y) (rn A (4 * x + y)) 0) := z_M_place_e h0 h1 h2 (by omega)
  generalize hn : rn A (4 * x + y) = n at *
  have hq : ∀ i, rad (4 * x + y) n i = rad (4 * x + y) n 0 + i := fun i => by unfold rad; omega
  have g0 : 0 ≤ rad (4 * x + y) n 0 := by unfold rad; omega
  have g1 : rad (4 * x + y) n 0 + 4 < 14400 := by unfold rad; omega
  unfold rn at hn
  simp (disch := first | decide | omega) only [hr, zbP_s, zrd_ok, hn, hp, zwr_ok, ri_rs_o]
  rw [hq 1, hq 2, hq 3, hq 4]
