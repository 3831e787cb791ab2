/-! the reference's way: a machine with two stacks; that it finds the same -/
abbrev Mq : Type := List Int × List Int × Ps
def str (o : Int) : Int := if o = 2 ∨ o = 3 then 3 else if o < 2 then 2 else 1
def opc (c : Int) : Int := if c = 43 then 0 else if c = 45 then 1 else if c = 42 then 2 else if c = 47 then 3 else if c = 60 then 4 else if c = 61 then 5 else -1
def nst : List Int → Nat
  | [] => 0
  | o :: σ => (if o < 10 then 1 else 0) + nst σ
def pwh : List Int → List Int → Ps → Mq
  | [] => fun π s => ([], π, s)
  | o :: σ => fun π s => match π with
    | y :: x :: π' => if o = 0 then pwh σ ((twk 1 x y s).1 :: π') (twk 1 x y s).2 else (o :: σ, y :: x :: π', s)
    | π' => (o :: σ, π', s)
def prd (k : Int) : List Int → List Int → Ps → Mq
  | [] => fun π s => ([], π, s)
  | o :: σ => fun π s => match π with
    | y :: x :: π' => if 10 ≤ o ∧ k ≤ str (o - 10) then prd k σ ((twk (o - 10) x y s).1 :: π') (twk (o - 10) x y s).2 else (o :: σ, y :: x :: π', s)
    | π' => (o :: σ, π', s)
section
variable (Tx : Nat → Int) (mb : Bool)
def mfa (q : Mq) : Option (Nat × Mq) :=
  if 48 ≤ Tx q.2.2.1 ∧ Tx q.2.2.1 ≤ 57 then some (0, pwh q.1 ((tcn (tdg Tx 5 0 q.2.2.1).1 ((tdg Tx 5 0 q.2.2.1).2, q.2.2.2)).1 :: q.2.1) (tcn (tdg Tx 5 0 q.2.2.1).1 ((tdg Tx 5 0 q.2.2.1).2, q.2.2.2)).2)
  else if 97 ≤ Tx q.2.2.1 ∧ Tx q.2.2.1 ≤ 102 then some (0, pwh q.1 ((Tx q.2.2.1 - 97) :: q.2.1) (tav q.2.2))
  else if Tx q.2.2.1 = 120 ∧ mb = false then some (0, pwh q.1 (6 :: q.2.1) (tav q.2.2))
  else if nst q.1 < 5 then
    (if Tx q.2.2.1 = 40 then some (1, (1 :: q.1, q.2.1, tav q.2.2))
    else if Tx q.2.2.1 = 65 ∧ Tx (q.2.2.1 + 1) = 91 then some (1, (2 :: q.1, q.2.1, tav (tav q.2.2)))
    else if Tx q.2.2.1 = 45 then some (1, (0 :: q.1, (tcn 0 (tav q.2.2)).1 :: q.2.1, (tcn 0 (tav q.2.2)).2))
    else none)
  else none
def mcl (q : Mq) : Option (Nat × Mq) := match q.1 with
  | [] => some (2, q)
  | o :: σ => if Tx q.2.2.1 = 41 ∧ o = 1 then some (0, pwh σ q.2.1 (tav q.2.2)) else if Tx q.2.2.1 = 93 ∧ o = 2 then (match q.2.1 with
    | y :: π' => some (0, pwh σ ((tge y (tav q.2.2)).1 :: π') (tge y (tav q.2.2)).2)
    | [] => none) else none
def mop (op : Int) (q : Mq) : Option (Nat × Mq) := if str op = 1 ∧ 14 ≤ q.1.headD 0 then none else some (1, ((10 + op) :: q.1, q.2.1, tav q.2.2))
def mkk (op : Int) : Int := if op < 0 then 1 else if str op = 1 then 2 else str op
def mbe (q : Mq) : Option (Nat × Mq) := if opc (Tx q.2.2.1) < 0 then mcl Tx (prd 1 q.1 q.2.1 q.2.2) else mop (opc (Tx q.2.2.1)) (prd (mkk (opc (Tx q.2.2.1))) q.1 q.2.1 q.2.2)
def mrun : Nat → Nat → Mq → Option Mq
  | 0 => fun _ _ => none
  | n + 1 => fun w q => if w = 2 then some q else if w = 1 then (mfa Tx mb q).bind fun u => mrun n u.1 u.2 else (mbe Tx q).bind fun u => mrun n u.1 u.2
end
section
variable {Tx : Nat → Int} {L : Nat} {mb : Bool}
theorem mrun_mono : ∀ (n : Nat) (w : Nat) (q r : Mq), mrun Tx mb n w q = some r → mrun Tx mb (n + 1) w q = some r
  | 0, w, q, r, h => by cases h
  | n + 1, w, q, r, h => by
    have h : (if w = 2 then some q else if w = 1 then (mfa Tx mb q).bind fun u => mrun Tx mb n u.1 u.2 else (mbe Tx q).bind fun u => mrun Tx mb n u.1 u.2) = some r := h
    show (if w = 2 then some q else if w = 1 then (mfa Tx mb q).bind fun u => mrun Tx mb (n + 1) u.1 u.2 else (mbe Tx q).bind fun u => mrun Tx mb (n + 1) u.1 u.2) = some r
    split at h
    · next c => rw [if_pos c]; exact h
    · next c =>
      rw [if_neg c]
      split at h
      · next c' =>
        rw [if_pos c']
        cases hm : mfa Tx mb q with
        | none => rw [hm] at h; cases h
        | some u => rw [hm] at h; exact mrun_mono n _ _ _ h
      · next c' =>
        rw [if_neg c']
        cases hm : mbe Tx q with
        | none => rw [hm] at h; cases h
        | some u => rw [hm] at h; exact mrun_mono n _ _ _ h
theorem mrun_add {n w : Nat} {q r : Mq} (h : mrun Tx mb n w q = some r) : ∀ j, mrun Tx mb (n + j) w q = some r
  | 0 => h
  | j + 1 => mrun_mono _ _ _ _ (mrun_add h j)
/-- from one state to another, a letter or more for each step -/
def mR (Tx : Nat → Int) (mb : Bool) (w : Nat) (q : Mq) (w' : Nat) (q' : Mq) : Prop := ∃ k, k + q.2.2.1 ≤ q'.2.2.1 ∧ ∀ j, mrun Tx mb (k + j) w q = mrun Tx mb j w' q'
def mN (Tx : Nat → Int) (mb : Bool) (w : Nat) (q : Mq) : Prop := ∀ j, mrun Tx mb j w q = none
theorem mR.refl {w : Nat} {q : Mq} : mR Tx mb w q w q := ⟨0, by omega, fun j => by rw [Nat.zero_add]⟩
theorem mR.trans {w w' w'' : Nat} {q q' q'' : Mq} (h : mR Tx mb w q w' q') (g : mR Tx mb w' q' w'' q'') : mR Tx mb w q w'' q'' := by
  obtain ⟨k, k1, k2⟩ := h
  obtain ⟨l, l1, l2⟩ := g
  exact ⟨k + l, by omega, fun j => by rw [Nat.add_assoc, k2, l2]⟩
theorem mR.none {w w' : Nat} {q q' : Mq} (h : mR Tx mb w q w' q') (g : mN Tx mb w' q') : mN Tx mb w q := fun j => by
  obtain ⟨k, k1, k2⟩ := h
  cases hj : mrun Tx mb j w q with
  | none => rfl
  | some r =>
    have := mrun_add hj k
    rw [Nat.add_comm, k2, g] at this
    cases this
theorem mrun_1 {j : Nat} {q : Mq} : mrun Tx mb (j + 1) 1 q = (mfa Tx mb q).bind fun u => mrun Tx mb j u.1 u.2 := rfl
theorem mrun_0 {j : Nat} {q : Mq} : mrun Tx mb (j + 1) 0 q = (mbe Tx q).bind fun u => mrun Tx mb j u.1 u.2 := rfl
theorem mrun_2 {j : Nat} {q : Mq} : mrun Tx mb (j + 1) 2 q = some q := rfl
theorem mR.f {q : Mq} {u : Nat × Mq} (h : mfa Tx mb q = some u) (hl : q.2.2.1 < u.2.2.2.1) : mR Tx mb 1 q u.1 u.2 := ⟨1, by omega, fun j => by
  rw [Nat.add_comm, mrun_1, h]
  rfl⟩
theorem mN.f {q : Mq} (h : mfa Tx mb q = none) : mN Tx mb 1 q := fun j => by
  cases j with
  | zero => rfl
  | succ j =>
    rw [mrun_1, h]
    rfl
theorem mR.b {q : Mq} {u : Nat × Mq} (h : mbe Tx q = some u) (hl : q.2.2.1 < u.2.2.2.1) : mR Tx mb 0 q u.1 u.2 := ⟨1, by omega, fun j => by
  rw [Nat.add_comm, mrun_0, h]
  rfl⟩
theorem mN.b {q : Mq} (h : mbe Tx q = none) : mN Tx mb 0 q := fun j => by
  cases j with
  | zero => rfl
  | succ j =>
    rw [mrun_0, h]
    rfl
/-- states before an operator that behave alike -/
theorem mR.eq {q q' : Mq} (h : mbe Tx q = mbe Tx q') (hl : q.2.2.1 ≤ q'.2.2.1) : mR Tx mb 0 q 0 q' := ⟨0, by omega, fun j => by
  rw [Nat.zero_add]
  cases j with
  | zero => rfl
  | succ j => rw [mrun_0, mrun_0, h]⟩
/-- what lies on top binds less than k -/
def low (k : Int) (σ : List Int) : Prop := σ = [] ∨ ∃ o σ', σ = o :: σ' ∧ o ≠ 0 ∧ (10 ≤ o → str (o - 10) < k)
theorem low.mono {k k' : Int} {σ : List Int} (h : low k σ) (hk : k ≤ k') : low k' σ := by
  rcases h with h | ⟨o, σ', h1, h2, h3⟩
  · exact Or.inl h
  · exact Or.inr ⟨o, σ', h1, h2, fun q => by have := h3 q; omega⟩
theorem low.pwh {k : Int} {σ π : List Int} {s : Ps} (h : low k σ) : pwh σ π s = (σ, π, s) := by
  rcases h with rfl | ⟨o, σ', rfl, h2, h3⟩
  · rfl
  · rcases π with _ | ⟨y, _ | ⟨x, π'⟩⟩
    · rfl
    · rfl
    · show (if o = 0 then _ else _) = _
      rw [if_neg h2]
theorem low.prd {k k' : Int} {σ π : List Int} {s : Ps} (h : low k σ) (hk : k ≤ k') : prd k' σ π s = (σ, π, s) := by
  rcases h with rfl | ⟨o, σ', rfl, h2, h3⟩
  · rfl
  · rcases π with _ | ⟨y, _ | ⟨x, π'⟩⟩
    · rfl
    · rfl
    · show (if 10 ≤ o ∧ k' ≤ str (o - 10) then _ else _) = _
      rw [if_neg (fun q => by have := h3 q.1; omega)]
theorem prd_op {k : Int} {op x y : Int} {σ π : List Int} {s : Ps} (h0 : 0 ≤ op) (hk : k ≤ str op) : prd k ((10 + op) :: σ) (y :: x :: π) s = prd k σ ((twk op x y s).1 :: π) (twk op x y s).2 := by
  show (if 10 ≤ 10 + op ∧ k ≤ str (10 + op - 10) then _ else _) = _
  have e : 10 + op - 10 = op := by omega
  rw [e, if_pos ⟨by omega, hk⟩]
theorem str_rg (o : Int) : 1 ≤ str o ∧ str o ≤ 3 := by
  unfold str
  split
  · decide
  · split <;> decide
theorem mkk_rg (o : Int) : 1 ≤ mkk o ∧ mkk o ≤ 3 := by
  have := str_rg o
  unfold mkk
  split
  · decide
  · split
    · decide
    · exact this
/-- a work that is done before every operator that comes now may be done at once -/
theorem mbe_op {op x y : Int} {σ π : List Int} {s : Ps} (h0 : 0 ≤ op) (hk : mkk (opc (Tx s.1)) ≤ str op) : mbe Tx ((10 + op) :: σ, y :: x :: π, s) = mbe Tx (σ, (twk op x y s).1 :: π, (twk op x y s).2) := by
  unfold mbe
  have e : (twk op x y s).2.1 = s.1 := rfl
  show (if opc (Tx s.1) < 0 then mcl Tx (prd 1 ((10 + op) :: σ) (y :: x :: π) s) else mop (opc (Tx s.1)) (prd (mkk (opc (Tx s.1))) ((10 + op) :: σ) (y :: x :: π) s)) = (if opc (Tx (twk op x y s).2.1) < 0 then mcl Tx (prd 1 σ ((twk op x y s).1 :: π) (twk op x y s).2) else mop (opc (Tx (twk op x y s).2.1)) (prd (mkk (opc (Tx (twk op x y s).2.1))) σ ((twk op x y s).1 :: π) (twk op x y s).2))
  rw [e, prd_op h0 (str_rg op).1, prd_op h0 hk]
end
