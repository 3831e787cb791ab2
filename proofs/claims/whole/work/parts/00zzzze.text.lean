/-! COMPILE: what a text says (Tx k: its letter k, 0 behind its end) -/
abbrev Ps : Type := Nat × List It × Nat
def tav (s : Ps) : Ps := (s.1 + 1, s.2)
def tad (i : It) (s : Ps) : Ps := (s.1, s.2.1 ++ [i], s.2.2)
def tcn (v : Int) (s : Ps) : Int × Ps := ((s.2.2 : Int), (s.1, s.2.1 ++ [(0, (s.2.2 : Int), v, 0, 0)], s.2.2 + 1))
def twk (o x y : Int) (s : Ps) : Int × Ps := ((s.2.2 : Int), (s.1, s.2.1 ++ [(2, (s.2.2 : Int), x, y, o)], s.2.2 + 1))
def tge (x : Int) (s : Ps) : Int × Ps := ((s.2.2 : Int), (s.1, s.2.1 ++ [(3, (s.2.2 : Int), x, 0, 0)], s.2.2 + 1))
section
variable (Tx : Nat → Int)
def tex (c : Int) (s : Ps) : Option Ps := if Tx s.1 = c then some (tav s) else none
def tdg : Nat → Int → Nat → Int × Nat
  | 0 => fun v a => (v, a)
  | n + 1 => fun v a => if 48 ≤ Tx a ∧ Tx a ≤ 57 then tdg n (10 * v + (Tx a - 48)) (a + 1) else (v, a)
def tlo (c1 c2 o1 o2 : Int) (F : Ps → Option (Int × Ps)) : Nat → Int × Ps → Option (Int × Ps)
  | 0 => fun w => some w
  | n + 1 => fun w => if Tx w.2.1 = c1 ∨ Tx w.2.1 = c2 then (F (tav w.2)).bind fun u => tlo c1 c2 o1 o2 F n (twk (if Tx w.2.1 = c1 then o1 else o2) w.1 u.1 u.2) else some w
def tpr (F : Ps → Option (Int × Ps)) (s : Ps) : Option (Int × Ps) := (F s).bind (tlo Tx 42 47 2 3 F 120)
def tsm (F : Ps → Option (Int × Ps)) (s : Ps) : Option (Int × Ps) := (tpr Tx F s).bind (tlo Tx 43 45 0 1 (tpr Tx F) 120)
def txp (F : Ps → Option (Int × Ps)) (s : Ps) : Option (Int × Ps) := (tsm Tx F s).bind fun w => if Tx w.2.1 = 60 ∨ Tx w.2.1 = 61 then (tsm Tx F (tav w.2)).bind fun u => some (twk (if Tx w.2.1 = 60 then 4 else 5) w.1 u.1 u.2) else some w
def tfB (mn : Bool) (F : Ps → Option (Int × Ps)) (s : Ps) : Option (Int × Ps) :=
  if 48 ≤ Tx s.1 ∧ Tx s.1 ≤ 57 then some (tcn (tdg Tx 5 0 s.1).1 ((tdg Tx 5 0 s.1).2, s.2))
  else if 97 ≤ Tx s.1 ∧ Tx s.1 ≤ 102 then some (Tx s.1 - 97, tav s)
  else if Tx s.1 = 120 ∧ mn = false then some (6, tav s)
  else if Tx s.1 = 40 then (txp Tx F (tav s)).bind fun w => (tex Tx 41 w.2).bind fun u => some (w.1, u)
  else if Tx s.1 = 45 then (F (tcn 0 (tav s)).2).bind fun w => some (twk 1 (tcn 0 (tav s)).1 w.1 w.2)
  else if Tx s.1 = 65 then (tex Tx 91 (tav s)).bind fun s1 => (txp Tx F s1).bind fun w => (tex Tx 93 w.2).bind fun u => some (tge w.1 u)
  else none
def tfa (mn : Bool) : Nat → Ps → Option (Int × Ps)
  | 0 => fun _ => none
  | n + 1 => tfB Tx mn (tfa mn n)
/-- an expression -/
def tx (mn : Bool) (s : Ps) : Option (Int × Ps) := txp Tx (tfa Tx mn 6) s
def tss (L : Nat) (S : Ps → Option Ps) : Nat → Ps → Option Ps
  | 0 => fun s => some s
  | n + 1 => fun s => if s.1 < L ∧ Tx s.1 ≠ 125 then (S s).bind (tss L S n) else some s
def tbk (L : Nat) (S : Ps → Option Ps) (s : Ps) : Option Ps := ((tex Tx 123 s).bind (tss Tx L S 120)).bind (tex Tx 125)
def tsB (mn : Bool) (cl : Nat) (K : Ps → Option Ps) (s : Ps) : Option Ps :=
  if Tx s.1 = 33 then (tx Tx mn (tav s)).bind fun w => tex Tx 59 (tad (6, w.1, 0, 0, 0) w.2)
  else if Tx s.1 = 63 then (if 97 ≤ Tx (s.1 + 1) ∧ Tx (s.1 + 1) ≤ 102 then tex Tx 59 (tad (5, Tx (s.1 + 1) - 97, 0, 0, 0) (tav (tav s))) else none)
  else if Tx s.1 = 65 then (tex Tx 91 (tav s)).bind fun s1 => (tx Tx mn s1).bind fun w => (tex Tx 93 w.2).bind fun s2 => (tex Tx 61 s2).bind fun s3 => (tx Tx mn s3).bind fun u => (tex Tx 59 u.2).bind fun s4 => some (tad (4, w.1, u.1, 0, 0) s4)
  else if Tx s.1 = 73 then (tx Tx mn (tav s)).bind fun w => (K (tad (8, w.1, 0, 0, 0) w.2)).bind fun s1 => (K (tad (9, 0, 0, 0, 0) s1)).bind fun s2 => some (tad (12, 0, 0, 0, 0) s2)
  else if 80 ≤ Tx s.1 ∧ Tx s.1 ≤ 82 then (if Tx s.1 - 80 < cl then (tex Tx 40 (tav s)).bind fun s1 => (tx Tx mn s1).bind fun w => (tex Tx 41 w.2).bind fun s2 => (tex Tx 59 s2).bind fun s3 => some (tad (7, w.1, Tx s.1 - 80, 0, 0) s3) else none)
  else if Tx s.1 = 87 then (tx Tx mn (tad (10, 0, 0, 0, 0) (tav s))).bind fun w => (K (tad (11, w.1, 0, 0, 0) w.2)).bind fun s1 => some (tad (12, 0, 0, 0, 0) s1)
  else if 97 ≤ Tx s.1 ∧ Tx s.1 ≤ 102 then (tex Tx 61 (tav s)).bind fun s1 => (tx Tx mn s1).bind fun w => tex Tx 59 (tad (1, Tx s.1 - 97, w.1, 0, 0) w.2)
  else none
/-- a statement: n more blocks may lie in one another -/
def tst (L : Nat) (mn : Bool) (cl : Nat) : Nat → Ps → Option Ps
  | 0 => tsB Tx mn cl (fun _ => none)
  | n + 1 => tsB Tx mn cl (tbk Tx L (tst L mn cl n))
end
def TXT (Tx : Nat → Int) (L : Nat) : Prop := L ≤ 120 ∧ (∀ k, 0 ≤ Tx k ∧ Tx k ≤ 65535) ∧ ∀ k, L ≤ k → Tx k = 0
theorem TXT.lt {Tx : Nat → Int} {L k : Nat} (h : TXT Tx L) (hk : Tx k ≠ 0) : k < L := by
  rcases Nat.lt_or_ge k L with q | q
  · exact q
  · exact absurd (h.2.2 k q) hk
