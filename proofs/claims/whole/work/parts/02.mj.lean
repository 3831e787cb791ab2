/-! MJ: a small machine without addresses. A cell has a number, its place in the list; the value .ref k is cell number k. A cell: is it an array; which class, or which kind of array; what it holds. -/
abbrev mj_C : Type := Bool × Nat × List Value
abbrev mj_H : Type := List mj_C
abbrev mj_L : Type := List (Option Value)
/-- how a run ends: with an answer; with an exception (its kind, its cell) -/
abbrev mj_O : Type := Option Value ⊕ (Nat × Nat)
/-- a program: resolved code; how many values a call takes; words of locals; handlers (from, to, where, kind of exception); what a new object holds; the class of a method's receiver; what a method's answer is (mj_fit) -/
abbrev mj_Pr : Type := (Nat → Nat → Option (Instr × Nat)) × (Nat → Nat) × (Nat → Nat) × (Nat → List (Nat × Nat × Nat × Nat)) × (Nat → List Value) × (Nat → Option Nat) × (Nat → Nat)
abbrev mj_Pr.code (P : mj_Pr) : Nat → Nat → Option (Instr × Nat) := P.1
abbrev mj_Pr.np (P : mj_Pr) : Nat → Nat := P.2.1
abbrev mj_Pr.maxL (P : mj_Pr) : Nat → Nat := P.2.2.1
abbrev mj_Pr.hnd (P : mj_Pr) : Nat → List (Nat × Nat × Nat × Nat) := P.2.2.2.1
abbrev mj_Pr.dfl (P : mj_Pr) : Nat → List Value := P.2.2.2.2.1
abbrev mj_Pr.rc (P : mj_Pr) : Nat → Option Nat := P.2.2.2.2.2.1
abbrev mj_Pr.rk (P : mj_Pr) : Nat → Nat := P.2.2.2.2.2.2
/-- a local of two words just below i goes when i is written -/
def mj_clr (L : mj_L) (i : Nat) : mj_L := match i with
  | 0 => L
  | j + 1 => match L[j]? with
    | some (some (.long _)) => L.set j none
    | some (some (.double _)) => L.set j none
    | _ => L
def mj_st1 (L : mj_L) (i : Nat) (v : Value) : mj_L := (mj_clr L i).set i (some v)
def mj_st2 (L : mj_L) (i : Nat) (v : Value) : mj_L := ((mj_clr L i).set i (some v)).set (i + 1) none
/-- reading an array of kind t -/
def mj_ald (t : Nat) (h : mj_H) (a : Nat) (x : Int32) : Option Value := match h[a]? with
  | some (true, u, vs) => if u = t ∧ ¬ x < 0 then vs[x.toNatClampNeg]? else none
  | _ => none
/-- a store: the first nT cells are never written -/
def mj_ast (nT t : Nat) (h : mj_H) (a : Nat) (x : Int32) (v : Value) : Option mj_H := match h[a]? with
  | some (true, u, vs) => if u = t ∧ ¬ x < 0 ∧ x.toNatClampNeg < vs.length ∧ nT ≤ a then some (h.set a (true, u, vs.set x.toNatClampNeg v)) else none
  | _ => none
def mj_get (h : mj_H) (a ci j : Nat) : Option Value := match h[a]? with
  | some (false, u, vs) => if u = ci then vs[j]? else none
  | _ => none
def mj_put (nT : Nat) (h : mj_H) (a ci j : Nat) (v : Value) : Option mj_H := match h[a]? with
  | some (false, u, vs) => if u = ci ∧ j < vs.length ∧ nT ≤ a then some (h.set a (false, u, vs.set j v)) else none
  | _ => none
def mj_len (h : mj_H) (a : Nat) : Option Int32 := match h[a]? with
  | some (true, _, vs) => some vs.length.toInt32
  | _ => none
def mj_cnd (c : ClassFile.Cond) (x y : Int32) : Bool := match c with
  | .eq => decide (x = y)
  | .ne => decide (¬ x = y)
  | .lt => decide (x < y)
  | .ge => decide (y ≤ x)
  | .gt => decide (y < x)
  | .le => decide (x ≤ y)
/-- kinds of arrays: 0 int, 1 long, 2 char, 3 boolean, 4 byte, 5 short; from 6 on references -/
def mj_kind (a : ArrayType) : Nat := match a with
  | .int => 0
  | .long => 1
  | .char => 2
  | .boolean => 3
  | .byte => 4
  | .short => 5
  | .float => 98
  | .double => 99
def mj_dv (t : Nat) : Value := match t with
  | 1 => .long 0
  | 0 => .int 0
  | 2 => .int 0
  | 3 => .int 0
  | 4 => .int 0
  | 5 => .int 0
  | _ => .null
/-- what an array of a kind takes as it stands -/
def mj_fit (t : Nat) (v : Value) : Bool := match t, v with
  | 0, .int _ => true
  | 1, .long _ => true
  | 2, .int x => decide (0 ≤ x) && decide (x ≤ 65535)
  | 3, .int x => decide (x = 0) || decide (x = 1)
  | 6, .ref _ => true
  | 6, .null => true
  | _, _ => false
def mj_sw (ps : List (Int × Int)) (d x : Int) : Int := match ps with
  | [] => d
  | (a, t) :: r => if a = x then t else mj_sw r d x
/-- one instruction that is no call and no end; jumps have their targets, not offsets; getfield: 128 * class + field; putfield: 16 * that + what the field takes (mj_fit); anewarray: the kind; multianewarray: 16 * outer kind + inner kind -/
def mj_i (P : mj_Pr) (nT : Nat) (i : Instr) (pc : Nat) (L : mj_L) (S : List Value) (h : mj_H) : Option (Nat × mj_L × List Value × mj_H) := match i with
  | .iconst n => some (pc, L, .int (Int32.ofInt n) :: S, h)
  | .ldc2_w n => some (pc, L, .long (Int64.ofNat n) :: S, h)
  | .aconst_null => some (pc, L, .null :: S, h)
  | .iload k => match L[k]? with
    | some (some (.int x)) => some (pc, L, .int x :: S, h)
    | _ => none
  | .lload k => match L[k]? with
    | some (some (.long x)) => some (pc, L, .long x :: S, h)
    | _ => none
  | .aload k => match L[k]? with
    | some (some (.ref x)) => some (pc, L, .ref x :: S, h)
    | some (some .null) => some (pc, L, .null :: S, h)
    | _ => none
  | .istore k => match S with
    | .int x :: r => if k < L.length then some (pc, mj_st1 L k (.int x), r, h) else none
    | _ => none
  | .lstore k => match S with
    | .long x :: r => if k + 1 < L.length then some (pc, mj_st2 L k (.long x), r, h) else none
    | _ => none
  | .astore k => match S with
    | .ref x :: r => if k < L.length then some (pc, mj_st1 L k (.ref x), r, h) else none
    | .null :: r => if k < L.length then some (pc, mj_st1 L k .null, r, h) else none
    | _ => none
  | .iinc k n => match L[k]? with
    | some (some (.int x)) => some (pc, mj_st1 L k (.int (x + Int32.ofInt n)), S, h)
    | _ => none
  | .iadd => match S with
    | .int y :: .int x :: r => some (pc, L, .int (x + y) :: r, h)
    | _ => none
  | .isub => match S with
    | .int y :: .int x :: r => some (pc, L, .int (x - y) :: r, h)
    | _ => none
  | .imul => match S with
    | .int y :: .int x :: r => some (pc, L, .int (x * y) :: r, h)
    | _ => none
  | .idiv => match S with
    | .int y :: .int x :: r => if y = 0 then none else some (pc, L, .int (x / y) :: r, h)
    | _ => none
  | .irem => match S with
    | .int y :: .int x :: r => if y = 0 then none else some (pc, L, .int (x - x / y * y) :: r, h)
    | _ => none
  | .ineg => match S with
    | .int x :: r => some (pc, L, .int (-x) :: r, h)
    | _ => none
  | .iand => match S with
    | .int y :: .int x :: r => some (pc, L, .int (x &&& y) :: r, h)
    | _ => none
  | .ior => match S with
    | .int y :: .int x :: r => some (pc, L, .int (x ||| y) :: r, h)
    | _ => none
  | .ixor => match S with
    | .int y :: .int x :: r => some (pc, L, .int (x ^^^ y) :: r, h)
    | _ => none
  | .ishl => match S with
    | .int y :: .int x :: r => some (pc, L, .int (x <<< (y &&& 31)) :: r, h)
    | _ => none
  | .ishr => match S with
    | .int y :: .int x :: r => some (pc, L, .int (x >>> (y &&& 31)) :: r, h)
    | _ => none
  | .iushr => match S with
    | .int y :: .int x :: r => some (pc, L, .int ((x.toUInt32 >>> (y.toUInt32 &&& Int32.toUInt32 31)).toInt32) :: r, h)
    | _ => none
  | .land => match S with
    | .long y :: .long x :: r => some (pc, L, .long (x &&& y) :: r, h)
    | _ => none
  | .lor => match S with
    | .long y :: .long x :: r => some (pc, L, .long (x ||| y) :: r, h)
    | _ => none
  | .lxor => match S with
    | .long y :: .long x :: r => some (pc, L, .long (x ^^^ y) :: r, h)
    | _ => none
  | .lshl => match S with
    | .int y :: .long x :: r => some (pc, L, .long (x <<< (y.toInt64 &&& 63)) :: r, h)
    | _ => none
  | .lshr => match S with
    | .int y :: .long x :: r => some (pc, L, .long (x >>> (y.toInt64 &&& 63)) :: r, h)
    | _ => none
  | .lushr => match S with
    | .int y :: .long x :: r => some (pc, L, .long ((x.toUInt64 >>> (y.toInt64.toUInt64 &&& Int64.toUInt64 63)).toInt64) :: r, h)
    | _ => none
  | .lcmp => match S with
    | .long y :: .long x :: r => some (pc, L, .int (lg_cmp x y) :: r, h)
    | _ => none
  | .i2l => match S with
    | .int x :: r => some (pc, L, .long x.toInt64 :: r, h)
    | _ => none
  | .l2i => match S with
    | .long x :: r => some (pc, L, .int x.toInt32 :: r, h)
    | _ => none
  | .i2c => match S with
    | .int x :: r => some (pc, L, .int ((x.toUInt32 % 65536).toInt32) :: r, h)
    | _ => none
  | .dup => match S with
    | .int x :: r => some (pc, L, .int x :: .int x :: r, h)
    | .ref x :: r => some (pc, L, .ref x :: .ref x :: r, h)
    | _ => none
  | .dup2 => match S with
    | .int x :: .ref y :: r => some (pc, L, .int x :: .ref y :: .int x :: .ref y :: r, h)
    | _ => none
  | .pop => match S with
    | .int _ :: r => some (pc, L, r, h)
    | .ref _ :: r => some (pc, L, r, h)
    | _ => none
  | .ifCond c t => match S with
    | .int x :: r => some (if mj_cnd c x 0 then t.toNat else pc, L, r, h)
    | _ => none
  | .if_icmp c t => match S with
    | .int y :: .int x :: r => some (if mj_cnd c x y then t.toNat else pc, L, r, h)
    | _ => none
  | .goto t => some (t.toNat, L, S, h)
  | .ifnull t => match S with
    | .ref _ :: r => some (pc, L, r, h)
    | .null :: r => some (t.toNat, L, r, h)
    | _ => none
  | .ifnonnull t => match S with
    | .ref _ :: r => some (t.toNat, L, r, h)
    | .null :: r => some (pc, L, r, h)
    | _ => none
  | .tableswitch d lo hi ts => match S with
    | .int x :: r => if x.toInt < lo ∨ hi < x.toInt then some (d.toNat, L, r, h) else match ts[(x.toInt - lo).toNat]? with
      | some t => some (t.toNat, L, r, h)
      | none => none
    | _ => none
  | .lookupswitch d ps => match S with
    | .int x :: r => some ((mj_sw ps.toList d x.toInt).toNat, L, r, h)
    | _ => none
  | .getstatic k => if k < nT then some (pc, L, .ref k :: S, h) else none
  | .getfield n => match S with
    | .ref a :: r => match mj_get h a (n / 128) (n % 128) with
      | some v => some (pc, L, v :: r, h)
      | none => none
    | _ => none
  | .putfield n => match S with
    | v :: .ref a :: r => if mj_fit (n % 16) v then match mj_put nT h a (n / 16 / 128) (n / 16 % 128) v with
      | some h1 => some (pc, L, r, h1)
      | none => none
      else none
    | _ => none
  | .new ci => some (pc, L, .ref h.length :: S, h ++ [(false, ci, P.dfl ci)])
  | .newarray a => match S with
    | .int n :: r => if ¬ n < 0 ∧ n.toNatClampNeg ≤ 1000000 then some (pc, L, .ref h.length :: r, h ++ [(true, mj_kind a, List.replicate n.toNatClampNeg (mj_dv (mj_kind a)))]) else none
    | _ => none
  | .anewarray t => match S with
    | .int n :: r => if ¬ n < 0 ∧ n.toNatClampNeg ≤ 1000000 then some (pc, L, .ref h.length :: r, h ++ [(true, t, List.replicate n.toNatClampNeg .null)]) else none
    | _ => none
  | .multianewarray t _ => match S with
    | .int m :: .int n :: r => if ¬ n < 0 ∧ n.toNatClampNeg ≤ 1000 ∧ ¬ m < 0 ∧ m.toNatClampNeg ≤ 1000 then some (pc, L, .ref h.length :: r, h ++ (true, t / 16, (List.range n.toNatClampNeg).map (fun j => .ref (h.length + 1 + j))) :: List.replicate n.toNatClampNeg (true, t % 16, List.replicate m.toNatClampNeg (mj_dv (t % 16)))) else none
    | _ => none
  | .arraylength => match S with
    | .ref a :: r => match mj_len h a with
      | some n => some (pc, L, .int n :: r, h)
      | none => none
    | _ => none
  | .iaload => match S with
    | .int x :: .ref a :: r => match mj_ald 0 h a x with
      | some v => some (pc, L, v :: r, h)
      | none => none
    | _ => none
  | .laload => match S with
    | .int x :: .ref a :: r => match mj_ald 1 h a x with
      | some v => some (pc, L, v :: r, h)
      | none => none
    | _ => none
  | .caload => match S with
    | .int x :: .ref a :: r => match mj_ald 2 h a x with
      | some v => some (pc, L, v :: r, h)
      | none => none
    | _ => none
  | .baload => match S with
    | .int x :: .ref a :: r => match mj_ald 3 h a x with
      | some v => some (pc, L, v :: r, h)
      | none => none
    | _ => none
  | .aaload => match S with
    | .int x :: .ref a :: r => match h[a]? with
      | some (true, u, vs) => if 6 ≤ u ∧ u ≤ 8 ∧ ¬ x < 0 then match vs[x.toNatClampNeg]? with
        | some v => some (pc, L, v :: r, h)
        | none => none
        else none
      | _ => none
    | _ => none
  | .iastore => match S with
    | .int v :: .int x :: .ref a :: r => match mj_ast nT 0 h a x (.int v) with
      | some h1 => some (pc, L, r, h1)
      | none => none
    | _ => none
  | .lastore => match S with
    | .long v :: .int x :: .ref a :: r => match mj_ast nT 1 h a x (.long v) with
      | some h1 => some (pc, L, r, h1)
      | none => none
    | _ => none
  | .castore => match S with
    | .int v :: .int x :: .ref a :: r => if mj_fit 2 (.int v) then match mj_ast nT 2 h a x (.int v) with
      | some h1 => some (pc, L, r, h1)
      | none => none
      else none
    | _ => none
  | .bastore => match S with
    | .int v :: .int x :: .ref a :: r => if mj_fit 3 (.int v) then match mj_ast nT 3 h a x (.int v) with
      | some h1 => some (pc, L, r, h1)
      | none => none
      else none
    | _ => none
  | .aastore => match S with
    | .ref v :: .int x :: .ref a :: r => match h[v]? with
      | some (false, 3, _) => match mj_ast nT 6 h a x (.ref v) with
        | some h1 => some (pc, L, r, h1)
        | none => none
      | _ => none
    | _ => none
  | _ => none
/-- the values that a call takes off the stack: in the callee's order -/
def mj_pop (n : Nat) (S acc : List Value) : Option (List Value × List Value) := match n, S with
  | 0, S => some (acc, S)
  | _ + 1, [] => none
  | n + 1, v :: S => mj_pop n S (v :: acc)
/-- locals at a method's entry -/
def mj_in (as : List Value) : mj_L := match as with
  | [] => []
  | .long x :: r => some (.long x) :: none :: mj_in r
  | .double x :: r => some (.double x) :: none :: mj_in r
  | v :: r => some v :: mj_in r
def mj_en (n : Nat) (as : List Value) : mj_L := mj_in as ++ List.replicate (n - (mj_in as).length) none
def mj_wd (S : List Value) : Nat := match S with
  | [] => 0
  | .long _ :: r => mj_wd r + 2
  | .double _ :: r => mj_wd r + 2
  | _ :: r => mj_wd r + 1
def mj_ints (vs : List Value) : Bool := vs.all fun v => match v with
  | .int _ => true
  | _ => false
def mj_lngs (vs : List Value) : Bool := vs.all fun v => match v with
  | .long _ => true
  | _ => false
def mj_cpl (f g : List Value) (sp dp n : Nat) : List Value := g.take dp ++ (f.drop sp).take n ++ g.drop (dp + n)
/-- methods of the library that are no code here: 1000 Object's constructor, 1001 max, 1002 min, 1003 arraycopy -/
def mj_lib (nT k : Nat) (as : List Value) (h : mj_H) : Option (Option Value × mj_H) := match k, as with
  | 1000, [.ref _] => some (none, h)
  | 1001, [.int x, .int y] => some (some (.int (if x < y then y else x)), h)
  | 1002, [.int x, .int y] => some (some (.int (if y < x then y else x)), h)
  | 1003, [.ref a, .int sp, .ref b, .int dp, .int n] => match h[a]?, h[b]? with
    | some (true, t, f), some (true, u, g) => if t = u ∧ ((t = 0 ∧ mj_ints f ∧ mj_ints g) ∨ (t = 1 ∧ mj_lngs f ∧ mj_lngs g)) ∧ nT ≤ a ∧ nT ≤ b ∧ ¬ a = b ∧ ¬ sp < 0 ∧ ¬ dp < 0 ∧ ¬ n < 0 ∧ sp.toNatClampNeg + n.toNatClampNeg ≤ f.length ∧ dp.toNatClampNeg + n.toNatClampNeg ≤ g.length
      then some (none, h.set b (true, u, mj_cpl f g sp.toNatClampNeg dp.toNatClampNeg n.toNatClampNeg)) else none
    | _, _ => none
  | _, _ => none
/-- where an exception of kind x, thrown at pc, is caught -/
def mj_hn (hs : List (Nat × Nat × Nat × Nat)) (pc x : Nat) : Option Nat := match hs with
  | [] => none
  | (a, b, t, y) :: r => if a ≤ pc ∧ pc < b ∧ x = y then some t else mj_hn r pc x
def mj_rcv (c : Option Nat) (as : List Value) (h : mj_H) : Bool := match c, as with
  | none, _ => true
  | some ci, .ref a :: _ => (match h[a]? with
    | some (false, u, _) => decide (u = ci)
    | _ => false)
  | _, _ => false
/-- one step of a method mi at pc, d frames and w words of locals left; 'go' runs the rest; '.ret x' stands for 'throw new', of the kind x -/
def mj_body (P : mj_Pr) (nT : Nat) (go : Nat → Nat → Nat → Nat → mj_L → List Value → mj_H → Option (mj_O × mj_H)) (d w mi pc : Nat) (L : mj_L) (S : List Value) (h : mj_H) : Option (mj_O × mj_H) := match P.code mi pc with
  | none => none
  | some (i, len) => match i with
    | .return_ => match S with
      | [] => some (.inl none, h)
      | _ => none
    | .ireturn => match S with
      | [.int x] => if mj_fit (P.rk mi) (.int x) then some (.inl (some (.int x)), h) else none
      | _ => none
    | .lreturn => match S with
      | [.long x] => some (.inl (some (.long x)), h)
      | _ => none
    | .areturn => match S with
      | [.ref x] => some (.inl (some (.ref x)), h)
      | _ => none
    | .ret x => match S with
      | [] => if x ≤ 2 ∧ 8 ≤ d ∧ 10300 ≤ w then some (.inr (x, h.length), h ++ [(false, 100 + x, [])]) else none
      | _ => none
    | .invokestatic k => if 1000 ≤ k then match mj_pop (P.np k) S [] with
        | some (as, r) => if 1 ≤ d ∧ 64 ≤ w ∧ mj_wd r ≤ 8 then match mj_lib nT k as h with
          | some (v, h1) => go d w mi (pc + len) L (v.toList ++ r) h1
          | none => none
          else none
        | none => none
      else match mj_pop (P.np k) S [] with
        | some (as, r) => if 1 ≤ d ∧ P.maxL k + 19 ≤ w ∧ mj_wd r ≤ 8 ∧ mj_rcv (P.rc k) as h = true ∧ (mj_in as).length ≤ P.maxL k then match go (d - 1) (w - (P.maxL k + 19)) k 0 (mj_en (P.maxL k) as) [] h with
          | some (.inl v, h1) => go d w mi (pc + len) L (v.toList ++ r) h1
          | some (.inr (x, a), h1) => match mj_hn (P.hnd mi) pc x with
            | some t => go d w mi t L [.ref a] h1
            | none => none
          | none => none
          else none
        | none => none
    | i => match mj_i P nT i (pc + len) L S h with
      | some (pc1, L1, S1, h1) => go d w mi pc1 L1 S1 h1
      | none => none
/-- the machine: n steps at most -/
def mj_ex (P : mj_Pr) (nT : Nat) : Nat → Nat → Nat → Nat → Nat → mj_L → List Value → mj_H → Option (mj_O × mj_H)
  | 0, _, _, _, _, _, _, _ => none
  | n + 1, d, w, mi, pc, L, S, h => mj_body P nT (mj_ex P nT n) d w mi pc L S h
