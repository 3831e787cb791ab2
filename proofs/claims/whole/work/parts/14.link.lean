/-! the link between MJ's instructions and the machine's -/
/-- what the tables say of the program: class i's field types, methods' owners, names, bytes, answers, handlers; static arrays; texts -/
abbrev mj_I : Type := (Nat → Nat → FieldType) × (Nat → String) × (Nat → MethodName) × (Nat → ByteArray) × (Nat → Option FieldType) × (Nat → List (Nat × Nat × Nat × Nat)) × List (Nat × String × String × String) × List (String × Nat × String)
abbrev mj_I.tyf (I : mj_I) : Nat → Nat → FieldType := I.1
abbrev mj_I.own (I : mj_I) : Nat → String := I.2.1
abbrev mj_I.nm (I : mj_I) : Nat → MethodName := I.2.2.1
abbrev mj_I.bc (I : mj_I) : Nat → ByteArray := I.2.2.2.1
abbrev mj_I.rt (I : mj_I) : Nat → Option FieldType := I.2.2.2.2.1
abbrev mj_I.hd (I : mj_I) : Nat → List (Nat × Nat × Nat × Nat) := I.2.2.2.2.2.1
abbrev mj_I.st (I : mj_I) : List (Nat × String × String × String) := I.2.2.2.2.2.2.1
abbrev mj_I.tx (I : mj_I) : List (String × Nat × String) := I.2.2.2.2.2.2.2
/-- a class of the system -/
def mj_ClOk (tb : List Cond) (cl : List vw_C) (tyf : Nat → Nat → FieldType) (dfl : Nat → List Value) (ci : Nat) (C : String) (T : u_T) (N : Nat) : Prop :=
  cl[ci]? = some (C, T, N) ∧ ci < 100 ∧ (∀ w ∈ u_ws C T N, w ∈ tb) ∧ (∀ k, k < N → parseFieldDescriptor (T k).2.2.1 = some (tyf ci k)) ∧ (∀ a, a < N → ∀ b, b < N → a ≠ b → (T a).2.1 ≠ (T b).2.1) ∧ (dfl ci).length = N ∧ (∀ j, j < N → defaultValue (tyf ci j) = vp_V (dfl ci) j) ∧ (∀ v ∈ dfl ci, ∀ a, v ≠ .ref a) ∧ Cond.instantiable C N ∈ tb ∧ Cond.initialized C ∈ tb
/-- which word of the tables a call wants, for the methods of the library -/
def mj_LibL (tb : List Cond) (own : String) (k np : Nat) (r : Instr) : Prop := ∃ idx : Nat,
  (k = 1000 ∧ np = 1 ∧ r = .invokespecial idx ∧ Cond.methodLink own idx Lib.objectInit ∈ tb ∧ Cond.instanceMethod Lib.objectInit ∈ tb ∧ Cond.code Lib.objectInit ⟨#[0xb1]⟩ 1 none ∈ tb) ∨
  (k = 1001 ∧ np = 2 ∧ r = .invokestatic idx ∧ Cond.methodLink own idx Lib.Math.max.name ∈ tb ∧ Cond.static Lib.Math.max.name ∈ tb ∧ Cond.initialized "java/lang/Math" ∈ tb ∧ Cond.code Lib.Math.max.name Lib.Math.max.code 2 (some .int) ∈ tb) ∨
  (k = 1002 ∧ np = 2 ∧ r = .invokestatic idx ∧ Cond.methodLink own idx Lib.Math.min.name ∈ tb ∧ Cond.static Lib.Math.min.name ∈ tb ∧ Cond.initialized "java/lang/Math" ∈ tb ∧ Cond.code Lib.Math.min.name Lib.Math.min.code 2 (some .int) ∈ tb) ∨
  (k = 1003 ∧ np = 5 ∧ r = .invokestatic idx ∧ Cond.methodLink own idx arraycopyName ∈ tb ∧ Cond.native arraycopyName ∈ tb ∧ Cond.static arraycopyName ∈ tb ∧ Cond.initialized "java/lang/System" ∈ tb)
/-- .. and for those of the system -/
def mj_OwnL (tb nb : List Cond) (cl : List vw_C) (P : mj_Pr) (I : mj_I) (own : String) (hs : List (Nat × Nat × Nat × Nat)) (k : Nat) (r : Instr) : Prop :=
  mj_Ln tb nb own (I.nm k) (P.np k) (!(I.hd k).isEmpty) (P.rc k).isSome r ∧ plainName (I.nm k).cls = true ∧ I.own k = (I.nm k).cls ∧ ((I.nm k).name = "<init>" → I.rt k = none) ∧ (∀ ci, P.rc k = some ci → ∃ (T : u_T) (N : Nat), cl[ci]? = some ((I.nm k).cls, T, N)) ∧
  ((I.hd k).isEmpty = true → Cond.code (I.nm k) (I.bc k) (P.maxL k) (I.rt k) ∈ tb) ∧ ((I.hd k).isEmpty = false → Cond.codeWith (I.nm k) (I.bc k) (P.maxL k) (I.rt k) (I.hd k) ∈ tb) ∧
  (hs = [] ∨ ((I.hd k).isEmpty = true ∧ (P.rc k).isSome = true ∧ ∀ idx, r ≠ .invokespecial idx))
abbrev mj_names : List String := ["java/lang/RuntimeException", "java/lang/Exception"]
def mj_ThrL (tb : List Cond) (I : mj_I) (own : String) (mi pc x : Nat) (r : Instr) : Prop := ∃ (ik is ic : Nat) (text : String), r = .new ik ∧ decode (I.bc mi) (pc + 3) = .ok (.dup, 1) ∧ decode (I.bc mi) (pc + 4) = .ok (.ldc is, 2) ∧ decode (I.bc mi) (pc + 6) = .ok (.invokespecial ic, 3) ∧ decode (I.bc mi) (pc + 9) = .ok (.athrow, 1) ∧ I.hd mi = [] ∧
  Cond.classLink own ik (mj_xn (100 + x)) ∈ tb ∧ Cond.initialized (mj_xn (100 + x)) ∈ tb ∧ (own, is, text) ∈ I.tx ∧
  ∃ (ix : Nat) (rx : ByteArray), decode rx 0 = .ok (.aload_n 0, 1) ∧ decode rx 1 = .ok (.aload_n 1, 1) ∧ decode rx 2 = .ok (.invokespecial ix, 3) ∧ decode rx 5 = .ok (.return_, 1) ∧ ∀ w ∈ Bundle.ownAtomsX own ic (mj_xn (100 + x)) ix rx mj_names, mj_Wt tb (mj_xn (100 + x)) w
/-- MJ's instruction i at pc of method mi stands for the machine's r -/
def mj_Lk (tb nb ab : List Cond) (cl : List vw_C) (P : mj_Pr) (I : mj_I) (mi pc len : Nat) (i r : Instr) : Prop := match i with
  | .iconst n => (∃ k, r = .iconst k ∧ len = 1 ∧ Int32.ofInt k = Int32.ofInt n) ∨ (∃ k, r = .bipush k ∧ len = 2 ∧ (Int8.ofInt k).toInt32 = Int32.ofInt n) ∨ (∃ k, r = .sipush k ∧ len = 3 ∧ (Int16.ofInt k).toInt32 = Int32.ofInt n) ∨ (∃ idx, r = .ldc idx ∧ len = 2 ∧ Jvm.Cond.constant (I.own mi) idx (Int32.ofInt n) ∈ tb)
  | .ldc2_w n => (∃ k : Fin 2, r = .lconst k ∧ len = 1 ∧ Int64.ofNat (k : Nat) = Int64.ofNat n) ∨ (∃ idx, r = .ldc2_w idx ∧ len = 3 ∧ Jvm.Cond.constantLong (I.own mi) idx (Int64.ofNat n) ∈ tb)
  | .aconst_null => r = .aconst_null ∧ len = 1
  | .iload k => (r = .iload k ∧ len = 2) ∨ (∃ j : Fin 4, r = .iload_n j ∧ (j : Nat) = k ∧ len = 1)
  | .lload k => (r = .lload k ∧ len = 2) ∨ (∃ j : Fin 4, r = .lload_n j ∧ (j : Nat) = k ∧ len = 1)
  | .aload k => (r = .aload k ∧ len = 2) ∨ (∃ j : Fin 4, r = .aload_n j ∧ (j : Nat) = k ∧ len = 1)
  | .istore k => (r = .istore k ∧ len = 2) ∨ (∃ j : Fin 4, r = .istore_n j ∧ (j : Nat) = k ∧ len = 1)
  | .lstore k => (r = .lstore k ∧ len = 2) ∨ (∃ j : Fin 4, r = .lstore_n j ∧ (j : Nat) = k ∧ len = 1)
  | .astore k => (r = .astore k ∧ len = 2) ∨ (∃ j : Fin 4, r = .astore_n j ∧ (j : Nat) = k ∧ len = 1)
  | .iinc k n => r = .iinc k n ∧ len = 3
  | .iadd => r = .iadd ∧ len = 1
  | .isub => r = .isub ∧ len = 1
  | .imul => r = .imul ∧ len = 1
  | .idiv => r = .idiv ∧ len = 1
  | .irem => r = .irem ∧ len = 1
  | .ineg => r = .ineg ∧ len = 1
  | .iand => r = .iand ∧ len = 1
  | .ior => r = .ior ∧ len = 1
  | .ixor => r = .ixor ∧ len = 1
  | .ishl => r = .ishl ∧ len = 1
  | .ishr => r = .ishr ∧ len = 1
  | .iushr => r = .iushr ∧ len = 1
  | .land => r = .land ∧ len = 1
  | .lor => r = .lor ∧ len = 1
  | .lxor => r = .lxor ∧ len = 1
  | .lshl => r = .lshl ∧ len = 1
  | .lshr => r = .lshr ∧ len = 1
  | .lushr => r = .lushr ∧ len = 1
  | .lcmp => r = .lcmp ∧ len = 1
  | .i2l => r = .i2l ∧ len = 1
  | .l2i => r = .l2i ∧ len = 1
  | .i2c => r = .i2c ∧ len = 1
  | .dup => r = .dup ∧ len = 1
  | .dup2 => r = .dup2 ∧ len = 1
  | .pop => r = .pop ∧ len = 1
  | .arraylength => r = .arraylength ∧ len = 1
  | .iaload => r = .iaload ∧ len = 1
  | .laload => r = .laload ∧ len = 1
  | .caload => r = .caload ∧ len = 1
  | .baload => r = .baload ∧ len = 1
  | .aaload => r = .aaload ∧ len = 1
  | .iastore => r = .iastore ∧ len = 1
  | .lastore => r = .lastore ∧ len = 1
  | .castore => r = .castore ∧ len = 1
  | .bastore => r = .bastore ∧ len = 1
  | .aastore => (r = .aastore ∧ len = 1) ∧ ∃ (T : u_T) (N : Nat), cl[3]? = some ("PassChain$Part", T, N)
  | .ifCond cd t => ∃ o : Int, r = .ifCond cd o ∧ len = 3 ∧ (pc : Int) + o = t ∧ 0 ≤ t
  | .if_icmp cd t => ∃ o : Int, r = .if_icmp cd o ∧ len = 3 ∧ (pc : Int) + o = t ∧ 0 ≤ t
  | .goto t => ∃ o : Int, r = .goto o ∧ len = 3 ∧ (pc : Int) + o = t ∧ 0 ≤ t
  | .ifnull t => ∃ o : Int, r = .ifnull o ∧ len = 3 ∧ (pc : Int) + o = t ∧ 0 ≤ t
  | .ifnonnull t => ∃ o : Int, r = .ifnonnull o ∧ len = 3 ∧ (pc : Int) + o = t ∧ 0 ≤ t
  | .tableswitch d lo hi2 ts => ∃ (d0 : Int) (os : Array Int), r = .tableswitch d0 lo hi2 os ∧ (pc : Int) + d0 = d ∧ 0 ≤ d ∧ ts.toList = os.toList.map (fun o => (pc : Int) + o) ∧ ∀ t ∈ ts.toList, 0 ≤ t
  | .lookupswitch d ts => ∃ (d0 : Int) (os : Array (Int × Int)), r = .lookupswitch d0 os ∧ (pc : Int) + d0 = d ∧ 0 ≤ d ∧ ts.toList = os.toList.map (fun q => (q.1, (pc : Int) + q.2)) ∧ (∀ t ∈ ts.toList, 0 ≤ t.2) ∧ (os.toList.zip (os.toList.drop 1)).all (fun (a, next) => a.1 < next.1) = true
  | .getstatic k => ∃ (idx : Nat) (C n d host : String), r = .getstatic idx ∧ len = 3 ∧ Cond.fieldLinkNest (I.own mi) idx C n d host ∈ nb ∧ (k, C, n, d) ∈ I.st
  | .getfield n => ∃ (idx : Nat) (C : String) (T : u_T) (N : Nat), r = .getfield idx ∧ len = 3 ∧ mj_ClOk tb cl I.tyf P.dfl (n / 128) C T N ∧ n % 128 < N ∧ Cond.fieldLink (I.own mi) idx (T (n % 128)).1 (T (n % 128)).2.1 (T (n % 128)).2.2.1 ∈ tb
  | .putfield n => ∃ (idx : Nat) (C : String) (T : u_T) (N : Nat), r = .putfield idx ∧ len = 3 ∧ mj_ClOk tb cl I.tyf P.dfl (n / 16 / 128) C T N ∧ n / 16 % 128 < N ∧ n % 16 = mj_fk (I.tyf (n / 16 / 128) (n / 16 % 128)) ∧ Cond.fieldLink (I.own mi) idx (T (n / 16 % 128)).1 (T (n / 16 % 128)).2.1 (T (n / 16 % 128)).2.2.1 ∈ tb ∧ ((T (n / 16 % 128)).2.2.2 = false ∨ ((I.nm mi).name = "<init>" ∧ (T (n / 16 % 128)).1 = I.own mi ∧ (T (n / 16 % 128)).2.2.2 = true))
  | .new ci => ∃ (idx : Nat) (C : String) (T : u_T) (N : Nat), r = .new idx ∧ len = 3 ∧ mj_ClOk tb cl I.tyf P.dfl ci C T N ∧ Cond.classLink (I.own mi) idx C ∈ tb
  | .newarray a => r = .newarray a ∧ len = 2 ∧ mj_kind a ≤ 3 ∧ Cond.arrayClass (newarray.typeOf a) ∈ tb
  | .anewarray t => ∃ idx : Nat, t = 6 ∧ r = .anewarray idx ∧ len = 3 ∧ Cond.classLink (I.own mi) idx "PassChain$Part" ∈ tb ∧ Cond.arrayOver (.object "PassChain$Part") ∈ ab
  | .multianewarray o dm => ∃ (idx t : Nat), r = .multianewarray idx 2 ∧ len = 4 ∧ dm = 2 ∧ o / 16 = t + 7 ∧ o % 16 = t ∧ t ≤ 1 ∧ Cond.classLink (I.own mi) idx ("[" ++ (FieldType.array (mj_ty t)).toString) ∈ tb ∧ Cond.arrayOver (.array (mj_ty t)) ∈ ab ∧ Cond.arrayClass (mj_ty t) ∈ tb
  | .return_ => r = .return_ ∧ len = 1 ∧ I.rt mi = none
  | .ireturn => r = .ireturn ∧ len = 1 ∧ ∃ ty, I.rt mi = some ty ∧ P.rk mi = mj_fk ty
  | .lreturn => r = .lreturn ∧ len = 1 ∧ I.rt mi = some .long
  | .areturn => r = .areturn ∧ len = 1 ∧ I.rt mi = some (.array .int)
  | .ret x => len = 3 ∧ mj_ThrL tb I (I.own mi) mi pc x r
  | .invokestatic k => len = 3 ∧ ((1000 ≤ k ∧ mj_LibL tb (I.own mi) k (P.np k) r) ∨ (k < 1000 ∧ mj_OwnL tb nb cl P I (I.own mi) (P.hnd mi) k r))
  | _ => False
section MJD
variable {p : Program} {l : Launch} {e : Env} {R : Room} {s : State} {m : MethodId} {args : Array Value} {below : List Frame} {meth : Method} {c : Code} {H : Heap} {locs : List Loc} {cells slots : Nat} {Q : State → Prop}
variable {cc : ByteArray} {pc len pc1 : Nat} {ls : Array Slot} {F : mj_F} {P : mj_Pr} {L L1 : mj_L} {S S1 : List Value} {h h1 : mj_H}
set_option maxHeartbeats 8000000 in
theorem mj_i_ok {tb nb ab : List Cond} {E : State → Prop} {I : mj_I} {mi : Nat} {i r : Instr} (hF : F.ok) (hEst : ∀ U : State, E U → ∀ q ∈ I.st, va_Z q.2.1 q.2.2.1 q.2.2.2 (.ref (F.ad q.1)) (fun z => F.base ≤ z) U F.h0) (hEab : ∀ U : State, E U → ∀ w ∈ ab, ∀ a : Array Value, w.before a U = true) (hexec : p.tables.exec = Jvm.exec) (hb : c.code = cc) (hP : mj_P F s h H) (hX : mj_X F nb E s) (hL : mj_Lr F.ad L ls) (hlo : ∀ q ∈ locs, F.base ≤ q.base) (hts : ∀ w ∈ tb, w.before args s = true) (hown : s.vm.findClass (I.own mi) = some m.cls) (hname : meth.name = (I.nm mi).name)
    (hrc : cells + (h1.length - h.length) ≤ R.cells) (hrs : slots + (mj_sl h1 - mj_sl h) ≤ R.slots) (hdg : decode cc pc = .ok (r, len)) (hlk : mj_Lk tb nb ab F.cl P I mi pc len i r) (hi : mj_i P F.nT i (pc + len) L S h = some (pc1, L1, S1, h1)) (kk : mj_Kt p l e R s m args below meth c F Q h L.length cells slots pc1 L1 S1 h1) : W p l e R s m args below meth c H locs cells slots Q (F0 m pc ls (S.map F.cv)) := by
  cases i with
  | iconst n =>
    rcases hlk with ⟨k, rfl, hl, hv⟩ | ⟨k, rfl, hl, hv⟩ | ⟨k, rfl, hl, hv⟩ | ⟨idx, rfl, hl, hw⟩
    · exact mjo_iconst hexec hb hP hL hlo hv hdg hl hi kk
    · exact mjo_bipush hexec hb hP hL hlo hv hdg hl hi kk
    · exact mjo_sipush hexec hb hP hL hlo hv hdg hl hi kk
    · exact mjo_ldc hexec hb hP hL hlo hown (hts _ hw) hdg hl hi kk
  | ldc2_w n =>
    rcases hlk with ⟨k, rfl, hl, hv⟩ | ⟨idx, rfl, hl, hw⟩
    · exact mjo_lconst hexec hb hP hL hlo hv hdg hl hi kk
    · exact mjo_ldc2 hexec hb hP hL hlo hown (hts _ hw) hdg hl hi kk
  | aconst_null =>
    obtain ⟨rfl, hl⟩ := hlk
    exact mjo_null hexec hb hP hL hlo hdg hl hi kk
  | iload k =>
    rcases hlk with ⟨rfl, hl⟩ | ⟨j, rfl, hj, hl⟩
    · exact mjo_iload hexec hb hP hL hlo hdg hl hi kk
    · exact mjo_iload_n hexec hb hP hL hlo hj hdg hl hi kk
  | lload k =>
    rcases hlk with ⟨rfl, hl⟩ | ⟨j, rfl, hj, hl⟩
    · exact mjo_lload hexec hb hP hL hlo hdg hl hi kk
    · exact mjo_lload_n hexec hb hP hL hlo hj hdg hl hi kk
  | aload k =>
    rcases hlk with ⟨rfl, hl⟩ | ⟨j, rfl, hj, hl⟩
    · exact mjo_aload hexec hb hP hL hlo hdg hl hi kk
    · exact mjo_aload_n hexec hb hP hL hlo hj hdg hl hi kk
  | istore k =>
    rcases hlk with ⟨rfl, hl⟩ | ⟨j, rfl, hj, hl⟩
    · exact mjo_istore hexec hb hP hL hlo hdg hl hi kk
    · exact mjo_istore_n hexec hb hP hL hlo hj hdg hl hi kk
  | lstore k =>
    rcases hlk with ⟨rfl, hl⟩ | ⟨j, rfl, hj, hl⟩
    · exact mjo_lstore hexec hb hP hL hlo hdg hl hi kk
    · exact mjo_lstore_n hexec hb hP hL hlo hj hdg hl hi kk
  | astore k =>
    rcases hlk with ⟨rfl, hl⟩ | ⟨j, rfl, hj, hl⟩
    · exact mjo_astore hexec hb hP hL hlo hdg hl hi kk
    · exact mjo_astore_n hexec hb hP hL hlo hj hdg hl hi kk
  | iinc k n =>
    obtain ⟨rfl, hl⟩ := hlk
    exact mjo_iinc hexec hb hP hL hlo hdg hl hi kk
  | iadd =>
    obtain ⟨rfl, hl⟩ := hlk
    exact mjo_iadd hexec hb hP hL hlo hdg hl hi kk
  | isub =>
    obtain ⟨rfl, hl⟩ := hlk
    exact mjo_isub hexec hb hP hL hlo hdg hl hi kk
  | imul =>
    obtain ⟨rfl, hl⟩ := hlk
    exact mjo_imul hexec hb hP hL hlo hdg hl hi kk
  | idiv =>
    obtain ⟨rfl, hl⟩ := hlk
    exact mjo_idiv hexec hb hP hL hlo hdg hl hi kk
  | irem =>
    obtain ⟨rfl, hl⟩ := hlk
    exact mjo_irem hexec hb hP hL hlo hdg hl hi kk
  | ineg =>
    obtain ⟨rfl, hl⟩ := hlk
    exact mjo_ineg hexec hb hP hL hlo hdg hl hi kk
  | iand =>
    obtain ⟨rfl, hl⟩ := hlk
    exact mjo_iand hexec hb hP hL hlo hdg hl hi kk
  | ior =>
    obtain ⟨rfl, hl⟩ := hlk
    exact mjo_ior hexec hb hP hL hlo hdg hl hi kk
  | ixor =>
    obtain ⟨rfl, hl⟩ := hlk
    exact mjo_ixor hexec hb hP hL hlo hdg hl hi kk
  | ishl =>
    obtain ⟨rfl, hl⟩ := hlk
    exact mjo_ishl hexec hb hP hL hlo hdg hl hi kk
  | ishr =>
    obtain ⟨rfl, hl⟩ := hlk
    exact mjo_ishr hexec hb hP hL hlo hdg hl hi kk
  | iushr =>
    obtain ⟨rfl, hl⟩ := hlk
    exact mjo_iushr hexec hb hP hL hlo hdg hl hi kk
  | land =>
    obtain ⟨rfl, hl⟩ := hlk
    exact mjo_land hexec hb hP hL hlo hdg hl hi kk
  | lor =>
    obtain ⟨rfl, hl⟩ := hlk
    exact mjo_lor hexec hb hP hL hlo hdg hl hi kk
  | lxor =>
    obtain ⟨rfl, hl⟩ := hlk
    exact mjo_lxor hexec hb hP hL hlo hdg hl hi kk
  | lshl =>
    obtain ⟨rfl, hl⟩ := hlk
    exact mjo_lshl hexec hb hP hL hlo hdg hl hi kk
  | lshr =>
    obtain ⟨rfl, hl⟩ := hlk
    exact mjo_lshr hexec hb hP hL hlo hdg hl hi kk
  | lushr =>
    obtain ⟨rfl, hl⟩ := hlk
    exact mjo_lushr hexec hb hP hL hlo hdg hl hi kk
  | lcmp =>
    obtain ⟨rfl, hl⟩ := hlk
    exact mjo_lcmp hexec hb hP hL hlo hdg hl hi kk
  | i2l =>
    obtain ⟨rfl, hl⟩ := hlk
    exact mjo_i2l hexec hb hP hL hlo hdg hl hi kk
  | l2i =>
    obtain ⟨rfl, hl⟩ := hlk
    exact mjo_l2i hexec hb hP hL hlo hdg hl hi kk
  | i2c =>
    obtain ⟨rfl, hl⟩ := hlk
    exact mjo_i2c hexec hb hP hL hlo hdg hl hi kk
  | dup =>
    obtain ⟨rfl, hl⟩ := hlk
    exact mjo_dup hexec hb hP hL hlo hdg hl hi kk
  | dup2 =>
    obtain ⟨rfl, hl⟩ := hlk
    exact mjo_dup2 hexec hb hP hL hlo hdg hl hi kk
  | pop =>
    obtain ⟨rfl, hl⟩ := hlk
    exact mjo_pop hexec hb hP hL hlo hdg hl hi kk
  | arraylength =>
    obtain ⟨rfl, hl⟩ := hlk
    exact mjo_arraylength hexec hb hP hL hlo hdg hl hi kk
  | iaload =>
    obtain ⟨rfl, hl⟩ := hlk
    exact mjo_iaload hexec hb hP hL hlo hdg hl hi kk
  | laload =>
    obtain ⟨rfl, hl⟩ := hlk
    exact mjo_laload hexec hb hP hL hlo hdg hl hi kk
  | caload =>
    obtain ⟨rfl, hl⟩ := hlk
    exact mjo_caload hexec hb hP hL hlo hdg hl hi kk
  | baload =>
    obtain ⟨rfl, hl⟩ := hlk
    exact mjo_baload hexec hb hP hL hlo hdg hl hi kk
  | aaload =>
    obtain ⟨rfl, hl⟩ := hlk
    exact mjo_aaload hexec hb hP hL hlo hdg hl hi kk
  | iastore =>
    obtain ⟨rfl, hl⟩ := hlk
    exact mjo_iastore hF hexec hb hP hL hlo hdg hl hi kk
  | lastore =>
    obtain ⟨rfl, hl⟩ := hlk
    exact mjo_lastore hF hexec hb hP hL hlo hdg hl hi kk
  | castore =>
    obtain ⟨rfl, hl⟩ := hlk
    exact mjo_castore hF hexec hb hP hL hlo hdg hl hi kk
  | bastore =>
    obtain ⟨rfl, hl⟩ := hlk
    exact mjo_bastore hF hexec hb hP hL hlo hdg hl hi kk
  | aastore =>
    obtain ⟨⟨rfl, hl⟩, T, N, hc⟩ := hlk
    exact mjo_aastore hF hexec hb hP hL hlo hc hX.1 hdg hl hi kk
  | ifCond cd t =>
    obtain ⟨o, rfl, hl, ht, h0⟩ := hlk
    cases cd with
    | eq => exact mjo_ifCond_eq hexec hb hP hL hlo ht h0 hdg hl hi kk
    | ne => exact mjo_ifCond_ne hexec hb hP hL hlo ht h0 hdg hl hi kk
    | lt => exact mjo_ifCond_lt hexec hb hP hL hlo ht h0 hdg hl hi kk
    | ge => exact mjo_ifCond_ge hexec hb hP hL hlo ht h0 hdg hl hi kk
    | gt => exact mjo_ifCond_gt hexec hb hP hL hlo ht h0 hdg hl hi kk
    | le => exact mjo_ifCond_le hexec hb hP hL hlo ht h0 hdg hl hi kk
  | if_icmp cd t =>
    obtain ⟨o, rfl, hl, ht, h0⟩ := hlk
    cases cd with
    | eq => exact mjo_if_icmp_eq hexec hb hP hL hlo ht h0 hdg hl hi kk
    | ne => exact mjo_if_icmp_ne hexec hb hP hL hlo ht h0 hdg hl hi kk
    | lt => exact mjo_if_icmp_lt hexec hb hP hL hlo ht h0 hdg hl hi kk
    | ge => exact mjo_if_icmp_ge hexec hb hP hL hlo ht h0 hdg hl hi kk
    | gt => exact mjo_if_icmp_gt hexec hb hP hL hlo ht h0 hdg hl hi kk
    | le => exact mjo_if_icmp_le hexec hb hP hL hlo ht h0 hdg hl hi kk
  | goto t =>
    obtain ⟨o, rfl, hl, ht, h0⟩ := hlk
    exact mjo_goto hexec hb hP hL hlo ht h0 hdg hl hi kk
  | ifnull t =>
    obtain ⟨o, rfl, hl, ht, h0⟩ := hlk
    exact mjo_ifnull hexec hb hP hL hlo ht h0 hdg hl hi kk
  | ifnonnull t =>
    obtain ⟨o, rfl, hl, ht, h0⟩ := hlk
    exact mjo_ifnonnull hexec hb hP hL hlo ht h0 hdg hl hi kk
  | tableswitch d lo hi2 ts =>
    obtain ⟨d0, os, rfl, h1, h2, h3, h4⟩ := hlk
    exact mjo_tableswitch hexec hb hP hL hlo h1 h2 h3 h4 hdg hi kk
  | lookupswitch d ts =>
    obtain ⟨d0, os, rfl, h1, h2, h3, h4, h5⟩ := hlk
    exact mjo_lookupswitch hexec hb hP hL hlo h1 h2 h3 h4 h5 hdg hi kk
  | getstatic k =>
    obtain ⟨idx, C, n, d, host, rfl, hl, hw, hq⟩ := hlk
    exact mjo_getstatic hexec hb hP hL hlo hown (hEst s hX.2.2 _ hq) (va_Nw.use rfl (hX.2.1 _ hw)) hdg hl hi kk
  | getfield n =>
    obtain ⟨idx, C, T, N, rfl, hl, hk, hn, hw⟩ := hlk
    exact mjo_getfield hexec hb hP hL hlo hts hk.2.2.1 hown hX.1 hk.1 hn (hts _ hw) hdg hl hi kk
  | putfield n =>
    obtain ⟨idx, C, T, N, rfl, hl, hk, hn, hq, hw, hfin⟩ := hlk
    rw [← hname] at hfin
    exact mjo_putfield hF hexec hb hP hL hlo hts hk.2.2.1 (I.tyf (n / 16 / 128)) hk.2.2.2.1 hk.2.2.2.2.1 hown hX.1 rfl rfl hk.1 hn hq (hts _ hw) hfin hdg hl hi kk
  | new ci =>
    obtain ⟨idx, C, T, N, rfl, hl, ⟨g1, g2, g3, g4, g5, g6, g7, g8, g9, g10⟩, hw⟩ := hlk
    have hdr : (P.dfl ci).map F.cv = P.dfl ci := by
      have : ∀ v ∈ P.dfl ci, F.cv v = v := fun v hv => by
        have := g8 v hv
        cases v with
        | ref a => exact absurd rfl (this a)
        | _ => rfl
      rw [List.map_congr_left this, List.map_id']
    exact mjo_new hF hexec hb hP hL hlo hts g3 (I.tyf ci) g4 hown (hts _ hw) (hts _ g9) (hts _ g10) hX.1 g1 g2 g6 g7 hdr hrc hrs hdg hl hi kk
  | newarray a =>
    obtain ⟨rfl, hl, hk, hw⟩ := hlk
    cases a with
    | int => exact mjo_newarray hF hexec hb hP hL hlo (hts _ hw) rfl (hX.1.2 0 _ rfl).1 (hX.1.2 0 _ rfl).2 (by decide) rfl rfl hrc hrs hdg hl hi kk
    | long => exact mjo_newarray hF hexec hb hP hL hlo (hts _ hw) rfl (hX.1.2 1 _ rfl).1 (hX.1.2 1 _ rfl).2 (by decide) rfl rfl hrc hrs hdg hl hi kk
    | char => exact mjo_newarray hF hexec hb hP hL hlo (hts _ hw) rfl (hX.1.2 2 _ rfl).1 (hX.1.2 2 _ rfl).2 (by decide) rfl rfl hrc hrs hdg hl hi kk
    | boolean => exact mjo_newarray hF hexec hb hP hL hlo (hts _ hw) rfl (hX.1.2 3 _ rfl).1 (hX.1.2 3 _ rfl).2 (by decide) rfl rfl hrc hrs hdg hl hi kk
    | _ => exact absurd hk (by decide)
  | anewarray t =>
    obtain ⟨idx, rfl, rfl, hl, hw, hw2⟩ := hlk
    exact mjo_anewarray hF hexec hb hP hL hlo hown (hts _ hw) (hEab s hX.2.2 _ hw2 _) hX.1 hrc hrs hdg hl hi kk
  | multianewarray o dm =>
    obtain ⟨idx, t, rfl, hl, rfl, h1, h2, h3, hw1, hw2, hw3⟩ := hlk
    have hcase : t = 0 ∨ t = 1 := by omega
    rcases hcase with rfl | rfl
    · exact mjo_multi hF hexec hb hP hL hlo h1 h2 rfl hown (hts _ hw1) (hEab s hX.2.2 _ hw2 _) (hts _ hw3) (hX.1.2 5 _ rfl).2 (hX.1.2 0 _ rfl).2 (by decide) rfl rfl rfl rfl hrc hrs hdg hl hi kk
    · exact mjo_multi hF hexec hb hP hL hlo h1 h2 rfl hown (hts _ hw1) (hEab s hX.2.2 _ hw2 _) (hts _ hw3) (hX.1.2 6 _ rfl).2 (hX.1.2 1 _ rfl).2 (by decide) rfl rfl rfl rfl hrc hrs hdg hl hi kk
  | return_ => exact nomatch (show (none : Option (Nat × mj_L × List Value × mj_H)) = some (pc1, L1, S1, h1) from hi)
  | ireturn => exact nomatch (show (none : Option (Nat × mj_L × List Value × mj_H)) = some (pc1, L1, S1, h1) from hi)
  | lreturn => exact nomatch (show (none : Option (Nat × mj_L × List Value × mj_H)) = some (pc1, L1, S1, h1) from hi)
  | areturn => exact nomatch (show (none : Option (Nat × mj_L × List Value × mj_H)) = some (pc1, L1, S1, h1) from hi)
  | ret x => exact nomatch (show (none : Option (Nat × mj_L × List Value × mj_H)) = some (pc1, L1, S1, h1) from hi)
  | invokestatic k => exact nomatch (show (none : Option (Nat × mj_L × List Value × mj_H)) = some (pc1, L1, S1, h1) from hi)
  | _ => exact (show False from hlk).elim
end MJD
