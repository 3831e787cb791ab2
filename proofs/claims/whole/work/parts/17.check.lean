/-! a program that checks the links -/
/-- tables of a program, by numbers: 0 fields (own class, pool index, 128 * class + field), 1 classes, 2 ints, 3 longs, 4 statics, 5 calls (own, index, method, way), 6 of the library, 7 of throws (own, new, text, constructor, kind), 8 arrays of arrays -/
abbrev mj_Tb : Type := List (Nat × Nat × Nat) × List (Nat × Nat × Nat) × List (Nat × Nat × Int) × List (Nat × Nat × Nat) × List (Nat × Nat × Nat) × List (Nat × Nat × Nat × Nat) × List (Nat × Nat × Nat) × List (Nat × Nat × Nat × Nat × Nat) × List (Nat × Nat × Nat)
def mj_jmp (pc : Nat) (o t : Int) : Bool := decide ((pc : Int) + o = t) && decide (0 ≤ t)
def mj_ck (B : mj_Tb) (P : mj_Pr) (I : mj_I) (ow : Nat → Nat) (fin : Nat → Nat → Bool) (mi pc len : Nat) (i r : Instr) : Bool := match i with
  | .iconst n => (match r with
    | .iconst k => decide (len = 1) && decide (Int32.ofInt k = Int32.ofInt n)
    | .bipush k => decide (len = 2) && decide ((Int8.ofInt k).toInt32 = Int32.ofInt n)
    | .sipush k => decide (len = 3) && decide ((Int16.ofInt k).toInt32 = Int32.ofInt n)
    | .ldc idx => decide (len = 2) && decide ((ow mi, idx, n) ∈ B.2.2.1)
    | _ => false)
  | .ldc2_w n => (match r with
    | .lconst k => decide (len = 1) && decide (Int64.ofNat (k : Nat) = Int64.ofNat n)
    | .ldc2_w idx => decide (len = 3) && decide ((ow mi, idx, n) ∈ B.2.2.2.1)
    | _ => false)
  | .iload k => (match r with
    | .iload j => decide (len = 2) && decide (j = k)
    | .iload_n j => decide (len = 1) && decide ((j : Nat) = k)
    | _ => false)
  | .lload k => (match r with
    | .lload j => decide (len = 2) && decide (j = k)
    | .lload_n j => decide (len = 1) && decide ((j : Nat) = k)
    | _ => false)
  | .aload k => (match r with
    | .aload j => decide (len = 2) && decide (j = k)
    | .aload_n j => decide (len = 1) && decide ((j : Nat) = k)
    | _ => false)
  | .istore k => (match r with
    | .istore j => decide (len = 2) && decide (j = k)
    | .istore_n j => decide (len = 1) && decide ((j : Nat) = k)
    | _ => false)
  | .lstore k => (match r with
    | .lstore j => decide (len = 2) && decide (j = k)
    | .lstore_n j => decide (len = 1) && decide ((j : Nat) = k)
    | _ => false)
  | .astore k => (match r with
    | .astore j => decide (len = 2) && decide (j = k)
    | .astore_n j => decide (len = 1) && decide ((j : Nat) = k)
    | _ => false)
  | .iinc k n => decide (r = .iinc k n) && decide (len = 3)
  | .aconst_null => decide (r = .aconst_null) && decide (len = 1)
  | .iadd => decide (r = .iadd) && decide (len = 1)
  | .isub => decide (r = .isub) && decide (len = 1)
  | .imul => decide (r = .imul) && decide (len = 1)
  | .idiv => decide (r = .idiv) && decide (len = 1)
  | .irem => decide (r = .irem) && decide (len = 1)
  | .ineg => decide (r = .ineg) && decide (len = 1)
  | .iand => decide (r = .iand) && decide (len = 1)
  | .ior => decide (r = .ior) && decide (len = 1)
  | .ixor => decide (r = .ixor) && decide (len = 1)
  | .ishl => decide (r = .ishl) && decide (len = 1)
  | .ishr => decide (r = .ishr) && decide (len = 1)
  | .iushr => decide (r = .iushr) && decide (len = 1)
  | .land => decide (r = .land) && decide (len = 1)
  | .lor => decide (r = .lor) && decide (len = 1)
  | .lxor => decide (r = .lxor) && decide (len = 1)
  | .lshl => decide (r = .lshl) && decide (len = 1)
  | .lshr => decide (r = .lshr) && decide (len = 1)
  | .lushr => decide (r = .lushr) && decide (len = 1)
  | .lcmp => decide (r = .lcmp) && decide (len = 1)
  | .i2l => decide (r = .i2l) && decide (len = 1)
  | .l2i => decide (r = .l2i) && decide (len = 1)
  | .i2c => decide (r = .i2c) && decide (len = 1)
  | .dup => decide (r = .dup) && decide (len = 1)
  | .dup2 => decide (r = .dup2) && decide (len = 1)
  | .pop => decide (r = .pop) && decide (len = 1)
  | .arraylength => decide (r = .arraylength) && decide (len = 1)
  | .iaload => decide (r = .iaload) && decide (len = 1)
  | .laload => decide (r = .laload) && decide (len = 1)
  | .caload => decide (r = .caload) && decide (len = 1)
  | .baload => decide (r = .baload) && decide (len = 1)
  | .aaload => decide (r = .aaload) && decide (len = 1)
  | .iastore => decide (r = .iastore) && decide (len = 1)
  | .lastore => decide (r = .lastore) && decide (len = 1)
  | .castore => decide (r = .castore) && decide (len = 1)
  | .bastore => decide (r = .bastore) && decide (len = 1)
  | .aastore => decide (r = .aastore) && decide (len = 1)
  | .ifCond cd t => (match r with
    | .ifCond ce o => decide (ce = cd) && decide (len = 3) && mj_jmp pc o t
    | _ => false)
  | .if_icmp cd t => (match r with
    | .if_icmp ce o => decide (ce = cd) && decide (len = 3) && mj_jmp pc o t
    | _ => false)
  | .goto t => (match r with
    | .goto o => decide (len = 3) && mj_jmp pc o t
    | _ => false)
  | .ifnull t => (match r with
    | .ifnull o => decide (len = 3) && mj_jmp pc o t
    | _ => false)
  | .ifnonnull t => (match r with
    | .ifnonnull o => decide (len = 3) && mj_jmp pc o t
    | _ => false)
  | .tableswitch d lo hi ts => (match r with
    | .tableswitch d0 lo0 hi0 os => decide (lo0 = lo) && decide (hi0 = hi) && mj_jmp pc d0 d && decide (ts.toList = os.toList.map (fun o => (pc : Int) + o)) && ts.toList.all (fun t => decide (0 ≤ t))
    | _ => false)
  | .lookupswitch d ts => (match r with
    | .lookupswitch d0 os => mj_jmp pc d0 d && decide (ts.toList = os.toList.map (fun q => (q.1, (pc : Int) + q.2))) && ts.toList.all (fun t => decide (0 ≤ t.2)) && (os.toList.zip (os.toList.drop 1)).all (fun (a, next) => a.1 < next.1)
    | _ => false)
  | .getstatic k => (match r with
    | .getstatic idx => decide (len = 3) && decide ((ow mi, idx, k) ∈ B.2.2.2.2.1)
    | _ => false)
  | .getfield n => (match r with
    | .getfield idx => decide (len = 3) && decide ((ow mi, idx, n) ∈ B.1)
    | _ => false)
  | .putfield n => (match r with
    | .putfield idx => decide (len = 3) && decide ((ow mi, idx, n / 16) ∈ B.1) && decide (n % 16 = mj_fk (I.tyf (n / 16 / 128) (n / 16 % 128))) && (!(fin (n / 16 / 128) (n / 16 % 128)) || (decide ((I.nm mi).name = "<init>") && decide (n / 16 / 128 = ow mi)))
    | _ => false)
  | .new ci => (match r with
    | .new idx => decide (len = 3) && decide ((ow mi, idx, ci) ∈ B.2.1)
    | _ => false)
  | .newarray a => decide (r = .newarray a) && decide (len = 2) && decide (mj_kind a ≤ 3)
  | .anewarray t => (match r with
    | .anewarray idx => decide (len = 3) && decide (t = 6) && decide ((ow mi, idx, 6) ∈ B.2.2.2.2.2.2.2.2)
    | _ => false)
  | .multianewarray o dm => (match r with
    | .multianewarray idx d2 => decide (len = 4) && decide (dm = 2) && decide (d2 = 2) && decide (o / 16 = o % 16 + 7) && decide (o % 16 ≤ 1) && decide ((ow mi, idx, o % 16) ∈ B.2.2.2.2.2.2.2.2)
    | _ => false)
  | .return_ => decide (r = .return_) && decide (len = 1) && decide (I.rt mi = none)
  | .ireturn => decide (r = .ireturn) && decide (len = 1) && (match I.rt mi with
    | some ty => decide (P.rk mi = mj_fk ty)
    | none => false)
  | .lreturn => decide (r = .lreturn) && decide (len = 1) && decide (I.rt mi = some .long)
  | .areturn => decide (r = .areturn) && decide (len = 1) && decide (I.rt mi = some (.array .int))
  | .ret x => decide (len = 3) && (I.hd mi).isEmpty && (match r, decode (I.bc mi) (pc + 3), decode (I.bc mi) (pc + 4), decode (I.bc mi) (pc + 6), decode (I.bc mi) (pc + 9) with
    | .new ik, .ok (.dup, 1), .ok (.ldc is, 2), .ok (.invokespecial ic, 3), .ok (.athrow, 1) => decide ((ow mi, ik, is, ic, x) ∈ B.2.2.2.2.2.2.2.1)
    | _, _, _, _, _ => false)
  | .invokestatic k => decide (len = 3) && (if 1000 ≤ k then (match r with
      | .invokestatic idx => decide (1001 ≤ k) && decide ((ow mi, idx, k) ∈ B.2.2.2.2.2.2.1)
      | .invokespecial idx => decide (k = 1000) && decide ((ow mi, idx, k) ∈ B.2.2.2.2.2.2.1)
      | _ => false) else (match r with
      | .invokestatic idx => ((P.hnd mi).isEmpty) && (decide ((ow mi, idx, k, 0) ∈ B.2.2.2.2.2.1) || decide ((ow mi, idx, k, 1) ∈ B.2.2.2.2.2.1))
      | .invokevirtual idx => decide ((ow mi, idx, k, 2) ∈ B.2.2.2.2.2.1)
      | .invokespecial idx => ((P.hnd mi).isEmpty) && (decide ((ow mi, idx, k, 3) ∈ B.2.2.2.2.2.1) || decide ((ow mi, idx, k, 4) ∈ B.2.2.2.2.2.1))
      | _ => false))
  | _ => false
/-- what the tables' entries must be -/
def mj_TbOk (B : mj_Tb) (tb nb ab : List Cond) (cl : List vw_C) (P : mj_Pr) (I : mj_I) (on : Nat → String) (fin : Nat → Nat → Bool) : Prop :=
  (∀ q ∈ B.1, ∃ (C : String) (T : u_T) (N : Nat), mj_ClOk tb cl I.tyf P.dfl (q.2.2 / 128) C T N ∧ q.2.2 % 128 < N ∧ Cond.fieldLink (on q.1) q.2.1 (T (q.2.2 % 128)).1 (T (q.2.2 % 128)).2.1 (T (q.2.2 % 128)).2.2.1 ∈ tb ∧ (T (q.2.2 % 128)).2.2.2 = fin (q.2.2 / 128) (q.2.2 % 128) ∧ (T (q.2.2 % 128)).1 = on (q.2.2 / 128)) ∧
  (∀ q ∈ B.2.1, ∃ (C : String) (T : u_T) (N : Nat), mj_ClOk tb cl I.tyf P.dfl q.2.2 C T N ∧ Cond.classLink (on q.1) q.2.1 C ∈ tb) ∧
  (∀ q ∈ B.2.2.1, Jvm.Cond.constant (on q.1) q.2.1 (Int32.ofInt q.2.2) ∈ tb) ∧
  (∀ q ∈ B.2.2.2.1, Jvm.Cond.constantLong (on q.1) q.2.1 (Int64.ofNat q.2.2) ∈ tb) ∧
  (∀ q ∈ B.2.2.2.2.1, ∃ (C n d host : String), Cond.fieldLinkNest (on q.1) q.2.1 C n d host ∈ nb ∧ (q.2.2, C, n, d) ∈ I.st) ∧
  (∀ q ∈ B.2.2.2.2.2.1, (∃ r : Instr, (q.2.2.2 = 0 ∧ r = .invokestatic q.2.1 ∨ q.2.2.2 = 1 ∧ r = .invokestatic q.2.1 ∨ q.2.2.2 = 2 ∧ r = .invokevirtual q.2.1 ∨ q.2.2.2 = 3 ∧ r = .invokespecial q.2.1 ∨ q.2.2.2 = 4 ∧ r = .invokespecial q.2.1) ∧ mj_OwnL tb nb cl P I (on q.1) [] q.2.2.1 r) ∧ (q.2.2.2 = 2 → (I.hd q.2.2.1).isEmpty = true ∧ (P.rc q.2.2.1).isSome = true)) ∧
  (∀ q ∈ B.2.2.2.2.2.2.1, ∃ r : Instr, (q.2.2 = 1000 ∧ r = .invokespecial q.2.1 ∨ 1001 ≤ q.2.2 ∧ r = .invokestatic q.2.1) ∧ mj_LibL tb (on q.1) q.2.2 (P.np q.2.2) r) ∧
  (∀ q ∈ B.2.2.2.2.2.2.2.1, Cond.classLink (on q.1) q.2.1 (mj_xn (100 + q.2.2.2.2)) ∈ tb ∧ Cond.initialized (mj_xn (100 + q.2.2.2.2)) ∈ tb ∧ (∃ text : String, (on q.1, q.2.2.1, text) ∈ I.tx) ∧
    ∃ (ix : Nat) (rx : ByteArray), decode rx 0 = .ok (.aload_n 0, 1) ∧ decode rx 1 = .ok (.aload_n 1, 1) ∧ decode rx 2 = .ok (.invokespecial ix, 3) ∧ decode rx 5 = .ok (.return_, 1) ∧ ∀ w ∈ Bundle.ownAtomsX (on q.1) q.2.2.2.1 (mj_xn (100 + q.2.2.2.2)) ix rx mj_names, mj_Wt tb (mj_xn (100 + q.2.2.2.2)) w) ∧
  (∀ q ∈ B.2.2.2.2.2.2.2.2, (q.2.2 = 6 ∧ Cond.classLink (on q.1) q.2.1 "PassChain$Part" ∈ tb ∧ Cond.arrayOver (.object "PassChain$Part") ∈ ab) ∨ (q.2.2 ≤ 1 ∧ Cond.classLink (on q.1) q.2.1 ("[" ++ (FieldType.array (mj_ty q.2.2)).toString) ∈ tb ∧ Cond.arrayOver (.array (mj_ty q.2.2)) ∈ ab ∧ Cond.arrayClass (mj_ty q.2.2) ∈ tb)) ∧
  (Cond.arrayClass .int ∈ tb ∧ Cond.arrayClass .long ∈ tb ∧ Cond.arrayClass .char ∈ tb ∧ Cond.arrayClass .boolean ∈ tb) ∧ ∃ (T : u_T) (N : Nat), cl[3]? = some ("PassChain$Part", T, N)
theorem mj_jmp_ok {pc : Nat} {o t : Int} (h : mj_jmp pc o t = true) : (pc : Int) + o = t ∧ 0 ≤ t := by
  simp only [mj_jmp, Bool.and_eq_true, decide_eq_true_eq] at h
  exact h
set_option maxHeartbeats 8000000 in
theorem mj_ck_ok {B : mj_Tb} {tb nb ab : List Cond} {cl : List vw_C} {P : mj_Pr} {I : mj_I} {on : Nat → String} {ow : Nat → Nat} {fin : Nat → Nat → Bool} (hB : mj_TbOk B tb nb ab cl P I on fin) {mi pc len : Nat} (hon : I.own mi = on (ow mi)) {i r : Instr} (h : mj_ck B P I ow fin mi pc len i r = true) : mj_Lk tb nb ab cl P I mi pc len i r := by
  obtain ⟨b0, b1, b2, b3, b4, b5, b6, b7, b8, b9, b10⟩ := hB
  cases i with
  | iconst n =>
    cases r with
    | iconst k =>
      simp only [mj_ck, Bool.and_eq_true, decide_eq_true_eq] at h
      exact Or.inl ⟨k, rfl, h.1, h.2⟩
    | bipush k =>
      simp only [mj_ck, Bool.and_eq_true, decide_eq_true_eq] at h
      exact Or.inr (Or.inl ⟨k, rfl, h.1, h.2⟩)
    | sipush k =>
      simp only [mj_ck, Bool.and_eq_true, decide_eq_true_eq] at h
      exact Or.inr (Or.inr (Or.inl ⟨k, rfl, h.1, h.2⟩))
    | ldc idx =>
      simp only [mj_ck, Bool.and_eq_true, decide_eq_true_eq] at h
      exact Or.inr (Or.inr (Or.inr ⟨idx, rfl, h.1, by rw [hon]; exact b2 _ h.2⟩))
    | _ => exact nomatch (show false = true from h)
  | ldc2_w n =>
    cases r with
    | lconst k =>
      simp only [mj_ck, Bool.and_eq_true, decide_eq_true_eq] at h
      exact Or.inl ⟨k, rfl, h.1, h.2⟩
    | ldc2_w idx =>
      simp only [mj_ck, Bool.and_eq_true, decide_eq_true_eq] at h
      exact Or.inr ⟨idx, rfl, h.1, by rw [hon]; exact b3 _ h.2⟩
    | _ => exact nomatch (show false = true from h)
  | iload k =>
    cases r with
    | iload j =>
      simp only [mj_ck, Bool.and_eq_true, decide_eq_true_eq] at h
      exact Or.inl ⟨by rw [h.2], h.1⟩
    | iload_n j =>
      simp only [mj_ck, Bool.and_eq_true, decide_eq_true_eq] at h
      exact Or.inr ⟨j, rfl, h.2, h.1⟩
    | _ => exact nomatch (show false = true from h)
  | lload k =>
    cases r with
    | lload j =>
      simp only [mj_ck, Bool.and_eq_true, decide_eq_true_eq] at h
      exact Or.inl ⟨by rw [h.2], h.1⟩
    | lload_n j =>
      simp only [mj_ck, Bool.and_eq_true, decide_eq_true_eq] at h
      exact Or.inr ⟨j, rfl, h.2, h.1⟩
    | _ => exact nomatch (show false = true from h)
  | aload k =>
    cases r with
    | aload j =>
      simp only [mj_ck, Bool.and_eq_true, decide_eq_true_eq] at h
      exact Or.inl ⟨by rw [h.2], h.1⟩
    | aload_n j =>
      simp only [mj_ck, Bool.and_eq_true, decide_eq_true_eq] at h
      exact Or.inr ⟨j, rfl, h.2, h.1⟩
    | _ => exact nomatch (show false = true from h)
  | istore k =>
    cases r with
    | istore j =>
      simp only [mj_ck, Bool.and_eq_true, decide_eq_true_eq] at h
      exact Or.inl ⟨by rw [h.2], h.1⟩
    | istore_n j =>
      simp only [mj_ck, Bool.and_eq_true, decide_eq_true_eq] at h
      exact Or.inr ⟨j, rfl, h.2, h.1⟩
    | _ => exact nomatch (show false = true from h)
  | lstore k =>
    cases r with
    | lstore j =>
      simp only [mj_ck, Bool.and_eq_true, decide_eq_true_eq] at h
      exact Or.inl ⟨by rw [h.2], h.1⟩
    | lstore_n j =>
      simp only [mj_ck, Bool.and_eq_true, decide_eq_true_eq] at h
      exact Or.inr ⟨j, rfl, h.2, h.1⟩
    | _ => exact nomatch (show false = true from h)
  | astore k =>
    cases r with
    | astore j =>
      simp only [mj_ck, Bool.and_eq_true, decide_eq_true_eq] at h
      exact Or.inl ⟨by rw [h.2], h.1⟩
    | astore_n j =>
      simp only [mj_ck, Bool.and_eq_true, decide_eq_true_eq] at h
      exact Or.inr ⟨j, rfl, h.2, h.1⟩
    | _ => exact nomatch (show false = true from h)
  | iinc k n =>
    simp only [mj_ck, Bool.and_eq_true, decide_eq_true_eq] at h
    exact h
  | aconst_null =>
    simp only [mj_ck, Bool.and_eq_true, decide_eq_true_eq] at h
    exact h
  | iadd =>
    simp only [mj_ck, Bool.and_eq_true, decide_eq_true_eq] at h
    exact h
  | isub =>
    simp only [mj_ck, Bool.and_eq_true, decide_eq_true_eq] at h
    exact h
  | imul =>
    simp only [mj_ck, Bool.and_eq_true, decide_eq_true_eq] at h
    exact h
  | idiv =>
    simp only [mj_ck, Bool.and_eq_true, decide_eq_true_eq] at h
    exact h
  | irem =>
    simp only [mj_ck, Bool.and_eq_true, decide_eq_true_eq] at h
    exact h
  | ineg =>
    simp only [mj_ck, Bool.and_eq_true, decide_eq_true_eq] at h
    exact h
  | iand =>
    simp only [mj_ck, Bool.and_eq_true, decide_eq_true_eq] at h
    exact h
  | ior =>
    simp only [mj_ck, Bool.and_eq_true, decide_eq_true_eq] at h
    exact h
  | ixor =>
    simp only [mj_ck, Bool.and_eq_true, decide_eq_true_eq] at h
    exact h
  | ishl =>
    simp only [mj_ck, Bool.and_eq_true, decide_eq_true_eq] at h
    exact h
  | ishr =>
    simp only [mj_ck, Bool.and_eq_true, decide_eq_true_eq] at h
    exact h
  | iushr =>
    simp only [mj_ck, Bool.and_eq_true, decide_eq_true_eq] at h
    exact h
  | land =>
    simp only [mj_ck, Bool.and_eq_true, decide_eq_true_eq] at h
    exact h
  | lor =>
    simp only [mj_ck, Bool.and_eq_true, decide_eq_true_eq] at h
    exact h
  | lxor =>
    simp only [mj_ck, Bool.and_eq_true, decide_eq_true_eq] at h
    exact h
  | lshl =>
    simp only [mj_ck, Bool.and_eq_true, decide_eq_true_eq] at h
    exact h
  | lshr =>
    simp only [mj_ck, Bool.and_eq_true, decide_eq_true_eq] at h
    exact h
  | lushr =>
    simp only [mj_ck, Bool.and_eq_true, decide_eq_true_eq] at h
    exact h
  | lcmp =>
    simp only [mj_ck, Bool.and_eq_true, decide_eq_true_eq] at h
    exact h
  | i2l =>
    simp only [mj_ck, Bool.and_eq_true, decide_eq_true_eq] at h
    exact h
  | l2i =>
    simp only [mj_ck, Bool.and_eq_true, decide_eq_true_eq] at h
    exact h
  | i2c =>
    simp only [mj_ck, Bool.and_eq_true, decide_eq_true_eq] at h
    exact h
  | dup =>
    simp only [mj_ck, Bool.and_eq_true, decide_eq_true_eq] at h
    exact h
  | dup2 =>
    simp only [mj_ck, Bool.and_eq_true, decide_eq_true_eq] at h
    exact h
  | pop =>
    simp only [mj_ck, Bool.and_eq_true, decide_eq_true_eq] at h
    exact h
  | arraylength =>
    simp only [mj_ck, Bool.and_eq_true, decide_eq_true_eq] at h
    exact h
  | iaload =>
    simp only [mj_ck, Bool.and_eq_true, decide_eq_true_eq] at h
    exact h
  | laload =>
    simp only [mj_ck, Bool.and_eq_true, decide_eq_true_eq] at h
    exact h
  | caload =>
    simp only [mj_ck, Bool.and_eq_true, decide_eq_true_eq] at h
    exact h
  | baload =>
    simp only [mj_ck, Bool.and_eq_true, decide_eq_true_eq] at h
    exact h
  | aaload =>
    simp only [mj_ck, Bool.and_eq_true, decide_eq_true_eq] at h
    exact h
  | iastore =>
    simp only [mj_ck, Bool.and_eq_true, decide_eq_true_eq] at h
    exact h
  | lastore =>
    simp only [mj_ck, Bool.and_eq_true, decide_eq_true_eq] at h
    exact h
  | castore =>
    simp only [mj_ck, Bool.and_eq_true, decide_eq_true_eq] at h
    exact h
  | bastore =>
    simp only [mj_ck, Bool.and_eq_true, decide_eq_true_eq] at h
    exact h
  | aastore =>
    simp only [mj_ck, Bool.and_eq_true, decide_eq_true_eq] at h
    exact ⟨h, b10⟩
  | ifCond cd t =>
    cases r with
    | ifCond ce o =>
      simp only [mj_ck, Bool.and_eq_true, decide_eq_true_eq] at h
      obtain ⟨⟨rfl, h2⟩, h3⟩ := h
      exact ⟨o, rfl, h2, mj_jmp_ok h3⟩
    | _ => exact nomatch (show false = true from h)
  | if_icmp cd t =>
    cases r with
    | if_icmp ce o =>
      simp only [mj_ck, Bool.and_eq_true, decide_eq_true_eq] at h
      obtain ⟨⟨rfl, h2⟩, h3⟩ := h
      exact ⟨o, rfl, h2, mj_jmp_ok h3⟩
    | _ => exact nomatch (show false = true from h)
  | goto t =>
    cases r with
    | goto o =>
      simp only [mj_ck, Bool.and_eq_true, decide_eq_true_eq] at h
      exact ⟨o, rfl, h.1, mj_jmp_ok h.2⟩
    | _ => exact nomatch (show false = true from h)
  | ifnull t =>
    cases r with
    | ifnull o =>
      simp only [mj_ck, Bool.and_eq_true, decide_eq_true_eq] at h
      exact ⟨o, rfl, h.1, mj_jmp_ok h.2⟩
    | _ => exact nomatch (show false = true from h)
  | ifnonnull t =>
    cases r with
    | ifnonnull o =>
      simp only [mj_ck, Bool.and_eq_true, decide_eq_true_eq] at h
      exact ⟨o, rfl, h.1, mj_jmp_ok h.2⟩
    | _ => exact nomatch (show false = true from h)
  | tableswitch d lo hi ts =>
    cases r with
    | tableswitch d0 lo0 hi0 os =>
      simp only [mj_ck, Bool.and_eq_true, decide_eq_true_eq, List.all_eq_true] at h
      obtain ⟨⟨⟨⟨rfl, rfl⟩, h3⟩, h4⟩, h5⟩ := h
      have h6 := mj_jmp_ok h3
      exact ⟨d0, os, rfl, h6.1, h6.2, h4, h5⟩
    | _ => exact nomatch (show false = true from h)
  | lookupswitch d ts =>
    cases r with
    | lookupswitch d0 os =>
      simp only [mj_ck, Bool.and_eq_true, decide_eq_true_eq] at h
      obtain ⟨⟨⟨h3, h4⟩, h5⟩, h7⟩ := h
      have h6 := mj_jmp_ok h3
      exact ⟨d0, os, rfl, h6.1, h6.2, h4, fun t ht => by simpa using List.all_eq_true.mp h5 t ht, h7⟩
    | _ => exact nomatch (show false = true from h)
  | getstatic k =>
    cases r with
    | getstatic idx =>
      simp only [mj_ck, Bool.and_eq_true, decide_eq_true_eq] at h
      obtain ⟨C, n, d, host, h1, h2⟩ := b4 _ h.2
      exact ⟨idx, C, n, d, host, rfl, h.1, by rw [hon]; exact h1, h2⟩
    | _ => exact nomatch (show false = true from h)
  | getfield n =>
    cases r with
    | getfield idx =>
      simp only [mj_ck, Bool.and_eq_true, decide_eq_true_eq] at h
      obtain ⟨C, T, N, h1, h2, h3, -⟩ := b0 _ h.2
      exact ⟨idx, C, T, N, rfl, h.1, h1, h2, by rw [hon]; exact h3⟩
    | _ => exact nomatch (show false = true from h)
  | putfield n =>
    cases r with
    | putfield idx =>
      simp only [mj_ck, Bool.and_eq_true, decide_eq_true_eq, Bool.or_eq_true, Bool.not_eq_true'] at h
      obtain ⟨⟨⟨h1, h2⟩, h3⟩, h4⟩ := h
      obtain ⟨C, T, N, g1, g2, g3, g4, g5⟩ := b0 _ h2
      refine ⟨idx, C, T, N, rfl, h1, g1, g2, h3, by rw [hon]; exact g3, ?_⟩
      rcases h4 with z | ⟨z1, z2⟩
      · exact Or.inl (g4.trans z)
      · cases hfi : fin (n / 16 / 128) (n / 16 % 128) with
        | false => exact Or.inl (g4.trans hfi)
        | true => exact Or.inr ⟨z1, by rw [hon, ← z2]; exact g5, g4.trans hfi⟩
    | _ => exact nomatch (show false = true from h)
  | new ci =>
    cases r with
    | new idx =>
      simp only [mj_ck, Bool.and_eq_true, decide_eq_true_eq] at h
      obtain ⟨C, T, N, h1, h2⟩ := b1 _ h.2
      exact ⟨idx, C, T, N, rfl, h.1, h1, by rw [hon]; exact h2⟩
    | _ => exact nomatch (show false = true from h)
  | newarray a =>
    simp only [mj_ck, Bool.and_eq_true, decide_eq_true_eq] at h
    obtain ⟨⟨h1, h2⟩, h3⟩ := h
    refine ⟨h1, h2, h3, ?_⟩
    cases a with
    | int => exact b9.1
    | long => exact b9.2.1
    | char => exact b9.2.2.1
    | boolean => exact b9.2.2.2
    | _ => exact absurd h3 (by decide)
  | anewarray t =>
    cases r with
    | anewarray idx =>
      simp only [mj_ck, Bool.and_eq_true, decide_eq_true_eq] at h
      obtain ⟨⟨h1, h2⟩, h3⟩ := h
      rcases b8 _ h3 with ⟨-, z1, z2⟩ | ⟨z, -⟩
      · exact ⟨idx, h2, rfl, h1, by rw [hon]; exact z1, z2⟩
      · exact absurd (show (6 : Nat) ≤ 1 from z) (by decide)
    | _ => exact nomatch (show false = true from h)
  | multianewarray o dm =>
    cases r with
    | multianewarray idx d2 =>
      simp only [mj_ck, Bool.and_eq_true, decide_eq_true_eq] at h
      obtain ⟨⟨⟨⟨⟨h1, h2⟩, h3⟩, h4⟩, h5⟩, h6⟩ := h
      subst h3
      rcases b8 _ h6 with ⟨z, -⟩ | ⟨-, z1, z2, z3⟩
      · have : o % 16 = 6 := z
        omega
      · exact ⟨idx, o % 16, rfl, h1, h2, h4, rfl, h5, by rw [hon]; exact z1, z2, z3⟩
    | _ => exact nomatch (show false = true from h)
  | return_ =>
    simp only [mj_ck, Bool.and_eq_true, decide_eq_true_eq] at h
    exact ⟨h.1.1, h.1.2, h.2⟩
  | ireturn =>
    simp only [mj_ck, Bool.and_eq_true, decide_eq_true_eq] at h
    obtain ⟨⟨h1, h2⟩, h3⟩ := h
    split at h3
    · rename_i ty hty
      exact ⟨h1, h2, ty, hty, by simpa using h3⟩
    · cases h3
  | lreturn =>
    simp only [mj_ck, Bool.and_eq_true, decide_eq_true_eq] at h
    exact ⟨h.1.1, h.1.2, h.2⟩
  | areturn =>
    simp only [mj_ck, Bool.and_eq_true, decide_eq_true_eq] at h
    exact ⟨h.1.1, h.1.2, h.2⟩
  | ret x =>
    simp only [mj_ck, Bool.and_eq_true, decide_eq_true_eq] at h
    obtain ⟨⟨h1, h2⟩, h3⟩ := h
    split at h3
    · rename_i ik is ic d3 d4 d6 d9
      obtain ⟨z1, z2, ⟨text, z3⟩, z4⟩ := b7 _ (of_decide_eq_true h3)
      exact ⟨h1, ik, is, ic, text, rfl, d3, d4, d6, d9, List.isEmpty_iff.mp h2, by rw [hon]; exact z1, z2, by rw [hon]; exact z3, by rw [hon]; exact z4⟩
    · cases h3
  | invokestatic k =>
    simp only [mj_ck, Bool.and_eq_true, decide_eq_true_eq] at h
    obtain ⟨h1, h2⟩ := h
    refine ⟨h1, ?_⟩
    split at h2
    · rename_i hk
      refine Or.inl ⟨hk, ?_⟩
      split at h2
      · rename_i idx
        simp only [Bool.and_eq_true, decide_eq_true_eq] at h2
        obtain ⟨r, hr, hl⟩ := b6 _ h2.2
        rw [hon]
        rcases hr with ⟨z, -⟩ | ⟨-, z⟩
        · have : k = 1000 := z
          omega
        · rw [← z]; exact hl
      · rename_i idx
        simp only [Bool.and_eq_true, decide_eq_true_eq] at h2
        obtain ⟨r, hr, hl⟩ := b6 _ h2.2
        rw [hon]
        rcases hr with ⟨-, z⟩ | ⟨z, -⟩
        · rw [← z]; exact hl
        · have : 1001 ≤ k := z
          omega
      · cases h2
    · rename_i hk
      refine Or.inr ⟨by omega, ?_⟩
      have key : ∀ (idx wy : Nat) (r : Instr), (ow mi, idx, k, wy) ∈ B.2.2.2.2.2.1 → (wy = 0 ∧ r = .invokestatic idx ∨ wy = 1 ∧ r = .invokestatic idx ∨ wy = 2 ∧ r = .invokevirtual idx ∨ wy = 3 ∧ r = .invokespecial idx ∨ wy = 4 ∧ r = .invokespecial idx) → ((P.hnd mi).isEmpty = true ∨ wy = 2) → mj_OwnL tb nb cl P I (I.own mi) (P.hnd mi) k r := by
        intro idx wy r hm hw hs
        obtain ⟨⟨r2, hr2, o1, o2, o3, o4, o5, o6, o7, -⟩, hv⟩ := b5 _ hm
        have hrr : r2 = r := by
          have hr2 : (wy = 0 ∧ r2 = .invokestatic idx ∨ wy = 1 ∧ r2 = .invokestatic idx ∨ wy = 2 ∧ r2 = .invokevirtual idx ∨ wy = 3 ∧ r2 = .invokespecial idx ∨ wy = 4 ∧ r2 = .invokespecial idx) := hr2
          rcases hw with ⟨rfl, rfl⟩ | ⟨rfl, rfl⟩ | ⟨rfl, rfl⟩ | ⟨rfl, rfl⟩ | ⟨rfl, rfl⟩ <;> simpa using hr2
        subst hrr
        rw [hon]
        refine ⟨o1, o2, o3, o4, o5, o6, o7, ?_⟩
        rcases hs with z | z
        · exact Or.inl (List.isEmpty_iff.mp z)
        · obtain ⟨z1, z2⟩ := hv z
          refine Or.inr ⟨z1, z2, fun j hj => ?_⟩
          subst z
          rcases hw with ⟨z, -⟩ | ⟨z, -⟩ | ⟨-, z⟩ | ⟨z, -⟩ | ⟨z, -⟩
          · cases z
          · cases z
          · rw [z] at hj; cases hj
          · cases z
          · cases z
      split at h2
      · rename_i idx
        simp only [Bool.and_eq_true, Bool.or_eq_true, decide_eq_true_eq] at h2
        rcases h2.2 with z | z
        · exact key idx 0 _ z (Or.inl ⟨rfl, rfl⟩) (Or.inl h2.1)
        · exact key idx 1 _ z (Or.inr (Or.inl ⟨rfl, rfl⟩)) (Or.inl h2.1)
      · rename_i idx
        simp only [decide_eq_true_eq] at h2
        exact key idx 2 _ h2 (Or.inr (Or.inr (Or.inl ⟨rfl, rfl⟩))) (Or.inr rfl)
      · rename_i idx
        simp only [Bool.and_eq_true, Bool.or_eq_true, decide_eq_true_eq] at h2
        rcases h2.2 with z | z
        · exact key idx 3 _ z (Or.inr (Or.inr (Or.inr (Or.inl ⟨rfl, rfl⟩)))) (Or.inl h2.1)
        · exact key idx 4 _ z (Or.inr (Or.inr (Or.inr (Or.inr ⟨rfl, rfl⟩)))) (Or.inl h2.1)
      · cases h2
  | _ => exact nomatch (show false = true from h)
