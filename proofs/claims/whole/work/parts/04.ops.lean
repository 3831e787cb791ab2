/-! each instruction of MJ stands for one of the machine -/
section MJO
variable {p : Program} {l : Launch} {e : Env} {R : Room} {s : State} {m : MethodId} {args : Array Value} {below : List Frame} {meth : Method} {c : Code} {H : Heap} {locs : List Loc} {cells slots : Nat} {Q : State → Prop}
variable {cc : ByteArray} {pc len pc1 : Nat} {ls : Array Slot} {F : mj_F} {P : mj_Pr} {L L1 : mj_L} {S S1 : List Value} {h h1 : mj_H}
/-- what is to be shown of the place behind an instruction -/
def mj_Kt (p : Program) (l : Launch) (e : Env) (R : Room) (s : State) (m : MethodId) (args : Array Value) (below : List Frame) (meth : Method) (c : Code) (F : mj_F) (Q : State → Prop) (h : mj_H) (nL : Nat) (cells slots : Nat) (pc1 : Nat) (L1 : mj_L) (S1 : List Value) (h1 : mj_H) : Prop :=
  ∀ (H1 : Heap) (locs1 : List Loc) (ls1 : Array Slot), mj_P F s h1 H1 → mj_Lr F.ad L1 ls1 → (∀ q ∈ locs1, F.base ≤ q.base) → L1.length = nL → W p l e R s m args below meth c H1 locs1 (cells + (h1.length - h.length)) (slots + (mj_sl h1 - mj_sl h)) Q (F0 m pc1 ls1 (S1.map F.cv))
theorem mj_Kt.go {nL : Nat} (kk : mj_Kt p l e R s m args below meth c F Q h nL cells slots pc1 L1 S1 h) (hP : mj_P F s h H) (hL : mj_Lr F.ad L1 ls) (hlo : ∀ q ∈ locs, F.base ≤ q.base) (hn : L1.length = nL) : W p l e R s m args below meth c H locs cells slots Q (F0 m pc1 ls (S1.map F.cv)) := by
  have k := kk H locs ls hP hL hlo hn
  rwa [Nat.sub_self, Nat.sub_self, Nat.add_zero, Nat.add_zero] at k
theorem mjo_iconst (hexec : p.tables.exec = Jvm.exec) (hb : c.code = cc) (hP : mj_P F s h H) (hL : mj_Lr F.ad L ls) (hlo : ∀ q ∈ locs, F.base ≤ q.base) {n k : Int} (hv : Int32.ofInt k = Int32.ofInt n) (hdg : decode cc pc = .ok (.iconst k, len)) (hlen : len = 1) (hi : mj_i P F.nT (.iconst n) (pc + len) L S h = some (pc1, L1, S1, h1)) (kk : mj_Kt p l e R s m args below meth c F Q h L.length cells slots pc1 L1 S1 h1) : W p l e R s m args below meth c H locs cells slots Q (F0 m pc ls (S.map F.cv)) := by
  subst hlen
  cases (show some _ = some (pc1, L1, S1, h1) from hi)
  exact lv_iconst hexec hb hdg hv (kk.go hP hL hlo rfl)
theorem mjo_bipush (hexec : p.tables.exec = Jvm.exec) (hb : c.code = cc) (hP : mj_P F s h H) (hL : mj_Lr F.ad L ls) (hlo : ∀ q ∈ locs, F.base ≤ q.base) {n k : Int} (hv : (Int8.ofInt k).toInt32 = Int32.ofInt n) (hdg : decode cc pc = .ok (.bipush k, len)) (hlen : len = 2) (hi : mj_i P F.nT (.iconst n) (pc + len) L S h = some (pc1, L1, S1, h1)) (kk : mj_Kt p l e R s m args below meth c F Q h L.length cells slots pc1 L1 S1 h1) : W p l e R s m args below meth c H locs cells slots Q (F0 m pc ls (S.map F.cv)) := by
  subst hlen
  cases (show some _ = some (pc1, L1, S1, h1) from hi)
  exact lv_bipush hexec hb hdg hv (kk.go hP hL hlo rfl)
theorem mjo_sipush (hexec : p.tables.exec = Jvm.exec) (hb : c.code = cc) (hP : mj_P F s h H) (hL : mj_Lr F.ad L ls) (hlo : ∀ q ∈ locs, F.base ≤ q.base) {n k : Int} (hv : (Int16.ofInt k).toInt32 = Int32.ofInt n) (hdg : decode cc pc = .ok (.sipush k, len)) (hlen : len = 3) (hi : mj_i P F.nT (.iconst n) (pc + len) L S h = some (pc1, L1, S1, h1)) (kk : mj_Kt p l e R s m args below meth c F Q h L.length cells slots pc1 L1 S1 h1) : W p l e R s m args below meth c H locs cells slots Q (F0 m pc ls (S.map F.cv)) := by
  subst hlen
  cases (show some _ = some (pc1, L1, S1, h1) from hi)
  exact lv_sipush hexec hb hdg hv (kk.go hP hL hlo rfl)
theorem mjo_ldc (hexec : p.tables.exec = Jvm.exec) (hb : c.code = cc) (hP : mj_P F s h H) (hL : mj_Lr F.ad L ls) (hlo : ∀ q ∈ locs, F.base ≤ q.base) {n : Int} {own : String} {idx : Nat} (hown : s.vm.findClass own = some m.cls) (hc : (Jvm.Cond.constant own idx (Int32.ofInt n)).before args s = true) (hdg : decode cc pc = .ok (.ldc idx, len)) (hlen : len = 2) (hi : mj_i P F.nT (.iconst n) (pc + len) L S h = some (pc1, L1, S1, h1)) (kk : mj_Kt p l e R s m args below meth c F Q h L.length cells slots pc1 L1 S1 h1) : W p l e R s m args below meth c H locs cells slots Q (F0 m pc ls (S.map F.cv)) := by
  subst hlen
  cases (show some _ = some (pc1, L1, S1, h1) from hi)
  exact lv_ldc hexec hb hown hc hdg (kk.go hP hL hlo rfl)
theorem mjo_lconst (hexec : p.tables.exec = Jvm.exec) (hb : c.code = cc) (hP : mj_P F s h H) (hL : mj_Lr F.ad L ls) (hlo : ∀ q ∈ locs, F.base ≤ q.base) {n : Nat} {k : Fin 2} (hv : Int64.ofNat (k : Nat) = Int64.ofNat n) (hdg : decode cc pc = .ok (.lconst k, len)) (hlen : len = 1) (hi : mj_i P F.nT (.ldc2_w n) (pc + len) L S h = some (pc1, L1, S1, h1)) (kk : mj_Kt p l e R s m args below meth c F Q h L.length cells slots pc1 L1 S1 h1) : W p l e R s m args below meth c H locs cells slots Q (F0 m pc ls (S.map F.cv)) := by
  subst hlen
  cases (show some _ = some (pc1, L1, S1, h1) from hi)
  exact lv_lconst hexec hb hdg hv (kk.go hP hL hlo rfl)
theorem mjo_ldc2 (hexec : p.tables.exec = Jvm.exec) (hb : c.code = cc) (hP : mj_P F s h H) (hL : mj_Lr F.ad L ls) (hlo : ∀ q ∈ locs, F.base ≤ q.base) {n : Nat} {own : String} {idx : Nat} (hown : s.vm.findClass own = some m.cls) (hc : (Jvm.Cond.constantLong own idx (Int64.ofNat n)).before args s = true) (hdg : decode cc pc = .ok (.ldc2_w idx, len)) (hlen : len = 3) (hi : mj_i P F.nT (.ldc2_w n) (pc + len) L S h = some (pc1, L1, S1, h1)) (kk : mj_Kt p l e R s m args below meth c F Q h L.length cells slots pc1 L1 S1 h1) : W p l e R s m args below meth c H locs cells slots Q (F0 m pc ls (S.map F.cv)) := by
  subst hlen
  cases (show some _ = some (pc1, L1, S1, h1) from hi)
  exact lv_ldc2 hexec hb hown hc hdg (kk.go hP hL hlo rfl)
theorem mjo_null (hexec : p.tables.exec = Jvm.exec) (hb : c.code = cc) (hP : mj_P F s h H) (hL : mj_Lr F.ad L ls) (hlo : ∀ q ∈ locs, F.base ≤ q.base) (hdg : decode cc pc = .ok (.aconst_null, len)) (hlen : len = 1) (hi : mj_i P F.nT .aconst_null (pc + len) L S h = some (pc1, L1, S1, h1)) (kk : mj_Kt p l e R s m args below meth c F Q h L.length cells slots pc1 L1 S1 h1) : W p l e R s m args below meth c H locs cells slots Q (F0 m pc ls (S.map F.cv)) := by
  subst hlen
  cases (show some _ = some (pc1, L1, S1, h1) from hi)
  exact lv_null hexec hb hdg (kk.go hP hL hlo rfl)
theorem mjo_iload (hexec : p.tables.exec = Jvm.exec) (hb : c.code = cc) (hP : mj_P F s h H) (hL : mj_Lr F.ad L ls) (hlo : ∀ q ∈ locs, F.base ≤ q.base) {k : Nat} (hdg : decode cc pc = .ok (.iload k, len)) (hlen : len = 2) (hi : mj_i P F.nT (.iload k) (pc + len) L S h = some (pc1, L1, S1, h1)) (kk : mj_Kt p l e R s m args below meth c F Q h L.length cells slots pc1 L1 S1 h1) : W p l e R s m args below meth c H locs cells slots Q (F0 m pc ls (S.map F.cv)) := by
  subst hlen
  have hi : (match (generalizing := false) L[k]? with
    | some (some (.int x)) => some (pc + 2, L, .int x :: S, h)
    | _ => none) = some (pc1, L1, S1, h1) := hi
  split at hi
  · rename_i x hx
    cases hi
    exact lv_iload hexec hb hdg (hL.at hx) (kk.go hP hL hlo rfl)
  · cases hi
theorem mjo_iload_n (hexec : p.tables.exec = Jvm.exec) (hb : c.code = cc) (hP : mj_P F s h H) (hL : mj_Lr F.ad L ls) (hlo : ∀ q ∈ locs, F.base ≤ q.base) {k : Nat} {j : Fin 4} (hj : (j : Nat) = k) (hdg : decode cc pc = .ok (.iload_n j, len)) (hlen : len = 1) (hi : mj_i P F.nT (.iload k) (pc + len) L S h = some (pc1, L1, S1, h1)) (kk : mj_Kt p l e R s m args below meth c F Q h L.length cells slots pc1 L1 S1 h1) : W p l e R s m args below meth c H locs cells slots Q (F0 m pc ls (S.map F.cv)) := by
  subst hlen
  have hi : (match (generalizing := false) L[k]? with
    | some (some (.int x)) => some (pc + 1, L, .int x :: S, h)
    | _ => none) = some (pc1, L1, S1, h1) := hi
  split at hi
  · rename_i x hx
    cases hi
    exact lv_iload_n hexec hb hdg hj (hL.at hx) (kk.go hP hL hlo rfl)
  · cases hi
theorem mjo_lload (hexec : p.tables.exec = Jvm.exec) (hb : c.code = cc) (hP : mj_P F s h H) (hL : mj_Lr F.ad L ls) (hlo : ∀ q ∈ locs, F.base ≤ q.base) {k : Nat} (hdg : decode cc pc = .ok (.lload k, len)) (hlen : len = 2) (hi : mj_i P F.nT (.lload k) (pc + len) L S h = some (pc1, L1, S1, h1)) (kk : mj_Kt p l e R s m args below meth c F Q h L.length cells slots pc1 L1 S1 h1) : W p l e R s m args below meth c H locs cells slots Q (F0 m pc ls (S.map F.cv)) := by
  subst hlen
  have hi : (match (generalizing := false) L[k]? with
    | some (some (.long x)) => some (pc + 2, L, .long x :: S, h)
    | _ => none) = some (pc1, L1, S1, h1) := hi
  split at hi
  · rename_i x hx
    cases hi
    exact lv_lload hexec hb hdg (hL.at hx) (kk.go hP hL hlo rfl)
  · cases hi
theorem mjo_lload_n (hexec : p.tables.exec = Jvm.exec) (hb : c.code = cc) (hP : mj_P F s h H) (hL : mj_Lr F.ad L ls) (hlo : ∀ q ∈ locs, F.base ≤ q.base) {k : Nat} {j : Fin 4} (hj : (j : Nat) = k) (hdg : decode cc pc = .ok (.lload_n j, len)) (hlen : len = 1) (hi : mj_i P F.nT (.lload k) (pc + len) L S h = some (pc1, L1, S1, h1)) (kk : mj_Kt p l e R s m args below meth c F Q h L.length cells slots pc1 L1 S1 h1) : W p l e R s m args below meth c H locs cells slots Q (F0 m pc ls (S.map F.cv)) := by
  subst hlen
  have hi : (match (generalizing := false) L[k]? with
    | some (some (.long x)) => some (pc + 1, L, .long x :: S, h)
    | _ => none) = some (pc1, L1, S1, h1) := hi
  split at hi
  · rename_i x hx
    cases hi
    exact lv_lload_n hexec hb hdg hj (hL.at hx) (kk.go hP hL hlo rfl)
  · cases hi
theorem mjo_aload (hexec : p.tables.exec = Jvm.exec) (hb : c.code = cc) (hP : mj_P F s h H) (hL : mj_Lr F.ad L ls) (hlo : ∀ q ∈ locs, F.base ≤ q.base) {k : Nat} (hdg : decode cc pc = .ok (.aload k, len)) (hlen : len = 2) (hi : mj_i P F.nT (.aload k) (pc + len) L S h = some (pc1, L1, S1, h1)) (kk : mj_Kt p l e R s m args below meth c F Q h L.length cells slots pc1 L1 S1 h1) : W p l e R s m args below meth c H locs cells slots Q (F0 m pc ls (S.map F.cv)) := by
  subst hlen
  have hi : (match (generalizing := false) L[k]? with
    | some (some (.ref x)) => some (pc + 2, L, .ref x :: S, h)
    | some (some .null) => some (pc + 2, L, .null :: S, h)
    | _ => none) = some (pc1, L1, S1, h1) := hi
  split at hi
  · rename_i x hx
    cases hi
    exact lv_aload hexec hb hdg (hL.at hx) (kk.go hP hL hlo rfl)
  · rename_i hx
    cases hi
    exact lv_aloadN hexec hb hdg (hL.at hx) (kk.go hP hL hlo rfl)
  · cases hi
theorem mjo_aload_n (hexec : p.tables.exec = Jvm.exec) (hb : c.code = cc) (hP : mj_P F s h H) (hL : mj_Lr F.ad L ls) (hlo : ∀ q ∈ locs, F.base ≤ q.base) {k : Nat} {j : Fin 4} (hj : (j : Nat) = k) (hdg : decode cc pc = .ok (.aload_n j, len)) (hlen : len = 1) (hi : mj_i P F.nT (.aload k) (pc + len) L S h = some (pc1, L1, S1, h1)) (kk : mj_Kt p l e R s m args below meth c F Q h L.length cells slots pc1 L1 S1 h1) : W p l e R s m args below meth c H locs cells slots Q (F0 m pc ls (S.map F.cv)) := by
  subst hlen
  have hi : (match (generalizing := false) L[k]? with
    | some (some (.ref x)) => some (pc + 1, L, .ref x :: S, h)
    | some (some .null) => some (pc + 1, L, .null :: S, h)
    | _ => none) = some (pc1, L1, S1, h1) := hi
  split at hi
  · rename_i x hx
    cases hi
    exact lv_aload_n hexec hb hdg hj (hL.at hx) (kk.go hP hL hlo rfl)
  · rename_i hx
    cases hi
    exact lv_aload_nN hexec hb hdg hj (hL.at hx) (kk.go hP hL hlo rfl)
  · cases hi
theorem mjo_istore (hexec : p.tables.exec = Jvm.exec) (hb : c.code = cc) (hP : mj_P F s h H) (hL : mj_Lr F.ad L ls) (hlo : ∀ q ∈ locs, F.base ≤ q.base) {k : Nat} (hdg : decode cc pc = .ok (.istore k, len)) (hlen : len = 2) (hi : mj_i P F.nT (.istore k) (pc + len) L S h = some (pc1, L1, S1, h1)) (kk : mj_Kt p l e R s m args below meth c F Q h L.length cells slots pc1 L1 S1 h1) : W p l e R s m args below meth c H locs cells slots Q (F0 m pc ls (S.map F.cv)) := by
  subst hlen
  have hi : (match (generalizing := false) S with
    | .int x :: r => if k < L.length then some (pc + 2, mj_st1 L k (.int x), r, h) else none
    | _ => none) = some (pc1, L1, S1, h1) := hi
  split at hi
  · split at hi
    · rename_i hk
      cases hi
      refine lv_istore hexec hb hdg hL hk rfl (fun ls1 hl => ?_)
      exact kk.go hP (mj_Lr.of hl (mj_st1_len _ _ _).symm mj_pr_st1) hlo (mj_st1_len _ _ _)
    · cases hi
  · cases hi
theorem mjo_istore_n (hexec : p.tables.exec = Jvm.exec) (hb : c.code = cc) (hP : mj_P F s h H) (hL : mj_Lr F.ad L ls) (hlo : ∀ q ∈ locs, F.base ≤ q.base) {k : Nat} {j : Fin 4} (hj : (j : Nat) = k) (hdg : decode cc pc = .ok (.istore_n j, len)) (hlen : len = 1) (hi : mj_i P F.nT (.istore k) (pc + len) L S h = some (pc1, L1, S1, h1)) (kk : mj_Kt p l e R s m args below meth c F Q h L.length cells slots pc1 L1 S1 h1) : W p l e R s m args below meth c H locs cells slots Q (F0 m pc ls (S.map F.cv)) := by
  subst hlen
  have hi : (match (generalizing := false) S with
    | .int x :: r => if k < L.length then some (pc + 1, mj_st1 L k (.int x), r, h) else none
    | _ => none) = some (pc1, L1, S1, h1) := hi
  split at hi
  · split at hi
    · rename_i hk
      cases hi
      refine lv_istore_n hexec hb hdg hj hL hk rfl (fun ls1 hl => ?_)
      exact kk.go hP (mj_Lr.of hl (mj_st1_len _ _ _).symm mj_pr_st1) hlo (mj_st1_len _ _ _)
    · cases hi
  · cases hi
theorem mjo_lstore (hexec : p.tables.exec = Jvm.exec) (hb : c.code = cc) (hP : mj_P F s h H) (hL : mj_Lr F.ad L ls) (hlo : ∀ q ∈ locs, F.base ≤ q.base) {k : Nat} (hdg : decode cc pc = .ok (.lstore k, len)) (hlen : len = 2) (hi : mj_i P F.nT (.lstore k) (pc + len) L S h = some (pc1, L1, S1, h1)) (kk : mj_Kt p l e R s m args below meth c F Q h L.length cells slots pc1 L1 S1 h1) : W p l e R s m args below meth c H locs cells slots Q (F0 m pc ls (S.map F.cv)) := by
  subst hlen
  have hi : (match (generalizing := false) S with
    | .long x :: r => if k + 1 < L.length then some (pc + 2, mj_st2 L k (.long x), r, h) else none
    | _ => none) = some (pc1, L1, S1, h1) := hi
  split at hi
  · split at hi
    · rename_i hk
      cases hi
      refine lv_lstore hexec hb hdg hL hk rfl (fun ls1 hl => ?_)
      exact kk.go hP (mj_Lr.of hl (mj_st2_len _ _ _).symm mj_pr_st2) hlo (mj_st2_len _ _ _)
    · cases hi
  · cases hi
theorem mjo_lstore_n (hexec : p.tables.exec = Jvm.exec) (hb : c.code = cc) (hP : mj_P F s h H) (hL : mj_Lr F.ad L ls) (hlo : ∀ q ∈ locs, F.base ≤ q.base) {k : Nat} {j : Fin 4} (hj : (j : Nat) = k) (hdg : decode cc pc = .ok (.lstore_n j, len)) (hlen : len = 1) (hi : mj_i P F.nT (.lstore k) (pc + len) L S h = some (pc1, L1, S1, h1)) (kk : mj_Kt p l e R s m args below meth c F Q h L.length cells slots pc1 L1 S1 h1) : W p l e R s m args below meth c H locs cells slots Q (F0 m pc ls (S.map F.cv)) := by
  subst hlen
  have hi : (match (generalizing := false) S with
    | .long x :: r => if k + 1 < L.length then some (pc + 1, mj_st2 L k (.long x), r, h) else none
    | _ => none) = some (pc1, L1, S1, h1) := hi
  split at hi
  · split at hi
    · rename_i hk
      cases hi
      refine lv_lstore_n hexec hb hdg hj hL hk rfl (fun ls1 hl => ?_)
      exact kk.go hP (mj_Lr.of hl (mj_st2_len _ _ _).symm mj_pr_st2) hlo (mj_st2_len _ _ _)
    · cases hi
  · cases hi
theorem mjo_astore (hexec : p.tables.exec = Jvm.exec) (hb : c.code = cc) (hP : mj_P F s h H) (hL : mj_Lr F.ad L ls) (hlo : ∀ q ∈ locs, F.base ≤ q.base) {k : Nat} (hdg : decode cc pc = .ok (.astore k, len)) (hlen : len = 2) (hi : mj_i P F.nT (.astore k) (pc + len) L S h = some (pc1, L1, S1, h1)) (kk : mj_Kt p l e R s m args below meth c F Q h L.length cells slots pc1 L1 S1 h1) : W p l e R s m args below meth c H locs cells slots Q (F0 m pc ls (S.map F.cv)) := by
  subst hlen
  have hi : (match (generalizing := false) S with
    | .ref x :: r => if k < L.length then some (pc + 2, mj_st1 L k (.ref x), r, h) else none
    | .null :: r => if k < L.length then some (pc + 2, mj_st1 L k .null, r, h) else none
    | _ => none) = some (pc1, L1, S1, h1) := hi
  split at hi
  · split at hi
    · rename_i hk
      cases hi
      refine lv_astore hexec hb hdg hL hk rfl (fun ls1 hl => ?_)
      exact kk.go hP (mj_Lr.of hl (mj_st1_len _ _ _).symm mj_pr_st1) hlo (mj_st1_len _ _ _)
    · cases hi
  · split at hi
    · rename_i hk
      cases hi
      refine lv_astoreN hexec hb hdg hL hk rfl (fun ls1 hl => ?_)
      exact kk.go hP (mj_Lr.of hl (mj_st1_len _ _ _).symm mj_pr_st1) hlo (mj_st1_len _ _ _)
    · cases hi
  · cases hi
theorem mjo_astore_n (hexec : p.tables.exec = Jvm.exec) (hb : c.code = cc) (hP : mj_P F s h H) (hL : mj_Lr F.ad L ls) (hlo : ∀ q ∈ locs, F.base ≤ q.base) {k : Nat} {j : Fin 4} (hj : (j : Nat) = k) (hdg : decode cc pc = .ok (.astore_n j, len)) (hlen : len = 1) (hi : mj_i P F.nT (.astore k) (pc + len) L S h = some (pc1, L1, S1, h1)) (kk : mj_Kt p l e R s m args below meth c F Q h L.length cells slots pc1 L1 S1 h1) : W p l e R s m args below meth c H locs cells slots Q (F0 m pc ls (S.map F.cv)) := by
  subst hlen
  have hi : (match (generalizing := false) S with
    | .ref x :: r => if k < L.length then some (pc + 1, mj_st1 L k (.ref x), r, h) else none
    | .null :: r => if k < L.length then some (pc + 1, mj_st1 L k .null, r, h) else none
    | _ => none) = some (pc1, L1, S1, h1) := hi
  split at hi
  · split at hi
    · rename_i hk
      cases hi
      refine lv_astore_n hexec hb hdg hj hL hk rfl (fun ls1 hl => ?_)
      exact kk.go hP (mj_Lr.of hl (mj_st1_len _ _ _).symm mj_pr_st1) hlo (mj_st1_len _ _ _)
    · cases hi
  · split at hi
    · rename_i hk
      cases hi
      refine lv_astore_nN hexec hb hdg hj hL hk rfl (fun ls1 hl => ?_)
      exact kk.go hP (mj_Lr.of hl (mj_st1_len _ _ _).symm mj_pr_st1) hlo (mj_st1_len _ _ _)
    · cases hi
  · cases hi
theorem mjo_iinc (hexec : p.tables.exec = Jvm.exec) (hb : c.code = cc) (hP : mj_P F s h H) (hL : mj_Lr F.ad L ls) (hlo : ∀ q ∈ locs, F.base ≤ q.base) {k : Nat} {n : Int} (hdg : decode cc pc = .ok (.iinc k n, len)) (hlen : len = 3) (hi : mj_i P F.nT (.iinc k n) (pc + len) L S h = some (pc1, L1, S1, h1)) (kk : mj_Kt p l e R s m args below meth c F Q h L.length cells slots pc1 L1 S1 h1) : W p l e R s m args below meth c H locs cells slots Q (F0 m pc ls (S.map F.cv)) := by
  subst hlen
  have hi : (match (generalizing := false) L[k]? with
    | some (some (.int x)) => some (pc + 3, mj_st1 L k (.int (x + Int32.ofInt n)), S, h)
    | _ => none) = some (pc1, L1, S1, h1) := hi
  split at hi
  · rename_i x hx
    cases hi
    have hk : k < L.length := (List.getElem?_eq_some_iff.mp hx).1
    obtain ⟨z, hz⟩ := List.getElem?_of_mem ((mj_pr_mem F.ad L 0 _).mpr ⟨k, .int x, hx, rfl⟩)
    rw [Nat.zero_add] at hz
    refine lv_iinc hexec hb hdg hL hz rfl hk rfl (fun ls1 hl => ?_)
    exact kk.go hP (mj_Lr.of hl (mj_st1_len _ _ _).symm mj_pr_st1) hlo (mj_st1_len _ _ _)
  · cases hi
theorem mjo_iadd (hexec : p.tables.exec = Jvm.exec) (hb : c.code = cc) (hP : mj_P F s h H) (hL : mj_Lr F.ad L ls) (hlo : ∀ q ∈ locs, F.base ≤ q.base) (hdg : decode cc pc = .ok (.iadd, len)) (hlen : len = 1) (hi : mj_i P F.nT .iadd (pc + len) L S h = some (pc1, L1, S1, h1)) (kk : mj_Kt p l e R s m args below meth c F Q h L.length cells slots pc1 L1 S1 h1) : W p l e R s m args below meth c H locs cells slots Q (F0 m pc ls (S.map F.cv)) := by
  subst hlen
  have hi : (match (generalizing := false) S with
    | .int y :: .int x :: r => some (pc + 1, L, .int (x + y) :: r, h)
    | _ => none) = some (pc1, L1, S1, h1) := hi
  split at hi
  · cases hi
    exact lv_iadd hexec hb hdg (kk.go hP hL hlo rfl)
  · cases hi
theorem mjo_isub (hexec : p.tables.exec = Jvm.exec) (hb : c.code = cc) (hP : mj_P F s h H) (hL : mj_Lr F.ad L ls) (hlo : ∀ q ∈ locs, F.base ≤ q.base) (hdg : decode cc pc = .ok (.isub, len)) (hlen : len = 1) (hi : mj_i P F.nT .isub (pc + len) L S h = some (pc1, L1, S1, h1)) (kk : mj_Kt p l e R s m args below meth c F Q h L.length cells slots pc1 L1 S1 h1) : W p l e R s m args below meth c H locs cells slots Q (F0 m pc ls (S.map F.cv)) := by
  subst hlen
  have hi : (match (generalizing := false) S with
    | .int y :: .int x :: r => some (pc + 1, L, .int (x - y) :: r, h)
    | _ => none) = some (pc1, L1, S1, h1) := hi
  split at hi
  · cases hi
    exact lv_isub hexec hb hdg (kk.go hP hL hlo rfl)
  · cases hi
theorem mjo_imul (hexec : p.tables.exec = Jvm.exec) (hb : c.code = cc) (hP : mj_P F s h H) (hL : mj_Lr F.ad L ls) (hlo : ∀ q ∈ locs, F.base ≤ q.base) (hdg : decode cc pc = .ok (.imul, len)) (hlen : len = 1) (hi : mj_i P F.nT .imul (pc + len) L S h = some (pc1, L1, S1, h1)) (kk : mj_Kt p l e R s m args below meth c F Q h L.length cells slots pc1 L1 S1 h1) : W p l e R s m args below meth c H locs cells slots Q (F0 m pc ls (S.map F.cv)) := by
  subst hlen
  have hi : (match (generalizing := false) S with
    | .int y :: .int x :: r => some (pc + 1, L, .int (x * y) :: r, h)
    | _ => none) = some (pc1, L1, S1, h1) := hi
  split at hi
  · cases hi
    exact lv_imul hexec hb hdg (kk.go hP hL hlo rfl)
  · cases hi
theorem mjo_iand (hexec : p.tables.exec = Jvm.exec) (hb : c.code = cc) (hP : mj_P F s h H) (hL : mj_Lr F.ad L ls) (hlo : ∀ q ∈ locs, F.base ≤ q.base) (hdg : decode cc pc = .ok (.iand, len)) (hlen : len = 1) (hi : mj_i P F.nT .iand (pc + len) L S h = some (pc1, L1, S1, h1)) (kk : mj_Kt p l e R s m args below meth c F Q h L.length cells slots pc1 L1 S1 h1) : W p l e R s m args below meth c H locs cells slots Q (F0 m pc ls (S.map F.cv)) := by
  subst hlen
  have hi : (match (generalizing := false) S with
    | .int y :: .int x :: r => some (pc + 1, L, .int (x &&& y) :: r, h)
    | _ => none) = some (pc1, L1, S1, h1) := hi
  split at hi
  · cases hi
    exact lv_iand hexec hb hdg (kk.go hP hL hlo rfl)
  · cases hi
theorem mjo_ior (hexec : p.tables.exec = Jvm.exec) (hb : c.code = cc) (hP : mj_P F s h H) (hL : mj_Lr F.ad L ls) (hlo : ∀ q ∈ locs, F.base ≤ q.base) (hdg : decode cc pc = .ok (.ior, len)) (hlen : len = 1) (hi : mj_i P F.nT .ior (pc + len) L S h = some (pc1, L1, S1, h1)) (kk : mj_Kt p l e R s m args below meth c F Q h L.length cells slots pc1 L1 S1 h1) : W p l e R s m args below meth c H locs cells slots Q (F0 m pc ls (S.map F.cv)) := by
  subst hlen
  have hi : (match (generalizing := false) S with
    | .int y :: .int x :: r => some (pc + 1, L, .int (x ||| y) :: r, h)
    | _ => none) = some (pc1, L1, S1, h1) := hi
  split at hi
  · cases hi
    exact lv_ior hexec hb hdg (kk.go hP hL hlo rfl)
  · cases hi
theorem mjo_ixor (hexec : p.tables.exec = Jvm.exec) (hb : c.code = cc) (hP : mj_P F s h H) (hL : mj_Lr F.ad L ls) (hlo : ∀ q ∈ locs, F.base ≤ q.base) (hdg : decode cc pc = .ok (.ixor, len)) (hlen : len = 1) (hi : mj_i P F.nT .ixor (pc + len) L S h = some (pc1, L1, S1, h1)) (kk : mj_Kt p l e R s m args below meth c F Q h L.length cells slots pc1 L1 S1 h1) : W p l e R s m args below meth c H locs cells slots Q (F0 m pc ls (S.map F.cv)) := by
  subst hlen
  have hi : (match (generalizing := false) S with
    | .int y :: .int x :: r => some (pc + 1, L, .int (x ^^^ y) :: r, h)
    | _ => none) = some (pc1, L1, S1, h1) := hi
  split at hi
  · cases hi
    exact lv_ixor hexec hb hdg (kk.go hP hL hlo rfl)
  · cases hi
theorem mjo_ishl (hexec : p.tables.exec = Jvm.exec) (hb : c.code = cc) (hP : mj_P F s h H) (hL : mj_Lr F.ad L ls) (hlo : ∀ q ∈ locs, F.base ≤ q.base) (hdg : decode cc pc = .ok (.ishl, len)) (hlen : len = 1) (hi : mj_i P F.nT .ishl (pc + len) L S h = some (pc1, L1, S1, h1)) (kk : mj_Kt p l e R s m args below meth c F Q h L.length cells slots pc1 L1 S1 h1) : W p l e R s m args below meth c H locs cells slots Q (F0 m pc ls (S.map F.cv)) := by
  subst hlen
  have hi : (match (generalizing := false) S with
    | .int y :: .int x :: r => some (pc + 1, L, .int (x <<< (y &&& 31)) :: r, h)
    | _ => none) = some (pc1, L1, S1, h1) := hi
  split at hi
  · cases hi
    exact lv_ishl hexec hb hdg (kk.go hP hL hlo rfl)
  · cases hi
theorem mjo_ishr (hexec : p.tables.exec = Jvm.exec) (hb : c.code = cc) (hP : mj_P F s h H) (hL : mj_Lr F.ad L ls) (hlo : ∀ q ∈ locs, F.base ≤ q.base) (hdg : decode cc pc = .ok (.ishr, len)) (hlen : len = 1) (hi : mj_i P F.nT .ishr (pc + len) L S h = some (pc1, L1, S1, h1)) (kk : mj_Kt p l e R s m args below meth c F Q h L.length cells slots pc1 L1 S1 h1) : W p l e R s m args below meth c H locs cells slots Q (F0 m pc ls (S.map F.cv)) := by
  subst hlen
  have hi : (match (generalizing := false) S with
    | .int y :: .int x :: r => some (pc + 1, L, .int (x >>> (y &&& 31)) :: r, h)
    | _ => none) = some (pc1, L1, S1, h1) := hi
  split at hi
  · cases hi
    exact lv_ishr hexec hb hdg (kk.go hP hL hlo rfl)
  · cases hi
theorem mjo_iushr (hexec : p.tables.exec = Jvm.exec) (hb : c.code = cc) (hP : mj_P F s h H) (hL : mj_Lr F.ad L ls) (hlo : ∀ q ∈ locs, F.base ≤ q.base) (hdg : decode cc pc = .ok (.iushr, len)) (hlen : len = 1) (hi : mj_i P F.nT .iushr (pc + len) L S h = some (pc1, L1, S1, h1)) (kk : mj_Kt p l e R s m args below meth c F Q h L.length cells slots pc1 L1 S1 h1) : W p l e R s m args below meth c H locs cells slots Q (F0 m pc ls (S.map F.cv)) := by
  subst hlen
  have hi : (match (generalizing := false) S with
    | .int y :: .int x :: r => some (pc + 1, L, .int ((x.toUInt32 >>> (y.toUInt32 &&& Int32.toUInt32 31)).toInt32) :: r, h)
    | _ => none) = some (pc1, L1, S1, h1) := hi
  split at hi
  · cases hi
    exact lv_iushr hexec hb hdg rfl (kk.go hP hL hlo rfl)
  · cases hi
theorem mjo_idiv (hexec : p.tables.exec = Jvm.exec) (hb : c.code = cc) (hP : mj_P F s h H) (hL : mj_Lr F.ad L ls) (hlo : ∀ q ∈ locs, F.base ≤ q.base) (hdg : decode cc pc = .ok (.idiv, len)) (hlen : len = 1) (hi : mj_i P F.nT .idiv (pc + len) L S h = some (pc1, L1, S1, h1)) (kk : mj_Kt p l e R s m args below meth c F Q h L.length cells slots pc1 L1 S1 h1) : W p l e R s m args below meth c H locs cells slots Q (F0 m pc ls (S.map F.cv)) := by
  subst hlen
  have hi : (match (generalizing := false) S with
    | .int y :: .int x :: r => if y = 0 then none else some (pc + 1, L, .int (x / y) :: r, h)
    | _ => none) = some (pc1, L1, S1, h1) := hi
  split at hi
  · split at hi
    · cases hi
    · rename_i hne
      cases hi
      exact lv_idiv hexec hb hdg hne (kk.go hP hL hlo rfl)
  · cases hi
theorem mjo_irem (hexec : p.tables.exec = Jvm.exec) (hb : c.code = cc) (hP : mj_P F s h H) (hL : mj_Lr F.ad L ls) (hlo : ∀ q ∈ locs, F.base ≤ q.base) (hdg : decode cc pc = .ok (.irem, len)) (hlen : len = 1) (hi : mj_i P F.nT .irem (pc + len) L S h = some (pc1, L1, S1, h1)) (kk : mj_Kt p l e R s m args below meth c F Q h L.length cells slots pc1 L1 S1 h1) : W p l e R s m args below meth c H locs cells slots Q (F0 m pc ls (S.map F.cv)) := by
  subst hlen
  have hi : (match (generalizing := false) S with
    | .int y :: .int x :: r => if y = 0 then none else some (pc + 1, L, .int (x - x / y * y) :: r, h)
    | _ => none) = some (pc1, L1, S1, h1) := hi
  split at hi
  · split at hi
    · cases hi
    · rename_i hne
      cases hi
      exact lv_irem hexec hb hdg hne (kk.go hP hL hlo rfl)
  · cases hi
theorem mjo_ineg (hexec : p.tables.exec = Jvm.exec) (hb : c.code = cc) (hP : mj_P F s h H) (hL : mj_Lr F.ad L ls) (hlo : ∀ q ∈ locs, F.base ≤ q.base) (hdg : decode cc pc = .ok (.ineg, len)) (hlen : len = 1) (hi : mj_i P F.nT .ineg (pc + len) L S h = some (pc1, L1, S1, h1)) (kk : mj_Kt p l e R s m args below meth c F Q h L.length cells slots pc1 L1 S1 h1) : W p l e R s m args below meth c H locs cells slots Q (F0 m pc ls (S.map F.cv)) := by
  subst hlen
  have hi : (match (generalizing := false) S with
    | .int x :: r => some (pc + 1, L, .int (-x) :: r, h)
    | _ => none) = some (pc1, L1, S1, h1) := hi
  split at hi
  · cases hi
    exact lv_ineg hexec hb hdg (kk.go hP hL hlo rfl)
  · cases hi
theorem mjo_land (hexec : p.tables.exec = Jvm.exec) (hb : c.code = cc) (hP : mj_P F s h H) (hL : mj_Lr F.ad L ls) (hlo : ∀ q ∈ locs, F.base ≤ q.base) (hdg : decode cc pc = .ok (.land, len)) (hlen : len = 1) (hi : mj_i P F.nT .land (pc + len) L S h = some (pc1, L1, S1, h1)) (kk : mj_Kt p l e R s m args below meth c F Q h L.length cells slots pc1 L1 S1 h1) : W p l e R s m args below meth c H locs cells slots Q (F0 m pc ls (S.map F.cv)) := by
  subst hlen
  have hi : (match (generalizing := false) S with
    | .long y :: .long x :: r => some (pc + 1, L, .long (x &&& y) :: r, h)
    | _ => none) = some (pc1, L1, S1, h1) := hi
  split at hi
  · cases hi
    exact lv_land hexec hb hdg (kk.go hP hL hlo rfl)
  · cases hi
theorem mjo_lor (hexec : p.tables.exec = Jvm.exec) (hb : c.code = cc) (hP : mj_P F s h H) (hL : mj_Lr F.ad L ls) (hlo : ∀ q ∈ locs, F.base ≤ q.base) (hdg : decode cc pc = .ok (.lor, len)) (hlen : len = 1) (hi : mj_i P F.nT .lor (pc + len) L S h = some (pc1, L1, S1, h1)) (kk : mj_Kt p l e R s m args below meth c F Q h L.length cells slots pc1 L1 S1 h1) : W p l e R s m args below meth c H locs cells slots Q (F0 m pc ls (S.map F.cv)) := by
  subst hlen
  have hi : (match (generalizing := false) S with
    | .long y :: .long x :: r => some (pc + 1, L, .long (x ||| y) :: r, h)
    | _ => none) = some (pc1, L1, S1, h1) := hi
  split at hi
  · cases hi
    exact lv_lor hexec hb hdg (kk.go hP hL hlo rfl)
  · cases hi
theorem mjo_lxor (hexec : p.tables.exec = Jvm.exec) (hb : c.code = cc) (hP : mj_P F s h H) (hL : mj_Lr F.ad L ls) (hlo : ∀ q ∈ locs, F.base ≤ q.base) (hdg : decode cc pc = .ok (.lxor, len)) (hlen : len = 1) (hi : mj_i P F.nT .lxor (pc + len) L S h = some (pc1, L1, S1, h1)) (kk : mj_Kt p l e R s m args below meth c F Q h L.length cells slots pc1 L1 S1 h1) : W p l e R s m args below meth c H locs cells slots Q (F0 m pc ls (S.map F.cv)) := by
  subst hlen
  have hi : (match (generalizing := false) S with
    | .long y :: .long x :: r => some (pc + 1, L, .long (x ^^^ y) :: r, h)
    | _ => none) = some (pc1, L1, S1, h1) := hi
  split at hi
  · cases hi
    exact lv_lxor hexec hb hdg (kk.go hP hL hlo rfl)
  · cases hi
theorem mjo_lshl (hexec : p.tables.exec = Jvm.exec) (hb : c.code = cc) (hP : mj_P F s h H) (hL : mj_Lr F.ad L ls) (hlo : ∀ q ∈ locs, F.base ≤ q.base) (hdg : decode cc pc = .ok (.lshl, len)) (hlen : len = 1) (hi : mj_i P F.nT .lshl (pc + len) L S h = some (pc1, L1, S1, h1)) (kk : mj_Kt p l e R s m args below meth c F Q h L.length cells slots pc1 L1 S1 h1) : W p l e R s m args below meth c H locs cells slots Q (F0 m pc ls (S.map F.cv)) := by
  subst hlen
  have hi : (match (generalizing := false) S with
    | .int y :: .long x :: r => some (pc + 1, L, .long (x <<< (y.toInt64 &&& 63)) :: r, h)
    | _ => none) = some (pc1, L1, S1, h1) := hi
  split at hi
  · cases hi
    exact lv_lshl hexec hb hdg rfl (kk.go hP hL hlo rfl)
  · cases hi
theorem mjo_lshr (hexec : p.tables.exec = Jvm.exec) (hb : c.code = cc) (hP : mj_P F s h H) (hL : mj_Lr F.ad L ls) (hlo : ∀ q ∈ locs, F.base ≤ q.base) (hdg : decode cc pc = .ok (.lshr, len)) (hlen : len = 1) (hi : mj_i P F.nT .lshr (pc + len) L S h = some (pc1, L1, S1, h1)) (kk : mj_Kt p l e R s m args below meth c F Q h L.length cells slots pc1 L1 S1 h1) : W p l e R s m args below meth c H locs cells slots Q (F0 m pc ls (S.map F.cv)) := by
  subst hlen
  have hi : (match (generalizing := false) S with
    | .int y :: .long x :: r => some (pc + 1, L, .long (x >>> (y.toInt64 &&& 63)) :: r, h)
    | _ => none) = some (pc1, L1, S1, h1) := hi
  split at hi
  · cases hi
    exact lv_lshr hexec hb hdg rfl (kk.go hP hL hlo rfl)
  · cases hi
theorem mjo_lushr (hexec : p.tables.exec = Jvm.exec) (hb : c.code = cc) (hP : mj_P F s h H) (hL : mj_Lr F.ad L ls) (hlo : ∀ q ∈ locs, F.base ≤ q.base) (hdg : decode cc pc = .ok (.lushr, len)) (hlen : len = 1) (hi : mj_i P F.nT .lushr (pc + len) L S h = some (pc1, L1, S1, h1)) (kk : mj_Kt p l e R s m args below meth c F Q h L.length cells slots pc1 L1 S1 h1) : W p l e R s m args below meth c H locs cells slots Q (F0 m pc ls (S.map F.cv)) := by
  subst hlen
  have hi : (match (generalizing := false) S with
    | .int y :: .long x :: r => some (pc + 1, L, .long ((x.toUInt64 >>> (y.toInt64.toUInt64 &&& Int64.toUInt64 63)).toInt64) :: r, h)
    | _ => none) = some (pc1, L1, S1, h1) := hi
  split at hi
  · cases hi
    exact lv_lushr hexec hb hdg rfl (kk.go hP hL hlo rfl)
  · cases hi
theorem mjo_lcmp (hexec : p.tables.exec = Jvm.exec) (hb : c.code = cc) (hP : mj_P F s h H) (hL : mj_Lr F.ad L ls) (hlo : ∀ q ∈ locs, F.base ≤ q.base) (hdg : decode cc pc = .ok (.lcmp, len)) (hlen : len = 1) (hi : mj_i P F.nT .lcmp (pc + len) L S h = some (pc1, L1, S1, h1)) (kk : mj_Kt p l e R s m args below meth c F Q h L.length cells slots pc1 L1 S1 h1) : W p l e R s m args below meth c H locs cells slots Q (F0 m pc ls (S.map F.cv)) := by
  subst hlen
  have hi : (match (generalizing := false) S with
    | .long y :: .long x :: r => some (pc + 1, L, .int (lg_cmp x y) :: r, h)
    | _ => none) = some (pc1, L1, S1, h1) := hi
  split at hi
  · cases hi
    exact W.lcmp hexec hb hdg (kk.go hP hL hlo rfl)
  · cases hi
theorem mjo_i2l (hexec : p.tables.exec = Jvm.exec) (hb : c.code = cc) (hP : mj_P F s h H) (hL : mj_Lr F.ad L ls) (hlo : ∀ q ∈ locs, F.base ≤ q.base) (hdg : decode cc pc = .ok (.i2l, len)) (hlen : len = 1) (hi : mj_i P F.nT .i2l (pc + len) L S h = some (pc1, L1, S1, h1)) (kk : mj_Kt p l e R s m args below meth c F Q h L.length cells slots pc1 L1 S1 h1) : W p l e R s m args below meth c H locs cells slots Q (F0 m pc ls (S.map F.cv)) := by
  subst hlen
  have hi : (match (generalizing := false) S with
    | .int x :: r => some (pc + 1, L, .long x.toInt64 :: r, h)
    | _ => none) = some (pc1, L1, S1, h1) := hi
  split at hi
  · cases hi
    exact lv_i2l hexec hb hdg rfl (kk.go hP hL hlo rfl)
  · cases hi
theorem mjo_l2i (hexec : p.tables.exec = Jvm.exec) (hb : c.code = cc) (hP : mj_P F s h H) (hL : mj_Lr F.ad L ls) (hlo : ∀ q ∈ locs, F.base ≤ q.base) (hdg : decode cc pc = .ok (.l2i, len)) (hlen : len = 1) (hi : mj_i P F.nT .l2i (pc + len) L S h = some (pc1, L1, S1, h1)) (kk : mj_Kt p l e R s m args below meth c F Q h L.length cells slots pc1 L1 S1 h1) : W p l e R s m args below meth c H locs cells slots Q (F0 m pc ls (S.map F.cv)) := by
  subst hlen
  have hi : (match (generalizing := false) S with
    | .long x :: r => some (pc + 1, L, .int x.toInt32 :: r, h)
    | _ => none) = some (pc1, L1, S1, h1) := hi
  split at hi
  · cases hi
    exact lv_l2i hexec hb hdg rfl (kk.go hP hL hlo rfl)
  · cases hi
theorem mjo_i2c (hexec : p.tables.exec = Jvm.exec) (hb : c.code = cc) (hP : mj_P F s h H) (hL : mj_Lr F.ad L ls) (hlo : ∀ q ∈ locs, F.base ≤ q.base) (hdg : decode cc pc = .ok (.i2c, len)) (hlen : len = 1) (hi : mj_i P F.nT .i2c (pc + len) L S h = some (pc1, L1, S1, h1)) (kk : mj_Kt p l e R s m args below meth c F Q h L.length cells slots pc1 L1 S1 h1) : W p l e R s m args below meth c H locs cells slots Q (F0 m pc ls (S.map F.cv)) := by
  subst hlen
  have hi : (match (generalizing := false) S with
    | .int x :: r => some (pc + 1, L, .int ((x.toUInt32 % 65536).toInt32) :: r, h)
    | _ => none) = some (pc1, L1, S1, h1) := hi
  split at hi
  · cases hi
    exact lv_i2c hexec hb hdg rfl (kk.go hP hL hlo rfl)
  · cases hi
theorem mjo_dup (hexec : p.tables.exec = Jvm.exec) (hb : c.code = cc) (hP : mj_P F s h H) (hL : mj_Lr F.ad L ls) (hlo : ∀ q ∈ locs, F.base ≤ q.base) (hdg : decode cc pc = .ok (.dup, len)) (hlen : len = 1) (hi : mj_i P F.nT .dup (pc + len) L S h = some (pc1, L1, S1, h1)) (kk : mj_Kt p l e R s m args below meth c F Q h L.length cells slots pc1 L1 S1 h1) : W p l e R s m args below meth c H locs cells slots Q (F0 m pc ls (S.map F.cv)) := by
  subst hlen
  have hi : (match (generalizing := false) S with
    | .int x :: r => some (pc + 1, L, .int x :: .int x :: r, h)
    | .ref x :: r => some (pc + 1, L, .ref x :: .ref x :: r, h)
    | _ => none) = some (pc1, L1, S1, h1) := hi
  split at hi
  · cases hi
    exact lv_dup hexec hb hdg rfl (kk.go hP hL hlo rfl)
  · cases hi
    exact lv_dup hexec hb hdg rfl (kk.go hP hL hlo rfl)
  · cases hi
theorem mjo_dup2 (hexec : p.tables.exec = Jvm.exec) (hb : c.code = cc) (hP : mj_P F s h H) (hL : mj_Lr F.ad L ls) (hlo : ∀ q ∈ locs, F.base ≤ q.base) (hdg : decode cc pc = .ok (.dup2, len)) (hlen : len = 1) (hi : mj_i P F.nT .dup2 (pc + len) L S h = some (pc1, L1, S1, h1)) (kk : mj_Kt p l e R s m args below meth c F Q h L.length cells slots pc1 L1 S1 h1) : W p l e R s m args below meth c H locs cells slots Q (F0 m pc ls (S.map F.cv)) := by
  subst hlen
  have hi : (match (generalizing := false) S with
    | .int x :: .ref y :: r => some (pc + 1, L, .int x :: .ref y :: .int x :: .ref y :: r, h)
    | _ => none) = some (pc1, L1, S1, h1) := hi
  split at hi
  · cases hi
    exact lv_dup2_11 hexec hb hdg rfl rfl (kk.go hP hL hlo rfl)
  · cases hi
theorem mjo_pop (hexec : p.tables.exec = Jvm.exec) (hb : c.code = cc) (hP : mj_P F s h H) (hL : mj_Lr F.ad L ls) (hlo : ∀ q ∈ locs, F.base ≤ q.base) (hdg : decode cc pc = .ok (.pop, len)) (hlen : len = 1) (hi : mj_i P F.nT .pop (pc + len) L S h = some (pc1, L1, S1, h1)) (kk : mj_Kt p l e R s m args below meth c F Q h L.length cells slots pc1 L1 S1 h1) : W p l e R s m args below meth c H locs cells slots Q (F0 m pc ls (S.map F.cv)) := by
  subst hlen
  have hi : (match (generalizing := false) S with
    | .int _ :: r => some (pc + 1, L, r, h)
    | .ref _ :: r => some (pc + 1, L, r, h)
    | _ => none) = some (pc1, L1, S1, h1) := hi
  split at hi
  · cases hi
    exact lv_pop hexec hb hdg rfl (kk.go hP hL hlo rfl)
  · cases hi
    exact lv_pop hexec hb hdg rfl (kk.go hP hL hlo rfl)
  · cases hi
theorem mjo_ifCond_eq (hexec : p.tables.exec = Jvm.exec) (hb : c.code = cc) (hP : mj_P F s h H) (hL : mj_Lr F.ad L ls) (hlo : ∀ q ∈ locs, F.base ≤ q.base) {t o : Int} (ht : (pc : Int) + o = t) (h0 : 0 ≤ t) (hdg : decode cc pc = .ok (.ifCond .eq o, len)) (hlen : len = 3) (hi : mj_i P F.nT (.ifCond .eq t) (pc + len) L S h = some (pc1, L1, S1, h1)) (kk : mj_Kt p l e R s m args below meth c F Q h L.length cells slots pc1 L1 S1 h1) : W p l e R s m args below meth c H locs cells slots Q (F0 m pc ls (S.map F.cv)) := by
  subst hlen
  have hi : (match (generalizing := false) S with
    | .int x :: r => some (if mj_cnd .eq x 0 then t.toNat else pc + 3, L, r, h)
    | _ => none) = some (pc1, L1, S1, h1) := hi
  have ht2 : (pc : Int) + o = (t.toNat : Int) := by omega
  split at hi
  · cases hi
    refine lv_if_eq (tgt := t.toNat) hexec hb hdg ht2 (fun hc => ?_) (fun hc => ?_)
    · rw [if_pos (by simp [mj_cnd, hc])] at kk
      exact mj_Kt.go kk hP hL hlo rfl
    · rw [if_neg (by simp [mj_cnd] <;> simpa using hc)] at kk
      exact mj_Kt.go kk hP hL hlo rfl
  · cases hi
theorem mjo_if_icmp_eq (hexec : p.tables.exec = Jvm.exec) (hb : c.code = cc) (hP : mj_P F s h H) (hL : mj_Lr F.ad L ls) (hlo : ∀ q ∈ locs, F.base ≤ q.base) {t o : Int} (ht : (pc : Int) + o = t) (h0 : 0 ≤ t) (hdg : decode cc pc = .ok (.if_icmp .eq o, len)) (hlen : len = 3) (hi : mj_i P F.nT (.if_icmp .eq t) (pc + len) L S h = some (pc1, L1, S1, h1)) (kk : mj_Kt p l e R s m args below meth c F Q h L.length cells slots pc1 L1 S1 h1) : W p l e R s m args below meth c H locs cells slots Q (F0 m pc ls (S.map F.cv)) := by
  subst hlen
  have hi : (match (generalizing := false) S with
    | .int y :: .int x :: r => some (if mj_cnd .eq x y then t.toNat else pc + 3, L, r, h)
    | _ => none) = some (pc1, L1, S1, h1) := hi
  have ht2 : (pc : Int) + o = (t.toNat : Int) := by omega
  split at hi
  · cases hi
    refine lv_icmp_eq (tgt := t.toNat) hexec hb hdg ht2 (fun hc => ?_) (fun hc => ?_)
    · rw [if_pos (by simp [mj_cnd, hc])] at kk
      exact mj_Kt.go kk hP hL hlo rfl
    · rw [if_neg (by simp [mj_cnd] <;> simpa using hc)] at kk
      exact mj_Kt.go kk hP hL hlo rfl
  · cases hi
theorem mjo_ifCond_ne (hexec : p.tables.exec = Jvm.exec) (hb : c.code = cc) (hP : mj_P F s h H) (hL : mj_Lr F.ad L ls) (hlo : ∀ q ∈ locs, F.base ≤ q.base) {t o : Int} (ht : (pc : Int) + o = t) (h0 : 0 ≤ t) (hdg : decode cc pc = .ok (.ifCond .ne o, len)) (hlen : len = 3) (hi : mj_i P F.nT (.ifCond .ne t) (pc + len) L S h = some (pc1, L1, S1, h1)) (kk : mj_Kt p l e R s m args below meth c F Q h L.length cells slots pc1 L1 S1 h1) : W p l e R s m args below meth c H locs cells slots Q (F0 m pc ls (S.map F.cv)) := by
  subst hlen
  have hi : (match (generalizing := false) S with
    | .int x :: r => some (if mj_cnd .ne x 0 then t.toNat else pc + 3, L, r, h)
    | _ => none) = some (pc1, L1, S1, h1) := hi
  have ht2 : (pc : Int) + o = (t.toNat : Int) := by omega
  split at hi
  · cases hi
    refine lv_if_ne (tgt := t.toNat) hexec hb hdg ht2 (fun hc => ?_) (fun hc => ?_)
    · rw [if_pos (by simp [mj_cnd, hc])] at kk
      exact mj_Kt.go kk hP hL hlo rfl
    · rw [if_neg (by simp [mj_cnd] <;> simpa using hc)] at kk
      exact mj_Kt.go kk hP hL hlo rfl
  · cases hi
theorem mjo_if_icmp_ne (hexec : p.tables.exec = Jvm.exec) (hb : c.code = cc) (hP : mj_P F s h H) (hL : mj_Lr F.ad L ls) (hlo : ∀ q ∈ locs, F.base ≤ q.base) {t o : Int} (ht : (pc : Int) + o = t) (h0 : 0 ≤ t) (hdg : decode cc pc = .ok (.if_icmp .ne o, len)) (hlen : len = 3) (hi : mj_i P F.nT (.if_icmp .ne t) (pc + len) L S h = some (pc1, L1, S1, h1)) (kk : mj_Kt p l e R s m args below meth c F Q h L.length cells slots pc1 L1 S1 h1) : W p l e R s m args below meth c H locs cells slots Q (F0 m pc ls (S.map F.cv)) := by
  subst hlen
  have hi : (match (generalizing := false) S with
    | .int y :: .int x :: r => some (if mj_cnd .ne x y then t.toNat else pc + 3, L, r, h)
    | _ => none) = some (pc1, L1, S1, h1) := hi
  have ht2 : (pc : Int) + o = (t.toNat : Int) := by omega
  split at hi
  · cases hi
    refine lv_icmp_ne (tgt := t.toNat) hexec hb hdg ht2 (fun hc => ?_) (fun hc => ?_)
    · rw [if_pos (by simp [mj_cnd, hc])] at kk
      exact mj_Kt.go kk hP hL hlo rfl
    · rw [if_neg (by simp [mj_cnd] <;> simpa using hc)] at kk
      exact mj_Kt.go kk hP hL hlo rfl
  · cases hi
theorem mjo_ifCond_lt (hexec : p.tables.exec = Jvm.exec) (hb : c.code = cc) (hP : mj_P F s h H) (hL : mj_Lr F.ad L ls) (hlo : ∀ q ∈ locs, F.base ≤ q.base) {t o : Int} (ht : (pc : Int) + o = t) (h0 : 0 ≤ t) (hdg : decode cc pc = .ok (.ifCond .lt o, len)) (hlen : len = 3) (hi : mj_i P F.nT (.ifCond .lt t) (pc + len) L S h = some (pc1, L1, S1, h1)) (kk : mj_Kt p l e R s m args below meth c F Q h L.length cells slots pc1 L1 S1 h1) : W p l e R s m args below meth c H locs cells slots Q (F0 m pc ls (S.map F.cv)) := by
  subst hlen
  have hi : (match (generalizing := false) S with
    | .int x :: r => some (if mj_cnd .lt x 0 then t.toNat else pc + 3, L, r, h)
    | _ => none) = some (pc1, L1, S1, h1) := hi
  have ht2 : (pc : Int) + o = (t.toNat : Int) := by omega
  split at hi
  · cases hi
    refine lv_if_lt (tgt := t.toNat) hexec hb hdg ht2 (fun hc => ?_) (fun hc => ?_)
    · rw [if_pos (by simp [mj_cnd, hc])] at kk
      exact mj_Kt.go kk hP hL hlo rfl
    · rw [if_neg (by simp [mj_cnd] <;> simpa using hc)] at kk
      exact mj_Kt.go kk hP hL hlo rfl
  · cases hi
theorem mjo_if_icmp_lt (hexec : p.tables.exec = Jvm.exec) (hb : c.code = cc) (hP : mj_P F s h H) (hL : mj_Lr F.ad L ls) (hlo : ∀ q ∈ locs, F.base ≤ q.base) {t o : Int} (ht : (pc : Int) + o = t) (h0 : 0 ≤ t) (hdg : decode cc pc = .ok (.if_icmp .lt o, len)) (hlen : len = 3) (hi : mj_i P F.nT (.if_icmp .lt t) (pc + len) L S h = some (pc1, L1, S1, h1)) (kk : mj_Kt p l e R s m args below meth c F Q h L.length cells slots pc1 L1 S1 h1) : W p l e R s m args below meth c H locs cells slots Q (F0 m pc ls (S.map F.cv)) := by
  subst hlen
  have hi : (match (generalizing := false) S with
    | .int y :: .int x :: r => some (if mj_cnd .lt x y then t.toNat else pc + 3, L, r, h)
    | _ => none) = some (pc1, L1, S1, h1) := hi
  have ht2 : (pc : Int) + o = (t.toNat : Int) := by omega
  split at hi
  · cases hi
    refine lv_icmp_lt (tgt := t.toNat) hexec hb hdg ht2 (fun hc => ?_) (fun hc => ?_)
    · rw [if_pos (by simp [mj_cnd, hc])] at kk
      exact mj_Kt.go kk hP hL hlo rfl
    · rw [if_neg (by simp [mj_cnd] <;> simpa using hc)] at kk
      exact mj_Kt.go kk hP hL hlo rfl
  · cases hi
theorem mjo_ifCond_ge (hexec : p.tables.exec = Jvm.exec) (hb : c.code = cc) (hP : mj_P F s h H) (hL : mj_Lr F.ad L ls) (hlo : ∀ q ∈ locs, F.base ≤ q.base) {t o : Int} (ht : (pc : Int) + o = t) (h0 : 0 ≤ t) (hdg : decode cc pc = .ok (.ifCond .ge o, len)) (hlen : len = 3) (hi : mj_i P F.nT (.ifCond .ge t) (pc + len) L S h = some (pc1, L1, S1, h1)) (kk : mj_Kt p l e R s m args below meth c F Q h L.length cells slots pc1 L1 S1 h1) : W p l e R s m args below meth c H locs cells slots Q (F0 m pc ls (S.map F.cv)) := by
  subst hlen
  have hi : (match (generalizing := false) S with
    | .int x :: r => some (if mj_cnd .ge x 0 then t.toNat else pc + 3, L, r, h)
    | _ => none) = some (pc1, L1, S1, h1) := hi
  have ht2 : (pc : Int) + o = (t.toNat : Int) := by omega
  split at hi
  · cases hi
    refine lv_if_ge (tgt := t.toNat) hexec hb hdg ht2 (fun hc => ?_) (fun hc => ?_)
    · rw [if_pos (by simp [mj_cnd, hc])] at kk
      exact mj_Kt.go kk hP hL hlo rfl
    · rw [if_neg (by simp [mj_cnd] <;> simpa using hc)] at kk
      exact mj_Kt.go kk hP hL hlo rfl
  · cases hi
theorem mjo_if_icmp_ge (hexec : p.tables.exec = Jvm.exec) (hb : c.code = cc) (hP : mj_P F s h H) (hL : mj_Lr F.ad L ls) (hlo : ∀ q ∈ locs, F.base ≤ q.base) {t o : Int} (ht : (pc : Int) + o = t) (h0 : 0 ≤ t) (hdg : decode cc pc = .ok (.if_icmp .ge o, len)) (hlen : len = 3) (hi : mj_i P F.nT (.if_icmp .ge t) (pc + len) L S h = some (pc1, L1, S1, h1)) (kk : mj_Kt p l e R s m args below meth c F Q h L.length cells slots pc1 L1 S1 h1) : W p l e R s m args below meth c H locs cells slots Q (F0 m pc ls (S.map F.cv)) := by
  subst hlen
  have hi : (match (generalizing := false) S with
    | .int y :: .int x :: r => some (if mj_cnd .ge x y then t.toNat else pc + 3, L, r, h)
    | _ => none) = some (pc1, L1, S1, h1) := hi
  have ht2 : (pc : Int) + o = (t.toNat : Int) := by omega
  split at hi
  · cases hi
    refine lv_icmp_ge (tgt := t.toNat) hexec hb hdg ht2 (fun hc => ?_) (fun hc => ?_)
    · rw [if_pos (by simp [mj_cnd, hc])] at kk
      exact mj_Kt.go kk hP hL hlo rfl
    · rw [if_neg (by simp [mj_cnd] <;> simpa using hc)] at kk
      exact mj_Kt.go kk hP hL hlo rfl
  · cases hi
theorem mjo_ifCond_gt (hexec : p.tables.exec = Jvm.exec) (hb : c.code = cc) (hP : mj_P F s h H) (hL : mj_Lr F.ad L ls) (hlo : ∀ q ∈ locs, F.base ≤ q.base) {t o : Int} (ht : (pc : Int) + o = t) (h0 : 0 ≤ t) (hdg : decode cc pc = .ok (.ifCond .gt o, len)) (hlen : len = 3) (hi : mj_i P F.nT (.ifCond .gt t) (pc + len) L S h = some (pc1, L1, S1, h1)) (kk : mj_Kt p l e R s m args below meth c F Q h L.length cells slots pc1 L1 S1 h1) : W p l e R s m args below meth c H locs cells slots Q (F0 m pc ls (S.map F.cv)) := by
  subst hlen
  have hi : (match (generalizing := false) S with
    | .int x :: r => some (if mj_cnd .gt x 0 then t.toNat else pc + 3, L, r, h)
    | _ => none) = some (pc1, L1, S1, h1) := hi
  have ht2 : (pc : Int) + o = (t.toNat : Int) := by omega
  split at hi
  · cases hi
    refine lv_if_gt (tgt := t.toNat) hexec hb hdg ht2 (fun hc => ?_) (fun hc => ?_)
    · rw [if_pos (by simp [mj_cnd, hc])] at kk
      exact mj_Kt.go kk hP hL hlo rfl
    · rw [if_neg (by simp [mj_cnd] <;> simpa using hc)] at kk
      exact mj_Kt.go kk hP hL hlo rfl
  · cases hi
theorem mjo_if_icmp_gt (hexec : p.tables.exec = Jvm.exec) (hb : c.code = cc) (hP : mj_P F s h H) (hL : mj_Lr F.ad L ls) (hlo : ∀ q ∈ locs, F.base ≤ q.base) {t o : Int} (ht : (pc : Int) + o = t) (h0 : 0 ≤ t) (hdg : decode cc pc = .ok (.if_icmp .gt o, len)) (hlen : len = 3) (hi : mj_i P F.nT (.if_icmp .gt t) (pc + len) L S h = some (pc1, L1, S1, h1)) (kk : mj_Kt p l e R s m args below meth c F Q h L.length cells slots pc1 L1 S1 h1) : W p l e R s m args below meth c H locs cells slots Q (F0 m pc ls (S.map F.cv)) := by
  subst hlen
  have hi : (match (generalizing := false) S with
    | .int y :: .int x :: r => some (if mj_cnd .gt x y then t.toNat else pc + 3, L, r, h)
    | _ => none) = some (pc1, L1, S1, h1) := hi
  have ht2 : (pc : Int) + o = (t.toNat : Int) := by omega
  split at hi
  · cases hi
    refine lv_icmp_gt (tgt := t.toNat) hexec hb hdg ht2 (fun hc => ?_) (fun hc => ?_)
    · rw [if_pos (by simp [mj_cnd, hc])] at kk
      exact mj_Kt.go kk hP hL hlo rfl
    · rw [if_neg (by simp [mj_cnd] <;> simpa using hc)] at kk
      exact mj_Kt.go kk hP hL hlo rfl
  · cases hi
theorem mjo_ifCond_le (hexec : p.tables.exec = Jvm.exec) (hb : c.code = cc) (hP : mj_P F s h H) (hL : mj_Lr F.ad L ls) (hlo : ∀ q ∈ locs, F.base ≤ q.base) {t o : Int} (ht : (pc : Int) + o = t) (h0 : 0 ≤ t) (hdg : decode cc pc = .ok (.ifCond .le o, len)) (hlen : len = 3) (hi : mj_i P F.nT (.ifCond .le t) (pc + len) L S h = some (pc1, L1, S1, h1)) (kk : mj_Kt p l e R s m args below meth c F Q h L.length cells slots pc1 L1 S1 h1) : W p l e R s m args below meth c H locs cells slots Q (F0 m pc ls (S.map F.cv)) := by
  subst hlen
  have hi : (match (generalizing := false) S with
    | .int x :: r => some (if mj_cnd .le x 0 then t.toNat else pc + 3, L, r, h)
    | _ => none) = some (pc1, L1, S1, h1) := hi
  have ht2 : (pc : Int) + o = (t.toNat : Int) := by omega
  split at hi
  · cases hi
    refine lv_if_le (tgt := t.toNat) hexec hb hdg ht2 (fun hc => ?_) (fun hc => ?_)
    · rw [if_pos (by simp [mj_cnd, hc])] at kk
      exact mj_Kt.go kk hP hL hlo rfl
    · rw [if_neg (by simp [mj_cnd] <;> simpa using hc)] at kk
      exact mj_Kt.go kk hP hL hlo rfl
  · cases hi
theorem mjo_if_icmp_le (hexec : p.tables.exec = Jvm.exec) (hb : c.code = cc) (hP : mj_P F s h H) (hL : mj_Lr F.ad L ls) (hlo : ∀ q ∈ locs, F.base ≤ q.base) {t o : Int} (ht : (pc : Int) + o = t) (h0 : 0 ≤ t) (hdg : decode cc pc = .ok (.if_icmp .le o, len)) (hlen : len = 3) (hi : mj_i P F.nT (.if_icmp .le t) (pc + len) L S h = some (pc1, L1, S1, h1)) (kk : mj_Kt p l e R s m args below meth c F Q h L.length cells slots pc1 L1 S1 h1) : W p l e R s m args below meth c H locs cells slots Q (F0 m pc ls (S.map F.cv)) := by
  subst hlen
  have hi : (match (generalizing := false) S with
    | .int y :: .int x :: r => some (if mj_cnd .le x y then t.toNat else pc + 3, L, r, h)
    | _ => none) = some (pc1, L1, S1, h1) := hi
  have ht2 : (pc : Int) + o = (t.toNat : Int) := by omega
  split at hi
  · cases hi
    refine lv_icmp_le (tgt := t.toNat) hexec hb hdg ht2 (fun hc => ?_) (fun hc => ?_)
    · rw [if_pos (by simp [mj_cnd, hc])] at kk
      exact mj_Kt.go kk hP hL hlo rfl
    · rw [if_neg (by simp [mj_cnd] <;> simpa using hc)] at kk
      exact mj_Kt.go kk hP hL hlo rfl
  · cases hi
theorem mjo_goto (hexec : p.tables.exec = Jvm.exec) (hb : c.code = cc) (hP : mj_P F s h H) (hL : mj_Lr F.ad L ls) (hlo : ∀ q ∈ locs, F.base ≤ q.base) {t o : Int} (ht : (pc : Int) + o = t) (h0 : 0 ≤ t) (hdg : decode cc pc = .ok (.goto o, len)) (hlen : len = 3) (hi : mj_i P F.nT (.goto t) (pc + len) L S h = some (pc1, L1, S1, h1)) (kk : mj_Kt p l e R s m args below meth c F Q h L.length cells slots pc1 L1 S1 h1) : W p l e R s m args below meth c H locs cells slots Q (F0 m pc ls (S.map F.cv)) := by
  subst hlen
  cases (show some _ = some (pc1, L1, S1, h1) from hi)
  exact lv_goto (tgt := t.toNat) hexec hb hdg (by omega) (kk.go hP hL hlo rfl)
theorem mjo_ifnull (hexec : p.tables.exec = Jvm.exec) (hb : c.code = cc) (hP : mj_P F s h H) (hL : mj_Lr F.ad L ls) (hlo : ∀ q ∈ locs, F.base ≤ q.base) {t o : Int} (ht : (pc : Int) + o = t) (h0 : 0 ≤ t) (hdg : decode cc pc = .ok (.ifnull o, len)) (hlen : len = 3) (hi : mj_i P F.nT (.ifnull t) (pc + len) L S h = some (pc1, L1, S1, h1)) (kk : mj_Kt p l e R s m args below meth c F Q h L.length cells slots pc1 L1 S1 h1) : W p l e R s m args below meth c H locs cells slots Q (F0 m pc ls (S.map F.cv)) := by
  subst hlen
  have hi : (match (generalizing := false) S with
    | .ref _ :: r => some (pc + 3, L, r, h)
    | .null :: r => some (t.toNat, L, r, h)
    | _ => none) = some (pc1, L1, S1, h1) := hi
  split at hi
  · cases hi
    exact lv_ifnull hexec hb hdg (kk.go hP hL hlo rfl)
  · cases hi
    exact lv_ifnullN (tgt := t.toNat) hexec hb hdg (by omega) (kk.go hP hL hlo rfl)
  · cases hi
theorem mjo_ifnonnull (hexec : p.tables.exec = Jvm.exec) (hb : c.code = cc) (hP : mj_P F s h H) (hL : mj_Lr F.ad L ls) (hlo : ∀ q ∈ locs, F.base ≤ q.base) {t o : Int} (ht : (pc : Int) + o = t) (h0 : 0 ≤ t) (hdg : decode cc pc = .ok (.ifnonnull o, len)) (hlen : len = 3) (hi : mj_i P F.nT (.ifnonnull t) (pc + len) L S h = some (pc1, L1, S1, h1)) (kk : mj_Kt p l e R s m args below meth c F Q h L.length cells slots pc1 L1 S1 h1) : W p l e R s m args below meth c H locs cells slots Q (F0 m pc ls (S.map F.cv)) := by
  subst hlen
  have hi : (match (generalizing := false) S with
    | .ref _ :: r => some (t.toNat, L, r, h)
    | .null :: r => some (pc + 3, L, r, h)
    | _ => none) = some (pc1, L1, S1, h1) := hi
  split at hi
  · cases hi
    exact lv_ifnonnull (tgt := t.toNat) hexec hb hdg (by omega) (kk.go hP hL hlo rfl)
  · cases hi
    exact lv_ifnonnullN hexec hb hdg (kk.go hP hL hlo rfl)
  · cases hi
end MJO
