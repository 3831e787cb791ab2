/-! an instruction, a row: heap-free ones -/
section
variable {R : Type} {F : Option R} {P : R → zO → zA → Prop} {d w mi pc pc1 len : Nat} {L : zLs} {S : List zV} {A : zA}
theorem zG_i {pc2 : Nat} {i : Instr} {L1 : zLs} {S1 : List zV} {A1 : zA} (hc : mp_code mi pc = some (i, len)) (hn : zpl i = true) (e : pc + len = pc1) (hi : zFin A → mj_i mp_P 4 i pc1 (zL L) (zS S) (zhp A) = some (pc2, zL L1, zS S1, zhp A1) ∧ zFin A1) (k : zG F P d w mi pc2 L1 S1 A1) : zG F P d w mi pc L S A := by
  intro r hr
  subst e
  exact zW_i hc hn hi (k r hr)
theorem zG_none {R : Type} {P : R → zO → zA → Prop} : zG none P d w mi pc L S A := fun r hr => by cases hr
theorem zG_ite {c : Prop} {hd : Decidable c} {F1 F2 : Option R} (h1 : c → zG F1 P d w mi pc L S A) (h2 : ¬ c → zG F2 P d w mi pc L S A) : zG (if c then F1 else F2) P d w mi pc L S A := by
  split
  · exact h1 ‹_›
  · exact h2 ‹_›
theorem zL_get {k : Nat} {v : zV} (h : L[k]? = some (some v)) : (zL L)[k]? = some (some (zval v)) := by simp [zL, h]
theorem zL_len : (zL L).length = L.length := by simp [zL]
def zclr (L : zLs) (i : Nat) : zLs := match i with
  | 0 => L
  | j + 1 => match L[j]? with
    | some (some (.inr (.inl _))) => L.set j none
    | _ => L
def zst1 (L : zLs) (i : Nat) (v : zV) : zLs := (zclr L i).set i (some v)
def zst2 (L : zLs) (i : Nat) (v : zV) : zLs := ((zclr L i).set i (some v)).set (i + 1) none
theorem zL_clr (i : Nat) : mj_clr (zL L) i = zL (zclr L i) := by
  cases i with
  | zero => rfl
  | succ j =>
    unfold mj_clr zclr
    simp only
    have : (zL L)[j]? = (L[j]?).map (Option.map zval) := by simp [zL]
    rw [this]
    cases h : L[j]? with
    | none => rfl
    | some x => cases x with
      | none => rfl
      | some v => cases v with
        | inl z => rfl
        | inr v => cases v with
          | inl z => simp [zL, zval]
          | inr r => cases r <;> rfl
theorem zL_st1 (i : Nat) (v : zV) : mj_st1 (zL L) i (zval v) = zL (zst1 L i v) := by
  unfold mj_st1 zst1; rw [zL_clr]; simp [zL]
theorem zL_st2 (i : Nat) (v : zV) : mj_st2 (zL L) i (zval v) = zL (zst2 L i v) := by
  unfold mj_st2 zst2; rw [zL_clr]; simp [zL]
theorem js_iconst {n : Int} (hc : mp_code mi pc = some (.iconst n, len)) (e : pc + len = pc1) (k : zG F P d w mi pc1 L (.inl n :: S) A) : zG F P d w mi pc L S A := zG_i hc rfl e (fun hf => ⟨rfl, hf⟩) k
theorem js_ldc2 {n : Nat} (hc : mp_code mi pc = some (.ldc2_w n, len)) (e : pc + len = pc1) (k : zG F P d w mi pc1 L (.inr (.inl (Int64.ofNat n)) :: S) A) : zG F P d w mi pc L S A := zG_i hc rfl e (fun hf => ⟨rfl, hf⟩) k
theorem js_getstatic {n : Nat} (hc : mp_code mi pc = some (.getstatic n, len)) (e : pc + len = pc1) (hn : n < 4) (k : zG F P d w mi pc1 L (.inr (.inr (some n)) :: S) A) : zG F P d w mi pc L S A := zG_i hc rfl e (fun hf => ⟨by simp only [mj_i, if_pos hn]; rfl, hf⟩) k
theorem js_iload {n : Nat} {x : Int} (hc : mp_code mi pc = some (.iload n, len)) (e : pc + len = pc1) (hL : L[n]? = some (some (.inl x))) (k : zG F P d w mi pc1 L (.inl x :: S) A) : zG F P d w mi pc L S A := zG_i hc rfl e (fun hf => ⟨by simp only [mj_i, zL_get hL, zval]; rfl, hf⟩) k
theorem js_lload {n : Nat} {x : Int64} (hc : mp_code mi pc = some (.lload n, len)) (e : pc + len = pc1) (hL : L[n]? = some (some (.inr (.inl x)))) (k : zG F P d w mi pc1 L (.inr (.inl x) :: S) A) : zG F P d w mi pc L S A := zG_i hc rfl e (fun hf => ⟨by simp only [mj_i, zL_get hL, zval]; rfl, hf⟩) k
theorem js_aload {n : Nat} {x : Option Nat} (hc : mp_code mi pc = some (.aload n, len)) (e : pc + len = pc1) (hL : L[n]? = some (some (.inr (.inr x)))) (k : zG F P d w mi pc1 L (.inr (.inr x) :: S) A) : zG F P d w mi pc L S A := zG_i hc rfl e (fun hf => ⟨by cases x <;> (simp only [mj_i, zL_get hL, zval, zrv]; rfl), hf⟩) k
theorem js_istore {n : Nat} {x : Int} {L1 : zLs} (hc : mp_code mi pc = some (.istore n, len)) (e : pc + len = pc1) (hn : Nat.blt n L.length = true) (hL : zst1 L n (.inl x) = L1) (k : zG F P d w mi pc1 L1 S A) : zG F P d w mi pc L (.inl x :: S) A := zG_i hc rfl e (fun hf => ⟨by rw [← hL, ← zL_st1]; simp only [mj_i, zS, List.map_cons, zval, zL_len, if_pos (Nat.blt_eq.mp hn)], hf⟩) k
theorem js_lstore {n : Nat} {x : Int64} {L1 : zLs} (hc : mp_code mi pc = some (.lstore n, len)) (e : pc + len = pc1) (hn : Nat.blt (n + 1) L.length = true) (hL : zst2 L n (.inr (.inl x)) = L1) (k : zG F P d w mi pc1 L1 S A) : zG F P d w mi pc L (.inr (.inl x) :: S) A := zG_i hc rfl e (fun hf => ⟨by rw [← hL, ← zL_st2]; simp only [mj_i, zS, List.map_cons, zval, zL_len, if_pos (Nat.blt_eq.mp hn)], hf⟩) k
theorem js_astore {n : Nat} {x : Option Nat} {L1 : zLs} (hc : mp_code mi pc = some (.astore n, len)) (e : pc + len = pc1) (hn : Nat.blt n L.length = true) (hL : zst1 L n (.inr (.inr x)) = L1) (k : zG F P d w mi pc1 L1 S A) : zG F P d w mi pc L (.inr (.inr x) :: S) A := zG_i hc rfl e (fun hf => ⟨by rw [← hL, ← zL_st1]; cases x <;> simp only [mj_i, zS, List.map_cons, zval, zrv, zL_len, if_pos (Nat.blt_eq.mp hn)], hf⟩) k
theorem js_iinc {n : Nat} {i x : Int} {L1 : zLs} (hc : mp_code mi pc = some (.iinc n i, len)) (e : pc + len = pc1) (hx : L[n]? = some (some (.inl x))) (hL : zst1 L n (.inl (x + i)) = L1) (k : zG F P d w mi pc1 L1 S A) : zG F P d w mi pc L S A := zG_i hc rfl e (fun hf => ⟨by rw [← hL, ← zL_st1]; simp only [mj_i, zL_get hx, zval, Int32.ofInt_add], hf⟩) k
theorem js_iadd {x y : Int} (hc : mp_code mi pc = some (.iadd, len)) (e : pc + len = pc1) (k : zG F P d w mi pc1 L (.inl (x + y) :: S) A) : zG F P d w mi pc L (.inl y :: .inl x :: S) A := zG_i hc rfl e (fun hf => ⟨by simp only [mj_i, zS, List.map_cons, zval, Int32.ofInt_add], hf⟩) k
theorem js_isub {x y : Int} (hc : mp_code mi pc = some (.isub, len)) (e : pc + len = pc1) (k : zG F P d w mi pc1 L (.inl (x - y) :: S) A) : zG F P d w mi pc L (.inl y :: .inl x :: S) A := zG_i hc rfl e (fun hf => ⟨by simp only [mj_i, zS, List.map_cons, zval, Int32.ofInt_sub], hf⟩) k
theorem js_imul {x y : Int} (hc : mp_code mi pc = some (.imul, len)) (e : pc + len = pc1) (k : zG F P d w mi pc1 L (.inl (x * y) :: S) A) : zG F P d w mi pc L (.inl y :: .inl x :: S) A := zG_i hc rfl e (fun hf => ⟨by simp only [mj_i, zS, List.map_cons, zval, Int32.ofInt_mul], hf⟩) k
theorem js_ineg {x : Int} (hc : mp_code mi pc = some (.ineg, len)) (e : pc + len = pc1) (k : zG F P d w mi pc1 L (.inl (-x) :: S) A) : zG F P d w mi pc L (.inl x :: S) A := zG_i hc rfl e (fun hf => ⟨by simp only [mj_i, zS, List.map_cons, zval, Int32.ofInt_neg], hf⟩) k
theorem js_idiv {x y : Int} (hc : mp_code mi pc = some (.idiv, len)) (e : pc + len = pc1) (k : zG F P d w mi pc1 L (.inl (zdv x y) :: S) A) : zG (if zw y = 0 then none else F) P d w mi pc L (.inl y :: .inl x :: S) A := zG_ite (fun _ => zG_none) (fun hy => zG_i hc rfl e (fun hf => ⟨by
  have : ¬ Int32.ofInt y = 0 := fun q => hy (by rw [zw, q]; rfl)
  simp only [mj_i, zS, List.map_cons, zval, if_neg this, zdv, Int32.ofInt_toInt], hf⟩) k)
theorem js_irem {x y : Int} (hc : mp_code mi pc = some (.irem, len)) (e : pc + len = pc1) (k : zG F P d w mi pc1 L (.inl (zrm x y) :: S) A) : zG (if zw y = 0 then none else F) P d w mi pc L (.inl y :: .inl x :: S) A := zG_ite (fun _ => zG_none) (fun hy => zG_i hc rfl e (fun hf => ⟨by
  have : ¬ Int32.ofInt y = 0 := fun q => hy (by rw [zw, q]; rfl)
  simp only [mj_i, zS, List.map_cons, zval, if_neg this, zrm, Int32.ofInt_toInt], hf⟩) k)
theorem js_iand {x y : Int} (hc : mp_code mi pc = some (.iand, len)) (e : pc + len = pc1) (k : zG F P d w mi pc1 L (.inl (zan x y) :: S) A) : zG F P d w mi pc L (.inl y :: .inl x :: S) A := zG_i hc rfl e (fun hf => ⟨by simp only [mj_i, zS, List.map_cons, zval, zan, Int32.ofInt_toInt], hf⟩) k
theorem js_ixor {x y : Int} (hc : mp_code mi pc = some (.ixor, len)) (e : pc + len = pc1) (k : zG F P d w mi pc1 L (.inl (zxr x y) :: S) A) : zG F P d w mi pc L (.inl y :: .inl x :: S) A := zG_i hc rfl e (fun hf => ⟨by simp only [mj_i, zS, List.map_cons, zval, zxr, Int32.ofInt_toInt], hf⟩) k
theorem js_ishr {x y : Int} (hc : mp_code mi pc = some (.ishr, len)) (e : pc + len = pc1) (k : zG F P d w mi pc1 L (.inl (zhr x y) :: S) A) : zG F P d w mi pc L (.inl y :: .inl x :: S) A := zG_i hc rfl e (fun hf => ⟨by simp only [mj_i, zS, List.map_cons, zval, zhr, Int32.ofInt_toInt], hf⟩) k
theorem js_iushr {x y : Int} (hc : mp_code mi pc = some (.iushr, len)) (e : pc + len = pc1) (k : zG F P d w mi pc1 L (.inl (zuh x y) :: S) A) : zG F P d w mi pc L (.inl y :: .inl x :: S) A := zG_i hc rfl e (fun hf => ⟨by simp only [mj_i, zS, List.map_cons, zval, zuh, Int32.ofInt_toInt], hf⟩) k
theorem js_i2c {x : Int} (hc : mp_code mi pc = some (.i2c, len)) (e : pc + len = pc1) (k : zG F P d w mi pc1 L (.inl (zch x) :: S) A) : zG F P d w mi pc L (.inl x :: S) A := zG_i hc rfl e (fun hf => ⟨by simp only [mj_i, zS, List.map_cons, zval, zch, Int32.ofInt_toInt], hf⟩) k
theorem js_i2l {x : Int} (hc : mp_code mi pc = some (.i2l, len)) (e : pc + len = pc1) (k : zG F P d w mi pc1 L (.inr (.inl (zil x)) :: S) A) : zG F P d w mi pc L (.inl x :: S) A := zG_i hc rfl e (fun hf => ⟨rfl, hf⟩) k
theorem js_l2i {x : Int64} (hc : mp_code mi pc = some (.l2i, len)) (e : pc + len = pc1) (k : zG F P d w mi pc1 L (.inl (x.toInt32.toInt) :: S) A) : zG F P d w mi pc L (.inr (.inl x) :: S) A := zG_i hc rfl e (fun hf => ⟨by simp only [mj_i, zS, List.map_cons, zval, Int32.ofInt_toInt], hf⟩) k
theorem js_lcmp {x y : Int64} (hc : mp_code mi pc = some (.lcmp, len)) (e : pc + len = pc1) (k : zG F P d w mi pc1 L (.inl ((lg_cmp x y).toInt) :: S) A) : zG F P d w mi pc L (.inr (.inl y) :: .inr (.inl x) :: S) A := zG_i hc rfl e (fun hf => ⟨by simp only [mj_i, zS, List.map_cons, zval, Int32.ofInt_toInt], hf⟩) k
theorem js_land {x y : Int64} (hc : mp_code mi pc = some (.land, len)) (e : pc + len = pc1) (k : zG F P d w mi pc1 L (.inr (.inl (x &&& y)) :: S) A) : zG F P d w mi pc L (.inr (.inl y) :: .inr (.inl x) :: S) A := zG_i hc rfl e (fun hf => ⟨rfl, hf⟩) k
theorem js_lor {x y : Int64} (hc : mp_code mi pc = some (.lor, len)) (e : pc + len = pc1) (k : zG F P d w mi pc1 L (.inr (.inl (x ||| y)) :: S) A) : zG F P d w mi pc L (.inr (.inl y) :: .inr (.inl x) :: S) A := zG_i hc rfl e (fun hf => ⟨rfl, hf⟩) k
theorem js_lxor {x y : Int64} (hc : mp_code mi pc = some (.lxor, len)) (e : pc + len = pc1) (k : zG F P d w mi pc1 L (.inr (.inl (x ^^^ y)) :: S) A) : zG F P d w mi pc L (.inr (.inl y) :: .inr (.inl x) :: S) A := zG_i hc rfl e (fun hf => ⟨rfl, hf⟩) k
theorem js_lshl {x : Int64} {y : Int} (hc : mp_code mi pc = some (.lshl, len)) (e : pc + len = pc1) (k : zG F P d w mi pc1 L (.inr (.inl (zlsl x y)) :: S) A) : zG F P d w mi pc L (.inl y :: .inr (.inl x) :: S) A := zG_i hc rfl e (fun hf => ⟨rfl, hf⟩) k
theorem js_lshr {x : Int64} {y : Int} (hc : mp_code mi pc = some (.lshr, len)) (e : pc + len = pc1) (k : zG F P d w mi pc1 L (.inr (.inl (zlsr x y)) :: S) A) : zG F P d w mi pc L (.inl y :: .inr (.inl x) :: S) A := zG_i hc rfl e (fun hf => ⟨rfl, hf⟩) k
theorem js_lushr {x : Int64} {y : Int} (hc : mp_code mi pc = some (.lushr, len)) (e : pc + len = pc1) (k : zG F P d w mi pc1 L (.inr (.inl (zlus x y)) :: S) A) : zG F P d w mi pc L (.inl y :: .inr (.inl x) :: S) A := zG_i hc rfl e (fun hf => ⟨rfl, hf⟩) k
theorem js_dupI {x : Int} (hc : mp_code mi pc = some (.dup, len)) (e : pc + len = pc1) (k : zG F P d w mi pc1 L (.inl x :: .inl x :: S) A) : zG F P d w mi pc L (.inl x :: S) A := zG_i hc rfl e (fun hf => ⟨rfl, hf⟩) k
theorem js_dupR {x : Nat} (hc : mp_code mi pc = some (.dup, len)) (e : pc + len = pc1) (k : zG F P d w mi pc1 L (.inr (.inr (some x)) :: .inr (.inr (some x)) :: S) A) : zG F P d w mi pc L (.inr (.inr (some x)) :: S) A := zG_i hc rfl e (fun hf => ⟨rfl, hf⟩) k
theorem js_dup2 {x : Int} {y : Nat} (hc : mp_code mi pc = some (.dup2, len)) (e : pc + len = pc1) (k : zG F P d w mi pc1 L (.inl x :: .inr (.inr (some y)) :: .inl x :: .inr (.inr (some y)) :: S) A) : zG F P d w mi pc L (.inl x :: .inr (.inr (some y)) :: S) A := zG_i hc rfl e (fun hf => ⟨rfl, hf⟩) k
theorem js_popI {x : Int} (hc : mp_code mi pc = some (.pop, len)) (e : pc + len = pc1) (k : zG F P d w mi pc1 L S A) : zG F P d w mi pc L (.inl x :: S) A := zG_i hc rfl e (fun hf => ⟨rfl, hf⟩) k
theorem js_goto {t : Int} {t1 : Nat} (hc : mp_code mi pc = some (.goto t, len)) (e : t.toNat = t1) (k : zG F P d w mi t1 L S A) : zG F P d w mi pc L S A := zG_i hc rfl rfl (fun hf => ⟨by rw [← e]; rfl, hf⟩) k
theorem zcmp_eq {x y : Int} (hx : zrg x) (hy : zrg y) : (Int32.ofInt x = Int32.ofInt y) ↔ x = y := ⟨fun h => by rw [← zof x hx, ← zof y hy, h], fun h => by rw [h]⟩
theorem zcmp_lt {x y : Int} (hx : zrg x) (hy : zrg y) : (Int32.ofInt x < Int32.ofInt y) ↔ x < y := by rw [Int32.lt_iff_toInt_lt, zof x hx, zof y hy]
theorem zcmp_le {x y : Int} (hx : zrg x) (hy : zrg y) : (Int32.ofInt x ≤ Int32.ofInt y) ↔ x ≤ y := by rw [Int32.le_iff_toInt_le, zof x hx, zof y hy]
/-- comparisons: F asks x = y or x < y alone -/
theorem zG_cmp {c : ClassFile.Cond} {t : Int} {x y : Int} {q : Prop} {hq : Decidable q} {F1 F2 : Option R} {t1 : Nat} (hc : mp_code mi pc = some (.if_icmp c t, len)) (e1 : t.toNat = t1) (e : pc + len = pc1) (hcn : mj_cnd c (Int32.ofInt x) (Int32.ofInt y) = true ↔ q) (h1 : q → zG F1 P d w mi t1 L S A) (h2 : ¬ q → zG F2 P d w mi pc1 L S A) : zG (if q then F1 else F2) P d w mi pc L (.inl y :: .inl x :: S) A := zG_ite (fun hq => zG_i hc rfl e (fun hf => ⟨by simp only [mj_i, zS, List.map_cons, zval, hcn.mpr hq, if_true, e1], hf⟩) (h1 hq)) (fun hq => zG_i hc rfl e (fun hf => ⟨by
  have : mj_cnd c (Int32.ofInt x) (Int32.ofInt y) = false := by
    cases z : mj_cnd c (Int32.ofInt x) (Int32.ofInt y) with
    | false => rfl
    | true => exact absurd (hcn.mp z) hq
  simp only [mj_i, zS, List.map_cons, zval, this, Bool.false_eq_true, if_false], hf⟩) (h2 hq))
theorem zG_cmp0 {c : ClassFile.Cond} {t : Int} {x : Int} {q : Prop} {hq : Decidable q} {F1 F2 : Option R} {t1 : Nat} (hc : mp_code mi pc = some (.ifCond c t, len)) (e1 : t.toNat = t1) (e : pc + len = pc1) (hcn : mj_cnd c (Int32.ofInt x) (Int32.ofInt 0) = true ↔ q) (h1 : q → zG F1 P d w mi t1 L S A) (h2 : ¬ q → zG F2 P d w mi pc1 L S A) : zG (if q then F1 else F2) P d w mi pc L (.inl x :: S) A := zG_ite (fun hq => zG_i hc rfl e (fun hf => ⟨by
  have : mj_cnd c (Int32.ofInt x) 0 = true := hcn.mpr hq
  simp only [mj_i, zS, List.map_cons, zval, this, if_true, e1], hf⟩) (h1 hq)) (fun hq => zG_i hc rfl e (fun hf => ⟨by
  have : mj_cnd c (Int32.ofInt x) 0 = false := by
    cases z : mj_cnd c (Int32.ofInt x) 0 with
    | false => rfl
    | true => exact absurd (hcn.mp z) hq
  simp only [mj_i, zS, List.map_cons, zval, this, Bool.false_eq_true, if_false], hf⟩) (h2 hq))
theorem zc_eq {x y : Int} (hx : zrg x) (hy : zrg y) : mj_cnd .eq (Int32.ofInt x) (Int32.ofInt y) = true ↔ x = y := by simp only [mj_cnd, decide_eq_true_eq, zcmp_eq hx hy]
theorem zc_ne {x y : Int} (hx : zrg x) (hy : zrg y) : mj_cnd .ne (Int32.ofInt x) (Int32.ofInt y) = true ↔ ¬ x = y := by simp only [mj_cnd, decide_eq_true_eq, zcmp_eq hx hy]
theorem zc_lt {x y : Int} (hx : zrg x) (hy : zrg y) : mj_cnd .lt (Int32.ofInt x) (Int32.ofInt y) = true ↔ x < y := by simp only [mj_cnd, decide_eq_true_eq, zcmp_lt hx hy]
theorem zc_ge {x y : Int} (hx : zrg x) (hy : zrg y) : mj_cnd .ge (Int32.ofInt x) (Int32.ofInt y) = true ↔ ¬ x < y := by simp only [mj_cnd, decide_eq_true_eq, zcmp_le hy hx]; omega
theorem zc_gt {x y : Int} (hx : zrg x) (hy : zrg y) : mj_cnd .gt (Int32.ofInt x) (Int32.ofInt y) = true ↔ y < x := by simp only [mj_cnd, decide_eq_true_eq, zcmp_lt hy hx]
theorem zc_le {x y : Int} (hx : zrg x) (hy : zrg y) : mj_cnd .le (Int32.ofInt x) (Int32.ofInt y) = true ↔ ¬ y < x := by simp only [mj_cnd, decide_eq_true_eq, zcmp_le hx hy]; omega
theorem zG_not {q : Prop} {hq : Decidable q} {F1 F2 : Option R} (h : zG (if ¬ q then F1 else F2) P d w mi pc L S A) : zG (if q then F2 else F1) P d w mi pc L S A := by
  by_cases e : q
  · rw [if_neg (fun z => z e)] at h; rw [if_pos e]; exact h
  · rw [if_pos e] at h; rw [if_neg e]; exact h
theorem js_null {x : Option Nat} {t : Int} {t1 : Nat} {F1 : Option R} {F2 : Option R} (hc : mp_code mi pc = some (.ifnull t, len)) (e1 : t.toNat = t1) (e : pc + len = pc1) (h1 : x = none → zG F1 P d w mi t1 L S A) (h2 : ¬ x = none → zG F2 P d w mi pc1 L S A) : zG (if x = none then F1 else F2) P d w mi pc L (.inr (.inr x) :: S) A := zG_ite (fun hq => zG_i hc rfl e (fun hf => ⟨by rw [hq]; simp only [mj_i, zS, List.map_cons, zval, zrv, e1], hf⟩) (h1 hq)) (fun hq => zG_i hc rfl e (fun hf => ⟨by
  cases x with
  | none => exact absurd rfl hq
  | some a => simp only [mj_i, zS, List.map_cons, zval, zrv], hf⟩) (h2 hq))
theorem js_nonnull {x : Option Nat} {t : Int} {t1 : Nat} {F1 : Option R} {F2 : Option R} (hc : mp_code mi pc = some (.ifnonnull t, len)) (e1 : t.toNat = t1) (e : pc + len = pc1) (h1 : ¬ x = none → zG F1 P d w mi t1 L S A) (h2 : x = none → zG F2 P d w mi pc1 L S A) : zG (if x = none then F2 else F1) P d w mi pc L (.inr (.inr x) :: S) A := zG_ite (fun hq => zG_i hc rfl e (fun hf => ⟨by rw [hq]; simp only [mj_i, zS, List.map_cons, zval, zrv], hf⟩) (h2 hq)) (fun hq => zG_i hc rfl e (fun hf => ⟨by
  cases x with
  | none => exact absurd rfl hq
  | some a => simp only [mj_i, zS, List.map_cons, zval, zrv, e1], hf⟩) (h1 hq))
theorem js_tsw {x v dd lo hi : Int} {ts : Array Int} {t1 : Nat} (hc : mp_code mi pc = some (.tableswitch dd lo hi ts, len)) (hx : x = v) (hv : zrg v) (ht : (if v < lo ∨ hi < v then some dd.toNat else (ts[(v - lo).toNat]?).map Int.toNat) = some t1) (k : zG F P d w mi t1 L S A) : zG F P d w mi pc L (.inl x :: S) A := zG_i hc rfl rfl (fun hf => ⟨by
  subst hx
  simp only [mj_i, zS, List.map_cons, zval, zof x hv]
  split at ht
  · cases ht; rw [if_pos ‹_›]
  · rw [if_neg ‹_›]
    cases hts : ts[(x - lo).toNat]? with
    | none => rw [hts] at ht; cases ht
    | some t => rw [hts] at ht; cases ht; rfl, hf⟩) k
theorem js_tswd {x dd lo hi : Int} {ts : Array Int} {t1 : Nat} (hc : mp_code mi pc = some (.tableswitch dd lo hi ts, len)) (hx : zrg x) (ho : x < lo ∨ hi < x) (ht : dd.toNat = t1) (k : zG F P d w mi t1 L S A) : zG F P d w mi pc L (.inl x :: S) A := zG_i hc rfl rfl (fun hf => ⟨by
  simp only [mj_i, zS, List.map_cons, zval, zof x hx, if_pos ho, ht], hf⟩) k
theorem js_lsw {x v dd : Int} {ps : Array (Int × Int)} {t1 : Nat} (hc : mp_code mi pc = some (.lookupswitch dd ps, len)) (hx : x = v) (hv : zrg v) (ht : (mj_sw ps.toList dd v).toNat = t1) (k : zG F P d w mi t1 L S A) : zG F P d w mi pc L (.inl x :: S) A := zG_i hc rfl rfl (fun hf => ⟨by
  subst hx
  simp only [mj_i, zS, List.map_cons, zval, zof x hv, ht], hf⟩) k
theorem zsw_d : ∀ (ps : List (Int × Int)) (dd x : Int), (∀ q ∈ ps, ¬ x = q.1) → mj_sw ps dd x = dd
  | [], _, _, _ => rfl
  | (a, t) :: r, dd, x, h => by
    have h1 : ¬ a = x := fun e => h (a, t) List.mem_cons_self e.symm
    rw [mj_sw, if_neg h1]
    exact zsw_d r dd x (fun q hq => h q (List.mem_cons_of_mem _ hq))
theorem js_lswd {x dd : Int} {ps : Array (Int × Int)} {t1 : Nat} (hc : mp_code mi pc = some (.lookupswitch dd ps, len)) (hx : zrg x) (ho : ∀ q ∈ ps.toList, ¬ x = q.1) (ht : dd.toNat = t1) (k : zG F P d w mi t1 L S A) : zG F P d w mi pc L (.inl x :: S) A := zG_i hc rfl rfl (fun hf => ⟨by
  simp only [mj_i, zS, List.map_cons, zval, zof x hx, zsw_d _ _ _ ho, ht], hf⟩) k
end
