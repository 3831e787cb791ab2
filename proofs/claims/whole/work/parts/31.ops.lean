/-! the kernel's machine: instructions -/
abbrev mq_R : Type := Option (mj_O × mq_H × mq_X)
abbrev mq_K : Type := Nat → mj_L → List Value → mq_H → mq_X → mq_R
def mq_add (X : mq_X) (f : mq_F) : mq_X := (X.1, X.2.1, f :: X.2.2)
def mq_new (X : mq_X) (f : mq_F) : mq_X := (X.1, X.2.1 + 1, f :: X.2.2)
noncomputable def mqo_ild (k nx : Nat) (L : mj_L) (S : List Value) (h : mq_H) (X : mq_X) (kk : mq_K) : mq_R := match L[k]? with
  | some (some v) => bif mq_isI v then kk nx L (v :: S) h X else none
  | _ => none
noncomputable def mqo_lld (k nx : Nat) (L : mj_L) (S : List Value) (h : mq_H) (X : mq_X) (kk : mq_K) : mq_R := match L[k]? with
  | some (some (.long x)) => kk nx L (.long x :: S) h X
  | _ => none
noncomputable def mqo_ald (k nx : Nat) (L : mj_L) (S : List Value) (h : mq_H) (X : mq_X) (kk : mq_K) : mq_R := match L[k]? with
  | some (some (.ref x)) => kk nx L (.ref x :: S) h X
  | some (some .null) => kk nx L (.null :: S) h X
  | _ => none
noncomputable def mqo_ist (k nx : Nat) (L : mj_L) (S : List Value) (h : mq_H) (X : mq_X) (kk : mq_K) : mq_R := match S with
  | v :: r => bif mq_isI v && Nat.blt k L.length then kk nx (mj_st1 L k v) r h X else none
  | _ => none
noncomputable def mqo_lst (k nx : Nat) (L : mj_L) (S : List Value) (h : mq_H) (X : mq_X) (kk : mq_K) : mq_R := match S with
  | .long x :: r => bif Nat.blt (k + 1) L.length then kk nx (mj_st2 L k (.long x)) r h X else none
  | _ => none
noncomputable def mqo_ast (k nx : Nat) (L : mj_L) (S : List Value) (h : mq_H) (X : mq_X) (kk : mq_K) : mq_R := match S with
  | .ref x :: r => bif Nat.blt k L.length then kk nx (mj_st1 L k (.ref x)) r h X else none
  | .null :: r => bif Nat.blt k L.length then kk nx (mj_st1 L k .null) r h X else none
  | _ => none
noncomputable def mqo_bin (c : Nat) (a b : Value) (X : mq_X) (kk : Value → mq_X → mq_R) : mq_R := match a, b with
  | .int x, .int y => kk (.int (mq_f c x y)) X
  | a, b => bif mq_isI a && mq_isI b then kk (.retAddr X.2.1) (mq_new X (.inr (c, X.2.1, a, b))) else none
noncomputable def mqo_ari (c nx : Nat) (L : mj_L) (S : List Value) (h : mq_H) (X : mq_X) (kk : mq_K) : mq_R := match S with
  | b :: a :: r => mqo_bin c a b X (fun v X1 => kk nx L (v :: r) h X1)
  | _ => none
noncomputable def mqo_inc (k : Nat) (n : Int) (nx : Nat) (L : mj_L) (S : List Value) (h : mq_H) (X : mq_X) (kk : mq_K) : mq_R := match L[k]? with
  | some (some a) => mqo_bin 0 a (.int (Int32.ofInt n)) X (fun v X1 => kk nx (mj_st1 L k v) S h X1)
  | _ => none
noncomputable def mqo_i2c (nx : Nat) (L : mj_L) (S : List Value) (h : mq_H) (X : mq_X) (kk : mq_K) : mq_R := match S with
  | a :: r => mqo_bin 7 a (.int 0) X (fun v X1 => kk nx L (v :: r) h X1)
  | _ => none
noncomputable def mqo_i2l (nx : Nat) (L : mj_L) (S : List Value) (h : mq_H) (X : mq_X) (kk : mq_K) : mq_R := match S with
  | .int x :: r => kk nx L (.long x.toInt64 :: r) h X
  | _ => none
noncomputable def mqo_lcmp (nx : Nat) (L : mj_L) (S : List Value) (h : mq_H) (X : mq_X) (kk : mq_K) : mq_R := match S with
  | .long y :: .long x :: r => kk nx L (.int (lg_cmp x y) :: r) h X
  | _ => none
noncomputable def mqo_dup (nx : Nat) (L : mj_L) (S : List Value) (h : mq_H) (X : mq_X) (kk : mq_K) : mq_R := match S with
  | .ref x :: r => kk nx L (.ref x :: .ref x :: r) h X
  | v :: r => bif mq_isI v then kk nx L (v :: v :: r) h X else none
  | _ => none
noncomputable def mqo_pop (nx : Nat) (L : mj_L) (S : List Value) (h : mq_H) (X : mq_X) (kk : mq_K) : mq_R := match S with
  | .ref _ :: r => kk nx L r h X
  | v :: r => bif mq_isI v then kk nx L r h X else none
  | _ => none
noncomputable def mqo_cnd (c : ClassFile.Cond) (a b : Value) (X : mq_X) (kk : Bool → mq_X → mq_R) : mq_R := match a, b with
  | .int x, .int y => kk (mj_cnd c x y) X
  | a, b => bif mq_isI a && mq_isI b then (match X.1 with
    | 0 :: O => kk false (O, X.2.1, .inl (c, false, a, b) :: X.2.2)
    | 1 :: O => kk true (O, X.2.1, .inl (c, true, a, b) :: X.2.2)
    | _ => none) else none
noncomputable def mqo_if (c : ClassFile.Cond) (t : Int) (nx : Nat) (L : mj_L) (S : List Value) (h : mq_H) (X : mq_X) (kk : mq_K) : mq_R := match S with
  | a :: r => mqo_cnd c a (.int 0) X (fun b X1 => bif b then kk t.toNat L r h X1 else kk nx L r h X1)
  | _ => none
noncomputable def mqo_icmp (c : ClassFile.Cond) (t : Int) (nx : Nat) (L : mj_L) (S : List Value) (h : mq_H) (X : mq_X) (kk : mq_K) : mq_R := match S with
  | b :: a :: r => mqo_cnd c a b X (fun q X1 => bif q then kk t.toNat L r h X1 else kk nx L r h X1)
  | _ => none
noncomputable def mqo_tsw (d lo hi : Int) (ts : Array Int) (L : mj_L) (S : List Value) (h : mq_H) (X : mq_X) (kk : mq_K) : mq_R := match S with
  | .int x :: r => bif decide (x.toInt < lo) || decide (hi < x.toInt) then kk d.toNat L r h X else (match ts.toList[(x.toInt - lo).toNat]? with
    | some t => kk t.toNat L r h X
    | none => none)
  | .retAddr k :: r => (match X.1 with
    | 0 :: O => bif decide ((Int32.ofInt lo).toInt = lo) && decide (((hi.toNat : Nat) : Int) = hi) then kk d.toNat L r h (O, X.2.1, .inr (40, hi.toNat, .retAddr k, .int (Int32.ofInt lo)) :: X.2.2) else none
    | (j + 1) :: O => bif decide ((Int32.ofInt (lo + j)).toInt = lo + j) && decide (lo + j ≤ hi) then (match ts.toList[j]? with
      | some t => kk t.toNat L r h (O, X.2.1, .inl (.eq, true, .retAddr k, .int (Int32.ofInt (lo + j))) :: X.2.2)
      | none => none) else none
    | _ => none)
  | _ => none
/-- an unknown before a lookupswitch: is it the first, the second .. -/
noncomputable def mqo_lsk (ps : List (Int × Int)) (d : Int) (v : Value) (X : mq_X) (kk : Int → mq_X → mq_R) : mq_R := match ps with
  | [] => kk d X
  | q :: r => bif decide ((Int32.ofInt q.1).toInt = q.1) then mqo_cnd .eq v (.int (Int32.ofInt q.1)) X (fun b X1 => bif b then kk q.2 X1 else mqo_lsk r d v X1 kk) else none
noncomputable def mqo_lsw (d : Int) (ps : Array (Int × Int)) (L : mj_L) (S : List Value) (h : mq_H) (X : mq_X) (kk : mq_K) : mq_R := match S with
  | .int x :: r => kk (mj_sw ps.toList d x.toInt).toNat L r h X
  | .retAddr k :: r => mqo_lsk ps.toList d (.retAddr k) X (fun t X1 => kk t.toNat L r h X1)
  | _ => none
noncomputable def mqo_gst (nT k nx : Nat) (L : mj_L) (S : List Value) (h : mq_H) (X : mq_X) (kk : mq_K) : mq_R := bif Nat.blt k nT then kk nx L (.ref k :: S) h X else none
noncomputable def mqo_gfd (P : mj_Pr) (ci j nx : Nat) (L : mj_L) (S : List Value) (h : mq_H) (X : mq_X) (kk : mq_K) : mq_R := match S with
  | .ref a :: r => (match mq_cell h a with
    | some (false, u, n, dv, m) => bif Nat.beq u ci && Nat.blt j n then kk nx L (mq_look P (false, u, n, dv, m) j :: r) h X else none
    | _ => none)
  | _ => none
def mq_fit (t : Nat) (v : Value) : Bool := match t with
  | 0 => mq_isI v
  | t => mj_fit t v
noncomputable def mqo_pfd (nT ci j t nx : Nat) (L : mj_L) (S : List Value) (h : mq_H) (X : mq_X) (kk : mq_K) : mq_R := match S with
  | v :: .ref a :: r => (match mq_cell h a with
    | some (false, u, n, dv, m) => bif mq_fit t v && Nat.beq u ci && Nat.blt j n && Nat.ble nT a then mq_p2K m j v (fun m1 => mq_p2K h.2 a (false, u, n, dv, m1) (fun g => kk nx L r (h.1, g) X)) else none
    | _ => none)
  | _ => none
noncomputable def mqo_push (c : mq_C) (nx : Nat) (L : mj_L) (S : List Value) (h : mq_H) (X : mq_X) (kk : mq_K) : mq_R := mq_p2K h.2 h.1 c (fun g => kk nx L (.ref h.1 :: S) (h.1 + 1, g) X)
noncomputable def mqo_nwa (t : Nat) (dv : Value) (nx : Nat) (L : mj_L) (S : List Value) (h : mq_H) (X : mq_X) (kk : mq_K) : mq_R := match S with
  | .int n :: r => bif !decide (n < 0) && Nat.ble n.toNatClampNeg 1000000 then mqo_push (true, t, n.toNatClampNeg, dv, []) nx L r h X kk else none
  | _ => none
noncomputable def mq_pushN (c : mq_C) (n : Nat) : mq_H → (mq_H → mq_R) → mq_R := Nat.rec (motive := fun _ => mq_H → (mq_H → mq_R) → mq_R) (fun h kk => kk h) (fun _ ih h kk => mq_p2K h.2 h.1 c (fun g => ih (h.1 + 1, g) kk)) n
noncomputable def mq_refs (b n : Nat) : mq_M Value → (mq_M Value → mq_R) → mq_R := Nat.rec (motive := fun _ => mq_M Value → (mq_M Value → mq_R) → mq_R) (fun m kk => kk m) (fun j ih m kk => mq_p2K m j (.ref (b + j)) (fun g => ih g kk)) n
noncomputable def mqo_mul (t nx : Nat) (L : mj_L) (S : List Value) (h : mq_H) (X : mq_X) (kk : mq_K) : mq_R := match S with
  | .int m :: .int n :: r => bif !decide (n < 0) && Nat.ble n.toNatClampNeg 1000 && !decide (m < 0) && Nat.ble m.toNatClampNeg 1000 then
      mq_refs (h.1 + 1) n.toNatClampNeg [] (fun rs => mq_p2K h.2 h.1 (true, t / 16, n.toNatClampNeg, .null, rs) (fun g => mq_pushN (true, t % 16, m.toNatClampNeg, mj_dv (t % 16), []) n.toNatClampNeg (h.1 + 1, g) (fun h1 => kk nx L (.ref h.1 :: r) h1 X))) else none
  | _ => none
noncomputable def mqo_len (nx : Nat) (L : mj_L) (S : List Value) (h : mq_H) (X : mq_X) (kk : mq_K) : mq_R := match S with
  | .ref a :: r => (match mq_cell h a with
    | some (true, _, n, _, _) => kk nx L (.int n.toInt32 :: r) h X
    | _ => none)
  | _ => none
noncomputable def mqo_xld (P : mj_Pr) (lo hi nx : Nat) (L : mj_L) (S : List Value) (h : mq_H) (X : mq_X) (kk : mq_K) : mq_R := match S with
  | .int x :: .ref a :: r => (match mq_cell h a with
    | some (true, u, n, dv, m) => bif Nat.ble lo u && Nat.ble u hi && !decide (x < 0) && Nat.blt x.toNatClampNeg n then kk nx L (mq_look P (true, u, n, dv, m) x.toNatClampNeg :: r) h X else none
    | _ => none)
  | _ => none
noncomputable def mqo_xst (nT t nx : Nat) (v : Value) (L : mj_L) (S : List Value) (h : mq_H) (X : mq_X) (kk : mq_K) : mq_R := match S with
  | .int x :: .ref a :: r => (match mq_cell h a with
    | some (true, u, n, dv, m) => bif Nat.beq u t && !decide (x < 0) && Nat.blt x.toNatClampNeg n && Nat.ble nT a then mq_p2K m x.toNatClampNeg v (fun m1 => mq_p2K h.2 a (true, u, n, dv, m1) (fun g => kk nx L r (h.1, g) X)) else none
    | _ => none)
  | _ => none
noncomputable def mqo_ias (nT nx : Nat) (L : mj_L) (S : List Value) (h : mq_H) (X : mq_X) (kk : mq_K) : mq_R := match S with
  | v :: r => bif mq_isI v then mqo_xst nT 0 nx v L r h X kk else none
  | _ => none
noncomputable def mqo_las (nT nx : Nat) (L : mj_L) (S : List Value) (h : mq_H) (X : mq_X) (kk : mq_K) : mq_R := match S with
  | .long v :: r => mqo_xst nT 1 nx (.long v) L r h X kk
  | _ => none
noncomputable def mqo_cas (nT nx : Nat) (L : mj_L) (S : List Value) (h : mq_H) (X : mq_X) (kk : mq_K) : mq_R := match S with
  | .int v :: r => bif mj_fit 2 (.int v) then mqo_xst nT 2 nx (.int v) L r h X kk else none
  | .retAddr k :: r => mqo_xst nT 2 nx (.retAddr k) L r h (mq_add X (.inr (42, 0, .retAddr k, .null))) kk
  | _ => none
noncomputable def mqo_bas (nT nx : Nat) (L : mj_L) (S : List Value) (h : mq_H) (X : mq_X) (kk : mq_K) : mq_R := match S with
  | .int v :: r => bif mj_fit 3 (.int v) then mqo_xst nT 3 nx (.int v) L r h X kk else none
  | _ => none
noncomputable def mqo_aas (nT nx : Nat) (L : mj_L) (S : List Value) (h : mq_H) (X : mq_X) (kk : mq_K) : mq_R := match S with
  | .ref v :: r => (match mq_cell h v with
    | some (false, u, _, _, _) => bif Nat.beq u 3 then mqo_xst nT 6 nx (.ref v) L r h X kk else none
    | _ => none)
  | _ => none
/-! .. and that they are MJ's -/
section MQO
variable {P : mj_Pr} {nT nx k c t : Nat} {L : mj_L} {S : List Value} {h : mq_H} {X : mq_X} {kk : mq_K} {r : mj_O × mq_H × mq_X}
def mq_To (P : mj_Pr) (nT : Nat) (i : Instr) (nx : Nat) (L : mj_L) (S : List Value) (h : mq_H) (X : mq_X) (kk : mq_K) (r : mj_O × mq_H × mq_X) : Prop := ∃ nx1 L1 S1 h1 X1, kk nx1 L1 S1 h1 X1 = some r ∧ (∀ f ∈ X.2.2, f ∈ X1.2.2) ∧ ∀ ρ, mq_Ok ρ X1.2.2 → mj_i P nT i nx (mq_l ρ L) (mq_s ρ S) (mq_h P ρ h) = some (nx1, mq_l ρ L1, mq_s ρ S1, mq_h P ρ h1)
theorem mq_bt {b : Bool} {α : Type} {x : Option α} {y : α} (h : (bif b then x else none) = some y) : b = true ∧ x = some y := by
  cases b with
  | true => exact ⟨rfl, h⟩
  | false => cases h
theorem mq_l_at (ρ : Nat → Int32) (L : mj_L) (k : Nat) : (mq_l ρ L)[k]? = (L[k]?).map (Option.map (mq_v ρ)) := by simp [mq_l]
theorem mq_l_len (ρ : Nat → Int32) (L : mj_L) : (mq_l ρ L).length = L.length := by simp [mq_l]
theorem mq_l_clr (ρ : Nat → Int32) (L : mj_L) (i : Nat) : mj_clr (mq_l ρ L) i = mq_l ρ (mj_clr L i) := by
  cases i with
  | zero => rfl
  | succ j =>
    unfold mj_clr
    dsimp only
    rw [mq_l_at]
    cases hj : L[j]? with
    | none => rfl
    | some o =>
      cases o with
      | none => rfl
      | some v => cases v <;> simp [mq_v, mq_l]
theorem mq_l_st1 (ρ : Nat → Int32) (L : mj_L) (i : Nat) (v : Value) : mj_st1 (mq_l ρ L) i (mq_v ρ v) = mq_l ρ (mj_st1 L i v) := by
  unfold mj_st1
  rw [mq_l_clr]
  simp [mq_l]
theorem mq_l_st2 (ρ : Nat → Int32) (L : mj_L) (i : Nat) (v : Value) : mj_st2 (mq_l ρ L) i (mq_v ρ v) = mq_l ρ (mj_st2 L i v) := by
  unfold mj_st2
  rw [mq_l_clr]
  simp [mq_l]
theorem mqo_ild_ok (hx : mqo_ild k nx L S h X kk = some r) : mq_To P nT (.iload k) nx L S h X kk r := by
  unfold mqo_ild at hx
  split at hx
  · rename_i v hv
    obtain ⟨hi, hx⟩ := mq_bt hx
    refine ⟨_, _, _, _, _, hx, fun f hf => hf, fun ρ _ => ?_⟩
    have e : (mq_l ρ L)[k]? = some (some (.int (mq_e ρ v))) := by rw [mq_l_at, hv, ← mq_v_int hi]; rfl
    simp only [mj_i, e]
    simp [mq_s, mq_v_int hi]
  · cases hx
theorem mqo_lld_ok (hx : mqo_lld k nx L S h X kk = some r) : mq_To P nT (.lload k) nx L S h X kk r := by
  unfold mqo_lld at hx
  split at hx
  · rename_i v hv
    refine ⟨_, _, _, _, _, hx, fun f hf => hf, fun ρ _ => ?_⟩
    have e : (mq_l ρ L)[k]? = some (some (.long v)) := by rw [mq_l_at, hv]; rfl
    simp only [mj_i, e]
    rfl
  · cases hx
theorem mqo_ald_ok (hx : mqo_ald k nx L S h X kk = some r) : mq_To P nT (.aload k) nx L S h X kk r := by
  unfold mqo_ald at hx
  split at hx
  · rename_i v hv
    refine ⟨_, _, _, _, _, hx, fun f hf => hf, fun ρ _ => ?_⟩
    have e : (mq_l ρ L)[k]? = some (some (.ref v)) := by rw [mq_l_at, hv]; rfl
    simp only [mj_i, e]
    rfl
  · rename_i hv
    refine ⟨_, _, _, _, _, hx, fun f hf => hf, fun ρ _ => ?_⟩
    have e : (mq_l ρ L)[k]? = some (some .null) := by rw [mq_l_at, hv]; rfl
    simp only [mj_i, e]
    rfl
  · cases hx
theorem mqo_ist_ok (hx : mqo_ist k nx L S h X kk = some r) : mq_To P nT (.istore k) nx L S h X kk r := by
  unfold mqo_ist at hx
  split at hx
  · rename_i v q
    obtain ⟨hi, hx⟩ := mq_bt hx
    rw [Bool.and_eq_true] at hi
    refine ⟨_, _, _, _, _, hx, fun f hf => hf, fun ρ _ => ?_⟩
    have e : mq_s ρ (v :: q) = .int (mq_e ρ v) :: mq_s ρ q := by rw [← mq_v_int hi.1]; rfl
    simp only [mj_i, e, mq_l_len, if_pos (Nat.blt_eq.mp hi.2)]
    rw [← mq_v_int hi.1, mq_l_st1]
  · cases hx
theorem mqo_lst_ok (hx : mqo_lst k nx L S h X kk = some r) : mq_To P nT (.lstore k) nx L S h X kk r := by
  unfold mqo_lst at hx
  split at hx
  · rename_i v q
    obtain ⟨hi, hx⟩ := mq_bt hx
    refine ⟨_, _, _, _, _, hx, fun f hf => hf, fun ρ _ => ?_⟩
    have e : mq_s ρ (.long v :: q) = .long v :: mq_s ρ q := rfl
    simp only [mj_i, e, mq_l_len, if_pos (Nat.blt_eq.mp hi)]
    rw [show (Value.long v) = mq_v ρ (.long v) from rfl, mq_l_st2]
    rfl
  · cases hx
theorem mqo_ast_ok (hx : mqo_ast k nx L S h X kk = some r) : mq_To P nT (.astore k) nx L S h X kk r := by
  unfold mqo_ast at hx
  split at hx
  · rename_i v q
    obtain ⟨hi, hx⟩ := mq_bt hx
    refine ⟨_, _, _, _, _, hx, fun f hf => hf, fun ρ _ => ?_⟩
    have e : mq_s ρ (.ref v :: q) = .ref v :: mq_s ρ q := rfl
    simp only [mj_i, e, mq_l_len, if_pos (Nat.blt_eq.mp hi)]
    rw [show (Value.ref v) = mq_v ρ (.ref v) from rfl, mq_l_st1]
    rfl
  · rename_i q
    obtain ⟨hi, hx⟩ := mq_bt hx
    refine ⟨_, _, _, _, _, hx, fun f hf => hf, fun ρ _ => ?_⟩
    have e : mq_s ρ (.null :: q) = .null :: mq_s ρ q := rfl
    simp only [mj_i, e, mq_l_len, if_pos (Nat.blt_eq.mp hi)]
    rw [show Value.null = mq_v ρ .null from rfl, mq_l_st1]
    rfl
  · cases hx
/-- two numbers become one -/
theorem mqo_bin_ok {a b : Value} {kv : Value → mq_X → mq_R} (hc : c ≠ 40 ∧ c ≠ 42) (hx : mqo_bin c a b X kv = some r) : ∃ v X1, kv v X1 = some r ∧ (∀ f ∈ X.2.2, f ∈ X1.2.2) ∧ mq_isI a = true ∧ mq_isI b = true ∧ ∀ ρ, mq_Ok ρ X1.2.2 → mq_v ρ v = .int (mq_f c (mq_e ρ a) (mq_e ρ b)) := by
  unfold mqo_bin at hx
  split at hx
  · exact ⟨_, _, hx, fun f hf => hf, rfl, rfl, fun ρ _ => rfl⟩
  · obtain ⟨hi, hx⟩ := mq_bt hx
    rw [Bool.and_eq_true] at hi
    refine ⟨_, _, hx, fun f hf => List.mem_cons_of_mem _ hf, hi.1, hi.2, fun ρ hρ => ?_⟩
    have h9 := hρ _ List.mem_cons_self
    show Value.int (ρ X.2.1) = _
    have h8 : ρ X.2.1 = mq_f c (mq_e ρ a) (mq_e ρ b) := by
      unfold mq_fh at h9
      split at h9
      · rename_i z; cases z
      · rename_i z; cases z; exact absurd rfl hc.1
      · rename_i z; cases z; exact absurd rfl hc.2
      · rename_i z; cases z; exact h9
    rw [h8]
theorem mqo_ari_ok {i : Instr} (hc : c ≠ 40 ∧ c ≠ 42) (hi : ∀ (L : mj_L) (q : List Value) (H : mj_H) (x y : Int32), mj_i P nT i nx L (.int y :: .int x :: q) H = some (nx, L, .int (mq_f c x y) :: q, H)) (hx : mqo_ari c nx L S h X kk = some r) : mq_To P nT i nx L S h X kk r := by
  unfold mqo_ari at hx
  split at hx
  · rename_i b a q
    obtain ⟨v, X1, h1, h2, h3, h4, h5⟩ := mqo_bin_ok hc hx
    refine ⟨_, _, _, _, _, h1, h2, fun ρ hρ => ?_⟩
    have e : mq_s ρ (b :: a :: q) = .int (mq_e ρ b) :: .int (mq_e ρ a) :: mq_s ρ q := by rw [← mq_v_int h3, ← mq_v_int h4]; rfl
    rw [e, hi, ← h5 ρ hρ]
    rfl
  · cases hx
theorem mqo_inc_ok {n : Int} (hx : mqo_inc k n nx L S h X kk = some r) : mq_To P nT (.iinc k n) nx L S h X kk r := by
  unfold mqo_inc at hx
  split at hx
  · rename_i a ha
    obtain ⟨v, X1, h1, h2, h3, h4, h5⟩ := mqo_bin_ok ⟨by decide, by decide⟩ hx
    refine ⟨_, _, _, _, _, h1, h2, fun ρ hρ => ?_⟩
    have e : (mq_l ρ L)[k]? = some (some (.int (mq_e ρ a))) := by rw [mq_l_at, ha, ← mq_v_int h3]; rfl
    simp only [mj_i, e]
    rw [← mq_l_st1, h5 ρ hρ]
    rfl
  · cases hx
theorem mqo_i2c_ok (hx : mqo_i2c nx L S h X kk = some r) : mq_To P nT .i2c nx L S h X kk r := by
  unfold mqo_i2c at hx
  split at hx
  · rename_i a q
    obtain ⟨v, X1, h1, h2, h3, h4, h5⟩ := mqo_bin_ok ⟨by decide, by decide⟩ hx
    refine ⟨_, _, _, _, _, h1, h2, fun ρ hρ => ?_⟩
    have e : mq_s ρ (a :: q) = .int (mq_e ρ a) :: mq_s ρ q := by rw [← mq_v_int h3]; rfl
    rw [e]
    simp only [mj_i]
    show _ = some (nx, mq_l ρ L, mq_v ρ v :: mq_s ρ q, _)
    rw [h5 ρ hρ]
    rfl
  · cases hx
theorem mqo_i2l_ok (hx : mqo_i2l nx L S h X kk = some r) : mq_To P nT .i2l nx L S h X kk r := by
  unfold mqo_i2l at hx
  split at hx
  · exact ⟨_, _, _, _, _, hx, fun f hf => hf, fun ρ _ => rfl⟩
  · cases hx
theorem mqo_lcmp_ok (hx : mqo_lcmp nx L S h X kk = some r) : mq_To P nT .lcmp nx L S h X kk r := by
  unfold mqo_lcmp at hx
  split at hx
  · exact ⟨_, _, _, _, _, hx, fun f hf => hf, fun ρ _ => rfl⟩
  · cases hx
theorem mqo_dup_ok (hx : mqo_dup nx L S h X kk = some r) : mq_To P nT .dup nx L S h X kk r := by
  unfold mqo_dup at hx
  split at hx
  · exact ⟨_, _, _, _, _, hx, fun f hf => hf, fun ρ _ => rfl⟩
  · rename_i v q _
    obtain ⟨hi, hx⟩ := mq_bt hx
    refine ⟨_, _, _, _, _, hx, fun f hf => hf, fun ρ _ => ?_⟩
    have e : mq_s ρ (v :: q) = .int (mq_e ρ v) :: mq_s ρ q := by rw [← mq_v_int hi]; rfl
    rw [e]
    simp only [mj_i]
    rw [← mq_v_int hi]
    rfl
  · cases hx
theorem mqo_pop_ok (hx : mqo_pop nx L S h X kk = some r) : mq_To P nT .pop nx L S h X kk r := by
  unfold mqo_pop at hx
  split at hx
  · exact ⟨_, _, _, _, _, hx, fun f hf => hf, fun ρ _ => rfl⟩
  · rename_i v q _
    obtain ⟨hi, hx⟩ := mq_bt hx
    refine ⟨_, _, _, _, _, hx, fun f hf => hf, fun ρ _ => ?_⟩
    have e : mq_s ρ (v :: q) = .int (mq_e ρ v) :: mq_s ρ q := by rw [← mq_v_int hi]; rfl
    rw [e]
    rfl
  · cases hx
/-- a question -/
theorem mqo_cnd_ok {a b : Value} {cd : ClassFile.Cond} {kv : Bool → mq_X → mq_R} (hx : mqo_cnd cd a b X kv = some r) : ∃ v X1, kv v X1 = some r ∧ (∀ f ∈ X.2.2, f ∈ X1.2.2) ∧ mq_isI a = true ∧ mq_isI b = true ∧ ∀ ρ, mq_Ok ρ X1.2.2 → mj_cnd cd (mq_e ρ a) (mq_e ρ b) = v := by
  unfold mqo_cnd at hx
  split at hx
  · exact ⟨_, _, hx, fun f hf => hf, rfl, rfl, fun ρ _ => rfl⟩
  · obtain ⟨hi, hx⟩ := mq_bt hx
    rw [Bool.and_eq_true] at hi
    split at hx
    · exact ⟨_, _, hx, fun f hf => List.mem_cons_of_mem _ hf, hi.1, hi.2, fun ρ hρ => hρ _ List.mem_cons_self⟩
    · exact ⟨_, _, hx, fun f hf => List.mem_cons_of_mem _ hf, hi.1, hi.2, fun ρ hρ => hρ _ List.mem_cons_self⟩
    · cases hx
theorem mqo_if_ok {cd : ClassFile.Cond} {o : Int} (hx : mqo_if cd o nx L S h X kk = some r) : mq_To P nT (.ifCond cd o) nx L S h X kk r := by
  unfold mqo_if at hx
  split at hx
  · rename_i a q
    obtain ⟨v, X1, h1, h2, h3, h4, h5⟩ := mqo_cnd_ok hx
    have e : ∀ ρ, mq_s ρ (a :: q) = .int (mq_e ρ a) :: mq_s ρ q := fun ρ => by rw [← mq_v_int h3]; rfl
    cases v with
    | true =>
      refine ⟨_, _, _, _, _, h1, h2, fun ρ hρ => ?_⟩
      have h6 : mj_cnd cd (mq_e ρ a) 0 = true := h5 ρ hρ
      rw [e]
      simp only [mj_i, h6, if_true]
    | false =>
      refine ⟨_, _, _, _, _, h1, h2, fun ρ hρ => ?_⟩
      have h6 : mj_cnd cd (mq_e ρ a) 0 = false := h5 ρ hρ
      rw [e]
      simp [mj_i, h6]
  · cases hx
theorem mqo_icmp_ok {cd : ClassFile.Cond} {o : Int} (hx : mqo_icmp cd o nx L S h X kk = some r) : mq_To P nT (.if_icmp cd o) nx L S h X kk r := by
  unfold mqo_icmp at hx
  split at hx
  · rename_i b a q
    obtain ⟨v, X1, h1, h2, h3, h4, h5⟩ := mqo_cnd_ok hx
    have e : ∀ ρ, mq_s ρ (b :: a :: q) = .int (mq_e ρ b) :: .int (mq_e ρ a) :: mq_s ρ q := fun ρ => by rw [← mq_v_int h3, ← mq_v_int h4]; rfl
    cases v with
    | true =>
      refine ⟨_, _, _, _, _, h1, h2, fun ρ hρ => ?_⟩
      have h6 : mj_cnd cd (mq_e ρ a) (mq_e ρ b) = true := h5 ρ hρ
      rw [e]
      simp only [mj_i, h6, if_true]
    | false =>
      refine ⟨_, _, _, _, _, h1, h2, fun ρ hρ => ?_⟩
      have h6 : mj_cnd cd (mq_e ρ a) (mq_e ρ b) = false := h5 ρ hρ
      rw [e]
      simp [mj_i, h6]
  · cases hx
end MQO
