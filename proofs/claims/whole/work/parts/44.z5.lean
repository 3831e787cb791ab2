/-! cells -/
section
variable {R : Type} {F : Option R} {P : R → zO → zA → Prop} {d w mi pc pc1 len : Nat} {L : zLs} {S : List zV} {A : zA}
theorem zget {a ci n j : Nat} (hs : A.1[a]? = some (false, ci, n)) (hn : j < n) : mj_get (zhp A) a ci j = some (zsv A a (false, ci, n) j) := by
  have h1 := zhp_at hs
  have h2 := zcl_get A a (false, ci, n) j
  rw [if_pos hn] at h2
  unfold mj_get
  rw [h1]
  simp only [zcl, if_true] at h2 ⊢
  exact h2
theorem zidx {e : Int} (h0 : 0 ≤ e) (h1 : e < 2147483648) : ¬ Int32.ofInt e < 0 ∧ (Int32.ofInt e).toNatClampNeg = e.toNat := by
  have hr : zrg e := ⟨by omega, h1⟩
  refine ⟨?_, ?_⟩
  · rw [show (0 : Int32) = Int32.ofInt 0 from rfl, zcmp_lt hr (by unfold zrg; omega)]; omega
  · show (Int32.ofInt e).toInt.toNat = e.toNat
    rw [zof e hr]
theorem zald {a t n : Nat} {e : Int} (hs : A.1[a]? = some (true, t, n)) (h0 : 0 ≤ e) (h1 : e < n) (hn : n ≤ 1000000) : mj_ald t (zhp A) a (Int32.ofInt e) = some (zsv A a (true, t, n) e.toNat) := by
  have g1 := zhp_at hs
  have g2 := zcl_get A a (true, t, n) e.toNat
  rw [if_pos (show e.toNat < n by omega)] at g2
  obtain ⟨i1, i2⟩ := zidx h0 (by omega)
  unfold mj_ald
  rw [g1]
  simp only [zcl, i1, not_false_eq_true, and_self, if_true, i2] at g2 ⊢
  exact g2
theorem zput {A1 : zA} {a ci n j : Nat} {v : Value} (hs : A.1[a]? = some (false, ci, n)) (hn : j < n) (ha : 4 ≤ a) (h1 : A1.1 = A.1) (hv : zsv A1 a (false, ci, n) j = v) (ho : ∀ b t k, b ≠ a ∨ k ≠ j → zsv A1 b t k = zsv A b t k) : mj_put 4 (zhp A) a ci j v = some (zhp A1) := by
  have g1 := zhp_at hs
  have g2 := zcl_slot (A := A) (A1 := A1) (a := a) (s := (false, ci, n)) v hv (fun k hk => ho a _ k (Or.inr hk))
  have g3 : j < (zcl A a (false, ci, n)).2.2.length := by rw [zcl_len]; exact hn
  have g4 := zhp_set (A1 := A1) hs h1 (fun b t hb _ => zcl_ext (fun k => ho b t k (Or.inl hb)))
  unfold mj_put
  rw [g1]
  simp only [zcl] at g2 g3 g4 ⊢
  rw [if_pos ⟨trivial, g3, ha⟩, g2, g4]
theorem zast {A1 : zA} {a t n : Nat} {e : Int} {v : Value} (hs : A.1[a]? = some (true, t, n)) (h0 : 0 ≤ e) (he : e < n) (hn : n ≤ 1000000) (ha : 4 ≤ a) (h1 : A1.1 = A.1) (hv : zsv A1 a (true, t, n) e.toNat = v) (ho : ∀ b t k, b ≠ a ∨ k ≠ e.toNat → zsv A1 b t k = zsv A b t k) : mj_ast 4 t (zhp A) a (Int32.ofInt e) v = some (zhp A1) := by
  have g1 := zhp_at hs
  obtain ⟨i1, i2⟩ := zidx h0 (by omega)
  have g2 := zcl_slot (A := A) (A1 := A1) (a := a) (s := (true, t, n)) v hv (fun k hk => ho a _ k (Or.inr hk))
  have g3 : e.toNat < (zcl A a (true, t, n)).2.2.length := by rw [zcl_len]; show e.toNat < n; omega
  have g4 := zhp_set (A1 := A1) hs h1 (fun b t hb _ => zcl_ext (fun k => ho b t k (Or.inl hb)))
  unfold mj_ast
  rw [g1]
  simp only [zcl, i2] at g2 g3 g4 ⊢
  rw [if_pos ⟨trivial, i1, g3, ha⟩, g2, g4]
theorem zsk_i {s : zK} {j a : Nat} (h : zsk s j = 0) : zsv A a s j = .int (zmi A a j) := by simp only [zsv, h]
theorem zsk_l {s : zK} {j a : Nat} (h : zsk s j = 1) : zsv A a s j = .long (zml A a j) := by simp only [zsv, h]
theorem zsk_r {s : zK} {j a : Nat} (h : zsk s j = 2) : zsv A a s j = zrv (zmr A a j) := by simp only [zsv, h]
theorem zmi_si {a j : Nat} {z : Int} : zmi (zsi A a j z) a j = Int32.ofInt z := by simp [zmi, zsi, zup]
theorem zml_slz {a j : Nat} {z : Int64} : zml (zsl A a j z) a j = z := by simp [zml, zsl, zup]
theorem zmr_srz {a j : Nat} {z : Option Nat} : zmr (zsr A a j z) a j = z := by simp [zmr, zsr, zup]
/-- what getfield and putfield are to be: of class ci, slot j, kind kd -/
def zfld (q ci n j kd : Nat) : Bool := Nat.beq (q / 128) ci && Nat.beq (q % 128) j && Nat.blt j n && Nat.beq (zsk (false, ci, n) j) kd
theorem zfld_ok {q ci n j kd : Nat} (h : zfld q ci n j kd = true) : q / 128 = ci ∧ q % 128 = j ∧ j < n ∧ zsk (false, ci, n) j = kd := by
  simp only [zfld, Bool.and_eq_true, Nat.beq_eq, Nat.blt_eq] at h
  exact ⟨h.1.1.1, h.1.1.2, h.1.2, h.2⟩
theorem js_gi {q a ci n j : Nat} (hc : mp_code mi pc = some (.getfield q, len)) (e : pc + len = pc1) (hs : zsh a = some (false, ci, n)) (hq : zfld q ci n j 0 = true) (k : zG F P d w mi pc1 L (.inl (zi A a j) :: S) A) : zG F P d w mi pc L (.inr (.inr (some a)) :: S) A := by
  obtain ⟨q1, q2, q3, q4⟩ := zfld_ok hq
  refine zG_i hc rfl e (fun hf => ⟨?_, hf⟩) k
  simp only [mj_i, zS, List.map_cons, zval, zrv, q1, q2, zget (hf.sh hs) q3, zsk_i q4, zofi]
theorem js_gfr {q a ci n j r : Nat} (hc : mp_code mi pc = some (.getfield q, len)) (e : pc + len = pc1) (hs : zsh a = some (false, ci, n)) (hq : zfld q ci n j 2 = true) (hr : zfr a j = some r) (k : zG F P d w mi pc1 L (.inr (.inr (some r)) :: S) A) : zG F P d w mi pc L (.inr (.inr (some a)) :: S) A := by
  obtain ⟨q1, q2, q3, q4⟩ := zfld_ok hq
  refine zG_i hc rfl e (fun hf => ⟨?_, hf⟩) k
  simp only [mj_i, zS, List.map_cons, zval, zrv, q1, q2, zget (hf.sh hs) q3, zsk_r q4, hf.fr hr]
theorem js_gro {q a ci n j : Nat} (hc : mp_code mi pc = some (.getfield q, len)) (e : pc + len = pc1) (hs : zsh a = some (false, ci, n)) (hq : zfld q ci n j 2 = true) (k : zG F P d w mi pc1 L (.inr (.inr (zmr A a j)) :: S) A) : zG F P d w mi pc L (.inr (.inr (some a)) :: S) A := by
  obtain ⟨q1, q2, q3, q4⟩ := zfld_ok hq
  refine zG_i hc rfl e (fun hf => ⟨?_, hf⟩) k
  simp only [mj_i, zS, List.map_cons, zval, zrv, q1, q2, zget (hf.sh hs) q3, zsk_r q4]
theorem js_gr {q a ci n j : Nat} {K : Nat → Option R} (hc : mp_code mi pc = some (.getfield q, len)) (e : pc + len = pc1) (hs : zsh a = some (false, ci, n)) (hq : zfld q ci n j 2 = true) (k : ∀ r, zmr A a j = some r → zG (K r) P d w mi pc1 L (.inr (.inr (some r)) :: S) A) : zG (zgr A a j K) P d w mi pc L (.inr (.inr (some a)) :: S) A := by
  refine js_gro hc e hs hq ?_
  unfold zgr
  cases h : zmr A a j with
  | none => exact zG_none
  | some r => exact k r h
theorem js_gf {q a ci n j : Nat} {K : Nat → Option R} (hc : mp_code mi pc = some (.getfield q, len)) (e : pc + len = pc1) (hs : zsh a = some (false, ci, n)) (hq : zfld q ci n j 2 = true) (k : ∀ r, zfr a j = some r → zG (K r) P d w mi pc1 L (.inr (.inr (some r)) :: S) A) : zG (zgf a j K) P d w mi pc L (.inr (.inr (some a)) :: S) A := by
  unfold zgf
  cases h : zfr a j with
  | none => exact zG_none
  | some r => exact js_gfr hc e hs hq h (k r h)
theorem zG_cs {r : Nat} {s : zK} {K : Option R} (k : zsh r = some s → zG K P d w mi pc L S A) : zG (zcs r s K) P d w mi pc L S A := zG_ite k (fun _ => zG_none)
/-- putfield of an int: 16 * q + 0 -/
theorem zsh4 {a : Nat} {s : zK} (h : zsh a = some (false, s.2)) : 4 ≤ a := by
  by_cases e : 4 ≤ a
  · exact e
  · exfalso
    have : a = 0 ∨ a = 1 ∨ a = 2 ∨ a = 3 := by omega
    rcases this with rfl | rfl | rfl | rfl
    · revert h; rw [show zsh 0 = none from rfl]; intro h; cases h
    · revert h; rw [show zsh 1 = some (true, 0, 13) from rfl]; intro h; cases h
    · revert h; rw [show zsh 2 = some (true, 0, 13) from rfl]; intro h; cases h
    · revert h; rw [show zsh 3 = some (true, 0, 13) from rfl]; intro h; cases h
theorem js_pi {q a ci n j : Nat} {z : Int} {K : zA → Option R} (hc : mp_code mi pc = some (.putfield q, len)) (e : pc + len = pc1) (hs : zsh a = some (false, ci, n)) (hq : zfld (q / 16) ci n j 0 = true) (h0 : q % 16 = 0) (k : zG (K (zsi A a j z)) P d w mi pc1 L S (zsi A a j z)) : zG (zlet (zsi A a j z) K) P d w mi pc L (.inl z :: .inr (.inr (some a)) :: S) A := by
  obtain ⟨q1, q2, q3, q4⟩ := zfld_ok hq
  have ha : 4 ≤ a := zsh4 (s := (false, ci, n)) hs
  refine zG_i (A1 := zsi A a j z) hc rfl e (fun hf => ⟨?_, hf.si ha⟩) k
  have hp := zput (A := A) (A1 := zsi A a j z) (v := .int (Int32.ofInt z)) (hf.sh hs) q3 ha rfl (by rw [zsk_i q4, zmi_si]) (fun b t k hk => zsv_si A a j z b t k hk)
  simp only [mj_i, zS, List.map_cons, zval, zrv, q1, q2, h0, mj_fit, if_true, hp]
theorem js_pb {q a ci n j : Nat} {z : Int} {K : zA → Option R} (hc : mp_code mi pc = some (.putfield q, len)) (e : pc + len = pc1) (hs : zsh a = some (false, ci, n)) (hq : zfld (q / 16) ci n j 0 = true) (h0 : q % 16 = 3) (k : zG (K (zsi A a j z)) P d w mi pc1 L S (zsi A a j z)) : zG (zbl z (zsi A a j z) K) P d w mi pc L (.inl z :: .inr (.inr (some a)) :: S) A := by
  obtain ⟨q1, q2, q3, q4⟩ := zfld_ok hq
  have ha : 4 ≤ a := zsh4 (s := (false, ci, n)) hs
  refine zG_ite (fun hz => zG_i (A1 := zsi A a j z) hc rfl e (fun hf => ⟨?_, hf.si ha⟩) k) (fun _ => zG_none)
  have hp := zput (A := A) (A1 := zsi A a j z) (v := .int (Int32.ofInt z)) (hf.sh hs) q3 ha rfl (by rw [zsk_i q4, zmi_si]) (fun b t k hk => zsv_si A a j z b t k hk)
  have hb : mj_fit 3 (.int (Int32.ofInt z)) = true := by rcases hz with rfl | rfl <;> rfl
  simp only [mj_i, zS, List.map_cons, zval, zrv, q1, q2, h0, hb, if_true, hp]
theorem js_pr {q a ci n j : Nat} {x : Option Nat} {K : zA → Option R} (hc : mp_code mi pc = some (.putfield q, len)) (e : pc + len = pc1) (hs : zsh a = some (false, ci, n)) (hq : zfld (q / 16) ci n j 2 = true) (h0 : q % 16 = 6) (hn : zfr a j = none) (k : zG (K (zsr A a j x)) P d w mi pc1 L S (zsr A a j x)) : zG (zlet (zsr A a j x) K) P d w mi pc L (.inr (.inr x) :: .inr (.inr (some a)) :: S) A := by
  obtain ⟨q1, q2, q3, q4⟩ := zfld_ok hq
  have ha : 4 ≤ a := zsh4 (s := (false, ci, n)) hs
  refine zG_i (A1 := zsr A a j x) hc rfl e (fun hf => ⟨?_, hf.sr hn⟩) k
  have hp := zput (A := A) (A1 := zsr A a j x) (v := zrv x) (hf.sh hs) q3 ha rfl (by rw [zsk_r q4, zmr_srz]) (fun b t k hk => zsv_sr A a j x b t k hk)
  cases x with
  | none =>
    simp only [zrv] at hp
    simp only [mj_i, zS, List.map_cons, zval, zrv, q1, q2, h0, mj_fit, if_true, hp]
  | some r =>
    simp only [zrv] at hp
    simp only [mj_i, zS, List.map_cons, zval, zrv, q1, q2, h0, mj_fit, if_true, hp]
/-! arrays of a fixed place -/
/-- the kind of array that an instruction reads or writes -/
def zak (i : Instr) : Nat := match i with
  | .iaload => 0
  | .laload => 1
  | .caload => 2
  | .baload => 3
  | .iastore => 0
  | .lastore => 1
  | .castore => 2
  | .bastore => 3
  | _ => 99
def zrdI (i : Instr) : Bool := match i with
  | .iaload => true
  | .caload => true
  | .baload => true
  | _ => false
theorem zsk_a {t n j : Nat} (h : t = 0 ∨ t = 2 ∨ t = 3) : zsk (true, t, n) j = 0 := by rcases h with rfl | rfl | rfl <;> rfl
theorem zald_i {i : Instr} (hi : zrdI i = true) {a n : Nat} {e : Int} (hs : A.1[a]? = some (true, zak i, n)) (h0 : 0 ≤ e) (h1 : e < n) (hn : n ≤ 1000000) : mj_i mp_P 4 i pc1 (zL L) (zS (.inl e :: .inr (.inr (some a)) :: S)) (zhp A) = some (pc1, zL L, zS (.inl (zi A a e.toNat) :: S), zhp A) := by
  have hk : zak i = 0 ∨ zak i = 2 ∨ zak i = 3 := by
    unfold zrdI at hi
    split at hi <;> first | (simp [zak]; done) | cases hi
  have h2 := zald hs h0 h1 hn
  rw [zsk_i (zsk_a hk)] at h2
  unfold zrdI at hi
  split at hi <;> first | (cases hi; done) | skip
  all_goals
    have h2 := h2
    simp only [zak] at h2
    simp only [mj_i, zS, List.map_cons, zval, zrv, h2, zofi]
theorem js_ald {i : Instr} {a n : Nat} {e : Int} {K : Int → Option R} (hc : mp_code mi pc = some (i, len)) (ee : pc + len = pc1) (hp : zpl i = true) (hi : zrdI i = true) (hs : zsh a = some (true, zak i, n)) (k : zG (K (zi A a e.toNat)) P d w mi pc1 L (.inl (zi A a e.toNat) :: S) A) : zG (zrd A a n e K) P d w mi pc L (.inl e :: .inr (.inr (some a)) :: S) A :=
  zG_ite (fun he => zG_i hc hp ee (fun hf => ⟨zald_i hi (hf.sh hs) he.1 he.2 (hf.sz (hf.sh hs)), hf⟩) k) (fun _ => zG_none)
theorem js_lald {a n : Nat} {e : Int} {K : Int64 → Option R} (hc : mp_code mi pc = some (.laload, len)) (ee : pc + len = pc1) (hs : zsh a = some (true, 1, n)) (k : zG (K (zml A a e.toNat)) P d w mi pc1 L (.inr (.inl (zml A a e.toNat)) :: S) A) : zG (zrl A a n e K) P d w mi pc L (.inl e :: .inr (.inr (some a)) :: S) A :=
  zG_ite (fun he => zG_i hc rfl ee (fun hf => ⟨by
    have h2 := zald (hf.sh hs) he.1 he.2 (hf.sz (hf.sh hs))
    rw [zsk_l rfl] at h2
    simp only [mj_i, zS, List.map_cons, zval, zrv, h2], hf⟩) k) (fun _ => zG_none)
theorem zast_i {a t n : Nat} {e z : Int} (ht : t = 0 ∨ t = 2 ∨ t = 3) (hs : A.1[a]? = some (true, t, n)) (h0 : 0 ≤ e) (h1 : e < n) (hn : n ≤ 1000000) (ha : 4 ≤ a) : mj_ast 4 t (zhp A) a (Int32.ofInt e) (.int (Int32.ofInt z)) = some (zhp (zsi A a e.toNat z)) :=
  zast hs h0 h1 hn ha rfl (by rw [zsk_i (zsk_a ht), zmi_si]) (fun b t k hk => zsv_si A a _ z b t k hk)
theorem js_ias {a n : Nat} {e z : Int} {K : zA → Option R} (hc : mp_code mi pc = some (.iastore, len)) (ee : pc + len = pc1) (hs : zsh a = some (true, 0, n)) (ha : Nat.ble 4 a = true) (k : zG (K (zsi A a e.toNat z)) P d w mi pc1 L S (zsi A a e.toNat z)) : zG (zwr A a n e z K) P d w mi pc L (.inl z :: .inl e :: .inr (.inr (some a)) :: S) A :=
  zG_ite (fun he => zG_i (A1 := zsi A a e.toNat z) hc rfl ee (fun hf => ⟨by
    have h2 := zast_i (z := z) (Or.inl rfl) (hf.sh hs) he.1 he.2 (hf.sz (hf.sh hs)) (Nat.ble_eq.mp ha)
    simp only [mj_i, zS, List.map_cons, zval, zrv, h2], hf.si (Nat.ble_eq.mp ha)⟩) k) (fun _ => zG_none)
theorem js_bas {a n : Nat} {e z : Int} {K : zA → Option R} (hc : mp_code mi pc = some (.bastore, len)) (ee : pc + len = pc1) (hs : zsh a = some (true, 3, n)) (ha : Nat.ble 4 a = true) (k : zG (K (zsi A a e.toNat z)) P d w mi pc1 L S (zsi A a e.toNat z)) : zG (zwb A a n e z K) P d w mi pc L (.inl z :: .inl e :: .inr (.inr (some a)) :: S) A :=
  zG_ite (fun he => zG_i (A1 := zsi A a e.toNat z) hc rfl ee (fun hf => ⟨by
    have h2 := zast_i (z := z) (Or.inr (Or.inr rfl)) (hf.sh hs) he.1 he.2.1 (hf.sz (hf.sh hs)) (Nat.ble_eq.mp ha)
    have hb : mj_fit 3 (.int (Int32.ofInt z)) = true := by rcases he.2.2 with rfl | rfl <;> rfl
    simp only [mj_i, zS, List.map_cons, zval, zrv, hb, if_true, h2], hf.si (Nat.ble_eq.mp ha)⟩) k) (fun _ => zG_none)
theorem zfit2 {z : Int} (h0 : 0 ≤ z) (h1 : z ≤ 65535) : mj_fit 2 (.int (Int32.ofInt z)) = true := by
  have hr : zrg z := by unfold zrg; omega
  simp only [mj_fit, Bool.and_eq_true, decide_eq_true_eq]
  exact ⟨(zcmp_le (x := 0) (by unfold zrg; omega) hr).mpr h0, (zcmp_le (y := 65535) hr (by unfold zrg; omega)).mpr h1⟩
theorem js_cas {a n : Nat} {e z : Int} {K : zA → Option R} (hc : mp_code mi pc = some (.castore, len)) (ee : pc + len = pc1) (hs : zsh a = some (true, 2, n)) (ha : Nat.ble 4 a = true) (k : zG (K (zsi A a e.toNat z)) P d w mi pc1 L S (zsi A a e.toNat z)) : zG (zwc A a n e z K) P d w mi pc L (.inl z :: .inl e :: .inr (.inr (some a)) :: S) A :=
  zG_ite (fun he => zG_i (A1 := zsi A a e.toNat z) hc rfl ee (fun hf => ⟨by
    have h2 := zast_i (z := z) (Or.inr (Or.inl rfl)) (hf.sh hs) he.1 he.2.1 (hf.sz (hf.sh hs)) (Nat.ble_eq.mp ha)
    have hb := zfit2 he.2.2.1 he.2.2.2
    simp only [mj_i, zS, List.map_cons, zval, zrv, hb, if_true, h2], hf.si (Nat.ble_eq.mp ha)⟩) k) (fun _ => zG_none)
theorem js_las {a n : Nat} {e : Int} {x : Int64} {K : zA → Option R} (hc : mp_code mi pc = some (.lastore, len)) (ee : pc + len = pc1) (hs : zsh a = some (true, 1, n)) (ha : Nat.ble 4 a = true) (k : zG (K (zsl A a e.toNat x)) P d w mi pc1 L S (zsl A a e.toNat x)) : zG (zwl A a n e x K) P d w mi pc L (.inr (.inl x) :: .inl e :: .inr (.inr (some a)) :: S) A :=
  zG_ite (fun he => zG_i (A1 := zsl A a e.toNat x) hc rfl ee (fun hf => ⟨by
    have h2 := zast (A := A) (A1 := zsl A a e.toNat x) (v := .long x) (hf.sh hs) he.1 he.2 (hf.sz (hf.sh hs)) (Nat.ble_eq.mp ha) rfl (by rw [zsk_l rfl, zml_slz]) (fun b t k hk => zsv_sl A a _ x b t k hk)
    simp only [mj_i, zS, List.map_cons, zval, zrv, h2], hf.sl⟩) k) (fun _ => zG_none)
theorem js_len {a t n : Nat} (hc : mp_code mi pc = some (.arraylength, len)) (ee : pc + len = pc1) (hs : zsh a = some (true, t, n)) (k : zG F P d w mi pc1 L (.inl (n : Int) :: S) A) : zG F P d w mi pc L (.inr (.inr (some a)) :: S) A :=
  zG_i hc rfl ee (fun hf => ⟨by
    have h1 := zhp_at (hf.sh hs)
    have h2 := zcl_len A a (true, t, n)
    have h3 : mj_len (zhp A) a = some (Int32.ofInt (n : Int)) := by
      unfold mj_len; rw [h1]; simp only [zcl] at h2 ⊢; rw [h2]; rfl
    simp only [mj_i, zS, List.map_cons, zval, zrv, h3], hf⟩) k
/-! arrays of any place -/
theorem js_aldD {a : Nat} {e : Int} {K : Int → Option R} (hc : mp_code mi pc = some (.iaload, len)) (ee : pc + len = pc1) (k : zG (K (zi A a e.toNat)) P d w mi pc1 L (.inl (zi A a e.toNat) :: S) A) : zG (zrD A a e K) P d w mi pc L (.inl e :: .inr (.inr (some a)) :: S) A := by
  unfold zrD
  split
  · rename_i t n hs
    refine zG_ite (fun he => ?_) (fun _ => zG_none)
    obtain ⟨rfl, h0, h1⟩ := he
    exact zG_i hc rfl ee (fun hf => ⟨zald_i (i := .iaload) rfl hs h0 h1 (hf.sz hs), hf⟩) k
  · exact zG_none
theorem js_iasD {a : Nat} {e z : Int} {K : zA → Option R} (hc : mp_code mi pc = some (.iastore, len)) (ee : pc + len = pc1) (k : zG (K (zsi A a e.toNat z)) P d w mi pc1 L S (zsi A a e.toNat z)) : zG (zwD A a e z K) P d w mi pc L (.inl z :: .inl e :: .inr (.inr (some a)) :: S) A := by
  unfold zwD
  split
  · rename_i t n hs
    refine zG_ite (fun he => ?_) (fun _ => zG_none)
    obtain ⟨rfl, ha, h0, h1⟩ := he
    refine zG_i (A1 := zsi A a e.toNat z) hc rfl ee (fun hf => ⟨?_, hf.si ha⟩) k
    have h2 := zast_i (z := z) (Or.inl rfl) hs h0 h1 (hf.sz hs) ha
    simp only [mj_i, zS, List.map_cons, zval, zrv, h2]
  · exact zG_none
theorem js_laldD {a : Nat} {e : Int} {K : Int64 → Option R} (hc : mp_code mi pc = some (.laload, len)) (ee : pc + len = pc1) (k : zG (K (zml A a e.toNat)) P d w mi pc1 L (.inr (.inl (zml A a e.toNat)) :: S) A) : zG (zrDl A a e K) P d w mi pc L (.inl e :: .inr (.inr (some a)) :: S) A := by
  unfold zrDl
  split
  · rename_i t n hs
    refine zG_ite (fun he => ?_) (fun _ => zG_none)
    obtain ⟨rfl, h0, h1⟩ := he
    refine zG_i hc rfl ee (fun hf => ⟨?_, hf⟩) k
    have h2 := zald hs h0 h1 (hf.sz hs)
    rw [zsk_l rfl] at h2
    simp only [mj_i, zS, List.map_cons, zval, zrv, h2]
  · exact zG_none
theorem js_lasD {a : Nat} {e : Int} {x : Int64} {K : zA → Option R} (hc : mp_code mi pc = some (.lastore, len)) (ee : pc + len = pc1) (k : zG (K (zsl A a e.toNat x)) P d w mi pc1 L S (zsl A a e.toNat x)) : zG (zwDl A a e x K) P d w mi pc L (.inr (.inl x) :: .inl e :: .inr (.inr (some a)) :: S) A := by
  unfold zwDl
  split
  · rename_i t n hs
    refine zG_ite (fun he => ?_) (fun _ => zG_none)
    obtain ⟨rfl, ha, h0, h1⟩ := he
    refine zG_i (A1 := zsl A a e.toNat x) hc rfl ee (fun hf => ⟨?_, hf.sl⟩) k
    have h2 := zast (A := A) (A1 := zsl A a e.toNat x) (v := .long x) hs h0 h1 (hf.sz hs) ha rfl (by rw [zsk_l rfl, zml_slz]) (fun b t k hk => zsv_sl A a _ x b t k hk)
    simp only [mj_i, zS, List.map_cons, zval, zrv, h2]
  · exact zG_none
theorem js_lenD {a : Nat} {K : Int → Option R} (hc : mp_code mi pc = some (.arraylength, len)) (ee : pc + len = pc1) (k : ∀ n : Int, zrg n → zG (K n) P d w mi pc1 L (.inl n :: S) A) : zG (zln A a K) P d w mi pc L (.inr (.inr (some a)) :: S) A := by
  unfold zln
  split
  · rename_i t n hs
    refine zG_ite (fun hn => ?_) (fun _ => zG_none)
    refine zG_i hc rfl ee (fun hf => ⟨?_, hf⟩) (k n (by unfold zrg; omega))
    have h1 := zhp_at hs
    have h2 := zcl_len A a (true, t, n)
    have h3 : mj_len (zhp A) a = some (Int32.ofInt (n : Int)) := by
      unfold mj_len; rw [h1]; simp only [zcl] at h2 ⊢; rw [h2]; rfl
    simp only [mj_i, zS, List.map_cons, zval, zrv, h3]
  · exact zG_none
/-! arrays of references: they never change -/
theorem js_aald {a : Nat} {e : Int} {K : Nat → Option R} (hc : mp_code mi pc = some (.aaload, len)) (ee : pc + len = pc1) (k : ∀ r, zfr a e.toNat = some r → zG (K r) P d w mi pc1 L (.inr (.inr (some r)) :: S) A) : zG (zfe a e K) P d w mi pc L (.inl e :: .inr (.inr (some a)) :: S) A := by
  unfold zfe
  split
  · rename_i t n hs
    refine zG_ite (fun he => ?_) (fun _ => zG_none)
    obtain ⟨h6, h8, h0, h1⟩ := he
    unfold zgf
    cases hr : zfr a e.toNat with
    | none => exact zG_none
    | some r =>
      refine zG_i hc rfl ee (fun hf => ⟨?_, hf⟩) (k r hr)
      have hn := hf.sz (hf.sh hs)
      have g1 := zhp_at (hf.sh hs)
      have g2 := zcl_get A a (true, t, n) e.toNat
      rw [if_pos (show e.toNat < n by omega)] at g2
      obtain ⟨i1, i2⟩ := zidx h0 (show e < 2147483648 by simp only at hn; omega)
      have hk : zsk (true, t, n) e.toNat = 2 := by
        simp only [zsk]; rw [if_neg (by omega), if_pos h6]
      rw [zsk_r hk, hf.fr hr] at g2
      simp only [mj_i, zS, List.map_cons, zval, zrv, g1]
      simp only [zcl, h6, h8, i1, not_false_eq_true, and_self, if_true, i2] at g2 ⊢
      rw [g2]; rfl
  · exact zG_none
/-! new arrays -/
theorem zhp_nw (s : zK) (v : Value) (hv : ∀ j, j < s.2.2 → zsv (znw A s) A.1.length s j = v) : zhp (znw A s) = zhp A ++ [(s.1, s.2.1, List.replicate s.2.2 v)] := by
  apply List.ext_getElem?
  intro b
  rw [zhp_get, List.getElem?_append, zhp_len]
  simp only [znw]
  rw [List.getElem?_append]
  by_cases hb : b < A.1.length
  · rw [if_pos hb, if_pos hb, zhp_get]
    cases hx : A.1[b]? with
    | none => rfl
    | some t =>
      simp only [Option.map_some]
      refine congrArg some (zcl_ext (fun k => ?_))
      simp only [zsv, zmi, zml, zmr]
      rw [if_neg (by omega), if_neg (by omega), if_neg (by omega)]
  · rw [if_neg hb, if_neg hb]
    cases hq : b - A.1.length with
    | succ m => rfl
    | zero =>
      have hb2 : b = A.1.length := by omega
      subst hb2
      simp only [List.getElem?_cons_zero, Option.map_some]
      refine congrArg some ?_
      show zcl (znw A s) A.1.length s = _
      simp only [zcl]
      refine congrArg (fun l => (s.1, s.2.1, l)) ?_
      apply List.ext_getElem?
      intro k
      rw [List.getElem?_map]
      by_cases hk : k < s.2.2
      · rw [List.getElem?_range hk, List.getElem?_replicate, if_pos hk]
        simp only [Option.map_some, hv k hk]
      · rw [List.getElem?_eq_none (by simpa using hk), List.getElem?_replicate, if_neg hk]; rfl
theorem js_newI {n : Int} {K : Nat → zA → Option R} (hc : mp_code mi pc = some (.newarray .int, len)) (ee : pc + len = pc1) (k : zG (K A.1.length (znw A (true, 0, n.toNat))) P d w mi pc1 L (.inr (.inr (some A.1.length)) :: S) (znw A (true, 0, n.toNat))) : zG (zna A 0 n K) P d w mi pc L (.inl n :: S) A :=
  zG_ite (fun hn => zG_i (A1 := znw A (true, 0, n.toNat)) hc rfl ee (fun hf => ⟨by
    obtain ⟨i1, i2⟩ := zidx hn.1 (show n < 2147483648 by omega)
    have h1 := zhp_nw (A := A) (true, 0, n.toNat) (.int 0) (fun j _ => by rw [zsk_i rfl]; simp [zmi, znw])
    have h3 : n.toNat ≤ 1000000 := by omega
    simp only [mj_i, zS, List.map_cons, zval, zrv, i1, i2, h3, not_false_eq_true, and_self, if_true, mj_kind, mj_dv, zhp_len, h1], hf.nw _ (by show n.toNat ≤ 1000000; omega)⟩) k) (fun _ => zG_none)
/-! the library -/
theorem zbody_l {P : mj_Pr} {nT d w mi pc len kk : Nat} {L : mj_L} {S as r : List Value} {h h1 : mj_H} {v : Option Value} {go : Nat → Nat → Nat → Nat → mj_L → List Value → mj_H → Option (mj_O × mj_H)} (hc : P.code mi pc = some (.invokestatic kk, len)) (hk : 1000 ≤ kk) (hp : mj_pop (P.np kk) S [] = some (as, r)) (hd : 1 ≤ d) (hw : 64 ≤ w) (hr : mj_wd r ≤ 8) (hl : mj_lib nT kk as h = some (v, h1)) : mj_body P nT go d w mi pc L S h = go d w mi (pc + len) L (v.toList ++ r) h1 := by
  unfold mj_body
  rw [hc]
  simp only [if_pos hk, hp]
  rw [if_pos ⟨hd, hw, hr⟩]
  simp only [hl]
theorem zW_l {kk : Nat} {as r : List Value} {v : Option Value} {S S1 : List zV} {A1 : zA} {Q : zO → zA → Prop} (hc : mp_code mi pc = some (.invokestatic kk, len)) (e : pc + len = pc1) (hk : 1000 ≤ kk) (hp : mj_pop (mp_np kk) (zS S) [] = some (as, r)) (hd : 1 ≤ d) (hw : 64 ≤ w) (hr : mj_wd r ≤ 8) (hl : zFin A → mj_lib 4 kk as (zhp A) = some (v, zhp A1) ∧ zFin A1) (hS : v.toList ++ r = zS S1) (k : zW d w mi pc1 L S1 A1 Q) : zW d w mi pc L S A Q := by
  intro hf
  subst e
  obtain ⟨hl, hf1⟩ := hl hf
  obtain ⟨n, o, A2, hr2, h2⟩ := k hf1
  refine ⟨n + 1, o, A2, ?_, h2⟩
  show mj_body mp_P 4 (mj_ex mp_P 4 n) d w mi pc (zL L) (zS S) (zhp A) = _
  rw [zbody_l (P := mp_P) (h1 := zhp A1) hc hk hp hd hw hr hl, hS]
  exact hr2
theorem js_max {x y : Int} (hc : mp_code mi pc = some (.invokestatic 1001, len)) (e : pc + len = pc1) (hx : zrg x) (hy : zrg y) (hd : 1 ≤ d) (hw : 64 ≤ w) (hr : mj_wd (zS S) ≤ 8) (k : zG F P d w mi pc1 L (.inl (zmx x y) :: S) A) : zG F P d w mi pc L (.inl y :: .inl x :: S) A := fun r h => zW_l (as := [.int (Int32.ofInt x), .int (Int32.ofInt y)]) (r := zS S) (v := some (.int (Int32.ofInt (zmx x y)))) hc e (by decide) rfl hd hw hr (fun hf => ⟨by
  simp only [mj_lib, zcmp_lt hx hy, zmx]
  split <;> rfl, hf⟩) rfl (k r h)
theorem js_min {x y : Int} (hc : mp_code mi pc = some (.invokestatic 1002, len)) (e : pc + len = pc1) (hx : zrg x) (hy : zrg y) (hd : 1 ≤ d) (hw : 64 ≤ w) (hr : mj_wd (zS S) ≤ 8) (k : zG F P d w mi pc1 L (.inl (zmn x y) :: S) A) : zG F P d w mi pc L (.inl y :: .inl x :: S) A := fun r h => zW_l (as := [.int (Int32.ofInt x), .int (Int32.ofInt y)]) (r := zS S) (v := some (.int (Int32.ofInt (zmn x y)))) hc e (by decide) rfl hd hw hr (fun hf => ⟨by
  simp only [mj_lib, zcmp_lt hy hx, zmn]
  split <;> rfl, hf⟩) rfl (k r h)
theorem zmx_rg {x y : Int} (hx : zrg x) (hy : zrg y) : zrg (zmx x y) := by unfold zmx; split <;> assumption
theorem zmn_rg {x y : Int} (hx : zrg x) (hy : zrg y) : zrg (zmn x y) := by unfold zmn; split <;> assumption
end
