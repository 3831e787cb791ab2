/-! rows as the written proofs use them -/
section
variable {R : Type} {F : Option R} {P : R → zO → zA → Prop} {d w mi pc pc1 len : Nat} {L : zLs} {S : List zV} {A : zA}
def zrb (z : Int) : Bool := decide (-2147483648 ≤ z) && decide (z < 2147483648)
theorem zlit {z : Int} (h : zrb z = true) : zrg z := by
  simp only [zrb, Bool.and_eq_true, decide_eq_true_eq] at h
  exact h
theorem zG_w1 {x : Int} (k : zG F P d w mi pc L (.inl (zw x) :: S) A) : zG F P d w mi pc L (.inl x :: S) A := by
  intro r hr hf
  obtain ⟨n, o, A1, e1, e2⟩ := k r hr hf
  refine ⟨n, o, A1, ?_, e2⟩
  rw [← e1]
  simp only [zS, List.map_cons, zval_w]
theorem zG_w2 {x : Int} {y : zV} (k : zG F P d w mi pc L (y :: .inl (zw x) :: S) A) : zG F P d w mi pc L (y :: .inl x :: S) A := by
  intro r hr hf
  obtain ⟨n, o, A1, e1, e2⟩ := k r hr hf
  refine ⟨n, o, A1, ?_, e2⟩
  rw [← e1]
  simp only [zS, List.map_cons, zval_w]
theorem jt_eq {t x y : Int} {F1 F2 : Option R} {t1 : Nat} (hx : zrg x) (hy : zrg y) (hc : mp_code mi pc = some (.if_icmp .eq t, len)) (e1 : t.toNat = t1) (e : pc + len = pc1) (h1 : x = y → zG F1 P d w mi t1 L S A) (h2 : ¬ x = y → zG F2 P d w mi pc1 L S A) : zG (if x = y then F1 else F2) P d w mi pc L (.inl y :: .inl x :: S) A := zG_cmp hc e1 e (zc_eq hx hy) h1 h2
theorem jt_ne {t x y : Int} {F1 F2 : Option R} {t1 : Nat} (hx : zrg x) (hy : zrg y) (hc : mp_code mi pc = some (.if_icmp .ne t, len)) (e1 : t.toNat = t1) (e : pc + len = pc1) (h1 : x = y → zG F1 P d w mi pc1 L S A) (h2 : ¬ x = y → zG F2 P d w mi t1 L S A) : zG (if x = y then F1 else F2) P d w mi pc L (.inl y :: .inl x :: S) A := zG_not (zG_cmp hc e1 e (zc_ne hx hy) h2 (fun h => h1 (Decidable.not_not.mp h)))
theorem jt_lt {t x y : Int} {F1 F2 : Option R} {t1 : Nat} (hx : zrg x) (hy : zrg y) (hc : mp_code mi pc = some (.if_icmp .lt t, len)) (e1 : t.toNat = t1) (e : pc + len = pc1) (h1 : x < y → zG F1 P d w mi t1 L S A) (h2 : ¬ x < y → zG F2 P d w mi pc1 L S A) : zG (if x < y then F1 else F2) P d w mi pc L (.inl y :: .inl x :: S) A := zG_cmp hc e1 e (zc_lt hx hy) h1 h2
theorem jt_ge {t x y : Int} {F1 F2 : Option R} {t1 : Nat} (hx : zrg x) (hy : zrg y) (hc : mp_code mi pc = some (.if_icmp .ge t, len)) (e1 : t.toNat = t1) (e : pc + len = pc1) (h1 : x < y → zG F1 P d w mi pc1 L S A) (h2 : ¬ x < y → zG F2 P d w mi t1 L S A) : zG (if x < y then F1 else F2) P d w mi pc L (.inl y :: .inl x :: S) A := zG_not (zG_cmp hc e1 e (zc_ge hx hy) h2 (fun h => h1 (Decidable.not_not.mp h)))
theorem jt_gt {t x y : Int} {F1 F2 : Option R} {t1 : Nat} (hx : zrg x) (hy : zrg y) (hc : mp_code mi pc = some (.if_icmp .gt t, len)) (e1 : t.toNat = t1) (e : pc + len = pc1) (h1 : y < x → zG F1 P d w mi t1 L S A) (h2 : ¬ y < x → zG F2 P d w mi pc1 L S A) : zG (if y < x then F1 else F2) P d w mi pc L (.inl y :: .inl x :: S) A := zG_cmp hc e1 e (zc_gt hx hy) h1 h2
theorem jt_le {t x y : Int} {F1 F2 : Option R} {t1 : Nat} (hx : zrg x) (hy : zrg y) (hc : mp_code mi pc = some (.if_icmp .le t, len)) (e1 : t.toNat = t1) (e : pc + len = pc1) (h1 : y < x → zG F1 P d w mi pc1 L S A) (h2 : ¬ y < x → zG F2 P d w mi t1 L S A) : zG (if y < x then F1 else F2) P d w mi pc L (.inl y :: .inl x :: S) A := zG_not (zG_cmp hc e1 e (zc_le hx hy) h2 (fun h => h1 (Decidable.not_not.mp h)))
theorem zrg0 : zrg 0 := by unfold zrg; omega
theorem ju_eq {t x : Int} {F1 F2 : Option R} {t1 : Nat} (hx : zrg x) (hc : mp_code mi pc = some (.ifCond .eq t, len)) (e1 : t.toNat = t1) (e : pc + len = pc1) (h1 : x = 0 → zG F1 P d w mi t1 L S A) (h2 : ¬ x = 0 → zG F2 P d w mi pc1 L S A) : zG (if x = 0 then F1 else F2) P d w mi pc L (.inl x :: S) A := zG_cmp0 hc e1 e (zc_eq hx zrg0) h1 h2
theorem ju_ne {t x : Int} {F1 F2 : Option R} {t1 : Nat} (hx : zrg x) (hc : mp_code mi pc = some (.ifCond .ne t, len)) (e1 : t.toNat = t1) (e : pc + len = pc1) (h1 : x = 0 → zG F1 P d w mi pc1 L S A) (h2 : ¬ x = 0 → zG F2 P d w mi t1 L S A) : zG (if x = 0 then F1 else F2) P d w mi pc L (.inl x :: S) A := zG_not (zG_cmp0 hc e1 e (zc_ne hx zrg0) h2 (fun h => h1 (Decidable.not_not.mp h)))
theorem ju_lt {t x : Int} {F1 F2 : Option R} {t1 : Nat} (hx : zrg x) (hc : mp_code mi pc = some (.ifCond .lt t, len)) (e1 : t.toNat = t1) (e : pc + len = pc1) (h1 : x < 0 → zG F1 P d w mi t1 L S A) (h2 : ¬ x < 0 → zG F2 P d w mi pc1 L S A) : zG (if x < 0 then F1 else F2) P d w mi pc L (.inl x :: S) A := zG_cmp0 hc e1 e (zc_lt hx zrg0) h1 h2
theorem ju_ge {t x : Int} {F1 F2 : Option R} {t1 : Nat} (hx : zrg x) (hc : mp_code mi pc = some (.ifCond .ge t, len)) (e1 : t.toNat = t1) (e : pc + len = pc1) (h1 : x < 0 → zG F1 P d w mi pc1 L S A) (h2 : ¬ x < 0 → zG F2 P d w mi t1 L S A) : zG (if x < 0 then F1 else F2) P d w mi pc L (.inl x :: S) A := zG_not (zG_cmp0 hc e1 e (zc_ge hx zrg0) h2 (fun h => h1 (Decidable.not_not.mp h)))
theorem ju_gt {t x : Int} {F1 F2 : Option R} {t1 : Nat} (hx : zrg x) (hc : mp_code mi pc = some (.ifCond .gt t, len)) (e1 : t.toNat = t1) (e : pc + len = pc1) (h1 : 0 < x → zG F1 P d w mi t1 L S A) (h2 : ¬ 0 < x → zG F2 P d w mi pc1 L S A) : zG (if 0 < x then F1 else F2) P d w mi pc L (.inl x :: S) A := zG_cmp0 hc e1 e (zc_gt hx zrg0) h1 h2
theorem ju_le {t x : Int} {F1 F2 : Option R} {t1 : Nat} (hx : zrg x) (hc : mp_code mi pc = some (.ifCond .le t, len)) (e1 : t.toNat = t1) (e : pc + len = pc1) (h1 : 0 < x → zG F1 P d w mi pc1 L S A) (h2 : ¬ 0 < x → zG F2 P d w mi t1 L S A) : zG (if 0 < x then F1 else F2) P d w mi pc L (.inl x :: S) A := zG_not (zG_cmp0 hc e1 e (zc_le hx zrg0) h2 (fun h => h1 (Decidable.not_not.mp h)))
theorem jt_ald {i : Instr} {a n : Nat} {e : Int} {K : Int → Option R} (hc : mp_code mi pc = some (i, len)) (ee : pc + len = pc1) (hp : zpl i = true) (hi : zrdI i = true) (hs : zsh a = some (true, zak i, n)) (k : ∀ v, zrg v → zG (K v) P d w mi pc1 L (.inl v :: S) A) : zG (zrd A a n e K) P d w mi pc L (.inl e :: .inr (.inr (some a)) :: S) A := js_ald hc ee hp hi hs (k _ (zi_rg _ _ _))
theorem jt_lald {a n : Nat} {e : Int} {K : Int64 → Option R} (hc : mp_code mi pc = some (.laload, len)) (ee : pc + len = pc1) (hs : zsh a = some (true, 1, n)) (k : ∀ v, zG (K v) P d w mi pc1 L (.inr (.inl v) :: S) A) : zG (zrl A a n e K) P d w mi pc L (.inl e :: .inr (.inr (some a)) :: S) A := js_lald hc ee hs (k _)
theorem jt_ias {a n : Nat} {e z : Int} {K : zA → Option R} (hc : mp_code mi pc = some (.iastore, len)) (ee : pc + len = pc1) (hs : zsh a = some (true, 0, n)) (ha : Nat.ble 4 a = true) (k : ∀ A1, zG (K A1) P d w mi pc1 L S A1) : zG (zwr A a n e z K) P d w mi pc L (.inl z :: .inl e :: .inr (.inr (some a)) :: S) A := js_ias hc ee hs ha (k _)
theorem jt_bas {a n : Nat} {e z : Int} {K : zA → Option R} (hc : mp_code mi pc = some (.bastore, len)) (ee : pc + len = pc1) (hs : zsh a = some (true, 3, n)) (ha : Nat.ble 4 a = true) (k : ∀ A1, zG (K A1) P d w mi pc1 L S A1) : zG (zwb A a n e z K) P d w mi pc L (.inl z :: .inl e :: .inr (.inr (some a)) :: S) A := js_bas hc ee hs ha (k _)
theorem jt_basl {a n : Nat} {e z : Int} {K : zA → Option R} (hc : mp_code mi pc = some (.bastore, len)) (ee : pc + len = pc1) (hs : zsh a = some (true, 3, n)) (ha : Nat.ble 4 a = true) (hz : z = 0 ∨ z = 1) (k : ∀ A1, zG (K A1) P d w mi pc1 L S A1) : zG (zwr A a n e z K) P d w mi pc L (.inl z :: .inl e :: .inr (.inr (some a)) :: S) A := by
  have h : zwr A a n e z K = zwb A a n e z K := by
    unfold zwr zwb
    simp only [hz, and_true]
  rw [h]
  exact js_bas hc ee hs ha (k _)
theorem jt_cas {a n : Nat} {e z : Int} {K : zA → Option R} (hc : mp_code mi pc = some (.castore, len)) (ee : pc + len = pc1) (hs : zsh a = some (true, 2, n)) (ha : Nat.ble 4 a = true) (k : ∀ A1, zG (K A1) P d w mi pc1 L S A1) : zG (zwc A a n e z K) P d w mi pc L (.inl z :: .inl e :: .inr (.inr (some a)) :: S) A := js_cas hc ee hs ha (k _)
theorem jt_las {a n : Nat} {e : Int} {x : Int64} {K : zA → Option R} (hc : mp_code mi pc = some (.lastore, len)) (ee : pc + len = pc1) (hs : zsh a = some (true, 1, n)) (ha : Nat.ble 4 a = true) (k : ∀ A1, zG (K A1) P d w mi pc1 L S A1) : zG (zwl A a n e x K) P d w mi pc L (.inr (.inl x) :: .inl e :: .inr (.inr (some a)) :: S) A := js_las hc ee hs ha (k _)
theorem jt_aldD {a : Nat} {e : Int} {K : Int → Option R} (hc : mp_code mi pc = some (.iaload, len)) (ee : pc + len = pc1) (k : ∀ v, zrg v → zG (K v) P d w mi pc1 L (.inl v :: S) A) : zG (zrD A a e K) P d w mi pc L (.inl e :: .inr (.inr (some a)) :: S) A := js_aldD hc ee (k _ (zi_rg _ _ _))
theorem jt_laldD {a : Nat} {e : Int} {K : Int64 → Option R} (hc : mp_code mi pc = some (.laload, len)) (ee : pc + len = pc1) (k : ∀ v, zG (K v) P d w mi pc1 L (.inr (.inl v) :: S) A) : zG (zrDl A a e K) P d w mi pc L (.inl e :: .inr (.inr (some a)) :: S) A := js_laldD hc ee (k _)
theorem jt_iasD {a : Nat} {e z : Int} {K : zA → Option R} (hc : mp_code mi pc = some (.iastore, len)) (ee : pc + len = pc1) (k : ∀ A1, zG (K A1) P d w mi pc1 L S A1) : zG (zwD A a e z K) P d w mi pc L (.inl z :: .inl e :: .inr (.inr (some a)) :: S) A := js_iasD hc ee (k _)
theorem jt_lasD {a : Nat} {e : Int} {x : Int64} {K : zA → Option R} (hc : mp_code mi pc = some (.lastore, len)) (ee : pc + len = pc1) (k : ∀ A1, zG (K A1) P d w mi pc1 L S A1) : zG (zwDl A a e x K) P d w mi pc L (.inr (.inl x) :: .inl e :: .inr (.inr (some a)) :: S) A := js_lasD hc ee (k _)
theorem jt_pi {q a ci n j : Nat} {z : Int} {K : zA → Option R} (hc : mp_code mi pc = some (.putfield q, len)) (e : pc + len = pc1) (hs : zsh a = some (false, ci, n)) (hq : zfld (q / 16) ci n j 0 = true) (h0 : q % 16 = 0) (k : ∀ A1, zG (K A1) P d w mi pc1 L S A1) : zG (zlet (zsi A a j z) K) P d w mi pc L (.inl z :: .inr (.inr (some a)) :: S) A := js_pi hc e hs hq h0 (k _)
theorem jt_pb {q a ci n j : Nat} {z : Int} {K : zA → Option R} (hc : mp_code mi pc = some (.putfield q, len)) (e : pc + len = pc1) (hs : zsh a = some (false, ci, n)) (hq : zfld (q / 16) ci n j 0 = true) (h0 : q % 16 = 3) (k : ∀ A1, zG (K A1) P d w mi pc1 L S A1) : zG (zbl z (zsi A a j z) K) P d w mi pc L (.inl z :: .inr (.inr (some a)) :: S) A := js_pb hc e hs hq h0 (k _)
theorem jt_pbl {q a ci n j : Nat} {z : Int} {K : zA → Option R} (hc : mp_code mi pc = some (.putfield q, len)) (e : pc + len = pc1) (hs : zsh a = some (false, ci, n)) (hq : zfld (q / 16) ci n j 0 = true) (h0 : q % 16 = 3) (hz : z = 0 ∨ z = 1) (k : ∀ A1, zG (K A1) P d w mi pc1 L S A1) : zG (zlet (zsi A a j z) K) P d w mi pc L (.inl z :: .inr (.inr (some a)) :: S) A := by
  have h : zlet (zsi A a j z) K = zbl z (zsi A a j z) K := by
    unfold zlet zbl
    rw [if_pos hz]
  rw [h]
  exact js_pb hc e hs hq h0 (k _)
theorem jt_pr {q a ci n j : Nat} {x : Option Nat} {K : zA → Option R} (hc : mp_code mi pc = some (.putfield q, len)) (e : pc + len = pc1) (hs : zsh a = some (false, ci, n)) (hq : zfld (q / 16) ci n j 2 = true) (h0 : q % 16 = 6) (hn : zfr a j = none) (k : ∀ A1, zG (K A1) P d w mi pc1 L S A1) : zG (zlet (zsr A a j x) K) P d w mi pc L (.inr (.inr x) :: .inr (.inr (some a)) :: S) A := js_pr hc e hs hq h0 hn (k _)
theorem jt_gr {q a ci n j : Nat} {K : Nat → Option R} (hc : mp_code mi pc = some (.getfield q, len)) (e : pc + len = pc1) (hs : zsh a = some (false, ci, n)) (hq : zfld q ci n j 2 = true) (k : ∀ r, zG (K r) P d w mi pc1 L (.inr (.inr (some r)) :: S) A) : zG (zgr A a j K) P d w mi pc L (.inr (.inr (some a)) :: S) A := js_gr hc e hs hq (fun r _ => k r)
theorem jt_gf {q a ci n j : Nat} {K : Nat → Option R} (hc : mp_code mi pc = some (.getfield q, len)) (e : pc + len = pc1) (hs : zsh a = some (false, ci, n)) (hq : zfld q ci n j 2 = true) (k : ∀ r, zG (K r) P d w mi pc1 L (.inr (.inr (some r)) :: S) A) : zG (zgf a j K) P d w mi pc L (.inr (.inr (some a)) :: S) A := js_gf hc e hs hq (fun r _ => k r)
theorem jt_aald {a : Nat} {e : Int} {K : Nat → Option R} (hc : mp_code mi pc = some (.aaload, len)) (ee : pc + len = pc1) (k : ∀ r, zG (K r) P d w mi pc1 L (.inr (.inr (some r)) :: S) A) : zG (zfe a e K) P d w mi pc L (.inl e :: .inr (.inr (some a)) :: S) A := js_aald hc ee (fun r _ => k r)
theorem jt_new {n : Int} {K : Nat → zA → Option R} (hc : mp_code mi pc = some (.newarray .int, len)) (ee : pc + len = pc1) (k : ∀ r A1, zG (K r A1) P d w mi pc1 L (.inr (.inr (some r)) :: S) A1) : zG (zna A 0 n K) P d w mi pc L (.inl n :: S) A := js_newI hc ee (k _ _)
theorem jt_copy {a b : Nat} {sp dp n : Int} {K : zA → Option R} (hc : mp_code mi pc = some (.invokestatic 1003, len)) (e : pc + len = pc1) (hd : 1 ≤ d) (hw : 64 ≤ w) (hr : Nat.ble (zwd S) 8 = true) (k : ∀ A1, zG (K A1) P d w mi pc1 L S A1) : zG (zcy A a sp b dp n K) P d w mi pc L (.inl n :: .inl dp :: .inr (.inr (some b)) :: .inl sp :: .inr (.inr (some a)) :: S) A := js_copy hc e hd hw (by rw [zwd_eq]; exact Nat.ble_eq.mp hr) (k _)
theorem jt_max {x y : Int} (hc : mp_code mi pc = some (.invokestatic 1001, len)) (e : pc + len = pc1) (hx : zrg x) (hy : zrg y) (hd : 1 ≤ d) (hw : 64 ≤ w) (hr : Nat.ble (zwd S) 8 = true) (k : zG F P d w mi pc1 L (.inl (zmx x y) :: S) A) : zG F P d w mi pc L (.inl y :: .inl x :: S) A := js_max hc e hx hy hd hw (by rw [zwd_eq]; exact Nat.ble_eq.mp hr) k
theorem jt_min {x y : Int} (hc : mp_code mi pc = some (.invokestatic 1002, len)) (e : pc + len = pc1) (hx : zrg x) (hy : zrg y) (hd : 1 ≤ d) (hw : 64 ≤ w) (hr : Nat.ble (zwd S) 8 = true) (k : zG F P d w mi pc1 L (.inl (zmn x y) :: S) A) : zG F P d w mi pc L (.inl y :: .inl x :: S) A := js_min hc e hx hy hd hw (by rw [zwd_eq]; exact Nat.ble_eq.mp hr) k
theorem zrc_o {k ci a n : Nat} {r : List zV} (h : mp_rc k = some ci) (hs : zsh a = some (false, ci, n)) : zrc k (.inr (.inr (some a)) :: r) := by
  unfold zrc
  rw [h]
  exact ⟨n, hs⟩
theorem zrc_s {k : Nat} {as : List zV} (h : mp_rc k = none) : zrc k as := by
  unfold zrc
  rw [h]
  cases as <;> trivial
theorem js_cX {k m : Nat} {as S0 : List zV} {L0 : zLs} {F1 : Option ((Int ⊕ Nat) × zA)} {K : Int → zA → Option R} {H : Nat → zA → Option R} (hc : mp_code mi pc = some (.invokestatic k, len)) (e : pc + len = pc1) (hk : Nat.blt k 1000 = true) (hp : zpop (mp_np k) S [] = some (as, S0)) (hm : mp_mxl k = m) (hL : zen m as = L0) (hl : Nat.ble (zin as).length m = true) (hwd : Nat.ble (zwd S0) 8 = true) (hrc : zrc k as) (hd : 1 ≤ d) (hw : m + 19 ≤ w) (hcal : zG F1 zPX (d - 1) (w - (m + 19)) k 0 L0 [] A) (kk : ∀ v A1, zrg v → zG (K v A1) P d w mi pc1 L (.inl v :: S0) A1) (hh : ∀ x A1, H x A1 = none ∨ ∃ t, mj_hn (mp_hnd mi) pc x = some t ∧ ∀ a, zG (H x A1) P d w mi t L [.inr (.inr (some a))] A1) : zG (zbX F1 K H) P d w mi pc L S A := by
  unfold zbX
  split
  · rename_i v A1
    intro r hr
    refine zW_call hc e hk hp hm hL hl hd hw hwd (fun hf => zrc_ok hrc hf) (hcal _ rfl) (fun o A2 hq => ?_)
    obtain ⟨rfl, ⟨v', h1, rfl, hv⟩ | ⟨x, a, h1, rfl⟩⟩ := hq
    · cases h1
      exact Or.inl ⟨_, rfl, kk v _ hv r hr⟩
    · cases h1
  · rename_i x A1
    intro r hr
    refine zW_call hc e hk hp hm hL hl hd hw hwd (fun hf => zrc_ok hrc hf) (hcal _ rfl) (fun o A2 hq => ?_)
    obtain ⟨rfl, ⟨v', h1, rfl, hv⟩ | ⟨x', a, h1, rfl⟩⟩ := hq
    · cases h1
    · cases h1
      rcases hh x _ with h2 | ⟨t, ht, hk2⟩
      · rw [h2] at hr; cases hr
      · exact Or.inr ⟨x, a, t, rfl, ht, hk2 a r hr⟩
  · exact zG_none
end
def zcj (ci j : Nat) : Bool := Nat.blt j 5 && (Nat.beq ci 3 || Nat.beq ci 6 || (Nat.beq ci 9 && Nat.ble 3 j))
def zcjA (a : Nat) : Bool := match zsh a with
  | some (false, ci, _) => (List.range 5).all fun j => !(zcj ci j) || (zfr a j).isNone
  | _ => true
theorem zcjA_ok : (List.range 296).all zcjA = true := by decide +kernel
theorem zsh_lt {a : Nat} {s : zK} (h : zsh a = some s) : a < 296 := by
  by_cases e : a < 296
  · exact e
  · exfalso
    have hb : ∀ n, n < 296 → Nat.blt a n = false := fun n hn => by
      cases q : Nat.blt a n with
      | false => rfl
      | true => have := Nat.blt_eq.mp q; omega
    have hq : ∀ n, n < 296 → Nat.beq a n = false := fun n hn => by
      cases q : Nat.beq a n with
      | false => rfl
      | true => have := Nat.eq_of_beq_eq_true q; omega
    unfold zsh at h
    simp [hb, hq] at h
theorem zfr_c {a ci n j : Nat} (hs : zsh a = some (false, ci, n)) (h : zcj ci j = true) : zfr a j = none := by
  have h1 := List.all_eq_true.mp zcjA_ok a (List.mem_range.mpr (zsh_lt hs))
  unfold zcjA at h1
  rw [hs] at h1
  simp only at h1
  have hj : j < 5 := by
    simp only [zcj, Bool.and_eq_true] at h
    exact Nat.blt_eq.mp h.1
  have h2 := List.all_eq_true.mp h1 j (List.mem_range.mpr hj)
  rw [h] at h2
  simpa using h2
