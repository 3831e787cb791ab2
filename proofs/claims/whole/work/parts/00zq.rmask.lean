/-! masks -/
theorem lg_cmp_z (x y : Int64) : (lg_cmp x y).toInt = 0 ↔ x = y := by
  unfold lg_cmp
  constructor
  · intro h
    by_cases c : x = y
    · exact c
    · exfalso
      revert h
      simp only [c, if_false]
      split <;> decide
  · intro h
    subst h
    simp
theorem zsh64 : ∀ r : Fin 64, (Int32.ofInt (r.val : Int)).toInt64 &&& 63 = Int64.ofNat r.val := by decide
theorem sm64 : ∀ r : Fin 64, (Int64.ofNat r.val).toBitVec.smod 64 = BitVec.ofNat 64 r.val := by decide
def bt (v : Int64) (i : Nat) : Bool := v.toBitVec.getLsbD i
theorem zlsr_bv (v : Int64) {r : Nat} (hr : r < 64) : (zlsr v r).toBitVec = v.toBitVec.sshiftRight r := by
  unfold zlsr
  have e := zsh64 ⟨r, hr⟩
  have e2 := sm64 ⟨r, hr⟩
  dsimp only at e e2
  rw [e, Int64.toBitVec_shiftRight, e2, BitVec.sshiftRight', BitVec.toNat_ofNat, Nat.mod_eq_of_lt (by omega)]
theorem zlsl_bv (v : Int64) {r : Nat} (hr : r < 64) : (zlsl v r).toBitVec = v.toBitVec <<< r := by
  unfold zlsl
  have e := zsh64 ⟨r, hr⟩
  have e2 := sm64 ⟨r, hr⟩
  dsimp only at e e2
  rw [e, Int64.toBitVec_shiftLeft, e2, BitVec.shiftLeft_eq', BitVec.toNat_ofNat, Nat.mod_eq_of_lt (by omega)]
theorem cbit (v : Int64) {r : Nat} (hr : r < 64) : (lg_cmp ((zlsr v r) &&& (Int64.ofNat 1)) (Int64.ofNat 1)).toInt = 0 ↔ bt v r = true := by
  rw [lg_cmp_z]
  have h1 : (Int64.ofNat 1).toBitVec = 1#64 := by decide
  constructor
  · intro h
    have h2 : ((zlsr v r) &&& (Int64.ofNat 1)).toBitVec.getLsbD 0 = (Int64.ofNat 1).toBitVec.getLsbD 0 := by rw [h]
    rw [Int64.toBitVec_and, zlsr_bv v hr, h1, BitVec.getLsbD_and, BitVec.getLsbD_sshiftRight] at h2
    simp at h2
    unfold bt
    rw [if_pos hr] at h2
    exact h2
  · intro h
    apply Int64.toBitVec_inj.mp
    rw [Int64.toBitVec_and, zlsr_bv v hr, h1]
    apply BitVec.eq_of_getLsbD_eq
    intro i hi
    rw [BitVec.getLsbD_and, BitVec.getLsbD_sshiftRight]
    unfold bt at h
    by_cases c : i = 0
    · subst c
      simp [h, hr]
    · have : (1#64).getLsbD i = false := by
        rw [BitVec.getLsbD_one]
        simp [c]
      rw [this, Bool.and_false]
theorem bt_clear (v : Int64) {r i : Nat} (hr : r < 64) (hi : i < 64) : bt (v &&& ((zlsl (Int64.ofNat 1) r) ^^^ (Int64.ofNat 18446744073709551615))) i = (bt v i && !(Nat.beq i r)) := by
  unfold bt
  have h1 : (Int64.ofNat 1).toBitVec = 1#64 := by decide
  have h2 : (Int64.ofNat 18446744073709551615).toBitVec = BitVec.allOnes 64 := by decide
  rw [Int64.toBitVec_and, Int64.toBitVec_xor, zlsl_bv _ hr, h1, h2, BitVec.getLsbD_and, BitVec.getLsbD_xor, BitVec.getLsbD_allOnes, BitVec.getLsbD_shiftLeft, BitVec.getLsbD_one]
  by_cases c : i = r
  · subst c
    simp [hi]
  · have hb : Nat.beq i r = false := by
      cases q : Nat.beq i r with
      | false => rfl
      | true => exact absurd (Nat.eq_of_beq_eq_true q) c
    rw [hb]
    by_cases c2 : i < r
    · simp [hi, c2]
    · have : ¬ i - r = 0 := by omega
      simp [hi, this]
theorem bt_full : ∀ i : Fin 64, bt (Int64.ofNat 2305843009213693951) i.val = Nat.blt i.val 61 := by decide
/-- how many of the 61 -/
def cnt (S : Nat → Bool) : Nat → Nat
  | 0 => 0
  | k + 1 => cnt S k + if S k then 1 else 0
theorem cnt_le (S : Nat → Bool) : ∀ k, cnt S k ≤ k
  | 0 => Nat.le_refl _
  | k + 1 => by have := cnt_le S k; unfold cnt; split <;> omega
theorem cnt_mono {S S' : Nat → Bool} : ∀ k, (∀ i, i < k → S' i = true → S i = true) → cnt S' k ≤ cnt S k
  | 0, _ => Nat.le_refl _
  | k + 1, h => by
    have := cnt_mono k (fun i hi => h i (by omega))
    have hk := h k (by omega)
    unfold cnt
    by_cases c : S' k = true
    · rw [if_pos c, if_pos (hk c)]; omega
    · rw [if_neg c]; split <;> omega
theorem cnt_lt {S S' : Nat → Bool} {r : Nat} : ∀ k, (∀ i, i < k → S' i = true → S i = true) → r < k → S r = true → S' r = false → cnt S' k < cnt S k
  | 0, _, h, _, _ => by omega
  | k + 1, h, hr, h1, h2 => by
    by_cases c : r = k
    · subst c
      have := cnt_mono (S := S) (S' := S') r (fun i hi => h i (by omega))
      unfold cnt
      rw [if_pos h1, h2]
      simp
      omega
    · have := cnt_lt (S := S) (S' := S') (r := r) k (fun i hi => h i (by omega)) (by omega) h1 h2
      have hk := h k (by omega)
      unfold cnt
      by_cases c : S' k = true
      · rw [if_pos c, if_pos (hk c)]; omega
      · rw [if_neg c]; split <;> omega
/-- the mask of a level is the set S -/
def MKS (A : zA) (l : Nat) (S : Nat → Bool) : Prop := ∀ i : Nat, i < 61 → bt (zml A 279 l) i = S i
theorem M_circles {N l r : Nat} {A : zA} {S : Nat → Bool} (h66 : zi A 226 66 = (l : Int) + 1) (hl : l < 30) (h : MKS A l S) (hr : r < 61) : z_M_circles N r A = some (if S r then 1 else 0) := by
  unfold z_M_circles zrl
  rw [h66, if_pos (by omega)]
  rw [show ((l : Int) + 1 - 1).toNat = l by omega]
  dsimp only
  by_cases c : S r = true
  · rw [if_pos ((cbit _ (by omega)).mpr (by rw [h r hr]; exact c)), if_pos c]
  · rw [if_neg (fun q => c (by rw [← h r hr]; exact (cbit _ (by omega)).mp q)), if_neg c]
