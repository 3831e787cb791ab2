/-! words with masks; a table with as many slots again as things -/
theorem pig : ∀ (m K : Nat) (f : Nat → Nat), (∀ i, i < K → f i < m) → (∀ i j, i < j → j < K → f i ≠ f j) → K ≤ m
  | 0, K, f, h, _ => by
    rcases Nat.eq_zero_or_pos K with h0 | h0
    · omega
    · have := h 0 h0; omega
  | m + 1, 0, f, _, _ => by omega
  | m + 1, K + 1, f, h, g => by
    have := pig m K (fun i => if f i = m then f K else f i) (fun i hi => by
      have h1 := h i (by omega)
      have h2 := h K (by omega)
      have h3 := g i K hi (by omega)
      split <;> omega) (fun i j hij hj => by
      have h1 := g i j hij (by omega)
      have h2 := g i K (by omega) (by omega)
      have h3 := g j K hj (by omega)
      split <;> split <;> omega)
    omega
theorem zan_mask (x : Int) (k : Nat) (hk : k ≤ 30) : zan x (2 ^ k - 1 : Nat) = (((Int32.ofInt x).toBitVec.toNat % 2 ^ k : Nat) : Int) := by
  have hp : 2 ^ k ≤ 2 ^ 30 := Nat.pow_le_pow_right (by decide) hk
  have hp0 : 0 < 2 ^ k := Nat.two_pow_pos k
  unfold zan
  have e1 : (Int32.ofInt ((2 ^ k - 1 : Nat) : Int)).toBitVec.toNat = 2 ^ k - 1 := by
    show (BitVec.ofInt 32 ((2 ^ k - 1 : Nat) : Int)).toNat = 2 ^ k - 1
    rw [BitVec.toNat_ofInt]
    have : ((2 ^ k - 1 : Nat) : Int) % ((2 ^ 32 : Nat) : Int) = ((2 ^ k - 1 : Nat) : Int) := Int.emod_eq_of_lt (by omega) (by omega)
    rw [this]; omega
  have e2 : (Int32.ofInt x &&& Int32.ofInt ((2 ^ k - 1 : Nat) : Int)).toBitVec.toNat = (Int32.ofInt x).toBitVec.toNat % 2 ^ k := by
    rw [Int32.toBitVec_and, BitVec.toNat_and, e1, Nat.and_two_pow_sub_one_eq_mod]
  have hlt : (Int32.ofInt x).toBitVec.toNat % 2 ^ k < 2 ^ k := Nat.mod_lt _ hp0
  show (Int32.ofInt x &&& Int32.ofInt ((2 ^ k - 1 : Nat) : Int)).toBitVec.toInt = _
  rw [BitVec.toInt_eq_toNat_of_lt (by rw [e2]; omega), e2]
theorem zan_lt (x : Int) (k : Nat) (hk : k ≤ 30) : 0 ≤ zan x (2 ^ k - 1 : Nat) ∧ zan x (2 ^ k - 1 : Nat) < (2 ^ k : Nat) := by
  rw [zan_mask x k hk]
  have := Nat.mod_lt ((Int32.ofInt x).toBitVec.toNat) (Nat.two_pow_pos k)
  omega
theorem zan_nat (x k : Nat) (hk : k ≤ 30) (hx : x < 2147483648) : zan (x : Int) (2 ^ k - 1 : Nat) = ((x % 2 ^ k : Nat) : Int) := by
  rw [zan_mask _ k hk]
  have : (Int32.ofInt (x : Int)).toBitVec.toNat = x := by
    show (BitVec.ofInt 32 (x : Int)).toNat = x
    rw [BitVec.toNat_ofInt]
    have : (x : Int) % ((2 ^ 32 : Nat) : Int) = (x : Int) := Int.emod_eq_of_lt (by omega) (by omega)
    rw [this]; omega
  rw [this]
/-- fresh zeros for a slot -/
def yz (A : zA) (o f : Nat) (n : Int) : zA := zsr (znw A (true, 0, n.toNat)) o f (some A.1.length)
section
variable {N : Nat} {A : zA} {o f : Nat} {n : Int}
theorem yz_sh : (yz A o f n).1 = A.1 ++ [(true, 0, n.toNat)] := rfl
theorem yz_mr (a j : Nat) (ha : a ≠ A.1.length) : zmr (yz A o f n) a j = if a = o ∧ j = f then some A.1.length else zmr A a j := by
  unfold yz zsr znw zmr zup
  simp only [if_neg ha]
theorem yz_mi (a j : Nat) (ha : a ≠ A.1.length) : zmi (yz A o f n) a j = zmi A a j := by
  unfold yz zsr znw zmi
  simp only
  rw [if_neg ha]
theorem yz_ml (a j : Nat) (ha : a ≠ A.1.length) : zml (yz A o f n) a j = zml A a j := by
  unfold yz zsr znw zml
  simp only
  rw [if_neg ha]
theorem yz_own (h : Own A) (ho : dy o f = true) (hn0 : 0 ≤ n) (hn : n ≤ 1000000) : Own (yz A o f n) := by
  have hl := h.ln
  refine ⟨fun a s hs => ?_, fun o' f' c hd hc => ?_, fun o' f' ho' hf' => ?_, fun o1 f1 o2 f2 c h1 h2 g1 g2 => ?_⟩
  · rw [yz_sh, List.getElem?_append_left (by have := (List.getElem?_eq_some_iff.mp (h.1 a s hs)).1; omega)]
    exact h.1 a s hs
  · rw [yz_mr _ _ (by have := fx_lt (dy_fx hd); omega)] at hc
    split at hc
    · cases hc
      refine ⟨⟨n.toNat, ?_, by omega⟩, Or.inr hl⟩
      rw [yz_sh, List.getElem?_append_right (Nat.le_refl _), Nat.sub_self]; rfl
    · obtain ⟨⟨m, g1, g2⟩, g3⟩ := h.2.1 o' f' c hd hc
      refine ⟨⟨m, ?_, g2⟩, g3⟩
      rw [yz_sh, List.getElem?_append_left (List.getElem?_eq_some_iff.mp g1).1]; exact g1
  · have := fx_lt (dy_fx (dy_of ho' hf'))
    rw [yz_mr _ _ (by omega)]
    split
    · exact ⟨_, rfl⟩
    · exact h.2.2.1 o' f' ho' hf'
  · have e1 := fx_lt (dy_fx h1)
    have e2 := fx_lt (dy_fx h2)
    rw [yz_mr _ _ (by omega)] at g1 g2
    split at g1 <;> split at g2
    · omega
    · cases g1
      obtain ⟨⟨m, q1, q2⟩, q3⟩ := h.2.1 o2 f2 _ h2 g2
      have := (List.getElem?_eq_some_iff.mp q1).1; omega
    · cases g2
      obtain ⟨⟨m, q1, q2⟩, q3⟩ := h.2.1 o1 f1 _ h1 g1
      have := (List.getElem?_eq_some_iff.mp q1).1; omega
    · exact h.2.2.2 o1 f1 o2 f2 c h1 h2 g1 g2
theorem yz_yc (h : Own A) (ho : dy o f = true) : yc (yz A o f n) o f = A.1.length := by
  unfold yc
  rw [yz_mr _ _ (by have := fx_lt (dy_fx ho); have := h.ln; omega), if_pos ⟨rfl, rfl⟩]
  rfl
theorem yz_yco (h : Own A) {o' f' : Nat} (hd : dy o' f' = true) (hn : ¬ (o' = o ∧ f' = f)) : yc (yz A o f n) o' f' = yc A o' f' := by
  unfold yc
  rw [yz_mr _ _ (by have := fx_lt (dy_fx hd); have := h.ln; omega), if_neg hn]
theorem yz_yl (h : Own A) (ho : dy o f = true) (hn0 : 0 ≤ n) : yl (yz A o f n) o f = n := by
  unfold yl
  rw [yz_yc h ho, yz_sh, List.getElem?_append_right (Nat.le_refl _), Nat.sub_self]
  simp only [List.getElem?_cons_zero]
  omega
theorem yz_ylo (h : Own A) {o' f' : Nat} (hd : dy o' f' = true) (hn : ¬ (o' = o ∧ f' = f)) : yl (yz A o f n) o' f' = yl A o' f' := by
  unfold yl
  rw [yz_yco h hd hn, yz_sh, List.getElem?_append_left (yc_lt h hd)]
theorem yz_yvo (h : Own A) {o' f' : Nat} (hd : dy o' f' = true) (hn : ¬ (o' = o ∧ f' = f)) (e : Int) : yv (yz A o f n) o' f' e = yv A o' f' e := by
  have := yc_lt h hd
  unfold yv ri zi
  rw [yz_yco h hd hn, yz_mi _ _ (by omega)]
theorem yz_yv (h : Own A) (ho : dy o f = true) {e : Int} : yv (yz A o f n) o f e = 0 := by
  have hy : yc (yz A o f n) o f = A.1.length := yz_yc h ho
  unfold yv ri zi
  rw [hy]
  unfold yz zsr znw zmi
  simp only
  rw [if_pos trivial]
  rfl
theorem yz_fi (h : Own A) {a j : Nat} (ha : a < 296) : zi (yz A o f n) a j = zi A a j := by
  unfold zi
  rw [yz_mi _ _ (by have := h.ln; omega)]
theorem yz_rm (h : Own A) (ho : dyo.contains o = true) (hf : f < 2) (hn : 2 * yl A o f ≤ n) (hl : 16 ≤ yl A o f) : Rm A (yz A o f n) := by
  have hs : sy (yz A o f n) = sy A + (yl (yz A o f n) o f - yl A o f) := by
    unfold sy
    refine sum_one SL (fun s => yl (yz A o f n) s.1 s.2) (fun s => yl A s.1 s.2) (o, f) (SL_mem ho hf) SL_nd (fun y hy hne => ?_)
    obtain ⟨q1, q2⟩ := SL_of y hy
    exact yz_ylo h (dy_of q1 q2) (fun q => hne (by cases y; cases q.1; cases q.2; rfl))
  rw [yz_yl h (dy_of ho hf) (by omega)] at hs
  have hb := big_app (A := A) (B := yz A o f n) yz_sh (by omega)
  have ht : tot (yz A o f n) = tot A + n := by
    unfold tot
    rw [hb, List.map_append, List.sum_append]
    simp only [List.map_cons, List.map_nil, List.sum_cons, List.sum_nil]
    omega
  have hc : ((big (yz A o f n)).length : Int) = (big A).length + 1 := by
    rw [hb, List.length_append]; simp
  have hy : ty (yz A o f n) = ty A := by
    have hl := h.ln
    unfold ty t1
    rw [yz_mr 114 3 (by omega), yz_mr 114 4 (by omega), yz_mr 117 3 (by omega), yz_mr 117 4 (by omega), if_neg (by omega), if_neg (by omega), if_neg (by omega), if_neg (by omega)]
  exact ⟨by omega, by omega⟩
theorem cF_yz {S : List Nat} (h : Own A) (ho : dyo.contains o = true) (hf : f < 2) (hs : S.contains o = true) (h1 : 2 * yl A o f ≤ n) (h2 : 16 ≤ yl A o f) (h3 : n ≤ 1000000) : cF S A (yz A o f n) := by
  have hl := h.ln
  refine ⟨yz_own h (dy_of ho hf) (by omega) h3, ⟨yz_rm h ho hf h1 h2, fun _ => smc_app (A := A) (B := yz A o f n) yz_sh (by omega), sh0_app yz_sh⟩, fun a j ha hb => ?_, fun o' f' hd hs2 => ?_⟩
  · have := fx_lt ha
    refine ⟨yz_mi _ _ (by omega), yz_ml _ _ (by omega), ?_⟩
    rw [yz_mr _ _ (by omega), if_neg (fun q => ?_)]
    rw [q.1, hs] at hb; cases hb
  · have ne : ¬ (o' = o ∧ f' = f) := fun z => by rw [z.1, hs] at hs2; cases hs2
    exact ⟨yz_ylo h hd ne, fun e => yz_yvo h hd ne e⟩
end
