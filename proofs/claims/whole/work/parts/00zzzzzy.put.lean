/-! put, feed, dry, out, count -/
theorem byt_e (x : Int) {k : Nat} (h : k = 0 ∨ k = 1 ∨ k = 2 ∨ k = 3) : zan (zuh x (8 * (k : Int))) 255 = zan (zhr x (8 * (k : Int))) 255 := by
  unfold zan zuh zhr
  congr 1
  apply Int32.toBitVec_inj.mp
  simp only [Int32.ofInt_toInt, Int32.toBitVec_and]
  apply BitVec.eq_of_getLsbD_eq
  intro i hi
  simp only [BitVec.getLsbD_and]
  by_cases c : i < 8
  · congr 1
    rcases h with rfl | rfl | rfl | rfl
    · simp [Int32.toBitVec_shiftRight, UInt32.toBitVec_shiftRight]
    · simp [Int32.toBitVec_shiftRight, UInt32.toBitVec_shiftRight, BitVec.getLsbD_sshiftRight]
      rw [if_pos (by omega), show decide (32 ≤ i) = false from decide_eq_false (by omega)]
      rfl
    · simp [Int32.toBitVec_shiftRight, UInt32.toBitVec_shiftRight, BitVec.getLsbD_sshiftRight]
      rw [if_pos (by omega), show decide (32 ≤ i) = false from decide_eq_false (by omega)]
      rfl
    · simp [Int32.toBitVec_shiftRight, UInt32.toBitVec_shiftRight, BitVec.getLsbD_sshiftRight]
      rw [if_pos (by omega), show decide (32 ≤ i) = false from decide_eq_false (by omega)]
      rfl
  · have : (Int32.ofInt 255).toBitVec.getLsbD i = false := by
      rcases (show i = 8 ∨ i = 9 ∨ i = 10 ∨ i = 11 ∨ i = 12 ∨ i = 13 ∨ i = 14 ∨ i = 15 ∨ i = 16 ∨ i = 17 ∨ i = 18 ∨ i = 19 ∨ i = 20 ∨ i = 21 ∨ i = 22 ∨ i = 23 ∨ i = 24 ∨ i = 25 ∨ i = 26 ∨ i = 27 ∨ i = 28 ∨ i = 29 ∨ i = 30 ∨ i = 31 by omega) with h | h | h | h | h | h | h | h | h | h | h | h | h | h | h | h | h | h | h | h | h | h | h | h <;> subst h <;> rfl
    rw [this, Bool.and_false, Bool.and_false]
theorem byt_rg (y : Int) : 0 ≤ zan y 255 ∧ zan y 255 ≤ 255 := by
  unfold zan
  have e : (Int32.ofInt y &&& Int32.ofInt 255).toBitVec.toNat ≤ 255 := by
    rw [Int32.toBitVec_and, BitVec.toNat_and]
    exact Nat.and_le_right
  have e2 : (Int32.ofInt y &&& Int32.ofInt 255).toInt = ((Int32.ofInt y &&& Int32.ofInt 255).toBitVec.toNat : Int) := by
    rw [← Int32.toInt_toBitVec]
    exact BitVec.toInt_eq_toNat_of_lt (by omega)
  omega
theorem zch_k : ∀ n : Nat, n < 127 → zch (n : Int) = n := by decide +kernel
theorem zch_e {v : Int} (h0 : 0 ≤ v) (h1 : v ≤ 126) : zch v = v := by
  have := zch_k v.toNat (by omega)
  rw [show ((v.toNat : Nat) : Int) = v by omega] at this
  exact this
def byt (x : Int) (i : Nat) : Int := zan (zhr x (8 * (i : Int))) 255
def pT (x : Int) (n : Nat) (Tx : Nat → Int) (L : Nat) : Nat → Int := fun k => if L ≤ k ∧ k < L + n then byt x (n - 1 - (k - L)) else Tx k
def bOk (x : Int) (i : Nat) : Prop := 32 ≤ byt x i ∧ byt x i ≤ 126
def mayP (x n : Int) (L : Nat) : Prop := 1 ≤ n ∧ n ≤ 4 ∧ L + n ≤ 120 ∧ ∀ i : Nat, (i : Int) < n → bOk x i
/-- the text of the class, of the reference -/
def TXc (A : zA) (Tx : Nat → Int) (L : Nat) : Prop := zi A 5 1 = L ∧ ∀ k : Nat, k < L → ri A 6 k = Tx k
def TXr (A : zA) (Tx : Nat → Int) (L : Nat) : Prop := zi A 226 1 = L ∧ ∀ k : Nat, k < L → ri A 227 k = Tx k
theorem TXT.put {Tx : Nat → Int} {L : Nat} {x : Int} {n : Nat} (h : TXT Tx L) (hp : mayP x n L) : TXT (pT x n Tx L) (L + n) := by
  obtain ⟨h1, h2, h3⟩ := h
  refine ⟨by have := hp.2.2.1; omega, fun k => ?_, fun k hk => ?_⟩
  · unfold pT
    split
    · have := byt_rg (zhr x (8 * ((n - 1 - (k - L) : Nat) : Int)))
      unfold byt
      omega
    · exact h2 k
  · unfold pT
    rw [if_neg (by omega)]
    exact h3 k (by omega)
theorem pT_s {x : Int} {r : Nat} {Tx : Nat → Int} {L k : Nat} (hk : k < L + (r + 1)) : pT x r (fU Tx L (byt x r)) (L + 1) k = pT x (r + 1) Tx L k := by
  unfold pT fU
  by_cases c : L ≤ k
  · rw [if_pos (show L ≤ k ∧ k < L + (r + 1) from ⟨c, hk⟩)]
    by_cases e : k = L
    · rw [if_neg (by omega), if_pos e, show r + 1 - 1 - (k - L) = r by omega]
    · rw [if_pos (by omega), show r - 1 - (k - (L + 1)) = r + 1 - 1 - (k - L) by omega]
  · rw [if_neg (by omega), if_neg (by omega), if_neg (by omega)]
section
variable {N : Nat} {A : zA} {x n : Int} {Tx : Nat → Int} {L : Nat}
theorem c_app {v : Int} (h : TXc A Tx L) (hL : L < 120) (h0 : 0 ≤ v) (h1 : v ≤ 126) (hO : Own A) : ∃ B, z_Pa_append N v A = some B ∧ TXc B (fU Tx L v) (L + 1) ∧ cF [5, 6] A B := by
  unfold z_Pa_append zwc
  rw [h.1, if_pos (by omega), if_pos (by omega)]
  dsimp only
  rw [zlet_s, Int.toNat_natCast]
  have f1 : cF [6] A (zsi A 6 L v) := cF_si hO (by decide) (by decide) (by decide)
  have f2 : cF [5] (zsi A 6 L v) (zsi (zsi A 6 L v) 5 1 (zi (zsi A 6 L v) 5 1 + 1)) := cF_si f1.own (by decide) (by decide) (by decide)
  refine ⟨_, rfl, ⟨?_, fun k hk => ?_⟩, (f1.mono (fun a q => ?_)).trans (f2.mono (fun a q => ?_))⟩
  · rw [zi_si_s, zi_si_o (by decide), h.1, yb_w (by omega) (by omega)]; omega
  · rw [ri_si_o (by decide)]
    unfold ri fU
    rw [zi_si]
    by_cases e : k = L
    · rw [if_pos ⟨rfl, by omega⟩, if_pos e, yb_w (by omega) (by omega)]
    · rw [if_neg (fun z => e (by omega)), if_neg e]
      exact h.2 k (by omega)
  · simp at q; simp [q]
  · simp at q; simp [q]
theorem c_p66 : ∀ (r f : Nat) (A : zA) (Tx : Nat → Int) (L : Nat), r < f → r ≤ 4 → TXc A Tx L → L + r ≤ 120 → (∀ i, i < r → bOk x i) → Own A → ∃ B, z_PC_put_66_l N f x ((r : Int) - 1) A = some (1, B) ∧ TXc B (pT x r Tx L) (L + r) ∧ cF [5, 6] A B
  | r, 0, A, Tx, L, hf, _, _, _, _, _ => by omega
  | 0, f + 1, A, Tx, L, hf, _, h, hL, hb, hO => by
    show ∃ B, z_PC_put_66_b (z_PC_put_66_l N f) N x _ A = _ ∧ _
    unfold z_PC_put_66_b
    rw [if_pos (by omega)]
    exact ⟨A, rfl, ⟨h.1, fun k hk => by unfold pT; rw [if_neg (by omega)]; exact h.2 k hk⟩, cF.refl _ hO⟩
  | r + 1, f + 1, A, Tx, L, hf, hr, h, hL, hb, hO => by
    show ∃ B, z_PC_put_66_b (z_PC_put_66_l N f) N x _ A = _ ∧ _
    unfold z_PC_put_66_b z_PC_byteOf
    have hbr := hb r (by omega)
    have eb : zan (zuh x (8 * (((r + 1 : Nat) : Int) - 1))) 255 = byt x r := by
      rw [show ((r + 1 : Nat) : Int) - 1 = (r : Int) by omega]
      exact byt_e x (by omega)
    unfold bOk at hbr
    rw [if_neg (by omega), zbP_s, eb, zch_e (by omega) hbr.2]
    obtain ⟨B, b1, b2, b3⟩ := c_app (N := N) h (by omega) (show 0 ≤ byt x r by omega) hbr.2 hO
    obtain ⟨C, c1, c2, c3⟩ := c_p66 r f B _ _ (by omega) (by omega) b2 (by omega) (fun i hi => hb i (by omega)) b3.own
    rw [b1, zbV_s, yb_w (by omega) (by omega), show ((r + 1 : Nat) : Int) - 1 + -1 = (r : Int) - 1 by omega, c1]
    refine ⟨C, rfl, ⟨?_, fun k hk => ?_⟩, b3.trans c3⟩
    · rw [c2.1]; omega
    · rw [c2.2 k (by omega)]
      exact pT_s (by omega)
theorem c_p28 {m : Nat} (hm : m ≤ 4) : ∀ (r j f : Nat), j + r = m → r < f → ((∀ i, j ≤ i → i < m → bOk x i) → z_PC_put_28_l N f x m j A = z_PC_put_66 N x ((m : Int) - 1) A) ∧ (¬ (∀ i, j ≤ i → i < m → bOk x i) → z_PC_put_28_l N f x m j A = some (0, A))
  | r, j, 0, h1, h2 => by omega
  | 0, j, f + 1, h1, h2 => by
    refine ⟨fun _ => ?_, fun z => absurd (fun i a b => by omega) z⟩
    show z_PC_put_28_b (z_PC_put_28_l N f) N x m j A = _
    unfold z_PC_put_28_b
    rw [if_neg (by omega), yb_w (by omega) (by omega)]
  | r + 1, j, f + 1, h1, h2 => by
    have eq : z_PC_put_28_l N (f + 1) x m j A = if byt x j < 32 then some (0, A) else if 126 < byt x j then some (0, A) else z_PC_put_28_l N f x m ((j + 1 : Nat) : Int) A := by
      show z_PC_put_28_b (z_PC_put_28_l N f) N x m j A = _
      unfold z_PC_put_28_b z_PC_byteOf
      have eb : zan (zuh x (8 * (j : Int))) 255 = byt x j := byt_e x (by omega)
      rw [if_pos (by omega), zbP_s, eb, show zw ((j : Int) + 1) = ((j + 1 : Nat) : Int) by rw [yb_w (by omega) (by omega)]; omega]
    obtain ⟨i1, i2⟩ := c_p28 hm r (j + 1) f (by omega) (by omega)
    rw [eq]
    refine ⟨fun z => ?_, fun z => ?_⟩
    · have := z j (Nat.le_refl _) (by omega)
      unfold bOk at this
      rw [if_neg (by omega), if_neg (by omega)]
      exact i1 (fun i a b => z i (by omega) b)
    · by_cases c1 : byt x j < 32
      · rw [if_pos c1]
      · by_cases c2 : 126 < byt x j
        · rw [if_neg c1, if_pos c2]
        · rw [if_neg c1, if_neg c2]
          refine i2 (fun q => z (fun i a b => ?_))
          by_cases e : i = j
          · rw [e]; exact ⟨by omega, by omega⟩
          · exact q i (by omega) b
theorem c_put (hN : 300000 ≤ N) (hO : Own A) (h : TXc A Tx L) (hL : L ≤ 120) : (mayP x n L → ∃ B, z_PC_put N x n A = some (1, B) ∧ TXc B (pT x n.toNat Tx L) (L + n.toNat) ∧ cF [5, 6] A B) ∧ (¬ mayP x n L → z_PC_put N x n A = some (0, A)) := by
  unfold z_PC_put
  rw [h.1]
  by_cases c1 : n < 1
  · rw [if_pos c1]
    exact ⟨fun z => absurd z.1 (by omega), fun _ => rfl⟩
  by_cases c2 : 4 < n
  · rw [if_neg c1, if_pos c2]
    exact ⟨fun z => absurd z.2.1 (by omega), fun _ => rfl⟩
  rw [if_neg c1, if_neg c2, yb_w (by omega) (by omega)]
  by_cases c3 : 120 < (L : Int) + n
  · rw [if_pos c3]
    exact ⟨fun z => absurd z.2.2.1 (by omega), fun _ => rfl⟩
  rw [if_neg c3]
  obtain ⟨m, rfl⟩ : ∃ m : Nat, n = m := ⟨n.toNat, by omega⟩
  obtain ⟨i1, i2⟩ := c_p28 (N := N) (A := A) (x := x) (m := m) (by omega) m 0 N (by omega) (by omega)
  refine ⟨fun z => ?_, fun z => i2 (fun q => z ⟨by omega, by omega, by omega, fun i hi => q i (Nat.zero_le _) (by omega)⟩)⟩
  have i1 := i1 (fun i _ b => z.2.2.2 i (by omega))
  have i1 : z_PC_put_28 N x m 0 A = _ := i1
  rw [i1, Int.toNat_natCast]
  exact c_p66 m N A Tx L (by omega) (by omega) h (by omega) (fun i hi => z.2.2.2 i (by omega)) hO
theorem r_p73 : ∀ (r f : Nat) (A : zA) (Tx : Nat → Int) (L : Nat), r < f → r ≤ 4 → TXr A Tx L → L + r ≤ 120 → ∃ B, z_M_put_73_l N f x ((r : Int) - 1) A = some (1, B) ∧ TXr B (pT x r Tx L) (L + r) ∧ fr (fun a j => (a = 226 ∧ j = 1) ∨ a = 227) A B
  | r, 0, A, Tx, L, hf, _, _, _ => by omega
  | 0, f + 1, A, Tx, L, hf, _, h, hL => by
    show ∃ B, z_M_put_73_b (z_M_put_73_l N f) N x _ A = _ ∧ _
    unfold z_M_put_73_b
    rw [if_pos (by omega)]
    exact ⟨A, rfl, ⟨h.1, fun k hk => by unfold pT; rw [if_neg (by omega)]; exact h.2 k hk⟩, fr.refl _ _⟩
  | r + 1, f + 1, A, Tx, L, hf, hr, h, hL => by
    show ∃ B, z_M_put_73_b (z_M_put_73_l N f) N x _ A = _ ∧ _
    unfold z_M_put_73_b
    have br := byt_rg (zhr x (8 * (r : Int)))
    have br : 0 ≤ byt x r ∧ byt x r ≤ 255 := br
    have eb : zan (zhr x (8 * (((r + 1 : Nat) : Int) - 1))) 255 = byt x r := by
      rw [show ((r + 1 : Nat) : Int) - 1 = (r : Int) by omega]
      rfl
    rw [if_neg (by omega), eb, h.1, zwr_ok (by omega) (by omega), zlet_s]
    have f1 : fr (fun a _ => a = 227) A (rs A 227 (L : Int) (byt x r)) := fr_rs rfl
    have f2 : fr (fun a j => a = 226 ∧ j = 1) (rs A 227 (L : Int) (byt x r)) (zsi (rs A 227 (L : Int) (byt x r)) 226 1 (zi (rs A 227 (L : Int) (byt x r)) 226 1 + 1)) := fr_si ⟨rfl, rfl⟩
    have hB : TXr (zsi (rs A 227 (L : Int) (byt x r)) 226 1 (zi (rs A 227 (L : Int) (byt x r)) 226 1 + 1)) (fU Tx L (byt x r)) (L + 1) := by
      refine ⟨?_, fun k hk => ?_⟩
      · rw [zi_si_s, f1.i (fun z => by omega), h.1, yb_w (by omega) (by omega)]; omega
      · rw [f2.e (fun z => by omega), ri_rs (by omega) (by omega)]
        unfold fU
        by_cases e : k = L
        · rw [if_pos (by omega), if_pos e, yb_w (by omega) (by omega)]
        · rw [if_neg (by omega), if_neg e]
          exact h.2 k (by omega)
    obtain ⟨C, c1, c2, c3⟩ := r_p73 r f _ _ _ (by omega) (by omega) hB (by omega)
    rw [yb_w (by omega) (by omega), show ((r + 1 : Nat) : Int) - 1 + -1 = (r : Int) - 1 by omega, c1]
    refine ⟨C, rfl, ⟨?_, fun k hk => ?_⟩, ((f1.mono (fun a j z => Or.inr z)).trans (f2.mono (fun a j z => Or.inl z))).trans c3⟩
    · rw [c2.1]; omega
    · rw [c2.2 k (by omega)]
      exact pT_s (by omega)
theorem r_p30 {m : Nat} (hm : m ≤ 4) : ∀ (r j f : Nat), j + r = m → r < f → ((∀ i, j ≤ i → i < m → bOk x i) → z_M_put_30_l N f x m j A = z_M_put_73 N x ((m : Int) - 1) A) ∧ (¬ (∀ i, j ≤ i → i < m → bOk x i) → z_M_put_30_l N f x m j A = some (0, A))
  | r, j, 0, h1, h2 => by omega
  | 0, j, f + 1, h1, h2 => by
    refine ⟨fun _ => ?_, fun z => absurd (fun i a b => by omega) z⟩
    show z_M_put_30_b (z_M_put_30_l N f) N x m j A = _
    unfold z_M_put_30_b
    rw [if_neg (by omega), yb_w (by omega) (by omega)]
  | r + 1, j, f + 1, h1, h2 => by
    have eq : z_M_put_30_l N (f + 1) x m j A = if byt x j < 32 then some (0, A) else if 126 < byt x j then some (0, A) else z_M_put_30_l N f x m ((j + 1 : Nat) : Int) A := by
      show z_M_put_30_b (z_M_put_30_l N f) N x m j A = _
      unfold z_M_put_30_b
      rw [if_pos (by omega), show zw ((j : Int) + 1) = ((j + 1 : Nat) : Int) by rw [yb_w (by omega) (by omega)]; omega]
      rfl
    obtain ⟨i1, i2⟩ := r_p30 hm r (j + 1) f (by omega) (by omega)
    rw [eq]
    refine ⟨fun z => ?_, fun z => ?_⟩
    · have := z j (Nat.le_refl _) (by omega)
      unfold bOk at this
      rw [if_neg (by omega), if_neg (by omega)]
      exact i1 (fun i a b => z i (by omega) b)
    · by_cases c1 : byt x j < 32
      · rw [if_pos c1]
      · by_cases c2 : 126 < byt x j
        · rw [if_neg c1, if_pos c2]
        · rw [if_neg c1, if_neg c2]
          refine i2 (fun q => z (fun i a b => ?_))
          by_cases e : i = j
          · rw [e]; exact ⟨by omega, by omega⟩
          · exact q i (by omega) b
theorem r_put (hN : 300000 ≤ N) (h : TXr A Tx L) (hL : L ≤ 120) : (mayP x n L → ∃ B, z_M_put N x n A = some (1, B) ∧ TXr B (pT x n.toNat Tx L) (L + n.toNat) ∧ fr (fun a j => (a = 226 ∧ j ≤ 1) ∨ a = 227) A B) ∧ (¬ mayP x n L → z_M_put N x n A = some (0, zsi A 226 0 0)) := by
  unfold z_M_put
  have f0 : fr (fun a j => a = 226 ∧ j = 0) A (zsi A 226 0 0) := fr_si ⟨rfl, rfl⟩
  have h0 : TXr (zsi A 226 0 0) Tx L := ⟨by rw [f0.i (fun z => by omega)]; exact h.1, fun k hk => by rw [f0.e (fun z => by omega)]; exact h.2 k hk⟩
  rw [zlet_s, h0.1]
  by_cases c1 : n < 1
  · rw [if_pos c1]
    exact ⟨fun z => absurd z.1 (by omega), fun _ => rfl⟩
  by_cases c2 : 4 < n
  · rw [if_neg c1, if_pos c2]
    exact ⟨fun z => absurd z.2.1 (by omega), fun _ => rfl⟩
  rw [if_neg c1, if_neg c2, yb_w (by omega) (by omega)]
  by_cases c3 : 120 < (L : Int) + n
  · rw [if_pos c3]
    exact ⟨fun z => absurd z.2.2.1 (by omega), fun _ => rfl⟩
  rw [if_neg c3]
  obtain ⟨m, rfl⟩ : ∃ m : Nat, n = m := ⟨n.toNat, by omega⟩
  obtain ⟨i1, i2⟩ := r_p30 (N := N) (A := zsi A 226 0 0) (x := x) (m := m) (by omega) m 0 N (by omega) (by omega)
  refine ⟨fun z => ?_, fun z => i2 (fun q => z ⟨by omega, by omega, by omega, fun i hi => q i (Nat.zero_le _) (by omega)⟩)⟩
  have i1 := i1 (fun i _ b => z.2.2.2 i (by omega))
  have i1 : z_M_put_30 N x m 0 (zsi A 226 0 0) = _ := i1
  rw [i1, Int.toNat_natCast]
  obtain ⟨B, b1, b2, b3⟩ := r_p73 (N := N) (x := x) m N (zsi A 226 0 0) Tx L (by omega) (by omega) h0 (by omega)
  exact ⟨B, b1, b2, (f0.mono (fun a j z => Or.inl ⟨z.1, by omega⟩)).trans (b3.mono (fun a j z => by omega))⟩
end
