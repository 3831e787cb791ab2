/-! the cells behind the constructors: written by wip/mj/genz1.py -/
def zs1 (j : Nat) : Int32 := mp_s1v.getD j 0
def zs2 (j : Nat) : Int32 := mp_s2v.getD j 0
def zs3 (j : Nat) : Int32 := mp_s3v.getD j 0
/-- what lasts from the constructors on -/
def zFin (A : zA) : Prop := (∀ a s, zsh a = some s → A.1[a]? = some s) ∧ (∀ a j r, zfr a j = some r → zmr A a j = some r) ∧ (∀ j, zmi A 1 j = zs1 j) ∧ (∀ j, zmi A 2 j = zs2 j) ∧ (∀ j, zmi A 3 j = zs3 j) ∧ (∃ n, A.1[0]? = some (true, 0, n)) ∧ (∀ (a : Nat) (s : zK), A.1[a]? = some s → s.2.2 ≤ 1000000)
theorem zFin.sh {A : zA} (h : zFin A) {a : Nat} {s : zK} (hs : zsh a = some s) : A.1[a]? = some s := h.1 a s hs
theorem zFin.fr {A : zA} (h : zFin A) {a j r : Nat} (hs : zfr a j = some r) : zmr A a j = some r := h.2.1 a j r hs
theorem zFin.sz {A : zA} (h : zFin A) {a : Nat} {s : zK} (hs : A.1[a]? = some s) : s.2.2 ≤ 1000000 := h.2.2.2.2.2.2 a s hs
theorem zFin.len {A : zA} (h : zFin A) : 296 ≤ A.1.length := by
  have := h.sh (a := 295) (s := (true, 1, 1)) (by decide)
  have := (List.getElem?_eq_some_iff.mp this).1
  omega
theorem zFin.si {A : zA} (h : zFin A) {a j : Nat} {z : Int} (ha : 4 ≤ a) : zFin (zsi A a j z) := by
  obtain ⟨h1, h2, h3, h4, h5, h6, h7⟩ := h
  refine ⟨h1, h2, ?_, ?_, ?_, h6, h7⟩
  · intro k; rw [← h3 k]; simp only [zmi, zsi, zup]; rw [if_neg (by omega)]
  · intro k; rw [← h4 k]; simp only [zmi, zsi, zup]; rw [if_neg (by omega)]
  · intro k; rw [← h5 k]; simp only [zmi, zsi, zup]; rw [if_neg (by omega)]
theorem zFin.sl {A : zA} (h : zFin A) {a j : Nat} {z : Int64} : zFin (zsl A a j z) := h
theorem zFin.sr {A : zA} (h : zFin A) {a j : Nat} {r : Option Nat} (hn : zfr a j = none) : zFin (zsr A a j r) := by
  obtain ⟨h1, h2, h3, h4, h5, h6, h7⟩ := h
  refine ⟨h1, ?_, h3, h4, h5, h6, h7⟩
  intro b k q hq
  rw [← h2 b k q hq]
  simp only [zmr, zsr, zup]
  rw [if_neg]
  rintro ⟨rfl, rfl⟩
  rw [hn] at hq; cases hq
theorem zfr_lt {a j r : Nat} (h : zfr a j = some r) : a < 296 := by
  by_cases e : a < 296
  · exact e
  · exfalso
    have hb : ∀ n, n < 296 → Nat.blt a n = false := fun n hn => by
      cases q : Nat.blt a n with
      | false => rfl
      | true => have := Nat.blt_eq.mp q; omega
    have hq : ∀ n, n < 296 → Nat.beq a n = false := fun n hn => by
      cases q : Nat.beq a n with
      | false => rfl
      | true => have := Nat.eq_of_beq_eq_true q; omega
    unfold zfr at h
    simp only [hb _ (by decide : (226 : Nat) < 296), hb, hq, cond_false] at h
    simp [hb, hq] at h
theorem zFin.nw {A : zA} (h : zFin A) (s : zK) (hs : s.2.2 ≤ 1000000) : zFin (znw A s) := by
  have hl := h.len
  obtain ⟨h1, h2, h3, h4, h5, ⟨n, h6⟩, h7⟩ := h
  refine ⟨?_, ?_, ?_, ?_, ?_, ⟨n, ?_⟩, ?_⟩
  · intro a t ht
    have := h1 a t ht
    have hlt := (List.getElem?_eq_some_iff.mp this).1
    simp only [znw]
    rw [List.getElem?_append_left hlt, this]
  · intro a j r hr
    have := zfr_lt hr
    rw [← h2 a j r hr]
    simp only [zmr, znw]
    rw [if_neg (by omega)]
  · intro k; rw [← h3 k]; simp only [zmi, znw]; rw [if_neg (by omega)]
  · intro k; rw [← h4 k]; simp only [zmi, znw]; rw [if_neg (by omega)]
  · intro k; rw [← h5 k]; simp only [zmi, znw]; rw [if_neg (by omega)]
  · simp only [znw]
    rw [List.getElem?_append_left (by omega), h6]
  · intro a t ht
    simp only [znw, List.getElem?_append] at ht
    split at ht
    · exact h7 a t ht
    · cases q : a - A.1.length with
      | zero => rw [q] at ht; cases ht; exact hs
      | succ m => rw [q] at ht; cases ht
theorem zFin.cp {A : zA} (h : zFin A) {a sp b dp n : Nat} (hb : 4 ≤ b) : zFin (zcp A a sp b dp n) := by
  obtain ⟨h1, h2, h3, h4, h5, h6, h7⟩ := h
  refine ⟨h1, h2, ?_, ?_, ?_, h6, h7⟩
  · intro k; rw [← h3 k]; simp only [zmi, zcp]; rw [if_neg (by omega)]
  · intro k; rw [← h4 k]; simp only [zmi, zcp]; rw [if_neg (by omega)]
  · intro k; rw [← h5 k]; simp only [zmi, zcp]; rw [if_neg (by omega)]
/-! runs -/
def zW (d w mi pc : Nat) (L : zLs) (S : List zV) (A : zA) (Q : zO → zA → Prop) : Prop := zFin A → ∃ (n : Nat) (o : zO) (A1 : zA), mj_ex mp_P 4 n d w mi pc (zL L) (zS S) (zhp A) = some (zo o, zhp A1) ∧ zFin A1 ∧ Q o A1
def zG {R : Type} (F : Option R) (P : R → zO → zA → Prop) (d w mi pc : Nat) (L : zLs) (S : List zV) (A : zA) : Prop := ∀ r, F = some r → zW d w mi pc L S A (P r)
def zpl (i : Instr) : Bool := match i with
  | .return_ => false
  | .ireturn => false
  | .lreturn => false
  | .areturn => false
  | .ret _ => false
  | .invokestatic _ => false
  | _ => true
theorem zbody_i {P : mj_Pr} {nT d w mi pc len pc1 : Nat} {i : Instr} {L L1 : mj_L} {S S1 : List Value} {h h1 : mj_H} {go : Nat → Nat → Nat → Nat → mj_L → List Value → mj_H → Option (mj_O × mj_H)} (hc : P.code mi pc = some (i, len)) (hn : zpl i = true) (hi : mj_i P nT i (pc + len) L S h = some (pc1, L1, S1, h1)) : mj_body P nT go d w mi pc L S h = go d w mi pc1 L1 S1 h1 := by
  unfold mj_body
  rw [hc]
  simp only
  split <;> first | (exfalso; simp [zpl] at hn; done) | skip
  rw [hi]
theorem zW_i {d w mi pc len pc1 : Nat} {i : Instr} {L L1 : zLs} {S S1 : List zV} {A A1 : zA} {Q : zO → zA → Prop} (hc : mp_code mi pc = some (i, len)) (hn : zpl i = true) (hi : zFin A → mj_i mp_P 4 i (pc + len) (zL L) (zS S) (zhp A) = some (pc1, zL L1, zS S1, zhp A1) ∧ zFin A1) (k : zW d w mi pc1 L1 S1 A1 Q) : zW d w mi pc L S A Q := by
  intro hf
  obtain ⟨hi, hf1⟩ := hi hf
  obtain ⟨n, o, A2, hr, h2⟩ := k hf1
  refine ⟨n + 1, o, A2, ?_, h2⟩
  show mj_body mp_P 4 (mj_ex mp_P 4 n) d w mi pc (zL L) (zS S) (zhp A) = _
  rw [zbody_i (P := mp_P) (h1 := zhp A1) hc hn hi]
  exact hr
