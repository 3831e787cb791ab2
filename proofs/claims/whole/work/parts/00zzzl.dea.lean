/-! DEAD: bits -/
theorem bt_or (v w : Int64) (i : Nat) : bt (v ||| w) i = (bt v i || bt w i) := by
  unfold bt
  rw [Int64.toBitVec_or, BitVec.getLsbD_or]
theorem bt_one {r i : Nat} (hr : r < 64) (hi : i < 64) : bt (zlsl (Int64.ofNat 1) r) i = Nat.beq i r := by
  unfold bt
  have h1 : (Int64.ofNat 1).toBitVec = 1#64 := by decide
  rw [zlsl_bv _ hr, h1, BitVec.getLsbD_shiftLeft, BitVec.getLsbD_one]
  by_cases c : i = r
  · subst c
    simp [hi]
  · have hb : Nat.beq i r = false := by
      cases q : Nat.beq i r with
      | false => rfl
      | true => exact absurd (Nat.eq_of_beq_eq_true q) c
    rw [hb]
    by_cases c2 : i < r
    · simp [hi, c2]
    · have : ¬ i - r = 0 := by omega
      simp [hi, this]
theorem bt_63 : ∀ i : Fin 64, bt (Int64.ofNat 63) i.val = Nat.blt i.val 6 := by decide
theorem bt_0 : ∀ i : Fin 64, bt (Int64.ofNat 0) i.val = false := by decide
theorem bt_ext {v w : Int64} (h : ∀ i, i < 64 → bt v i = bt w i) : v = w := by
  apply Int64.toBitVec_inj.mp
  apply BitVec.eq_of_getLsbD_eq
  intro i hi
  exact h i hi
theorem and1 (v : BitVec 64) : (v &&& 1#64) = 0#64 ↔ v.getLsbD 0 = false := by
  constructor
  · intro h
    have h2 : (v &&& 1#64).getLsbD 0 = (0#64).getLsbD 0 := by rw [h]
    rw [BitVec.getLsbD_and] at h2
    simpa using h2
  · intro h
    apply BitVec.eq_of_getLsbD_eq
    intro i hi
    rw [BitVec.getLsbD_and, BitVec.getLsbD_one]
    by_cases c : i = 0
    · subst c; rw [h, Bool.false_and]; simp
    · simp [c]
theorem cbit0 (v : Int64) {r : Nat} (hr : r < 64) : (lg_cmp ((zlsr v r) &&& (Int64.ofNat 1)) (Int64.ofNat 0)).toInt = 0 ↔ bt v r = false := by
  rw [lg_cmp_z]
  have h1 : (Int64.ofNat 1).toBitVec = 1#64 := by decide
  have h0 : (Int64.ofNat 0).toBitVec = 0#64 := by decide
  rw [← Int64.toBitVec_inj, Int64.toBitVec_and, h1, h0, and1, zlsr_bv v hr, BitVec.getLsbD_sshiftRight]
  unfold bt
  simp [hr]
theorem zus64 : ∀ r : Fin 64, ((Int32.ofInt (r.val : Int)).toInt64.toUInt64 &&& Int64.toUInt64 63).toBitVec % 64 = BitVec.ofNat 64 r.val := by decide
theorem zlus_bv (v : Int64) {r : Nat} (hr : r < 64) : (zlus v r).toBitVec = v.toBitVec >>> r := by
  unfold zlus
  have e := zus64 ⟨r, hr⟩
  dsimp only at e
  show (v.toUInt64 >>> ((Int32.ofInt (r : Int)).toInt64.toUInt64 &&& Int64.toUInt64 63)).toBitVec = _
  rw [UInt64.toBitVec_shiftRight, e, BitVec.ushiftRight_eq', BitVec.toNat_ofNat, Nat.mod_eq_of_lt (by omega)]
  rfl
theorem cbit0' (v : Int64) {r : Nat} (hr : r < 64) : (lg_cmp ((zlus v r) &&& (Int64.ofNat 1)) (Int64.ofNat 0)).toInt = 0 ↔ bt v r = false := by
  rw [lg_cmp_z]
  have h1 : (Int64.ofNat 1).toBitVec = 1#64 := by decide
  have h0 : (Int64.ofNat 0).toBitVec = 0#64 := by decide
  rw [← Int64.toBitVec_inj, Int64.toBitVec_and, h1, h0, and1, zlus_bv v hr, BitVec.getLsbD_ushiftRight]
  unfold bt
  simp
/-! what is needed ahead of an item -/
def rdB (i : It) : Nat → Int64
  | 0 => Int64.ofNat 0
  | n + 1 => rdB i n ||| zlsl (Int64.ofNat 1) (ig i ((frk i.1).toNat + n + 1))
def rdI (i : It) : Int64 := rdB i (rdk i.1).toNat
noncomputable def nF (X : List It) (V : Nat → Int64) (k : Nat) : Int64 :=
  if (itm X k).1 = 7 then (V (k + 1) ||| Int64.ofNat 63) ||| rdI (itm X k)
  else if (itm X k).1 = 8 ∨ (itm X k).1 = 11 then (V (k + 1) ||| V (mtL X k + 1)) ||| rdI (itm X k)
  else if (itm X k).1 = 9 then V (mtL X k)
  else if (itm X k).1 = 12 then (if (itm X (mtL X k)).1 = 10 then V (mtL X k) else V (k + 1))
  else if wri (itm X k) < 0 then V (k + 1) ||| rdI (itm X k)
  else cif (hrm (itm X k) ∧ bt (V (k + 1)) (wri (itm X k)).toNat = false) (V (k + 1)) ((V (k + 1) &&& (zlsl (Int64.ofNat 1) (wri (itm X k)) ^^^ Int64.ofNat 18446744073709551615)) ||| rdI (itm X k))
def bl (v w : Int64) : Prop := ∀ i, i < 64 → bt v i = true → bt w i = true
def hi6 (v : Int64) : Prop := ∀ i, 60 ≤ i → i < 64 → bt v i = false
theorem bl_refl (v : Int64) : bl v v := fun _ _ h => h
theorem bl_or {v w v' w' : Int64} (h : bl v v') (g : bl w w') : bl (v ||| w) (v' ||| w') := fun i hi q => by
  rw [bt_or, Bool.or_eq_true] at q ⊢
  exact q.elim (fun z => Or.inl (h i hi z)) (fun z => Or.inr (g i hi z))
theorem hi_or {v w : Int64} (h : hi6 v) (g : hi6 w) : hi6 (v ||| w) := fun i h1 h2 => by
  rw [bt_or, h i h1 h2, g i h1 h2]; rfl
section
variable {X : List It} {V W : Nat → Int64} {T p h k : Nat}
theorem wri_rg {i : It} (ho : okI T p h i) (hh : h ≤ 60) (hw : ¬ wri i < 0) : ∃ d : Nat, wri i = d ∧ d < 60 := by
  obtain ⟨o1, o2, o3, -⟩ := ho
  have hvk := nbk_v o1 o2
  unfold wri at hw ⊢
  by_cases c : i.1 ≤ 3 ∨ i.1 = 5
  · rw [if_pos c] at hw ⊢
    obtain ⟨a1, a2, a3⟩ := o3 0 (by omega)
    have := a3 ⟨by omega, by omega, by omega⟩
    exact ⟨(ig i 1).toNat, by omega, by
      have : ig i (0 + 1) < h := this.2
      have : ig i 1 < h := this
      omega⟩
  · rw [if_neg c] at hw
    omega
theorem rd_rg {i : It} (ho : okI T p h i) (hh : h ≤ 60) {n : Nat} (hn : (n : Int) < rdk i.1) : (frk i.1).toNat + n < nbk i.1 ∧ isr i.1 ((frk i.1).toNat + n) ∧ ∃ d : Nat, ig i ((frk i.1).toNat + n + 1) = d ∧ d < 60 := by
  obtain ⟨o1, o2, o3, -⟩ := ho
  have hvk := nbk_v o1 o2
  have h1 : (frk i.1).toNat + n < nbk i.1 := by
    unfold rdk at hn
    unfold frk
    repeat' split at hn
    all_goals repeat' split
    all_goals omega
  have h2 : isr i.1 ((frk i.1).toNat + n) := by
    unfold isr
    unfold rdk at hn
    unfold frk
    repeat' split at hn
    all_goals repeat' split
    all_goals omega
  obtain ⟨a1, a2, a3⟩ := o3 _ h1
  have := a3 h2
  exact ⟨h1, h2, (ig i ((frk i.1).toNat + n + 1)).toNat, by omega, by omega⟩
theorem rdB_hi {i : It} (ho : okI T p h i) (hh : h ≤ 60) : ∀ n : Nat, (n : Int) ≤ rdk i.1 → hi6 (rdB i n) := by
  intro n
  induction n with
  | zero => exact fun _ j h1 h2 => bt_0 ⟨j, h2⟩
  | succ n ih =>
    intro hn
    obtain ⟨-, -, d, hd, hd6⟩ := rd_rg ho hh (n := n) (by omega)
    refine hi_or (ih (by omega)) (fun j h1 h2 => ?_)
    rw [hd, bt_one (by omega) h2]
    cases q : Nat.beq j d with
    | false => rfl
    | true => have := Nat.eq_of_beq_eq_true q; omega
theorem rdk_0 (k : Int) : 0 ≤ rdk k ∧ rdk k ≤ 2 := by unfold rdk; repeat' split <;> omega
theorem rdI_hi {i : It} (ho : okI T p h i) (hh : h ≤ 60) : hi6 (rdI i) := rdB_hi ho hh _ (by have := rdk_0 i.1; omega)
theorem nF_mono (ho : okI T p h (itm X k)) (hh : h ≤ 60) (hv : ∀ q, bl (V q) (W q)) : bl (nF X V k) (nF X W k) := by
  unfold nF
  by_cases c7 : (itm X k).1 = 7
  · rw [if_pos c7, if_pos c7]
    exact bl_or (bl_or (hv _) (bl_refl _)) (bl_refl _)
  rw [if_neg c7, if_neg c7]
  by_cases c8 : (itm X k).1 = 8 ∨ (itm X k).1 = 11
  · rw [if_pos c8, if_pos c8]
    exact bl_or (bl_or (hv _) (hv _)) (bl_refl _)
  rw [if_neg c8, if_neg c8]
  by_cases c9 : (itm X k).1 = 9
  · rw [if_pos c9, if_pos c9]
    exact hv _
  rw [if_neg c9, if_neg c9]
  by_cases c12 : (itm X k).1 = 12
  · rw [if_pos c12, if_pos c12]
    by_cases c10 : (itm X (mtL X k)).1 = 10
    · rw [if_pos c10, if_pos c10]; exact hv _
    · rw [if_neg c10, if_neg c10]; exact hv _
  rw [if_neg c12, if_neg c12]
  by_cases cw : wri (itm X k) < 0
  · rw [if_pos cw, if_pos cw]
    exact bl_or (hv _) (bl_refl _)
  rw [if_neg cw, if_neg cw]
  obtain ⟨d, hd, hd6⟩ := wri_rg ho hh cw
  rw [hd, Int.toNat_natCast]
  by_cases c1 : hrm (itm X k) ∧ bt (V (k + 1)) d = false
  · rw [cif_pos c1]
    by_cases c2 : hrm (itm X k) ∧ bt (W (k + 1)) d = false
    · rw [cif_pos c2]; exact hv _
    · rw [cif_neg c2]
      intro i hi q
      rw [bt_or, bt_clear _ (by omega) hi, hv _ i hi q]
      have : Nat.beq i d = false := by
        cases z : Nat.beq i d with
        | false => rfl
        | true => rw [Nat.eq_of_beq_eq_true z, c1.2] at q; cases q
      rw [this]
      rfl
  · rw [cif_neg c1, cif_neg (fun c2 => c1 ⟨c2.1, by
      cases z : bt (V (k + 1)) d with
      | false => rfl
      | true => rw [hv _ d (by omega) z] at c2; exact absurd c2.2 (by decide)⟩)]
    intro i hi q
    rw [bt_or, Bool.or_eq_true, bt_clear _ (by omega) hi, Bool.and_eq_true] at q ⊢
    exact q.elim (fun z => Or.inl ⟨hv _ i hi z.1, z.2⟩) Or.inr
theorem nF_hi (ho : okI T p h (itm X k)) (hh : h ≤ 60) (hv : ∀ q, hi6 (V q)) : hi6 (nF X V k) := by
  have hr := rdI_hi ho hh
  unfold nF
  by_cases c7 : (itm X k).1 = 7
  · rw [if_pos c7]
    refine hi_or (hi_or (hv _) (fun j h1 h2 => ?_)) hr
    rw [bt_63 ⟨j, h2⟩]
    cases q : Nat.blt j 6 with
    | false => rfl
    | true => have := Nat.blt_eq.mp q; omega
  rw [if_neg c7]
  by_cases c8 : (itm X k).1 = 8 ∨ (itm X k).1 = 11
  · rw [if_pos c8]
    exact hi_or (hi_or (hv _) (hv _)) hr
  rw [if_neg c8]
  by_cases c9 : (itm X k).1 = 9
  · rw [if_pos c9]; exact hv _
  rw [if_neg c9]
  by_cases c12 : (itm X k).1 = 12
  · rw [if_pos c12]
    by_cases c10 : (itm X (mtL X k)).1 = 10
    · rw [if_pos c10]; exact hv _
    · rw [if_neg c10]; exact hv _
  rw [if_neg c12]
  by_cases cw : wri (itm X k) < 0
  · rw [if_pos cw]; exact hi_or (hv _) hr
  rw [if_neg cw]
  obtain ⟨d, hd, hd6⟩ := wri_rg ho hh cw
  rw [hd, Int.toNat_natCast]
  by_cases c1 : hrm (itm X k) ∧ bt (V (k + 1)) d = false
  · rw [cif_pos c1]; exact hv _
  · rw [cif_neg c1]
    refine hi_or (fun j h1 h2 => ?_) hr
    rw [bt_clear _ (by omega) h2, hv _ j h1 h2]
    rfl
end
/-! a sweep from behind; rounds of sweeps -/
def udV (V : Nat → Int64) (k : Nat) (v : Int64) : Nat → Int64 := fun q => if q = k then v else V q
noncomputable def d1 (X : List It) (s : (Nat → Int64) × Int) (k : Nat) : (Nat → Int64) × Int := (udV s.1 k (nF X s.1 k), if s.2 = 0 ∧ nF X s.1 k = s.1 k then 0 else 1)
noncomputable def dsw (X : List It) (V : Nat → Int64) : Nat → (Nat → Int64) × Int
  | 0 => (V, 0)
  | j + 1 => d1 X (dsw X V j) (X.length - 1 - j)
noncomputable def dR (X : List It) (c : Int64) : Nat → (Nat → Int64)
  | 0 => fun q => if q = X.length then c else Int64.ofNat 0
  | n + 1 => (dsw X (dR X c n) X.length).1
noncomputable def dG (X : List It) (c : Int64) (n : Nat) : Int := (dsw X (dR X c n) X.length).2
noncomputable def dF (X : List It) (c : Int64) : Nat → Int64 := dR X c 9000
def cB (f : Nat → Bool) : Nat → Nat
  | 0 => 0
  | n + 1 => cB f n + if f n = true then 1 else 0
theorem cB_le (f : Nat → Bool) : ∀ n, cB f n ≤ n
  | 0 => Nat.le_refl _
  | n + 1 => by
    have := cB_le f n
    show cB f n + _ ≤ _
    split <;> omega
theorem cB_mono {f g : Nat → Bool} {N : Nat} (h : ∀ i, i < N → f i = true → g i = true) : ∀ n, n ≤ N → cB f n ≤ cB g n
  | 0, _ => Nat.le_refl _
  | n + 1, hn => by
    have := cB_mono h n (by omega)
    show cB f n + _ ≤ cB g n + _
    by_cases c : f n = true
    · rw [if_pos c, if_pos (h n (by omega) c)]; omega
    · rw [if_neg c]; omega
theorem cB_lt {f g : Nat → Bool} {N : Nat} (h : ∀ i, i < N → f i = true → g i = true) {m : Nat} (h1 : f m = false) (h2 : g m = true) : ∀ n, n ≤ N → m < n → cB f n < cB g n
  | 0, _, hm => absurd hm (Nat.not_lt_zero _)
  | n + 1, hn, hm => by
    show cB f n + _ < cB g n + _
    by_cases e : m = n
    · subst e
      have := cB_mono h m (by omega)
      rw [if_neg (by rw [h1]; decide), if_pos h2]; omega
    · have := cB_lt h h1 h2 n (by omega) (by omega)
      by_cases c : f n = true
      · rw [if_pos c, if_pos (h n (by omega) c)]; omega
      · rw [if_neg c]; omega
def cV (V : Nat → Int64) (n : Nat) : Nat := cB (fun i => bt (V (i / 60)) (i % 60)) (60 * n)
theorem leastP {P : Nat → Prop} : ∀ M, (∃ n, n ≤ M ∧ P n) → ∃ n, n ≤ M ∧ P n ∧ ∀ m, m < n → ¬ P m := by
  intro M
  induction M with
  | zero =>
    intro ⟨n, h1, h2⟩
    exact ⟨n, h1, h2, fun m hm => by omega⟩
  | succ M ih =>
    intro ⟨n, h1, h2⟩
    by_cases c : ∃ n, n ≤ M ∧ P n
    · obtain ⟨n, a1, a2, a3⟩ := ih c
      exact ⟨n, by omega, a2, a3⟩
    · exact ⟨n, h1, h2, fun m hm hP => c ⟨m, by omega, hP⟩⟩
section
variable {X : List It} {V : Nat → Int64} {T p h : Nat} {c : Int64}
def pfx (X : List It) (V : Nat → Int64) : Prop := (∀ k, k < X.length → bl (V k) (nF X V k)) ∧ ∀ q, hi6 (V q)
theorem d1_inv (hok : okL T p h X) (hh : h ≤ 60) {k : Nat} (hk : k < X.length) (hV : pfx X V) : pfx X (udV V k (nF X V k)) ∧ ∀ q, bl (V q) (udV V k (nF X V k) q) := by
  have g : ∀ q, bl (V q) (udV V k (nF X V k) q) := fun q => by
    unfold udV
    by_cases c : q = k
    · rw [if_pos c, c]; exact hV.1 k hk
    · rw [if_neg c]; exact bl_refl _
  refine ⟨⟨fun q hq => ?_, fun q => ?_⟩, g⟩
  · have m := nF_mono (X := X) (hok _ (itm_mem hq)) hh g
    by_cases c : q = k
    · subst c
      show bl (if q = q then _ else _) _
      rw [if_pos rfl]
      exact m
    · show bl (if q = k then _ else _) _
      rw [if_neg c]
      exact fun i hi z => m i hi (hV.1 q hq i hi z)
  · show hi6 (if q = k then _ else _)
    by_cases c : q = k
    · rw [if_pos c]; exact nF_hi (hok _ (itm_mem hk)) hh hV.2
    · rw [if_neg c]; exact hV.2 q
theorem dsw_inv (hok : okL T p h X) (hh : h ≤ 60) (hV : pfx X V) : ∀ j, j ≤ X.length → pfx X (dsw X V j).1 ∧ (∀ q, bl (V q) ((dsw X V j).1 q)) ∧ ((dsw X V j).2 = 0 → (dsw X V j).1 = V) ∧ ((dsw X V j).2 = 0 ∨ ((dsw X V j).2 = 1 ∧ ∃ q b, q < X.length ∧ b < 64 ∧ bt (V q) b = false ∧ bt ((dsw X V j).1 q) b = true)) := by
  intro j
  induction j with
  | zero => exact fun _ => ⟨hV, fun q => bl_refl _, fun _ => rfl, Or.inl rfl⟩
  | succ j ih =>
    intro hj
    obtain ⟨i1, i2, i3, i4⟩ := ih (by omega)
    obtain ⟨a1, a2⟩ := d1_inv hok hh (k := X.length - 1 - j) (by omega) i1
    generalize hW : (dsw X V j) = s at *
    have e : dsw X V (j + 1) = d1 X s (X.length - 1 - j) := by rw [← hW]; rfl
    rw [e]
    unfold d1
    refine ⟨a1, fun q i hi z => a2 q i hi (i2 q i hi z), fun z => ?_, ?_⟩
    · dsimp only at z ⊢
      by_cases cc : s.2 = 0 ∧ nF X s.1 (X.length - 1 - j) = s.1 (X.length - 1 - j)
      · rw [← i3 cc.1]
        funext q
        unfold udV
        by_cases cq : q = X.length - 1 - j
        · rw [if_pos cq, cq]; exact cc.2
        · rw [if_neg cq]
      · rw [if_neg cc] at z; exact absurd z (by decide)
    · dsimp only
      by_cases cc : s.2 = 0 ∧ nF X s.1 (X.length - 1 - j) = s.1 (X.length - 1 - j)
      · rw [if_pos cc]; exact Or.inl rfl
      · rw [if_neg cc]
        refine Or.inr ⟨rfl, ?_⟩
        rcases i4 with i4 | ⟨-, q, b, q1, q2, q3, q4⟩
        · have hne : nF X s.1 (X.length - 1 - j) ≠ s.1 (X.length - 1 - j) := fun z => cc ⟨i4, z⟩
          have hb := i1.1 (X.length - 1 - j) (by omega)
          by_cases ex : ∃ b, b < 64 ∧ bt (s.1 (X.length - 1 - j)) b = false ∧ bt (nF X s.1 (X.length - 1 - j)) b = true
          · obtain ⟨b, b1, b2, b3⟩ := ex
            refine ⟨X.length - 1 - j, b, by omega, b1, ?_, ?_⟩
            · rw [← i3 i4]; exact b2
            · unfold udV; rw [if_pos rfl]; exact b3
          · exfalso
            refine hne (bt_ext (fun i hi => ?_))
            cases z : bt (s.1 (X.length - 1 - j)) i with
            | true => exact hb i hi z
            | false =>
              cases y : bt (nF X s.1 (X.length - 1 - j)) i with
              | false => rfl
              | true => exact absurd ⟨i, hi, z, y⟩ ex
        · exact ⟨q, b, q1, q2, q3, a2 q b q2 q4⟩
theorem dR_pfx (hok : okL T p h X) (hh : h ≤ 60) (hc : c = Int64.ofNat 0 ∨ c = Int64.ofNat 63) : ∀ n, pfx X (dR X c n) := by
  intro n
  induction n with
  | zero =>
    refine ⟨fun k hk i hi z => ?_, fun q i h1 h2 => ?_⟩
    · unfold dR at z
      rw [if_neg (by omega), bt_0 ⟨i, hi⟩] at z
      cases z
    · unfold dR
      by_cases e : q = X.length
      · rw [if_pos e]
        rcases hc with hc | hc
        · rw [hc]; exact bt_0 ⟨i, h2⟩
        · rw [hc, bt_63 ⟨i, h2⟩]
          cases q : Nat.blt i 6 with
          | false => rfl
          | true => have := Nat.blt_eq.mp q; omega
      · rw [if_neg e]; exact bt_0 ⟨i, h2⟩
  | succ n ih => exact (dsw_inv hok hh ih _ (Nat.le_refl _)).1
theorem dG_01 (hok : okL T p h X) (hh : h ≤ 60) (hc : c = Int64.ofNat 0 ∨ c = Int64.ofNat 63) (n : Nat) : dG X c n = 0 ∨ dG X c n = 1 := by
  obtain ⟨-, -, -, h4⟩ := dsw_inv hok hh (dR_pfx hok hh hc n) _ (Nat.le_refl _)
  exact h4.imp id (fun z => z.1)
theorem dR_cnt (hok : okL T p h X) (hh : h ≤ 60) (hc : c = Int64.ofNat 0 ∨ c = Int64.ofNat 63) : ∀ n, (∀ m, m < n → dG X c m ≠ 0) → n ≤ cV (dR X c n) X.length := by
  intro n
  induction n with
  | zero => exact fun _ => Nat.zero_le _
  | succ n ih =>
    intro hm
    have := ih (fun m h => hm m (by omega))
    obtain ⟨h1, h2, h3, h4⟩ := dsw_inv hok hh (dR_pfx hok hh hc n) _ (Nat.le_refl _)
    have hn := hm n (by omega)
    unfold dG at hn
    rcases h4 with h4 | ⟨-, q, b, q1, q2, q3, q4⟩
    · exact absurd h4 hn
    · have hb : b < 60 := by
        by_cases cb : b < 60
        · exact cb
        · have := h1.2 q b (by omega) q2
          rw [this] at q4; cases q4
      have e1 : (60 * q + b) / 60 = q := by omega
      have e2 : (60 * q + b) % 60 = b := by omega
      have := cB_lt (f := fun i => bt (dR X c n (i / 60)) (i % 60)) (g := fun i => bt (dR X c (n + 1) (i / 60)) (i % 60)) (N := 60 * X.length) (fun i hi z => h2 _ _ (by omega) z) (m := 60 * q + b) (by rw [e1, e2]; exact q3) (by rw [e1, e2]; exact q4) (60 * X.length) (Nat.le_refl _) (by omega)
      have l1 : cV (dR X c n) X.length < cV (dR X c (n + 1)) X.length := this
      omega
theorem dR_stop (hok : okL T p h X) (hh : h ≤ 60) (hc : c = Int64.ofNat 0 ∨ c = Int64.ofNat 63) {n : Nat} (h0 : dG X c n = 0) : ∀ j, dR X c (n + j) = dR X c n := by
  have h1 : dR X c (n + 1) = dR X c n := (dsw_inv hok hh (dR_pfx hok hh hc n) _ (Nat.le_refl _)).2.2.1 h0
  intro j
  induction j with
  | zero => rfl
  | succ j ih =>
    show (dsw X (dR X c (n + j)) X.length).1 = _
    rw [ih]
    exact h1
/-- within 9000 rounds it stands still -/
theorem dR_end (hok : okL T p h X) (hh : h ≤ 60) (hl : X.length ≤ 150) (hc : c = Int64.ofNat 0 ∨ c = Int64.ofNat 63) : ∃ n, n ≤ 9000 ∧ dG X c n = 0 ∧ (∀ m, m < n → dG X c m = 1) ∧ dR X c n = dF X c ∧ dR X c (n + 1) = dF X c := by
  have ex : ∃ n, n ≤ 9000 ∧ dG X c n = 0 := by
    by_cases e : ∃ n, n ≤ 9000 ∧ dG X c n = 0
    · exact e
    · exfalso
      have := dR_cnt hok hh hc 9001 (fun m hm z => e ⟨m, by omega, z⟩)
      have := cB_le (fun i => bt (dR X c 9001 (i / 60)) (i % 60)) (60 * X.length)
      unfold cV at *
      omega
  obtain ⟨n, n1, n2, n3⟩ := leastP 9000 ex
  have s := dR_stop hok hh hc n2
  have e1 : dF X c = dR X c n := by
    unfold dF
    have := s (9000 - n)
    rw [show n + (9000 - n) = 9000 by omega] at this
    exact this
  exact ⟨n, n1, n2, fun m hm => (dG_01 hok hh hc m).elim (fun z => absurd z (n3 m hm)) id, e1.symm, by rw [e1]; exact s 1⟩
end
/-! what is left -/
noncomputable def ddS (X : List It) (V : Nat → Int64) : Nat → List It
  | 0 => []
  | k + 1 => cif (hrm (itm X k) ∧ bt (V (k + 1)) (wri (itm X k)).toNat = false) (ddS X V k) (ddS X V k ++ [itm X k])
noncomputable def dcB (p : Nat) : Int64 := if p = 3 then Int64.ofNat 0 else Int64.ofNat 63
noncomputable def deaL (X : List It) (p : Nat) : List It := ddS X (dF X (dcB p)) X.length
noncomputable def deaQ (Q : Pr) (p : Nat) : Pr := updG Q p (deaL (Q.2.1 p) p) (Q.2.2 p)
theorem ddS_inv {X : List It} {V : Nat → Int64} : ∀ k, k ≤ X.length → (ddS X V k).length ≤ k ∧ (∀ i ∈ ddS X V k, i ∈ X) ∧ (∀ nd n, bal nd n X → bal nd n (ddS X V k ++ X.drop k)) ∧ ∀ sz, szL sz (ddS X V k ++ X.drop k) ≤ szL sz X := by
  intro k
  induction k with
  | zero => exact fun _ => ⟨Nat.le_refl _, fun i hi => absurd hi (by show ¬ i ∈ []; simp), fun nd n hb => by show bal nd n ([] ++ _); rw [List.nil_append, List.drop_zero]; exact hb, fun sz => by show szL sz ([] ++ _) ≤ _; rw [List.nil_append, List.drop_zero]; exact Nat.le_refl _⟩
  | succ k ih =>
    intro hk
    obtain ⟨i1, i2, i3, i4⟩ := ih (by omega)
    have hd : X.drop k = itm X k :: X.drop (k + 1) := by
      rw [itm_get (show k < X.length by omega)]
      exact List.drop_eq_getElem_cons (by omega)
    show (cif _ _ _ : List It).length ≤ _ ∧ (∀ i ∈ (cif _ _ _ : List It), _) ∧ (∀ nd n, _ → bal nd n ((cif _ _ _ : List It) ++ _)) ∧ ∀ sz, szL sz ((cif _ _ _ : List It) ++ _) ≤ _
    by_cases c : hrm (itm X k) ∧ bt (V (k + 1)) (wri (itm X k)).toNat = false
    · rw [cif_pos c]
      refine ⟨by omega, i2, fun nd n hb => ?_, fun sz => ?_⟩
      · have b := i3 nd n hb
        rw [hd] at b
        obtain ⟨m, m1, m2, m3⟩ := (bal_run n _ b).2 (ddS X V k) [itm X k] (X.drop (k + 1)) (by simp) (by simp) (fun i hi => by
          rw [List.mem_singleton] at hi
          rw [hi]
          have := c.1
          unfold hrm at this
          omega)
        have := m3 [] (bal_nil m)
        simpa using this
      · have := i4 sz
        rw [hd] at this
        unfold szL at *
        rw [List.map_append, List.sum_append] at *
        rw [List.map_cons, List.sum_cons] at this
        omega
    · rw [cif_neg c]
      have e : ddS X V k ++ [itm X k] ++ X.drop (k + 1) = ddS X V k ++ X.drop k := by rw [hd]; simp
      refine ⟨by rw [List.length_append]; show _ + 1 ≤ _; omega, fun i hi => ?_, fun nd n hb => by rw [e]; exact i3 nd n hb, fun sz => by rw [e]; exact i4 sz⟩
      rcases List.mem_append.mp hi with z | z
      · exact i2 i z
      · rw [List.mem_singleton.mp z]; exact itm_mem (by omega)
theorem deaL_inv {X : List It} {p : Nat} : (deaL X p).length ≤ X.length ∧ (∀ i ∈ deaL X p, i ∈ X) ∧ (∀ nd n, bal nd n X → bal nd n (deaL X p)) ∧ ∀ sz, szL sz (deaL X p) ≤ szL sz X := by
  obtain ⟨h1, h2, h3, h4⟩ := ddS_inv (X := X) (V := dF X (dcB p)) X.length (Nat.le_refl _)
  unfold deaL
  refine ⟨h1, h2, fun nd n hb => ?_, fun sz => ?_⟩
  · have := h3 nd n hb
    simpa using this
  · have := h4 sz
    simpa using this
theorem dea_ok {Q : Pr} {p : Nat} (hG : GQ Q) (hp : exP Q p) : GQ (deaQ Q p) := by
  obtain ⟨a1, a2, a3, a4⟩ := hG.1.2 p hp
  obtain ⟨h1, h2, h3, h4⟩ := deaL_inv (X := Q.2.1 p) (p := p)
  exact hG.putG hp a1 a2 (fun nd sz n _ hb => h3 nd n hb) (fun nd sz _ => h4 sz) (fun i hi => a4 i (h2 i hi))
