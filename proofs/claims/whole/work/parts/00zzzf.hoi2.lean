/-! HOIST: counts of writers; exchanges -/
noncomputable def cS (X : List It) (r : Int) (a : Nat) : Nat → Nat
  | 0 => 0
  | n + 1 => cS X r a n + cif (spl (itm X (a + n)) r) 1 0
theorem cS_s {X : List It} {r : Int} {a n : Nat} : cS X r a (n + 1) = cS X r a n + cif (spl (itm X (a + n)) r) 1 0 := rfl
theorem cif_n (p : Prop) : (p ∧ cif p (1 : Nat) 0 = 1) ∨ (¬ p ∧ cif p (1 : Nat) 0 = 0) := by
  by_cases c : p
  · exact Or.inl ⟨c, cif_pos c⟩
  · exact Or.inr ⟨c, cif_neg c⟩
theorem cS_le {X : List It} {r : Int} {a : Nat} : ∀ n, cS X r a n ≤ n
  | 0 => Nat.le_refl _
  | n + 1 => by
    have := cS_le (X := X) (r := r) (a := a) n
    rw [cS_s]
    rcases cif_n (spl (itm X (a + n)) r) with z | z <;> omega
theorem cS_add {X : List It} {r : Int} {a n : Nat} : ∀ m, cS X r a (n + m) = cS X r a n + cS X r (a + n) m
  | 0 => rfl
  | m + 1 => by
    rw [show n + (m + 1) = (n + m) + 1 by omega, cS_s, cS_add m, cS_s, show a + (n + m) = a + n + m by omega]
    omega
theorem cS_congr {X Y : List It} {r : Int} {a b : Nat} : ∀ n, (∀ j, j < n → itm X (a + j) = itm Y (b + j)) → cS X r a n = cS Y r b n
  | 0, _ => rfl
  | n + 1, h => by rw [cS_s, cS_s, cS_congr n (fun j hj => h j (by omega)), h n (by omega)]
theorem cS_0 {X : List It} {r : Int} {a : Nat} : ∀ n, cS X r a n = 0 ↔ ∀ m, a ≤ m → m < a + n → ¬ spl (itm X m) r
  | 0 => ⟨fun _ m h1 h2 => by omega, fun _ => rfl⟩
  | n + 1 => by
    have ih := cS_0 (X := X) (r := r) (a := a) n
    rw [cS_s]
    rcases cif_n (spl (itm X (a + n)) r) with ⟨z1, z2⟩ | ⟨z1, z2⟩
    · rw [z2]
      exact ⟨fun h => by omega, fun h => absurd z1 (h (a + n) (by omega) (by omega))⟩
    · rw [z2, Nat.add_zero, ih]
      refine ⟨fun h m h1 h2 => ?_, fun h m h1 h2 => h m h1 (by omega)⟩
      by_cases c : m = a + n
      · rw [c]; exact z1
      · exact h m h1 (by omega)
theorem cS_1 {X : List It} {r : Int} {a n k : Nat} (h1 : a ≤ k) (h2 : k < a + n) (hk : spl (itm X k) r) : cS X r a n = 1 ↔ ∀ m, a ≤ m → m < a + n → m ≠ k → ¬ spl (itm X m) r := by
  have e : cS X r a n = cS X r a (k - a) + (1 + cS X r (k + 1) (a + n - (k + 1))) := by
    have h3 := cS_add (X := X) (r := r) (a := a) (n := k - a) (n - (k - a))
    rw [show k - a + (n - (k - a)) = n by omega, show a + (k - a) = k by omega] at h3
    rw [h3]
    have h4 := cS_add (X := X) (r := r) (a := k) (n := 1) (n - (k - a) - 1)
    rw [show 1 + (n - (k - a) - 1) = n - (k - a) by omega] at h4
    have h5 : cS X r k 1 = 1 := by
      rw [show (1 : Nat) = 0 + 1 from rfl, cS_s, Nat.add_zero, cif_pos hk]
      rfl
    rw [h4, h5, show n - (k - a) - 1 = a + n - (k + 1) by omega]
  have z1 := cS_0 (X := X) (r := r) (a := a) (k - a)
  have z2 := cS_0 (X := X) (r := r) (a := k + 1) (a + n - (k + 1))
  rw [e]
  constructor
  · intro h m m1 m2 m3
    by_cases c : m < k
    · exact z1.mp (by omega) m m1 (by omega)
    · exact z2.mp (by omega) m (by omega) (by omega)
  · intro h
    have := z1.mpr (fun m m1 m2 => h m m1 (by omega) (by omega))
    have := z2.mpr (fun m m1 m2 => h m (by omega) (by omega) (by omega))
    omega
theorem cS_mup {X : List It} {r : Int} {t k e : Nat} (h1 : t < k) (h2 : k < e) (h3 : e ≤ X.length) : cS (mup X t k) r (t + 2) (e - (t + 2)) + cif (spl (itm X k) r) 1 0 = cS X r (t + 1) (e - (t + 1)) := by
  have hit := fun q (hq : q < X.length) => mup_itm (X := X) (t := t) (k := k) (m := q) (by omega) (by omega) hq
  have e1 := cS_add (X := X) (r := r) (a := t + 1) (n := k - t - 1) (e - k)
  have e2 := cS_add (X := X) (r := r) (a := k) (n := 1) (e - k - 1)
  have e3 := cS_add (X := mup X t k) (r := r) (a := t + 2) (n := k - t - 1) (e - k - 1)
  rw [show k - t - 1 + (e - k) = e - (t + 1) by omega, show t + 1 + (k - t - 1) = k by omega] at e1
  rw [show 1 + (e - k - 1) = e - k by omega] at e2
  rw [show k - t - 1 + (e - k - 1) = e - (t + 2) by omega, show t + 2 + (k - t - 1) = k + 1 by omega] at e3
  have c1 : cS (mup X t k) r (t + 2) (k - t - 1) = cS X r (t + 1) (k - t - 1) := cS_congr _ (fun j hj => by
    rw [hit _ (by omega), if_neg (by omega), if_neg (by omega), if_pos (by omega)]
    congr 1
    omega)
  have c2 : cS (mup X t k) r (k + 1) (e - k - 1) = cS X r (k + 1) (e - k - 1) := cS_congr _ (fun j hj => by
    rw [hit _ (by omega), if_neg (by omega), if_neg (by omega), if_neg (by omega)])
  have c3 : cS X r k 1 = cif (spl (itm X k) r) 1 0 := by
    show 0 + _ = _
    rw [Nat.zero_add]
    rfl
  rw [e3, c1, c2, e1, e2, c3]
  omega
/-- an END doesn't write -/
theorem spl_end {i : It} {r : Int} (h : 8 ≤ i.1) (hr : 0 ≤ r) : ¬ spl i r := fun z => by
  unfold spl wri at z
  rw [if_neg (by omega)] at z
  omega
theorem wri_7 {i : It} (h : i.1 = 7) : wri i = -1 := by unfold wri; rw [if_neg (by omega)]
/-- steadiness by counts -/
theorem stdy_c {X : List It} {t e k T p g : Nat} (h1 : t < k) (h2 : k < e) (he : 8 ≤ (itm X e).1) (ho : okI T p g (itm X k)) : stdy X t e k ↔ hrm (itm X k) ∧ 7 ≤ wri (itm X k) ∧ cS X (wri (itm X k)) (t + 1) (e - (t + 1)) = 1 ∧ ∀ n : Nat, (n : Int) < rdk (itm X k).1 → cS X (ig (itm X k) ((frk (itm X k).1).toNat + n + 1)) (t + 1) (e - (t + 1)) = 0 := by
  obtain ⟨o1, o2, o3, -⟩ := ho
  have hvk := nbk_v o1 o2
  unfold stdy
  constructor
  · rintro ⟨a1, a2, a3, a4⟩
    have hk7 : (itm X k).1 ≠ 7 := fun z => by rw [wri_7 z] at a2; omega
    refine ⟨a1, a2, (cS_1 (k := k) (by omega) (by omega) (Or.inr ⟨hk7, rfl⟩)).mpr (fun m m1 m2 m3 => a3 m (by omega) (by omega) m3), fun n hn => (cS_0 _).mpr (fun m m1 m2 => a4 n hn m (by omega) (by omega))⟩
  · rintro ⟨a1, a2, a3, a4⟩
    have hk7 : (itm X k).1 ≠ 7 := fun z => by rw [wri_7 z] at a2; omega
    refine ⟨a1, a2, fun m m1 m2 m3 => ?_, fun n hn m m1 m2 => ?_⟩
    · by_cases c : m = e
      · rw [c]; exact spl_end he (by omega)
      · exact (cS_1 (k := k) (by omega) (by omega) (Or.inr ⟨hk7, rfl⟩)).mp a3 m (by omega) (by omega) m3
    · by_cases c : m = e
      · rw [c]
        refine spl_end he ?_
        have rd : rdk (itm X k).1 ≤ 2 := by unfold rdk; repeat' split <;> omega
        have hwn : (frk (itm X k).1).toNat + n < nbk (itm X k).1 ∧ isr (itm X k).1 ((frk (itm X k).1).toNat + n) := by
          unfold isr
          unfold rdk at hn
          unfold frk
          repeat' split at hn
          all_goals repeat' split
          all_goals omega
        exact ((o3 _ hwn.1).2.2 hwn.2).1
      · exact (cS_0 _).mp (a4 n hn) m (by omega) (by omega)
/-! the class's exchange of any two -/
section
variable {N : Nat} {A : zA}
theorem exch_gen {o a b : Nat} (ho : pto.contains o = true) (ha : (a : Int) < cn A o) (hb : (b : Int) < cn A o) (hab : a ≠ b) (hI : PI A o) : ∀ (r m f : Nat) (B : zA), m + r = 5 → r < f → cF [o] A B → (∀ q, zi B o q = zi A o q) → (∀ f', yl B o f' = yl A o f') → (∀ (c i : Nat), i < 5 → cw B o c i = if i < m ∧ c = a then cw A o b i else if i < m ∧ c = b then cw A o a i else cw A o c i) → ∃ C, z_Pt_exchange_18_l N f o a b m B = some C ∧ cF [o] A C ∧ (∀ q, zi C o q = zi A o q) ∧ (∀ f', yl C o f' = yl A o f') ∧ (∀ (c i : Nat), i < 5 → cw C o c i = if c = a then cw A o b i else if c = b then cw A o a i else cw A o c i) := by
  have hd := pto_dy ho
  obtain ⟨p1, p2, p3, p4, p5, p6⟩ := hI
  intro r
  induction r with
  | zero =>
    intro m f B h1 h2 hF hz hl hw
    obtain ⟨g, rfl⟩ : ∃ g, f = g + 1 := ⟨f - 1, by omega⟩
    refine ⟨B, ?_, hF, hz, hl, fun c i hi => ?_⟩
    · show z_Pt_exchange_18_b (z_Pt_exchange_18_l N g) N o a b m B = _
      unfold z_Pt_exchange_18_b
      rw [if_neg (by omega)]
    · rw [hw c i hi]
      by_cases c1 : c = a
      · rw [if_pos ⟨by omega, c1⟩, if_pos c1]
      · rw [if_neg (fun z => c1 z.2), if_neg c1]
        by_cases c2 : c = b
        · rw [if_pos ⟨by omega, c2⟩, if_pos c2]
        · rw [if_neg (fun z => c2 z.2), if_neg c2]
  | succ r ih =>
    intro m f B h1 h2 hF hz hl hw
    obtain ⟨g, rfl⟩ : ∃ g, f = g + 1 := ⟨f - 1, by omega⟩
    have w1 : zw ((m : Int) + 1) = ((m + 1 : Nat) : Int) := by rw [yb_w (by omega) (by omega)]; omega
    have hO := hF.own
    have l0 := hl 0
    have l1 := hl 1
    have e1 : yv B o 0 (a * 5 + m) = cw A o a m := by
      have := hw a m (by omega)
      rw [if_neg (by omega), if_neg (by omega)] at this
      unfold cw at this ⊢
      rw [Int.mul_comm]; exact this
    have e2 : yv B o 0 (b * 5 + m) = cw A o b m := by
      have := hw b m (by omega)
      rw [if_neg (by omega), if_neg (by omega)] at this
      unfold cw at this ⊢
      rw [Int.mul_comm]; exact this
    have st : z_Pt_exchange_18_l N (g + 1) o a b m B = z_Pt_exchange_18_l N g o a b ((m + 1 : Nat) : Int) (ys (ys B o 0 (a * 5 + m) (cw A o b m)) o 0 (b * 5 + m) (cw A o a m)) := by
      show z_Pt_exchange_18_b (z_Pt_exchange_18_l N g) N o a b m B = _
      unfold z_Pt_exchange_18_b
      have hO1 : Own (ys B o 0 (a * 5 + m) (cw A o b m)) := hO
      have hyl : yl (ys B o 0 (a * 5 + m) (cw A o b m)) o 0 = yl B o 0 := rfl
      rw [if_pos (by omega), zgr_d hO hd (by decide), zrD_d hO hd (by decide) (by omega) (by omega), e1, zgr_d hO hd (by decide), zgr_d hO hd (by decide), zrD_d hO hd (by decide) (by omega) (by omega), e2, zwD_d hO hd (by decide) (by omega) (by omega), zgr_d hO1 hd (by decide), zwD_d hO1 hd (by decide) (by omega) (by omega), w1]
    rw [st]
    have hO1 : Own (ys B o 0 (a * 5 + m) (cw A o b m)) := hO
    refine ih (m + 1) g _ (by omega) (by omega) ((hF.trans (cF_ys hO hd (by decide) (cont1 o))).trans (cF_ys hO1 hd (by decide) (cont1 o))) (fun q => by rw [zi_ys hO1 hd (by decide) (pto_fx ho), zi_ys hO hd (by decide) (pto_fx ho)]; exact hz q) (fun f' => hl f') (fun c i hi => ?_)
    unfold cw at hw ⊢
    have rgy : ∀ e : Int, zw (yv A o 0 e) = yv A o 0 e := fun e => yb_w (ri_rg A _ _).1 (ri_rg A _ _).2
    rw [yv_ys (by omega) (by omega), yv_ys (by omega) (by omega), rgy, rgy]
    by_cases d : i = m
    · subst d
      by_cases c2 : c = b
      · subst c2
        rw [if_pos (by omega), if_neg (by omega), if_pos ⟨by omega, rfl⟩]
      · rw [if_neg (by omega)]
        by_cases c1 : c = a
        · subst c1
          rw [if_pos (by omega), if_pos ⟨by omega, rfl⟩]
        · rw [if_neg (by omega), if_neg (by omega), if_neg (by omega), hw c i hi, if_neg (by omega), if_neg (by omega)]
    · rw [if_neg (by omega), if_neg (by omega), hw c i hi]
      by_cases c1 : i < m ∧ c = a
      · rw [if_pos c1, if_pos ⟨by omega, c1.2⟩]
      · rw [if_neg c1]
        by_cases c2 : i < m ∧ c = b
        · rw [if_pos c2, if_neg (by omega), if_pos ⟨by omega, c2.2⟩]
        · rw [if_neg c2, if_neg (by omega), if_neg (by omega)]
theorem CP_exch {o a b g : Nat} {X Y : List It} (hN : 300000 ≤ N) (hO : Own A) (ho : pto.contains o = true) (hx : CP A o X g) (ha : a < X.length) (hb : b < X.length) (hab : a ≠ b) (hl : Y.length = X.length) (hY : ∀ m, m < X.length → itm Y m = if m = a then itm X b else if m = b then itm X a else itm X m) : ∃ B, z_Pt_exchange N o a b A = some B ∧ CP B o Y g ∧ cF [o] A B := by
  obtain ⟨x1, x2, x3, x4⟩ := hx
  obtain ⟨C, c1, c2, c3, c4, c5⟩ := exch_gen (N := N) (A := A) (a := a) (b := b) ho (by omega) (by omega) hab x1 5 0 N A (by omega) (by omega) (cF.refl _ hO) (fun _ => rfl) (fun _ => rfl) (fun c i hi => by rw [if_neg (by omega), if_neg (by omega)])
  refine ⟨C, ?_, ⟨PI.of x1 (c3 2) (c4 0) (c4 1), by unfold cn at *; rw [c3, hl]; exact x2, by unfold cr at *; rw [c3]; exact x3, fun m hm => ?_⟩, c2⟩
  · unfold z_Pt_exchange z_Pt_exchange_18
    rw [c_pthas x2, zbP_s, cif_pos ⟨by omega, by omega⟩, if_neg (by decide), c_pthas x2, zbP_s, cif_pos ⟨by omega, by omega⟩, if_neg (by decide)]
    exact c1
  · rw [hl] at hm
    rw [hY m hm]
    have k0 : ∀ m : Nat, cw C o m 0 = if m = a then cw A o b 0 else if m = b then cw A o a 0 else cw A o m 0 := fun m => c5 m 0 (by omega)
    have k1 : ∀ m i : Nat, i < 4 → cw C o m ((i : Int) + 1) = if m = a then cw A o b ((i : Int) + 1) else if m = b then cw A o a ((i : Int) + 1) else cw A o m ((i : Int) + 1) := fun m i hi => by
      have := c5 m (i + 1) (by omega)
      rw [show ((i + 1 : Nat) : Int) = (i : Int) + 1 by omega] at this
      exact this
    rw [k0]
    by_cases z1 : m = a
    · rw [if_pos z1, if_pos z1]
      have := nbk_le (itm X b).1
      exact ⟨(x4 b hb).1, fun i hi => by rw [k1 m i (by omega), if_pos z1]; exact (x4 b hb).2 i hi⟩
    · rw [if_neg z1, if_neg z1]
      by_cases z2 : m = b
      · rw [if_pos z2, if_pos z2]
        have := nbk_le (itm X a).1
        exact ⟨(x4 a ha).1, fun i hi => by rw [k1 m i (by omega), if_neg z1, if_pos z2]; exact (x4 a ha).2 i hi⟩
      · rw [if_neg z2, if_neg z2]
        have := nbk_le (itm X m).1
        exact ⟨(x4 m hm).1, fun i hi => by rw [k1 m i (by omega), if_neg z1, if_neg z2]; exact (x4 m hm).2 i hi⟩
end
