/-! the reference's things -/
def RH (x1 x2 x3 x4 : Int) : Int := zan (zxr (zw ((((((x1 * 31) + x2) * 127) + x3) * 8191) + x4)) (zuh (zw ((((((x1 * 31) + x2) * 127) + x3) * 8191) + x4)) 15)) 4095
def rk (A : zA) (i : Nat) : Int × Int × Int × Int := (ri A 252 i, ri A 253 i, ri A 254 i, ri A 255 i)
def lb (A : zA) (h : Int) : Nat → Int
  | 0 => -1
  | n + 1 => if ri A 257 n = h then (n : Int) else lb A h n
def RT (A : zA) (t : Nat) : Prop := t ≤ 16000 ∧ zi A 226 42 = t ∧ (∀ h : Int, 0 ≤ h → h < 4096 → ri A 258 h = lb A h t) ∧ (∀ i : Nat, i < t → ri A 257 i = RH (ri A 252 i) (ri A 253 i) (ri A 254 i) (ri A 255 i) ∧ ri A 256 i = lb A (ri A 257 i) i) ∧ (∀ i j : Nat, i < j → j < t → rk A i ≠ rk A j)
theorem RH_lt (a b c d : Int) : 0 ≤ RH a b c d ∧ RH a b c d < 4096 := by
  unfold RH
  exact zan_lt _ 12 (by decide)
theorem lb_congr {A B : zA} {h : Int} : ∀ {n : Nat}, (∀ i : Nat, i < n → ri B 257 i = ri A 257 i) → lb B h n = lb A h n
  | 0, _ => rfl
  | n + 1, q => by
    unfold lb
    rw [q n (by omega), lb_congr (fun i hi => q i (by omega))]
theorem lb_rg {A : zA} {h : Int} : ∀ {n : Nat}, -1 ≤ lb A h n ∧ lb A h n < n
  | 0 => by unfold lb; omega
  | n + 1 => by
    have := lb_rg (A := A) (h := h) (n := n)
    unfold lb
    split <;> omega
section
variable {N : Nat} {A : zA} {t : Nat} {k a b c h : Int}
theorem rt_step (hT : RT A t) {n f : Nat} (hn : n < t) (hh : ri A 257 n = h) : z_M_thing_43_l N (f + 1) k a b c h n A = if rk A n = (k, a, b, c) then some ((n : Int), A) else z_M_thing_43_l N f k a b c h (lb A h n) A := by
  have ht := hT.1
  show z_M_thing_43_b (z_M_thing_43_l N f) N k a b c h n A = _
  unfold z_M_thing_43_b
  have e : ri A 256 n = lb A h n := by rw [(hT.2.2.2.1 n hn).2, hh]
  rw [if_neg (by omega)]
  simp (disch := (first | decide | omega | assumption | ((repeat (first | apply Own.ys | apply Own.si | apply Own.rs)); assumption) | (simp only [yl_ys, yl_si, yl_rs]; omega))) only [zrd_ok, e]
  unfold rk
  by_cases c0 : ri A 252 n = k
  · by_cases c1 : ri A 253 n = a
    · by_cases c2 : ri A 254 n = b
      · by_cases c3 : ri A 255 n = c
        · rw [if_pos c0, if_pos c1, if_pos c2, if_pos c3, if_pos (by rw [c0, c1, c2, c3])]
        · rw [if_pos c0, if_pos c1, if_pos c2, if_neg c3, if_neg (by intro z; cases z; exact c3 rfl)]
      · rw [if_pos c0, if_pos c1, if_neg c2, if_neg (by intro z; cases z; exact c2 rfl)]
    · rw [if_pos c0, if_neg c1, if_neg (by intro z; cases z; exact c1 rfl)]
  · rw [if_neg c0, if_neg (by intro z; cases z; exact c0 rfl)]
theorem rt_none (hT : RT A t) : ∀ n f, n ≤ t → n < f → (∀ i, i < n → rk A i ≠ (k, a, b, c)) → z_M_thing_43_l N f k a b c h (lb A h n) A = z_M_thing_108 N k a b c h A := by
  intro n
  induction n with
  | zero =>
    intro f _ hf _
    obtain ⟨g, rfl⟩ : ∃ g, f = g + 1 := ⟨f - 1, by omega⟩
    show z_M_thing_43_b (z_M_thing_43_l N g) N k a b c h (-1) A = _
    unfold z_M_thing_43_b
    rw [if_pos (by decide)]
  | succ n ih =>
    intro f hn hf hne
    unfold lb
    split
    · rename_i hh
      obtain ⟨g, rfl⟩ : ∃ g, f = g + 1 := ⟨f - 1, by omega⟩
      rw [rt_step hT (by omega) hh, if_neg (hne n (by omega))]
      exact ih g (by omega) (by omega) (fun i hi => hne i (by omega))
    · exact ih f (by omega) (by omega) (fun i hi => hne i (by omega))
theorem rt_some (hT : RT A t) {i : Nat} (hi : i < t) (he : rk A i = (k, a, b, c)) (hh : ri A 257 i = h) : ∀ n f, i < n → n ≤ t → n < f → z_M_thing_43_l N f k a b c h (lb A h n) A = some ((i : Int), A) := by
  intro n
  induction n with
  | zero => intro f h1; omega
  | succ n ih =>
    intro f h1 h2 h3
    unfold lb
    split
    · rename_i hq
      obtain ⟨g, rfl⟩ : ∃ g, f = g + 1 := ⟨f - 1, by omega⟩
      rw [rt_step hT (by omega) hq]
      by_cases c : i = n
      · subst c
        rw [if_pos he]
      · rw [if_neg (fun z => hT.2.2.2.2 i n (by omega) (by omega) (by rw [he, z]))]
        exact ih g (by omega) (by omega) (by omega)
    · rename_i hq
      have : i ≠ n := fun z => hq (by rw [← z]; exact hh)
      exact ih f (by omega) (by omega) (by omega)
def rtl : List Nat := [252, 253, 254, 255, 256, 257, 258]
theorem M_thing (hN : 300000 ≤ N) (hT : RT A t) (ht : t < 16000) (wk : zw k = k) (wa : zw a = a) (wb : zw b = b) (wc : zw c = c) : ∃ (j t' : Nat) (B : zA), z_M_thing N k a b c A = some ((j : Int), B) ∧ rF rtl [42] A B ∧ RT B t' ∧ j < t' ∧ rk B j = (k, a, b, c) ∧ t ≤ t' ∧ t' ≤ t + 1 ∧ (∀ i, i < t → rk B i = rk A i) ∧ (t' = t ∨ j = t) := by
  have hh := RH_lt k a b c
  have h4 : (4095 : Int) = 4095 := rfl
  unfold z_M_thing z_M_thing_43
  have eH : zan (zxr (zw ((((((k * 31) + a) * 127) + b) * 8191) + c)) (zuh (zw ((((((k * 31) + a) * 127) + b) * 8191) + c)) 15)) 4095 = RH k a b c := rfl
  rw [eH, zrd_ok hh.1 hh.2, hT.2.2.1 _ hh.1 hh.2]
  by_cases ex : ∃ i, i < t ∧ rk A i = (k, a, b, c)
  · obtain ⟨i, i1, i2⟩ := ex
    have hq : ri A 257 i = RH k a b c := by
      rw [(hT.2.2.2.1 i i1).1]
      unfold rk at i2
      simp only [Prod.mk.injEq] at i2
      rw [i2.1, i2.2.1, i2.2.2.1, i2.2.2.2]
    rw [rt_some hT i1 i2 hq t N i1 (Nat.le_refl _) (by omega)]
    exact ⟨i, t, A, rfl, rF.refl _ _ _, hT, i1, i2, by omega, by omega, fun _ _ => rfl, Or.inl rfl⟩
  · have hne : ∀ i, i < t → rk A i ≠ (k, a, b, c) := fun i hi he => ex ⟨i, hi, he⟩
    rw [rt_none hT t N (Nat.le_refl _) (by omega) hne]
    have hm := hT.2.1
    generalize hHH : RH k a b c = H at *
    unfold z_M_thing_108
    rw [hm, if_neg (by omega)]
    simp (disch := (first | decide | omega | assumption | ((repeat (first | apply Own.ys | apply Own.si | apply Own.rs)); assumption) | (simp only [yl_ys, yl_si, yl_rs]; omega))) only [zwr_ok, zi_rs_o, hm, zrd_ok, ri_rs_o, zlet_s]
    have w1 : zw ((t : Int) + 1) = ((t + 1 : Nat) : Int) := by rw [yb_w (by omega) (by omega)]; omega
    have wH : zw H = H := yb_w (by omega) (by omega)
    have wt : zw (t : Int) = t := yb_w (by omega) (by omega)
    have hbk := hT.2.2.1 H hh.1 hh.2
    rw [hbk]
    have hlr := lb_rg (A := A) (h := H) (n := t)
    have wl : zw (lb A H t) = lb A H t := yb_w (by omega) (by omega)
    rw [zi_si_s, w1]
    generalize hB : zsi (rs (rs (rs (rs (rs (rs (rs A 252 t k) 253 t a) 254 t b) 255 t c) 256 t (lb A H t)) 258 H t) 257 t H) 226 42 ((t : Int) + 1) = B
    have fB : rF rtl [42] A B := by
      rw [← hB]
      exact (((((((rF_rs (by decide)).trans (rF_rs (by decide))).trans (rF_rs (by decide))).trans (rF_rs (by decide))).trans (rF_rs (by decide))).trans (rF_rs (by decide))).trans (rF_rs (by decide))).trans (rF_si (by decide))
    have v252 : ∀ i : Nat, ri B 252 i = if i = t then k else ri A 252 i := fun i => by
      rw [← hB]
      simp (disch := (first | decide | omega | assumption | ((repeat (first | apply Own.ys | apply Own.si | apply Own.rs)); assumption) | (simp only [yl_ys, yl_si, yl_rs]; omega))) only [ri_si_o, ri_rs_o]
      rw [ri_rs (by omega) (by omega), wk]
      by_cases q : i = t
      · rw [if_pos q, if_pos (by omega)]
      · rw [if_neg q, if_neg (by omega)]
    have v253 : ∀ i : Nat, ri B 253 i = if i = t then a else ri A 253 i := fun i => by
      rw [← hB]
      simp (disch := (first | decide | omega | assumption | ((repeat (first | apply Own.ys | apply Own.si | apply Own.rs)); assumption) | (simp only [yl_ys, yl_si, yl_rs]; omega))) only [ri_si_o, ri_rs_o]
      rw [ri_rs (by omega) (by omega), wa]
      simp (disch := (first | decide | omega | assumption | ((repeat (first | apply Own.ys | apply Own.si | apply Own.rs)); assumption) | (simp only [yl_ys, yl_si, yl_rs]; omega))) only [ri_si_o, ri_rs_o]
      by_cases q : i = t
      · rw [if_pos q, if_pos (by omega)]
      · rw [if_neg q, if_neg (by omega)]
    have v254 : ∀ i : Nat, ri B 254 i = if i = t then b else ri A 254 i := fun i => by
      rw [← hB]
      simp (disch := (first | decide | omega | assumption | ((repeat (first | apply Own.ys | apply Own.si | apply Own.rs)); assumption) | (simp only [yl_ys, yl_si, yl_rs]; omega))) only [ri_si_o, ri_rs_o]
      rw [ri_rs (by omega) (by omega), wb]
      simp (disch := (first | decide | omega | assumption | ((repeat (first | apply Own.ys | apply Own.si | apply Own.rs)); assumption) | (simp only [yl_ys, yl_si, yl_rs]; omega))) only [ri_si_o, ri_rs_o]
      by_cases q : i = t
      · rw [if_pos q, if_pos (by omega)]
      · rw [if_neg q, if_neg (by omega)]
    have v255 : ∀ i : Nat, ri B 255 i = if i = t then c else ri A 255 i := fun i => by
      rw [← hB]
      simp (disch := (first | decide | omega | assumption | ((repeat (first | apply Own.ys | apply Own.si | apply Own.rs)); assumption) | (simp only [yl_ys, yl_si, yl_rs]; omega))) only [ri_si_o, ri_rs_o]
      rw [ri_rs (by omega) (by omega), wc]
      simp (disch := (first | decide | omega | assumption | ((repeat (first | apply Own.ys | apply Own.si | apply Own.rs)); assumption) | (simp only [yl_ys, yl_si, yl_rs]; omega))) only [ri_si_o, ri_rs_o]
      by_cases q : i = t
      · rw [if_pos q, if_pos (by omega)]
      · rw [if_neg q, if_neg (by omega)]
    have v256 : ∀ i : Nat, ri B 256 i = if i = t then lb A H t else ri A 256 i := fun i => by
      rw [← hB]
      simp (disch := (first | decide | omega | assumption | ((repeat (first | apply Own.ys | apply Own.si | apply Own.rs)); assumption) | (simp only [yl_ys, yl_si, yl_rs]; omega))) only [ri_si_o, ri_rs_o]
      rw [ri_rs (by omega) (by omega), wl]
      simp (disch := (first | decide | omega | assumption | ((repeat (first | apply Own.ys | apply Own.si | apply Own.rs)); assumption) | (simp only [yl_ys, yl_si, yl_rs]; omega))) only [ri_si_o, ri_rs_o]
      by_cases q : i = t
      · rw [if_pos q, if_pos (by omega)]
      · rw [if_neg q, if_neg (by omega)]
    have v257 : ∀ i : Nat, ri B 257 i = if i = t then H else ri A 257 i := fun i => by
      rw [← hB]
      simp (disch := (first | decide | omega | assumption | ((repeat (first | apply Own.ys | apply Own.si | apply Own.rs)); assumption) | (simp only [yl_ys, yl_si, yl_rs]; omega))) only [ri_si_o]
      rw [ri_rs (by omega) (by omega), wH]
      simp (disch := (first | decide | omega | assumption | ((repeat (first | apply Own.ys | apply Own.si | apply Own.rs)); assumption) | (simp only [yl_ys, yl_si, yl_rs]; omega))) only [ri_si_o, ri_rs_o]
      by_cases q : i = t
      · rw [if_pos q, if_pos (by omega)]
      · rw [if_neg q, if_neg (by omega)]
    have v258 : ∀ x : Int, 0 ≤ x → ri B 258 x = if x = H then (t : Int) else ri A 258 x := fun x x0 => by
      rw [← hB]
      simp (disch := (first | decide | omega | assumption | ((repeat (first | apply Own.ys | apply Own.si | apply Own.rs)); assumption) | (simp only [yl_ys, yl_si, yl_rs]; omega))) only [ri_si_o, ri_rs_o]
      rw [ri_rs (by omega) (by omega), wt]
      simp (disch := (first | decide | omega | assumption | ((repeat (first | apply Own.ys | apply Own.si | apply Own.rs)); assumption) | (simp only [yl_ys, yl_si, yl_rs]; omega))) only [ri_si_o, ri_rs_o]
    have v42 : zi B 226 42 = ((t + 1 : Nat) : Int) := by rw [← hB, zi_si_s, w1]
    clear hB
    have kB : ∀ i, i < t → rk B i = rk A i := fun i hi => by
      unfold rk
      rw [v252, v253, v254, v255, if_neg (by omega), if_neg (by omega), if_neg (by omega), if_neg (by omega)]
    have kt : rk B t = (k, a, b, c) := by
      unfold rk
      rw [v252, v253, v254, v255, if_pos rfl, if_pos rfl, if_pos rfl, if_pos rfl]
    have lbc : ∀ (x : Int) (n : Nat), n ≤ t → lb B x n = lb A x n := fun x n hn => lb_congr (fun i hi => by rw [v257, if_neg (by omega)])
    refine ⟨t, t + 1, B, ?_, fB, ⟨by omega, v42, fun x x0 x1 => ?_, fun i hi => ?_, fun i j hij hj => ?_⟩, by omega, kt, by omega, by omega, kB, Or.inr rfl⟩
    · rw [yb_w (by omega) (by omega)]
      congr 2; omega
    · unfold lb
      rw [v258 x x0, v257, if_pos rfl, lbc x t (Nat.le_refl _)]
      by_cases q : x = H
      · rw [if_pos q, if_pos q.symm]
      · rw [if_neg q, if_neg (fun z => q z.symm), hT.2.2.1 x x0 x1]
    · by_cases q : i = t
      · subst q
        rw [v257, v252, v253, v254, v255, v256, if_pos rfl, if_pos rfl, if_pos rfl, if_pos rfl, if_pos rfl, if_pos rfl, lbc _ _ (Nat.le_refl _)]
        exact ⟨hHH.symm, rfl⟩
      · rw [v257, v252, v253, v254, v255, v256, if_neg q, if_neg q, if_neg q, if_neg q, if_neg q, if_neg q, lbc _ _ (by omega)]
        exact hT.2.2.2.1 i (by omega)
    · by_cases q : j = t
      · rw [q, kt, kB i (by omega)]; exact hne i (by omega)
      · rw [kB i (by omega), kB j (by omega)]; exact hT.2.2.2.2 i j hij (by omega)
theorem M_giveBack_run {n : Nat} : ∀ (r t f : Nat) (A : zA), n + r = t → r < f → RT A t → ∃ B, z_M_giveBack_0_l N f n A = some B ∧ rF rtl [42] A B ∧ RT B n ∧ (∀ i, i < n → rk B i = rk A i) := by
  intro r
  induction r with
  | zero =>
    intro t f A h1 h2 hT
    obtain ⟨g, rfl⟩ : ∃ g, f = g + 1 := ⟨f - 1, by omega⟩
    refine ⟨A, ?_, rF.refl _ _ _, by rw [show n = t by omega]; exact hT, fun _ _ => rfl⟩
    show z_M_giveBack_0_b (z_M_giveBack_0_l N g) N n A = _
    unfold z_M_giveBack_0_b
    rw [hT.2.1, if_neg (by omega)]
  | succ r ih =>
    intro t f A h1 h2 hT
    obtain ⟨g, rfl⟩ : ∃ g, f = g + 1 := ⟨f - 1, by omega⟩
    obtain ⟨u, rfl⟩ : ∃ u, t = u + 1 := ⟨t - 1, by omega⟩
    have ht := hT.1
    have hm := hT.2.1
    obtain ⟨q1, q2⟩ := hT.2.2.2.1 u (by omega)
    have hh := RH_lt (ri A 252 u) (ri A 253 u) (ri A 254 u) (ri A 255 u)
    rw [← q1] at hh
    have w1 : zw (((u + 1 : Nat) : Int) - 1) = u := by rw [yb_w (by omega) (by omega)]; omega
    have lr := lb_rg (A := A) (h := ri A 257 u) (n := u)
    have k1 : z_M_giveBack_0_l N (g + 1) n A = z_M_giveBack_0_l N g n (rs (zsi A 226 42 (((u + 1 : Nat) : Int) - 1)) 258 (ri A 257 u) (lb A (ri A 257 u) u)) := by
      show z_M_giveBack_0_b (z_M_giveBack_0_l N g) N n A = _
      unfold z_M_giveBack_0_b
      rw [hm, if_pos (by omega), zlet_s, zi_si_s, w1]
      simp (disch := (first | decide | omega | assumption | ((repeat (first | apply Own.ys | apply Own.si | apply Own.rs)); assumption) | (simp only [yl_ys, yl_si, yl_rs]; omega))) only [zrd_ok, ri_si_o, zwr_ok, q2]
    rw [k1]
    have fC : rF rtl [42] A (rs (zsi A 226 42 (((u + 1 : Nat) : Int) - 1)) 258 (ri A 257 u) (lb A (ri A 257 u) u)) := (rF_si (by decide)).trans (rF_rs (by decide))
    have v258 : ∀ x : Int, 0 ≤ x → ri (rs (zsi A 226 42 (((u + 1 : Nat) : Int) - 1)) 258 (ri A 257 u) (lb A (ri A 257 u) u)) 258 x = if x = ri A 257 u then lb A (ri A 257 u) u else ri A 258 x := fun x x0 => by
      rw [ri_rs (by omega) x0, yb_w (by omega) (by omega), ri_si_o (by decide)]
    have vo : ∀ (cc : Nat) (x : Int), cc ≠ 258 → cc ≠ 226 → ri (rs (zsi A 226 42 (((u + 1 : Nat) : Int) - 1)) 258 (ri A 257 u) (lb A (ri A 257 u) u)) cc x = ri A cc x := fun cc x c1 c2 => by
      rw [ri_rs_o c1, ri_si_o c2]
    have v42 : zi (rs (zsi A 226 42 (((u + 1 : Nat) : Int) - 1)) 258 (ri A 257 u) (lb A (ri A 257 u) u)) 226 42 = u := by rw [zi_rs_o (by decide), zi_si_s, w1]
    generalize rs (zsi A 226 42 (((u + 1 : Nat) : Int) - 1)) 258 (ri A 257 u) (lb A (ri A 257 u) u) = C at *
    have kC : ∀ i, rk C i = rk A i := fun i => by
      unfold rk
      rw [vo 252 _ (by decide) (by decide), vo 253 _ (by decide) (by decide), vo 254 _ (by decide) (by decide), vo 255 _ (by decide) (by decide)]
    have lbc : ∀ (x : Int) (n : Nat), lb C x n = lb A x n := fun x n => lb_congr (fun i _ => vo 257 _ (by decide) (by decide))
    have hTC : RT C u := by
      refine ⟨by omega, v42, fun x x0 x1 => ?_, fun i hi => ?_, fun i j hij hj => by rw [kC, kC]; exact hT.2.2.2.2 i j hij (by omega)⟩
      · rw [v258 x x0, lbc]
        have := hT.2.2.1 x x0 x1
        unfold lb at this
        by_cases q : x = ri A 257 u
        · rw [if_pos q, q]
        · rw [if_neg q, this, if_neg (fun z => q z.symm)]
      · rw [vo 257 _ (by decide) (by decide), vo 252 _ (by decide) (by decide), vo 253 _ (by decide) (by decide), vo 254 _ (by decide) (by decide), vo 255 _ (by decide) (by decide), vo 256 _ (by decide) (by decide), lbc]
        exact hT.2.2.2.1 i (by omega)
    obtain ⟨B, b1, b2, b3, b4⟩ := ih u g C (by omega) (by omega) hTC
    exact ⟨B, b1, fC.trans b2, b3, fun i hi => by rw [b4 i hi, kC]⟩
theorem M_giveBack {n : Nat} (hN : 300000 ≤ N) (hT : RT A t) (hn : n ≤ t) : ∃ B, z_M_giveBack N n A = some B ∧ rF rtl [42] A B ∧ RT B n ∧ (∀ i, i < n → rk B i = rk A i) := by
  have := hT.1
  exact M_giveBack_run (t - n) t N A (by omega) (by omega) hT
end
