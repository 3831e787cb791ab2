/-! CONSTANTS of the class, from its beginning to its end -/
section
variable {N : Nat} {A : zA}
theorem fill2_run {x m : Nat} {v : Int64} (hs : zsh x = some (true, 1, m)) (h4 : 4 ≤ x) (hm : m < 1000000) : ∀ (r s f : Nat) (A : zA), s + r = m → r < f → Own A → ∃ B, z_Ar_fill2_6_l N f x v s m A = some B ∧ cF [x] A B ∧ ∀ i : Nat, zml B x i = if s ≤ i ∧ i < m then v else zml A x i := by
  intro r
  induction r with
  | zero =>
    intro s f A h1 h2 hO
    obtain ⟨u, rfl⟩ : ∃ u, f = u + 1 := ⟨f - 1, by omega⟩
    refine ⟨A, ?_, cF.refl _ hO, fun i => by rw [if_neg (by omega)]⟩
    show z_Ar_fill2_6_b (z_Ar_fill2_6_l N u) N x v s m A = _
    unfold z_Ar_fill2_6_b
    rw [if_neg (by omega)]
  | succ r ih =>
    intro s f A h1 h2 hO
    obtain ⟨u, rfl⟩ : ∃ u, f = u + 1 := ⟨f - 1, by omega⟩
    have w1 : zw ((s : Int) + 1) = ((s + 1 : Nat) : Int) := by rw [yb_w (by omega) (by omega)]; omega
    have f1 : cF [x] A (zsl A x s v) := cF_sl hO (cont1 x)
    obtain ⟨B, b1, b2, b3⟩ := ih (s + 1) u (zsl A x s v) (by omega) (by omega) f1.own
    refine ⟨B, ?_, f1.trans b2, fun i => ?_⟩
    · rw [← b1]
      show z_Ar_fill2_6_b (z_Ar_fill2_6_l N u) N x v s m A = _
      unfold z_Ar_fill2_6_b
      rw [if_pos (by omega), zwDl_ok hO hs h4 (by omega) (by omega), w1, Int.toNat_natCast]
    · rw [b3, zml_sl]
      by_cases c : i = s
      · subst c
        rw [if_neg (by omega), if_pos ⟨rfl, rfl⟩, if_pos (by omega)]
      · rw [if_neg (show ¬ (x = x ∧ i = s) from fun z => c z.2)]
        by_cases c2 : s + 1 ≤ i ∧ i < m
        · rw [if_pos c2, if_pos (by omega)]
        · rw [if_neg c2, if_neg (by omega)]
theorem Ar_fill2 {v : Int64} (hN : 300000 ≤ N) (hO : Own A) : ∃ B, z_Ar_fill2 N 50 v A = some B ∧ cF [50] A B ∧ ∀ i : Nat, i < 60 → zml B 50 i = v := by
  unfold z_Ar_fill2 z_Ar_fill2_6 zln
  rw [hO.1 50 (true, 1, 60) (by decide)]
  simp only
  rw [if_pos (by decide)]
  obtain ⟨B, b1, b2, b3⟩ := fill2_run (N := N) (x := 50) (m := 60) (v := v) (by decide) (by decide) (by decide) 60 0 N A (by omega) (by omega) hO
  rw [show ((0 : Nat) : Int) = 0 from rfl] at b1
  exact ⟨B, b1, b2, fun i hi => by rw [b3, if_pos (by omega)]⟩
theorem c_goes {o o' : Nat} : ∀ (r k f : Nat) (B : zA), k + r = 240 → r < f → Own B → (∀ q : Nat, q < k → ri B 101 q = 0) → ∃ C, z_Co_fold_29_l N f o o' k B = (zlet (zsi C 49 4 0) fun A3 => zlet (zsi A3 49 5 0) fun A4 => z_Co_fold_64 N o o' 0 A4) ∧ cF [101] B C ∧ ∀ q : Nat, q < 240 → ri C 101 q = 0 := by
  intro r
  induction r with
  | zero =>
    intro k f B h1 h2 hO hq
    obtain ⟨u, rfl⟩ : ∃ u, f = u + 1 := ⟨f - 1, by omega⟩
    have : k = 240 := by omega
    subst this
    refine ⟨B, ?_, cF.refl _ hO, hq⟩
    show z_Co_fold_29_b (z_Co_fold_29_l N u) N o o' (240 : Nat) B = _
    unfold z_Co_fold_29_b
    rw [if_neg (by decide)]
  | succ r ih =>
    intro k f B h1 h2 hO hq
    obtain ⟨u, rfl⟩ : ∃ u, f = u + 1 := ⟨f - 1, by omega⟩
    have w1 : zw ((k : Int) + 1) = ((k + 1 : Nat) : Int) := by rw [yb_w (by omega) (by omega)]; omega
    have f1 : cF [101] B (rs B 101 k 0) := cF_rs hO (by decide) (by decide) (by decide)
    obtain ⟨C, c1, c2, c3⟩ := ih (k + 1) u (rs B 101 k 0) (by omega) (by omega) f1.own (fun q hq' => by
      by_cases e : q = k
      · rw [e, ri_rs_s]; decide
      · rw [ri_rs_n (by omega) (by omega) (by omega)]; exact hq q (by omega))
    refine ⟨C, ?_, f1.trans c2, c3⟩
    rw [← c1]
    show z_Co_fold_29_b (z_Co_fold_29_l N u) N o o' k B = _
    unfold z_Co_fold_29_b
    rw [if_pos (by omega), zwr_ok (by omega) (by omega), w1]
end
section
variable {N : Nat} {A : zA} {R R' p : Nat} {Q Qn QB : Pr}
theorem c_constants {pr : Int} (hN : 300000 ≤ N) (hG : GQ Q) (hGn : GQ Qn) (hp : exP Q p) (h : CPG A R R' Qn QB) (hs : CSt A R' Q (mtC Q)) (hS : STA A) (hT : Qn.1 = Q.1) (h1 : Qn.2.1 p = Q.2.1 p) (h2 : Qn.2.2 p = Q.2.2 p) (hpr : pr = if p = 3 then 1 else 0) : ∃ B, z_Co_fold N (R + 2 + 3 * p) (R' + 2 + 3 * p) pr A = some (((conL (Q.2.1 p) p).2.2 : Int), B) ∧ CSt B R' (conQ Q p) (mtC (conQ Q p)) ∧ CPI B R' ∧ cF (cfS (R' + 2 + 3 * p)) A B := by
  obtain ⟨r, m2, m3, w, c7, cR, cR', s, sB⟩ := h
  obtain ⟨k1, k2, k3, k4, k5⟩ := r.ok
  have hp3 := exP3 hG.1 hp
  have hpn : exP Qn p := by unfold exP at *; omega
  obtain ⟨-, -, -, -, -, r6⟩ := rws_fr k1 (show p < 4 by omega)
  obtain ⟨-, -, -, -, -, r6'⟩ := rws_fr k2 (show p < 4 by omega)
  obtain ⟨g7, g60, gl, gok⟩ := hG.1.2 p hp
  have hX : CP A (R + 2 + 3 * p) (Q.2.1 p) (Q.2.2 p) := by rw [← h1, ← h2]; exact s.cp hpn
  have hb := hG.n.2.1 p hp
  have hlv : lvl (wnC Q).1 p ≤ 20 := by
    unfold lvl
    by_cases e : p = 3
    · rw [if_pos e]; exact Nat.le_refl _
    · rw [if_neg e]; exact (hG.n.1 p).2
  have hne : R + 2 + 3 * p ≠ R' + 2 + 3 * p := by omega
  have hoo : okO2 (R + 2 + 3 * p) (R' + 2 + 3 * p) := ⟨r6, r6', hne, by unfold okR at k1; omega, by unfold okR at k2; omega, by unfold okR at k1; omega, by unfold okR at k2; omega⟩
  have hm : CM A (R + 2 + 3 * p) (Q.2.1 p) := fun k hk k8 => by
    obtain ⟨-, -, -, -, a5⟩ := s.2 p hpn
    rw [← h1] at hk k8 ⊢
    have := (a5 k hk).2.2 k8
    rw [this]
    exact congrArg _ (mtL_eq (hGn.m p hpn) k hk k8)
  have hcr : zi A (R + 2 + 3 * p) 3 = Q.2.2 p := hX.2.2.1
  obtain ⟨p1, p2, p3, p4, p5, p6, p7⟩ := id hoo
  generalize R + 2 + 3 * p = o at *
  have hoR : ∀ a, R' ≤ a → a ≤ R' + 13 → a ≠ R' + 2 + 3 * p → (cfS (R' + 2 + 3 * p)).contains a = false := fun a a1 a2 a3 => cfS_n a3 (Or.inl (by unfold okR at k2; omega))
  obtain ⟨B1, b1, b2, b3⟩ := CP_clear (N := N) (g := Q.2.2 p) w.1 r6' (cR' p (by omega)) (by omega)
  obtain ⟨B2, c1, c2, c3⟩ := Ar_fill2 (N := N) (A := B1) (v := kv (kn0 p 0)) hN b3.own
  obtain ⟨B3, d1, d2, d3⟩ := c_goes (N := N) (o := o) (o' := R' + 2 + 3 * p) 240 0 N B2 (by omega) (by omega) c2.own (fun q hq => absurd hq (Nat.not_lt_zero _))
  rw [show ((0 : Nat) : Int) = 0 from rfl, zlet_s, zlet_s] at d1
  have f4 : cF [49] B3 (zsi B3 49 4 0) := cF_si d2.own (by decide) (by decide) (by decide)
  have f5 : cF [49] (zsi B3 49 4 0) (zsi (zsi B3 49 4 0) 49 5 0) := cF_si f4.own (by decide) (by decide) (by decide)
  have f45 := f4.trans f5
  have v4 : zi (zsi (zsi B3 49 4 0) 49 5 0) 49 4 = ((0 : Nat) : Int) := by rw [zi_si_j (by decide), zi_si_s]; decide
  have v5 : zi (zsi (zsi B3 49 4 0) 49 5 0) 49 5 = ((0 : Nat) : Int) := by rw [zi_si_s]; decide
  generalize zsi (zsi B3 49 4 0) 49 5 0 = B4 at *
  have n1 : ∀ q, q ≠ R' + 2 + 3 * p → ([R' + 2 + 3 * p] : List Nat).contains q = false := fun q hq => cont2 hq
  have hC0 : CoS B4 o (R' + 2 + 3 * p) (Q.2.1 p) (Q.2.2 p) 0 (kn0 p, [], 0) := by
    refine ⟨f45.own, (((hS.fr b3 (n1 _ (by omega)) (n1 _ (by omega)) (n1 _ (by omega))).fr c2 (by decide) (by decide) (by decide)).fr d2 (by decide) (by decide) (by decide)).fr f45 (by decide) (by decide) (by decide), (((hX.fr p1 b3 (n1 _ hne)).fr p1 c2 (cont2 (by omega))).fr p1 d2 (cont2 (by omega))).fr p1 f45 (cont2 (by omega)), (((hm.fr p1 b3 (n1 _ hne)).fr p1 c2 (cont2 (by omega))).fr p1 d2 (cont2 (by omega))).fr p1 f45 (cont2 (by omega)), ((b2.fr p2 c2 (cont2 (by omega))).fr p2 d2 (cont2 (by omega))).fr p2 f45 (cont2 (by omega)), fun r hr => ?_, v4, v5⟩
    rw [f45.l (by decide) (by decide), d2.l (by decide) (by decide), c3 r hr]
    rfl
  obtain ⟨C, cc, e1, e2, e3, e4⟩ := c_con (N := N) hN hoo gok g60 gl (lvl (wnC Q).1 p) 0 (Q.2.1 p).length (Bl_L hb) (Nat.le_refl _) (kn0 p, [], 0) 0 B4 (by omega) (kn0_ok p) (by show 0 + _ ≤ _; omega) (by show 0 + _ ≤ _; omega) hC0 (fun k q1 q2 => by rw [f45.e (by decide) (by decide)]; exact d3 k (by omega))
  have e3 : CoS C o (R' + 2 + 3 * p) (Q.2.1 p) (Q.2.2 p) 0 (conL (Q.2.1 p) p) := e3
  obtain ⟨i1, i2, i3, i4, i5⟩ := con_inv hG hp
  have hb' := i3 _ _ hb
  obtain ⟨D, g1, g2, g3, mt, g4, g5⟩ := CP_link (N := N) hN e3.1 p2 e3.2.2.2.2.1 hb'
  have fA : cF (cfS (R' + 2 + 3 * p)) A D := (((((cfS_1 b3 (Or.inl rfl)).trans (cfS_1 c2 (by omega))).trans (cfS_1 d2 (by omega))).trans (cfS_1 f45 (by omega))).trans e4.1).trans (cfS_1 g3 (Or.inl rfl))
  have hfold : z_Co_fold_64 N o (R' + 2 + 3 * p) 0 B4 = some (((conL (Q.2.1 p) p).2.2 : Int), D) := by
    unfold z_Co_fold_64
    obtain ⟨u, hu⟩ : ∃ u, N = (u + 1) + cc := ⟨N - 1 - cc, by omega⟩
    have e2 := e2 (u + 1)
    rw [← hu, show ((0 : Nat) : Int) = 0 from rfl] at e2
    rw [e2]
    show z_Co_fold_64_b (z_Co_fold_64_l N u) N o (R' + 2 + 3 * p) ((Q.2.1 p).length : Int) C = _
    have hcn : zi C o 2 = (Q.2.1 p).length := e3.2.2.1.2.1
    unfold z_Co_fold_64_b
    rw [hcn, if_neg (by omega)]
    unfold z_Co_fold_94
    rw [g1, zbV_s, g3.i (by decide) (n1 _ (by omega)), e3.2.2.2.2.2.2.2]
  refine ⟨D, ?_, CSt.put hG (con_ok hG hp) k2 hp hs fA hoR g2 g4 (fun k hk k8 => g5 k hk k8), fun q hq => ?_, fA⟩
  · unfold z_Co_fold z_Co_fold_23 z_Co_fold_29
    rw [hcr, b1, zbV_s, hpr]
    by_cases e : p = 3
    · have ev : kv (kn0 p 0) = Int64.ofNat 0 := by unfold kn0; rw [if_pos e]; decide
      rw [ev] at c1
      rw [if_pos e, if_neg (by decide), c1, zbV_s, d1, hfold]
    · have ev : kv (kn0 p 0) = Int64.ofNat 4294967296 := by unfold kn0; rw [if_neg e]; rfl
      rw [ev] at c1
      rw [if_neg e, if_pos rfl, c1, zbV_s, d1, hfold]
  · by_cases e : q = p
    · rw [e]; exact g2.1
    · obtain ⟨-, -, -, -, -, u6⟩ := rws_fr k2 hq
      exact (cR' q hq).fr u6 fA (cfS_n (by omega) (Or.inl (by unfold okR at k2; omega)))
end
