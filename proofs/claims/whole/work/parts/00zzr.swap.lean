/-! swap -/
section
variable {N : Nat} {A B : zA} {R R' : Nat} {Q QB : Pr}
/-- next becomes now -/
theorem c_begin (hN : 300000 ≤ N) (hG : GQ Q) (hGB : GQ QB) (h : CPG A R R' Q QB) : ∃ B, z_Ro_become N R' R A = some B ∧ CPG B R R' Q QB ∧ CSt B R' Q (mtC Q) ∧ cF (rwl R') A B := by
  obtain ⟨r, m2, m3, w, c7, cR, cR', s, sB⟩ := h
  obtain ⟨k1, k2, k3, k4, k5⟩ := r.ok
  obtain ⟨B1, b1, b2, b3, b4⟩ := c_become (N := N) hN k2 k1 (fun z => k3 z.symm) hG.1 w.1 cR' s
  have n1 : ∀ a, (a < R' ∨ R' + 13 < a) → (rwl R').contains a = false := fun a ha => rwl_n ha
  exact ⟨B1, b1, ⟨r, by rw [b4.r (by decide) (n1 _ (by unfold okR at k2; omega))]; exact m2, by rw [b4.r (by decide) (n1 _ (by unfold okR at k2; omega))]; exact m3, w.fr b4 (n1 _ (by unfold okR at k2; omega)) (n1 _ (by unfold okR at k2; omega)) (n1 _ (by unfold okR at k2; omega)), c7.fr (Or.inl rfl) b4 (fun a a1 a2 => n1 a (by unfold RR at r; omega)), cR.fr k1 b4 (fun a a1 a2 => n1 a (by unfold RR at r; omega)), b2, s.fr hG.1 k1 b4 (fun a a1 a2 => n1 a (by unfold RR at r; omega)), sB.fr hGB.1 (Or.inl rfl) b4 (fun a a1 a2 => n1 a (by unfold RR at r; omega))⟩, b3, b4⟩
/-- steps that touch next's parts and other things -/
theorem CPG.edit {S : List Nat} (h : CPG A R R' Q QB) (hQ : WO Q) (hB : WO QB) (f : cF S A B) (hI : CPI B R') (h4 : S.contains 4 = false) (hr : ∀ a, 7 ≤ a → a ≤ 48 → (a < R' ∨ R' + 13 < a) → S.contains a = false) (h1 : S.contains 111 = false) (h2 : S.contains 114 = false) (h3 : S.contains 117 = false) : CPG B R R' Q QB := by
  obtain ⟨r, m2, m3, w, c7, cR, cR', s, sB⟩ := h
  obtain ⟨k1, k2, k3, k4, k5⟩ := r.ok
  have n7 : ∀ X, okR X → X ≠ R' → ∀ a, X ≤ a → a ≤ X + 13 → S.contains a = false := fun X hX hne a a1 a2 => hr a (by unfold okR at hX; omega) (by unfold okR at hX; omega) (by unfold okR at hX k2; omega)
  exact ⟨r, by rw [f.r (by decide) h4]; exact m2, by rw [f.r (by decide) h4]; exact m3, w.fr f h1 h2 h3, c7.fr (Or.inl rfl) f (n7 7 (Or.inl rfl) (fun z => k5 z.symm)), cR.fr k1 f (n7 R k1 k3), hI, s.fr hQ k1 f (n7 R k1 k3), sB.fr hB (Or.inl rfl) f (n7 7 (Or.inl rfl) (fun z => k5 z.symm))⟩
end
def swp (X : List It) (k : Nat) : List It := X.take k ++ ([itm X (k + 1), itm X k] ++ X.drop (k + 2))
theorem swp_len {X : List It} {k : Nat} (h : k + 1 < X.length) : (swp X k).length = X.length := by
  unfold swp
  rw [List.length_append, List.length_append, List.length_take, List.length_drop]
  show min k X.length + (2 + (X.length - (k + 2))) = X.length
  omega
theorem swp_itm {X : List It} {k m : Nat} (h : k + 1 < X.length) (hm : m < X.length) : itm (swp X k) m = if m = k then itm X (k + 1) else if m = k + 1 then itm X k else itm X m := by
  have hl := swp_len h
  have e : (swp X k)[m]'(by omega) = if m = k then itm X (k + 1) else if m = k + 1 then itm X k else itm X m := by
    have ht : (X.take k).length = k := by rw [List.length_take]; omega
    unfold swp
    by_cases c : m < k
    · rw [List.getElem_append_left (by omega), List.getElem_take, if_neg (by omega), if_neg (by omega), itm_get hm]
    · rw [List.getElem_append_right (by omega)]
      by_cases c1 : m = k
      · subst c1
        rw [if_pos rfl]
        simp only [ht, Nat.sub_self]
        rfl
      · rw [if_neg c1]
        by_cases c2 : m = k + 1
        · subst c2
          rw [if_pos rfl]
          simp only [ht, show k + 1 - k = 1 by omega]
          rfl
        · rw [if_neg c2, itm_get hm]
          rw [List.getElem_append_right (by show 2 ≤ _; omega)]
          rw [List.getElem_drop]
          congr 1
          show k + 2 + (m - (X.take k).length - 2) = m
          omega
  rw [itm_get (by omega), e]
theorem cut2 {X : List It} {k : Nat} (h : k + 1 < X.length) : X = X.take k ++ ([itm X k, itm X (k + 1)] ++ X.drop (k + 2)) := by
  have h1 : X.drop k = X[k] :: X.drop (k + 1) := List.drop_eq_getElem_cons (by omega)
  have h2 : X.drop (k + 1) = X[k + 1] :: X.drop (k + 2) := List.drop_eq_getElem_cons (by omega)
  have h3 := List.take_append_drop k X
  rw [h1, h2] at h3
  rw [itm_get (by omega), itm_get h]
  exact h3.symm
theorem szL_app {sz : Nat → Nat} (X Y : List It) : szL sz (X ++ Y) = szL sz X + szL sz Y := by
  unfold szL
  rw [List.map_append, List.sum_append]
def maySw (Q : Pr) (x1 x2 : Int) : Prop := thr Q x1 ∧ 0 ≤ x2 ∧ x2 + 1 < (Q.2.1 x1.toNat).length ∧ (itm (Q.2.1 x1.toNat) x2.toNat).1 ≤ 7 ∧ (itm (Q.2.1 x1.toNat) (x2.toNat + 1)).1 ≤ 7
def swpQ (Q : Pr) (x1 x2 : Int) : Pr := updP Q x1.toNat (swp (Q.2.1 x1.toNat) x2.toNat)
/-- a part that is balanced, and no greater -/
theorem GQ.put {Q : Pr} {p : Nat} {X : List It} (hG : GQ Q) (hp : exP Q p) (hl : X.length ≤ 150) (hb : ∀ nd n, bal nd n (Q.2.1 p) → bal nd n X) (hz : ∀ sz, szL sz X ≤ szL sz (Q.2.1 p)) (hi : ∀ i ∈ X, okI Q.1 p (Q.2.2 p) i) : GQ (updP Q p X) := by
  obtain ⟨⟨o1, o2⟩, nd, sz, n1, n2, n3, n4⟩ := hG
  refine ⟨⟨o1, fun q hq => ?_⟩, nd, sz, n1, fun q hq => ?_, fun q hq => ?_, ?_⟩
  · obtain ⟨a, b, c, d⟩ := o2 q hq
    refine ⟨a, b, ?_, ?_⟩
    · by_cases e : q = p
      · rw [e, updP_s]; exact hl
      · rw [updP_o e]; exact c
    · by_cases e : q = p
      · rw [e, updP_s]; exact hi
      · rw [updP_o e]; exact d
  · by_cases e : q = p
    · rw [e, updP_s]; exact hb _ _ (n2 p hp)
    · rw [updP_o e]; exact n2 q hq
  · by_cases e : q = p
    · rw [e, updP_s]; rw [e] at hq; exact ⟨Nat.le_trans (hz sz) (n3 p hq).1, (n3 p hq).2⟩
    · rw [updP_o e]; exact n3 q hq
  · by_cases e : 3 = p
    · rw [e, updP_s]; rw [e] at n4; exact Nat.le_trans (hz sz) n4
    · rw [updP_o e]; exact n4
theorem swp_ok {Q : Pr} {x1 x2 : Int} (hG : GQ Q) (h : maySw Q x1 x2) : GQ (swpQ Q x1 x2) := by
  obtain ⟨h1, h2, h3, h4, h5⟩ := h
  obtain ⟨p, rfl, hp4, hp⟩ := thr_n hG.1 h1
  unfold swpQ
  rw [Int.toNat_natCast] at *
  have hk : x2.toNat + 1 < (Q.2.1 p).length := by omega
  generalize x2.toNat = k at *
  refine hG.put hp (by rw [swp_len hk]; exact (hG.1.2 p hp).2.2.1) (fun nd n hb => ?_) (fun sz => ?_) (fun i hi => ?_)
  · obtain ⟨-, r⟩ := bal_run n _ hb
    obtain ⟨m, m1, m2, m3⟩ := r _ [itm (Q.2.1 p) k, itm (Q.2.1 p) (k + 1)] _ (cut2 hk) (by simp) (fun i hi => by
      rcases List.mem_cons.mp hi with z | z
      · rw [z]; exact h4
      · rw [List.mem_singleton] at z; rw [z]; exact h5)
    obtain ⟨a1, a2⟩ := bal_inv m2 h4
    obtain ⟨a3, -⟩ := bal_inv a2 h5
    exact m3 _ (bal_cons a3 (bal_one a1))
  · rw [cut2 hk]
    show szL sz (swp _ k) ≤ _
    rw [← cut2 hk]
    have e1 : szL sz (Q.2.1 p) = szL sz ((Q.2.1 p).take k) + (szL sz [itm (Q.2.1 p) k, itm (Q.2.1 p) (k + 1)] + szL sz ((Q.2.1 p).drop (k + 2))) := by
      rw [← szL_app, ← szL_app, ← cut2 hk]
    unfold swp
    rw [szL_app, szL_app, e1]
    show _ + ((_ + (_ + 0)) + _) ≤ _ + ((_ + (_ + 0)) + _)
    omega
  · have ok := (hG.1.2 p hp).2.2.2
    unfold swp at hi
    rcases List.mem_append.mp hi with z | z
    · exact ok i (List.mem_of_mem_take z)
    · rcases List.mem_append.mp z with z | z
      · rcases List.mem_cons.mp z with z | z
        · rw [z]; exact ok _ (itm_mem hk)
        · rw [List.mem_singleton] at z; rw [z]; exact ok _ (itm_mem (by omega))
      · exact ok i (List.mem_of_mem_drop z)
section
variable {N : Nat} {A : zA}
theorem exch_run {o : Nat} {k : Nat} (ho : pto.contains o = true) (hk : (k : Int) + 1 < cn A o) (hI : PI A o) : ∀ (r m f : Nat) (B : zA), m + r = 5 → r < f → cF [o] A B → (∀ q, zi B o q = zi A o q) → (∀ f', yl B o f' = yl A o f') → (∀ e, yv B o 1 e = yv A o 1 e) → (∀ (a i : Nat), i < 5 → cw B o a i = if i < m ∧ a = k then cw A o (k + 1) i else if i < m ∧ a = k + 1 then cw A o k i else cw A o a i) → ∃ C, z_Pt_exchange_18_l N f o k (k + 1) m B = some C ∧ cF [o] A C ∧ (∀ q, zi C o q = zi A o q) ∧ (∀ f', yl C o f' = yl A o f') ∧ (∀ e, yv C o 1 e = yv A o 1 e) ∧ (∀ (a i : Nat), i < 5 → cw C o a i = if a = k then cw A o (k + 1) i else if a = k + 1 then cw A o k i else cw A o a i) := by
  have hd := pto_dy ho
  obtain ⟨p1, p2, p3, p4, p5, p6⟩ := hI
  intro r
  induction r with
  | zero =>
    intro m f B h1 h2 hF hz hl hy hw
    obtain ⟨g, rfl⟩ : ∃ g, f = g + 1 := ⟨f - 1, by omega⟩
    refine ⟨B, ?_, hF, hz, hl, hy, fun a i hi => ?_⟩
    · show z_Pt_exchange_18_b (z_Pt_exchange_18_l N g) N o k (k + 1) m B = _
      unfold z_Pt_exchange_18_b
      rw [if_neg (by omega)]
    · rw [hw a i hi]
      by_cases c1 : a = k
      · rw [if_pos ⟨by omega, c1⟩, if_pos c1]
      · rw [if_neg (fun z => c1 z.2), if_neg c1]
        by_cases c2 : a = k + 1
        · rw [if_pos ⟨by omega, c2⟩, if_pos c2]
        · rw [if_neg (fun z => c2 z.2), if_neg c2]
  | succ r ih =>
    intro m f B h1 h2 hF hz hl hy hw
    obtain ⟨g, rfl⟩ : ∃ g, f = g + 1 := ⟨f - 1, by omega⟩
    have w1 : zw ((m : Int) + 1) = ((m + 1 : Nat) : Int) := by rw [yb_w (by omega) (by omega)]; omega
    have hO := hF.own
    have l0 := hl 0
    have l1 := hl 1
    have rgA := fun e => ri_rg A (yc A o 0) e
    have e1 : yv B o 0 (k * 5 + m) = cw A o k m := by
      have := hw k m (by omega)
      rw [if_neg (by omega), if_neg (by omega)] at this
      unfold cw at this ⊢
      rw [Int.mul_comm]; exact this
    have e2 : yv B o 0 ((k + 1) * 5 + m) = cw A o (k + 1) m := by
      have := hw (k + 1) m (by omega)
      rw [if_neg (by omega), if_neg (by omega)] at this
      unfold cw at this ⊢
      rw [Int.mul_comm, show ((k : Int) + 1) = ((k + 1 : Nat) : Int) by omega]; exact this
    have rg : ∀ a i : Int, -2147483648 ≤ cw A o a i ∧ cw A o a i < 2147483648 := fun a i => ri_rg A _ _
    have st : z_Pt_exchange_18_l N (g + 1) o k (k + 1) m B = z_Pt_exchange_18_l N g o k (k + 1) ((m + 1 : Nat) : Int) (ys (ys B o 0 (k * 5 + m) (cw A o (k + 1) m)) o 0 ((k + 1) * 5 + m) (cw A o k m)) := by
      show z_Pt_exchange_18_b (z_Pt_exchange_18_l N g) N o k (k + 1) m B = _
      unfold z_Pt_exchange_18_b
      have hO1 : Own (ys B o 0 (k * 5 + m) (cw A o (k + 1) m)) := hO
      have hyc : yc (ys B o 0 (k * 5 + m) (cw A o (k + 1) m)) o 0 = yc B o 0 := rfl
      have hyl : yl (ys B o 0 (k * 5 + m) (cw A o (k + 1) m)) o 0 = yl B o 0 := rfl
      rw [if_pos (by omega), zgr_d hO hd (by decide), zrD_d hO hd (by decide) (by omega) (by omega), e1, zgr_d hO hd (by decide), zgr_d hO hd (by decide), zrD_d hO hd (by decide) (by omega) (by omega), e2, zwD_d hO hd (by decide) (by omega) (by omega), zgr_d hO1 hd (by decide), zwD_d hO1 hd (by decide) (by omega) (by omega), w1]
    rw [st]
    have hO1 : Own (ys B o 0 (k * 5 + m) (cw A o (k + 1) m)) := hO
    refine ih (m + 1) g _ (by omega) (by omega) ((hF.trans (cF_ys hO hd (by decide) (cont1 o))).trans (cF_ys hO1 hd (by decide) (cont1 o))) (fun q => by rw [zi_ys hO1 hd (by decide) (pto_fx ho), zi_ys hO hd (by decide) (pto_fx ho)]; exact hz q) (fun f' => hl f') (fun e => by rw [yv_ys_o hO1 hd (by decide) hd (by decide) (by omega), yv_ys_o hO hd (by decide) hd (by decide) (by omega)]; exact hy e) (fun a i hi => ?_)
    unfold cw at hw ⊢
    have rgy : ∀ e : Int, zw (yv A o 0 e) = yv A o 0 e := fun e => yb_w (ri_rg A _ _).1 (ri_rg A _ _).2
    rw [yv_ys (by omega) (by omega), yv_ys (by omega) (by omega), rgy, rgy]
    by_cases c : i = m
    · subst c
      by_cases c2 : a = k + 1
      · subst c2
        rw [if_pos (by omega), if_neg (by omega), if_pos ⟨by omega, rfl⟩]
      · rw [if_neg (by omega)]
        by_cases c1 : a = k
        · subst c1
          rw [if_pos (by omega), if_pos ⟨by omega, rfl⟩]
        · rw [if_neg (by omega), if_neg (by omega), if_neg (by omega), hw a i hi, if_neg (by omega), if_neg (by omega)]
    · rw [if_neg (by omega), if_neg (by omega), hw a i hi]
      by_cases c1 : i < m ∧ a = k
      · rw [if_pos c1, if_pos ⟨by omega, c1.2⟩]
      · rw [if_neg c1]
        by_cases c2 : i < m ∧ a = k + 1
        · rw [if_pos c2, if_neg (by omega), if_pos ⟨by omega, c2.2⟩]
        · rw [if_neg c2, if_neg (by omega), if_neg (by omega)]
end
