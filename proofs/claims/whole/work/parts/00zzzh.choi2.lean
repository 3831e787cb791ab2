section
variable {N : Nat} {A : zA} {o : Nat} {X : List It} {g T p h k t e : Nat}
theorem c_may_run (ho : pto.contains o = true) (hO : Own A) (hS : STA A) (hc : CP A o X g) (hoi : okI T p h (itm X k)) (h60 : h ≤ 60) (hk : k < X.length) (hw : WR A X (t + 1) (e - (t + 1))) : ∀ (r n f : Nat), ((n + r : Nat) : Int) = rdk (itm X k).1 → r < f → z_Mv_mayGoAhead_35_l N f o k n A = some (cif (∀ m : Nat, n ≤ m → (m : Int) < rdk (itm X k).1 → cS X (ig (itm X k) ((frk (itm X k).1).toNat + m + 1)) (t + 1) (e - (t + 1)) = 0) 1 0) := by
  have hoi0 := hoi
  obtain ⟨o1, o2, o3, -⟩ := hoi
  have hvk := nbk_v o1 o2
  have rd2 : rdk (itm X k).1 ≤ 2 := by unfold rdk; repeat' split <;> omega
  have fr1 : 0 ≤ frk (itm X k).1 ∧ frk (itm X k).1 ≤ 1 := by unfold frk; split <;> omega
  obtain ⟨rr1, rr2⟩ := cp_reads (N := N) hO ho hS hc hoi0 hk
  intro r
  induction r with
  | zero =>
    intro n f h1 h2
    obtain ⟨u, rfl⟩ : ∃ u, f = u + 1 := ⟨f - 1, by omega⟩
    show z_Mv_mayGoAhead_35_b (z_Mv_mayGoAhead_35_l N u) N o k n A = _
    unfold z_Mv_mayGoAhead_35_b
    rw [rr1, zbP_s, if_neg (by omega), cif_pos (fun m m1 m2 => by omega)]
  | succ r ih =>
    intro n f h1 h2
    obtain ⟨u, rfl⟩ : ∃ u, f = u + 1 := ⟨f - 1, by omega⟩
    have w1 : zw ((n : Int) + 1) = ((n + 1 : Nat) : Int) := by rw [yb_w (by omega) (by omega)]; omega
    obtain ⟨wh, hwh⟩ : ∃ wh : Nat, frk (itm X k).1 + (n : Int) = wh := ⟨(frk (itm X k).1 + n).toNat, by omega⟩
    have hwn : wh < nbk (itm X k).1 ∧ isr (itm X k).1 wh := by
      unfold isr
      unfold rdk at h1
      unfold frk at hwh
      repeat' split at h1
      all_goals repeat' split at hwh
      all_goals omega
    have ewh : (frk (itm X k).1).toNat + n + 1 = wh + 1 := by omega
    have hr := (o3 wh hwn.1).2.2 hwn.2
    obtain ⟨d, hd⟩ : ∃ d : Nat, ig (itm X k) (wh + 1) = d := ⟨(ig (itm X k) (wh + 1)).toNat, by omega⟩
    show z_Mv_mayGoAhead_35_b (z_Mv_mayGoAhead_35_l N u) N o k n A = _
    unfold z_Mv_mayGoAhead_35_b
    rw [rr1, zbP_s, if_pos (by omega), rr2 n (by omega) (by omega), zbP_s, hwh, cp_reg hO ho hc hoi0 h60 hk hwn.1 hwn.2, zbP_s, hd, zrd_ok (by omega) (by omega), hw d (by omega), w1]
    by_cases c : cS X (d : Int) (t + 1) (e - (t + 1)) = 0
    · rw [if_pos (by omega), ih (n + 1) u (by omega) (by omega)]
      by_cases z : ∀ m : Nat, n + 1 ≤ m → (m : Int) < rdk (itm X k).1 → cS X (ig (itm X k) ((frk (itm X k).1).toNat + m + 1)) (t + 1) (e - (t + 1)) = 0
      · rw [cif_pos z, cif_pos (fun m m1 m2 => by
          by_cases y : m = n
          · rw [y, ewh, hd]; exact c
          · exact z m (by omega) m2)]
      · rw [cif_neg z, cif_neg (fun y => z (fun m m1 m2 => y m (by omega) m2))]
    · rw [if_neg (by omega), cif_neg (fun y => c (by have := y n (Nat.le_refl _) (by omega); rw [ewh, hd] at this; exact this))]
theorem c_may (hN : 300000 ≤ N) (ho : pto.contains o = true) (hO : Own A) (hS : STA A) (hc : CP A o X g) (hoi : okI T p h (itm X k)) (h60 : h ≤ 60) (hk : k < X.length) (h1 : t < k) (h2 : k < e) (he : 8 ≤ (itm X e).1) (hw : WR A X (t + 1) (e - (t + 1))) : z_Mv_mayGoAhead N o k A = some (cif (stdy X t e k) 1 0) := by
  have hst := stdy_c (X := X) h1 h2 he hoi
  have hoi0 := hoi
  obtain ⟨o1, o2, o3, -⟩ := hoi
  have hvk := nbk_v o1 o2
  have rd0 : 0 ≤ rdk (itm X k).1 ∧ rdk (itm X k).1 ≤ 2 := by unfold rdk; repeat' split <;> omega
  unfold z_Mv_mayGoAhead
  rw [cp_writ hO ho hc hoi0 h60 hk, zbP_s, cp_harm hO ho hc hoi0 hk, zbP_s]
  by_cases c1 : hrm (itm X k)
  · rw [cif_pos c1, if_neg (by decide)]
    by_cases c2 : wri (itm X k) < 7
    · rw [if_pos c2, cif_neg (fun z => by have := (hst.mp z).2.1; omega)]
    · have hkk : (itm X k).1 ≤ 3 ∨ (itm X k).1 = 5 := by
        unfold wri at c2
        split at c2
        · assumption
        · omega
      have hr := (o3 0 (by omega)).2.2 (by unfold isr; omega)
      have hr : 0 ≤ ig (itm X k) 1 ∧ ig (itm X k) 1 < h := hr
      have hwv : wri (itm X k) = ig (itm X k) 1 := by unfold wri; rw [if_pos hkk]
      obtain ⟨d, hd⟩ : ∃ d : Nat, wri (itm X k) = d := ⟨(wri (itm X k)).toNat, by omega⟩
      rw [if_neg c2, hd, zrd_ok (by omega) (by omega), hw d (by omega)]
      rw [hd] at hst
      by_cases c3 : cS X (d : Int) (t + 1) (e - (t + 1)) = 1
      · have hrun := c_may_run (N := N) (t := t) (e := e) ho hO hS hc hoi0 h60 hk hw (rdk (itm X k).1).toNat 0 N (by omega) (by omega)
        rw [show ((0 : Nat) : Int) = 0 from rfl] at hrun
        unfold z_Mv_mayGoAhead_35
        rw [if_pos (by omega), hrun]
        by_cases z : ∀ m : Nat, 0 ≤ m → (m : Int) < rdk (itm X k).1 → cS X (ig (itm X k) ((frk (itm X k).1).toNat + m + 1)) (t + 1) (e - (t + 1)) = 0
        · rw [cif_pos z, cif_pos (hst.mpr ⟨c1, by omega, c3, fun n hn => z n (by omega) hn⟩)]
        · rw [cif_neg z, cif_neg (fun y => z (fun m _ m2 => (hst.mp y).2.2.2 m m2))]
      · rw [if_neg (by omega), cif_neg (fun y => c3 (hst.mp y).2.2.1)]
  · rw [cif_neg c1, if_pos rfl, cif_neg (fun z => c1 z.1)]
theorem mup_self (hk : k < X.length) : mup X k k = X := by
  unfold mup
  rw [Nat.sub_self, List.take_zero, List.nil_append]
  exact (cut1 hk).symm
theorem c_bubble {r27 : Nat → Int → Int → Int → Int → zA → Option (Int × zA)} {w : Nat} {x3 : Int} {mv : Nat} (hN : 300000 ≤ N) (ho : pto.contains o = true) (hk : k < X.length) (hl : X.length ≤ 240) (ht : w + mv = t) (htk : t ≤ k) : ∀ (r i f : Nat) (B : zA), t + r = i → i ≤ k → r < f → Own B → CP B o (mup X i k) g → ∃ C, z_Mv_hoistAhead_63_l r27 N f o w x3 mv k i B = r27 o w x3 (zw ((mv : Int) + 1)) (zw ((k : Int) + 1)) C ∧ CP C o (mup X t k) g ∧ cF [o] B C := by
  intro r
  induction r with
  | zero =>
    intro i f B h1 h2 h3 hO hc
    obtain ⟨u, rfl⟩ : ∃ u, f = u + 1 := ⟨f - 1, by omega⟩
    have : i = t := by omega
    subst this
    refine ⟨B, ?_, hc, cF.refl _ hO⟩
    show z_Mv_hoistAhead_63_b r27 (z_Mv_hoistAhead_63_l r27 N u) N o w x3 mv k i B = _
    unfold z_Mv_hoistAhead_63_b
    rw [yb_w (by omega) (by omega), if_neg (by omega)]
  | succ r ih =>
    intro i f B h1 h2 h3 hO hc
    obtain ⟨u, rfl⟩ : ∃ u, f = u + 1 := ⟨f - 1, by omega⟩
    obtain ⟨i', rfl⟩ : ∃ i', i = i' + 1 := ⟨i - 1, by omega⟩
    have hlm := mup_len (X := X) (t := i' + 1) (k := k) h2 hk
    obtain ⟨C, c1, c2, c3⟩ := CP_exch (N := N) (a := i' + 1) (b := i') (Y := mup X i' k) hN hO ho hc (by omega) (by omega) (by omega) (by rw [hlm, mup_len (by omega) hk]) (fun m hm => by
      rw [hlm] at hm
      rw [mup_itm (by omega) hk hm, mup_itm h2 hk (by omega), mup_itm h2 hk (by omega), mup_itm h2 hk hm]
      by_cases c1 : m = i' + 1
      · subst c1
        rw [if_neg (by omega), if_neg (by omega), if_pos (by omega), if_pos rfl, if_pos (by omega)]
        congr 1
      · by_cases c2 : m = i'
        · subst c2
          rw [if_neg (by omega), if_pos rfl, if_neg (by omega), if_pos rfl, if_neg (by omega), if_pos rfl]
        · by_cases c3 : m < i'
          · rw [if_pos c3, if_neg c1, if_neg c2, if_pos (by omega)]
          · have c4 : ¬ m < i' + 1 := by omega
            simp only [if_neg c1, if_neg c2, if_neg c3, if_neg c4])
    have st : z_Mv_hoistAhead_63_l r27 N (u + 1) o w x3 mv k ((i' + 1 : Nat) : Int) B = z_Mv_hoistAhead_63_l r27 N u o w x3 mv k (i' : Int) C := by
      show z_Mv_hoistAhead_63_b r27 (z_Mv_hoistAhead_63_l r27 N u) N o w x3 mv k ((i' + 1 : Nat) : Int) B = _
      unfold z_Mv_hoistAhead_63_b
      rw [yb_w (by omega) (by omega), if_pos (by omega), yb_w (by omega) (by omega), show (((i' + 1 : Nat) : Int) - 1) = (i' : Int) by omega, c1, zbV_s, yb_w (by omega) (by omega), show (((i' + 1 : Nat) : Int) + -1) = (i' : Int) by omega]
    obtain ⟨D, d1, d2, d3⟩ := ih i' u C (by omega) (by omega) (by omega) c3.own c2
    exact ⟨D, by rw [st, d1], d2, c3.trans d3⟩
end
section
variable {N : Nat} {A : zA} {o : Nat} {X : List It} {g T p h w m e : Nat}
/-- the items ahead of DO -/
theorem c_ahead_run (hN : 300000 ≤ N) (ho : pto.contains o = true) (hoc : 3 < o) (h109 : o ≠ 109) (hok : okL T p h X) (h60 : h ≤ 60) (hl : X.length ≤ 240) (hw10 : (itm X w).1 = 10) (hp : ∀ q, w < q → q < m → 0 ≤ (itm X q).1 ∧ (itm X q).1 ≤ 6) (hwm : w < m) (hme : m < e) (heX : e < X.length) (he12 : (itm X e).1 = 12) : ∀ (r j f : Nat) (B : zA), w + 1 + j + r = m → r < f → Own B → STA B → cF [o, 109] A B → CP B o (hwS e w X j).1 g → WR B (hwS e w X j).1 ((hwS e w X j).2 + 1) (e - ((hwS e w X j).2 + 1)) → ∃ C, z_Mv_hoistAhead_27_l N f o w m (((hwS e w X j).2 - w : Nat) : Int) ((w + 1 + j : Nat) : Int) B = some ((((hwS e w X (m - (w + 1))).2 - w : Nat) : Int), C) ∧ CP C o (hwS e w X (m - (w + 1))).1 g ∧ cF [o, 109] A C := by
  have i1 : ∀ {Y Z : zA}, cF [109] Y Z → cF [o, 109] Y Z := fun f => f.mono (fun a ha => by
    simp only [List.contains_iff_mem, List.mem_cons, List.not_mem_nil, or_false] at ha ⊢
    exact Or.inr ha)
  have i2 : ∀ {Y Z : zA}, cF [o] Y Z → cF [o, 109] Y Z := fun f => f.mono (fun a ha => by
    simp only [List.contains_iff_mem, List.mem_cons, List.not_mem_nil, or_false] at ha ⊢
    exact Or.inl ha)
  intro r
  induction r with
  | zero =>
    intro j f B h1 h2 hO hS hF hc hwr
    obtain ⟨u, rfl⟩ : ∃ u, f = u + 1 := ⟨f - 1, by omega⟩
    have hj : j = m - (w + 1) := by omega
    subst hj
    refine ⟨B, ?_, hc, hF⟩
    show z_Mv_hoistAhead_27_b (z_Mv_hoistAhead_27_l N u) N o w m _ _ B = _
    unfold z_Mv_hoistAhead_27_b
    rw [if_neg (by omega)]
  | succ r ih =>
    intro j f B h1 h2 hO hS hF hc hwr
    obtain ⟨u, rfl⟩ : ∃ u, f = u + 1 := ⟨f - 1, by omega⟩
    obtain ⟨a1, a2, a3, a4, a5, a6, a7, a8, a9, a10, a11⟩ := hwS_inv (e := e) (w := w) (m := m) (X := X) (by omega) hw10 hp j (by omega)
    have hsucc : hwS e w X (j + 1) = hw1 e (hwS e w X j) (w + 1 + j) := rfl
    have hkX : w + 1 + j < (hwS e w X j).1.length := by omega
    have hoi := hok _ (a11 _ (itm_mem hkX))
    have he' : 8 ≤ (itm (hwS e w X j).1 e).1 := by rw [a6 e (by omega), he12]; decide
    have hmay := c_may (N := N) (t := (hwS e w X j).2) (e := e) hN ho hO hS hc hoi h60 hkX (by omega) (by omega) he' hwr
    have w1 : zw (((w + 1 + j : Nat) : Int) + 1) = ((w + 1 + (j + 1) : Nat) : Int) := by rw [yb_w (by omega) (by omega)]; omega
    have st : z_Mv_hoistAhead_27_l N (u + 1) o w m (((hwS e w X j).2 - w : Nat) : Int) ((w + 1 + j : Nat) : Int) B = z_Mv_hoistAhead_27_b (z_Mv_hoistAhead_27_l N u) N o w m (((hwS e w X j).2 - w : Nat) : Int) ((w + 1 + j : Nat) : Int) B := rfl
    unfold z_Mv_hoistAhead_27_b at st
    rw [if_pos (by omega), hmay, zbP_s] at st
    by_cases c : stdy (hwS e w X j).1 (hwS e w X j).2 e (w + 1 + j)
    · rw [cif_pos c, if_neg (by decide)] at st
      unfold hw1 at hsucc
      rw [cif_pos c] at hsucc
      obtain ⟨o1, o2, o3, -⟩ := id hoi
      have hvk := nbk_v o1 o2
      have c7 := c.2.1
      have hkk : (itm (hwS e w X j).1 (w + 1 + j)).1 ≤ 3 ∨ (itm (hwS e w X j).1 (w + 1 + j)).1 = 5 := by
        unfold wri at c7
        split at c7
        · assumption
        · omega
      have hr := (o3 0 (by omega)).2.2 (by unfold isr; omega)
      have hr : 0 ≤ ig (itm (hwS e w X j).1 (w + 1 + j)) 1 ∧ ig (itm (hwS e w X j).1 (w + 1 + j)) 1 < h := hr
      have hwv : wri (itm (hwS e w X j).1 (w + 1 + j)) = ig (itm (hwS e w X j).1 (w + 1 + j)) 1 := by unfold wri; rw [if_pos hkk]
      obtain ⟨d, hd⟩ : ∃ d : Nat, wri (itm (hwS e w X j).1 (w + 1 + j)) = d := ⟨(wri (itm (hwS e w X j).1 (w + 1 + j))).toNat, by omega⟩
      have hreg := cp_reg (N := N) (i := 0) hO ho hc hoi h60 hkX (by omega) (by unfold isr; omega)
      rw [show ((0 : Nat) : Int) = 0 from rfl] at hreg
      have hreg : z_Pt_register N o ((w + 1 + j : Nat) : Int) 0 B = some (d : Int) := by rw [hreg, ← hd, hwv]
      have hrd := hwr d (by omega)
      have hcl := cS_le (X := (hwS e w X j).1) (r := (d : Int)) (a := (hwS e w X j).2 + 1) (e - ((hwS e w X j).2 + 1))
      rw [hreg, zbP_s, zrd_ok (by omega) (by omega), hrd, zwr_ok (by omega) (by omega)] at st
      have f1 : cF [109] B (rs B 109 d ((cS (hwS e w X j).1 (d : Int) ((hwS e w X j).2 + 1) (e - ((hwS e w X j).2 + 1)) : Int) - 1)) := cF109 hO
      have hwr1 : ∀ r : Nat, r < 60 → ri (rs B 109 d ((cS (hwS e w X j).1 (d : Int) ((hwS e w X j).2 + 1) (e - ((hwS e w X j).2 + 1)) : Int) - 1)) 109 r = cS (mup (hwS e w X j).1 (hwS e w X j).2 (w + 1 + j)) r ((hwS e w X j).2 + 2) (e - ((hwS e w X j).2 + 2)) := fun r hr60 => by
        have hm := cS_mup (X := (hwS e w X j).1) (r := (r : Int)) (t := (hwS e w X j).2) (k := w + 1 + j) (e := e) (by omega) (by omega) (by omega)
        rw [ri_rs (by omega) (by omega), yb_w (by omega) (by omega)]
        by_cases y : r = d
        · subst y
          rw [if_pos rfl]
          rw [cif_pos (show spl (itm (hwS e w X j).1 (w + 1 + j)) (r : Int) from Or.inr ⟨by omega, hd⟩)] at hm
          omega
        · rw [if_neg (by omega), hwr r hr60]
          rw [cif_neg (fun z => by unfold spl at z; omega)] at hm
          omega
      generalize rs B 109 d ((cS (hwS e w X j).1 (d : Int) ((hwS e w X j).2 + 1) (e - ((hwS e w X j).2 + 1)) : Int) - 1) = B1 at *
      have hc1 := hc.fr ho f1 (cont2 h109)
      obtain ⟨C, c1, c2, c3⟩ := c_bubble (N := N) (r27 := z_Mv_hoistAhead_27_l N u) (w := w) (x3 := (m : Int)) (mv := (hwS e w X j).2 - w) (t := (hwS e w X j).2) hN ho hkX (by omega) (by omega) (by omega) (w + 1 + j - (hwS e w X j).2) (w + 1 + j) N B1 (by omega) (Nat.le_refl _) (by omega) f1.own (by rw [mup_self hkX]; exact hc1)
      unfold z_Mv_hoistAhead_63 at st
      rw [st, c1, w1]
      have hS1 := (hS.fr f1 (by decide) (by decide) (by decide)).fr c3 (cont2 (by omega)) (cont2 (by omega)) (cont2 (by omega))
      have hmv : zw ((((hwS e w X j).2 - w : Nat) : Int) + 1) = (((hwS e w X (j + 1)).2 - w : Nat) : Int) := by
        rw [hsucc, yb_w (by omega) (by omega)]
        show _ = (((hwS e w X j).2 + 1 - w : Nat) : Int)
        omega
      rw [hmv]
      refine ih (j + 1) u C (by omega) (by omega) c3.own hS1 ((hF.trans (i1 f1)).trans (i2 c3)) (by rw [hsucc]; exact c2) ?_
      rw [hsucc]
      intro r hr60
      rw [c3.e (by decide) (cont2 (fun z => h109 z.symm))]
      exact hwr1 r hr60
    · rw [cif_neg c, if_pos rfl, w1] at st
      unfold hw1 at hsucc
      rw [cif_neg c] at hsucc
      have := ih (j + 1) u B (by omega) (by omega) hO hS hF (by rw [hsucc]; exact hc) (by rw [hsucc]; exact hwr)
      rw [hsucc] at this
      rw [st]
      exact this
end
