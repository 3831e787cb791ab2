theorem set_last {X : List It} {i j : It} : (X ++ [i]).set X.length j = X ++ [j] := by
  rw [List.set_append_right _ _ (Nat.le_refl _), Nat.sub_self]
  rfl
section
variable {N : Nat} {A : zA} {o q : Nat} {X W : List It} {g h T p' : Nat}
theorem c_putIn_run {b : Int} (hN : 300000 ≤ N) (ho : pto.contains o = true) (hq : pto.contains q = true) (hne : q ≠ o) (hn3 : 3 < o) (hW : okL T p' h W) (h60 : h ≤ 60) (hb0 : 0 ≤ b) (hb : b ≤ 60) (hl : X.length + W.length ≤ 240) : ∀ (r j f : Nat) (B : zA), j + r = W.length → r < f → Own B → STA B → cF [o] A B → CP B o (X ++ (W.take j).map (shf b)) g → CP B q W h → ∃ C, z_Mv_putIn_21_l N f q o b j B = z_Mv_putIn_54 N q o C ∧ Own C ∧ cF [o] A C ∧ CP C o (X ++ W.map (shf b)) g ∧ CP C q W h := by
  intro r
  induction r with
  | zero =>
    intro j f B h1 h2 hO hS hF hc hw
    obtain ⟨u, rfl⟩ : ∃ u, f = u + 1 := ⟨f - 1, by omega⟩
    refine ⟨B, ?_, hO, hF, ?_, hw⟩
    · show z_Mv_putIn_21_b (z_Mv_putIn_21_l N u) N q o b j B = _
      unfold z_Mv_putIn_21_b
      have : zi B q 2 = W.length := hw.2.1
      rw [this, if_neg (by omega)]
    · rw [show j = W.length by omega, List.take_length] at hc
      exact hc
  | succ r ih =>
    intro j f B h1 h2 hO hS hF hc hw
    obtain ⟨u, rfl⟩ : ∃ u, f = u + 1 := ⟨f - 1, by omega⟩
    have w1 : zw ((j : Int) + 1) = ((j + 1 : Nat) : Int) := by rw [yb_w (by omega) (by omega)]; omega
    have hj : j < W.length := by omega
    have hlen : (X ++ (W.take j).map (shf b)).length = X.length + j := by
      rw [List.length_append, List.length_map, List.length_take]
      omega
    obtain ⟨C, c1, c2, c3⟩ := CP_copy (N := N) hO ho hq hne hc hw (by omega) hj
    have hzw : zi B q 2 = W.length := hw.2.1
    have hzc : zi C o 2 = ((X.length + j + 1 : Nat) : Int) := by
      have := c2.2.1
      rw [List.length_append, hlen] at this
      exact this
    have hS' := hS.fr c3 (cont2 (by omega)) (cont2 (by omega)) (cont2 (by omega))
    obtain ⟨D, d1, d2, d3⟩ := c_shift (N := N) (b := b) (k := X.length + j) hN c3.own ho hS' hn3 c2 (by rw [List.length_append, hlen]; simp) (by rw [← hlen, itm_app2]; exact hW _ (itm_mem hj)) h60 hb0 hb
    have st : z_Mv_putIn_21_l N (u + 1) q o b j B = z_Mv_putIn_21_l N u q o b ((j + 1 : Nat) : Int) D := by
      show z_Mv_putIn_21_b (z_Mv_putIn_21_l N u) N q o b j B = _
      unfold z_Mv_putIn_21_b
      rw [hzw, if_pos (by omega), c1, zbV_s, hzc, show (((X.length + j + 1 : Nat) : Int) - 1) = ((X.length + j : Nat) : Int) by omega, yb_w (by omega) (by omega), d1, zbV_s, w1]
    rw [st]
    refine ih (j + 1) u D (by omega) (by omega) d2.own (hS'.fr d2 (cont2 (by omega)) (cont2 (by omega)) (cont2 (by omega))) ((hF.trans c3).trans d2) ?_ ((hw.fr hq c3 (cont2 hne)).fr hq d2 (cont2 hne))
    rw [← hlen, itm_app2, set_last] at d3
    rw [List.take_succ_eq_append_getElem hj, List.map_append, ← itm_get hj, ← List.append_assoc]
    exact d3
theorem c_putIn {s : Int} (hN : 300000 ≤ N) (hO : Own A) (hS : STA A) (ho : pto.contains o = true) (hq : pto.contains q = true) (hne : q ≠ o) (hn3 : 3 < o) (hc : CP A o X g) (hw : CP A q W h) (hW : okL T p' h W) (h7 : 7 ≤ h) (h60 : h ≤ 60) (g7 : 7 ≤ g) (hgh : g + h ≤ 66) (hs : zw s = s) (hl : X.length + 1 + W.length ≤ 240) : ∃ B, z_Mv_putIn N q o s A = some B ∧ CP B o (X ++ ((1, (g : Int), s, 0, 0) :: W.map (shf ((g : Int) - 6)))) (g + h - 6) ∧ cF [o] A B := by
  have hg : zi A o 3 = g := hc.2.2.1
  obtain ⟨B, b1, b2, b3⟩ := CP_add (N := N) (x := 1) (y := (g : Int)) (z := s) hO ho hc (by omega) (by decide) (yb_w (by omega) (by omega)) hs (by decide)
  have hS' := hS.fr b3 (cont2 (by omega)) (cont2 (by omega)) (cont2 (by omega))
  obtain ⟨C, c1, c2, c3, c4, c5⟩ := c_putIn_run (N := N) (A := A) (X := X ++ [(1, (g : Int), s, 0, 0)]) (b := (g : Int) - 6) hN ho hq hne hn3 hW h60 (by omega) (by omega) (by rw [List.length_append]; show X.length + 1 + W.length ≤ 240; omega) W.length 0 N B (by omega) (by omega) b3.own hS' b3 (by simpa using b2) (hw.fr hq b3 (cont2 hne))
  unfold z_Mv_putIn z_Mv_putIn_21
  rw [show ((0 : Nat) : Int) = 0 from rfl] at c1
  rw [hg, b1, zbV_s, yb_w (by omega) (by omega), c1]
  unfold z_Mv_putIn_54
  have e1 : zi C o 3 = g := c4.2.2.1
  have e2 : zi C q 3 = h := c5.2.2.1
  rw [e1, e2, zlet_s]
  have f : cF [o] C (zsi C o 3 ((g : Int) + ((h : Int) - 6))) := cF_si c2 (pto_fx ho) (o_ne0 ho) (cont1 o)
  refine ⟨_, rfl, ?_, c3.trans f⟩
  obtain ⟨x1, x2, x3, x4⟩ := c4
  have hd := pto_dy ho
  have yy : ∀ e, yv (zsi C o 3 ((g : Int) + ((h : Int) - 6))) o 0 e = yv C o 0 e := fun e => yv_si c2 hd (by decide) (pto_fx ho)
  have hL : X ++ (1, (g : Int), s, 0, 0) :: W.map (shf ((g : Int) - 6)) = X ++ [(1, (g : Int), s, 0, 0)] ++ W.map (shf ((g : Int) - 6)) := by simp
  rw [hL]
  refine ⟨PI.of x1 (by rw [zi_si_j (by decide)]) rfl rfl, by unfold cn at *; rw [zi_si_j (by decide)]; exact x2, by unfold cr; rw [zi_si_s, yb_w (by omega) (by omega)]; omega, fun k hk => ?_⟩
  unfold cw at *
  exact ⟨by rw [yy]; exact (x4 k hk).1, fun i hi => by rw [yy]; exact (x4 k hk).2 i hi⟩
end
section
variable {N : Nat} {A : zA} {R R' p : Nat} {Q : Pr}
theorem c_inl_run (hN : 300000 ≤ N) (hG : GQ Q) (hp : exP Q p) (hR : okR R) (hR' : okR R') (hne : R ≠ R') : ∀ (r k f : Nat) (B : zA), k + r = (Q.2.1 p).length → r < f → Own B → STA B → cF [R' + 2 + 3 * p] A B → CP B (R + 2 + 3 * p) (Q.2.1 p) (Q.2.2 p) → (∀ q, q < Q.1 → q ≠ p → CP B (R' + 2 + 3 * q) (Q.2.1 q) (Q.2.2 q)) → CP B (R' + 2 + 3 * p) (inS Q (Q.2.1 p) (Q.2.2 p) k).1 (inS Q (Q.2.1 p) (Q.2.2 p) k).2.1 → ∃ C, z_Mv_inline_14_l N f (R + 2 + 3 * p) (R' + 2 + 3 * p) R' ((inS Q (Q.2.1 p) (Q.2.2 p) k).2.2 : Int) k B = z_Mv_inline_105 N (R' + 2 + 3 * p) ((inS Q (Q.2.1 p) (Q.2.2 p) (Q.2.1 p).length).2.2 : Int) C ∧ Own C ∧ cF [R' + 2 + 3 * p] A C ∧ CP C (R' + 2 + 3 * p) (inS Q (Q.2.1 p) (Q.2.2 p) (Q.2.1 p).length).1 (inS Q (Q.2.1 p) (Q.2.2 p) (Q.2.1 p).length).2.1 := by
  have hp3 := exP3 hG.1 hp
  obtain ⟨g7, g60, gl, gok⟩ := hG.1.2 p hp
  obtain ⟨-, -, -, -, -, r6⟩ := rws_fr hR (show p < 4 by omega)
  obtain ⟨r1', -, -, -, -, r6'⟩ := rws_fr hR' (show p < 4 by omega)
  have hoo : R + 2 + 3 * p ≠ R' + 2 + 3 * p := by omega
  have hlen : ∀ k, k ≤ (Q.2.1 p).length → (inS Q (Q.2.1 p) (Q.2.2 p) k).1.length ≤ 150 ∧ (inS Q (Q.2.1 p) (Q.2.2 p) k).2.2 ≤ k := by
    intro k hk
    obtain ⟨-, -, -, i4⟩ := inS_inv (Q := Q) (p := p) (g := Q.2.2 p) (X := Q.2.1 p) hG hp3 gok g7 g60 k hk
    have hW := hG.n
    have h2 := (i4 _ _ hW).2
    have h1 := szL_len (sz := (wnC Q).2) (inS Q (Q.2.1 p) (Q.2.2 p) k).1
    have h3 : szL (wnC Q).2 (Q.2.1 p) ≤ 150 := by
      rcases hp with z | z
      · have := hW.2.2.1 p z; omega
      · rw [z]; exact hW.2.2.2
    have h4 : szL (wnC Q).2 ((Q.2.1 p).take k) ≤ szL (wnC Q).2 (Q.2.1 p) := by
      have := szL_app (sz := (wnC Q).2) ((Q.2.1 p).take k) ((Q.2.1 p).drop k)
      rw [List.take_append_drop] at this
      omega
    refine ⟨by omega, ?_⟩
    clear i4 h1 h2 h3 h4 hW
    induction k with
    | zero => exact Nat.le_refl _
    | succ k ih =>
      have := ih (by omega)
      rw [inS_s (by omega)]
      unfold inl1
      split
      · show _ + 1 ≤ k + 1; omega
      · show (inS Q (Q.2.1 p) (Q.2.2 p) k).2.2 ≤ k + 1; omega
  intro r
  induction r with
  | zero =>
    intro k f B h1 h2 hO hS hF hX hq hc
    obtain ⟨u, rfl⟩ : ∃ u, f = u + 1 := ⟨f - 1, by omega⟩
    have hkk : k = (Q.2.1 p).length := by omega
    subst hkk
    refine ⟨B, ?_, hO, hF, hc⟩
    show z_Mv_inline_14_b (z_Mv_inline_14_l N u) N _ _ _ _ _ B = _
    unfold z_Mv_inline_14_b
    have hz : zi B (R + 2 + 3 * p) 2 = (Q.2.1 p).length := hX.2.1
    rw [hz, if_neg (by omega)]
  | succ r ih =>
    intro k f B h1 h2 hO hS hF hX hq hc
    obtain ⟨u, rfl⟩ : ∃ u, f = u + 1 := ⟨f - 1, by omega⟩
    have hk : k < (Q.2.1 p).length := by omega
    have w1 : zw ((k : Int) + 1) = ((k + 1 : Nat) : Int) := by rw [yb_w (by omega) (by omega)]; omega
    have hz : zi B (R + 2 + 3 * p) 2 = (Q.2.1 p).length := hX.2.1
    obtain ⟨i1, i2, i3, -⟩ := inS_inv (Q := Q) (p := p) (g := Q.2.2 p) (X := Q.2.1 p) hG hp3 gok g7 g60 k (by omega)
    have hlk := hlen k (by omega)
    have hlk1 := hlen (k + 1) (by omega)
    rw [inS_s hk] at hlk1
    have hins := inS_s (Q := Q) (g := Q.2.2 p) hk
    -- what number(k, 1) is doesn't matter but for a CALL
    obtain ⟨v2, hv2, hv7⟩ : ∃ v2, z_Pt_number N (R + 2 + 3 * p) k 1 B = some v2 ∧ ((itm (Q.2.1 p) k).1 = 7 → v2 = ig (itm (Q.2.1 p) k) 2) := by
      by_cases c : (itm (Q.2.1 p) k).1 = 7
      · have := cp_num (N := N) (i := 1) hO r6 hX hk (by rw [c]; decide)
        exact ⟨_, this, fun _ => rfl⟩
      · obtain ⟨⟨p1, p2, p3, p4, p5, p6⟩, -⟩ := hX
        have hd := pto_dy r6
        refine ⟨yv B (R + 2 + 3 * p) 0 (k * 5 + 1 + 1), ?_, fun z => absurd z c⟩
        unfold z_Pt_number z_Pt_number_26
        unfold cn at p3
        rw [if_neg (by omega), hz, if_pos (by omega), if_neg (by decide), if_pos (by decide), if_neg (by decide), zgr_d hO hd (by decide), zrD_d hO hd (by decide) (by omega) (by omega)]
    have hkd := cp_kind (N := N) hO r6 hX hk
    -- the item is copied
    have h92 : ∃ C, z_Mv_inline_92 (z_Mv_inline_14_l N u) N (R + 2 + 3 * p) (R' + 2 + 3 * p) R' ((inS Q (Q.2.1 p) (Q.2.2 p) k).2.2 : Int) k B = z_Mv_inline_14_l N u (R + 2 + 3 * p) (R' + 2 + 3 * p) R' ((inS Q (Q.2.1 p) (Q.2.2 p) k).2.2 : Int) ((k + 1 : Nat) : Int) C ∧ cF [R' + 2 + 3 * p] B C ∧ CP C (R' + 2 + 3 * p) ((inS Q (Q.2.1 p) (Q.2.2 p) k).1 ++ [itm (Q.2.1 p) k]) (inS Q (Q.2.1 p) (Q.2.2 p) k).2.1 := by
      obtain ⟨C, c1, c2, c3⟩ := CP_copy (N := N) hO r6' r6 hoo hc hX (by omega) hk
      refine ⟨C, ?_, c3, c2⟩
      unfold z_Mv_inline_92
      rw [c1, zbV_s, w1]
    -- going on
    have go : ∀ (C : zA), cF [R' + 2 + 3 * p] B C → CP C (R' + 2 + 3 * p) (inS Q (Q.2.1 p) (Q.2.2 p) (k + 1)).1 (inS Q (Q.2.1 p) (Q.2.2 p) (k + 1)).2.1 → ∃ D, z_Mv_inline_14_l N u (R + 2 + 3 * p) (R' + 2 + 3 * p) R' ((inS Q (Q.2.1 p) (Q.2.2 p) (k + 1)).2.2 : Int) ((k + 1 : Nat) : Int) C = z_Mv_inline_105 N (R' + 2 + 3 * p) ((inS Q (Q.2.1 p) (Q.2.2 p) (Q.2.1 p).length).2.2 : Int) D ∧ Own D ∧ cF [R' + 2 + 3 * p] A D ∧ CP D (R' + 2 + 3 * p) (inS Q (Q.2.1 p) (Q.2.2 p) (Q.2.1 p).length).1 (inS Q (Q.2.1 p) (Q.2.2 p) (Q.2.1 p).length).2.1 := fun C fC cC => by
      have out : ∀ a, a ≠ R' + 2 + 3 * p → ([R' + 2 + 3 * p] : List Nat).contains a = false := fun a ha => cont2 ha
      exact ih (k + 1) u C (by omega) (by omega) fC.own (hS.fr fC (out _ (by omega)) (out _ (by unfold okR at hR'; omega)) (out _ (by unfold okR at hR'; omega))) (hF.trans fC) (hX.fr r6 fC (out _ hoo)) (fun q q1 q2 => by
        obtain ⟨-, -, -, -, -, u6⟩ := rws_fr hR' (show q < 4 by have := hG.1.1; omega)
        exact (hq q q1 q2).fr u6 fC (out _ (by omega))) cC
    have st : z_Mv_inline_14_l N (u + 1) (R + 2 + 3 * p) (R' + 2 + 3 * p) R' ((inS Q (Q.2.1 p) (Q.2.2 p) k).2.2 : Int) k B = z_Mv_inline_14_b (z_Mv_inline_14_l N u) N (R + 2 + 3 * p) (R' + 2 + 3 * p) R' ((inS Q (Q.2.1 p) (Q.2.2 p) k).2.2 : Int) k B := rfl
    unfold z_Mv_inline_14_b at st
    rw [hz, if_pos (by omega), hv2, zbP_s, hkd, zbP_s] at st
    rw [st]
    unfold inl1 at hins hlk1
    by_cases c7 : (itm (Q.2.1 p) k).1 = 7
    · rw [if_pos c7]
      have ev := hv7 c7
      obtain ⟨o1, o2, o3, o4, o5⟩ := gok _ (itm_mem hk)
      have ot := o5 c7
      have h33 := hG.1.1
      obtain ⟨q, hqq⟩ : ∃ q : Nat, ig (itm (Q.2.1 p) k) 2 = q := ⟨(ig (itm (Q.2.1 p) k) 2).toNat, by omega⟩
      have hqn : (ig (itm (Q.2.1 p) k) 2).toNat = q := by omega
      obtain ⟨q1, q2, q3, q4⟩ := hG.1.2 q (Or.inl (by omega))
      obtain ⟨s1, s2, s3, s4, s5, s6⟩ := rws_fr hR' (show q < 4 by omega)
      have hcq := hq q (by omega) (by omega)
      rw [ev, hqq, if_neg (by omega), if_pos (by omega), zgf_s s1, zfe_p hR' (show q < 4 by omega), zcs_s s5]
      have hfit : z_Mv_fitsIn N (R' + 2 + 3 * p) (R' + 2 + 3 * q) B = some (if (inS Q (Q.2.1 p) (Q.2.2 p) k).2.1 + Q.2.2 q ≤ 66 then 1 else 0) := by
        unfold z_Mv_fitsIn
        have e1 : zi B (R' + 2 + 3 * p) 3 = (inS Q (Q.2.1 p) (Q.2.2 p) k).2.1 := hc.2.2.1
        have e2 : zi B (R' + 2 + 3 * q) 3 = Q.2.2 q := hcq.2.2.1
        rw [e1, e2, yb_w (by omega) (by omega)]
        by_cases c : (inS Q (Q.2.1 p) (Q.2.2 p) k).2.1 + Q.2.2 q ≤ 66
        · rw [if_pos c, if_neg (by omega)]
        · rw [if_neg c, if_pos (by omega)]
      rw [hfit, zbP_s]
      rw [hqn] at hins hlk1
      by_cases cf : (inS Q (Q.2.1 p) (Q.2.2 p) k).2.1 + Q.2.2 q ≤ 66
      · rw [if_pos ⟨c7, cf⟩] at hins hlk1
        rw [if_pos cf, if_neg (by decide), zgf_s s1, zfe_p hR' (show q < 4 by omega), zcs_s s5]
        have hn0 := cp_num (N := N) (i := 0) hO r6 hX hk (by rw [c7]; decide)
        rw [show ((0 : Nat) : Int) = 0 from rfl] at hn0
        have hn0 : z_Pt_number N (R + 2 + 3 * p) k 0 B = some (ig (itm (Q.2.1 p) k) 1) := hn0
        have hr0 := o3 0 (by rw [c7]; decide)
        have hr0 : -2147483648 ≤ ig (itm (Q.2.1 p) k) 1 ∧ ig (itm (Q.2.1 p) k) 1 < 2147483648 ∧ _ := hr0
        have hll := hlk1.1
        dsimp only at hll
        rw [List.length_append, List.length_cons, List.length_map] at hll
        obtain ⟨C, c1, c2, c3⟩ := c_putIn (N := N) (q := R' + 2 + 3 * q) (s := ig (itm (Q.2.1 p) k) 1) hN hO hS r6' s6 (by omega) (by omega) hc hcq q4 q1 q2 (by omega) cf (yb_w hr0.1 hr0.2.1) (by omega)
        have hcc : zw (((inS Q (Q.2.1 p) (Q.2.2 p) k).2.2 : Int) + 1) = (((inS Q (Q.2.1 p) (Q.2.2 p) (k + 1)).2.2 : Nat) : Int) := by
          rw [hins, yb_w (by omega) (by omega)]
          show _ = (((inS Q (Q.2.1 p) (Q.2.2 p) k).2.2 + 1 : Nat) : Int)
          omega
        rw [hn0, zbP_s, c1, zbV_s, w1, hcc]
        refine go C c3 ?_
        rw [hins]
        exact c2
      · rw [if_neg (fun z => cf z.2)] at hins
        rw [if_neg cf, if_pos rfl]
        obtain ⟨C, c1, c2, c3⟩ := h92
        rw [c1]
        have := go C c2 (by rw [hins]; exact c3)
        rw [hins] at this
        exact this
    · rw [if_neg c7]
      rw [if_neg (fun z => c7 z.1)] at hins
      obtain ⟨C, c1, c2, c3⟩ := h92
      rw [c1]
      have := go C c2 (by rw [hins]; exact c3)
      rw [hins] at this
      exact this
end
