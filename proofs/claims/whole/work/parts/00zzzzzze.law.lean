/-! the law's loop: its function is written by wip/mj/genlaw.py -/
/-- PassChainLaw.law([I)Z -/
def z_Lw_law_23_b (r23 : Int → zA → Option (Int × zA)) (N : Nat) (x4 : Int) (A : zA) : Option (Int × zA) := zln A 0 fun v1 => (if (zw (v1 - 5)) < x4 then some (1, A) else zrD A 0 x4 fun v3 => (if (zan v3 15) = 0 then zrD A 0 (x4 + 1) fun v4 => zrD A 0 (x4 + 2) fun v5 => zbI (z_PC_put N v4 v5 A) fun v6 A7 => zrD A7 0 (x4 + 1) fun v8 => zrD A7 0 (x4 + 2) fun v9 => zbI (z_M_put N v8 v9 A7) fun v10 A11 => (if v6 = v10 then r23 (zw (x4 + 5)) A11 else some (0, A11)) else (if (zan v3 15) = 1 then zbI (z_Lw_compile N A) fun v14 A15 => zbI (z_M_compile N A15) fun v16 A17 => zbP (z_M_thrown N A17) fun v18 => (if v18 = v14 then (if v14 = 0 then zrl A17 295 1 0 fun v21 => (if ((lg_cmp v21 (zil v16)).toInt) = 0 then r23 (zw (x4 + 5)) A17 else some (0, A17)) else r23 (zw (x4 + 5)) A17) else some (0, A17)) else (if (zan v3 15) = 2 then zrD A 0 (x4 + 1) fun v24 => zbI (z_Lw_pass N v24 A) fun v25 A26 => zrD A26 0 (x4 + 1) fun v27 => zbI (z_M_pass N v27 A26) fun v28 A29 => zbP (z_M_thrown N A29) fun v30 => (if v30 = v25 then (if v25 = 0 then zrl A29 295 1 0 fun v33 => (if ((lg_cmp v33 (zil v28)).toInt) = 0 then r23 (zw (x4 + 5)) A29 else some (0, A29)) else r23 (zw (x4 + 5)) A29) else some (0, A29)) else (if (zan v3 15) = 3 then zrD A 0 (x4 + 1) fun v36 => zrD A 0 (x4 + 2) fun v37 => zrD A 0 (x4 + 3) fun v38 => zrD A 0 (x4 + 4) fun v39 => zbI (z_Lw_touch N v36 v37 v38 v39 A) fun v40 A41 => zrD A41 0 (x4 + 1) fun v42 => zrD A41 0 (x4 + 2) fun v43 => zrD A41 0 (x4 + 3) fun v44 => zrD A41 0 (x4 + 4) fun v45 => zbI (z_M_touch N v42 v43 v44 v45 A41) fun v46 A47 => zbP (z_M_thrown N A47) fun v48 => (if v48 = v40 then (if v40 = 0 then zrl A47 295 1 0 fun v51 => (if v46 = 0 then (if ((lg_cmp v51 (Int64.ofNat 0)).toInt) = 0 then r23 (zw (x4 + 5)) A47 else some (0, A47)) else (if ((lg_cmp v51 (Int64.ofNat 1)).toInt) = 0 then r23 (zw (x4 + 5)) A47 else some (0, A47))) else r23 (zw (x4 + 5)) A47) else some (0, A47)) else (if (zan v3 15) = 4 then zrD A 0 (x4 + 1) fun v56 => zrD A 0 (x4 + 2) fun v57 => zbI (z_Lw_swap N v56 v57 A) fun v58 A59 => zrD A59 0 (x4 + 1) fun v60 => zrD A59 0 (x4 + 2) fun v61 => zbI (z_M_swap N v60 v61 A59) fun v62 A63 => zbP (z_M_thrown N A63) fun v64 => (if v64 = v58 then (if v58 = 0 then zrl A63 295 1 0 fun v67 => (if v62 = 0 then (if ((lg_cmp v67 (Int64.ofNat 0)).toInt) = 0 then r23 (zw (x4 + 5)) A63 else some (0, A63)) else (if ((lg_cmp v67 (Int64.ofNat 1)).toInt) = 0 then r23 (zw (x4 + 5)) A63 else some (0, A63))) else r23 (zw (x4 + 5)) A63) else some (0, A63)) else (if (zan v3 15) = 5 then zbV (z_PC_restore N A) fun A72 => zbV (z_M_restore N A72) fun A73 => r23 (zw (x4 + 5)) A73 else (if (zan v3 15) = 6 then zrD A 0 (x4 + 1) fun v75 => zrD A 0 (x4 + 2) fun v76 => zbP (z_PC_size N v75 v76 A) fun v77 => zrD A 0 (x4 + 1) fun v78 => zrD A 0 (x4 + 2) fun v79 => zbI (z_M_size N v78 v79 A) fun v80 A81 => (if v77 = v80 then r23 (zw (x4 + 5)) A81 else some (0, A81)) else (if (zan v3 15) = 7 then zrD A 0 (x4 + 1) fun v84 => zrD A 0 (x4 + 2) fun v85 => zrD A 0 (x4 + 3) fun v86 => zbI (z_Lw_item N v84 v85 v86 A) fun v87 A88 => zrD A88 0 (x4 + 1) fun v89 => zrD A88 0 (x4 + 2) fun v90 => zrD A88 0 (x4 + 3) fun v91 => zbI (z_M_item N v89 v90 v91 A88) fun v92 A93 => zbP (z_M_thrown N A93) fun v94 => (if v94 = v87 then (if v87 = 0 then zrl A93 295 1 0 fun v97 => (if ((lg_cmp v97 (zil v92)).toInt) = 0 then r23 (zw (x4 + 5)) A93 else some (0, A93)) else r23 (zw (x4 + 5)) A93) else some (0, A93)) else (if (zan v3 15) = 8 then zrD A 0 (x4 + 1) fun v100 => zrD A 0 (x4 + 2) fun v101 => zbI (z_Lw_code N v100 v101 A) fun v102 A103 => zrD A103 0 (x4 + 1) fun v104 => zrD A103 0 (x4 + 2) fun v105 => zbI (z_M_code N v104 v105 A103) fun v106 A107 => zbP (z_M_thrown N A107) fun v108 => (if v108 = v102 then (if v102 = 0 then zrl A107 295 1 0 fun v111 => (if ((lg_cmp v111 (zil v106)).toInt) = 0 then r23 (zw (x4 + 5)) A107 else some (0, A107)) else r23 (zw (x4 + 5)) A107) else some (0, A107)) else (if (zan v3 15) = 9 then zrD A 0 (x4 + 1) fun v114 => zbI (z_PC_feed N v114 A) fun v115 A116 => zrD A116 0 (x4 + 1) fun v117 => zbI (z_M_feed N v117 A116) fun v118 A119 => (if v115 = v118 then r23 (zw (x4 + 5)) A119 else some (0, A119)) else (if (zan v3 15) = 10 then zbV (z_PC_dry N A) fun A122 => zbV (z_M_dry N A122) fun A123 => r23 (zw (x4 + 5)) A123 else (if (zan v3 15) = 11 then zrD A 0 (x4 + 1) fun v125 => zbI (z_Lw_run N v125 A) fun v126 A127 => zrD A127 0 (x4 + 1) fun v128 => zbI (z_M_run N v128 A127) fun v129 A130 => zbP (z_M_thrown N A130) fun v131 => (if v131 = v126 then (if v126 = 0 then zrl A130 295 1 0 fun v134 => (if ((lg_cmp v134 (zil v129)).toInt) = 0 then r23 (zw (x4 + 5)) A130 else some (0, A130)) else r23 (zw (x4 + 5)) A130) else some (0, A130)) else (if (zan v3 15) = 12 then zrD A 0 (x4 + 1) fun v137 => zbI (z_Lw_out N v137 A) fun v138 A139 => zrD A139 0 (x4 + 1) fun v140 => zbI (z_M_out N v140 A139) fun v141 A142 => zbP (z_M_thrown N A142) fun v143 => (if v143 = v138 then (if v138 = 0 then zrl A142 295 1 0 fun v146 => (if ((lg_cmp v146 (zil v141)).toInt) = 0 then r23 (zw (x4 + 5)) A142 else some (0, A142)) else r23 (zw (x4 + 5)) A142) else some (0, A142)) else (if (zan v3 15) = 13 then zrD A 0 (x4 + 1) fun v149 => zbI (z_PC_count N v149 A) fun v150 A151 => zrD A151 0 (x4 + 1) fun v152 => zbI (z_M_count N v152 A151) fun v153 A154 => (if v150 = v153 then r23 (zw (x4 + 5)) A154 else some (0, A154)) else r23 (zw (x4 + 5)) A)))))))))))))))
def z_Lw_law_23_l (N : Nat) : Nat → Int → zA → Option (Int × zA)
  | 0 => fun _ _ => none
  | n + 1 => fun x4 A => z_Lw_law_23_b (z_Lw_law_23_l N n) N x4 A
def z_Lw_law_23 (N : Nat) (x4 : Int) (A : zA) : Option (Int × zA) := z_Lw_law_23_l N N x4 A
def SC (A : zA) (L : Nat) : Prop := A.1[0]? = some (true, 0, L)
section
variable {N L : Nat} {A B C : zA}
theorem zln0 {R : Type} {K : Int → Option R} (h : SC A L) (hL : L ≤ 2560) : zln A 0 K = K (L : Int) := by
  unfold zln
  rw [h]
  simp only
  rw [if_pos (by omega)]
theorem zrD0 {R : Type} {K : Int → Option R} {e : Int} (h : SC A L) (h0 : 0 ≤ e) (h1 : e < L) : zrD A 0 e K = K (zi A 0 e.toNat) := by
  unfold zrD
  rw [h]
  exact if_pos ⟨rfl, h0, h1⟩
theorem lg_self (x : Int64) : (lg_cmp x x).toInt = 0 := by
  unfold lg_cmp
  simp
theorem zrl5 {R : Type} {K : Int64 → Option R} : zrl A 295 1 0 K = K (zml A 295 0) := if_pos (by decide)
theorem lw_tl {k b : Int} {K Z Z' : Option (Int × zA)} (e3 : zi B 226 0 = k) (e4 : k = 0 → zml B 295 0 = zil b) : (zbP (z_M_thrown N B) fun v => if v = k then (if k = 0 then zrl B 295 1 0 fun w => (if ((lg_cmp w (zil b)).toInt) = 0 then K else Z) else K) else Z') = K := by
  unfold z_M_thrown
  rw [zbP_s, e3, if_pos rfl]
  by_cases c : k = 0
  · rw [if_pos c, zrl5, e4 c, lg_self, if_pos rfl]
  · rw [if_neg c]
theorem lw_tb {k b : Int} {K Z Z1 Z2 : Option (Int × zA)} (e3 : zi B 226 0 = k) (e4 : k = 0 → zml B 295 0 = wrB b) : (zbP (z_M_thrown N B) fun v => if v = k then (if k = 0 then zrl B 295 1 0 fun w => (if b = 0 then (if ((lg_cmp w (Int64.ofNat 0)).toInt) = 0 then K else Z) else (if ((lg_cmp w (Int64.ofNat 1)).toInt) = 0 then K else Z1)) else K) else Z2) = K := by
  unfold z_M_thrown
  rw [zbP_s, e3, if_pos rfl]
  by_cases c : k = 0
  · rw [if_pos c, zrl5, e4 c]
    unfold wrB
    by_cases q : b = 0
    · rw [if_pos q, if_pos q, lg_self, if_pos rfl]
    · rw [if_neg q, if_neg q, lg_self, if_pos rfl]
  · rw [if_neg c]
theorem zw_zi {a j : Nat} : zw (zi A a j) = zi A a j := by
  have := yb_rg A a j
  exact yb_w this.1 this.2
/-- the law's loop says yes -/
theorem law_run (hN : 600000 ≤ N) (hNk : kc 20 * 150 < N) (hL : L ≤ 2560) : ∀ (r f : Nat) (A : zA) (x : Int), 0 ≤ x → (L : Int) < x + 5 * r + 5 → x ≤ 3000 → r < f → SC A L → IN A → ∃ B, z_Lw_law_23_l N f x A = some (1, B) ∧ IN B ∧ Rm A B ∧ smc B ≤ smc A + 3 * r
  | r, 0, A, x, _, _, _, h, _, _ => by omega
  | r, f + 1, A, x, h0, h1, h2, hf, hS, hI => by
    show ∃ B, z_Lw_law_23_b (z_Lw_law_23_l N f) N x A = some (1, B) ∧ _
    unfold z_Lw_law_23_b
    rw [zln0 hS hL, yb_w (by omega) (by omega)]
    by_cases c : (L : Int) - 5 < x
    · rw [if_pos c]
      exact ⟨A, rfl, hI, Rm.refl A, by omega⟩
    rw [if_neg c]
    obtain ⟨r, rfl⟩ : ∃ q, r = q + 1 := ⟨r - 1, by omega⟩
    have go : ∀ B, IN B ∧ MR A B → ∃ C, z_Lw_law_23_l N f (zw (x + 5)) B = some (1, C) ∧ IN C ∧ Rm A C ∧ smc C ≤ smc A + 3 * (r + 1) := fun B hB => by
      obtain ⟨hB, ⟨m1, m2⟩, m3, m4⟩ := hB
      rw [yb_w (by omega) (by omega)]
      obtain ⟨C, k1, k0, k2, k3⟩ := law_run hN hNk hL r f B (x + 5) (by omega) (by omega) (by omega) (by omega) (m3 _ hS) hB
      exact ⟨C, k1, k0, m1.trans k2, by omega⟩
    have rd : ∀ {R : Type} {K : Int → Option R} {e : Int} {A1 : zA}, K0 A A1 → 0 ≤ e → e < L → zrD A1 0 e K = K (zi A 0 e.toNat) := fun h a b => by
      rw [zrD0 (h.1 _ hS) a b, h.2]
    have kr : K0 A A := k0r
    rw [rd kr h0 (by omega)]
    generalize zan (zi A 0 x.toNat) 15 = op
    by_cases o0 : op = 0
    · rw [if_pos o0, rd kr (by omega) (by omega), rd kr (by omega) (by omega)]
      obtain ⟨v, A1, B, e1, e2, e5, e6⟩ := st_put (N := N) (p1 := zi A 0 (x + 1).toNat) (p2 := zi A 0 (x + 2).toNat) hN hI
      rw [e1, zbI_s, rd e6 (by omega) (by omega), rd e6 (by omega) (by omega), e2, zbI_s, if_pos rfl]
      exact go B e5
    rw [if_neg o0]
    by_cases o1 : op = 1
    · rw [if_pos o1]
      obtain ⟨k, b, A1, B, e1, e2, e3, e4, e5, e6⟩ := st_compile (N := N) hN hI
      rw [e1, zbI_s, e2, zbI_s, lw_tl e3 e4]
      exact go B e5
    rw [if_neg o1]
    by_cases o2 : op = 2
    · rw [if_pos o2, rd kr (by omega) (by omega)]
      obtain ⟨k, b, A1, B, e1, e2, e3, e4, e5, e6⟩ := st_pass (N := N) (x := zi A 0 (x + 1).toNat) hN hNk hI
      rw [e1, zbI_s, rd e6 (by omega) (by omega), e2, zbI_s, lw_tl e3 e4]
      exact go B e5
    rw [if_neg o2]
    by_cases o3 : op = 3
    · rw [if_pos o3, rd kr (by omega) (by omega), rd kr (by omega) (by omega), rd kr (by omega) (by omega), rd kr (by omega) (by omega)]
      obtain ⟨k, b, A1, B, e1, e2, e3, e4, e5, e6⟩ := st_touch (N := N) (p1 := zi A 0 (x + 1).toNat) (p2 := zi A 0 (x + 2).toNat) (p3 := zi A 0 (x + 3).toNat) (p4 := zi A 0 (x + 4).toNat) hN hNk zw_zi hI
      rw [e1, zbI_s, rd e6 (by omega) (by omega), rd e6 (by omega) (by omega), rd e6 (by omega) (by omega), rd e6 (by omega) (by omega), e2, zbI_s, lw_tb e3 e4]
      exact go B e5
    rw [if_neg o3]
    by_cases o4 : op = 4
    · rw [if_pos o4, rd kr (by omega) (by omega), rd kr (by omega) (by omega)]
      obtain ⟨k, b, A1, B, e1, e2, e3, e4, e5, e6⟩ := st_swap (N := N) (p1 := zi A 0 (x + 1).toNat) (p2 := zi A 0 (x + 2).toNat) hN hNk zw_zi hI
      rw [e1, zbI_s, rd e6 (by omega) (by omega), rd e6 (by omega) (by omega), e2, zbI_s, lw_tb e3 e4]
      exact go B e5
    rw [if_neg o4]
    by_cases o5 : op = 5
    · rw [if_pos o5]
      obtain ⟨A1, B, e1, e2, e5, e6⟩ := st_restore (N := N) hN hI
      rw [e1, zbV_s, e2, zbV_s]
      exact go B e5
    rw [if_neg o5]
    by_cases o6 : op = 6
    · rw [if_pos o6, rd kr (by omega) (by omega), rd kr (by omega) (by omega)]
      obtain ⟨v, B, e1, e2, e5⟩ := st_size (N := N) (p1 := zi A 0 (x + 1).toNat) (p2 := zi A 0 (x + 2).toNat) hI
      rw [e1, zbP_s, rd kr (by omega) (by omega), rd kr (by omega) (by omega), e2, zbI_s, if_pos rfl]
      exact go B e5
    rw [if_neg o6]
    by_cases o7 : op = 7
    · rw [if_pos o7, rd kr (by omega) (by omega), rd kr (by omega) (by omega), rd kr (by omega) (by omega)]
      obtain ⟨k, b, A1, B, e1, e2, e3, e4, e5, e6⟩ := st_item (N := N) (p1 := zi A 0 (x + 1).toNat) (p2 := zi A 0 (x + 2).toNat) (p3 := zi A 0 (x + 3).toNat) zw_zi hI
      rw [e1, zbI_s, rd e6 (by omega) (by omega), rd e6 (by omega) (by omega), rd e6 (by omega) (by omega), e2, zbI_s, lw_tl e3 e4]
      exact go B e5
    rw [if_neg o7]
    by_cases o8 : op = 8
    · rw [if_pos o8, rd kr (by omega) (by omega), rd kr (by omega) (by omega)]
      obtain ⟨k, b, A1, B, e1, e2, e3, e4, e5, e6⟩ := st_code (N := N) (p1 := zi A 0 (x + 1).toNat) (p2 := zi A 0 (x + 2).toNat) hN hI
      rw [e1, zbI_s, rd e6 (by omega) (by omega), rd e6 (by omega) (by omega), e2, zbI_s, lw_tl e3 e4]
      exact go B e5
    rw [if_neg o8]
    by_cases o9 : op = 9
    · rw [if_pos o9, rd kr (by omega) (by omega)]
      obtain ⟨v, A1, B, e1, e2, e5, e6⟩ := st_feed (N := N) (x := zi A 0 (x + 1).toNat) zw_zi hI
      rw [e1, zbI_s, rd e6 (by omega) (by omega), e2, zbI_s, if_pos rfl]
      exact go B e5
    rw [if_neg o9]
    by_cases o10 : op = 10
    · rw [if_pos o10]
      obtain ⟨A1, B, e1, e2, e5, e6⟩ := st_dry (N := N) hI
      rw [e1, zbV_s, e2, zbV_s]
      exact go B e5
    rw [if_neg o10]
    by_cases o11 : op = 11
    · rw [if_pos o11, rd kr (by omega) (by omega)]
      obtain ⟨k, b, A1, B, e1, e2, e3, e4, e5, e6⟩ := st_run (N := N) (x := zi A 0 (x + 1).toNat) hN hI
      rw [e1, zbI_s, rd e6 (by omega) (by omega), e2, zbI_s, lw_tl e3 e4]
      exact go B e5
    rw [if_neg o11]
    by_cases o12 : op = 12
    · rw [if_pos o12, rd kr (by omega) (by omega)]
      obtain ⟨k, b, A1, B, e1, e2, e3, e4, e5, e6⟩ := st_out (N := N) (x := zi A 0 (x + 1).toNat) hI
      rw [e1, zbI_s, rd e6 (by omega) (by omega), e2, zbI_s, lw_tl e3 e4]
      exact go B e5
    rw [if_neg o12]
    by_cases o13 : op = 13
    · rw [if_pos o13, rd kr (by omega) (by omega)]
      obtain ⟨v, A1, B, e1, e2, e5, e6⟩ := st_count (N := N) (x := zi A 0 (x + 1).toNat) hN hI
      rw [e1, zbI_s, rd e6 (by omega) (by omega), e2, zbI_s, if_pos rfl]
      exact go B e5
    rw [if_neg o13]
    exact go A ⟨hI, ⟨Rm.refl A, by omega⟩, kr⟩
end
