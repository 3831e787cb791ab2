/-! CODE of the class: items -/
section
variable {N : Nat} {A B : zA} {l : List (Int × Int)} {o g k R p : Nat} {Q : Pr}
def nqO (o : Nat) : Prop := ([209] : List Nat).contains o = false ∧ ([212] : List Nat).contains o = false ∧ ([209, 212] : List Nat).contains o = false
theorem pto_nq (ho : pto.contains o = true) : nqO o := by
  have : ∀ q ∈ pto, ([209] : List Nat).contains q = false ∧ ([212] : List Nat).contains q = false ∧ ([209, 212] : List Nat).contains q = false := by decide
  exact this o (List.contains_iff_mem.mp ho)
theorem STA.f {S : List Nat} (hS : STA A) (f : cF S A B) (h1 : S.contains 1 = false) (h2 : S.contains 2 = false) (h3 : S.contains 3 = false) : STA B := fun q hq => by
  rw [f.e (by decide) h1, f.e (by decide) h2, f.e (by decide) h3]
  exact hS q hq
theorem c_addPlain (hN : 300000 ≤ N) (hG : GQ Q) (hp : exP Q p) (hO : Own A) (ho : pto.contains o = true) (hS : STA A) (hx : CP A o (Q.2.1 p) (Q.2.2 p)) (hk : k < (Q.2.1 p).length) (h7 : (itm (Q.2.1 p) k).1 ≤ 7) (hC : CCd A l) (hl : l.length + 4 ≤ 2407) (k' : Nat) : ∃ B, z_Cd_addPlain N o k A = some B ∧ CCd B (l ++ itK Q p k' k) ∧ cF [209] A B := by
  obtain ⟨q1, q2, q3, q4⟩ := hG.1.2 p hp
  have hok := q4 _ (itm_mem hk)
  obtain ⟨o1, o2, o3, o4, o5⟩ := id hok
  have ne := (pto_nq ho).1
  unfold z_Cd_addPlain
  rw [cp_kind hO ho hx hk, zbP_s]
  obtain ⟨C, c1, c2, c3⟩ := c_pl9 (N := N) hN hO ho hS hx hok q2 hk hC (by omega)
  rw [c1]
  have hxC := hx.fr ho c3 ne
  have num : ∀ {D : zA}, cF [209] A D → ∀ i : Nat, i < nbk (itm (Q.2.1 p) k).1 → z_Pt_number N o k i D = some (ig (itm (Q.2.1 p) k) (i + 1)) := fun {D} f i hi => cp_num f.own ho (hx.fr ho f ne) hk hi
  have w : ∀ j : Nat, j < nbk (itm (Q.2.1 p) k).1 → zw (ig (itm (Q.2.1 p) k) (j + 1)) = ig (itm (Q.2.1 p) k) (j + 1) := fun j hj => yb_w (o3 j hj).1 (o3 j hj).2.1
  have lw : ∀ {m : List (Int × Int)}, (l ++ m).length = l.length + m.length := fun {m} => List.length_append
  -- the last letter
  have last : ∀ {D : zA} {m : List (Int × Int)}, cF [209] A D → CCd D (l ++ m) → m.length ≤ 3 → ((itm (Q.2.1 p) k).1 ≤ 3 ∨ (itm (Q.2.1 p) k).1 = 5) → ∃ B, z_Cd_addPlain_173 N o k D = some B ∧ CCd B (l ++ (m ++ [(2, ig (itm (Q.2.1 p) k) 1)])) ∧ cF [209] A B := fun {D m} f hD hm hw => by
    unfold z_Cd_addPlain_173
    have hn : 0 < nbk (itm (Q.2.1 p) k).1 := by have := nbk_v o1 o2; omega
    have hr := (o3 0 hn).2.2 ⟨fun z => by omega, fun z => by omega, fun z => by omega⟩
    have hr : 0 ≤ ig (itm (Q.2.1 p) k) 1 ∧ ig (itm (Q.2.1 p) k) 1 < _ := hr
    have ew : wri (itm (Q.2.1 p) k) = ig (itm (Q.2.1 p) k) 1 := if_pos hw
    rw [cp_writ f.own ho (hx.fr ho f ne) hok q2 hk, zbP_s, ew, if_neg (by omega)]
    have n0 : z_Pt_number N o k 0 D = some (ig (itm (Q.2.1 p) k) 1) := num f 0 hn
    rw [n0, zbP_s]
    obtain ⟨E, e1, e2, e3⟩ := c_cadd (N := N) (x := 2) (y := ig (itm (Q.2.1 p) k) 1) f.own hD (by rw [lw]; omega) (by decide) (w 0 hn)
    rw [e1, zbV_s]
    rw [List.append_assoc] at e2
    exact ⟨E, rfl, e2, f.trans e3⟩
  have none' : ∀ {D : zA}, cF [209] A D → ¬ ((itm (Q.2.1 p) k).1 ≤ 3 ∨ (itm (Q.2.1 p) k).1 = 5) → z_Cd_addPlain_173 N o k D = some D := fun {D} f hw => by
    unfold z_Cd_addPlain_173
    have ew : wri (itm (Q.2.1 p) k) = -1 := if_neg hw
    rw [cp_writ f.own ho (hx.fr ho f ne) hok q2 hk, zbP_s, ew, if_pos (by decide)]
  have npd : ¬ pnd (Q.2.1 p) k := fun z => by unfold pnd at z; omega
  unfold z_Cd_addPlain_42
  by_cases k0 : (itm (Q.2.1 p) k).1 = 0
  · have n1 : z_Pt_number N o k 1 C = some (ig (itm (Q.2.1 p) k) 2) := num c3 1 (by rw [k0]; decide)
    rw [if_pos k0, n1, zbP_s]
    have er : rdl (itm (Q.2.1 p) k) = [] := by unfold rdl rdk; rw [k0]; rfl
    rw [er] at c2
    obtain ⟨D, d1, d2, d3⟩ := c_cadd (N := N) (x := 0) (y := ig (itm (Q.2.1 p) k) 2) c3.own c2 (by rw [lw]; simp only [List.length_nil]; omega) (by decide) (w 1 (by rw [k0]; decide))
    rw [d1, zbV_s]
    rw [List.append_assoc] at d2
    obtain ⟨E, e1, e2, e3⟩ := last (m := [] ++ [(0, ig (itm (Q.2.1 p) k) 2)]) (c3.trans d3) d2 (by simp) (Or.inl (by omega))
    refine ⟨E, e1, ?_, e3⟩
    have ek : itK Q p k' k = [(0, ig (itm (Q.2.1 p) k) 2), (2, ig (itm (Q.2.1 p) k) 1)] := by
      unfold itK itc
      rw [if_neg (by omega), if_neg (by omega), if_neg (by omega), if_pos k0]
    rw [ek]
    exact e2
  rw [if_neg k0]
  by_cases k2 : (itm (Q.2.1 p) k).1 = 2
  · have n3 : z_Pt_number N o k 3 C = some (ig (itm (Q.2.1 p) k) 4) := num c3 3 (by rw [k2]; decide)
    have o4 := o4 k2
    rw [if_pos k2, n3, zbP_s, yb_w (by omega) (by omega)]
    have er : rdl (itm (Q.2.1 p) k) = [(1, ig (itm (Q.2.1 p) k) 2), (1, ig (itm (Q.2.1 p) k) 3)] := by unfold rdl rdk frk; rw [k2]; rfl
    rw [er] at c2
    obtain ⟨D, d1, d2, d3⟩ := c_cadd (N := N) (x := 3 + ig (itm (Q.2.1 p) k) 4) (y := 0) c3.own c2 (by rw [lw]; simp only [List.length_cons, List.length_nil]; omega) (yb_w (by omega) (by omega)) (by decide)
    rw [d1, zbV_s]
    rw [List.append_assoc] at d2
    obtain ⟨E, e1, e2, e3⟩ := last (c3.trans d3) d2 (by simp) (Or.inl (by omega))
    refine ⟨E, e1, ?_, e3⟩
    have ek : itK Q p k' k = [(1, ig (itm (Q.2.1 p) k) 2), (1, ig (itm (Q.2.1 p) k) 3), (3 + ig (itm (Q.2.1 p) k) 4, 0), (2, ig (itm (Q.2.1 p) k) 1)] := by
      unfold itK itc
      rw [if_neg (by omega), if_neg (by omega), if_neg (by omega), if_neg (by omega), if_neg (by omega), if_pos k2]
    rw [ek]
    exact e2
  rw [if_neg k2]
  by_cases k3 : (itm (Q.2.1 p) k).1 = 3
  · rw [if_pos k3]
    have er : rdl (itm (Q.2.1 p) k) = [(1, ig (itm (Q.2.1 p) k) 2)] := by unfold rdl rdk frk; rw [k3]; rfl
    rw [er] at c2
    obtain ⟨D, d1, d2, d3⟩ := c_cadd (N := N) (x := 9) (y := 0) c3.own c2 (by rw [lw]; simp only [List.length_cons, List.length_nil]; omega) (by decide) (by decide)
    rw [d1, zbV_s]
    rw [List.append_assoc] at d2
    obtain ⟨E, e1, e2, e3⟩ := last (c3.trans d3) d2 (by simp) (Or.inl (by omega))
    refine ⟨E, e1, ?_, e3⟩
    have ek : itK Q p k' k = [(1, ig (itm (Q.2.1 p) k) 2), (9, 0), (2, ig (itm (Q.2.1 p) k) 1)] := by
      unfold itK itc
      rw [if_neg (by omega), if_neg (by omega), if_neg (by omega), if_neg (by omega), if_neg (by omega), if_neg (by omega), if_pos k3]
    rw [ek]
    exact e2
  rw [if_neg k3]
  by_cases k4 : (itm (Q.2.1 p) k).1 = 4
  · rw [if_pos k4]
    have er : rdl (itm (Q.2.1 p) k) = [(1, ig (itm (Q.2.1 p) k) 1), (1, ig (itm (Q.2.1 p) k) 2)] := by unfold rdl rdk frk; rw [k4]; rfl
    rw [er] at c2
    obtain ⟨D, d1, d2, d3⟩ := c_cadd (N := N) (x := 10) (y := 0) c3.own c2 (by rw [lw]; simp only [List.length_cons, List.length_nil]; omega) (by decide) (by decide)
    rw [d1, zbV_s, none' (c3.trans d3) (by omega)]
    refine ⟨D, rfl, ?_, c3.trans d3⟩
    have ek : itK Q p k' k = [(1, ig (itm (Q.2.1 p) k) 1), (1, ig (itm (Q.2.1 p) k) 2), (10, 0)] := by
      unfold itK itc
      rw [if_neg (by omega), if_neg (by omega), if_neg (by omega), if_neg (by omega), if_neg (by omega), if_neg (by omega), if_neg (by omega), if_pos k4]
    rw [ek]
    rw [List.append_assoc] at d2
    exact d2
  rw [if_neg k4]
  by_cases k5 : (itm (Q.2.1 p) k).1 = 5
  · rw [if_pos k5]
    have er : rdl (itm (Q.2.1 p) k) = [] := by unfold rdl rdk; rw [k5]; rfl
    rw [er] at c2
    obtain ⟨D, d1, d2, d3⟩ := c_cadd (N := N) (x := 11) (y := 0) c3.own c2 (by rw [lw]; simp only [List.length_nil]; omega) (by decide) (by decide)
    rw [d1, zbV_s]
    rw [List.append_assoc] at d2
    obtain ⟨E, e1, e2, e3⟩ := last (m := [] ++ [(11, 0)]) (c3.trans d3) d2 (by simp) (Or.inr k5)
    refine ⟨E, e1, ?_, e3⟩
    have ek : itK Q p k' k = [(11, 0), (2, ig (itm (Q.2.1 p) k) 1)] := by
      unfold itK itc
      rw [if_neg (by omega), if_neg (by omega), if_neg (by omega), if_neg (by omega), if_neg (by omega), if_neg (by omega), if_neg (by omega), if_neg (by omega), if_pos k5]
    rw [ek]
    exact e2
  rw [if_neg k5]
  by_cases k6 : (itm (Q.2.1 p) k).1 = 6
  · rw [if_pos k6]
    have er : rdl (itm (Q.2.1 p) k) = [(1, ig (itm (Q.2.1 p) k) 1)] := by unfold rdl rdk frk; rw [k6]; rfl
    rw [er] at c2
    obtain ⟨D, d1, d2, d3⟩ := c_cadd (N := N) (x := 12) (y := 0) c3.own c2 (by rw [lw]; simp only [List.length_cons, List.length_nil]; omega) (by decide) (by decide)
    rw [d1, zbV_s, none' (c3.trans d3) (by omega)]
    refine ⟨D, rfl, ?_, c3.trans d3⟩
    have ek : itK Q p k' k = [(1, ig (itm (Q.2.1 p) k) 1), (12, 0)] := by
      unfold itK itc
      rw [if_neg (by omega), if_neg (by omega), if_neg (by omega), if_neg (by omega), if_neg (by omega), if_neg (by omega), if_neg (by omega), if_neg (by omega), if_neg (by omega), if_pos k6]
    rw [ek]
    rw [List.append_assoc] at d2
    exact d2
  rw [if_neg k6]
  by_cases k7 : (itm (Q.2.1 p) k).1 = 7
  · have n1 : z_Pt_number N o k 1 C = some (ig (itm (Q.2.1 p) k) 2) := num c3 1 (by rw [k7]; decide)
    rw [if_pos k7, n1, zbP_s]
    have er : rdl (itm (Q.2.1 p) k) = [(1, ig (itm (Q.2.1 p) k) 1)] := by unfold rdl rdk frk; rw [k7]; rfl
    rw [er] at c2
    obtain ⟨D, d1, d2, d3⟩ := c_cadd (N := N) (x := 15) (y := ig (itm (Q.2.1 p) k) 2) c3.own c2 (by rw [lw]; simp only [List.length_cons, List.length_nil]; omega) (by decide) (w 1 (by rw [k7]; decide))
    rw [d1, zbV_s, none' (c3.trans d3) (by omega)]
    refine ⟨D, rfl, ?_, c3.trans d3⟩
    have ek : itK Q p k' k = [(1, ig (itm (Q.2.1 p) k) 1), (15, ig (itm (Q.2.1 p) k) 2)] := by
      unfold itK
      rw [if_pos k7]
    rw [ek]
    rw [List.append_assoc] at d2
    exact d2
  · rw [if_neg k7]
    have k1 : (itm (Q.2.1 p) k).1 = 1 := by omega
    have er : rdl (itm (Q.2.1 p) k) = [(1, ig (itm (Q.2.1 p) k) 2)] := by unfold rdl rdk frk; rw [k1]; rfl
    rw [er] at c2
    obtain ⟨E, e1, e2, e3⟩ := last c3 c2 (by simp) (Or.inl (by omega))
    refine ⟨E, e1, ?_, e3⟩
    have ek : itK Q p k' k = [(1, ig (itm (Q.2.1 p) k) 2), (2, ig (itm (Q.2.1 p) k) 1)] := by
      unfold itK itc
      rw [if_neg (by omega), if_neg (by omega), if_neg (by omega), if_neg (by omega), if_pos k1]
    rw [ek]
    exact e2
/-- what is awaited -/
def AW (Q : Pr) (p : Nat) (A : zA) (k : Nat) : Prop := (∀ j, j < k → pnd (Q.2.1 p) j → k ≤ mtL (Q.2.1 p) j → ri A 212 (mtL (Q.2.1 p) j : Nat) = ((adr Q p j + psh (Q.2.1 p) j : Nat) : Int)) ∧ (∀ j, j < k → (itm (Q.2.1 p) j).1 = 10 → k ≤ mtL (Q.2.1 p) (mtL (Q.2.1 p) j) → ri A 212 (j : Nat) = (adr Q p j : Int))
theorem pnd_mt (hG : GQ Q) (hp : exP Q p) {j : Nat} (hj : j < (Q.2.1 p).length) (h : pnd (Q.2.1 p) j) : j < mtL (Q.2.1 p) j ∧ mtL (Q.2.1 p) j < (Q.2.1 p).length ∧ mtL (Q.2.1 p) (mtL (Q.2.1 p) (mtL (Q.2.1 p) j)) = j ∧ ((itm (Q.2.1 p) (mtL (Q.2.1 p) j)).1 = 9 ∨ (itm (Q.2.1 p) (mtL (Q.2.1 p) j)).1 = 12) := by
  have pt := mt_pt (hG.n.2.1 p hp) hj
  unfold pnd at h
  rcases h with h | h | h
  · have := pt.1 h
    exact ⟨this.1, by omega, this.2.2.2.2.2, Or.inl this.2.2.2.1⟩
  · have := pt.2.1 h
    exact ⟨this.2.2.1, this.2.2.2.1, this.2.2.2.2.2.2, Or.inr this.2.2.2.2.2.1⟩
  · have := pt.2.2.2.1 h
    exact ⟨this.2.2.1, this.2.2.2.1, this.2.2.2.2.2.2, Or.inr this.2.2.2.2.2.1⟩
theorem pnd_inj (hG : GQ Q) (hp : exP Q p) {i j : Nat} (hi : i < (Q.2.1 p).length) (hj : j < (Q.2.1 p).length) (h1 : pnd (Q.2.1 p) i) (h2 : pnd (Q.2.1 p) j) (h : mtL (Q.2.1 p) i = mtL (Q.2.1 p) j) : i = j := by
  have a := (pnd_mt hG hp hi h1).2.2.1
  have b := (pnd_mt hG hp hj h2).2.2.1
  rw [h] at a
  omega
end
