/-! the pure run -/
theorem cnd_ne {b : Bool} {x y : Option Nat} (hx : x ≠ some 999) (hy : y ≠ some 999) : (bif b then x else y) ≠ some 999 := by
  cases b
  · exact hy
  · exact hx
set_option maxHeartbeats 4000000 in
theorem rc_ne (k : Nat) : mp_rc k ≠ some 999 := by
  unfold mp_rc
  repeat' (first | refine cnd_ne ?_ ?_ | exact (by decide))
theorem ct_obj {ρ : Nat → Int32} {ci : Nat} : mq_c mp_P ρ (ct_ob ci) = (false, ci, mp_dfl ci) := by
  show (false, ci, (List.range (mp_dfl ci).length).map (fun j => mq_v ρ (mq_look mp_P (ct_ob ci) j))) = (false, ci, mp_dfl ci)
  congr 2
  refine List.ext_getElem? fun j => ?_
  by_cases hj : j < (mp_dfl ci).length
  · rw [List.getElem?_map, List.getElem?_range hj, Option.map_some, List.getElem?_eq_getElem hj]
    congr 1
    have e1 : mq_look mp_P (ct_ob ci) j = (mp_dfl ci)[j] := by
      show (mp_dfl ci).getD j .null = _
      simp [hj]
    rw [e1]
    have h9 := mp_df ci _ (List.getElem_mem hj)
    cases hv : (mp_dfl ci)[j] with
    | retAddr k => exact absurd hv (h9 k)
    | _ => rfl
  · rw [List.getElem?_eq_none (by rw [List.length_map, List.length_range]; exact Nat.le_of_not_lt hj), List.getElem?_eq_none (by omega)]
theorem ct_hp5 {ρ : Nat → Int32} : mq_h mp_P ρ ct_H5 = [mj_nul, (true, 0, mp_s1v.map .int), (true, 0, mp_s2v.map .int), (true, 0, mp_s3v.map .int), (false, 0, mp_dfl 0)] := by
  have e : mq_h mp_P ρ ct_H5 = [mq_c mp_P ρ ct_nul, mq_c mp_P ρ (mq_ar (mp_s1v.map .int)), mq_c mp_P ρ (mq_ar (mp_s2v.map .int)), mq_c mp_P ρ (mq_ar (mp_s3v.map .int)), mq_c mp_P ρ (ct_ob 0)] := rfl
  rw [e, mr_ar (by decide), mr_ar (by decide), mr_ar (by decide), mr_ints, mr_ints, mr_ints, ct_obj]
  rfl
def zshp (c : mj_C) : zK := (c.1, c.2.1, c.2.2.length)
theorem zhp_shp (A : zA) : (zhp A).map zshp = A.1 := by
  apply List.ext_getElem?
  intro a
  rw [List.getElem?_map, zhp_get]
  cases h : A.1[a]? with
  | none => rfl
  | some s =>
    show some (zshp (zcl A a s)) = some s
    have : zshp (zcl A a s) = s := by
      show (s.1, s.2.1, (zcl A a s).2.2.length) = s
      rw [zcl_len]
    rw [this]
theorem sl_le : ∀ h : mj_H, (mj_sl h : Int) ≤ (((h.map zshp).filter (fun s => decide (4 < s.2.2))).map (fun s => (s.2.2 : Int))).sum + (((h.map zshp).filter (fun s => decide (4 < s.2.2))).length : Int) + 6 * (((h.map zshp).filter (fun s => decide (s.2.2 ≤ 4))).length : Int)
  | [] => by decide
  | c :: h => by
    have ih := sl_le h
    obtain ⟨b, t, vs⟩ := c
    have e : (mj_sl ((b, t, vs) :: h) : Int) ≤ (if 4 < vs.length then (vs.length : Int) + 1 else 6) + mj_sl h := by
      cases b with
      | true =>
        show ((vs.length + mj_sl h : Nat) : Int) ≤ _
        split <;> omega
      | false =>
        show (((if 100 ≤ t then 6 else vs.length) + mj_sl h : Nat) : Int) ≤ _
        split <;> split <;> omega
    rw [List.map_cons, List.filter_cons, List.filter_cons]
    by_cases q : 4 < vs.length
    · rw [if_pos q] at e
      rw [if_pos (decide_eq_true (show 4 < (zshp (b, t, vs)).2.2 from q)), if_neg (by show ¬ decide (vs.length ≤ 4) = true; rw [decide_eq_true_eq]; omega), List.map_cons, List.sum_cons, List.length_cons]
      have e2 : ((zshp (b, t, vs)).2.2 : Int) = vs.length := rfl
      rw [e2]
      omega
    · rw [if_neg q] at e
      rw [if_neg (by show ¬ decide (4 < vs.length) = true; rw [decide_eq_true_eq]; exact q), if_pos (decide_eq_true (show (zshp (b, t, vs)).2.2 ≤ 4 from Nat.le_of_not_lt q)), List.length_cons]
      omega
theorem zhp_sl (A : zA) : (mj_sl (zhp A) : Int) ≤ tot A + ((big A).length : Int) + 6 * (smc A : Int) := by
  have := sl_le (zhp A)
  rw [zhp_shp] at this
  exact this
theorem sz_k : ∀ s ∈ zK0, s.2.2 ≤ 1000000 := by
  have : (zK0.all (fun s => Nat.ble s.2.2 1000000)) = true := by decide +kernel
  intro s hs
  exact Nat.ble_eq.mp (List.all_eq_true.mp this s hs)
theorem dyo_fr : ∀ o ∈ dyo, zfr o 0 = none ∧ zfr o 1 = none := by decide +kernel
theorem fin0 {L : Nat} {xs : Nat → Int32} (hL : L ≤ 2560) : zFin (zA0 L xs) := by
  refine ⟨fun a s h => zS0_at h, fun a j r h => ?_, fun j => rfl, fun j => rfl, fun j => rfl, ⟨L, rfl⟩, fun a s h => ?_⟩
  · show zR0 a j = some r
    unfold zR0
    split
    · rename_i q
      rw [Bool.and_eq_true] at q
      obtain ⟨f0, f1⟩ := dyo_fr a (List.contains_iff_mem.mp q.1)
      have := Nat.blt_eq.mp q.2
      rcases (show j = 0 ∨ j = 1 by omega) with rfl | rfl
      · rw [f0] at h; cases h
      · rw [f1] at h; cases h
    · split
      · rename_i q; obtain ⟨rfl, rfl⟩ := q; cases h
      · split
        · rename_i q; obtain ⟨rfl, rfl⟩ := q; cases h
        · split
          · rename_i q; obtain ⟨rfl, rfl⟩ := q; cases h
          · split
            · rename_i q; obtain ⟨rfl, rfl⟩ := q; cases h
            · split
              · rename_i q; obtain ⟨rfl, rfl⟩ := q; cases h
              · exact h
  · have h : (((true, 0, L) : zK) :: zK0)[a]? = some s := h
    cases a with
    | zero =>
      have h : some ((true, 0, L) : zK) = some s := h
      cases h
      show L ≤ 1000000
      omega
    | succ a =>
      rw [List.getElem?_cons_succ] at h
      exact sz_k s (List.mem_of_getElem? h)
theorem ct_runs0 {n : Nat} (ht : ct_T n = true) : ∃ (m : Nat) (ρ : Nat → Int32) (h1 h2 : mq_H), h1.1 = 226 ∧ ct_h h2 = true ∧ mj_ex mp_P 4 m 2047 (84000 - (mp_mxl 1 + 19)) 1 0 (mj_en (mp_mxl 1) [.ref 4]) [] (mq_h mp_P ρ ct_H5) = some (.inl none, mq_h mp_P ρ h1) ∧ mj_ex mp_P 4 m 2047 (84000 - (mp_mxl 2 + 19)) 2 0 (mj_en (mp_mxl 2) [.ref 226]) [] (mq_h mp_P ρ h1 ++ [(false, 12, mp_dfl 12)]) = some (.inl none, mq_h mp_P ρ h2) := by
  unfold ct_T at ht
  split at ht
  · rename_i h1 X1 hx1
    rw [Bool.and_eq_true, Bool.and_eq_true] at ht
    obtain ⟨⟨t1, t2⟩, t3⟩ := ht
    split at t3
    · rename_i h2 X2 hx2
      rw [Bool.and_eq_true] at t3
      have e1 : h1.1 = 226 := Nat.eq_of_beq_eq_true t2
      have k1 := (mq_runA_ok mp_df mr_lc n _ _ _ _ _ _ _ _ _ _ _ hx1).2 (fun _ => 0) (by rw [List.isEmpty_iff.mp t1]; exact fun f hf => nomatch hf)
      have k2 := (mq_runA_ok mp_df mr_lc n _ _ _ _ _ _ _ _ _ _ _ hx2).2 (fun _ => 0) (by rw [List.isEmpty_iff.mp t3.1]; exact fun f hf => nomatch hf)
      have e2 := mq_h_push (P := mp_P) (ρ := fun _ => 0) (h := h1) (c := ct_ob 12)
      rw [e1, ct_obj] at e2
      have e2 : mq_h mp_P (fun _ => 0) (227, mq_p2 h1.2 226 (ct_ob 12)) = mq_h mp_P (fun _ => 0) h1 ++ [(false, 12, mp_dfl 12)] := e2
      rw [e2] at k2
      exact ⟨_, fun _ => 0, h1, h2, e1, t3.2, k1, k2⟩
    · cases t3
  · cases ht
theorem ct_runs : ∃ (m : Nat) (ρ : Nat → Int32) (h1 h2 : mq_H), h1.1 = 226 ∧ ct_h h2 = true ∧ mj_ex mp_P 4 m 2047 (84000 - (mp_mxl 1 + 19)) 1 0 (mj_en (mp_mxl 1) [.ref 4]) [] (mq_h mp_P ρ ct_H5) = some (.inl none, mq_h mp_P ρ h1) ∧ mj_ex mp_P 4 m 2047 (84000 - (mp_mxl 2 + 19)) 2 0 (mj_en (mp_mxl 2) [.ref 226]) [] (mq_h mp_P ρ h1 ++ [(false, 12, mp_dfl 12)]) = some (.inl none, mq_h mp_P ρ h2) := ct_runs0 ct_ok
theorem law_23 {L : Nat} {xs : Nat → Int32} (hL : L ≤ 2560) : ∃ (n : Nat) (h1 : mj_H), mj_ex mp_P 4 n 2048 84000 0 23 [some (.ref 0), some (.ref 4), some (.ref 226), some (.ref 295), some (.int 0), none, none] [] (zhp (zA0 L xs)) = some (.inl (some (.int 1)), h1) ∧ h1.length ≤ 601028 ∧ mj_sl h1 ≤ 7293073 + L := by
  obtain ⟨N, hN, hNk⟩ : ∃ N, 600000 ≤ N ∧ kc 20 * 150 < N := ⟨kc 20 * 150 + 600001, by omega, by omega⟩
  obtain ⟨B, b1, b2, b3, b4⟩ := law_run hN hNk hL 512 N (zA0 L xs) 0 (by decide) (by omega) (by decide) (by omega) sc0 in0
  obtain ⟨n, o, A1, x1, x2, x3, x4, x5⟩ := z_Lw_law_23_lok N (d := 2048) (w := 84000) (by decide) (by decide) N 0 (by unfold zrg; decide) (zA0 L xs) _ b1 (fin0 hL)
  subst x3
  have x4 : A1 = B := x4
  subst x4
  obtain ⟨r1, r2⟩ := room b2 b3 (by omega)
  have r3 := zhp_sl A1
  refine ⟨n, zhp A1, x1, ?_, ?_⟩
  · rw [zhp_len]; omega
  · omega
theorem mp_pure : mp_Pure := by
  intro L xs hL
  obtain ⟨m, ρ, h1, h2, e1, ch, k1, k2⟩ := ct_runs
  obtain ⟨n, hB, k3, r1, r2⟩ := law_23 (xs := xs) hL
  have hrc : ∀ k, mp_P.rc k ≠ some 999 := rc_ne
  have l1 : (mq_h mp_P ρ h1).length = 226 := by rw [mq_h_len]; exact e1
  have l2 : (mq_h mp_P ρ h2).length = 295 := by
    rw [mq_h_len]
    unfold ct_h at ch
    rw [Bool.and_eq_true] at ch
    exact Nat.eq_of_beq_eq_true ch.1
  obtain ⟨c1, z1⟩ := n_ex (c := scr L xs) hrc _ _ _ _ _ _ _ _ _ _ (by rw [ct_hp5]; rfl) k1
  obtain ⟨a1, a2, a3⟩ := n_app (c := scr L xs) (l := [(false, 12, mp_dfl 12)]) z1
  obtain ⟨c2, z2⟩ := n_ex (c := scr L xs) hrc _ _ _ _ _ _ _ _ _ _ a2 k2
  rw [← a1] at c2
  have c1 : mj_ex mp_P 4 m 2047 (84000 - (mp_mxl 1 + 19)) 1 0 (mj_en (mp_mxl 1) [.ref 4]) [] (mp_h0 L xs ++ [(false, 0, mp_dfl 0)]) = some (.inl none, (mq_h mp_P ρ h1).set 0 (scr L xs)) := by
    rw [ct_hp5] at c1
    exact c1
  have hp := ct_heap (L := L) (xs := xs) (ρ := ρ) ch
  have k3 := mj_ex_le mp_P 4 n (n + m) (by omega) _ _ _ _ _ _ _ _ k3
  have c1 := mj_ex_le mp_P 4 m (n + m + 10) (by omega) _ _ _ _ _ _ _ _ c1
  have c2 := mj_ex_le mp_P 4 m (n + m + 6) (by omega) _ _ _ _ _ _ _ _ c2
  generalize hg1 : (mq_h mp_P ρ h1).set 0 (scr L xs) = g1 at c1 c2 a1 a3
  generalize hg2 : (mq_h mp_P ρ h2).set 0 (scr L xs) = g2 at c2 hp
  have l1 : g1.length = 226 := by rw [← hg1, List.length_set]; exact l1
  have l2 : g2.length = 295 := by rw [← hg2, List.length_set]; exact l2
  refine ⟨n + m + 13, hB, ?_, r1, r2⟩
  refine lw_i (i := .new 0) (len := 3) (pc1 := 3) (L1 := mj_en 7 [.ref 0]) (S1 := [.ref 4]) (h1 := mp_h0 L xs ++ [(false, 0, mp_dfl 0)]) rfl rfl rfl ?_
  refine lw_i (i := .dup) (len := 1) (pc1 := 4) (L1 := mj_en 7 [.ref 0]) (S1 := [.ref 4, .ref 4]) (h1 := mp_h0 L xs ++ [(false, 0, mp_dfl 0)]) rfl rfl rfl ?_
  refine lw_c (k := 1) (len := 3) (as := [.ref 4]) (rr := [.ref 4]) (h1 := g1) rfl (by decide) rfl ⟨by decide, by decide, by decide, rfl, by decide⟩ c1 ?_
  refine lw_i (i := .astore 1) (len := 1) (pc1 := 8) (L1 := [some (.ref 0), some (.ref 4), none, none, none, none, none]) (S1 := []) (h1 := g1) rfl rfl rfl ?_
  refine lw_i (i := .new 12) (len := 3) (pc1 := 11) (L1 := [some (.ref 0), some (.ref 4), none, none, none, none, none]) (S1 := [.ref 226]) (h1 := g1 ++ [(false, 12, mp_dfl 12)]) rfl rfl (by rw [← l1]; rfl) ?_
  refine lw_i (i := .dup) (len := 1) (pc1 := 12) (L1 := [some (.ref 0), some (.ref 4), none, none, none, none, none]) (S1 := [.ref 226, .ref 226]) (h1 := g1 ++ [(false, 12, mp_dfl 12)]) rfl rfl rfl ?_
  have rcv : mj_rcv (mp_rc 2) [.ref 226] (g1 ++ [(false, 12, mp_dfl 12)]) = true := by
    show (match (g1 ++ [((false, 12, mp_dfl 12) : mj_C)])[226]? with
      | some (false, u, _) => decide (u = 12)
      | _ => false) = true
    rw [List.getElem?_append_right (by omega), l1]
    rfl
  refine lw_c (k := 2) (len := 3) (as := [.ref 226]) (rr := [.ref 226]) (h1 := g2) rfl (by decide) rfl ⟨by decide, by decide, by decide, rcv, by decide⟩ c2 ?_
  refine lw_i (i := .astore 2) (len := 1) (pc1 := 16) (L1 := [some (.ref 0), some (.ref 4), some (.ref 226), none, none, none, none]) (S1 := []) (h1 := g2) rfl rfl rfl ?_
  refine lw_i (i := .iconst 1) (len := 1) (pc1 := 17) (L1 := [some (.ref 0), some (.ref 4), some (.ref 226), none, none, none, none]) (S1 := [.int 1]) (h1 := g2) rfl rfl rfl ?_
  have hnew : mj_i mp_P 4 (.newarray .long) (17 + 2) [some (.ref 0), some (.ref 4), some (.ref 226), none, none, none, none] [.int 1] g2 = some (19, [some (.ref 0), some (.ref 4), some (.ref 226), none, none, none, none], [.ref 295], zhp (zA0 L xs)) := by
    rw [← hp, ← l2]
    rfl
  refine lw_i (i := .newarray .long) (len := 2) (pc1 := 19) (L1 := [some (.ref 0), some (.ref 4), some (.ref 226), none, none, none, none]) (S1 := [.ref 295]) (h1 := zhp (zA0 L xs)) rfl rfl hnew ?_
  refine lw_i (i := .astore 3) (len := 1) (pc1 := 20) (L1 := [some (.ref 0), some (.ref 4), some (.ref 226), some (.ref 295), none, none, none]) (S1 := []) (h1 := zhp (zA0 L xs)) rfl rfl rfl ?_
  refine lw_i (i := .iconst 0) (len := 1) (pc1 := 21) (L1 := [some (.ref 0), some (.ref 4), some (.ref 226), some (.ref 295), none, none, none]) (S1 := [.int 0]) (h1 := zhp (zA0 L xs)) rfl rfl rfl ?_
  refine lw_i (i := .istore 4) (len := 2) (pc1 := 23) (L1 := [some (.ref 0), some (.ref 4), some (.ref 226), some (.ref 295), some (.int 0), none, none]) (S1 := []) (h1 := zhp (zA0 L xs)) rfl rfl rfl ?_
  exact k3
