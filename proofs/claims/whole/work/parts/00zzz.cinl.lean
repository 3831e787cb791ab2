/-! INLINE of the class -/
theorem CP.ieq {A : zA} {o g : Nat} {X Y : List It} (h : CP A o X g) (hl : X.length = Y.length) (he : ∀ k, k < X.length → (itm X k).1 = (itm Y k).1 ∧ ∀ m : Nat, m < nbk (itm X k).1 → ig (itm X k) (m + 1) = ig (itm Y k) (m + 1)) : CP A o Y g := by
  obtain ⟨h1, h2, h3, h4⟩ := h
  refine ⟨h1, by rw [h2, hl], h3, fun k hk => ?_⟩
  have hk' : k < X.length := by omega
  obtain ⟨e1, e2⟩ := he k hk'
  refine ⟨by rw [(h4 k hk').1, e1], fun i hi => ?_⟩
  rw [← e1] at hi
  rw [(h4 k hk').2 i hi, e2 i hi]
section
variable {N : Nat} {A B : zA} {o : Nat} {X : List It} {g k T q h : Nat}
/-- one read number is shifted -/
theorem c_shift_run {b : Int} {i : It} (ho : pto.contains o = true) (hS : ∀ B, cF [o] A B → STA B) (hi : okI T q h i) (h60 : h ≤ 60) (hb0 : 0 ≤ b) (hb : b ≤ 60) (hk : k < X.length) : ∀ (r n f : Nat) (B : zA) (j : It), ((n + r : Nat) : Int) = rdk i.1 → r < f → Own B → cF [o] A B → CP B o (X.set k j) g → j.1 = i.1 → (∀ m : Nat, m < nbk i.1 → ig j (m + 1) = if (m : Int) < frk i.1 + n then sfn b i m else ig i (m + 1)) → ∃ C j', z_Mv_shiftRegisters_26_l N f o k b n B = some C ∧ cF [o] A C ∧ CP C o (X.set k j') g ∧ j'.1 = i.1 ∧ (∀ m : Nat, m < nbk i.1 → ig j' (m + 1) = if (m : Int) < frk i.1 + rdk i.1 then sfn b i m else ig i (m + 1)) := by
  obtain ⟨o1, o2, o3, o4, o5⟩ := hi
  have hv := nbk_v o1 o2
  intro r
  induction r with
  | zero =>
    intro n f B j h1 h2 hO hF hc hj hn
    obtain ⟨u, rfl⟩ : ∃ u, f = u + 1 := ⟨f - 1, by omega⟩
    have hlen : k < (X.set k j).length := by rw [List.length_set]; exact hk
    have hit : itm (X.set k j) k = j := by rw [itm_set hk, if_pos rfl]
    have hok : okI T q 100 (itm (X.set k j) k) ∨ True := Or.inr trivial
    refine ⟨B, j, ?_, hF, hc, hj, fun m hm => ?_⟩
    · show z_Mv_shiftRegisters_26_b (z_Mv_shiftRegisters_26_l N u) N o k b n B = _
      unfold z_Mv_shiftRegisters_26_b z_Pt_reads
      have hs := hS B hF i.1.toNat (by omega)
      rw [show ((i.1.toNat : Nat) : Int) = i.1 by omega] at hs
      rw [cp_kind hO ho hc hlen, zbP_s, hit, hj, zrd_ok o1 (by omega), hs.1, zbP_s, if_neg (by omega)]
    · rw [hn m hm, show frk i.1 + (n : Int) = frk i.1 + rdk i.1 by omega]
  | succ r ih =>
    intro n f B j h1 h2 hO hF hc hj hn
    obtain ⟨u, rfl⟩ : ∃ u, f = u + 1 := ⟨f - 1, by omega⟩
    have hlen : k < (X.set k j).length := by rw [List.length_set]; exact hk
    have hit : itm (X.set k j) k = j := by rw [itm_set hk, if_pos rfl]
    have hs := hS B hF i.1.toNat (by omega)
    rw [show ((i.1.toNat : Nat) : Int) = i.1 by omega] at hs
    have w1 : zw ((n : Int) + 1) = ((n + 1 : Nat) : Int) := by
      have : rdk i.1 ≤ 2 := by unfold rdk; repeat' split <;> omega
      rw [yb_w (by omega) (by omega)]; omega
    have rd2 : rdk i.1 ≤ 2 := by unfold rdk; repeat' split <;> omega
    have fr1 : 0 ≤ frk i.1 ∧ frk i.1 ≤ 1 := by unfold frk; split <;> omega
    obtain ⟨wh, hwh⟩ : ∃ wh : Nat, frk i.1 + (n : Int) = wh := ⟨(frk i.1 + n).toNat, by omega⟩
    have hwn : wh < nbk i.1 ∧ isr i.1 wh := by
      unfold isr
      unfold rdk at h1
      unfold frk at hwh
      repeat' split at h1
      all_goals repeat' split at hwh
      all_goals omega
    have hnum := cp_num (N := N) (i := wh) hO ho hc hlen (by rw [hit, hj]; exact hwn.1)
    have hv0 : ig j (wh + 1) = ig i (wh + 1) := by rw [hn wh hwn.1, if_neg (by omega)]
    rw [hit, hv0] at hnum
    have st : z_Mv_shiftRegisters_26_l N (u + 1) o k b n B = (if ig i (wh + 1) < 6 then z_Mv_shiftRegisters_26_l N u o k b ((n + 1 : Nat) : Int) B else zbV (z_Pt_setNumber N o k wh (zw (ig i (wh + 1) + b)) B) fun A7 => z_Mv_shiftRegisters_26_l N u o k b ((n + 1 : Nat) : Int) A7) := by
      show z_Mv_shiftRegisters_26_b (z_Mv_shiftRegisters_26_l N u) N o k b n B = _
      unfold z_Mv_shiftRegisters_26_b z_Pt_reads z_Pt_readNumber
      rw [cp_kind hO ho hc hlen, zbP_s, hit, hj, zrd_ok o1 (by omega), hs.1, zbP_s, if_pos (by omega), zbP_s, zrd_ok o1 (by omega), hs.2.1, yb_w (by omega) (by omega), hwh, zbP_s, hnum, zbP_s, zbP_s, w1]
    rw [st]
    have hrg := (o3 wh hwn.1).2.2 hwn.2
    have hsf : sfn b i wh = if ig i (wh + 1) < 6 then ig i (wh + 1) else ig i (wh + 1) + b := by
      unfold sfn
      have hr := hwn.2
      unfold isr at hr
      by_cases c : ig i (wh + 1) < 6
      · rw [if_neg (by omega), if_pos c]
      · rw [if_pos ⟨hr.1, hr.2.1, hr.2.2, by omega⟩, if_neg c]
    by_cases c : ig i (wh + 1) < 6
    · rw [if_pos c]
      refine ih (n + 1) u B j (by omega) (by omega) hO hF hc hj (fun m hm => ?_)
      rw [hn m hm]
      by_cases z : m = wh
      · rw [z, if_neg (by omega), if_pos (by omega), hsf, if_pos c]
      · by_cases y : (m : Int) < frk i.1 + n
        · rw [if_pos y, if_pos (by omega)]
        · rw [if_neg y, if_neg (by omega)]
    · rw [if_neg c, yb_w (by omega) (by omega)]
      have hb4 := nbk_le i.1
      obtain ⟨C, c1, c2, c3, -⟩ := cp_set (N := N) (j := wh) (v := ig i (wh + 1) + b) hO ho hc hlen (by omega) (yb_w (by omega) (by omega))
      rw [c1, zbV_s]
      rw [hit, List.set_set] at c2
      refine ih (n + 1) u C _ (by omega) (by omega) c3.own (hF.trans c3) c2 (by rw [setN_1]; exact hj) (fun m hm => ?_)
      rw [setN_g _ _ (by omega) (by omega), hn m hm]
      by_cases z : m = wh
      · rw [if_pos z, z, if_pos (by omega), hsf, if_neg c]
      · rw [if_neg z]
        by_cases y : (m : Int) < frk i.1 + n
        · rw [if_pos y, if_pos (by omega)]
        · rw [if_neg y, if_neg (by omega)]
theorem sfn_hi {b : Int} {i : It} {n : Nat} (o1 : 0 ≤ i.1) (o2 : i.1 ≤ 12) (hn : n < nbk i.1) (h : ¬ (n : Int) < frk i.1 + rdk i.1) (h0 : i.1 = 0 ∨ i.1 = 5 → ig i 1 < 6) : sfn b i n = ig i (n + 1) := by
  have hv := nbk_v o1 o2
  unfold sfn
  refine if_neg (fun w => ?_)
  by_cases c : n = 0
  · subst c
    have w4 : 6 ≤ ig i 1 := w.2.2.2
    unfold frk rdk at h
    repeat' split at h
    all_goals omega
  · unfold frk rdk at h
    repeat' split at h
    all_goals omega
theorem c_shift {b : Int} (hN : 300000 ≤ N) (hO : Own A) (ho : pto.contains o = true) (hS : STA A) (hn3 : 3 < o) (hc : CP A o X g) (hk : k < X.length) (hi : okI T q h (itm X k)) (h60 : h ≤ 60) (hb0 : 0 ≤ b) (hb : b ≤ 60) : ∃ B, z_Mv_shiftRegisters N o k b A = some B ∧ cF [o] A B ∧ CP B o (X.set k (shf b (itm X k))) g := by
  have hS' : ∀ B, cF [o] A B → STA B := fun B f => hS.fr f (cont2 (by omega)) (cont2 (by omega)) (cont2 (by omega))
  have hw := cp_writ (N := N) hO ho hc hi h60 hk
  have hi0 := hi
  obtain ⟨o1, o2, o3, o4, o5⟩ := hi
  have hv := nbk_v o1 o2
  have hset : X = X.set k (itm X k) := by
    apply List.ext_getElem
    · rw [List.length_set]
    · intro m h1 h2
      rw [List.getElem_set]
      by_cases c : k = m
      · subst c; rw [if_pos rfl, itm_get hk]
      · rw [if_neg c]
  unfold z_Mv_shiftRegisters z_Mv_shiftRegisters_26
  rw [hw, zbP_s]
  generalize hii : itm X k = i at *
  -- the end
  have fin : ∀ (B : zA) (j : It), Own B → cF [o] A B → CP B o (X.set k j) g → j.1 = i.1 → (∀ m : Nat, m < nbk i.1 → ig j (m + 1) = if (m : Int) < frk i.1 then sfn b i m else ig i (m + 1)) → (i.1 = 0 ∨ i.1 = 5 → ig i 1 < 6) → ∃ C, z_Mv_shiftRegisters_26_l N N o k b 0 B = some C ∧ cF [o] A C ∧ CP C o (X.set k (shf b i)) g := fun B j hOB hF hcB hj hm h05 => by
    have rd0 : 0 ≤ rdk i.1 ∧ rdk i.1 ≤ 2 := by unfold rdk; repeat' split <;> omega
    obtain ⟨C, j', c1, c2, c3, c4, c5⟩ := c_shift_run (N := N) (b := b) (i := i) ho hS' hi0 h60 hb0 hb hk (rdk i.1).toNat 0 N B j (by omega) (by omega) hOB hF hcB hj (fun m hm' => by rw [hm m hm', show frk i.1 + ((0 : Nat) : Int) = frk i.1 by omega])
    rw [show ((0 : Nat) : Int) = 0 from rfl] at c1
    refine ⟨C, c1, c2, c3.ieq (by rw [List.length_set, List.length_set]) (fun m hm' => ?_)⟩
    rw [List.length_set] at hm'
    rw [itm_set hm', itm_set hm']
    by_cases z : m = k
    · rw [if_pos z, if_pos z]
      refine ⟨c4, fun n hn => ?_⟩
      rw [c4] at hn
      have hb4 := nbk_le i.1
      rw [c5 n hn, shf_g _ _ (by omega)]
      by_cases y : (n : Int) < frk i.1 + rdk i.1
      · rw [if_pos y]
      · rw [if_neg y, sfn_hi o1 o2 hn y h05]
    · rw [if_neg z, if_neg z]
      exact ⟨rfl, fun _ _ => rfl⟩
  unfold wri
  by_cases cw : i.1 ≤ 3 ∨ i.1 = 5
  · rw [if_pos cw]
    have hr0 := (o3 0 (by omega)).2.2 (by unfold isr; omega)
    have hr0 : 0 ≤ ig i 1 ∧ ig i 1 < h := hr0
    by_cases c6 : ig i 1 < 6
    · rw [if_pos c6]
      exact fin A i hO (cF.refl _ hO) (by rw [← hset]; exact hc) rfl (fun m hm => by
        by_cases y : (m : Int) < frk i.1
        · have hm0 : m = 0 := by unfold frk at y; split at y <;> omega
          subst hm0
          rw [if_pos y]
          unfold sfn
          show ig i 1 = if _ ∧ _ ∧ _ ∧ 6 ≤ ig i 1 then _ else ig i 1
          rw [if_neg (by omega)]
        · rw [if_neg y]) (fun _ => c6)
    · have hn0 := cp_num (N := N) (i := 0) hO ho hc hk (by rw [hii]; omega)
      rw [hii, show ((0 : Nat) : Int) = 0 from rfl] at hn0
      have hn0 : z_Pt_number N o k 0 A = some (ig i 1) := hn0
      obtain ⟨C, c1, c2, c3, -⟩ := cp_set (N := N) (j := 0) (v := ig i 1 + b) hO ho hc hk (by omega) (yb_w (by omega) (by omega))
      rw [show ((0 : Nat) : Int) = 0 from rfl] at c1
      rw [if_neg c6, hn0, zbP_s, yb_w (by omega) (by omega), c1, zbV_s]
      rw [hii] at c2
      have k01 : frk i.1 = if i.1 = 0 ∨ i.1 = 5 then 0 else 1 := by
        unfold frk
        repeat' split
        all_goals omega
      -- kinds that write: the first number is shifted either way
      obtain ⟨D, d1, d2, d3⟩ : ∃ D, z_Mv_shiftRegisters_26_l N N o k b 0 C = some D ∧ cF [o] A D ∧ CP D o (X.set k (shf b i)) g := by
        have rd0 : 0 ≤ rdk i.1 ∧ rdk i.1 ≤ 2 := by unfold rdk; repeat' split <;> omega
        by_cases c05 : i.1 = 0 ∨ i.1 = 5
        · have rz : rdk i.1 = 0 := by unfold rdk; rw [if_neg (by omega), if_neg (by omega)]
          refine ⟨C, ?_, c3, c2.ieq (by rw [List.length_set, List.length_set]) (fun m hm' => ?_)⟩
          · obtain ⟨u, hu⟩ : ∃ u, N = u + 1 := ⟨N - 1, by omega⟩
            have : ∀ f, z_Mv_shiftRegisters_26_l N (f + 1) o k b 0 C = some C := fun f => by
              show z_Mv_shiftRegisters_26_b (z_Mv_shiftRegisters_26_l N f) N o k b 0 C = _
              unfold z_Mv_shiftRegisters_26_b z_Pt_reads
              have hs := hS' C c3 i.1.toNat (by omega)
              rw [show ((i.1.toNat : Nat) : Int) = i.1 by omega] at hs
              rw [cp_kind c3.own ho c2 (by rw [List.length_set]; exact hk), zbP_s, itm_set hk, if_pos rfl, setN_1, zrd_ok o1 (by omega), hs.1, zbP_s, rz, if_neg (by decide)]
            have t := this u
            rw [← hu] at t
            exact t
          · rw [List.length_set] at hm'
            rw [itm_set hm', itm_set hm']
            by_cases z : m = k
            · rw [if_pos z, if_pos z, setN_1]
              refine ⟨rfl, fun n hn => ?_⟩
              rw [shf_g _ _ (by omega), setN_g _ _ (by omega) (by omega)]
              unfold sfn
              by_cases y : n = 0
              · subst y
                rw [if_pos rfl]
                show ig i 1 + b = if _ ∧ _ ∧ _ ∧ 6 ≤ ig i 1 then ig i 1 + b else _
                rw [if_pos (by omega)]
              · rw [if_neg y, if_neg (by omega)]
            · rw [if_neg z, if_neg z]
              exact ⟨rfl, fun _ _ => rfl⟩
        · exact fin C _ c3.own c3 c2 (by rw [setN_1]) (fun m hm => by
            rw [setN_g _ _ (by omega) (by omega), k01, if_neg c05]
            by_cases y : m = 0
            · subst y
              rw [if_pos rfl, if_pos (by decide)]
              unfold sfn
              show ig i 1 + b = if _ ∧ _ ∧ _ ∧ 6 ≤ ig i 1 then ig i 1 + b else _
              rw [if_pos (by omega)]
            · rw [if_neg y, if_neg (by omega)]) (fun z => absurd z c05)
      exact ⟨D, d1, d2, d3⟩
  · rw [if_neg cw, if_pos (by decide)]
    exact fin A i hO (cF.refl _ hO) (by rw [← hset]; exact hc) rfl (fun m hm => by
      have : frk i.1 = 0 := by unfold frk; rw [if_neg (by omega)]
      rw [this, if_neg (by omega)]) (fun z => by omega)
end
