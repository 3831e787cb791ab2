/-! the constructors -/
noncomputable def ct_nul : mq_C := (false, 999, 0, .null, [])
noncomputable def ct_ob (ci : Nat) : mq_C := (false, ci, (mp_dfl ci).length, .null, [])
noncomputable def ct_H5 : mq_H := (5, [(0, [(0, ct_nul), (1, mq_ar (mp_s1v.map .int)), (2, mq_ar (mp_s2v.map .int)), (3, mq_ar (mp_s3v.map .int)), (4, ct_ob 0)])])
def ct_veq (a b : Value) : Bool := match a, b with
  | .int x, .int y => decide (x = y)
  | .long x, .long y => decide (x = y)
  | .ref i, .ref j => Nat.beq i j
  | .null, .null => true
  | _, _ => false
theorem ct_veq_ok {a b : Value} (h : ct_veq a b = true) (ρ : Nat → Int32) : mq_v ρ a = b := by
  unfold ct_veq at h
  split at h
  · rw [of_decide_eq_true h]; rfl
  · rw [of_decide_eq_true h]; rfl
  · rw [Nat.eq_of_beq_eq_true h]; rfl
  · rfl
  · cases h
def ct_d (s : zK) : Value := bif Nat.beq (zsk s 0) 0 then .int 0 else .long 0
noncomputable def ct_c (a : Nat) (c : mq_C) : Bool := match zsh a with
  | some s => (bif s.1 then c.1 else !c.1) && Nat.beq c.2.1 s.2.1 && Nat.beq c.2.2.1 s.2.2 && (bif Nat.ble s.2.2 300 then (List.range s.2.2).all (fun j => ct_veq (mq_look mp_P c j) (zsv (zA0 0 (fun _ => 0)) a s j)) else s.1 && !pto.contains a && !Nat.beq a 230 && Nat.ble 4 a && Nat.ble (zsk s 0) 1 && ct_veq c.2.2.2.1 (ct_d s) && c.2.2.2.2.all (fun p => p.2.all (fun q => ct_veq q.2 (ct_d s))))
  | none => false
noncomputable def ct_h (h : mq_H) : Bool := Nat.beq h.1 295 && (List.range 294).all (fun a => ct_c (a + 1) ((mq_g2 h.2 (a + 1)).getD (true, 0, 0, .null, [])))
noncomputable def ct_T (n : Nat) : Bool := match mq_runA mp_P 4 108 n 2047 (84000 - (mp_mxl 1 + 19)) 1 0 (mj_en (mp_mxl 1) [.ref 4]) [] ct_H5 ([], 0, []) with
  | some (.inl none, h1, X1) => X1.2.2.isEmpty && Nat.beq h1.1 226 && (match mq_runA mp_P 4 108 n 2047 (84000 - (mp_mxl 2 + 19)) 2 0 (mj_en (mp_mxl 2) [.ref 226]) [] (227, mq_p2 h1.2 226 (ct_ob 12)) ([], 0, []) with
    | some (.inl none, h2, X2) => X2.2.2.isEmpty && ct_h h2
    | _ => false)
  | _ => false
theorem ct_ok : ct_T 20000 = true := by decide +kernel
theorem zI0_o {xs ys : Nat → Int32} {a j : Nat} (h : a ≠ 0) : zI0 xs a j = zI0 ys a j := by
  unfold zI0
  rw [if_neg h, if_neg h]
theorem zsv_o {L M : Nat} {xs ys : Nat → Int32} {a j : Nat} {s : zK} (h : a ≠ 0) : zsv (zA0 L xs) a s j = zsv (zA0 M ys) a s j := by
  unfold zsv
  show (match zsk s j with
    | 0 => Value.int (zI0 xs a j)
    | 1 => .long 0
    | _ => zrv (zR0 a j)) = (match zsk s j with
    | 0 => Value.int (zI0 ys a j)
    | 1 => .long 0
    | _ => zrv (zR0 a j))
  rw [zI0_o (ys := ys) h]
theorem ct_cell {L a : Nat} {xs ρ : Nat → Int32} {c : mq_C} {s : zK} (hs : zsh a = some s) (ha : a ≠ 0) (h : ct_c a c = true) : mq_c mp_P ρ c = zcl (zA0 L xs) a s := by
  unfold ct_c at h
  rw [hs] at h
  dsimp only at h
  rw [Bool.and_eq_true, Bool.and_eq_true, Bool.and_eq_true] at h
  obtain ⟨⟨⟨h1, h2⟩, h3⟩, h4⟩ := h
  obtain ⟨b, t, n⟩ := s
  have e1 : c.1 = b := by
    cases b with
    | true => exact h1
    | false => cases q : c.1 with
      | false => rfl
      | true => rw [q] at h1; cases h1
  have e2 : c.2.1 = t := Nat.eq_of_beq_eq_true h2
  have e3 : c.2.2.1 = n := Nat.eq_of_beq_eq_true h3
  have key : ∀ j, j < n → mq_v ρ (mq_look mp_P c j) = zsv (zA0 L xs) a (b, t, n) j := fun j hj => by
    rw [zsv_o (M := 0) (ys := fun _ => 0) ha]
    cases q : Nat.ble n 300 with
    | true =>
      have h4 : (bif Nat.ble n 300 then (List.range n).all (fun j => ct_veq (mq_look mp_P c j) (zsv (zA0 0 (fun _ => 0)) a (b, t, n) j)) else _) = true := h4
      rw [q] at h4
      exact ct_veq_ok (List.all_eq_true.mp h4 j (List.mem_range.mpr hj)) ρ
    | false =>
      have h4 : (bif Nat.ble n 300 then _ else b && !pto.contains a && !Nat.beq a 230 && Nat.ble 4 a && Nat.ble (zsk (b, t, n) 0) 1 && ct_veq c.2.2.2.1 (ct_d (b, t, n)) && c.2.2.2.2.all (fun p => p.2.all (fun q => ct_veq q.2 (ct_d (b, t, n))))) = true := h4
      rw [q] at h4
      simp only [cond_false, Bool.and_eq_true] at h4
      obtain ⟨⟨⟨⟨⟨⟨g1, g2⟩, g3⟩, g4⟩, g5⟩, g6⟩, g7⟩ := h4
      subst g1
      have lk : mq_v ρ (mq_look mp_P c j) = ct_d (true, t, n) := by
        unfold mq_look
        cases hg : mq_g2 c.2.2.2.2 j with
        | none =>
          dsimp only
          rw [e1]
          exact ct_veq_ok g6 ρ
        | some v =>
          dsimp only
          unfold mq_g2 mq_sub at hg
          split at hg
          · rename_i l hl
            obtain ⟨p, p1, p2⟩ := mq_get_mem _ hl
            obtain ⟨q, q1, q2⟩ := mq_get_mem _ hg
            have h1 := List.all_eq_true.mp g7 p p1
            rw [p2] at h1
            have h2 := List.all_eq_true.mp h1 q q1
            rw [q2] at h2
            exact ct_veq_ok h2 ρ
          · cases hg
      rw [lk]
      have z70 : z7 a j = false := z7_f (by simpa using g2) (fun z => by subst z; cases g3)
      have i0 : zI0 (fun _ => 0) a j = 0 := by
        have := Nat.ble_eq.mp g4
        unfold zI0
        rw [if_neg (by omega), if_neg (by omega), if_neg (by omega), if_neg (by omega), z70]
        rfl
      have ek : zsk (true, t, n) j = zsk (true, t, n) 0 := rfl
      unfold ct_d zsv
      rw [ek]
      have g5 := Nat.ble_eq.mp g5
      rcases (show zsk (true, t, n) 0 = 0 ∨ zsk (true, t, n) 0 = 1 by omega) with z | z
      · rw [z]
        show Value.int 0 = .int (zI0 (fun _ => 0) a j)
        rw [i0]
      · rw [z]
        rfl
  unfold mq_c zcl
  rw [e1, e2, e3]
  show (b, t, _) = (b, t, _)
  congr 2
  exact List.map_congr_left (fun j hj => key j (List.mem_range.mp hj))
def scr (L : Nat) (xs : Nat → Int32) : mj_C := (true, 0, (List.range L).map (fun j => .int (xs j)))
theorem ct_heap {L : Nat} {xs ρ : Nat → Int32} {h : mq_H} (hh : ct_h h = true) : (mq_h mp_P ρ h).set 0 (scr L xs) ++ [(true, 1, [.long 0])] = zhp (zA0 L xs) := by
  unfold ct_h at hh
  rw [Bool.and_eq_true] at hh
  have hl : h.1 = 295 := Nat.eq_of_beq_eq_true hh.1
  have hlen : (mq_h mp_P ρ h).length = 295 := by rw [mq_h_len]; exact hl
  apply List.ext_getElem?
  intro a
  rw [zhp_get]
  rcases Nat.lt_or_ge a 295 with q | q
  · rw [List.getElem?_append_left (by rw [List.length_set]; omega)]
    cases a with
    | zero =>
      rw [List.getElem?_set_self (by omega)]
      rfl
    | succ a =>
      rw [List.getElem?_set_ne (by omega)]
      have hc := List.all_eq_true.mp hh.2 a (List.mem_range.mpr (by omega))
      obtain ⟨s, hs⟩ : ∃ s, zsh (a + 1) = some s := by
        cases hs : zsh (a + 1) with
        | none => unfold ct_c at hc; rw [hs] at hc; cases hc
        | some s => exact ⟨s, rfl⟩
      have : (zA0 L xs).1[a + 1]? = some s := zS0_at hs
      rw [this]
      unfold mq_h
      rw [List.getElem?_map, List.getElem?_range (by omega)]
      exact congrArg some (ct_cell hs (by omega) hc)
  · rw [List.getElem?_append_right (by rw [List.length_set]; omega), List.length_set, hlen]
    by_cases e : a = 295
    · subst e
      have : (zA0 L xs).1[295]? = some (true, 1, 1) := zS0_at rfl
      rw [this]
      rfl
    · have : (zA0 L xs).1.length = 296 := by
        show (((true, 0, L) : zK) :: zK0).length = 296
        rw [List.length_cons, len_k]
      rw [List.getElem?_eq_none (by simp; omega), List.getElem?_eq_none (by omega)]
      rfl
theorem lw_i {n d w pc pc1 len : Nat} {i : Instr} {L L1 : mj_L} {S S1 : List Value} {h h1 : mj_H} {r : mj_O × mj_H} (hc : mp_code 0 pc = some (i, len)) (hp : zpl i = true) (hi : mj_i mp_P 4 i (pc + len) L S h = some (pc1, L1, S1, h1)) (hk : mj_ex mp_P 4 n d w 0 pc1 L1 S1 h1 = some r) : mj_ex mp_P 4 (n + 1) d w 0 pc L S h = some r := by
  show mj_body mp_P 4 (mj_ex mp_P 4 n) d w 0 pc L S h = some r
  have hc : mp_P.code 0 pc = some (i, len) := hc
  rw [zbody_i (P := mp_P) hc hp hi]
  exact hk
theorem lw_c {n d w pc len k : Nat} {L : mj_L} {S as rr : List Value} {h h1 : mj_H} {r : mj_O × mj_H} (hc : mp_code 0 pc = some (.invokestatic k, len)) (hk : ¬ 1000 ≤ k) (hp : mj_pop (mp_np k) S [] = some (as, rr)) (hq : 1 ≤ d ∧ mp_mxl k + 19 ≤ w ∧ mj_wd rr ≤ 8 ∧ mj_rcv (mp_rc k) as h = true ∧ (mj_in as).length ≤ mp_mxl k) (hg : mj_ex mp_P 4 n (d - 1) (w - (mp_mxl k + 19)) k 0 (mj_en (mp_mxl k) as) [] h = some (.inl none, h1)) (hx : mj_ex mp_P 4 n d w 0 (pc + len) L rr h1 = some r) : mj_ex mp_P 4 (n + 1) d w 0 pc L S h = some r := by
  show mj_body mp_P 4 (mj_ex mp_P 4 n) d w 0 pc L S h = some r
  unfold mj_body
  have hc : mp_P.code 0 pc = some (.invokestatic k, len) := hc
  rw [hc]
  dsimp only
  have hp : mj_pop (mp_P.np k) S [] = some (as, rr) := hp
  rw [if_neg hk, hp]
  dsimp only
  have hq : 1 ≤ d ∧ mp_P.maxL k + 19 ≤ w ∧ mj_wd rr ≤ 8 ∧ mj_rcv (mp_P.rc k) as h = true ∧ (mj_in as).length ≤ mp_P.maxL k := hq
  have hg : mj_ex mp_P 4 n (d - 1) (w - (mp_P.maxL k + 19)) k 0 (mj_en (mp_P.maxL k) as) [] h = some (.inl none, h1) := hg
  rw [if_pos hq, hg]
  exact hx
