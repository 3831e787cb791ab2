/-! the kernel's machine: instructions, the rest -/
section MQP
variable {P : mj_Pr} {nT nx k c t : Nat} {L : mj_L} {S : List Value} {h : mq_H} {X : mq_X} {kk : mq_K} {r : mj_O × mq_H × mq_X}
theorem mqo_tsw_ok {d lo hi : Int} {ts : Array Int} (hx : mqo_tsw d lo hi ts L S h X kk = some r) : mq_To P nT (.tableswitch d lo hi ts) nx L S h X kk r := by
  unfold mqo_tsw at hx
  split at hx
  · rename_i x q
    cases hb : (decide (x.toInt < lo) || decide (hi < x.toInt)) with
    | true =>
      rw [hb] at hx
      refine ⟨_, _, _, _, _, hx, fun f hf => hf, fun ρ _ => ?_⟩
      rw [Bool.or_eq_true, decide_eq_true_eq, decide_eq_true_eq] at hb
      have e : mq_s ρ (.int x :: q) = .int x :: mq_s ρ q := rfl
      rw [e]
      simp only [mj_i, if_pos hb]
    | false =>
      rw [hb] at hx
      rw [Bool.or_eq_false_iff, decide_eq_false_iff_not, decide_eq_false_iff_not] at hb
      dsimp only [cond_false] at hx
      split at hx
      · rename_i o ho
        refine ⟨_, _, _, _, _, hx, fun f hf => hf, fun ρ _ => ?_⟩
        have e : mq_s ρ (.int x :: q) = .int x :: mq_s ρ q := rfl
        have ho2 : ts[(x.toInt - lo).toNat]? = some o := by rw [← Array.getElem?_toList]; exact ho
        rw [e]
        simp only [mj_i, if_neg (not_or.mpr hb), ho2]
      · cases hx
  · rename_i k q
    split at hx
    · rename_i O hO
      obtain ⟨hb, hx⟩ := mq_bt hx
      rw [Bool.and_eq_true, decide_eq_true_eq, decide_eq_true_eq] at hb
      refine ⟨_, _, _, _, _, hx, fun f hf => List.mem_cons_of_mem _ hf, fun ρ hρ => ?_⟩
      have h9 : (ρ k).toInt < (Int32.ofInt lo).toInt ∨ ((hi.toNat : Nat) : Int) < (ρ k).toInt := hρ _ List.mem_cons_self
      rw [hb.1, hb.2] at h9
      have e : mq_s ρ (.retAddr k :: q) = .int (ρ k) :: mq_s ρ q := rfl
      rw [e]
      simp only [mj_i, if_pos h9]
    · rename_i j O hO
      obtain ⟨hb, hx⟩ := mq_bt hx
      rw [Bool.and_eq_true, decide_eq_true_eq, decide_eq_true_eq] at hb
      split at hx
      · rename_i o ho
        refine ⟨_, _, _, _, _, hx, fun f hf => List.mem_cons_of_mem _ hf, fun ρ hρ => ?_⟩
        have h9 : mj_cnd .eq (ρ k) (Int32.ofInt (lo + j)) = true := hρ _ List.mem_cons_self
        have h8 : ρ k = Int32.ofInt (lo + j) := by simpa [mj_cnd] using h9
        have e : mq_s ρ (.retAddr k :: q) = .int (ρ k) :: mq_s ρ q := rfl
        have h7 : (ρ k).toInt = lo + j := by rw [h8]; exact hb.1
        have ho2 : ts[j]? = some o := by rw [← Array.getElem?_toList]; exact ho
        rw [e]
        simp only [mj_i, h7]
        rw [if_neg (by omega), show (lo + (j : Int) - lo).toNat = j by omega, ho2]
      · cases hx
    · cases hx
  · cases hx
theorem mqo_lsk_ok {d : Int} {v : Value} {kv : Int → mq_X → mq_R} : ∀ (ps : List (Int × Int)) (X : mq_X) (r : mj_O × mq_H × mq_X), mqo_lsk ps d v X kv = some r → ∃ t X1, kv t X1 = some r ∧ (∀ f ∈ X.2.2, f ∈ X1.2.2) ∧ ∀ ρ, mq_Ok ρ X1.2.2 → mj_sw ps d (mq_e ρ v).toInt = t
  | [], X, r, hx => ⟨d, X, hx, fun f hf => hf, fun ρ _ => rfl⟩
  | q :: ps, X, r, hx => by
    unfold mqo_lsk at hx
    obtain ⟨hb, hx⟩ := mq_bt hx
    have hb := of_decide_eq_true hb
    obtain ⟨b, X1, h1, h2, -, -, h5⟩ := mqo_cnd_ok hx
    have key : ∀ ρ, mq_Ok ρ X1.2.2 → decide (mq_e ρ v = Int32.ofInt q.1) = b := fun ρ hρ => h5 ρ hρ
    cases b with
    | true =>
      refine ⟨q.2, X1, h1, h2, fun ρ hρ => ?_⟩
      have k := of_decide_eq_true (key ρ hρ)
      obtain ⟨a, t⟩ := q
      unfold mj_sw
      rw [if_pos (by rw [k]; exact hb.symm)]
    | false =>
      obtain ⟨t, X2, k1, k2, k3⟩ := mqo_lsk_ok ps X1 r h1
      refine ⟨t, X2, k1, fun f hf => k2 f (h2 f hf), fun ρ hρ => ?_⟩
      have k := of_decide_eq_false (key ρ (fun f hf => hρ f (k2 f hf)))
      have k4 := k3 ρ hρ
      obtain ⟨a, t'⟩ := q
      unfold mj_sw
      rw [if_neg (fun z => k (Int32.toInt_inj.mp (by rw [hb]; exact z.symm)))]
      exact k4
theorem mqo_lsw_ok {d : Int} {ps : Array (Int × Int)} (hx : mqo_lsw d ps L S h X kk = some r) : mq_To P nT (.lookupswitch d ps) nx L S h X kk r := by
  unfold mqo_lsw at hx
  split at hx
  · exact ⟨_, _, _, _, _, hx, fun f hf => hf, fun ρ _ => rfl⟩
  · obtain ⟨t, X1, h1, h2, h3⟩ := mqo_lsk_ok _ _ _ hx
    refine ⟨_, _, _, _, _, h1, h2, fun ρ hρ => ?_⟩
    rw [← h3 ρ hρ]
    rfl
  · cases hx
theorem mqo_gst_ok (hx : mqo_gst nT k nx L S h X kk = some r) : mq_To P nT (.getstatic k) nx L S h X kk r := by
  obtain ⟨hb, hx⟩ := mq_bt hx
  exact ⟨_, _, _, _, _, hx, fun f hf => hf, fun ρ _ => by
    simp only [mj_i, if_pos (Nat.blt_eq.mp hb)]
    rfl⟩
theorem mqo_gfd_ok {n : Nat} (hx : mqo_gfd P (n / 128) (n % 128) nx L S h X kk = some r) : mq_To P nT (.getfield n) nx L S h X kk r := by
  unfold mqo_gfd at hx
  split at hx
  · rename_i a q
    split at hx
    · rename_i u cn dv m hc
      obtain ⟨hb, hx⟩ := mq_bt hx
      rw [Bool.and_eq_true] at hb
      have hu := Nat.eq_of_beq_eq_true hb.1
      have hl := Nat.blt_eq.mp hb.2
      refine ⟨_, _, _, _, _, hx, fun f hf => hf, fun ρ _ => ?_⟩
      have e : mq_s ρ (.ref a :: q) = .ref a :: mq_s ρ q := rfl
      obtain ⟨g1, -, -⟩ := mq_h_at (P := P) (ρ := ρ) hc
      have g2 : mj_get (mq_h P ρ h) a (n / 128) (n % 128) = some (mq_v ρ (mq_look P (false, u, cn, dv, m) (n % 128))) := by
        unfold mj_get
        rw [g1]
        show (if u = n / 128 then _ else none) = _
        rw [if_pos hu]
        exact mq_c_at (c := (false, u, cn, dv, m)) hl
      rw [e]
      simp only [mj_i, g2]
      rfl
    · cases hx
  · cases hx
theorem mq_fit_ok {ρ : Nat → Int32} {v : Value} (hf : mq_fit t v = true) : mj_fit t (mq_v ρ v) = true := by
  unfold mq_fit at hf
  split at hf
  · rw [mq_v_int hf]
    rfl
  · rename_i z
    cases v with
    | retAddr k =>
      have h9 : ∀ t, mj_fit t (.retAddr k) = false := fun t => by
        unfold mj_fit
        split <;> simp_all
      rw [h9] at hf
      cases hf
    | _ => exact hf
theorem mqo_pfd_ok {n : Nat} (hx : mqo_pfd nT (n / 16 / 128) (n / 16 % 128) (n % 16) nx L S h X kk = some r) : mq_To P nT (.putfield n) nx L S h X kk r := by
  unfold mqo_pfd at hx
  split at hx
  · rename_i v a q
    split at hx
    · rename_i u cn dv m hc
      obtain ⟨hb, hx⟩ := mq_bt hx
      simp only [Bool.and_eq_true] at hb
      obtain ⟨⟨⟨hf, hu⟩, hl⟩, hn⟩ := hb
      have hu := Nat.eq_of_beq_eq_true hu
      have hl := Nat.blt_eq.mp hl
      have hn : nT ≤ a := Nat.le_of_ble_eq_true hn
      rw [mq_p2K_eq, mq_p2K_eq] at hx
      refine ⟨_, _, _, _, _, hx, fun f hf => hf, fun ρ _ => ?_⟩
      have e : mq_s ρ (v :: .ref a :: q) = mq_v ρ v :: .ref a :: mq_s ρ q := rfl
      obtain ⟨g1, -, -⟩ := mq_h_at (P := P) (ρ := ρ) hc
      have g2 : mj_put nT (mq_h P ρ h) a (n / 16 / 128) (n / 16 % 128) (mq_v ρ v) = some (mq_h P ρ (h.1, mq_p2 h.2 a (false, u, cn, dv, mq_p2 m (n / 16 % 128) v))) := by
        unfold mj_put
        rw [g1]
        show (if u = n / 16 / 128 ∧ _ ∧ _ then _ else none) = _
        rw [if_pos ⟨hu, by simp; exact hl, hn⟩, mq_h_set, mq_c_set]
        rfl
      rw [e]
      simp only [mj_i, mq_fit_ok hf, if_true, g2]
    · cases hx
  · cases hx
theorem mqo_push_ok {c : mq_C} (hx : mqo_push c nx L S h X kk = some r) : ∃ h1, kk nx L (.ref h.1 :: S) h1 X = some r ∧ ∀ ρ, mq_h P ρ h1 = mq_h P ρ h ++ [mq_c P ρ c] := by
  unfold mqo_push at hx
  rw [mq_p2K_eq] at hx
  exact ⟨_, hx, fun ρ => mq_h_push⟩
theorem mqo_new_ok {ci : Nat} (hdf : ∀ v ∈ P.dfl ci, ∀ k, v ≠ .retAddr k) (hx : mqo_push (false, ci, (P.dfl ci).length, .null, []) nx L S h X kk = some r) : mq_To P nT (.new ci) nx L S h X kk r := by
  obtain ⟨h1, hx, hh⟩ := mqo_push_ok (P := P) hx
  refine ⟨_, _, _, _, _, hx, fun f hf => hf, fun ρ _ => ?_⟩
  have e : mq_c P ρ (false, ci, (P.dfl ci).length, .null, []) = (false, ci, P.dfl ci) := by
    show (false, ci, _) = (false, ci, _)
    congr 2
    refine List.ext_getElem? fun j => ?_
    by_cases hj : j < (P.dfl ci).length
    · rw [List.getElem?_map, List.getElem?_range hj, Option.map_some, List.getElem?_eq_getElem hj]
      congr 1
      have e1 : mq_look P (false, ci, (P.dfl ci).length, .null, []) j = (P.dfl ci)[j] := by
        show (P.dfl ci).getD j .null = _
        simp [hj]
      rw [e1]
      have h9 := hdf _ (List.getElem_mem hj)
      cases hv : (P.dfl ci)[j] with
      | retAddr k => exact absurd hv (h9 k)
      | _ => rfl
    · rw [List.getElem?_eq_none (by simp; omega), List.getElem?_eq_none (by omega)]
  rw [hh, e]
  simp only [mj_i, mq_h_len]
  rfl
theorem mq_c_rep {ρ : Nat → Int32} {u n : Nat} {dv : Value} (hdv : mq_v ρ dv = dv) : mq_c P ρ (true, u, n, dv, []) = (true, u, List.replicate n dv) := by
  show (true, u, _) = (true, u, _)
  congr 2
  refine List.ext_getElem? fun j => ?_
  by_cases hj : j < n
  · rw [List.getElem?_map, List.getElem?_range hj, Option.map_some, List.getElem?_replicate, if_pos hj]
    show some (mq_v ρ dv) = _
    rw [hdv]
  · rw [List.getElem?_eq_none (by simp; omega), List.getElem?_eq_none (by simp; omega)]
theorem mq_dv_v (ρ : Nat → Int32) (t : Nat) : mq_v ρ (mj_dv t) = mj_dv t := by
  unfold mj_dv
  split <;> rfl
theorem mqo_nwa_ok {i : Instr} {u : Nat} {dv : Value} (hdv : ∀ ρ, mq_v ρ dv = dv) (hi : ∀ (L : mj_L) (q : List Value) (H : mj_H) (n : Int32), ¬ n < 0 ∧ n.toNatClampNeg ≤ 1000000 → mj_i P nT i nx L (.int n :: q) H = some (nx, L, .ref H.length :: q, H ++ [(true, u, List.replicate n.toNatClampNeg dv)])) (hx : mqo_nwa u dv nx L S h X kk = some r) : mq_To P nT i nx L S h X kk r := by
  unfold mqo_nwa at hx
  split at hx
  · rename_i n q
    obtain ⟨hb, hx⟩ := mq_bt hx
    rw [Bool.and_eq_true, Bool.not_eq_true', decide_eq_false_iff_not] at hb
    obtain ⟨h1, hx, hh⟩ := mqo_push_ok (P := P) hx
    refine ⟨_, _, _, _, _, hx, fun f hf => hf, fun ρ _ => ?_⟩
    have e : mq_s ρ (.int n :: q) = .int n :: mq_s ρ q := rfl
    rw [e, hi _ _ _ _ ⟨hb.1, Nat.le_of_ble_eq_true hb.2⟩, hh, mq_c_rep (hdv ρ), mq_h_len]
    rfl
  · cases hx
theorem mq_pushN_ok {c : mq_C} : ∀ (n : Nat) (h : mq_H) (kv : mq_H → mq_R), mq_pushN c n h kv = some r → ∃ h1, kv h1 = some r ∧ ∀ ρ, mq_h P ρ h1 = mq_h P ρ h ++ List.replicate n (mq_c P ρ c)
  | 0, h, kv, hx => ⟨h, hx, fun ρ => by simp⟩
  | n + 1, h, kv, hx => by
    have hx : mq_p2K h.2 h.1 c (fun g => mq_pushN c n (h.1 + 1, g) kv) = some r := hx
    rw [mq_p2K_eq] at hx
    obtain ⟨h1, g1, g2⟩ := mq_pushN_ok n _ kv hx
    exact ⟨h1, g1, fun ρ => by rw [g2, mq_h_push, List.append_assoc]; rfl⟩
theorem mq_refs_ok {b : Nat} : ∀ (n : Nat) (m : mq_M Value) (kv : mq_M Value → mq_R), mq_refs b n m kv = some r → ∃ m1, kv m1 = some r ∧ ∀ j, mq_g2 m1 j = if j < n then some (.ref (b + j)) else mq_g2 m j
  | 0, m, kv, hx => ⟨m, hx, fun j => by simp⟩
  | n + 1, m, kv, hx => by
    have hx : mq_p2K m n (.ref (b + n)) (fun g => mq_refs b n g kv) = some r := hx
    rw [mq_p2K_eq] at hx
    obtain ⟨m1, g1, g2⟩ := mq_refs_ok n _ kv hx
    refine ⟨m1, g1, fun j => ?_⟩
    rw [g2, mq_g2_p2]
    by_cases h1 : j < n
    · rw [if_pos h1, if_pos (by omega)]
    · by_cases h2 : j = n
      · subst h2
        rw [if_neg h1, if_pos rfl, if_pos (by omega)]
      · rw [if_neg h1, if_neg h2, if_neg (by omega)]
theorem mqo_mul_ok {dm : Nat} (hx : mqo_mul t nx L S h X kk = some r) : mq_To P nT (.multianewarray t dm) nx L S h X kk r := by
  unfold mqo_mul at hx
  split at hx
  · rename_i m n q
    obtain ⟨hb, hx⟩ := mq_bt hx
    simp only [Bool.and_eq_true, Bool.not_eq_true', decide_eq_false_iff_not] at hb
    obtain ⟨⟨⟨b1, b2⟩, b3⟩, b4⟩ := hb
    obtain ⟨rs, hx, hrs⟩ := mq_refs_ok _ _ _ hx
    rw [mq_p2K_eq] at hx
    obtain ⟨h1, hx, hh⟩ := mq_pushN_ok (P := P) _ _ _ hx
    refine ⟨_, _, _, _, _, hx, fun f hf => hf, fun ρ _ => ?_⟩
    have e : mq_s ρ (.int m :: .int n :: q) = .int m :: .int n :: mq_s ρ q := rfl
    have e2 : mq_c P ρ (true, t / 16, n.toNatClampNeg, .null, rs) = (true, t / 16, (List.range n.toNatClampNeg).map (fun j => Value.ref (h.1 + 1 + j))) := by
      show (true, t / 16, _) = (true, t / 16, _)
      congr 2
      refine List.map_congr_left fun j hj => ?_
      have hj := List.mem_range.mp hj
      show mq_v ρ (match mq_g2 rs j with | some v => v | none => _) = _
      rw [hrs, if_pos hj]
      rfl
    rw [e, hh, mq_h_push, e2, mq_c_rep (mq_dv_v ρ _)]
    simp only [mj_i]
    rw [if_pos ⟨b1, Nat.le_of_ble_eq_true b2, b3, Nat.le_of_ble_eq_true b4⟩, mq_h_len, List.append_assoc]
    rfl
  · cases hx
theorem mqo_len_ok (hx : mqo_len nx L S h X kk = some r) : mq_To P nT .arraylength nx L S h X kk r := by
  unfold mqo_len at hx
  split at hx
  · rename_i a q
    split at hx
    · rename_i u n dv m hc
      refine ⟨_, _, _, _, _, hx, fun f hf => hf, fun ρ _ => ?_⟩
      obtain ⟨g1, -, -⟩ := mq_h_at (P := P) (ρ := ρ) hc
      have e : mq_s ρ (.ref a :: q) = .ref a :: mq_s ρ q := rfl
      have g2 : mj_len (mq_h P ρ h) a = some n.toInt32 := by
        unfold mj_len
        rw [g1]
        show some (List.length _).toInt32 = _
        simp
      rw [e]
      simp only [mj_i, g2]
      rfl
    · cases hx
  · cases hx
theorem mqo_xld_ok {lo hi : Nat} (hx : mqo_xld P lo hi nx L S h X kk = some r) : ∃ (x : Int32) (a : Nat) (q : List Value) (u : Nat) (v : Value), S = .int x :: .ref a :: q ∧ kk nx L (v :: q) h X = some r ∧ lo ≤ u ∧ u ≤ hi ∧ ¬ x < 0 ∧ ∀ ρ, ∃ vs, (mq_h P ρ h)[a]? = some (true, u, vs) ∧ vs[x.toNatClampNeg]? = some (mq_v ρ v) := by
  unfold mqo_xld at hx
  split at hx
  · rename_i x a q
    split at hx
    · rename_i u n dv m hc
      obtain ⟨hb, hx⟩ := mq_bt hx
      simp only [Bool.and_eq_true, Bool.not_eq_true', decide_eq_false_iff_not] at hb
      obtain ⟨⟨⟨b1, b2⟩, b3⟩, b4⟩ := hb
      refine ⟨x, a, q, u, _, rfl, hx, Nat.le_of_ble_eq_true b1, Nat.le_of_ble_eq_true b2, b3, fun ρ => ?_⟩
      obtain ⟨g1, -, -⟩ := mq_h_at (P := P) (ρ := ρ) hc
      exact ⟨_, g1, mq_c_at (c := (true, u, n, dv, m)) (Nat.blt_eq.mp b4)⟩
    · cases hx
  · cases hx
theorem mqo_pld_ok {i : Instr} (hi : ∀ (L : mj_L) (q : List Value) (H : mj_H) (x : Int32) (a : Nat), mj_i P nT i nx L (.int x :: .ref a :: q) H = match mj_ald t H a x with
      | some v => some (nx, L, v :: q, H)
      | none => none) (hx : mqo_xld P t t nx L S h X kk = some r) : mq_To P nT i nx L S h X kk r := by
  obtain ⟨x, a, q, u, v, rfl, hy, h1, h2, h3, h4⟩ := mqo_xld_ok hx
  have hu : u = t := by omega
  subst hu
  refine ⟨_, _, _, _, _, hy, fun f hf => hf, fun ρ _ => ?_⟩
  obtain ⟨vs, g1, g2⟩ := h4 ρ
  have e : mq_s ρ (.int x :: .ref a :: q) = .int x :: .ref a :: mq_s ρ q := rfl
  have g3 : mj_ald u (mq_h P ρ h) a x = some (mq_v ρ v) := by
    unfold mj_ald
    rw [g1]
    show (if u = u ∧ _ then _ else none) = _
    rw [if_pos ⟨rfl, h3⟩]
    exact g2
  rw [e, hi, g3]
  rfl
theorem mqo_ald2_ok (hx : mqo_xld P 6 8 nx L S h X kk = some r) : mq_To P nT .aaload nx L S h X kk r := by
  obtain ⟨x, a, q, u, v, rfl, hy, h1, h2, h3, h4⟩ := mqo_xld_ok hx
  refine ⟨_, _, _, _, _, hy, fun f hf => hf, fun ρ _ => ?_⟩
  obtain ⟨vs, g1, g2⟩ := h4 ρ
  have e : mq_s ρ (.int x :: .ref a :: q) = .int x :: .ref a :: mq_s ρ q := rfl
  rw [e]
  simp only [mj_i, g1]
  rw [if_pos ⟨h1, h2, h3⟩, g2]
  rfl
theorem mqo_xst_ok {v : Value} (hx : mqo_xst nT t nx v L S h X kk = some r) : ∃ (x : Int32) (a : Nat) (q : List Value) (h1 : mq_H), S = .int x :: .ref a :: q ∧ kk nx L q h1 X = some r ∧ ∀ ρ, mj_ast nT t (mq_h P ρ h) a x (mq_v ρ v) = some (mq_h P ρ h1) := by
  unfold mqo_xst at hx
  split at hx
  · rename_i x a q
    split at hx
    · rename_i u n dv m hc
      obtain ⟨hb, hx⟩ := mq_bt hx
      simp only [Bool.and_eq_true, Bool.not_eq_true', decide_eq_false_iff_not] at hb
      obtain ⟨⟨⟨b1, b2⟩, b3⟩, b4⟩ := hb
      rw [mq_p2K_eq, mq_p2K_eq] at hx
      refine ⟨x, a, q, _, rfl, hx, fun ρ => ?_⟩
      obtain ⟨g1, -, -⟩ := mq_h_at (P := P) (ρ := ρ) hc
      unfold mj_ast
      rw [g1]
      show (if u = t ∧ _ ∧ _ ∧ _ then _ else none) = _
      rw [if_pos ⟨Nat.eq_of_beq_eq_true b1, b2, by simp; exact Nat.blt_eq.mp b3, Nat.le_of_ble_eq_true b4⟩, mq_h_set, mq_c_set]
      rfl
    · cases hx
  · cases hx
theorem mqo_ias_ok (hx : mqo_ias nT nx L S h X kk = some r) : mq_To P nT .iastore nx L S h X kk r := by
  unfold mqo_ias at hx
  split at hx
  · rename_i v q
    obtain ⟨hi, hx⟩ := mq_bt hx
    obtain ⟨x, a, q, h1, rfl, hx, hh⟩ := mqo_xst_ok (P := P) hx
    refine ⟨_, _, _, _, _, hx, fun f hf => hf, fun ρ _ => ?_⟩
    have e : mq_s ρ (v :: .int x :: .ref a :: q) = .int (mq_e ρ v) :: .int x :: .ref a :: mq_s ρ q := by rw [← mq_v_int hi]; rfl
    have g := hh ρ
    rw [mq_v_int hi] at g
    rw [e]
    simp only [mj_i, g]
  · cases hx
theorem mqo_las_ok (hx : mqo_las nT nx L S h X kk = some r) : mq_To P nT .lastore nx L S h X kk r := by
  unfold mqo_las at hx
  split at hx
  · rename_i v q
    obtain ⟨x, a, q, h1, rfl, hx, hh⟩ := mqo_xst_ok (P := P) hx
    refine ⟨_, _, _, _, _, hx, fun f hf => hf, fun ρ _ => ?_⟩
    have e : mq_s ρ (.long v :: .int x :: .ref a :: q) = .long v :: .int x :: .ref a :: mq_s ρ q := rfl
    have g : mj_ast nT 1 (mq_h P ρ h) a x (.long v) = _ := hh ρ
    rw [e]
    simp only [mj_i, g]
  · cases hx
theorem mqo_cas_ok (hx : mqo_cas nT nx L S h X kk = some r) : mq_To P nT .castore nx L S h X kk r := by
  unfold mqo_cas at hx
  split at hx
  · rename_i v q
    obtain ⟨hi, hx⟩ := mq_bt hx
    obtain ⟨x, a, q, h1, rfl, hx, hh⟩ := mqo_xst_ok (P := P) hx
    refine ⟨_, _, _, _, _, hx, fun f hf => hf, fun ρ _ => ?_⟩
    have e : mq_s ρ (.int v :: .int x :: .ref a :: q) = .int v :: .int x :: .ref a :: mq_s ρ q := rfl
    have g : mj_ast nT 2 (mq_h P ρ h) a x (.int v) = _ := hh ρ
    rw [e]
    simp only [mj_i, hi, if_true, g]
  · rename_i k q
    obtain ⟨x, a, q, h1, rfl, hx, hh⟩ := mqo_xst_ok (P := P) hx
    refine ⟨_, _, _, _, _, hx, fun f hf => List.mem_cons_of_mem _ hf, fun ρ hρ => ?_⟩
    have hi : mj_fit 2 (.int (ρ k)) = true := hρ _ List.mem_cons_self
    have e : mq_s ρ (.retAddr k :: .int x :: .ref a :: q) = .int (ρ k) :: .int x :: .ref a :: mq_s ρ q := rfl
    have g : mj_ast nT 2 (mq_h P ρ h) a x (.int (ρ k)) = _ := hh ρ
    rw [e]
    simp only [mj_i, hi, if_true, g]
  · cases hx
theorem mqo_bas_ok (hx : mqo_bas nT nx L S h X kk = some r) : mq_To P nT .bastore nx L S h X kk r := by
  unfold mqo_bas at hx
  split at hx
  · rename_i v q
    obtain ⟨hi, hx⟩ := mq_bt hx
    obtain ⟨x, a, q, h1, rfl, hx, hh⟩ := mqo_xst_ok (P := P) hx
    refine ⟨_, _, _, _, _, hx, fun f hf => hf, fun ρ _ => ?_⟩
    have e : mq_s ρ (.int v :: .int x :: .ref a :: q) = .int v :: .int x :: .ref a :: mq_s ρ q := rfl
    have g : mj_ast nT 3 (mq_h P ρ h) a x (.int v) = _ := hh ρ
    rw [e]
    simp only [mj_i, hi, if_true, g]
  · cases hx
theorem mqo_aas_ok (hx : mqo_aas nT nx L S h X kk = some r) : mq_To P nT .aastore nx L S h X kk r := by
  unfold mqo_aas at hx
  split at hx
  · rename_i v q
    split at hx
    · rename_i u n dv m hc
      obtain ⟨hi, hx⟩ := mq_bt hx
      have hu := Nat.eq_of_beq_eq_true hi
      subst hu
      obtain ⟨x, a, q, h1, rfl, hx, hh⟩ := mqo_xst_ok (P := P) hx
      refine ⟨_, _, _, _, _, hx, fun f hf => hf, fun ρ _ => ?_⟩
      obtain ⟨g1, -, -⟩ := mq_h_at (P := P) (ρ := ρ) hc
      have g1 : (mq_h P ρ h)[v]? = some (false, 3, (mq_c P ρ (false, 3, n, dv, m)).2.2) := g1
      have e : mq_s ρ (.ref v :: .int x :: .ref a :: q) = .ref v :: .int x :: .ref a :: mq_s ρ q := rfl
      have g : mj_ast nT 6 (mq_h P ρ h) a x (.ref v) = _ := hh ρ
      rw [e]
      simp only [mj_i, g1, g]
    · cases hx
  · cases hx
end MQP
