/-! the kernel's machine: calls, the run -/
abbrev mq_G : Type := Nat → Nat → Nat → Nat → mj_L → List Value → mq_H → mq_X → mq_R
noncomputable def mq_rcv (c : Option Nat) (as : List Value) (h : mq_H) : Bool := match c with
  | none => true
  | some ci => (match as with
    | .ref a :: _ => (match mq_cell h a with
      | some (false, u, _, _, _) => Nat.beq u ci
      | _ => false)
    | _ => false)
def mq_tyo (t : Nat) (v : Value) : Bool := match t, v with
  | 0, .int _ => true
  | 0, .retAddr _ => true
  | 1, .long _ => true
  | _, _ => false
def mq_all (t : Nat) (dv : Value) (l : mq_M Value) : Bool := mq_tyo t dv && l.all (fun p => p.2.all (fun q => mq_tyo t q.2))
noncomputable def mq_cpy (P : mj_Pr) (c : mq_C) (sp dp n : Nat) : mq_M Value → (mq_M Value → mq_R) → mq_R := Nat.rec (motive := fun _ => mq_M Value → (mq_M Value → mq_R) → mq_R) (fun m kk => kk m) (fun j ih m kk => mq_p2K m (dp + j) (mq_look P c (sp + j)) (fun g => ih g kk)) n
noncomputable def mq_lib (P : mj_Pr) (nT k : Nat) (as : List Value) (h : mq_H) (kk : List Value → mq_H → mq_R) : mq_R := match k, as with
  | 1000, [.ref _] => kk [] h
  | 1001, [.int x, .int y] => kk [.int (if x < y then y else x)] h
  | 1002, [.int x, .int y] => kk [.int (if y < x then y else x)] h
  | 1003, [.ref a, .int sp, .ref b, .int dp, .int n] => (match mq_cell h a, mq_cell h b with
    | some (true, t, fn, fd, fm), some (true, u, gn, gd, gm) => bif Nat.beq t u && mq_all t fd fm && mq_all t gd gm && Nat.ble nT a && Nat.ble nT b && !Nat.beq a b && !decide (sp < 0) && !decide (dp < 0) && !decide (n < 0) && Nat.ble (sp.toNatClampNeg + n.toNatClampNeg) fn && Nat.ble (dp.toNatClampNeg + n.toNatClampNeg) gn
      then mq_cpy P (true, t, fn, fd, fm) sp.toNatClampNeg dp.toNatClampNeg n.toNatClampNeg gm (fun m1 => mq_p2K h.2 b (true, u, gn, gd, m1) (fun g => kk [] (h.1, g))) else none
    | _, _ => none)
  | _, _ => none
noncomputable def mq_call (P : mj_Pr) (nT : Nat) (go : mq_G) (d w mi pc k : Nat) (nx : Nat) (L : mj_L) (S : List Value) (h : mq_H) (X : mq_X) : mq_R := bif Nat.ble 1000 k then (match mj_pop (P.np k) S [] with
    | some (as, q) => bif Nat.ble 1 d && Nat.ble 64 w && Nat.ble (mj_wd q) 8 then mq_lib P nT k as h (fun v h1 => go d w mi nx L (v ++ q) h1 X) else none
    | none => none)
  else (match mj_pop (P.np k) S [] with
    | some (as, q) => bif Nat.ble 1 d && Nat.ble (P.maxL k + 19) w && Nat.ble (mj_wd q) 8 && mq_rcv (P.rc k) as h && Nat.ble (mj_in as).length (P.maxL k) then (match go (d - 1) (w - (P.maxL k + 19)) k 0 (mj_en (P.maxL k) as) [] h X with
      | some (.inl v, h1, X1) => go d w mi nx L (v.toList ++ q) h1 X1
      | some (.inr (x, a), h1, X1) => (match mj_hn (P.hnd mi) pc x with
        | some t => go d w mi t L [.ref a] h1 X1
        | none => none)
      | none => none) else none
    | none => none)
noncomputable def mq_iret (P : mj_Pr) (mi : Nat) (S : List Value) (h : mq_H) (X : mq_X) : mq_R := match S with
  | [v] => bif mq_fit (P.rk mi) v && mq_isI v then some (.inl (some v), h, X) else none
  | _ => none
noncomputable def mq_thr (x d w : Nat) (S : List Value) (h : mq_H) (X : mq_X) : mq_R := match S with
  | [] => bif Nat.ble x 2 && Nat.ble 8 d && Nat.ble 10300 w then mq_p2K h.2 h.1 (false, 100 + x, 0, .null, []) (fun g => some (.inr (x, h.1), (h.1 + 1, g), X)) else none
  | _ => none
noncomputable def mq_body (P : mj_Pr) (nT : Nat) (go : mq_G) (d w mi pc nx : Nat) (i : Instr) (L : mj_L) (S : List Value) (h : mq_H) (X : mq_X) : mq_R := match i with
  | .iconst n => go d w mi nx L (.int (Int32.ofInt n) :: S) h X
  | .ldc2_w n => go d w mi nx L (.long (Int64.ofNat n) :: S) h X
  | .aconst_null => go d w mi nx L (.null :: S) h X
  | .iload k => mqo_ild k nx L S h X (go d w mi)
  | .lload k => mqo_lld k nx L S h X (go d w mi)
  | .aload k => mqo_ald k nx L S h X (go d w mi)
  | .istore k => mqo_ist k nx L S h X (go d w mi)
  | .lstore k => mqo_lst k nx L S h X (go d w mi)
  | .astore k => mqo_ast k nx L S h X (go d w mi)
  | .iinc k n => mqo_inc k n nx L S h X (go d w mi)
  | .iadd => mqo_ari 0 nx L S h X (go d w mi)
  | .isub => mqo_ari 1 nx L S h X (go d w mi)
  | .imul => mqo_ari 2 nx L S h X (go d w mi)
  | .iand => mqo_ari 3 nx L S h X (go d w mi)
  | .ixor => mqo_ari 4 nx L S h X (go d w mi)
  | .ishr => mqo_ari 5 nx L S h X (go d w mi)
  | .iushr => mqo_ari 6 nx L S h X (go d w mi)
  | .i2c => mqo_i2c nx L S h X (go d w mi)
  | .i2l => mqo_i2l nx L S h X (go d w mi)
  | .lcmp => mqo_lcmp nx L S h X (go d w mi)
  | .dup => mqo_dup nx L S h X (go d w mi)
  | .pop => mqo_pop nx L S h X (go d w mi)
  | .ifCond c t => mqo_if c t nx L S h X (go d w mi)
  | .if_icmp c t => mqo_icmp c t nx L S h X (go d w mi)
  | .goto t => go d w mi t.toNat L S h X
  | .tableswitch e lo hi ts => mqo_tsw e lo hi ts L S h X (go d w mi)
  | .lookupswitch e ps => mqo_lsw e ps L S h X (go d w mi)
  | .getstatic k => mqo_gst nT k nx L S h X (go d w mi)
  | .getfield n => mqo_gfd P (n / 128) (n % 128) nx L S h X (go d w mi)
  | .putfield n => mqo_pfd nT (n / 16 / 128) (n / 16 % 128) (n % 16) nx L S h X (go d w mi)
  | .new ci => mqo_push (false, ci, (P.dfl ci).length, .null, []) nx L S h X (go d w mi)
  | .newarray a => mqo_nwa (mj_kind a) (mj_dv (mj_kind a)) nx L S h X (go d w mi)
  | .anewarray t => mqo_nwa t .null nx L S h X (go d w mi)
  | .multianewarray t _ => mqo_mul t nx L S h X (go d w mi)
  | .arraylength => mqo_len nx L S h X (go d w mi)
  | .iaload => mqo_xld P 0 0 nx L S h X (go d w mi)
  | .laload => mqo_xld P 1 1 nx L S h X (go d w mi)
  | .caload => mqo_xld P 2 2 nx L S h X (go d w mi)
  | .baload => mqo_xld P 3 3 nx L S h X (go d w mi)
  | .aaload => mqo_xld P 6 8 nx L S h X (go d w mi)
  | .iastore => mqo_ias nT nx L S h X (go d w mi)
  | .lastore => mqo_las nT nx L S h X (go d w mi)
  | .castore => mqo_cas nT nx L S h X (go d w mi)
  | .bastore => mqo_bas nT nx L S h X (go d w mi)
  | .aastore => mqo_aas nT nx L S h X (go d w mi)
  | .return_ => (match S with
    | [] => some (.inl none, h, X)
    | _ => none)
  | .ireturn => mq_iret P mi S h X
  | .areturn => (match S with
    | [.ref x] => some (.inl (some (.ref x)), h, X)
    | _ => none)
  | .lreturn => (match S with
    | [.long x] => some (.inl (some (.long x)), h, X)
    | _ => none)
  | .ret x => mq_thr x d w S h X
  | .invokestatic k => mq_call P nT go d w mi pc k nx L S h X
  | _ => none
noncomputable def mq_run (P : mj_Pr) (nT : Nat) (n : Nat) : mq_G := Nat.rec (motive := fun _ => mq_G) (fun _ _ _ _ _ _ _ _ => none) (fun _ go d w mi pc L S h X => match P.code mi pc with
  | some (i, len) => mq_body P nT go d w mi pc (pc + len) i L S h X
  | none => none) n
/-! .. are MJ's -/
def mq_o (ρ : Nat → Int32) (o : mj_O) : mj_O := match o with
  | .inl v => .inl (v.map (mq_v ρ))
  | .inr q => .inr q
def mq_Snd (P : mj_Pr) (nT : Nat) (go : mq_G) (gm : Nat → Nat → Nat → Nat → mj_L → List Value → mj_H → Option (mj_O × mj_H)) : Prop := ∀ d w mi pc L S h X o h1 X1, go d w mi pc L S h X = some (o, h1, X1) → (∀ f ∈ X.2.2, f ∈ X1.2.2) ∧ ∀ ρ, mq_Ok ρ X1.2.2 → gm d w mi pc (mq_l ρ L) (mq_s ρ S) (mq_h P ρ h) = some (mq_o ρ o, mq_h P ρ h1)
theorem mq_pop_s (ρ : Nat → Int32) : ∀ (n : Nat) (S acc : List Value), mj_pop n (mq_s ρ S) (mq_s ρ acc) = (mj_pop n S acc).map (fun q => (mq_s ρ q.1, mq_s ρ q.2))
  | 0, S, acc => by cases S <;> rfl
  | n + 1, [], acc => rfl
  | n + 1, v :: S, acc => by
    show mj_pop n (mq_s ρ S) (mq_s ρ (v :: acc)) = _
    rw [mq_pop_s ρ n S (v :: acc)]
    rfl
theorem mq_wd_s (ρ : Nat → Int32) : ∀ S : List Value, mj_wd (mq_s ρ S) = mj_wd S
  | [] => rfl
  | v :: S => by
    have ih := mq_wd_s ρ S
    show mj_wd (mq_v ρ v :: mq_s ρ S) = _
    cases v <;> simp [mq_v, mj_wd, ih]
theorem mq_in_s (ρ : Nat → Int32) : ∀ as : List Value, mj_in (mq_s ρ as) = mq_l ρ (mj_in as)
  | [] => rfl
  | v :: as => by
    have ih := mq_in_s ρ as
    show mj_in (mq_v ρ v :: mq_s ρ as) = _
    cases v <;> simp [mq_v, mj_in, ih, mq_l]
theorem mq_en_s (ρ : Nat → Int32) (n : Nat) (as : List Value) : mj_en n (mq_s ρ as) = mq_l ρ (mj_en n as) := by
  unfold mj_en
  rw [mq_in_s, mq_l_len]
  simp [mq_l]
theorem mq_get_mem {α : Type} {k : Nat} {v : α} : ∀ l : List (Nat × α), mq_get l k = some v → ∃ p ∈ l, p.2 = v
  | [], hx => by cases hx
  | p :: l, hx => by
    rw [mq_get_cons] at hx
    split at hx
    · cases hx
      exact ⟨p, List.mem_cons_self, rfl⟩
    · obtain ⟨q, h1, h2⟩ := mq_get_mem l hx
      exact ⟨q, List.mem_cons_of_mem _ h1, h2⟩
theorem mq_all_look {P : mj_Pr} {t u n : Nat} {dv : Value} {m : mq_M Value} (hm : mq_all t dv m = true) (j : Nat) : mq_tyo t (mq_look P (true, u, n, dv, m) j) = true := by
  rw [mq_all, Bool.and_eq_true] at hm
  show mq_tyo t (match mq_g2 m j with | some v => v | none => dv) = true
  cases hg : mq_g2 m j with
  | none => exact hm.1
  | some v =>
    unfold mq_g2 mq_sub at hg
    split at hg
    · rename_i l hl
      obtain ⟨p, p1, p2⟩ := mq_get_mem _ hl
      obtain ⟨q, q1, q2⟩ := mq_get_mem _ hg
      have h1 := List.all_eq_true.mp hm.2 p p1
      rw [p2] at h1
      have h2 := List.all_eq_true.mp h1 q q1
      rw [q2] at h2
      exact h2
    · cases hg
theorem mq_all_ok {P : mj_Pr} {ρ : Nat → Int32} {t u n : Nat} {dv : Value} {m : mq_M Value} (hm : mq_all t dv m = true) : (t = 0 ∧ mj_ints (mq_c P ρ (true, u, n, dv, m)).2.2 = true) ∨ (t = 1 ∧ mj_lngs (mq_c P ρ (true, u, n, dv, m)).2.2 = true) := by
  have key := fun j => mq_all_look (P := P) (u := u) (n := n) hm j
  match t, key with
  | 0, key =>
    refine Or.inl ⟨rfl, List.all_eq_true.mpr fun v hv => ?_⟩
    obtain ⟨j, -, rfl⟩ := List.mem_map.mp hv
    have h9 := key j
    generalize mq_look P (true, u, n, dv, m) j = z at h9
    cases z <;> first | rfl | cases h9
  | 1, key =>
    refine Or.inr ⟨rfl, List.all_eq_true.mpr fun v hv => ?_⟩
    obtain ⟨j, -, rfl⟩ := List.mem_map.mp hv
    have h9 := key j
    generalize mq_look P (true, u, n, dv, m) j = z at h9
    cases z <;> first | rfl | cases h9
  | t + 2, key =>
    have h9 := key 0
    generalize mq_look P (true, u, n, dv, m) 0 = z at h9
    cases z <;> cases h9
theorem mq_cpy_ok {P : mj_Pr} {c : mq_C} {sp dp : Nat} {r : mj_O × mq_H × mq_X} : ∀ (n : Nat) (m : mq_M Value) (kv : mq_M Value → mq_R), mq_cpy P c sp dp n m kv = some r → ∃ m1, kv m1 = some r ∧ ∀ j, mq_g2 m1 j = if dp ≤ j ∧ j < dp + n then some (mq_look P c (sp + (j - dp))) else mq_g2 m j
  | 0, m, kv, hx => ⟨m, hx, fun j => by rw [if_neg (by omega)]⟩
  | n + 1, m, kv, hx => by
    have hx : mq_p2K m (dp + n) (mq_look P c (sp + n)) (fun g => mq_cpy P c sp dp n g kv) = some r := hx
    rw [mq_p2K_eq] at hx
    obtain ⟨m1, g1, g2⟩ := mq_cpy_ok n _ kv hx
    refine ⟨m1, g1, fun j => ?_⟩
    rw [g2, mq_g2_p2]
    by_cases h1 : dp ≤ j ∧ j < dp + n
    · rw [if_pos h1, if_pos (by omega)]
    · by_cases h2 : j = dp + n
      · subst h2
        rw [if_neg h1, if_pos rfl, if_pos (by omega), show dp + n - dp = n by omega]
      · rw [if_neg h1, if_neg h2, if_neg (by omega)]
theorem mq_cpl_ok {P : mj_Pr} {ρ : Nat → Int32} {t u fn gn sp dp n : Nat} {fd gd : Value} {fm gm m1 : mq_M Value} (h1 : sp + n ≤ fn) (h2 : dp + n ≤ gn) (hm : ∀ j, mq_g2 m1 j = if dp ≤ j ∧ j < dp + n then some (mq_look P (true, t, fn, fd, fm) (sp + (j - dp))) else mq_g2 gm j) : mq_c P ρ (true, u, gn, gd, m1) = (true, u, mj_cpl (mq_c P ρ (true, t, fn, fd, fm)).2.2 (mq_c P ρ (true, u, gn, gd, gm)).2.2 sp dp n) := by
  show (true, u, _) = (true, u, _)
  congr 2
  have lf : (mq_c P ρ (true, t, fn, fd, fm)).2.2.length = fn := mq_c_len
  have lg : (mq_c P ρ (true, u, gn, gd, gm)).2.2.length = gn := mq_c_len
  refine List.ext_getElem? fun j => ?_
  unfold mj_cpl
  by_cases hj : j < gn
  · rw [List.getElem?_map, List.getElem?_range hj, Option.map_some]
    have el : mq_look P (true, u, gn, gd, m1) j = if dp ≤ j ∧ j < dp + n then mq_look P (true, t, fn, fd, fm) (sp + (j - dp)) else mq_look P (true, u, gn, gd, gm) j := by
      show (match mq_g2 m1 j with | some v => v | none => gd) = _
      rw [hm]
      by_cases hc : dp ≤ j ∧ j < dp + n
      · rw [if_pos hc, if_pos hc]
      · rw [if_neg hc, if_neg hc]
        rfl
    rw [el]
    by_cases c1 : j < dp
    · rw [if_neg (by omega), List.append_assoc, List.getElem?_append_left (by rw [List.length_take, lg]; omega), List.getElem?_take_of_lt c1]
      exact (mq_c_at (c := (true, u, gn, gd, gm)) hj).symm
    · by_cases c2 : j < dp + n
      · rw [if_pos (by omega), List.append_assoc, List.getElem?_append_right (by rw [List.length_take, lg]; omega), List.length_take, lg, Nat.min_eq_left (by omega), List.getElem?_append_left (by rw [List.length_take, List.length_drop, lf]; omega), List.getElem?_take_of_lt (by omega), List.getElem?_drop]
        exact (mq_c_at (c := (true, t, fn, fd, fm)) (show sp + (j - dp) < fn by omega)).symm
      · rw [if_neg (by omega), List.getElem?_append_right (by rw [List.length_append, List.length_take, List.length_take, List.length_drop, lf, lg]; omega), List.length_append, List.length_take, List.length_take, List.length_drop, lf, lg, List.getElem?_drop, show dp + n + (j - (min dp gn + min n (fn - sp))) = j by omega]
        exact (mq_c_at (c := (true, u, gn, gd, gm)) hj).symm
  · rw [List.getElem?_eq_none (by simp; omega), List.getElem?_eq_none (by simp [lf, lg]; omega)]
section MQS
variable {P : mj_Pr} {nT : Nat} {go : mq_G} {gm : Nat → Nat → Nat → Nat → mj_L → List Value → mj_H → Option (mj_O × mj_H)} {d w mi pc nx k : Nat} {L : mj_L} {S : List Value} {h h1 : mq_H} {X X1 : mq_X} {o : mj_O}
theorem mq_rcv_s {ρ : Nat → Int32} {c : Option Nat} {as : List Value} (hr : mq_rcv c as h = true) : mj_rcv c (mq_s ρ as) (mq_h P ρ h) = true := by
  unfold mq_rcv at hr
  split at hr
  · rfl
  · split at hr
    · rename_i a q
      split at hr
      · rename_i u n dv m hc
        obtain ⟨g1, -, -⟩ := mq_h_at (P := P) (ρ := ρ) hc
        show mj_rcv (some _) (.ref a :: mq_s ρ q) _ = true
        unfold mj_rcv
        simp only
        rw [g1]
        have := Nat.eq_of_beq_eq_true hr
        subst this
        simp [mq_c]
      · cases hr
    · cases hr
/-- what is left of a run, behind an instruction -/
theorem mq_rest (ih : mq_Snd P nT go gm) {i : Instr} {len : Nat} (hcode : P.code mi pc = some (i, len)) (hplain : ∀ (L : mj_L) (S : List Value) (H : mj_H), mj_body P nT gm d w mi pc L S H = match mj_i P nT i (pc + len) L S H with
      | some (pc1, L1, S1, H1) => gm d w mi pc1 L1 S1 H1
      | none => none) (ht : mq_To P nT i (pc + len) L S h X (go d w mi) (o, h1, X1)) : (∀ f ∈ X.2.2, f ∈ X1.2.2) ∧ ∀ ρ, mq_Ok ρ X1.2.2 → mj_body P nT gm d w mi pc (mq_l ρ L) (mq_s ρ S) (mq_h P ρ h) = some (mq_o ρ o, mq_h P ρ h1) := by
  obtain ⟨nx1, L1, S1, h2, X2, g1, g2, g3⟩ := ht
  obtain ⟨k1, k2⟩ := ih _ _ _ _ _ _ _ _ _ _ _ g1
  refine ⟨fun f hf => k1 f (g2 f hf), fun ρ hρ => ?_⟩
  rw [hplain, g3 ρ (fun f hf => hρ f (k1 f hf))]
  exact k2 ρ hρ
theorem mq_call_ok (ih : mq_Snd P nT go gm) {len : Nat} (hcode : P.code mi pc = some (.invokestatic k, len)) (hx : mq_call P nT go d w mi pc k (pc + len) L S h X = some (o, h1, X1)) : (∀ f ∈ X.2.2, f ∈ X1.2.2) ∧ ∀ ρ, mq_Ok ρ X1.2.2 → mj_body P nT gm d w mi pc (mq_l ρ L) (mq_s ρ S) (mq_h P ρ h) = some (mq_o ρ o, mq_h P ρ h1) := by
  unfold mq_call at hx
  cases hk : Nat.ble 1000 k with
  | true =>
    rw [hk] at hx
    dsimp only [cond_true] at hx
    have hk := Nat.le_of_ble_eq_true hk
    split at hx
    · rename_i as q hpop
      obtain ⟨hb, hx⟩ := mq_bt hx
      simp only [Bool.and_eq_true] at hb
      obtain ⟨⟨b1, b2⟩, b3⟩ := hb
      have fin : ∀ (v : Option Value) (h2 : mq_H) (ρ : Nat → Int32), go d w mi (pc + len) L (v.toList ++ q) h2 X = some (o, h1, X1) → mj_lib nT k (mq_s ρ as) (mq_h P ρ h) = some (v.map (mq_v ρ), mq_h P ρ h2) → mq_Ok ρ X1.2.2 → mj_body P nT gm d w mi pc (mq_l ρ L) (mq_s ρ S) (mq_h P ρ h) = some (mq_o ρ o, mq_h P ρ h1) := by
        intro v h2 ρ hx hl hρ
        have k2 := (ih _ _ _ _ _ _ _ _ _ _ _ hx).2 ρ hρ
        have e := mq_pop_s ρ (P.np k) S []
        rw [hpop] at e
        have e : mj_pop (P.np k) (mq_s ρ S) [] = some (mq_s ρ as, mq_s ρ q) := e
        unfold mj_body
        rw [hcode]
        dsimp only
        rw [if_pos hk, e]
        dsimp only
        rw [if_pos ⟨Nat.le_of_ble_eq_true b1, Nat.le_of_ble_eq_true b2, by rw [mq_wd_s]; exact Nat.le_of_ble_eq_true b3⟩, hl]
        dsimp only
        rw [show (v.map (mq_v ρ)).toList ++ mq_s ρ q = mq_s ρ (v.toList ++ q) by cases v <;> rfl]
        exact k2
      unfold mq_lib at hx
      split at hx
      · exact ⟨(ih _ _ _ _ _ _ _ _ _ _ _ hx).1, fun ρ hρ => fin none _ ρ hx rfl hρ⟩
      · exact ⟨(ih _ _ _ _ _ _ _ _ _ _ _ hx).1, fun ρ hρ => fin (some _) _ ρ hx rfl hρ⟩
      · exact ⟨(ih _ _ _ _ _ _ _ _ _ _ _ hx).1, fun ρ hρ => fin (some _) _ ρ hx rfl hρ⟩
      · rename_i a sp b dp n _ _
        split at hx
        · rename_i t fn fd fm u gn gd gm2 ha hbb
          obtain ⟨hc, hx⟩ := mq_bt hx
          simp only [Bool.and_eq_true, Bool.not_eq_true', decide_eq_false_iff_not] at hc
          obtain ⟨⟨⟨⟨⟨⟨⟨⟨⟨⟨c1, c2⟩, c3⟩, c4⟩, c5⟩, c6⟩, c7⟩, c8⟩, c9⟩, c10⟩, c11⟩ := hc
          have c1 := Nat.eq_of_beq_eq_true c1
          subst c1
          have c6 : ¬ a = b := fun z => by
            rw [z, Nat.beq_refl] at c6
            cases c6
          have c10 := Nat.le_of_ble_eq_true c10
          have c11 := Nat.le_of_ble_eq_true c11
          obtain ⟨m1, hx, hm⟩ := mq_cpy_ok _ _ _ hx
          rw [mq_p2K_eq] at hx
          refine ⟨(ih _ _ _ _ _ _ _ _ _ _ _ hx).1, fun ρ hρ => fin none _ ρ hx ?_ hρ⟩
          obtain ⟨g1, -, -⟩ := mq_h_at (P := P) (ρ := ρ) ha
          obtain ⟨g2, -, -⟩ := mq_h_at (P := P) (ρ := ρ) hbb
          have lf : (mq_c P ρ (true, t, fn, fd, fm)).2.2.length = fn := mq_c_len
          have lg : (mq_c P ρ (true, t, gn, gd, gm2)).2.2.length = gn := mq_c_len
          have q1 := mq_all_ok (P := P) (ρ := ρ) (u := t) (n := fn) c2
          have q2 := mq_all_ok (P := P) (ρ := ρ) (u := t) (n := gn) c3
          have g1 : (mq_h P ρ h)[a]? = some (true, t, (mq_c P ρ (true, t, fn, fd, fm)).2.2) := g1
          have g2 : (mq_h P ρ h)[b]? = some (true, t, (mq_c P ρ (true, t, gn, gd, gm2)).2.2) := g2
          show mj_lib nT 1003 [.ref a, .int sp, .ref b, .int dp, .int n] (mq_h P ρ h) = _
          unfold mj_lib
          simp only [g1, g2]
          rw [if_pos ⟨trivial, by rcases q1 with z | z <;> rcases q2 with y | y <;> first | exact Or.inl ⟨z.1, z.2, y.2⟩ | exact Or.inr ⟨z.1, z.2, y.2⟩ | (exfalso; omega), Nat.le_of_ble_eq_true c4, Nat.le_of_ble_eq_true c5, c6, c7, c8, c9, by rw [lf]; exact c10, by rw [lg]; exact c11⟩, mq_h_set, mq_cpl_ok c10 c11 hm]
          rfl
        · cases hx
      · cases hx
    · cases hx
  | false =>
    rw [hk] at hx
    dsimp only [cond_false] at hx
    have hk : ¬ 1000 ≤ k := fun z => by
      rw [Nat.ble_eq_true_of_le z] at hk
      cases hk
    split at hx
    · rename_i as q hpop
      obtain ⟨hb, hx⟩ := mq_bt hx
      simp only [Bool.and_eq_true] at hb
      obtain ⟨⟨⟨⟨b1, b2⟩, b3⟩, b4⟩, b5⟩ := hb
      have pre : ∀ (ρ : Nat → Int32) (H1 : mj_H) (oc : mj_O), gm (d - 1) (w - (P.maxL k + 19)) k 0 (mq_l ρ (mj_en (P.maxL k) as)) [] (mq_h P ρ h) = some (oc, H1) → mj_body P nT gm d w mi pc (mq_l ρ L) (mq_s ρ S) (mq_h P ρ h) = (match oc with
          | .inl v => gm d w mi (pc + len) (mq_l ρ L) (v.toList ++ mq_s ρ q) H1
          | .inr (x, a) => (match mj_hn (P.hnd mi) pc x with
            | some t => gm d w mi t (mq_l ρ L) [.ref a] H1
            | none => none)) := by
        intro ρ H1 oc hc
        have e := mq_pop_s ρ (P.np k) S []
        rw [hpop] at e
        have e : mj_pop (P.np k) (mq_s ρ S) [] = some (mq_s ρ as, mq_s ρ q) := e
        unfold mj_body
        rw [hcode]
        dsimp only
        rw [if_neg hk, e]
        dsimp only
        rw [if_pos ⟨Nat.le_of_ble_eq_true b1, Nat.le_of_ble_eq_true b2, by rw [mq_wd_s]; exact Nat.le_of_ble_eq_true b3, mq_rcv_s b4, by rw [mq_in_s, mq_l_len]; exact Nat.le_of_ble_eq_true b5⟩, mq_en_s, hc]
        cases oc with
        | inl v => rfl
        | inr p => rfl
      split at hx
      · rename_i v h2 X2 hc
        obtain ⟨k1, k2⟩ := ih _ _ _ _ _ _ _ _ _ _ _ hc
        obtain ⟨k3, k4⟩ := ih _ _ _ _ _ _ _ _ _ _ _ hx
        refine ⟨fun f hf => k3 f (k1 f hf), fun ρ hρ => ?_⟩
        rw [pre ρ _ _ (k2 ρ (fun f hf => hρ f (k3 f hf)))]
        have e := k4 ρ hρ
        rw [show mq_s ρ (v.toList ++ q) = (v.map (mq_v ρ)).toList ++ mq_s ρ q by cases v <;> rfl] at e
        exact e
      · rename_i x a h2 X2 hc
        split at hx
        · rename_i t hh
          obtain ⟨k1, k2⟩ := ih _ _ _ _ _ _ _ _ _ _ _ hc
          obtain ⟨k3, k4⟩ := ih _ _ _ _ _ _ _ _ _ _ _ hx
          refine ⟨fun f hf => k3 f (k1 f hf), fun ρ hρ => ?_⟩
          rw [pre ρ _ _ (k2 ρ (fun f hf => hρ f (k3 f hf)))]
          show (match mj_hn (P.hnd mi) pc x with
            | some t => gm d w mi t (mq_l ρ L) [.ref a] _
            | none => none) = _
          rw [hh]
          exact k4 ρ hρ
        · cases hx
      · cases hx
    · cases hx
end MQS
