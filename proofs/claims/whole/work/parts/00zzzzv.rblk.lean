/-! the reference's statements: blocks; its loop -/
section
variable {N : Nat} {Tx : Nat → Int} {L p b K : Nat} {mb : Bool} {A B : zA} {s : Ps} {o : Option Ps} {lv : List Int} {pk cl : Nat} {Kf : Ps → Option Ps}
theorem fE_S {p a j : Nat} (h : (a = 226 ∧ (j = 13 ∨ j = 16 ∨ j = 17)) ∨ a = 234) : qSm p a j := by
  rcases h with h | h
  · exact Or.inl ⟨h.1, by omega⟩
  · exact Or.inr (Or.inl h)
theorem rlv_17 (h : RLv A lv pk) : 0 ≤ zi A 226 17 := by rw [h.1]; omega
theorem r_stI (hN : 300000 ≤ N) (hT : TXT Tx L) (hp : p < 4) (hm : mb = true ↔ p = 3) (hl : s.1 < L) (h73 : Tx s.1 = 73) (h : RY Tx L p 0 300 A (some s)) (hv : RLv A lv pk) : ∃ B, z_M_statement N A = some B ∧ fr (qSm p) A B ∧ RY Tx L p 0 320 B (if lv.length < 5 then (txk Tx mb (tav s)).bind (fun w => tex Tx 123 (tad (8, w.1, 0, 0, 0) w.2)) else none) ∧ ((if lv.length < 5 then (txk Tx mb (tav s)).bind (fun w => tex Tx 123 (tad (8, w.1, 0, 0, 0) w.2)) else none) ≠ none → RLv B (1 :: lv) pk) := by
  obtain ⟨ht, hpa⟩ := h.2 s rfl
  unfold z_M_statement
  rw [r_look hT ht.1 ht.2.1 hpa.2.1, zbP_s, zlet_s, r_isv, zbP_s, h73]
  obtain ⟨h1, f1⟩ := ry_at hT hl h
  have v1 := rlv_n hv f1
  generalize zsi A 226 13 (zi A 226 13 + 1) = A2 at *
  rw [if_pos (show (if 97 ≤ (73 : Int) ∧ (73 : Int) ≤ 102 then (1 : Int) else 0) = 0 by decide), if_neg (show ¬ (73 : Int) = 65 by decide), if_neg (show ¬ (73 : Int) = 33 by decide), if_neg (show ¬ (73 : Int) = 63 by decide)]
  unfold z_M_nested
  rw [if_pos rfl]
  obtain ⟨v, C, c1, c2, c3⟩ := ry_expr (N := N) (mb := mb) hN hT hp hm (by omega) h1
  rw [c1, zbI_s, (ry_14 h1).1]
  obtain ⟨D, d1, d2, d3⟩ := ry_emitv (N := N) (b := 1) (x3 := 8) (x5 := 0) hT hp (fun _ => ⟨by decide, by decide⟩) c3
  rw [d1, zbV_s]
  have vD := rlv_o (rlv_x v1 c2) d2
  obtain ⟨E, e1, e2, e3, e4⟩ := ry_enter (N := N) (x := 1) hT (by decide) (by omega) (by omega) d3 (fun _ => vD) (rlv_17 vD)
  rw [e1, zbV_s, zbV_s]
  have e : (((some (tav s)).bind (txk Tx mb)).map (fun w => tad (8, w.1, 0, 0, 0) w.2)).bind (tex Tx 123) = (txk Tx mb (tav s)).bind (fun w => tex Tx 123 (tad (8, w.1, 0, 0, 0) w.2)) := by
    show Option.bind (Option.map _ (txk Tx mb (tav s))) _ = _
    cases txk Tx mb (tav s) <;> rfl
  rw [e] at e3 e4
  exact ⟨E, rfl, (((f1.mono (fun a j z => fN_S z)).trans (c2.mono (fun a j z => qX_S z))).trans (d2.mono (fun a j z => fO_S z))).trans (e2.mono (fun a j z => fE_S z)), RY.mono e3 (by omega) (by omega), e4⟩
theorem r_stW (hN : 300000 ≤ N) (hT : TXT Tx L) (hp : p < 4) (hm : mb = true ↔ p = 3) (hl : s.1 < L) (h87 : Tx s.1 = 87) (h : RY Tx L p 0 300 A (some s)) (hv : RLv A lv pk) : ∃ B, z_M_statement N A = some B ∧ fr (qSm p) A B ∧ RY Tx L p 0 320 B (if lv.length < 5 then (txk Tx mb (tad (10, 0, 0, 0, 0) (tav s))).bind (fun w => tex Tx 123 (tad (11, w.1, 0, 0, 0) w.2)) else none) ∧ ((if lv.length < 5 then (txk Tx mb (tad (10, 0, 0, 0, 0) (tav s))).bind (fun w => tex Tx 123 (tad (11, w.1, 0, 0, 0) w.2)) else none) ≠ none → RLv B (3 :: lv) pk) := by
  obtain ⟨ht, hpa⟩ := h.2 s rfl
  unfold z_M_statement
  rw [r_look hT ht.1 ht.2.1 hpa.2.1, zbP_s, zlet_s, r_isv, zbP_s, h87]
  obtain ⟨h1, f1⟩ := ry_at hT hl h
  have v1 := rlv_n hv f1
  generalize zsi A 226 13 (zi A 226 13 + 1) = A2 at *
  rw [if_pos (show (if 97 ≤ (87 : Int) ∧ (87 : Int) ≤ 102 then (1 : Int) else 0) = 0 by decide), if_neg (show ¬ (87 : Int) = 65 by decide), if_neg (show ¬ (87 : Int) = 33 by decide), if_neg (show ¬ (87 : Int) = 63 by decide)]
  unfold z_M_nested
  rw [if_neg (show ¬ (87 : Int) = 73 by decide), if_pos rfl, (ry_14 h1).1]
  obtain ⟨A3, a1, a2, a3⟩ := ry_emit (N := N) (b := 1) (x3 := 10) (x4 := 0) (x5 := 0) hT hp (fun _ => by decide) h1
  rw [a1, zbV_s]
  obtain ⟨v, C, c1, c2, c3⟩ := ry_expr (N := N) (mb := mb) hN hT hp hm (by omega) a3
  rw [c1, zbI_s, (ry_14 a3).1]
  obtain ⟨D, d1, d2, d3⟩ := ry_emitv (N := N) (b := 0) (x3 := 11) (x5 := 0) hT hp (fun _ => ⟨by decide, by decide⟩) c3
  rw [d1, zbV_s]
  have vD := rlv_o (rlv_x (rlv_o v1 a2) c2) d2
  obtain ⟨E, e1, e2, e3, e4⟩ := ry_enter (N := N) (x := 3) hT (by decide) (by omega) (by omega) d3 (fun _ => vD) (rlv_17 vD)
  rw [e1, zbV_s, zbV_s]
  have e : ((((some (tav s)).map (tad (10, 0, 0, 0, 0))).bind (txk Tx mb)).map (fun w => tad (11, w.1, 0, 0, 0) w.2)).bind (tex Tx 123) = (txk Tx mb (tad (10, 0, 0, 0, 0) (tav s))).bind (fun w => tex Tx 123 (tad (11, w.1, 0, 0, 0) w.2)) := by
    show Option.bind (Option.map _ (txk Tx mb (tad (10, 0, 0, 0, 0) (tav s)))) _ = _
    cases txk Tx mb (tad (10, 0, 0, 0, 0) (tav s)) <;> rfl
  rw [e] at e3 e4
  exact ⟨E, rfl, ((((f1.mono (fun a j z => fN_S z)).trans (a2.mono (fun a j z => fO_S z))).trans (c2.mono (fun a j z => qX_S z))).trans (d2.mono (fun a j z => fO_S z))).trans (e2.mono (fun a j z => fE_S z)), RY.mono e3 (by omega) (by omega), e4⟩
/-- } -/
theorem r_lv0 {c : Int} (hT : TXT Tx L) (hl : s.1 < L) (h : RY Tx L p 0 300 A (some s)) (hv : RLv A (c :: lv) pk) : ∃ C, fr (qSm p) A C ∧ RY Tx L p 2 300 C (some (tav s)) ∧ RLv C lv pk ∧ z_M_leave N A = (if c = 1 then zbV (z_M_emit N 1 (zi C 226 14) 9 0 0 0 0 C) fun A5 => zbV (z_M_enter N 2 A5) fun A6 => some A6 else (if c = 4 then zlet (zsi C 226 15 ((zi C 226 15) + 1)) fun A8 => zlet (zsi A8 226 14 3) fun A9 => some A9 else zbV (z_M_emit N 1 (zi C 226 14) 12 0 0 0 0 C) fun A10 => some A10)) := by
  obtain ⟨h1, f1⟩ := ry_at hT hl h
  have v1 := rlv_n hv f1
  unfold z_M_leave
  rw [zlet_s]
  generalize zsi A 226 13 (zi A 226 13 + 1) = A1 at *
  have e17 : zi A1 226 17 = (lv.length : Int) + 1 := v1.1
  have l5 : lv.length + 1 ≤ 5 := v1.2.2.1
  rw [e17, zrd_ok (by omega) (by omega), show (lv.length : Int) + 1 - 1 = (lv.length : Int) by omega, v1.2.1.1, zlet_s]
  have f2 : fr (fun a j => a = 226 ∧ j = 17) A1 (zsi A1 226 17 (lv.length : Int)) := fr_si ⟨rfl, rfl⟩
  refine ⟨_, (f1.mono (fun a j z => fN_S z)).trans (f2.mono (fun a j z => Or.inl ⟨z.1, by omega⟩)), ⟨fun z => (by cases z), fun s' z => ?_⟩, ⟨by rw [zi_si_s, yb_w (by omega) (by omega)], stk_fr v1.2.1.2 f2 (fun j z => by omega), by omega, by rw [f2.i (fun z => by omega)]; exact v1.2.2.2⟩, rfl⟩
  cases z
  obtain ⟨ht, a1, a2, a3, a4, a5, a6, a7⟩ := h1.2 _ rfl
  have hL := hT.1
  exact ⟨ht.fr f2 (fun z => by omega) (fun z => by omega) (fun j z => by omega), ⟨by rw [f2.i (fun z => by omega)]; exact a1, by rw [f2.i (fun z => by omega)]; exact a2, a3, a4.fr (by omega) f2 (fun a j z q => by rw [z.1] at q; exact nqRo226 q), a5, a6, a7⟩⟩
theorem r_lv1 (hT : TXT Tx L) (hp : p < 4) (hl : s.1 < L) (h : RY Tx L p 0 300 A (some s)) (hv : RLv A (1 :: lv) pk) : ∃ B, z_M_leave N A = some B ∧ fr (qSm p) A B ∧ RY Tx L p 0 320 B (tex Tx 123 (tad (9, 0, 0, 0, 0) (tav s))) ∧ (tex Tx 123 (tad (9, 0, 0, 0, 0) (tav s)) ≠ none → RLv B (2 :: lv) pk) := by
  obtain ⟨C, c1, c2, c3, c4⟩ := r_lv0 (N := N) hT hl h hv
  rw [c4, if_pos rfl, (ry_14 c2).1]
  obtain ⟨D, d1, d2, d3⟩ := ry_emit (N := N) (b := 1) (x3 := 9) (x4 := 0) (x5 := 0) hT hp (fun _ => by decide) c2
  rw [d1, zbV_s]
  have vD := rlv_o c3 d2
  obtain ⟨E, e1, e2, e3, e4⟩ := ry_enter (N := N) (x := 2) hT (by decide) (by omega) (by omega) d3 (fun _ => vD) (rlv_17 vD)
  rw [e1, zbV_s]
  have l5 : lv.length + 1 ≤ 5 := hv.2.2.1
  rw [if_pos (by omega)] at e3 e4
  exact ⟨E, rfl, (c1.trans (d2.mono (fun a j z => fO_S z))).trans (e2.mono (fun a j z => fE_S z)), RY.mono e3 (by omega) (by omega), e4⟩
theorem r_lv2 {c : Int} (hT : TXT Tx L) (hp : p < 4) (hl : s.1 < L) (hc : c = 2 ∨ c = 3) (h : RY Tx L p 0 300 A (some s)) (hv : RLv A (c :: lv) pk) : ∃ B, z_M_leave N A = some B ∧ fr (qSm p) A B ∧ RY Tx L p 0 300 B (some (tad (12, 0, 0, 0, 0) (tav s))) ∧ RLv B lv pk := by
  obtain ⟨C, c1, c2, c3, c4⟩ := r_lv0 (N := N) hT hl h hv
  rw [c4, if_neg (by omega), if_neg (by omega), (ry_14 c2).1]
  obtain ⟨D, d1, d2, d3⟩ := ry_emit (N := N) (b := 1) (x3 := 12) (x4 := 0) (x5 := 0) hT hp (fun _ => by decide) c2
  rw [d1, zbV_s]
  exact ⟨D, rfl, c1.trans (d2.mono (fun a j z => fO_S z)), RY.mono d3 (by omega) (by omega), rlv_o c3 d2⟩
end
/-- what the loop comes to -/
def rOut (N : Nat) (Tx : Nat → Int) (L p pk : Nat) (x : Int) (A : zA) (s : Ps) (lv : List Int) (o : Option Ps) : Prop :=
  (∀ s', o = some s' → ∃ k B, k + s.1 ≤ s'.1 ∧ (∀ m, z_M_parse_63_l N (k + m) x A = z_M_parse_63_l N m x B) ∧ fr (qSm p) A B ∧ RY Tx L p 0 300 B (some s') ∧ RLv B lv pk) ∧
  (o = none → ∃ k B, k + s.1 ≤ L + 1 ∧ (∀ m, z_M_parse_63_l N (k + 1 + m) x A = some B) ∧ fr (qSm p) A B ∧ zi B 226 16 = 1 ∧ 0 ≤ ri B 229 (4 + p : Nat) ∧ ri B 229 (4 + p : Nat) ≤ 240)
section
variable {N : Nat} {Tx : Nat → Int} {L p b K : Nat} {mb : Bool} {A B : zA} {s : Ps} {o : Option Ps} {lv lv' : List Int} {pk cl : Nat} {Kf : Ps → Option Ps} {x : Int}
theorem rOut.bd {G : Ps → Option Ps} (h : rOut N Tx L p pk x A s lv o) (hG : ∀ s' B, o = some s' → RY Tx L p 0 300 B (some s') → RLv B lv pk → rOut N Tx L p pk x B s' lv' (G s')) : rOut N Tx L p pk x A s lv' (o.bind G) := by
  cases o with
  | none => exact ⟨fun s' z => (by cases z), fun _ => h.2 rfl⟩
  | some t =>
    obtain ⟨k, B, b1, b2, b3, b4, b5⟩ := h.1 t rfl
    obtain ⟨g1, g2⟩ := hG t B rfl b4 b5
    rw [Option.bind_some]
    refine ⟨fun s' z => ?_, fun z => ?_⟩
    · obtain ⟨l, C, c1, c2, c3, c4, c5⟩ := g1 s' z
      exact ⟨k + l, C, by omega, fun m => by rw [Nat.add_assoc, b2, c2], b3.trans c3, c4, c5⟩
    · obtain ⟨l, C, c1, c2, c3, c4⟩ := g2 z
      exact ⟨k + l, C, by omega, fun m => by rw [show k + l + 1 + m = k + (l + 1 + m) by omega, b2, c2], b3.trans c3, c4⟩
theorem p63_fail (h : zi A 226 16 = 1) (m : Nat) : z_M_parse_63_l N (1 + m) x A = some (zsi A 226 16 1) := by
  rw [Nat.add_comm]
  unfold z_M_parse_63_l z_M_parse_63_b z_M_parse_216
  have hn : ¬ zi A 226 16 = 0 := by omega
  simp only [if_neg hn, zlet_s]
/-- one turn -/
theorem rOut.one {R : zA → Option zA} (hs : s.1 ≤ L) (hb : ∀ r : Int → zA → Option zA, z_M_parse_63_b r N x A = zbV (R A) fun A1 => r x A1) (h : ∃ B, R A = some B ∧ fr (qSm p) A B ∧ RY Tx L p 0 320 B o ∧ (o ≠ none → RLv B lv pk)) (hg : ∀ s', o = some s' → s.1 < s'.1) : rOut N Tx L p pk x A s lv o := by
  obtain ⟨B, b1, b2, b3, b4⟩ := h
  have st : ∀ m, z_M_parse_63_l N (1 + m) x A = z_M_parse_63_l N m x B := fun m => by
    rw [Nat.add_comm]
    show z_M_parse_63_b (z_M_parse_63_l N m) N x A = _
    rw [hb, b1, zbV_s]
  refine ⟨fun s' z => ⟨1, B, by have := hg s' z; omega, st, b2, ?_, b4 (by rw [z]; intro q; cases q)⟩, fun z => ?_⟩
  · rw [z] at b3
    exact ⟨fun q => (by cases q), b3.2⟩
  · obtain ⟨a1, a2, a3, a4, a5, a6⟩ := b3.1 z
    exact ⟨1, zsi B 226 16 1, by omega, fun m => by rw [show 1 + 1 + m = 1 + (1 + m) by omega, st, p63_fail a1], b2.trans (fr_si (Or.inl ⟨rfl, by omega⟩)), by rw [zi_si_s]; decide, by rw [ri_si_o (by decide)]; exact a5, by rw [ri_si_o (by decide)]; omega⟩
theorem body_st (hT : TXT Tx L) (hx : x = 1 ∨ (x = 0 ∧ 0 < lv.length)) (hl : s.1 < L) (hc : Tx s.1 ≠ 125) (h : RY Tx L p 0 300 A (some s)) (hv : RLv A lv pk) (r : Int → zA → Option zA) : z_M_parse_63_b r N x A = zbV (z_M_statement N A) fun A1 => r x A1 := by
  obtain ⟨ht, hpa⟩ := h.2 s rfl
  have e104 : z_M_parse_104 r N x A = zbV (z_M_statement N A) fun A1 => r x A1 := by
    unfold z_M_parse_104 z_M_parse_192 z_M_parse_208
    have h17 := hv.1
    rcases hx with rfl | ⟨rfl, h0⟩
    · rw [if_neg (by decide), if_neg (by decide)]
    · rw [if_pos rfl, if_neg (by omega), if_pos rfl, if_neg (by omega)]
  unfold z_M_parse_63_b
  rw [if_pos hpa.1, if_pos (by rw [hpa.2.1, ht.1]; omega), r_look hT ht.1 ht.2.1 hpa.2.1, zbP_s, if_neg hc, e104]
  split <;> rfl
theorem body_lv (hT : TXT Tx L) (h0 : 0 < lv.length) (hl : s.1 < L) (hc : Tx s.1 = 125) (h : RY Tx L p 0 300 A (some s)) (hv : RLv A lv pk) (r : Int → zA → Option zA) : z_M_parse_63_b r N x A = zbV (z_M_leave N A) fun A1 => r x A1 := by
  obtain ⟨ht, hpa⟩ := h.2 s rfl
  unfold z_M_parse_63_b
  rw [if_pos hpa.1, if_pos (by rw [hpa.2.1, ht.1]; omega), if_pos (by rw [hv.1]; omega), r_look hT ht.1 ht.2.1 hpa.2.1, zbP_s, if_pos hc]
/-- the end of the text inside a block -/
theorem rOut.end (hT : TXT Tx L) (h0 : 0 < lv.length) (hs : s.1 = L) (h : RY Tx L p 0 300 A (some s)) (hv : RLv A lv pk) : rOut N Tx L p pk x A s lv' none := by
  obtain ⟨ht, hpa⟩ := h.2 s rfl
  refine ⟨fun s' z => (by cases z), fun _ => ⟨0, zsi A 226 16 1, by omega, fun m => ?_, fr_si (Or.inl ⟨rfl, by omega⟩), ?_⟩⟩
  · rw [show 0 + 1 + m = m + 1 by omega]
    unfold z_M_parse_63_l z_M_parse_63_b z_M_parse_216
    rw [if_pos hpa.1, if_neg (by rw [hpa.2.1, ht.1]; omega), if_pos hpa.1, if_pos (by rw [hv.1]; omega), zlet_s]
  · obtain ⟨a1, a2, a3, a4, a5, a6⟩ := hpa.fail hT.1 ht
    exact ⟨a1, a5, by omega⟩
/-- statements in a block, up to its end -/
def tsE (Tx : Nat → Int) (L : Nat) (S : Ps → Option Ps) (n : Nat) (s : Ps) : Option Ps := (tss Tx L S n s).bind fun t => if Tx t.1 = 125 then some t else none
theorem r_sts {S : Ps → Option Ps} (hT : TXT Tx L) (h0 : 0 < lv.length) (hg : ∀ s s', s.1 < L → 7 ≤ s.2.2 → S s = some s' → s.1 < s'.1 ∧ s'.1 ≤ L ∧ s.2.2 ≤ s'.2.2) (hS : ∀ (s : Ps) (A : zA), s.1 < L → Tx s.1 ≠ 125 → RY Tx L p 0 300 A (some s) → RLv A lv pk → rOut N Tx L p pk x A s lv (S s)) : ∀ (n : Nat) (s : Ps) (A : zA), L ≤ s.1 + n → RY Tx L p 0 300 A (some s) → RLv A lv pk → rOut N Tx L p pk x A s lv (tsE Tx L S n s)
  | 0, s, A, hn, h, hv => by
    obtain ⟨ht, hpa⟩ := h.2 s rfl
    have a3 := hpa.2.2.1
    have e : tsE Tx L S 0 s = none := by
      show (if Tx s.1 = 125 then some s else none) = none
      rw [hT.2.2 s.1 (by omega)]
      rfl
    rw [e]
    exact rOut.end hT h0 (by omega) h hv
  | n + 1, s, A, hn, h, hv => by
    obtain ⟨ht, hpa⟩ := h.2 s rfl
    have a3 := hpa.2.2.1
    have a7 := hpa.2.2.2.2.2.2
    have e : tsE Tx L S (n + 1) s = if s.1 < L ∧ Tx s.1 ≠ 125 then (S s).bind (tsE Tx L S n) else (if Tx s.1 = 125 then some s else none) := by
      unfold tsE
      show (if s.1 < L ∧ Tx s.1 ≠ 125 then (S s).bind (tss Tx L S n) else some s).bind _ = _
      split
      · cases S s <;> rfl
      · rfl
    rw [e]
    by_cases c : s.1 < L ∧ Tx s.1 ≠ 125
    · rw [if_pos c]
      refine (hS s A c.1 c.2 h hv).bd (fun s' B z hB hvB => ?_)
      have := (hg s s' c.1 a7 z).1
      exact r_sts hT h0 hg hS n s' B (by omega) hB hvB
    · rw [if_neg c]
      by_cases c5 : Tx s.1 = 125
      · rw [if_pos c5]
        refine ⟨fun s' z => ?_, fun z => by cases z⟩
        cases z
        exact ⟨0, A, by omega, fun m => by rw [Nat.zero_add], fr.refl _ _, h, hv⟩
      · rw [if_neg c5]
        exact rOut.end hT h0 (by
          have : ¬ s.1 < L := fun q => c ⟨q, c5⟩
          omega) h hv
theorem tsE_some {S : Ps → Option Ps} {n : Nat} {t : Ps} (h : tsE Tx L S n s = some t) : tss Tx L S n s = some t ∧ Tx t.1 = 125 := by
  unfold tsE at h
  cases h1 : tss Tx L S n s with
  | none => rw [h1] at h; cases h
  | some u =>
    rw [h1, Option.bind_some] at h
    split at h
    · next c => cases h; exact ⟨rfl, c⟩
    · cases h
theorem tbk_E {S : Ps → Option Ps} : tbk Tx L S s = (tex Tx 123 s).bind fun t => (tsE Tx L S 120 t).map tav := by
  unfold tbk tsE
  cases tex Tx 123 s with
  | none => rfl
  | some t =>
    show (tss Tx L S 120 t).bind _ = Option.map _ ((tss Tx L S 120 t).bind _)
    cases tss Tx L S 120 t with
    | none => rfl
    | some u =>
      show tex Tx 125 u = Option.map tav (if Tx u.1 = 125 then some u else none)
      unfold tex
      split <;> rfl
end
