/-! the reference's statements: those without a block -/
theorem fN_S {p a j : Nat} (h : a = 226 ∧ (j = 13 ∨ j = 16)) : qSm p a j := Or.inl ⟨h.1, by omega⟩
theorem fO_S {p a j : Nat} (h : qRo (4 + p) a j) : qSm p a j := Or.inr (Or.inr (Or.inr (Or.inr h)))
section
variable {N : Nat} {Tx : Nat → Int} {L p b K : Nat} {mb : Bool} {A B : zA} {s : Ps} {o : Option Ps} {lv : List Int} {pk cl : Nat} {Kf : Ps → Option Ps}
theorem ry_16 (h : RY Tx L p b K A o) : (o ≠ none → zi A 226 16 = 0) ∧ (o = none → zi A 226 16 = 1) := by
  refine ⟨fun e => ?_, fun e => (h.1 e).1⟩
  cases o with
  | none => exact absurd rfl e
  | some s => exact (h.2 s rfl).2.1
theorem ry_fail (hT : TXT Tx L) (hK : 300 ≤ K) (h : RY Tx L p b K A o) : RY Tx L p b K (zsi A 226 16 1) none ∧ fr (fun a j => a = 226 ∧ (j = 13 ∨ j = 16)) A (zsi A 226 16 1) := by
  refine ⟨⟨fun _ => ?_, fun s z => by cases z⟩, fr_si ⟨rfl, by omega⟩⟩
  cases o with
  | none =>
    obtain ⟨a1, a2, a3, a4, a5, a6⟩ := h.1 rfl
    exact ⟨by rw [zi_si_s]; decide, by rw [zi_si_j (by decide)]; exact a2, by rw [zi_si_j (by decide)]; exact a3, by rw [zi_si_j (by decide)]; exact a4, by rw [ri_si_o (by decide)]; exact a5, by rw [ri_si_o (by decide)]; exact a6⟩
  | some s =>
    obtain ⟨ht, hpa⟩ := h.2 s rfl
    obtain ⟨a1, a2, a3, a4, a5, a6⟩ := hpa.fail hT.1 ht
    exact ⟨a1, a2, by omega, a4, a5, a6⟩
theorem ry_at (hT : TXT Tx L) (hl : s.1 < L) (h : RY Tx L p b K A (some s)) : RY Tx L p (b + 2) K (zsi A 226 13 (zi A 226 13 + 1)) (some (tav s)) ∧ fr (fun a j => a = 226 ∧ (j = 13 ∨ j = 16)) A (zsi A 226 13 (zi A 226 13 + 1)) := by
  obtain ⟨ht, hpa⟩ := h.2 s rfl
  refine ⟨⟨fun z => (by cases z), fun s' z => ?_⟩, fr_si ⟨rfl, by omega⟩⟩
  cases z
  exact ⟨ht.fr f_at (fun z => by omega) (fun z => by omega) (fun j z => by omega), hpa.at hl hT.1⟩
theorem ry_atN (hK : K ≤ 1000) (h : RY Tx L p b K A none) : RY Tx L p b (K + 1) (zsi A 226 13 (zi A 226 13 + 1)) none ∧ fr (fun a j => a = 226 ∧ (j = 13 ∨ j = 16)) A (zsi A 226 13 (zi A 226 13 + 1)) := by
  refine ⟨⟨fun _ => ?_, fun s z => by cases z⟩, fr_si ⟨rfl, by omega⟩⟩
  obtain ⟨a1, a2, a3, a4, a5, a6⟩ := h.1 rfl
  exact ⟨by rw [zi_si_j (by decide)]; exact a1, by rw [zi_si_j (by decide)]; exact a2, by rw [zi_si_s, yb_w (by omega) (by omega)]; omega, by rw [zi_si_j (by decide)]; exact a4, by rw [ri_si_o (by decide)]; exact a5, by rw [ri_si_o (by decide)]; exact a6⟩
theorem ry_look (hT : TXT Tx L) (h : RY Tx L p b K A o) : ∃ v, z_M_look N A = some v ∧ ∀ s, o = some s → v = Tx s.1 := by
  cases o with
  | none =>
    have h0 := h.1 rfl
    have := hT.1
    unfold z_M_look
    split
    · next c => exact ⟨_, zrd_ok h0.2.2.1.1 (by have := h0.2.1; omega), fun s z => by cases z⟩
    · exact ⟨_, rfl, fun s z => by cases z⟩
  | some s =>
    obtain ⟨ht, hpa⟩ := h.2 s rfl
    exact ⟨_, r_look hT ht.1 ht.2.1 hpa.2.1, fun s' z => by cases z; rfl⟩
/-- x=..; -/
theorem r_sassign {c : Int} (hN : 300000 ≤ N) (hT : TXT Tx L) (hp : p < 4) (hm : mb = true ↔ p = 3) (hc : 97 ≤ c ∧ c ≤ 102) (h : RY Tx L p 2 300 A (some s)) : ∃ B, (zbV (z_M_need N 61 A) fun A25 => zbI (z_M_expression N A25) fun v26 A27 => zbV (z_M_emit N 1 (zi A27 226 14) 1 (zw (c - 97)) v26 0 0 A27) fun A28 => zbV (z_M_need N 59 A28) fun A29 => some A29) = some B ∧ fr (qSm p) A B ∧ RY Tx L p 0 320 B ((tex Tx 61 s).bind fun s1 => (tx Tx mb s1).bind fun w => tex Tx 59 (tad (1, c - 97, w.1, 0, 0) w.2)) ∧ (∀ lv pk, RLv A lv pk → RLv B lv pk) := by
  obtain ⟨B, b1, b2, b3⟩ := ry_need (N := N) (c := 61) hT (by decide) (by omega) (by omega) h
  rw [b1, zbV_s]
  obtain ⟨v, C, c1, c2, c3⟩ := ry_expr (N := N) (mb := mb) hN hT hp hm (by omega) b3
  rw [c1, zbI_s, (ry_14 c3.1).1, yb_w (by omega) (by omega)]
  obtain ⟨D, d1, d2, d3⟩ := ry_emitw (N := N) (b := 1) (x3 := 1) (x4 := c - 97) hT hp (fun _ => ⟨by decide, w300 (by omega) (by omega)⟩) c3
  rw [d1, zbV_s]
  obtain ⟨E, e1, e2, e3⟩ := ry_need (N := N) (c := 59) hT (by decide) (by omega) (by omega) d3
  rw [e1, zbV_s]
  refine ⟨E, rfl, (((b2.mono (fun a j z => fN_S z)).trans (c2.mono (fun a j z => qX_S z))).trans (d2.mono (fun a j z => fO_S z))).trans (e2.mono (fun a j z => fN_S z)), ?_, fun lv pk hl => rlv_n (rlv_o (rlv_x (rlv_n hl b2) c2) d2) e2⟩
  have e : ((tex Tx 61 s).bind fun s1 => (tx Tx mb s1).bind fun w => tex Tx 59 (tad (1, c - 97, w.1, 0, 0) w.2)) = ((((some s).bind (tex Tx 61)).bind (txk Tx mb)).map (fun w => tad (1, c - 97, w.1, 0, 0) w.2)).bind (tex Tx 59) := by
    show (tex Tx 61 s).bind _ = Option.bind (Option.map _ (Option.bind (tex Tx 61 s) _)) _
    cases tex Tx 61 s with
    | none => rfl
    | some s1 =>
      rw [Option.bind_some, txk_bd (Tx := Tx) (mb := mb) (s := s1) (G := fun w => tex Tx 59 (tad (1, c - 97, w.1, 0, 0) w.2)) (fun w hw => if_neg (show ¬ Tx w.2.1 = 59 by omega))]
      show (txk Tx mb s1).bind _ = Option.bind (Option.map _ (txk Tx mb s1)) _
      cases txk Tx mb s1 <;> rfl
  rw [e]
  exact RY.mono e3 (by omega) (by omega)
/-- !..; -/
theorem r_ssay (hN : 300000 ≤ N) (hT : TXT Tx L) (hp : p < 4) (hm : mb = true ↔ p = 3) (h : RY Tx L p 2 300 A (some s)) : ∃ B, (zbI (z_M_expression N A) fun v15 A16 => zbV (z_M_emit N 1 (zi A 226 14) 6 v15 0 0 0 A16) fun A17 => zbV (z_M_need N 59 A17) fun A18 => some A18) = some B ∧ fr (qSm p) A B ∧ RY Tx L p 0 320 B ((tx Tx mb s).bind fun w => tex Tx 59 (tad (6, w.1, 0, 0, 0) w.2)) ∧ (∀ lv pk, RLv A lv pk → RLv B lv pk) := by
  obtain ⟨v, C, c1, c2, c3⟩ := ry_expr (N := N) (mb := mb) hN hT hp hm (by omega) h
  rw [c1, zbI_s, (ry_14 h).1]
  obtain ⟨D, d1, d2, d3⟩ := ry_emitv (N := N) (b := 1) (x3 := 6) (x5 := 0) hT hp (fun _ => ⟨by decide, by decide⟩) c3
  rw [d1, zbV_s]
  obtain ⟨E, e1, e2, e3⟩ := ry_need (N := N) (c := 59) hT (by decide) (by omega) (by omega) d3
  rw [e1, zbV_s]
  refine ⟨E, rfl, ((c2.mono (fun a j z => qX_S z)).trans (d2.mono (fun a j z => fO_S z))).trans (e2.mono (fun a j z => fN_S z)), ?_, fun lv pk hl => rlv_n (rlv_o (rlv_x hl c2) d2) e2⟩
  have e : ((tx Tx mb s).bind fun w => tex Tx 59 (tad (6, w.1, 0, 0, 0) w.2)) = ((((some s).bind (txk Tx mb)).map (fun w => tad (6, w.1, 0, 0, 0) w.2)).bind (tex Tx 59)) := by
    rw [txk_bd (Tx := Tx) (mb := mb) (s := s) (G := fun w => tex Tx 59 (tad (6, w.1, 0, 0, 0) w.2)) (fun w hw => if_neg (show ¬ Tx w.2.1 = 59 by omega))]
    show (txk Tx mb s).bind _ = Option.bind (Option.map _ (txk Tx mb s)) _
    cases txk Tx mb s <;> rfl
  rw [e]
  exact RY.mono e3 (by omega) (by omega)
/-- ?x; -/
theorem r_sask (hT : TXT Tx L) (hp : p < 4) (hl : s.1 ≤ L) (h : RY Tx L p 2 300 A (some s)) : ∃ B, (zbP (z_M_look N A) fun v20 => zbP (z_M_isVariable N v20 A) fun v21 => (if v21 = 0 then zlet (zsi A 226 16 1) fun A23 => z_M_statement_183 N A23 else z_M_statement_183 N A)) = some B ∧ fr (qSm p) A B ∧ RY Tx L p 0 320 B (if 97 ≤ Tx s.1 ∧ Tx s.1 ≤ 102 then tex Tx 59 (tad (5, Tx s.1 - 97, 0, 0, 0) (tav s)) else none) ∧ (∀ lv pk, RLv A lv pk → RLv B lv pk) := by
  obtain ⟨v, v1, v2⟩ := ry_look (N := N) hT h
  have v2 := v2 s rfl
  rw [v1, zbP_s, r_isv, zbP_s, v2]
  by_cases c : 97 ≤ Tx s.1 ∧ Tx s.1 ≤ 102
  · rw [if_pos c, if_neg (by decide), if_pos c]
    unfold z_M_statement_183
    rw [v1, zbP_s, v2, (ry_14 h).1, yb_w (by omega) (by omega)]
    obtain ⟨D, d1, d2, d3⟩ := ry_emit (N := N) (b := 1) (x3 := 5) (x4 := Tx s.1 - 97) (x5 := 0) hT hp (fun _ => ⟨by decide, w300 (by omega) (by omega), by decide⟩) h
    rw [d1, zbV_s, zlet_s]
    obtain ⟨e1, e2⟩ := ry_at (s := tad (5, Tx s.1 - 97, 0, 0, 0) s) hT (hT.lt (k := s.1) (by omega)) d3
    obtain ⟨E, g1, g2, g3⟩ := ry_need (N := N) (c := 59) hT (by decide) (by omega) (by omega) e1
    rw [g1, zbV_s]
    exact ⟨E, rfl, ((d2.mono (fun a j z => fO_S z)).trans (e2.mono (fun a j z => fN_S z))).trans (g2.mono (fun a j z => fN_S z)), RY.mono g3 (by omega) (by omega), fun lv pk hl => rlv_n (rlv_n (rlv_o hl d2) e2) g2⟩
  · rw [if_neg c, if_pos rfl, zlet_s, if_neg c]
    obtain ⟨y1, y2⟩ := ry_fail hT (by omega) h
    unfold z_M_statement_183
    obtain ⟨u, u1, u2⟩ := ry_look (N := N) hT y1
    rw [u1, zbP_s, (ry_14 y1).1]
    obtain ⟨D, d1, d2, d3⟩ := ry_emit (N := N) (b := 1) (x3 := 5) (x4 := zw (u - 97)) (x5 := 0) hT hp (fun e => absurd rfl e) y1
    rw [d1, zbV_s, zlet_s]
    obtain ⟨e1, e2⟩ := ry_atN (by omega) d3
    obtain ⟨E, g1, g2, g3⟩ := ry_need (N := N) (c := 59) hT (by decide) (by omega) (by omega) e1
    rw [g1, zbV_s]
    exact ⟨E, rfl, (((y2.mono (fun a j z => fN_S z)).trans (d2.mono (fun a j z => fO_S z))).trans (e2.mono (fun a j z => fN_S z))).trans (g2.mono (fun a j z => fN_S z)), RY.mono g3 (by omega) (by omega), fun lv pk hl => rlv_n (rlv_n (rlv_o (rlv_n hl y2) d2) e2) g2⟩
/-- A[..]=..; -/
theorem r_sstore (hN : 300000 ≤ N) (hT : TXT Tx L) (hp : p < 4) (hm : mb = true ↔ p = 3) (h : RY Tx L p 2 300 A (some s)) : ∃ B, (zbV (z_M_need N 91 A) fun A6 => zbI (z_M_expression N A6) fun v7 A8 => zbV (z_M_need N 93 A8) fun A9 => zbV (z_M_need N 61 A9) fun A10 => (if (zi A10 226 16) = 0 then zbI (z_M_expression N A10) fun v12 A13 => z_M_statement_104 N v7 v12 A13 else z_M_statement_104 N v7 0 A10)) = some B ∧ fr (qSm p) A B ∧ RY Tx L p 0 320 B ((tex Tx 91 s).bind fun s1 => (tx Tx mb s1).bind fun w => (tex Tx 93 w.2).bind fun s2 => (tex Tx 61 s2).bind fun s3 => (tx Tx mb s3).bind fun u => (tex Tx 59 u.2).bind fun s4 => some (tad (4, w.1, u.1, 0, 0) s4)) ∧ (∀ lv pk, RLv A lv pk → RLv B lv pk) := by
  obtain ⟨B, b1, b2, b3⟩ := ry_need (N := N) (c := 91) hT (by decide) (by omega) (by omega) h
  rw [b1, zbV_s]
  obtain ⟨v, C, c1, c2, c3⟩ := ry_expr (N := N) (mb := mb) hN hT hp hm (by omega) b3
  rw [c1, zbI_s]
  obtain ⟨D, d1, d2, d3⟩ := ry_needv (N := N) (c := 93) hT (by decide) (by omega) (by omega) c3
  rw [d1, zbV_s]
  obtain ⟨E, e1, e2, e3⟩ := ry_needv (N := N) (c := 61) hT (by decide) (by omega) (by omega) d3
  rw [e1, zbV_s]
  have fE : fr (qSm p) A E := (((b2.mono (fun a j z => fN_S z)).trans (c2.mono (fun a j z => qX_S z))).trans (d2.mono (fun a j z => fN_S z))).trans (e2.mono (fun a j z => fN_S z))
  have lE : ∀ lv pk, RLv A lv pk → RLv E lv pk := fun lv pk hl => rlv_n (rlv_n (rlv_x (rlv_n hl b2) c2) d2) e2
  have e : ((tex Tx 91 s).bind fun s1 => (tx Tx mb s1).bind fun w => (tex Tx 93 w.2).bind fun s2 => (tex Tx 61 s2).bind fun s3 => (tx Tx mb s3).bind fun u => (tex Tx 59 u.2).bind fun s4 => some (tad (4, w.1, u.1, 0, 0) s4)) = ((((((some s).bind (tex Tx 91)).bind (txk Tx mb)).bind (tev Tx 93)).bind (tev Tx 61)).bind fun w => (((txk Tx mb w.2).map fun u => tad (4, w.1, u.1, 0, 0) u.2).bind (tex Tx 59))) := by
    show (tex Tx 91 s).bind _ = Option.bind (Option.bind (Option.bind (Option.bind (tex Tx 91 s) _) _) _) _
    cases tex Tx 91 s with
    | none => rfl
    | some s1 =>
      rw [Option.bind_some, txk_bd (fun w hw => by
        have : tex Tx 93 w.2 = none := if_neg (show ¬ Tx w.2.1 = 93 by omega)
        rw [this]; rfl)]
      show (txk Tx mb s1).bind _ = Option.bind (Option.bind (Option.bind (txk Tx mb s1) _) _) _
      cases txk Tx mb s1 with
      | none => rfl
      | some w =>
        show (tex Tx 93 w.2).bind _ = Option.bind (Option.bind (Option.map _ (tex Tx 93 w.2)) _) _
        cases tex Tx 93 w.2 with
        | none => rfl
        | some s2 =>
          show (tex Tx 61 s2).bind _ = Option.bind (Option.map _ (tex Tx 61 s2)) _
          cases tex Tx 61 s2 with
          | none => rfl
          | some s3 =>
            show (tx Tx mb s3).bind _ = Option.bind (Option.map _ (txk Tx mb s3)) _
            rw [txk_bd (fun w hw => by
              have : tex Tx 59 w.2 = none := if_neg (show ¬ Tx w.2.1 = 59 by omega)
              rw [this]; rfl)]
            cases txk Tx mb s3 with
            | none => rfl
            | some u =>
              show (tex Tx 59 u.2).bind _ = tex Tx 59 (tad (4, w.1, u.1, 0, 0) u.2)
              unfold tex
              show (if Tx u.2.1 = 59 then some (tav u.2) else none).bind _ = if Tx u.2.1 = 59 then _ else _
              split <;> rfl
  rw [e]
  have h16 := ry_16 e3.1
  revert e3 h16
  cases ((((some s).bind (tex Tx 91)).bind (txk Tx mb)).bind (tev Tx 93)).bind (tev Tx 61) with
  | none =>
    intro e3 h16
    have n16 : ¬ zi E 226 16 = 0 := by have := h16.2 rfl; omega
    rw [if_neg n16]
    unfold z_M_statement_104
    rw [(ry_14 e3.1).1]
    obtain ⟨G, g1, g2, g3⟩ := ry_emit (N := N) (b := 1) (x3 := 4) (x4 := v) (x5 := 0) hT hp (o := none) (fun e => absurd rfl e) e3.1
    rw [g1, zbV_s]
    obtain ⟨H, h1, h2, h3⟩ := ry_need (N := N) (c := 59) hT (by decide) (by omega) (by omega) g3
    rw [h1, zbV_s]
    exact ⟨H, rfl, (fE.trans (g2.mono (fun a j z => fO_S z))).trans (h2.mono (fun a j z => fN_S z)), RY.mono h3 (by omega) (by omega), fun lv pk hl => rlv_n (rlv_o (lE lv pk hl) g2) h2⟩
  | some w =>
    intro e3 h16
    obtain ⟨w1, w2, w3⟩ := e3.2 w rfl
    rw [if_pos (h16.1 (by intro z; cases z))]
    obtain ⟨u, F, f1, f2, f3⟩ := ry_expr (N := N) (mb := mb) hN hT hp hm (by omega) e3.1
    rw [f1, zbI_s]
    unfold z_M_statement_104
    rw [(ry_14 f3.1).1]
    obtain ⟨G, g1, g2, g3⟩ := ry_emitw (N := N) (b := 1) (x3 := 4) (x4 := v) hT hp (fun _ => ⟨by decide, by rw [w1]; exact w300 w2 (by omega)⟩) f3
    rw [g1, zbV_s]
    obtain ⟨H, h1, h2, h3⟩ := ry_need (N := N) (c := 59) hT (by decide) (by omega) (by omega) g3
    rw [h1, zbV_s]
    refine ⟨H, rfl, ((fE.trans (f2.mono (fun a j z => qX_S z))).trans (g2.mono (fun a j z => fO_S z))).trans (h2.mono (fun a j z => fN_S z)), ?_, fun lv pk hl => rlv_n (rlv_o (rlv_x (lE lv pk hl) f2) g2) h2⟩
    rw [w1] at h3
    exact RY.mono h3 (by omega) (by omega)
/-- P(..); -/
theorem r_scall {c : Int} (hN : 300000 ≤ N) (hT : TXT Tx L) (hp : p < 4) (hm : mb = true ↔ p = 3) (hc : 80 ≤ c ∧ c ≤ 82) (h : RY Tx L p 2 300 A (some s)) : ∃ B, z_M_nested_114 N c (zw (c - 80)) cl A = some B ∧ fr (qSm p) A B ∧ RY Tx L p 0 320 B (if c - 80 < cl then (tex Tx 40 s).bind fun s1 => (tx Tx mb s1).bind fun w => (tex Tx 41 w.2).bind fun s2 => (tex Tx 59 s2).bind fun s3 => some (tad (7, w.1, c - 80, 0, 0) s3) else none) ∧ (∀ lv pk, RLv A lv pk → RLv B lv pk) := by
  unfold z_M_nested_114
  rw [yb_w (by omega) (by omega)]
  by_cases cc : c - 80 < (cl : Int)
  · rw [if_pos cc, if_pos cc]
    obtain ⟨B, b1, b2, b3⟩ := ry_need (N := N) (c := 40) hT (by decide) (by omega) (by omega) h
    rw [b1, zbV_s]
    have rest : ∀ (v : Int) (C : zA) (o : Option (Int × Ps)), fr (qSm p) A C → (∀ lv pk, RLv A lv pk → RLv C lv pk) → RYv Tx L p 2 310 C v o → ∃ B, z_M_nested_138 N c v C = some B ∧ fr (qSm p) A B ∧ RY Tx L p 0 320 B (((o.map fun w => tad (7, w.1, c - 80, 0, 0) w.2).bind (tex Tx 41)).bind (tex Tx 59)) ∧ (∀ lv pk, RLv A lv pk → RLv B lv pk) := fun v C o fC lC hC => by
      unfold z_M_nested_138
      rw [(ry_14 hC.1).1, yb_w (by omega) (by omega)]
      obtain ⟨G, g1, g2, g3⟩ := ry_emitv (N := N) (b := 1) (x3 := 7) (x5 := c - 80) hT hp (fun _ => ⟨by decide, w300 (by omega) (by omega)⟩) hC
      rw [g1, zbV_s]
      obtain ⟨H, h1, h2, h3⟩ := ry_need (N := N) (c := 41) hT (by decide) (by omega) (by omega) g3
      rw [h1, zbV_s]
      obtain ⟨I, i1, i2, i3⟩ := ry_need (N := N) (c := 59) hT (by decide) (by omega) (by omega) h3
      rw [i1, zbV_s]
      exact ⟨I, rfl, ((fC.trans (g2.mono (fun a j z => fO_S z))).trans (h2.mono (fun a j z => fN_S z))).trans (i2.mono (fun a j z => fN_S z)), RY.mono i3 (by omega) (by omega), fun lv pk hl => rlv_n (rlv_n (rlv_o (lC lv pk hl) g2) h2) i2⟩
    have e : ((tex Tx 40 s).bind fun s1 => (tx Tx mb s1).bind fun w => (tex Tx 41 w.2).bind fun s2 => (tex Tx 59 s2).bind fun s3 => some (tad (7, w.1, c - 80, 0, 0) s3)) = (((((some s).bind (tex Tx 40)).bind (txk Tx mb)).map fun w => tad (7, w.1, c - 80, 0, 0) w.2).bind (tex Tx 41)).bind (tex Tx 59) := by
      show (tex Tx 40 s).bind _ = Option.bind (Option.bind (Option.map _ (Option.bind (tex Tx 40 s) _)) _) _
      cases tex Tx 40 s with
      | none => rfl
      | some s1 =>
        rw [Option.bind_some, txk_bd (fun w hw => by
          have : tex Tx 41 w.2 = none := if_neg (show ¬ Tx w.2.1 = 41 by omega)
          rw [this]; rfl)]
        show (txk Tx mb s1).bind _ = Option.bind (Option.bind (Option.map _ (txk Tx mb s1)) _) _
        cases txk Tx mb s1 with
        | none => rfl
        | some w =>
          show (tex Tx 41 w.2).bind _ = Option.bind (tex Tx 41 (tad (7, w.1, c - 80, 0, 0) w.2)) _
          unfold tex
          show (if Tx w.2.1 = 41 then some (tav w.2) else none).bind _ = Option.bind (if Tx w.2.1 = 41 then some (tav (tad (7, w.1, c - 80, 0, 0) w.2)) else none) _
          split
          · show (if Tx (w.2.1 + 1) = 59 then some (tav (tav w.2)) else none).bind _ = if Tx (w.2.1 + 1) = 59 then _ else _
            split <;> rfl
          · rfl
    rw [e]
    have h16 := ry_16 b3
    have lB : ∀ lv pk, RLv A lv pk → RLv B lv pk := fun lv pk hl => rlv_n hl b2
    by_cases c0 : (some s).bind (tex Tx 40) = none
    · rw [if_neg (by have := h16.2 c0; omega)]
      obtain ⟨I, i1, i2, i3, i4⟩ := rest 0 B none (b2.mono (fun a j z => fN_S z)) lB ⟨by rw [c0] at b3; exact RY.mono b3 (by omega) (by omega), fun w z => by cases z⟩
      rw [c0]
      exact ⟨I, i1, i2, i3, i4⟩
    · rw [if_pos (h16.1 c0)]
      obtain ⟨v, C, c1, c2, c3⟩ := ry_expr (N := N) (mb := mb) hN hT hp hm (by omega) b3
      rw [c1, zbI_s]
      exact rest v C _ ((b2.mono (fun a j z => fN_S z)).trans (c2.mono (fun a j z => qX_S z))) (fun lv pk hl => rlv_x (lB lv pk hl) c2) (RYv.mono c3 (by omega) (by omega))
  · rw [if_neg cc, if_neg cc, zlet_s]
    obtain ⟨y1, y2⟩ := ry_fail hT (by omega) h
    exact ⟨_, rfl, y2.mono (fun a j z => fN_S z), RY.mono y1 (by omega) (by omega), fun lv pk hl => rlv_n hl y2⟩
/-- a statement without a block -/
theorem r_st1 (hN : 300000 ≤ N) (hT : TXT Tx L) (hp : p < 4) (hm : mb = true ↔ p = 3) (hcl : cl = if p = 3 then pk else p) (hl : s.1 < L) (h73 : Tx s.1 ≠ 73) (h87 : Tx s.1 ≠ 87) (h : RY Tx L p 0 300 A (some s)) (hv : RLv A lv pk) : ∃ B, z_M_statement N A = some B ∧ fr (qSm p) A B ∧ RY Tx L p 0 320 B (tsB Tx mb cl Kf s) ∧ RLv B lv pk := by
  obtain ⟨ht, hpa⟩ := h.2 s rfl
  unfold z_M_statement
  rw [r_look hT ht.1 ht.2.1 hpa.2.1, zbP_s, zlet_s, r_isv, zbP_s]
  obtain ⟨h1, f1⟩ := ry_at hT hl h
  have v1 := rlv_n hv f1
  generalize zsi A 226 13 (zi A 226 13 + 1) = A2 at *
  have fin : ∀ {R : Option zA} {S : Option Ps}, (∃ B, R = some B ∧ fr (qSm p) A2 B ∧ RY Tx L p 0 320 B S ∧ (∀ lv pk, RLv A2 lv pk → RLv B lv pk)) → ∃ B, R = some B ∧ fr (qSm p) A B ∧ RY Tx L p 0 320 B S ∧ RLv B lv pk := fun q => by
    obtain ⟨B, b1, b2, b3, b4⟩ := q
    exact ⟨B, b1, (f1.mono (fun a j z => fN_S z)).trans b2, b3, b4 _ _ v1⟩
  by_cases cv : 97 ≤ Tx s.1 ∧ Tx s.1 ≤ 102
  · rw [if_pos cv, if_neg (by decide)]
    have e : tsB Tx mb cl Kf s = (tex Tx 61 (tav s)).bind fun s1 => (tx Tx mb s1).bind fun w => tex Tx 59 (tad (1, Tx s.1 - 97, w.1, 0, 0) w.2) := by
      unfold tsB
      rw [if_neg (by omega), if_neg (by omega), if_neg (by omega), if_neg (by omega), if_neg (by omega), if_neg (by omega), if_pos cv]
    rw [e]
    exact fin (r_sassign hN hT hp hm cv h1)
  rw [if_neg cv, if_pos rfl]
  by_cases c65 : Tx s.1 = 65
  · rw [if_pos c65]
    have e : tsB Tx mb cl Kf s = (tex Tx 91 (tav s)).bind fun s1 => (tx Tx mb s1).bind fun w => (tex Tx 93 w.2).bind fun s2 => (tex Tx 61 s2).bind fun s3 => (tx Tx mb s3).bind fun u => (tex Tx 59 u.2).bind fun s4 => some (tad (4, w.1, u.1, 0, 0) s4) := by
      unfold tsB
      rw [if_neg (by omega), if_neg (by omega), if_pos c65]
    rw [e]
    exact fin (r_sstore hN hT hp hm h1)
  rw [if_neg c65]
  by_cases c33 : Tx s.1 = 33
  · rw [if_pos c33]
    have e : tsB Tx mb cl Kf s = (tx Tx mb (tav s)).bind fun w => tex Tx 59 (tad (6, w.1, 0, 0, 0) w.2) := by
      unfold tsB
      rw [if_pos c33]
    rw [e]
    exact fin (r_ssay hN hT hp hm h1)
  rw [if_neg c33]
  by_cases c63 : Tx s.1 = 63
  · rw [if_pos c63]
    have e : tsB Tx mb cl Kf s = if 97 ≤ Tx (tav s).1 ∧ Tx (tav s).1 ≤ 102 then tex Tx 59 (tad (5, Tx (tav s).1 - 97, 0, 0, 0) (tav (tav s))) else none := by
      unfold tsB
      rw [if_neg c33, if_pos c63]
      rfl
    rw [e]
    exact fin (r_sask hT hp hl h1)
  rw [if_neg c63]
  unfold z_M_nested
  rw [if_neg h73, if_neg h87]
  have bad : tsB Tx mb cl Kf s = none → ∃ B, (zbV (zlet (zsi A2 226 16 1) fun A13 => some A13) fun A24 => some A24) = some B ∧ fr (qSm p) A B ∧ RY Tx L p 0 320 B (tsB Tx mb cl Kf s) ∧ RLv B lv pk := fun e => by
    rw [zlet_s, zbV_s, e]
    obtain ⟨y1, y2⟩ := ry_fail hT (by omega) h1
    exact fin ⟨_, rfl, y2.mono (fun a j z => fN_S z), RY.mono y1 (by omega) (by omega), fun lv pk hl => rlv_n hl y2⟩
  by_cases c80 : Tx s.1 < 80
  · rw [if_pos c80]
    exact bad (by
      unfold tsB
      rw [if_neg c33, if_neg c63, if_neg c65, if_neg h73, if_neg (show ¬ (80 ≤ Tx s.1 ∧ Tx s.1 ≤ 82) by omega), if_neg h87, if_neg cv])
  rw [if_neg c80]
  by_cases c82 : 82 < Tx s.1
  · rw [if_pos c82]
    exact bad (by
      unfold tsB
      rw [if_neg c33, if_neg c63, if_neg c65, if_neg h73, if_neg (show ¬ (80 ≤ Tx s.1 ∧ Tx s.1 ≤ 82) by omega), if_neg h87, if_neg cv])
  rw [if_neg c82, (ry_14 h1).1, v1.2.2.2]
  have e : tsB Tx mb cl Kf s = if Tx s.1 - 80 < cl then (tex Tx 40 (tav s)).bind fun s1 => (tx Tx mb s1).bind fun w => (tex Tx 41 w.2).bind fun s2 => (tex Tx 59 s2).bind fun s3 => some (tad (7, w.1, Tx s.1 - 80, 0, 0) s3) else none := by
    unfold tsB
    rw [if_neg c33, if_neg c63, if_neg c65, if_neg h73, if_pos (show 80 ≤ Tx s.1 ∧ Tx s.1 ≤ 82 by omega)]
  rw [e]
  have ec : (if (p : Int) = 3 then z_M_nested_114 N (Tx s.1) (zw (Tx s.1 - 80)) pk A2 else z_M_nested_114 N (Tx s.1) (zw (Tx s.1 - 80)) p A2) = z_M_nested_114 N (Tx s.1) (zw (Tx s.1 - 80)) cl A2 := by
    rw [hcl]
    by_cases c3 : p = 3
    · rw [if_pos c3, if_pos (by omega)]
    · rw [if_neg c3, if_neg (by omega)]
  rw [ec]
  obtain ⟨B, b1, b2⟩ := r_scall (N := N) (cl := cl) hN hT hp hm (show 80 ≤ Tx s.1 ∧ Tx s.1 ≤ 82 by omega) h1
  rw [b1, zbV_s]
  exact fin ⟨B, rfl, b2⟩
end
