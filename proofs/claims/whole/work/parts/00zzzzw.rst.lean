/-! the reference's statements: all of them -/
section
variable {N : Nat} {Tx : Nat → Int} {L p b K : Nat} {mb : Bool} {A B : zA} {s : Ps} {o : Option Ps} {lv lv' : List Int} {pk cl : Nat} {Kf : Ps → Option Ps} {x : Int}
theorem tsB_I {S : Ps → Option Ps} (h : Tx s.1 = 73) : tsB Tx mb cl (tbk Tx L S) s = ((txk Tx mb (tav s)).bind fun w => tex Tx 123 (tad (8, w.1, 0, 0, 0) w.2)).bind fun t => (tsE Tx L S 120 t).bind fun t1 => (tex Tx 123 (tad (9, 0, 0, 0, 0) (tav t1))).bind fun t2 => (tsE Tx L S 120 t2).bind fun t3 => some (tad (12, 0, 0, 0, 0) (tav t3)) := by
  unfold tsB
  rw [if_neg (by omega), if_neg (by omega), if_neg (by omega), if_pos h]
  rw [txk_bd (Tx := Tx) (mb := mb) (s := tav s) (G := fun w => (tbk Tx L S (tad (8, w.1, 0, 0, 0) w.2)).bind fun s1 => (tbk Tx L S (tad (9, 0, 0, 0, 0) s1)).bind fun s2 => some (tad (12, 0, 0, 0, 0) s2)) (fun w hw => by
    have : tex Tx 123 (tad (8, w.1, 0, 0, 0) w.2) = none := if_neg (show ¬ Tx w.2.1 = 123 by omega)
    rw [tbk_E, this]
    rfl)]
  cases txk Tx mb (tav s) with
  | none => rfl
  | some w =>
    rw [Option.bind_some, Option.bind_some, tbk_E]
    cases tex Tx 123 (tad (8, w.1, 0, 0, 0) w.2) with
    | none => rfl
    | some t =>
      rw [Option.bind_some, Option.bind_some]
      cases tsE Tx L S 120 t with
      | none => rfl
      | some t1 =>
        rw [Option.map_some, Option.bind_some, Option.bind_some, tbk_E]
        cases tex Tx 123 (tad (9, 0, 0, 0, 0) (tav t1)) with
        | none => rfl
        | some t2 =>
          rw [Option.bind_some, Option.bind_some]
          cases tsE Tx L S 120 t2 <;> rfl
theorem tsB_W {S : Ps → Option Ps} (h : Tx s.1 = 87) : tsB Tx mb cl (tbk Tx L S) s = ((txk Tx mb (tad (10, 0, 0, 0, 0) (tav s))).bind fun w => tex Tx 123 (tad (11, w.1, 0, 0, 0) w.2)).bind fun t => (tsE Tx L S 120 t).bind fun t3 => some (tad (12, 0, 0, 0, 0) (tav t3)) := by
  unfold tsB
  rw [if_neg (by omega), if_neg (by omega), if_neg (by omega), if_neg (by omega), if_neg (by omega), if_pos h]
  rw [txk_bd (Tx := Tx) (mb := mb) (s := tad (10, 0, 0, 0, 0) (tav s)) (G := fun w => (tbk Tx L S (tad (11, w.1, 0, 0, 0) w.2)).bind fun s1 => some (tad (12, 0, 0, 0, 0) s1)) (fun w hw => by
    have : tex Tx 123 (tad (11, w.1, 0, 0, 0) w.2) = none := if_neg (show ¬ Tx w.2.1 = 123 by omega)
    rw [tbk_E, this]
    rfl)]
  cases txk Tx mb (tad (10, 0, 0, 0, 0) (tav s)) with
  | none => rfl
  | some w =>
    rw [Option.bind_some, Option.bind_some, tbk_E]
    cases tex Tx 123 (tad (11, w.1, 0, 0, 0) w.2) with
    | none => rfl
    | some t =>
      rw [Option.bind_some, Option.bind_some]
      cases tsE Tx L S 120 t <;> rfl
theorem tsB_N (h : Tx s.1 = 73 ∨ Tx s.1 = 87) : tsB Tx mb cl (fun _ => none) s = none := by
  unfold tsB
  rcases h with h | h
  · rw [if_neg (by omega), if_neg (by omega), if_neg (by omega), if_pos h]
    cases tx Tx mb (tav s) <;> rfl
  · rw [if_neg (by omega), if_neg (by omega), if_neg (by omega), if_neg (by omega), if_neg (by omega), if_pos h]
    cases tx Tx mb (tad (10, 0, 0, 0, 0) (tav s)) <;> rfl
theorem txk_some {t : Ps} {w : Int × Ps} (h : txk Tx mb t = some w) : tx Tx mb t = some w := by
  unfold txk at h
  cases h1 : tx Tx mb t with
  | none => rw [h1] at h; cases h
  | some u =>
    rw [h1, Option.bind_some] at h
    split at h
    · cases h
    · exact h
/-- what is read in front of a block -/
theorem head_at {t u : Ps} {i : Int → It} (hT : TXT Tx L) (hl : t.1 ≤ L) (h7 : 7 ≤ t.2.2) (h : ((txk Tx mb t).bind fun w => tex Tx 123 (tad (i w.1) w.2)) = some u) : t.1 < u.1 := by
  cases h1 : txk Tx mb t with
  | none => rw [h1] at h; cases h
  | some w =>
    rw [h1, Option.bind_some] at h
    have x := tg_x hT t w hl h7 (txk_some h1)
    obtain ⟨e1, e2, e3, e4⟩ := tgR.ex hT (by decide) h
    have e2 : w.2.1 < u.1 := e2
    have := x.1
    omega
theorem r_st (hN : 300000 ≤ N) (hT : TXT Tx L) (hp : p < 4) (hm : mb = true ↔ p = 3) (hcl : cl = if p = 3 then pk else p) (hcl3 : cl ≤ 3) (hx : x = 0 ∨ x = 1) : ∀ (n : Nat) (lv : List Int), lv.length + n = 5 → (x = 1 ∨ (x = 0 ∧ 0 < lv.length)) → ∀ (s : Ps) (A : zA), s.1 < L → Tx s.1 ≠ 125 → RY Tx L p 0 300 A (some s) → RLv A lv pk → rOut N Tx L p pk x A s lv (tst Tx L mb cl n s) := by
  intro n
  induction n with
  | zero =>
    intro lv hn hxl s A hl h125 h hv
    obtain ⟨ht, hpa⟩ := h.2 s rfl
    have a7 := hpa.2.2.2.2.2.2
    show rOut N Tx L p pk x A s lv (tsB Tx mb cl (fun _ => none) s)
    by_cases c73 : Tx s.1 = 73
    · obtain ⟨B, b1, b2, b3, b4⟩ := r_stI (N := N) (mb := mb) hN hT hp hm hl c73 h hv
      rw [if_neg (by omega)] at b3
      rw [tsB_N (Or.inl c73)]
      exact rOut.one (R := z_M_statement N) (by omega) (body_st hT hxl hl h125 h hv) ⟨B, b1, b2, b3, fun z => absurd rfl z⟩ (fun s' z => by cases z)
    by_cases c87 : Tx s.1 = 87
    · obtain ⟨B, b1, b2, b3, b4⟩ := r_stW (N := N) (mb := mb) hN hT hp hm hl c87 h hv
      rw [if_neg (by omega)] at b3
      rw [tsB_N (Or.inr c87)]
      exact rOut.one (R := z_M_statement N) (by omega) (body_st hT hxl hl h125 h hv) ⟨B, b1, b2, b3, fun z => absurd rfl z⟩ (fun s' z => by cases z)
    obtain ⟨B, b1, b2, b3, b4⟩ := r_st1 (N := N) (mb := mb) (cl := cl) (Kf := fun _ => none) hN hT hp hm hcl hl c73 c87 h hv
    exact rOut.one (R := z_M_statement N) (by omega) (body_st hT hxl hl h125 h hv) ⟨B, b1, b2, b3, fun _ => b4⟩ (fun s' z => (ts_st (mb := mb) hT hcl3 0 s s' hl a7 z).1)
  | succ n IH =>
    intro lv hn hxl s A hl h125 h hv
    obtain ⟨ht, hpa⟩ := h.2 s rfl
    have a7 := hpa.2.2.2.2.2.2
    show rOut N Tx L p pk x A s lv (tsB Tx mb cl (tbk Tx L (tst Tx L mb cl n)) s)
    have hg : ∀ s s' : Ps, s.1 < L → 7 ≤ s.2.2 → tst Tx L mb cl n s = some s' → s.1 < s'.1 ∧ s'.1 ≤ L ∧ s.2.2 ≤ s'.2.2 := fun s s' h1 h2 h3 => by
      obtain ⟨g1, g2⟩ := ts_st hT hcl3 n s s' h1 h2 h3
      exact ⟨g1, g2.2.1, g2.2.2.1⟩
    have body : ∀ (c : Int) (t : Ps) (C : zA), RY Tx L p 0 300 C (some t) → RLv C (c :: lv) pk → rOut N Tx L p pk x C t (c :: lv) (tsE Tx L (tst Tx L mb cl n) 120 t) := fun c t C hC hvC => by
      have hL := hT.1
      exact r_sts (lv := c :: lv) hT (Nat.succ_pos _) hg (fun s A h1 h2 h3 h4 => IH (c :: lv) (by show lv.length + 1 + n = 5; omega) (by rcases hx with q | q; exact Or.inr ⟨q, Nat.succ_pos _⟩; exact Or.inl q) s A h1 h2 h3 h4) 120 t C (by omega) hC hvC
    have lt : ∀ t : Ps, Tx t.1 = 125 → t.1 < L := fun t q => hT.lt (k := t.1) (by rw [q]; decide)
    by_cases c73 : Tx s.1 = 73
    · obtain ⟨B, b1, b2, b3, b4⟩ := r_stI (N := N) (mb := mb) hN hT hp hm hl c73 h hv
      rw [if_pos (by omega)] at b3 b4
      rw [tsB_I c73]
      refine rOut.bd (rOut.one (R := z_M_statement N) (by omega) (body_st hT hxl hl h125 h hv) ⟨B, b1, b2, b3, b4⟩ (fun s' z => ?_)) (fun t C zt hC hvC => ?_)
      · have := head_at (i := fun r => (8, r, 0, 0, 0)) hT (t := tav s) hl a7 z
        have : s.1 + 1 < s'.1 := this
        omega
      · refine rOut.bd (body 1 t C hC hvC) (fun t1 D zt1 hD hvD => ?_)
        obtain ⟨-, z125⟩ := tsE_some zt1
        have lt1 := lt t1 z125
        obtain ⟨E, e1, e2, e3, e4⟩ := r_lv1 (N := N) hT hp lt1 hD hvD
        refine rOut.bd (rOut.one (R := z_M_leave N) (by omega) (body_lv (lv := 1 :: lv) hT (Nat.succ_pos _) lt1 z125 hD hvD) ⟨E, e1, e2, e3, e4⟩ (fun s' z => ?_)) (fun t2 F zt2 hF hvF => ?_)
        · obtain ⟨g1, g2, g3, g4⟩ := tgR.ex hT (by decide) z
          have g2 : t1.1 + 1 < s'.1 := g2
          omega
        · refine rOut.bd (body 2 t2 F hF hvF) (fun t3 G zt3 hG hvG => ?_)
          obtain ⟨-, z125'⟩ := tsE_some zt3
          have lt3 := lt t3 z125'
          obtain ⟨H, i1, i2, i3, i4⟩ := r_lv2 (N := N) hT hp lt3 (Or.inl rfl) hG hvG
          exact rOut.one (R := z_M_leave N) (by omega) (body_lv (lv := 2 :: lv) hT (Nat.succ_pos _) lt3 z125' hG hvG) ⟨H, i1, i2, RY.mono i3 (by omega) (by omega), fun _ => i4⟩ (fun s' z => by
            cases z
            show t3.1 < t3.1 + 1
            omega)
    by_cases c87 : Tx s.1 = 87
    · obtain ⟨B, b1, b2, b3, b4⟩ := r_stW (N := N) (mb := mb) hN hT hp hm hl c87 h hv
      rw [if_pos (by omega)] at b3 b4
      rw [tsB_W c87]
      refine rOut.bd (rOut.one (R := z_M_statement N) (by omega) (body_st hT hxl hl h125 h hv) ⟨B, b1, b2, b3, b4⟩ (fun s' z => ?_)) (fun t C zt hC hvC => ?_)
      · have := head_at (i := fun r => (11, r, 0, 0, 0)) hT (t := tad (10, 0, 0, 0, 0) (tav s)) hl a7 z
        have : s.1 + 1 < s'.1 := this
        omega
      · refine rOut.bd (body 3 t C hC hvC) (fun t3 G zt3 hG hvG => ?_)
        obtain ⟨-, z125'⟩ := tsE_some zt3
        have lt3 := lt t3 z125'
        obtain ⟨H, i1, i2, i3, i4⟩ := r_lv2 (N := N) hT hp lt3 (Or.inr rfl) hG hvG
        exact rOut.one (R := z_M_leave N) (by omega) (body_lv (lv := 3 :: lv) hT (Nat.succ_pos _) lt3 z125' hG hvG) ⟨H, i1, i2, RY.mono i3 (by omega) (by omega), fun _ => i4⟩ (fun s' z => by
          cases z
          show t3.1 < t3.1 + 1
          omega)
    obtain ⟨B, b1, b2, b3, b4⟩ := r_st1 (N := N) (mb := mb) (cl := cl) (Kf := tbk Tx L (tst Tx L mb cl n)) hN hT hp hm hcl hl c73 c87 h hv
    exact rOut.one (R := z_M_statement N) (by omega) (body_st hT hxl hl h125 h hv) ⟨B, b1, b2, b3, fun _ => b4⟩ (fun s' z => (ts_st (mb := mb) hT hcl3 (n + 1) s s' hl a7 z).1)
end
