/-! the reference's statements: single steps -/
def RXk (L p b K : Nat) (A : zA) : Prop := zi A 226 16 = 1 ∧ zi A 226 1 = L ∧ (0 ≤ zi A 226 13 ∧ zi A 226 13 ≤ K) ∧ zi A 226 14 = p ∧ 0 ≤ ri A 229 (4 + p : Nat) ∧ ri A 229 (4 + p : Nat) + b ≤ 240
def RY (Tx : Nat → Int) (L p b K : Nat) (A : zA) (o : Option Ps) : Prop := (o = none → RXk L p b K A) ∧ ∀ s, o = some s → RTx Tx L p A ∧ RPa L p b A s 0
def RYv (Tx : Nat → Int) (L p b K : Nat) (A : zA) (v : Int) (o : Option (Int × Ps)) : Prop := RY Tx L p b K A (o.map Prod.snd) ∧ ∀ w, o = some w → v = w.1 ∧ 0 ≤ w.1 ∧ w.1 ≤ 300
def qSm (p : Nat) (a j : Nat) : Prop := (a = 226 ∧ (j = 13 ∨ j = 16 ∨ j = 17 ∨ j = 19 ∨ j = 20 ∨ j = 21)) ∨ a = 234 ∨ a = 235 ∨ a = 236 ∨ qRo (4 + p) a j
theorem qX_S {p a j : Nat} (h : qXp p a j) : qSm p a j := by
  unfold qXp at h
  unfold qSm
  rcases h with h | h | h | h
  · exact Or.inl ⟨h.1, by omega⟩
  · exact Or.inr (Or.inr (Or.inl h))
  · exact Or.inr (Or.inr (Or.inr (Or.inl h)))
  · exact Or.inr (Or.inr (Or.inr (Or.inr h)))
section
variable {N : Nat} {Tx : Nat → Int} {L p b K : Nat} {mb : Bool} {A B : zA} {s : Ps} {o : Option Ps}
theorem RY.mono {b' K' : Nat} (h : RY Tx L p b K A o) (hb : b' ≤ b) (hK : K ≤ K') : RY Tx L p b' K' A o := ⟨fun z => by
  obtain ⟨a1, a2, a3, a4, a5, a6⟩ := h.1 z
  exact ⟨a1, a2, by omega, a4, a5, by omega⟩, fun s z => by
  obtain ⟨t, a1, a2, a3, a4, a5, a6, a7⟩ := h.2 s z
  exact ⟨t, a1, a2, a3, a4, by omega, a6, a7⟩⟩
theorem RYv.mono {b' K' : Nat} {v : Int} {o : Option (Int × Ps)} (h : RYv Tx L p b K A v o) (hb : b' ≤ b) (hK : K ≤ K') : RYv Tx L p b' K' A v o := ⟨RY.mono h.1 hb hK, h.2⟩
theorem ry_14 (h : RY Tx L p b K A o) : zi A 226 14 = p ∧ zi A 226 1 = L := by
  cases o with
  | none => exact ⟨(h.1 rfl).2.2.2.1, (h.1 rfl).2.1⟩
  | some s => exact ⟨(h.2 s rfl).1.2.2, (h.2 s rfl).1.1⟩
theorem ry_expr (hN : 300000 ≤ N) (hT : TXT Tx L) (hp : p < 4) (hm : mb = true ↔ p = 3) (hK : 300 ≤ K) (h : RY Tx L p b K A o) : ∃ v B, z_M_expression N A = some (v, B) ∧ fr (qXp p) A B ∧ RYv Tx L p b K B v (o.bind (txk Tx mb)) := by
  cases o with
  | none =>
    unfold z_M_expression z_M_expression_19
    rw [zlet_s, zlet_s, zlet_s]
    have f0 : fr (fun a j => a = 226 ∧ (j = 19 ∨ j = 20 ∨ j = 21)) A (zsi (zsi (zsi A 226 19 0) 226 20 0) 226 21 0) := ((fr_si ⟨rfl, by omega⟩).trans (fr_si ⟨rfl, by omega⟩)).trans (fr_si ⟨rfl, by omega⟩)
    generalize zsi (zsi (zsi A 226 19 0) 226 20 0) 226 21 0 = A1 at *
    obtain ⟨a1, a2, a3, a4, a5, a6⟩ := h.1 rfl
    have e16 : zi A1 226 16 = 1 := by rw [f0.i (fun z => by omega)]; exact a1
    rw [r_xstop (by omega) e16]
    exact ⟨0, A1, rfl, f0.mono (fun a j z => Or.inl ⟨z.1, by omega⟩), ⟨⟨fun _ => ⟨e16, by rw [f0.i (fun z => by omega)]; exact a2, by rw [f0.i (fun z => by omega)]; exact a3, by rw [f0.i (fun z => by omega)]; exact a4, by rw [f0.e (fun z => by omega)]; exact a5, by rw [f0.e (fun z => by omega)]; exact a6⟩, fun s z => by cases z⟩, fun w z => by cases z⟩⟩
  | some s =>
    obtain ⟨v, B, b1, b2, ⟨b3, b4⟩, b5⟩ := r_expr (N := N) (o := some s) (b := b) (mb := mb) hN hT hp hm ⟨fun z => (by cases z), h.2⟩
    refine ⟨v, B, b1, b2, ⟨⟨fun z => ?_, b4⟩, b5⟩⟩
    obtain ⟨a1, a2, a3, a4, a5, a6⟩ := b3 z
    exact ⟨a1, a2, by omega, a4, a5, a6⟩
theorem ry_need {c : Int} (hT : TXT Tx L) (hc : c ≠ 0) (hK : K ≤ 1000) (hK2 : 300 ≤ K) (h : RY Tx L p b K A o) : ∃ B, z_M_need N c A = some B ∧ fr (fun a j => a = 226 ∧ (j = 13 ∨ j = 16)) A B ∧ RY Tx L p b (K + 1) B (o.bind (tex Tx c)) := by
  have hL := hT.1
  have bad : ∀ (D : zA), RXk L p b K A ∨ (∃ s, RTx Tx L p A ∧ RPa L p b A s 0) → fr (fun a j => a = 226 ∧ j = 16) A D → zi D 226 16 = 1 → RXk L p b (K + 1) (zsi D 226 13 (zi D 226 13 + 1)) := fun D hD fD h16 => by
    have e13 : 0 ≤ zi A 226 13 ∧ zi A 226 13 ≤ K := by
      rcases hD with z | ⟨s, z1, z2⟩
      · exact z.2.2.1
      · have := z2.2.1; have := z2.2.2.1; omega
    have d13 : zi D 226 13 = zi A 226 13 := fD.i (fun z => by omega)
    have rest : zi A 226 1 = L ∧ zi A 226 14 = p ∧ 0 ≤ ri A 229 (4 + p : Nat) ∧ ri A 229 (4 + p : Nat) + b ≤ 240 := by
      rcases hD with z | ⟨s, z1, z2⟩
      · exact ⟨z.2.1, z.2.2.2.1, z.2.2.2.2.1, z.2.2.2.2.2⟩
      · have e := z2.2.2.2.1.1
        have l := z2.2.2.2.2.1
        have l2 := z2.2.2.1
        exact ⟨z1.1, z1.2.2, by rw [e]; omega, by rw [e]; omega⟩
    refine ⟨by rw [zi_si_j (by decide)]; exact h16, by rw [zi_si_j (by decide), fD.i (fun z => by omega)]; exact rest.1, by rw [zi_si_s, d13, yb_w (by omega) (by omega)]; omega, by rw [zi_si_j (by decide), fD.i (fun z => by omega)]; exact rest.2.1, by rw [ri_si_o (by decide), fD.e (fun z => by omega)]; exact rest.2.2.1, by rw [ri_si_o (by decide), fD.e (fun z => by omega)]; exact rest.2.2.2⟩
  unfold z_M_need
  cases o with
  | none =>
    have h0 := h.1 rfl
    have lk : ∃ v, z_M_look N A = some v := by
      unfold z_M_look
      split
      · next c => exact ⟨_, zrd_ok h0.2.2.1.1 (by have := h0.2.1; omega)⟩
      · exact ⟨_, rfl⟩
    obtain ⟨v, hv⟩ := lk
    rw [hv, zbP_s]
    split
    · rw [zlet_s]
      exact ⟨_, rfl, fr_si ⟨rfl, by omega⟩, ⟨fun _ => bad A (Or.inl h0) (fr.refl _ _) h0.1, fun s z => by cases z⟩⟩
    · rw [zlet_s, zlet_s]
      exact ⟨_, rfl, (fr_si ⟨rfl, by omega⟩).trans (fr_si ⟨rfl, by omega⟩), ⟨fun _ => bad _ (Or.inl h0) (fr_si ⟨rfl, rfl⟩) (by rw [zi_si_s]; decide), fun s z => by cases z⟩⟩
  | some s =>
    obtain ⟨ht, hpa⟩ := h.2 s rfl
    rw [r_look hT ht.1 ht.2.1 hpa.2.1, zbP_s]
    by_cases e : Tx s.1 = c
    · rw [if_pos e, zlet_s]
      have e2 : (some s).bind (tex Tx c) = some (tav s) := if_pos e
      rw [e2]
      refine ⟨_, rfl, fr_si ⟨rfl, by omega⟩, ⟨fun z => (by cases z), fun s' z => ?_⟩⟩
      cases z
      have hx := hpa.at (hT.lt (k := s.1) (by rw [e]; exact hc)) hL
      obtain ⟨a1, a2, a3, a4, a5, a6, a7⟩ := hx
      exact ⟨ht.fr f_at (fun z => by omega) (fun z => by omega) (fun j z => by omega), ⟨a1, a2, a3, a4, by omega, a6, a7⟩⟩
    · rw [if_neg e, zlet_s, zlet_s]
      have e2 : (some s).bind (tex Tx c) = none := if_neg e
      rw [e2]
      exact ⟨_, rfl, (fr_si ⟨rfl, by omega⟩).trans (fr_si ⟨rfl, by omega⟩), ⟨fun _ => bad _ (Or.inr ⟨s, ht, hpa⟩) (fr_si ⟨rfl, rfl⟩) (by rw [zi_si_s]; decide), fun s z => by cases z⟩⟩
theorem ry_emit {x3 x4 x5 : Int} (hT : TXT Tx L) (hp : p < 4) (hw : o ≠ none → zw x3 = x3 ∧ zw x4 = x4 ∧ zw x5 = x5) (h : RY Tx L p (b + 1) K A o) : ∃ B, z_M_emit N 1 p x3 x4 x5 0 0 A = some B ∧ fr (qRo (4 + p)) A B ∧ RY Tx L p b K B (o.map (tad (x3, x4, x5, 0, 0))) := by
  have hL := hT.1
  cases o with
  | none =>
    obtain ⟨a1, a2, a3, a4, a5, a6⟩ := h.1 rfl
    have e4 : ((4 + p : Nat) : Int) = 4 * 1 + (p : Int) := by omega
    rw [e4] at a5 a6
    obtain ⟨B, b1, b2⟩ := z_M_emit_e (N := N) (x := 1) (y := (p : Int)) (a := x3) (b := x4) (c := x5) (d := 0) (e := 0) (A := A) (by omega) (by omega) a5 (by unfold rn; omega)
    have g1 : rn A (4 * 1 + (p : Int)) < 240 := by unfold rn; omega
    have g0 : 0 ≤ rn A (4 * 1 + (p : Int)) := a5
    have f : fr (qRo (4 + p)) A B := by
      rw [b2]
      refine (((((fr_rs ?_).trans (fr_rs ?_)).trans (fr_rs ?_)).trans (fr_rs ?_)).trans (fr_rs ?_)).trans (fr_rs (Or.inr ⟨Or.inl rfl, by omega⟩)) <;> exact Or.inl ⟨rfl, by unfold rad; omega, by unfold rad; omega⟩
    have e9 : ri B 229 (4 * 1 + (p : Int)) = ri A 229 (4 * 1 + (p : Int)) + 1 := by
      rw [b2, ri_rs_s]
      show zw (ri A 229 (4 * 1 + (p : Int)) + 1) = _
      exact yb_w (by omega) (by omega)
    refine ⟨B, b1, f, ⟨fun _ => ⟨by rw [f.i nqRo226]; exact a1, by rw [f.i nqRo226]; exact a2, by rw [f.i nqRo226]; exact a3, by rw [f.i nqRo226]; exact a4, by rw [e4, e9]; omega, by rw [e4, e9]; omega⟩, fun s z => by cases z⟩⟩
  | some s =>
    obtain ⟨ht, a1, a2, a3, a4, a5, a6, a7⟩ := h.2 s rfl
    obtain ⟨w1, w2, w3⟩ := hw (by intro e; cases e)
    obtain ⟨B, b1, b2, b3⟩ := RP_emit (N := N) (x3 := x3) (x4 := x4) (x5 := x5) (x6 := 0) (x7 := 0) hp a4 (by omega) w1 w2 w3 (by decide) (by decide)
    refine ⟨B, b1, b3, ⟨fun z => (by cases z), fun s' z => ?_⟩⟩
    cases z
    refine ⟨ht.fr b3 nqRo226 nqRo226 (fun j => nqRo (by omega)), ⟨by rw [b3.i nqRo226]; exact a1, by rw [b3.i nqRo226]; exact a2, a3, b2, ?_, ?_, a7⟩⟩
    · show (s.2.1 ++ [(x3, x4, x5, 0, 0)]).length + 0 + b ≤ 2 * s.1
      rw [List.length_append]
      simp only [List.length_cons, List.length_nil]
      omega
    · show s.2.2 ≤ 7 + (s.2.1 ++ [(x3, x4, x5, 0, 0)]).length
      rw [List.length_append]
      omega
/-- values -/
theorem ry_emitv {x3 x5 v : Int} {o : Option (Int × Ps)} (hT : TXT Tx L) (hp : p < 4) (hw : o ≠ none → zw x3 = x3 ∧ zw x5 = x5) (h : RYv Tx L p (b + 1) K A v o) : ∃ B, z_M_emit N 1 p x3 v x5 0 0 A = some B ∧ fr (qRo (4 + p)) A B ∧ RY Tx L p b K B (o.map (fun w => tad (x3, w.1, x5, 0, 0) w.2)) := by
  obtain ⟨B, b1, b2, b3⟩ := ry_emit (N := N) (x3 := x3) (x4 := v) (x5 := x5) hT hp (fun e => by
    cases o with
    | none => exact absurd rfl e
    | some w =>
      obtain ⟨e1, e2, e3⟩ := h.2 w rfl
      have hw := hw (by intro e; cases e)
      exact ⟨hw.1, by rw [e1]; exact w300 e2 (by omega), hw.2⟩) h.1
  refine ⟨B, b1, b2, ?_⟩
  cases o with
  | none => exact b3
  | some w =>
    rw [(h.2 w rfl).1] at b3
    exact b3
theorem ry_emitw {x3 x4 v : Int} {o : Option (Int × Ps)} (hT : TXT Tx L) (hp : p < 4) (hw : o ≠ none → zw x3 = x3 ∧ zw x4 = x4) (h : RYv Tx L p (b + 1) K A v o) : ∃ B, z_M_emit N 1 p x3 x4 v 0 0 A = some B ∧ fr (qRo (4 + p)) A B ∧ RY Tx L p b K B (o.map (fun w => tad (x3, x4, w.1, 0, 0) w.2)) := by
  obtain ⟨B, b1, b2, b3⟩ := ry_emit (N := N) (x3 := x3) (x4 := x4) (x5 := v) hT hp (fun e => by
    cases o with
    | none => exact absurd rfl e
    | some w =>
      obtain ⟨e1, e2, e3⟩ := h.2 w rfl
      have hw := hw (by intro e; cases e)
      exact ⟨hw.1, hw.2, by rw [e1]; exact w300 e2 (by omega)⟩) h.1
  refine ⟨B, b1, b2, ?_⟩
  cases o with
  | none => exact b3
  | some w =>
    rw [(h.2 w rfl).1] at b3
    exact b3
theorem ry_needv {c v : Int} {o : Option (Int × Ps)} (hT : TXT Tx L) (hc : c ≠ 0) (hK : K ≤ 1000) (hK2 : 300 ≤ K) (h : RYv Tx L p b K A v o) : ∃ B, z_M_need N c A = some B ∧ fr (fun a j => a = 226 ∧ (j = 13 ∨ j = 16)) A B ∧ RYv Tx L p b (K + 1) B v (o.bind (tev Tx c)) := by
  obtain ⟨B, b1, b2, b3⟩ := ry_need (N := N) hT hc hK hK2 h.1
  refine ⟨B, b1, b2, ⟨?_, fun w' e' => ?_⟩⟩
  · have e : (o.bind (tev Tx c)).map Prod.snd = (o.map Prod.snd).bind (tex Tx c) := by
      cases o with
      | none => rfl
      | some w =>
        show Option.map _ (Option.map _ (tex Tx c w.2)) = tex Tx c w.2
        cases tex Tx c w.2 <;> rfl
    rw [e]
    exact b3
  · cases o with
    | none => cases e'
    | some w =>
      have e' : (tex Tx c w.2).map (fun u => (w.1, u)) = some w' := e'
      revert e'
      cases tex Tx c w.2 with
      | none => intro e'; cases e'
      | some u =>
        intro e'
        cases e'
        exact h.2 w rfl
theorem txk_bd {G : Int × Ps → Option Ps} (hG : ∀ w : Int × Ps, (Tx w.2.1 = 60 ∨ Tx w.2.1 = 61) → G w = none) : (tx Tx mb s).bind G = (txk Tx mb s).bind G := by
  unfold txk
  cases tx Tx mb s with
  | none => rfl
  | some w =>
    rw [Option.bind_some, Option.bind_some]
    by_cases c : Tx w.2.1 = 60 ∨ Tx w.2.1 = 61
    · rw [if_pos c, hG w c]; rfl
    · rw [if_neg c]; rfl
/-- levels -/
def RLv (A : zA) (lv : List Int) (pk : Nat) : Prop := zi A 226 17 = lv.length ∧ stk A 234 lv ∧ lv.length ≤ 5 ∧ zi A 226 15 = pk
theorem rlv_fr {F : Nat → Nat → Prop} {lv : List Int} {pk : Nat} (h : RLv A lv pk) (f : fr F A B) (h1 : ¬ F 226 17) (h2 : ¬ F 226 15) (h3 : ∀ j, ¬ F 234 j) : RLv B lv pk := ⟨by rw [f.i h1]; exact h.1, stk_fr h.2.1 f h3, h.2.2.1, by rw [f.i h2]; exact h.2.2.2⟩
theorem rlv_x {lv : List Int} {pk : Nat} (h : RLv A lv pk) (f : fr (qXp p) A B) : RLv B lv pk := rlv_fr h f (fun z => by
  unfold qXp at z
  rcases z with z | z | z | z
  · omega
  · omega
  · omega
  · exact nqRo226 z) (fun z => by
  unfold qXp at z
  rcases z with z | z | z | z
  · omega
  · omega
  · omega
  · exact nqRo226 z) (fun j z => by
  unfold qXp at z
  rcases z with z | z | z | z
  · omega
  · omega
  · omega
  · exact nqRo (by omega) z)
theorem rlv_n {lv : List Int} {pk : Nat} (h : RLv A lv pk) (f : fr (fun a j => a = 226 ∧ (j = 13 ∨ j = 16)) A B) : RLv B lv pk := rlv_fr h f (fun z => by omega) (fun z => by omega) (fun j z => by omega)
theorem rlv_o {lv : List Int} {pk : Nat} (h : RLv A lv pk) (f : fr (qRo (4 + p)) A B) : RLv B lv pk := rlv_fr h f nqRo226 nqRo226 (fun j => nqRo (by omega))
/-- a block is entered -/
theorem ry_enter {x : Int} {lv : List Int} {pk : Nat} (hT : TXT Tx L) (hx : 0 ≤ x ∧ x ≤ 4) (hK : K ≤ 1000) (hK2 : 300 ≤ K) (h : RY Tx L p b K A o) (hl : o ≠ none → RLv A lv pk) (h17 : 0 ≤ zi A 226 17) : ∃ B, z_M_enter N x A = some B ∧ fr (fun a j => (a = 226 ∧ (j = 13 ∨ j = 16 ∨ j = 17)) ∨ a = 234) A B ∧ RY Tx L p b (K + 1) B (if lv.length < 5 then o.bind (tex Tx 123) else none) ∧ ((if lv.length < 5 then o.bind (tex Tx 123) else none) ≠ none → RLv B (x :: lv) pk) := by
  obtain ⟨C, c1, c2, c3⟩ := ry_need (N := N) (c := 123) hT (by decide) hK hK2 h
  unfold z_M_enter
  rw [c1, zbV_s]
  have c17 : 0 ≤ zi C 226 17 := by rw [c2.i (fun z => by omega)]; exact h17
  have push : ∀ {F : Nat → Nat → Prop}, zi C 226 17 < 5 → ∃ B, (zwr C 234 8 (zi C 226 17) x fun A3 => zlet (zsi A3 226 17 ((zi A3 226 17) + 1)) fun A4 => some A4) = some B ∧ fr (fun a j => (a = 226 ∧ j = 17) ∨ a = 234) C B ∧ (∀ lv, RLv C lv pk → RLv B (x :: lv) pk) := fun h5 => by
    rw [zwr_ok c17 (by omega), zlet_s, zi_rs_o (by decide)]
    have f : fr (fun a j => (a = 226 ∧ j = 17) ∨ a = 234) C (zsi (rs C 234 (zi C 226 17) x) 226 17 (zi C 226 17 + 1)) := (fr_rs (Or.inr rfl)).trans (fr_si (Or.inl ⟨rfl, rfl⟩))
    refine ⟨_, rfl, f, fun lv hlv => ⟨?_, ?_, ?_, ?_⟩⟩
    · rw [zi_si_s, yb_w (by omega) (by omega), hlv.1]
      rfl
    · have h1 := hlv.1
      have s1 : stk (rs C 234 (lv.length : Int) x) 234 (x :: lv) := stk_push hlv.2.1 (w300 hx.1 (by omega))
      rw [h1]
      exact stk_fr s1 (fr_si (Q := fun a j => a = 226) rfl) (fun j z => by omega)
    · have h1 := hlv.1
      show lv.length + 1 ≤ 5
      omega
    · rw [f.i (fun z => by omega)]; exact hlv.2.2.2
  have keep : ∀ {B : zA} {o' : Option Ps}, fr (fun a j => (a = 226 ∧ j = 17) ∨ a = 234) C B → RY Tx L p b (K + 1) C o' → RY Tx L p b (K + 1) B o' := fun {B o'} f hc => ⟨fun z => by
      obtain ⟨a1, a2, a3, a4, a5, a6⟩ := hc.1 z
      exact ⟨by rw [f.i (fun z => by omega)]; exact a1, by rw [f.i (fun z => by omega)]; exact a2, by rw [f.i (fun z => by omega)]; exact a3, by rw [f.i (fun z => by omega)]; exact a4, by rw [f.e (fun z => by omega)]; exact a5, by rw [f.e (fun z => by omega)]; exact a6⟩, fun s z => by
      obtain ⟨ht, a1, a2, a3, a4, a5, a6, a7⟩ := hc.2 s z
      have := hT.1
      exact ⟨ht.fr f (fun z => by omega) (fun z => by omega) (fun j z => by omega), ⟨by rw [f.i (fun z => by omega)]; exact a1, by rw [f.i (fun z => by omega)]; exact a2, a3, a4.fr (by omega) f (fun a j z q => by
        rcases z with z | z
        · rw [z.1] at q; exact nqRo226 q
        · rw [z] at q; exact nqRo (by omega) q), a5, a6, a7⟩⟩⟩
  have fail : RY Tx L p b (K + 1) (zsi C 226 16 1) none := ⟨fun _ => by
    cases ho : o.bind (tex Tx 123) with
    | none =>
      obtain ⟨a1, a2, a3, a4, a5, a6⟩ := c3.1 ho
      exact ⟨by rw [zi_si_s]; decide, by rw [zi_si_j (by decide)]; exact a2, by rw [zi_si_j (by decide)]; exact a3, by rw [zi_si_j (by decide)]; exact a4, by rw [ri_si_o (by decide)]; exact a5, by rw [ri_si_o (by decide)]; exact a6⟩
    | some s =>
      obtain ⟨ht, hpa⟩ := c3.2 s ho
      obtain ⟨a1, a2, a3, a4, a5, a6⟩ := hpa.fail hT.1 ht
      exact ⟨a1, a2, by omega, a4, a5, a6⟩, fun s z => by cases z⟩
  by_cases h5 : zi C 226 17 < 5
  · rw [if_pos h5]
    obtain ⟨B, b1, b2, b3⟩ := push (F := fun _ _ => True) h5
    refine ⟨B, b1, (c2.mono (fun a j z => Or.inl ⟨z.1, by omega⟩)).trans (b2.mono (fun a j z => by rcases z with z | z; exact Or.inl ⟨z.1, by omega⟩; exact Or.inr z)), ?_⟩
    cases o with
    | none =>
      have e : (if lv.length < 5 then (none : Option Ps).bind (tex Tx 123) else none) = none := by split <;> rfl
      rw [e]
      exact ⟨keep b2 c3, fun z => absurd rfl z⟩
    | some s =>
      have hlv := rlv_n (hl (by intro e; cases e)) c2
      have := hlv.1
      rw [if_pos (by omega)]
      exact ⟨keep b2 c3, fun _ => b3 lv hlv⟩
  · rw [if_neg h5, zlet_s]
    refine ⟨_, rfl, (c2.mono (fun a j z => Or.inl ⟨z.1, by omega⟩)).trans (fr_si (Or.inl ⟨rfl, by omega⟩)), ?_⟩
    have e : (if lv.length < 5 then o.bind (tex Tx 123) else none) = none := by
      cases o with
      | none => split <;> rfl
      | some s =>
        have hlv := rlv_n (hl (by intro e; cases e)) c2
        have := hlv.1
        rw [if_neg (by omega)]
    rw [e]
    exact ⟨fail, fun z => absurd rfl z⟩
end
