/-! feed, dry, out, count -/
def CIp (A : zA) (inp : Nat → Int) (ic : Nat) : Prop := zi A 214 1 = ic ∧ ∀ i : Nat, i < ic → ri A 215 i = inp i
def RIp (A : zA) (inp : Nat → Int) (ic : Nat) : Prop := zi A 226 10 = ic ∧ ∀ i : Nat, i < ic → ri A 232 i = inp i
section
variable {N : Nat} {A : zA} {x : Int} {inp : Nat → Int} {ic : Nat} {ou : List Int}
theorem c_feed (hO : Own A) (h : CIp A inp ic) (hi : ic ≤ 20) (hx : zw x = x) : (ic < 20 → ∃ B, z_PC_feed N x A = some (1, B) ∧ CIp B (fU inp ic x) (ic + 1) ∧ cF [214, 215] A B ∧ zi B 214 3 = zi A 214 3 ∧ zi B 214 4 = zi A 214 4) ∧ (¬ ic < 20 → z_PC_feed N x A = some (0, A)) := by
  unfold z_PC_feed
  rw [h.1]
  refine ⟨fun c => ?_, fun c => by rw [if_neg (by omega)]⟩
  rw [if_pos (by omega), zwr_ok (by omega) (by omega), zlet_s]
  have f1 : fr (fun a _ => a = 215) A (rs A 215 (ic : Int) x) := fr_rs rfl
  have f2 : fr (fun a j => a = 214 ∧ j = 1) (rs A 215 (ic : Int) x) (zsi (rs A 215 (ic : Int) x) 214 1 (zi (rs A 215 (ic : Int) x) 214 1 + 1)) := fr_si ⟨rfl, rfl⟩
  have g1 : cF [215] A (rs A 215 (ic : Int) x) := cF_si hO (by decide) (by decide) (by decide)
  have g2 : cF [214] (rs A 215 (ic : Int) x) (zsi (rs A 215 (ic : Int) x) 214 1 (zi (rs A 215 (ic : Int) x) 214 1 + 1)) := cF_si g1.own (by decide) (by decide) (by decide)
  refine ⟨_, rfl, ⟨?_, fun i hi => ?_⟩, (g1.mono (fun a q => ?_)).trans (g2.mono (fun a q => ?_)), ?_, ?_⟩
  · rw [zi_si_s, f1.i (fun z => by omega), h.1, yb_w (by omega) (by omega)]; omega
  · rw [f2.e (fun z => by omega), ri_rs (by omega) (by omega)]
    unfold fU
    by_cases e : i = ic
    · rw [if_pos (by omega), if_pos e, hx]
    · rw [if_neg (by omega), if_neg e]
      exact h.2 i (by omega)
  · simp at q; simp [q]
  · simp at q; simp [q]
  · rw [f2.i (fun z => by omega), f1.i (fun z => by omega)]
  · rw [f2.i (fun z => by omega), f1.i (fun z => by omega)]
theorem r_feed (h : RIp A inp ic) (hi : ic ≤ 20) (hx : zw x = x) : (ic < 20 → ∃ B, z_M_feed N x A = some (1, B) ∧ RIp B (fU inp ic x) (ic + 1) ∧ fr (fun a j => (a = 226 ∧ (j = 0 ∨ j = 10)) ∨ a = 232) A B) ∧ (¬ ic < 20 → z_M_feed N x A = some (0, zsi A 226 0 0)) := by
  unfold z_M_feed
  have f0 : fr (fun a j => a = 226 ∧ j = 0) A (zsi A 226 0 0) := fr_si ⟨rfl, rfl⟩
  have h0 : RIp (zsi A 226 0 0) inp ic := ⟨by rw [f0.i (fun z => by omega)]; exact h.1, fun k hk => by rw [f0.e (fun z => by omega)]; exact h.2 k hk⟩
  rw [zlet_s, h0.1]
  refine ⟨fun c => ?_, fun c => by rw [if_pos (by omega)]⟩
  rw [if_neg (by omega), zwr_ok (by omega) (by omega), zlet_s]
  generalize zsi A 226 0 0 = A0 at *
  have f1 : fr (fun a _ => a = 232) A0 (rs A0 232 (ic : Int) x) := fr_rs rfl
  have f2 : fr (fun a j => a = 226 ∧ j = 10) (rs A0 232 (ic : Int) x) (zsi (rs A0 232 (ic : Int) x) 226 10 (zi (rs A0 232 (ic : Int) x) 226 10 + 1)) := fr_si ⟨rfl, rfl⟩
  refine ⟨_, rfl, ⟨?_, fun i hi => ?_⟩, ((f0.mono (fun a j z => by omega)).trans (f1.mono (fun a j z => by omega))).trans (f2.mono (fun a j z => by omega))⟩
  · rw [zi_si_s, f1.i (fun z => by omega), h0.1, yb_w (by omega) (by omega)]; omega
  · rw [f2.e (fun z => by omega), ri_rs (by omega) (by omega)]
    unfold fU
    by_cases e : i = ic
    · rw [if_pos (by omega), if_pos e, hx]
    · rw [if_neg (by omega), if_neg e]
      exact h0.2 i (by omega)
theorem c_dry (hO : Own A) : ∃ B, z_PC_dry N A = some B ∧ CIp B inp 0 ∧ cF [214] A B ∧ zi B 214 3 = zi A 214 3 ∧ zi B 214 4 = zi A 214 4 := by
  unfold z_PC_dry
  rw [zlet_s]
  have f2 : fr (fun a j => a = 214 ∧ j = 1) A (zsi A 214 1 0) := fr_si ⟨rfl, rfl⟩
  exact ⟨_, rfl, ⟨by rw [zi_si_s]; decide, fun i hi => absurd hi (Nat.not_lt_zero i)⟩, cF_si hO (by decide) (by decide) (by decide), by rw [f2.i (fun z => by omega)], by rw [f2.i (fun z => by omega)]⟩
theorem r_dry : ∃ B, z_M_dry N A = some B ∧ RIp B inp 0 ∧ fr (fun a j => a = 226 ∧ (j = 0 ∨ j = 10)) A B := by
  unfold z_M_dry
  rw [zlet_s, zlet_s]
  exact ⟨_, rfl, ⟨by rw [zi_si_s]; decide, fun i hi => absurd hi (Nat.not_lt_zero i)⟩, (fr_si ⟨rfl, Or.inl rfl⟩).trans (fr_si ⟨rfl, Or.inr rfl⟩)⟩
def mayO (ou : List Int) (x : Int) : Prop := 0 ≤ x ∧ x < ou.length
theorem c_out (h : COu A ou) (hl : ou.length ≤ 40) : (mayO ou x → z_PC_out N x A = some (.inl (ou.getD x.toNat 0), A)) ∧ (¬ mayO ou x → z_PC_out N x A = some (.inr 2, znw A (false, 102, 0))) := by
  unfold z_PC_out mayO
  rw [h.1]
  refine ⟨fun c => ?_, fun c => ?_⟩
  · have := h.2 x.toNat (by omega)
    rw [show ((x.toNat : Nat) : Int) = x by omega] at this
    rw [if_neg (by omega), if_pos c.2, zrd_ok c.1 (by omega), this]
  · by_cases c1 : x < 0
    · rw [if_pos c1]
    · rw [if_neg c1, if_neg (by omega)]
theorem r_out (h : ROu A ou) (hl : ou.length ≤ 40) : (mayO ou x → z_M_out N x A = some (ou.getD x.toNat 0, zsi A 226 0 0)) ∧ (¬ mayO ou x → z_M_out N x A = some (0, zsi (zsi A 226 0 0) 226 0 1)) := by
  unfold z_M_out mayO z_M_out_17 z_M_fail
  have f0 : fr (fun a j => a = 226 ∧ j = 0) A (zsi A 226 0 0) := fr_si ⟨rfl, rfl⟩
  rw [zlet_s, f0.i (fun z => by omega), h.1]
  refine ⟨fun c => ?_, fun c => ?_⟩
  · have := h.2 x.toNat (by omega)
    rw [show ((x.toNat : Nat) : Int) = x by omega] at this
    rw [if_neg (by omega), if_pos c.2, zrd_ok c.1 (by omega), f0.e (fun z => by omega), this]
  · by_cases c1 : x < 0
    · rw [if_pos c1, zlet_s, zbI_s]
    · rw [if_neg c1, if_neg (by omega), zlet_s, zbI_s]
end
noncomputable def cntA (Q : Pr) (L ic : Nat) (ou : List Int) (s c1 c2 x : Int) : Int := if x = 0 then L else if x = 1 then Q.1 else if x = 2 then (cod Q).length else if x = 3 then ic else if x = 4 then ou.length else if x = 5 then s else if x = 6 then c1 else if x = 7 then c2 else -1
section
variable {N : Nat} {A : zA} {R R' : Nat} {Q QB : Pr} {x s c1 c2 : Int} {inp : Nat → Int} {L ic : Nat} {ou : List Int}
theorem c_cnt (hN : 300000 ≤ N) (hG : GQ Q) (hGB : GQ QB) (h : CPG A R R' Q QB) (hS : STA A) (hL : CLt A Q) (h5 : zi A 5 1 = L) (h1 : zi A 214 1 = ic) (h3 : zi A 214 3 = ou.length) (h4 : zi A 214 4 = s) (h11 : zi A 4 11 = c1) (h12 : zi A 4 12 = c2) : ∃ B, z_PC_count N x A = some (cntA Q L ic ou s c1 c2 x, B) ∧ CPG B R R' Q QB ∧ CLt B Q ∧ cF sLt A B ∧ (∀ j, j ≠ 9 → zi B 4 j = zi A 4 j) := by
  have same : ∀ v : Int, ∃ B, (some (v, A) : Option (Int × zA)) = some (v, B) ∧ CPG B R R' Q QB ∧ CLt B Q ∧ cF sLt A B ∧ (∀ j, j ≠ 9 → zi B 4 j = zi A 4 j) := fun v => ⟨A, rfl, h, hL, cF.refl _ h.2.2.2.1.1, fun _ _ => rfl⟩
  unfold z_PC_count cntA
  by_cases e0 : x = 0
  · rw [if_pos e0, if_pos e0, h5]; exact same _
  rw [if_neg e0, if_neg e0]
  by_cases e1 : x = 1
  · obtain ⟨r, m2, m3, w, c7, cR, cR', s, sB⟩ := h
    obtain ⟨k1, k2, k3, k4, k5⟩ := r.ok
    obtain ⟨-, x2, -, -, -, -⟩ := rws_fr k1 (show 0 < 4 by decide)
    rw [if_pos e1, if_pos e1, zgr_s m2, zcs_s x2, s.1]
    exact same _
  rw [if_neg e1, if_neg e1]
  by_cases e2 : x = 2
  · obtain ⟨B, b1, b2, b3, b4, b5, b6⟩ := c_letters (N := N) hN hG hGB h hS hL
    rw [if_pos e2, if_pos e2, b1, zbV_s, b3.2.1]
    exact ⟨B, rfl, b2, ⟨b3.1, Or.inr ⟨b4, b3⟩⟩, b5, b6⟩
  rw [if_neg e2, if_neg e2]
  by_cases e3 : x = 3
  · rw [if_pos e3, if_pos e3, h1]; exact same _
  rw [if_neg e3, if_neg e3]
  by_cases e4 : x = 4
  · rw [if_pos e4, if_pos e4, h3]; exact same _
  rw [if_neg e4, if_neg e4]
  by_cases e5 : x = 5
  · rw [if_pos e5, if_pos e5, h4]; exact same _
  rw [if_neg e5, if_neg e5]
  by_cases e6 : x = 6
  · rw [if_pos e6, if_pos e6, h11]; exact same _
  rw [if_neg e6, if_neg e6]
  by_cases e7 : x = 7
  · rw [if_pos e7, if_pos e7, h12]; exact same _
  rw [if_neg e7, if_neg e7]
  exact same _
theorem r_cnt (hN : 300000 ≤ N) (hG : GQ Q) (h0 : RSt A 0 Q) (h6 : zi A 226 6 = Q.1) (h5 : zi A 226 1 = L) (h1 : zi A 226 10 = ic) (h3 : zi A 226 92 = ou.length) (h4 : zi A 226 93 = s) (h11 : zi A 226 7 = c1) (h12 : zi A 226 8 = c2) : ∃ B, z_M_count N x A = some (cntA Q L ic ou s c1 c2 x, B) ∧ fr qCo' A B := by
  have f0 : fr (fun a j => a = 226 ∧ j = 0) A (zsi A 226 0 0) := fr_si ⟨rfl, rfl⟩
  have h0' : RSt (zsi A 226 0 0) 0 Q := h0.fr f0 (fun a j z => by omega)
  obtain ⟨B, b1, b2, b3⟩ := r_build (N := N) hN hG h0' (by rw [f0.i (fun z => by omega)]; exact h6)
  have fB : fr qCo' A B := (f0.mono (fun a j z => Or.inr z)).trans (b3.mono (fun a j z => Or.inl z))
  have g : ∀ j, j ≠ 0 → j ≠ 86 → j ≠ 91 → zi B 226 j = zi A 226 j := fun j a b c => fB.i (fun z => by unfold qCo' qBd at z; omega)
  unfold z_M_count cntA
  rw [zlet_s, b1, zbV_s, g 1 (by decide) (by decide) (by decide), g 6 (by decide) (by decide) (by decide), g 10 (by decide) (by decide) (by decide), g 92 (by decide) (by decide) (by decide), g 93 (by decide) (by decide) (by decide), g 7 (by decide) (by decide) (by decide), g 8 (by decide) (by decide) (by decide), h5, h6, h1, h3, h4, h11, h12, b2.1]
  refine ⟨B, ?_, fB⟩
  repeat' split
  all_goals rfl
end
