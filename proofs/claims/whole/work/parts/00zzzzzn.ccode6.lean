/-! code of the class -/
def CLt (A : zA) (Q : Pr) : Prop := CDI A ∧ (zi A 4 9 = 0 ∨ (zi A 4 9 = 1 ∧ CCd A (cod Q)))
section
variable {N : Nat} {A B : zA} {R R' : Nat} {Q QB : Pr} {x1 x2 : Int}
theorem cqp_of (hG : GQ Q) (hR : okR R) (hO : Own A) (hS : STA A) (h : CSt A R Q (mtC Q)) : CQp Q R A := ⟨hO, hS, h.1, fun p hp => ⟨h.cp hp, fun k hk k8 => by
  obtain ⟨a1, a2, a3, a4, a5⟩ := h.2 p hp
  have e := (a5 k hk).2.2 k8
  have e : yv A (R + 2 + 3 * p) 1 k = mtC Q p k := e
  rw [e, ← mtC_eq hG hp (fun k _ => rfl) (Bl_L (hG.n.2.1 p hp)) k hk k8]⟩⟩
theorem CPG.s4 {j : Nat} {v : Int} (hG : GQ Q) (hGB : GQ QB) (h : CPG A R R' Q QB) : CPG (zsi A 4 j v) R R' Q QB := by
  obtain ⟨r, m2, m3, w, c7, cR, cR', s, sB⟩ := h
  obtain ⟨k1, k2, k3, k4, k5⟩ := r.ok
  have f : cF [4] A (zsi A 4 j v) := cF_si w.1 (by decide) (by decide) (by decide)
  have n7 : ∀ Y, okR Y → ∀ a, Y ≤ a → a ≤ Y + 13 → ([4] : List Nat).contains a = false := fun Y hY a a1 a2 => cont2 (by unfold okR at hY; omega)
  exact ⟨r, m2, m3, w.fr f (by decide) (by decide) (by decide), c7.fr (Or.inl rfl) f (n7 7 (Or.inl rfl)), cR.fr k1 f (n7 R k1), cR'.fr k2 f (n7 R' k2), s.fr hG.1 k1 f (n7 R k1), sB.fr hGB.1 (Or.inl rfl) f (n7 7 (Or.inl rfl))⟩
theorem sMo_n {a : Nat} (h : a < 209 ∨ 213 < a) : sMo.contains a = false := nc_of (fun q => by
  unfold sMo at q
  simp at q
  omega)
def sLt : List Nat := 4 :: sMo
theorem c_letters (hN : 300000 ≤ N) (hG : GQ Q) (hGB : GQ QB) (h : CPG A R R' Q QB) (hS : STA A) (hL : CLt A Q) : ∃ B, z_PC_makeLetters N A = some B ∧ CPG B R R' Q QB ∧ CCd B (cod Q) ∧ zi B 4 9 = 1 ∧ cF sLt A B ∧ (∀ j, j ≠ 9 → zi B 4 j = zi A 4 j) := by
  obtain ⟨hD, hL⟩ := hL
  unfold z_PC_makeLetters
  rcases hL with h9 | ⟨h9, hC⟩
  · rw [if_pos h9]
    have h0 := h
    obtain ⟨r, m2, m3, w, c7, cR, cR', s, sB⟩ := h
    obtain ⟨k1, k2, k3, k4, k5⟩ := r.ok
    obtain ⟨-, x2, -, -, -, -⟩ := rws_fr k1 (show 0 < 4 by decide)
    rw [zgr_s m2, zcs_s x2]
    obtain ⟨B, b1, b2, b3⟩ := c_makeOf (N := N) hN hG k1 (cqp_of hG k1 w.1 hS s) hD
    rw [b1, zbV_s, zlet_s]
    have hB := h0.cf hG.1 hGB.1 b3 (sMo_n (by omega)) (fun a a1 a2 => sMo_n (by omega)) (sMo_n (by omega)) (sMo_n (by omega)) (sMo_n (by omega))
    have f4 : cF [4] B (zsi B 4 9 1) := cF_si b3.own (by decide) (by decide) (by decide)
    refine ⟨_, rfl, hB.s4 hG hGB, b2.fr f4 (by decide), by rw [zi_si_s]; decide, (b3.mono (fun a q => ?_)).trans (f4.mono (fun a q => ?_)), fun j hj => by rw [zi_si_j hj, b3.i (by decide) (sMo_n (by omega))]⟩
    · unfold sLt
      rw [List.contains_iff_mem] at q ⊢
      exact List.mem_cons_of_mem _ q
    · rw [List.contains_iff_mem, List.mem_singleton] at q
      rw [q]; decide
  · rw [if_neg (by omega)]
    exact ⟨A, rfl, h, hC, h9, cF.refl _ h.2.2.2.1.1, fun _ _ => rfl⟩
theorem c_code (hN : 300000 ≤ N) (hG : GQ Q) (hGB : GQ QB) (h : CPG A R R' Q QB) (hS : STA A) (hL : CLt A Q) : ∃ B, CPG B R R' Q QB ∧ CCd B (cod Q) ∧ zi B 4 9 = 1 ∧ cF sLt A B ∧ (∀ j, j ≠ 9 → zi B 4 j = zi A 4 j) ∧ (¬ mayC Q x1 x2 → z_PC_code N x1 x2 A = some (.inr 2, znw B (false, 102, 0))) ∧ (mayC Q x1 x2 → z_PC_code N x1 x2 A = some (.inl (codA Q x1 x2), B)) := by
  obtain ⟨B, b1, b2, b3, b4, b5, b6⟩ := c_letters (N := N) hN hG hGB h hS hL
  refine ⟨B, b2, b3, b4, b5, b6, ?_⟩
  have hO := b5.own
  obtain ⟨⟨d1, d2, d3, d4, d5⟩, d6, d7⟩ := b3
  unfold z_PC_code
  rw [b1, zbV_s, d6]
  by_cases c1 : x1 < 0
  · rw [if_pos c1]
    exact ⟨fun _ => rfl, fun z => absurd z.1 (by omega)⟩
  rw [if_neg c1]
  by_cases c2 : x1 < ((cod Q).length : Int)
  · rw [if_pos c2]
    by_cases c3 : x2 < 0
    · rw [if_pos c3]
      exact ⟨fun _ => rfl, fun z => absurd z.2.2.1 (by omega)⟩
    rw [if_neg c3]
    by_cases c4 : 1 < x2
    · rw [if_pos c4]
      exact ⟨fun _ => rfl, fun z => absurd z.2.2.2 (by omega)⟩
    rw [if_neg c4]
    have rd := d7 x1.toNat (by omega)
    rw [show ((x1.toNat : Nat) : Int) = x1 by omega] at rd
    refine ⟨fun z => absurd (show mayC Q x1 x2 from ⟨by omega, c2, by omega, by omega⟩) z, fun _ => ?_⟩
    unfold codA
    by_cases c5 : x2 = 0
    · rw [if_pos c5, if_pos c5]
      unfold z_Cd_letterAt
      rw [if_neg c1, d6, if_pos c2, zgr_d hO d209 (by decide), zrD_d hO d209 (by decide) (by omega) (by omega), rd.1, zbP_s]
    · rw [if_neg c5, if_neg c5]
      unfold z_Cd_numberAt
      rw [if_neg c1, d6, if_pos c2, zgr_d hO d209 (by decide), zrD_d hO d209 (by decide) (by omega) (by omega), rd.2, zbP_s]
  · rw [if_neg c2]
    exact ⟨fun _ => rfl, fun z => absurd z.2.1 c2⟩
end
