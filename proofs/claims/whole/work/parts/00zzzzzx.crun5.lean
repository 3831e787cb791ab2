/-! RUN of the class: from its beginning -/
section
variable {N : Nat} {A B : zA} {Q QB : Pr} {R R' : Nat} {inp : Nat → Int} {ic T : Nat}
theorem c_arun (hN : 300000 ≤ N) (hG : GQ Q) (hT : T ≤ 2000) {r : Int × Nat × List Int} : ∀ (n s : Nat) (m : Ms), MV Q m → M3 m → s ≤ T → arun Q inp ic T n s m = some r → LO N Q inp ic T s m [] (adr Q (mp m) (mk m)) r
  | 0, s, m, _, _, _, h => by cases h
  | n + 1, s, m, hm, h3, hs, h => by
    have h : (if T < s + (isp Q inp ic m).1 then some (3, T, mou m) else if (isp Q inp ic m).2.2.1 = -1 then arun Q inp ic T n (s + (isp Q inp ic m).2.1) (isp Q inp ic m).2.2.2 else some ((isp Q inp ic m).2.2.1, s + (isp Q inp ic m).2.1, mou m)) = some r := h
    refine c_itm hN hG hm h3 hT hs (fun c => ?_) (fun c d => ?_) (fun c d => ?_)
    · rw [if_pos c] at h
      exact (Option.some.inj h).symm
    · rw [if_neg c, if_pos d] at h
      obtain ⟨k1, k2, -⟩ := isp_ok hG hm d
      exact c_arun hN hG hT n _ _ k1 (isp_m3 h3 d) (by omega) h
    · rw [if_neg c, if_neg d] at h
      exact (Option.some.inj h).symm
theorem zfe_m0 {R : Type} {K : Nat → Option R} : zfe 219 0 K = K 220 := rfl
theorem on1_fr {c : Nat} (h : on1 c A B) : fr (fun a _ => a = c) A B := ⟨h.1, h.2.1, fun a j z => ⟨h.2.2.1 a j z, h.2.2.2 a j z⟩⟩
theorem c_start {x : Int} (hN : 300000 ≤ N) (hG : GQ Q) (hx : mayR x) (h : CIo Q inp ic A) : ∃ B, z_Mc_start N x A = some ((runA Q inp ic x).1, B) ∧ zi B 214 4 = (runA Q inp ic x).2.1 ∧ COu B (runA Q inp ic x).2.2 ∧ fr qMc A B := by
  unfold z_Mc_start
  obtain ⟨A1, a1, a2, a3⟩ := Ar_fill (N := N) (v := 0) (x := 217) (m := 8) hN (by decide) (by decide) (by decide) h.1
  have f1 := on1_fr a2
  have h1 := h.fr (f1.mono (Q' := qMc) (fun a j z => by unfold qMc; omega))
  obtain ⟨A2, b1, b2, b3⟩ := Ar_fill (N := N) (v := 0) (x := 218) (m := 6) hN (by decide) (by decide) (by decide) h1.1
  have f2 := on1_fr b2
  have h2 := h1.fr (f2.mono (Q' := qMc) (fun a j z => by unfold qMc; omega))
  obtain ⟨A3, c1, c2, c3⟩ := Ar_fill (N := N) (v := 0) (x := 220) (m := 60) hN (by decide) (by decide) (by decide) h2.1
  have f3 := on1_fr c2
  have h3 := h2.fr (f3.mono (Q' := qMc) (fun a j z => by unfold qMc; omega))
  rw [a1, zbV_s, b1, zbV_s, zfe_m0, c1, zbV_s, zlet_s, zlet_s, zlet_s, zlet_s, zlet_s, zlet_s]
  have z0 : zw 0 = 0 := by decide
  have f4 : fr (fun a j => a = 214 ∧ (j = 3 ∨ j = 4 ∨ j = 5 ∨ j = 10 ∨ j = 12 ∨ j = 13)) A3 (zsi (zsi (zsi (zsi (zsi (zsi A3 214 10 0) 214 12 0) 214 13 0) 214 3 0) 214 4 0) 214 5 0) := (((((fr_si ⟨rfl, by omega⟩).trans (fr_si ⟨rfl, by omega⟩)).trans (fr_si ⟨rfl, by omega⟩)).trans (fr_si ⟨rfl, by omega⟩)).trans (fr_si ⟨rfl, by omega⟩)).trans (fr_si ⟨rfl, by omega⟩)
  have e10 : zi (zsi (zsi (zsi (zsi (zsi (zsi A3 214 10 0) 214 12 0) 214 13 0) 214 3 0) 214 4 0) 214 5 0) 214 10 = 0 := by rw [zi_si_j (by decide), zi_si_j (by decide), zi_si_j (by decide), zi_si_j (by decide), zi_si_j (by decide), zi_si_s, z0]
  have e12 : zi (zsi (zsi (zsi (zsi (zsi (zsi A3 214 10 0) 214 12 0) 214 13 0) 214 3 0) 214 4 0) 214 5 0) 214 12 = 0 := by rw [zi_si_j (by decide), zi_si_j (by decide), zi_si_j (by decide), zi_si_j (by decide), zi_si_s, z0]
  have e13 : zi (zsi (zsi (zsi (zsi (zsi (zsi A3 214 10 0) 214 12 0) 214 13 0) 214 3 0) 214 4 0) 214 5 0) 214 13 = 0 := by rw [zi_si_j (by decide), zi_si_j (by decide), zi_si_j (by decide), zi_si_s, z0]
  have e3 : zi (zsi (zsi (zsi (zsi (zsi (zsi A3 214 10 0) 214 12 0) 214 13 0) 214 3 0) 214 4 0) 214 5 0) 214 3 = 0 := by rw [zi_si_j (by decide), zi_si_j (by decide), zi_si_s, z0]
  have e4 : zi (zsi (zsi (zsi (zsi (zsi (zsi A3 214 10 0) 214 12 0) 214 13 0) 214 3 0) 214 4 0) 214 5 0) 214 4 = 0 := by rw [zi_si_j (by decide), zi_si_s, z0]
  have e5 : zi (zsi (zsi (zsi (zsi (zsi (zsi A3 214 10 0) 214 12 0) 214 13 0) 214 3 0) 214 4 0) 214 5 0) 214 5 = 0 := by rw [zi_si_s, z0]
  generalize zsi (zsi (zsi (zsi (zsi (zsi A3 214 10 0) 214 12 0) 214 13 0) 214 3 0) 214 4 0) 214 5 0 = A4 at *
  have h4 := h3.fr (f4.mono (Q' := qMc) (fun a j z => Or.inl z))
  have hM : CMs Q inp ic A4 m00 0 [] 0 := by
    refine ⟨⟨h4, fun r hr => ?_, fun l r a b c => ?_, fun j hj => ?_, ⟨⟨e3, fun i hi => absurd hi (Nat.not_lt_zero i)⟩, Nat.zero_le _⟩, ?_, ⟨e10, Nat.zero_le _⟩, fun l hl => absurd hl (Nat.not_lt_zero l)⟩, ⟨e12, fun i hi => absurd hi (Nat.not_lt_zero i)⟩, e4, e13⟩
    · rw [f4.e (fun z => by omega), f3.e (fun z => by omega), b3 r hr]; exact z0
    · have a : l ≤ 0 := a
      have : l = 0 := by omega
      subst this
      rw [f4.e (fun z => by omega)]
      have := c3 r c
      rw [show 220 + 0 = 220 from rfl, this]
      exact z0
    · rw [f4.e (fun z => by omega), f3.e (fun z => by omega), f2.e (fun z => by omega), a3 j hj]; exact z0
    · rw [e5]
      show (0 : Int) = ((min 0 ic : Nat) : Int)
      omega
  have hr := run_ex (inp := inp) (ic := ic) hG hx
  unfold mayR at hx
  have m3 : M3 m00 := ⟨fun _ => rfl, fun z => absurd z (Nat.not_lt_zero _)⟩
  have hlo := c_arun (N := N) (inp := inp) (ic := ic) hN hG (T := x.toNat) (by omega) 500000 0 m00 MV_00 m3 (Nat.zero_le _) hr
  obtain ⟨B, k1, k2, k3, k4⟩ := hlo N A4 (by
    have : adr Q (mp m00) (mk m00) = 0 := by unfold adr; rfl
    rw [this]; exact hM) (by omega)
  have k1 : z_Mc_start_61_l N N ((x.toNat : Nat) : Int) (-1) 0 A4 = some ((runA Q inp ic x).1, B) := k1
  rw [show ((x.toNat : Nat) : Int) = x by omega] at k1
  refine ⟨B, k1, k2, k3, ?_⟩
  exact ((((f1.mono (Q' := qMc) (fun a j z => by unfold qMc; omega)).trans (f2.mono (Q' := qMc) (fun a j z => by unfold qMc; omega))).trans (f3.mono (Q' := qMc) (fun a j z => by unfold qMc; omega))).trans (f4.mono (Q' := qMc) (fun a j z => Or.inl z))).trans k4
def sRu : List Nat := sLt ++ mcls
theorem sRu_n {a : Nat} (h : (a < 209 ∧ a ≠ 4) ∨ 225 < a) : sRu.contains a = false := nc_of (fun q => by
  unfold sRu at q
  rw [List.contains_iff_mem, List.mem_append] at q
  rcases q with q | q
  · unfold sLt at q
    rw [List.mem_cons] at q
    rcases q with q | q
    · omega
    · have := sMo_n (a := a) (by omega)
      rw [← List.contains_iff_mem, this] at q
      cases q
  · have := mcls_mem.mp (List.contains_iff_mem.mpr q)
    omega)
/-- run in the class -/
theorem c_run {x : Int} (hN : 300000 ≤ N) (hG : GQ Q) (hGB : GQ QB) (h : CPG A R R' Q QB) (hS : STA A) (hL : CLt A Q) (hi : zi A 214 1 = ic ∧ ic ≤ 20 ∧ ∀ i : Nat, i < ic → ri A 215 i = inp i) : (¬ mayR x → z_PC_run N x A = some (.inr 0, znw A (false, 100, 0))) ∧ (mayR x → ∃ B, z_PC_run N x A = some (.inl (runA Q inp ic x).1, B) ∧ CPG B R R' Q QB ∧ CLt B Q ∧ zi B 214 4 = (runA Q inp ic x).2.1 ∧ COu B (runA Q inp ic x).2.2 ∧ zi B 214 1 = ic ∧ (∀ i : Nat, i < ic → ri B 215 i = inp i) ∧ cF sRu A B ∧ (∀ j, j ≠ 9 → zi B 4 j = zi A 4 j)) := by
  refine ⟨fun hx => ?_, fun hx => ?_⟩
  · unfold z_PC_run
    unfold mayR at hx
    by_cases c : x < 1
    · rw [if_pos c]
    · rw [if_neg c, if_pos (by omega)]
  · obtain ⟨B, b1, b2, b3, b4, b5, b6⟩ := c_letters (N := N) hN hG hGB h hS hL
    have n14 : sLt.contains 214 = false := by decide
    have n15 : sLt.contains 215 = false := by decide
    have hB : CIo Q inp ic B := ⟨b5.own, b3, by rw [b5.i (by decide) n14]; exact hi.1, hi.2.1, fun i z => by rw [b5.e (by decide) n15]; exact hi.2.2 i z⟩
    obtain ⟨C, c1, c2, c3, c4⟩ := c_start (N := N) hN hG hx hB
    have fC := frc_cF c4 (fun a j z => by unfold qMc at z; omega) hB.1
    have hC := hB.fr c4
    unfold z_PC_run
    unfold mayR at hx
    rw [if_neg (by omega), if_neg (by omega), b1, zbV_s, c1, zbI_s]
    refine ⟨C, rfl, b2.cf hG.1 hGB.1 fC (mcls_n (by omega)) (fun a a1 a2 => mcls_n (by omega)) (mcls_n (by omega)) (mcls_n (by omega)) (mcls_n (by omega)), ⟨hC.2.1.1, Or.inr ⟨by rw [fC.i (by decide) (mcls_n (by omega))]; exact b4, hC.2.1⟩⟩, c2, c3, hC.2.2.1, hC.2.2.2.2, (b5.mono (fun a q => ?_)).trans (fC.mono (fun a q => ?_)), fun j hj => by rw [fC.i (by decide) (mcls_n (by omega))]; exact b6 j hj⟩
    · unfold sRu
      rw [List.contains_iff_mem] at q ⊢
      exact List.mem_append_left _ q
    · unfold sRu
      rw [List.contains_iff_mem] at q ⊢
      exact List.mem_append_right _ q
end
