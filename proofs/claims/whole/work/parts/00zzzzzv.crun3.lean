/-! RUN of the class: the loop over letters -/
/-- from here the class ends so -/
def LO (N : Nat) (Q : Pr) (inp : Nat → Int) (ic T s : Nat) (m : Ms) (st : List Int) (pc : Nat) (r : Int × Nat × List Int) : Prop := ∀ f A, CMs Q inp ic A m s st pc → T < f + s → ∃ B, z_Mc_start_61_l N f T (-1) s A = some (r.1, B) ∧ zi B 214 4 = r.2.1 ∧ COu B r.2.2 ∧ fr qMc A B
section
variable {N : Nat} {A B : zA} {Q : Pr} {inp : Nat → Int} {ic T s pc : Nat} {m : Ms} {st : List Int} {r : Int × Nat × List Int}
theorem lo_end (hs : s = T) : LO N Q inp ic T s m st pc (3, T, mou m) := fun f A h hf => by
  subst hs
  cases f with
  | zero => omega
  | succ f =>
    show ∃ B, z_Mc_start_61_b (z_Mc_start_61_l N f) N s (-1) s A = _ ∧ _
    unfold z_Mc_start_61_b
    rw [if_neg (by omega), if_pos rfl]
    exact ⟨A, rfl, h.2.2.1, h.1.2.2.2.2.1.1, fr.refl _ _⟩
theorem c_letter (h : CMs Q inp ic A m s st pc) (hpc : pc < (cod Q).length) : z_Cd_letterAt N pc A = some (cdA (cod Q) pc).1 ∧ z_Cd_numberAt N pc A = some (cdA (cod Q) pc).2 := by
  obtain ⟨⟨⟨hO, ⟨⟨d1, d2, d3, d4, d5⟩, d6, d7⟩, -⟩, -⟩, -⟩ := h
  unfold z_Cd_letterAt z_Cd_numberAt
  rw [d6, if_neg (by omega), if_pos (by omega), if_neg (by omega), if_pos (by omega), zgr_d hO d209 (by decide), zgr_d hO d209 (by decide), zrD_d hO d209 (by decide) (by omega) (by omega), zrD_d hO d209 (by decide) (by omega) (by omega), (d7 pc hpc).1, (d7 pc hpc).2]
  exact ⟨rfl, rfl⟩
theorem cms_one (h : CMs Q inp ic A m s st pc) (hs : s < 3000) (hp : pc < 9000) : CMs Q inp ic (zsi (zsi A 214 4 (zi A 214 4 + 1)) 214 13 (zi (zsi A 214 4 (zi A 214 4 + 1)) 214 13 + 1)) m (s + 1) st (pc + 1) ∧ fr qMc A (zsi (zsi A 214 4 (zi A 214 4 + 1)) 214 13 (zi (zsi A 214 4 (zi A 214 4 + 1)) 214 13 + 1)) := by
  obtain ⟨h1, h2, h3, h4⟩ := h
  have f : fr (fun a j => a = 214 ∧ (j = 4 ∨ j = 13)) A (zsi (zsi A 214 4 (zi A 214 4 + 1)) 214 13 (zi (zsi A 214 4 (zi A 214 4 + 1)) 214 13 + 1)) := (fr_si ⟨rfl, Or.inl rfl⟩).trans (fr_si ⟨rfl, Or.inr rfl⟩)
  refine ⟨⟨h1.fr (f.mono (fun a j z => Or.inl ⟨z.1, by omega⟩)), h2.fr f (fun a j z y => by unfold qStk at y; omega), ?_, ?_⟩, f.mono (fun a j z => by unfold qMc; omega)⟩
  · rw [zi_si_j (by decide), zi_si_s, h3, yb_w (by omega) (by omega)]; omega
  · rw [zi_si_s, zi_si_j (by decide), h4, yb_w (by omega) (by omega)]; omega
/-- one letter: plain ones -/
def stp (N : Nat) (a b : Int) (A : zA) : Option (Int × zA) := if a < 3 then z_Mc_step_56 N a b A else if a < 9 then z_Mc_doWork N (a - 3) A else z_Mc_step_56 N a b A
theorem zbI_id {x : Option (Int × zA)} : zbI x (fun v A => some (v, A)) = x := by
  cases x with
  | none => rfl
  | some y => rfl
theorem lo_stp {a b : Int} (hT : T ≤ 2000) (hC : cdA (cod Q) pc = (a, b)) (hpc : pc < (cod Q).length) (hl : (cod Q).length ≤ 2407) (ha : 0 ≤ a ∧ a < 18) (h12 : a = 12 → (mou m).length < 40) (h0 : s = T → r = (3, T, mou m)) (hs : s ≤ T)
    (h : s < T → ∀ A, CMs Q inp ic A m (s + 1) st (pc + 1) → LEn A (stp N a b A) r.1 r.2.1 r.2.2 ∧ r.1 ≠ -1 ∨ ∃ m' st' pc', LGo Q inp ic A (stp N a b A) m' (s + 1) st' pc' ∧ LO N Q inp ic T (s + 1) m' st' pc' r) : LO N Q inp ic T s m st pc r := by
  by_cases e : s = T
  · rw [h0 e]; exact lo_end e
  intro f A hA hf
  have hsT : s < T := by omega
  cases f with
  | zero => omega
  | succ f =>
    obtain ⟨c1, c2⟩ := c_letter (N := N) hA hpc
    rw [hC] at c1 c2
    obtain ⟨g1, g2⟩ := cms_one hA (by omega) (by omega)
    have st17 : z_Mc_step N a b A = stp N a b (zsi (zsi A 214 4 (zi A 214 4 + 1)) 214 13 (zi (zsi A 214 4 (zi A 214 4 + 1)) 214 13 + 1)) := by
      have e17 : z_Mc_step_17 N a b A = stp N a b (zsi (zsi A 214 4 (zi A 214 4 + 1)) 214 13 (zi (zsi A 214 4 (zi A 214 4 + 1)) 214 13 + 1)) := by
        unfold z_Mc_step_17 stp
        rw [zlet_s, zlet_s, zbI_id, yb_w (by omega) (by omega)]
      unfold z_Mc_step
      rw [e17]
      by_cases q : a = 12
      · have := h12 q
        rw [if_pos q, hA.1.2.2.2.2.1.1.1, if_pos (by omega)]
      · rw [if_neg q]
    generalize zsi (zsi A 214 4 (zi A 214 4 + 1)) 214 13 (zi (zsi A 214 4 (zi A 214 4 + 1)) 214 13 + 1) = A1 at *
    show ∃ B, z_Mc_start_61_b (z_Mc_start_61_l N f) N T (-1) s A = _ ∧ _
    unfold z_Mc_start_61_b
    rw [if_pos (by omega), if_pos rfl, hA.2.2.2, c1, zbP_s, c2, zbP_s, st17, yb_w (by omega) (by omega)]
    rcases h hsT A1 g1 with ⟨⟨B, b1, b2, b3, b4⟩, b5⟩ | ⟨m', st', pc', ⟨B, b1, b2, b3⟩, hlo⟩
    · rw [b1, zbI_s]
      cases f with
      | zero => omega
      | succ f =>
        have : z_Mc_start_61_l N (f + 1) T r.1 ((s : Int) + 1) B = some (r.1, B) := by
          show z_Mc_start_61_b (z_Mc_start_61_l N f) N T r.1 ((s : Int) + 1) B = _
          unfold z_Mc_start_61_b
          rw [if_neg b5, if_neg b5]
          split <;> rfl
        rw [this]
        exact ⟨B, rfl, b2, b3, g2.trans b4⟩
    · rw [b1, zbI_s]
      obtain ⟨C, k1, k2, k3, k4⟩ := hlo f B b2 (by omega)
      have k1 : z_Mc_start_61_l N f T (-1) ((s : Int) + 1) B = _ := k1
      rw [k1]
      exact ⟨C, rfl, k2, k3, (g2.trans b3).trans k4⟩
theorem lo_12f {b : Int} (hT : T ≤ 2000) (hC : cdA (cod Q) pc = (12, b)) (hpc : pc < (cod Q).length) (h0 : s = T → r = (3, T, mou m)) (hs : s ≤ T) (ho : (mou m).length = 40) (hr : s < T → r = (4, s, mou m)) : LO N Q inp ic T s m st pc r := by
  by_cases e : s = T
  · rw [h0 e]; exact lo_end e
  intro f A hA hf
  have hsT : s < T := by omega
  cases f with
  | zero => omega
  | succ f =>
    obtain ⟨c1, c2⟩ := c_letter (N := N) hA hpc
    rw [hC] at c1 c2
    show ∃ B, z_Mc_start_61_b (z_Mc_start_61_l N f) N T (-1) s A = _ ∧ _
    unfold z_Mc_start_61_b
    rw [if_pos (by omega), if_pos rfl, hA.2.2.2, c1, zbP_s, c2, zbP_s]
    unfold z_Mc_step
    rw [if_pos rfl, hA.1.2.2.2.2.1.1.1, if_neg (by omega), zbI_s, yb_w (by omega) (by omega), hr hsT]
    cases f with
    | zero => omega
    | succ f =>
      have : z_Mc_start_61_l N (f + 1) T 4 ((s : Int) + 1) A = some (4, A) := by
        show z_Mc_start_61_b (z_Mc_start_61_l N f) N T 4 ((s : Int) + 1) A = _
        unfold z_Mc_start_61_b
        rw [if_neg (show ¬ (4 : Int) = -1 by decide), if_neg (show ¬ (4 : Int) = -1 by decide)]
        split <;> rfl
      rw [this]
      exact ⟨A, rfl, hA.2.2.1, hA.1.2.2.2.2.1.1, fr.refl _ _⟩
end
