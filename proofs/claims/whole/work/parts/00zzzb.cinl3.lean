section
variable {N : Nat} {A : zA} {R R' p : Nat} {Q Qn QB : Pr}
theorem c_inline (hN : 300000 ≤ N) (hG : GQ Q) (hGn : GQ Qn) (hp : exP Q p) (h : CPG A R R' Qn QB) (hs : CSt A R' Q (mtC Q)) (hS : STA A) (hT : Qn.1 = Q.1) (h1 : Qn.2.1 p = Q.2.1 p) (h2 : Qn.2.2 p = Q.2.2 p) : ∃ B, z_Mv_inline N (R + 2 + 3 * p) (R' + 2 + 3 * p) R' A = some (((inS Q (Q.2.1 p) (Q.2.2 p) (Q.2.1 p).length).2.2 : Int), B) ∧ CSt B R' (inlQ Q p) (mtC (inlQ Q p)) ∧ CPI B R' ∧ cF [R' + 2 + 3 * p] A B := by
  obtain ⟨r, m2, m3, w, c7, cR, cR', s, sB⟩ := h
  obtain ⟨k1, k2, k3, k4, k5⟩ := r.ok
  have hp3 := exP3 hG.1 hp
  have hpn : exP Qn p := by unfold exP at *; omega
  obtain ⟨-, -, -, -, -, r6⟩ := rws_fr k1 (show p < 4 by omega)
  obtain ⟨-, -, -, -, -, r6'⟩ := rws_fr k2 (show p < 4 by omega)
  obtain ⟨g7, g60, gl, gok⟩ := hG.1.2 p hp
  have hX : CP A (R + 2 + 3 * p) (Q.2.1 p) (Q.2.2 p) := by rw [← h1, ← h2]; exact s.cp hpn
  have out : ∀ a, a ≠ R' + 2 + 3 * p → ([R' + 2 + 3 * p] : List Nat).contains a = false := fun a ha => cont2 ha
  obtain ⟨B1, b1, b2, b3⟩ := CP_clear (N := N) (g := Q.2.2 p) w.1 r6' (cR' p (by omega)) (by omega)
  have hS1 := hS.fr b3 (out _ (by omega)) (out _ (by unfold okR at k2; omega)) (out _ (by unfold okR at k2; omega))
  obtain ⟨C, c1, c2, c3, c4⟩ := c_inl_run (N := N) (A := A) hN hG hp k1 k2 k3 (Q.2.1 p).length 0 N B1 (by omega) (by omega) b3.own hS1 b3 (hX.fr r6 b3 (out _ (by omega))) (fun q q1 q2 => by
    obtain ⟨-, -, -, -, -, u6⟩ := rws_fr k2 (show q < 4 by have := hG.1.1; omega)
    exact (hs.cp (Or.inl q1)).fr u6 b3 (out _ (by omega))) b2
  have hG' := inl_ok hG hp
  obtain ⟨h3a, h3b, h3c, h3d⟩ := inS_inv (Q := Q) (p := p) (g := Q.2.2 p) (X := Q.2.1 p) hG hp3 gok g7 g60 _ (Nat.le_refl _)
  have hbal : bal (wnC Q).1 (lvl (wnC Q).1 p) (inS Q (Q.2.1 p) (Q.2.2 p) (Q.2.1 p).length).1 := by
    have := (h3d _ _ hG.n).1
    rw [List.take_length] at this
    exact bal_rep _ _ (hG.n.2.1 p hp) _ this
  obtain ⟨D, d1, d2, d3, mt, d4, d5⟩ := CP_link (N := N) hN c2 r6' c4 hbal
  have hz : zi A (R + 2 + 3 * p) 3 = Q.2.2 p := hX.2.2.1
  unfold z_Mv_inline z_Mv_inline_14
  rw [hz, b1, zbV_s]
  rw [show ((0 : Nat) : Int) = 0 from rfl] at c1
  have e0 : ((inS Q (Q.2.1 p) (Q.2.2 p) 0).2.2 : Int) = 0 := rfl
  rw [e0] at c1
  rw [c1]
  unfold z_Mv_inline_105
  rw [d1, zbV_s]
  have fD := c3.trans d3
  refine ⟨D, rfl, CSt.put hG hG' k2 hp hs fD (fun a a1 a2 a3 => out a a3) d2 d4 d5, fun q hq => ?_, fD⟩
  by_cases e : q = p
  · rw [e]; exact d2.1
  · obtain ⟨-, -, -, -, -, u6⟩ := rws_fr k2 hq
    exact (cR' q hq).fr u6 fD (out _ (by omega))
end
/-! INLINE of the reference -/
section
variable {N : Nat} {A : zA} {X W : List It} {g h : Nat}
/-- the numbers that are read, shifted -/
theorem r_shift_run {b : Int} {i : It} {u v : Nat} {T q : Nat} (hi : okI T q h i) (h60 : h ≤ 60) (hb0 : 0 ≤ b) (hb : b ≤ 60) (hu : u + 5 ≤ 14400) (hv : v + 5 ≤ 14400) (huv : u + 5 ≤ v ∨ v + 5 ≤ u) : ∀ (r n f : Nat) (B : zA), n + r = 2 → r < f → (∀ m : Nat, m < nbk i.1 → ri B 228 (u + (m + 1)) = ig i (m + 1)) → (∀ m : Nat, m < nbk i.1 → ri B 228 (v + (m + 1)) = if (m : Int) < frk i.1 + n ∧ (m : Int) < frk i.1 + rdk i.1 then sfn b i m else ig i (m + 1)) → ∃ C, z_M_shifted_111_l N f b u v i.1 n B = some C ∧ fr (fun a j => a = 228 ∧ v + 1 ≤ j ∧ j < v + 5) B C ∧ (∀ m : Nat, m < nbk i.1 → ri C 228 (v + (m + 1)) = if (m : Int) < frk i.1 + rdk i.1 then sfn b i m else ig i (m + 1)) := by
  obtain ⟨o1, o2, o3, o4, o5⟩ := hi
  have hvk := nbk_v o1 o2
  have rd2 : 0 ≤ rdk i.1 ∧ rdk i.1 ≤ 2 := by unfold rdk; repeat' split <;> omega
  intro r
  induction r with
  | zero =>
    intro n f B h1 h2 hU hV
    obtain ⟨y, rfl⟩ : ∃ y, f = y + 1 := ⟨f - 1, by omega⟩
    refine ⟨B, ?_, fr.refl _ _, fun m hm => ?_⟩
    · show z_M_shifted_111_b (z_M_shifted_111_l N y) N b u v i.1 n B = _
      unfold z_M_shifted_111_b
      rw [if_neg (by omega)]
    · rw [hV m hm]
      by_cases c : (m : Int) < frk i.1 + rdk i.1
      · rw [if_pos ⟨by omega, c⟩, if_pos c]
      · rw [if_neg (fun z => c z.2), if_neg c]
  | succ r ih =>
    intro n f B h1 h2 hU hV
    obtain ⟨y, rfl⟩ : ∃ y, f = y + 1 := ⟨f - 1, by omega⟩
    have w1 : zw ((n : Int) + 1) = ((n + 1 : Nat) : Int) := by rw [yb_w (by omega) (by omega)]; omega
    have hra := r_readAt (N := N) (A := B) (k := i.1) (n := (n : Int)) (by omega) (by omega)
    have st : z_M_shifted_111_l N (y + 1) b u v i.1 n B = z_M_shifted_111_b (z_M_shifted_111_l N y) N b u v i.1 n B := rfl
    unfold z_M_shifted_111_b at st
    rw [if_pos (by omega), hra, zbP_s, w1] at st
    by_cases c : (n : Int) < rdk i.1
    · -- it reads there
      have hrd : rda i.1 n = frk i.1 + n + 1 := by
        unfold rda frk
        unfold rdk at c
        repeat' split at c
        all_goals repeat' split
        all_goals omega
      have fr1 : 0 ≤ frk i.1 ∧ frk i.1 ≤ 1 := by unfold frk; split <;> omega
      obtain ⟨wh, hwh⟩ : ∃ wh : Nat, frk i.1 + (n : Int) = wh := ⟨(frk i.1 + n).toNat, by omega⟩
      have hwn : wh < nbk i.1 ∧ isr i.1 wh := by
        unfold isr
        unfold rdk at c
        unfold frk at hwh
        repeat' split at c
        all_goals repeat' split at hwh
        all_goals omega
      have hb4 := nbk_le i.1
      have hsf : sfn b i wh = if ig i (wh + 1) < 6 then ig i (wh + 1) else ig i (wh + 1) + b := by
        unfold sfn
        have hr := hwn.2
        unfold isr at hr
        by_cases d : ig i (wh + 1) < 6
        · rw [if_neg (by omega), if_pos d]
        · rw [if_pos ⟨hr.1, hr.2.1, hr.2.2, by omega⟩, if_neg d]
      have hrg := (o3 wh hwn.1).2.2 hwn.2
      rw [if_pos (by omega), hrd, show frk i.1 + (n : Int) + 1 = (wh : Int) + 1 by omega, zrd_ok (by omega) (by omega), hU wh hwn.1] at st
      have hvw : ri B 228 (v + ((wh : Int) + 1)) = ig i (wh + 1) := by rw [hV wh hwn.1, if_neg (by omega)]
      by_cases d : ig i (wh + 1) < 6
      · rw [if_pos d] at st
        obtain ⟨C, c1, c2, c3⟩ := ih (n + 1) y B (by omega) (by omega) hU (fun m hm => by
          rw [hV m hm]
          by_cases z : m = wh
          · rw [z, if_neg (by omega), if_pos ⟨by omega, by omega⟩, hsf, if_pos d]
          · by_cases y1 : (m : Int) < frk i.1 + n ∧ (m : Int) < frk i.1 + rdk i.1
            · rw [if_pos y1, if_pos ⟨by omega, y1.2⟩]
            · rw [if_neg y1, if_neg (by omega)])
        exact ⟨C, by rw [st, c1], c2, c3⟩
      · rw [if_neg d, zrd_ok (by omega) (by omega), hvw, zwr_ok (by omega) (by omega)] at st
        have f1 : fr (fun a j => a = 228 ∧ j = v + (wh + 1)) B (rs B 228 (v + ((wh : Int) + 1)) (ig i (wh + 1) + b)) := fr_rs ⟨rfl, by omega⟩
        have v1 : ri (rs B 228 (v + ((wh : Int) + 1)) (ig i (wh + 1) + b)) 228 (v + ((wh : Int) + 1)) = ig i (wh + 1) + b := by rw [ri_rs_s, yb_w (by omega) (by omega)]
        generalize rs B 228 (v + ((wh : Int) + 1)) (ig i (wh + 1) + b) = B1 at *
        obtain ⟨C, c1, c2, c3⟩ := ih (n + 1) y B1 (by omega) (by omega) (fun m hm => by rw [f1.e (fun z => by omega)]; exact hU m hm) (fun m hm => by
          by_cases z : m = wh
          · rw [z, v1, if_pos ⟨by omega, by omega⟩, hsf, if_neg d]
          · rw [f1.e (fun z => by omega), hV m hm]
            by_cases y1 : (m : Int) < frk i.1 + n ∧ (m : Int) < frk i.1 + rdk i.1
            · rw [if_pos y1, if_pos ⟨by omega, y1.2⟩]
            · rw [if_neg y1, if_neg (by omega)])
        exact ⟨C, by rw [st, c1], (f1.mono (fun a j z => ⟨z.1, by omega, by omega⟩)).trans c2, c3⟩
    · have hrd : rda i.1 n = 0 := by
        unfold rda
        unfold rdk at c
        repeat' split at c
        all_goals repeat' split
        all_goals omega
      rw [hrd, if_neg (by decide)] at st
      obtain ⟨C, c1, c2, c3⟩ := ih (n + 1) y B (by omega) (by omega) hU (fun m hm => by
        rw [hV m hm]
        by_cases y1 : (m : Int) < frk i.1 + n ∧ (m : Int) < frk i.1 + rdk i.1
        · rw [if_pos y1, if_pos ⟨by omega, y1.2⟩]
        · rw [if_neg y1, if_neg (by omega)])
      exact ⟨C, by rw [st, c1], c2, c3⟩
end
