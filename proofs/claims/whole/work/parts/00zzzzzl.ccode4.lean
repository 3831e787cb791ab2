/-! CODE of the class: turns; the whole -/
section
variable {N : Nat} {A B : zA} {l0 : List (Int × Int)} {o g k R p : Nat} {Q : Pr}
theorem s1_9 : ∀ a, ([209] : List Nat).contains a = true → ([209, 212] : List Nat).contains a = true := fun a h => by
  simp at h ⊢
  exact Or.inl h
theorem s2_9 : ∀ a, ([212] : List Nat).contains a = true → ([209, 212] : List Nat).contains a = true := fun a h => by
  simp at h ⊢
  exact Or.inr h
/-- a step of items -/
def CSp (Q : Pr) (p : Nat) (l0 : List (Int × Int)) (A : zA) (k : Nat) : Prop := CCd A (l0 ++ rkC Q p k k) ∧ AW Q p A k
theorem aw_keep {k : Nat} (h : AW Q p A k) (he : ∀ j : Nat, ri B 212 j = ri A 212 j) : AW Q p B k := ⟨fun j h1 h2 h3 => by rw [he]; exact h.1 j h1 h2 h3, fun j h1 h2 h3 => by rw [he]; exact h.2 j h1 h2 h3⟩
/-- k neither waits nor is waited for by letters -/
theorem aw_next {k : Nat} (h : AW Q p A k) (hk : ¬ pnd (Q.2.1 p) k) (h10 : (itm (Q.2.1 p) k).1 ≠ 10) : AW Q p A (k + 1) := ⟨fun j h1 h2 h3 => by
  have : j ≠ k := fun e => hk (e ▸ h2)
  exact h.1 j (by omega) h2 (by omega), fun j h1 h2 h3 => by
  have : j ≠ k := fun e => h10 (e ▸ h2)
  exact h.2 j (by omega) h2 (by omega)⟩
/-- k waits at its mate -/
theorem aw_wait (hG : GQ Q) (hp : exP Q p) {k : Nat} {v : Int} (h : AW Q p A k) (hkl : k < (Q.2.1 p).length) (hk : pnd (Q.2.1 p) k) (hv : v = ((adr Q p k + psh (Q.2.1 p) k : Nat) : Int)) (he : ∀ j : Nat, ri B 212 j = if j = mtL (Q.2.1 p) k then v else ri A 212 j) : AW Q p B (k + 1) := by
  have hm := pnd_mt hG hp hkl hk
  refine ⟨fun j h1 h2 h3 => ?_, fun j h1 h2 h3 => ?_⟩
  · rw [he]
    by_cases e : j = k
    · rw [if_pos (by rw [e]), e]
      exact hv
    · rw [if_neg (fun z => e (pnd_inj hG hp (by omega) hkl h2 hk z))]
      exact h.1 j (by omega) h2 (by omega)
  · have e : j ≠ k := fun z => by
      rw [z] at h2
      unfold pnd at hk
      omega
    rw [he, if_neg (by omega)]
    exact h.2 j (by omega) h2 (by omega)
theorem rk_nx (hG : GQ Q) (hp : exP Q p) {k : Nat} (hkl : k < (Q.2.1 p).length) (h9 : (itm (Q.2.1 p) k).1 ≠ 9) (h12 : (itm (Q.2.1 p) k).1 ≠ 12) : rkC Q p (k + 1) (k + 1) = rkC Q p k k ++ itK Q p (k + 1) k := by
  show rkC Q p (k + 1) k ++ itK Q p (k + 1) k = _
  rw [rkC_same k (fun j hj q => by
    have := (pnd_mt hG hp (show j < _ by omega) q.1).2.2.2
    rw [q.2] at this
    omega)]
/-- with what was awaited led -/
theorem rk_ld (hG : GQ Q) (hp : exP Q p) {k : Nat} (hkl : k < (Q.2.1 p).length) (hk : (itm (Q.2.1 p) k).1 = 9 ∨ (itm (Q.2.1 p) k).1 = 12) : pnd (Q.2.1 p) (mtL (Q.2.1 p) (mtL (Q.2.1 p) k)) ∧ mtL (Q.2.1 p) (mtL (Q.2.1 p) k) < k ∧ mtL (Q.2.1 p) (mtL (Q.2.1 p) (mtL (Q.2.1 p) k)) = k ∧ ((itm (Q.2.1 p) (mtL (Q.2.1 p) (mtL (Q.2.1 p) k))).1 = 9 ↔ (itm (Q.2.1 p) k).1 = 12 ∧ (itm (Q.2.1 p) (mtL (Q.2.1 p) k)).1 = 8) ∧ rkC Q p (k + 1) (k + 1) = sn (rkC Q p k k) (adk (Q.2.1 p) (mtL (Q.2.1 p) (mtL (Q.2.1 p) k)) + psh (Q.2.1 p) (mtL (Q.2.1 p) (mtL (Q.2.1 p) k))) (if (itm (Q.2.1 p) (mtL (Q.2.1 p) (mtL (Q.2.1 p) k))).1 = 9 then (adr Q p k : Int) else (adr Q p k : Int) + 1) ++ itK Q p (k + 1) k := by
  have pt := mt_pt (hG.n.2.1 p hp) hkl
  have facts : pnd (Q.2.1 p) (mtL (Q.2.1 p) (mtL (Q.2.1 p) k)) ∧ mtL (Q.2.1 p) (mtL (Q.2.1 p) k) < k ∧ mtL (Q.2.1 p) (mtL (Q.2.1 p) (mtL (Q.2.1 p) k)) = k ∧ ((itm (Q.2.1 p) (mtL (Q.2.1 p) (mtL (Q.2.1 p) k))).1 = 9 ↔ (itm (Q.2.1 p) k).1 = 12 ∧ (itm (Q.2.1 p) (mtL (Q.2.1 p) k)).1 = 8) := by
    unfold pnd
    rcases hk with hk | hk
    · have t := pt.2.1 hk
      have t5 : (itm (Q.2.1 p) (mtL (Q.2.1 p) (mtL (Q.2.1 p) k))).1 = 8 := t.2.2.2.2.1
      refine ⟨Or.inl t5, t.2.1, t.2.2.2.2.2.2, fun z => by omega, fun z => by omega⟩
    · have t := pt.2.2.2.2 hk
      rcases t.2.2.2.1 with ⟨a1, a2⟩ | ⟨a1, a2⟩
      · have a1 : (itm (Q.2.1 p) (mtL (Q.2.1 p) k)).1 = 8 := a1
        have a2 : (itm (Q.2.1 p) (mtL (Q.2.1 p) (mtL (Q.2.1 p) k))).1 = 9 := a2
        exact ⟨Or.inr (Or.inl a2), t.2.2.1, t.2.2.2.2, fun _ => ⟨hk, a1⟩, fun _ => a2⟩
      · have a1 : (itm (Q.2.1 p) (mtL (Q.2.1 p) k)).1 = 10 := a1
        have a2 : (itm (Q.2.1 p) (mtL (Q.2.1 p) (mtL (Q.2.1 p) k))).1 = 11 := a2
        exact ⟨Or.inr (Or.inr a2), t.2.2.1, t.2.2.2.2, fun z => by omega, fun z => by omega⟩
  obtain ⟨f1, f2, f3, f4⟩ := facts
  refine ⟨f1, f2, f3, f4, ?_⟩
  show rkC Q p (k + 1) k ++ itK Q p (k + 1) k = _
  rw [rkC_set hG.1 hp f1 f3 (fun i h1 h2 h3 => pnd_inj hG hp h3 (by omega) h1 f1 (by rw [h2, f3])) k f2 (by omega)]
theorem c_step (hN : 300000 ≤ N) (hG : GQ Q) (hp : exP Q p) (hO : Own A) (ho : pto.contains o = true) (hS : STA A) (hx : CP A o (Q.2.1 p) (Q.2.2 p)) (hm : CM A o (Q.2.1 p)) (hk : k < (Q.2.1 p).length) (h0 : l0.length = adr Q p 0) (h : CSp Q p l0 A k) : ∃ B, (if (itm (Q.2.1 p) k).1 < 8 then z_Cd_addPlain N o k A else z_Cd_addTurn N o k A) = some B ∧ CSp Q p l0 B (k + 1) ∧ cF [209, 212] A B := by
  obtain ⟨hC, hW⟩ := h
  obtain ⟨q1, q2, q3, q4⟩ := hG.1.2 p hp
  obtain ⟨o1, o2, o3, o4, o5⟩ := q4 _ (itm_mem hk)
  have pt := mt_pt (hG.n.2.1 p hp) hk
  have ne := pto_nq ho
  have hrl := rkC_len hG.1 hp k k (by omega)
  have had := adr_le hG.1 hp (show k ≤ 150 by omega)
  have eadr : ∀ j, adr Q p j = l0.length + adk (Q.2.1 p) j := fun j => by rw [h0]; unfold adr; show _ = _ + 0 + _; omega
  have hlen : (l0 ++ rkC Q p k k).length = adr Q p k := by rw [List.length_append, hrl, eadr]
  have hadk : adr Q p k + 4 ≤ 2407 ∨ adr Q p k + nlk (Q.2.1 p) k ≤ 2406 := by
    have := adr_le hG.1 hp (show k + 1 ≤ 150 by omega)
    rw [adr_s] at this
    exact Or.inr this
  have nxt : adr Q p k + nlk (Q.2.1 p) k ≤ 2406 := by
    have := adr_le hG.1 hp (show k + 1 ≤ 150 by omega)
    rw [adr_s] at this
    exact this
  by_cases c8 : (itm (Q.2.1 p) k).1 < 8
  · rw [if_pos c8]
    have := adr_le hG.1 hp (show k + 1 ≤ 150 by omega)
    -- room for four letters
    have room : (l0 ++ rkC Q p k k).length + 4 ≤ 2407 := by
      rw [hlen, eadr]
      have h3 := hG.1.1
      have ha := adk_le (Q.2.1 p) k
      rw [h0]
      unfold adr
      by_cases e3 : p = 3
      · rw [if_pos e3]
        show 0 + 0 + adk (Q.2.1 p) k + 4 ≤ 2407
        omega
      · rw [if_neg e3]
        have := ofP_le hG.1 p (by unfold exP at hp; omega)
        show ofP Q p + 1 + 0 + adk (Q.2.1 p) k + 4 ≤ 2407
        have : p < Q.1 := by unfold exP at hp; omega
        omega
    obtain ⟨B, b1, b2, b3⟩ := c_addPlain (N := N) hN hG hp hO ho hS hx hk (by omega) hC room (k + 1)
    refine ⟨B, b1, ⟨?_, aw_next (aw_keep hW (fun j => b3.e (by decide) (by decide))) (fun z => by unfold pnd at z; omega) (by omega)⟩, b3.mono s1_9⟩
    rw [rk_nx hG hp hk (by omega) (by omega), ← List.append_assoc]
    exact b2
  rw [if_neg c8]
  unfold z_Cd_addTurn
  have hmt : z_Pt_mate N o k A = some (mtL (Q.2.1 p) k : Int) := by rw [cp_mate hO ho hx hk, hm k hk (by omega)]
  rw [hmt, zbP_s, cp_kind hO ho hx hk, zbP_s]
  have fr9 : ∀ {S : List Nat} {D : zA}, cF S A D → S.contains o = false → CP D o (Q.2.1 p) (Q.2.2 p) := fun f hs => hx.fr ho f hs
  have n0 : 1 ≤ nbk (itm (Q.2.1 p) k).1 → z_Pt_number N o k 0 A = some (ig (itm (Q.2.1 p) k) 1) := fun z => cp_num (i := 0) hO ho hx hk z
  have w0 : 1 ≤ nbk (itm (Q.2.1 p) k).1 → zw (ig (itm (Q.2.1 p) k) 1) = ig (itm (Q.2.1 p) k) 1 := fun z => yb_w (o3 0 z).1 (o3 0 z).2.1
  -- a turn that asks: its number waits
  have ask : (itm (Q.2.1 p) k).1 = 8 ∨ (itm (Q.2.1 p) k).1 = 11 → ∃ B, (zbP (z_Pt_number N o k 0 A) fun v3 => zbV (z_Cd_add N 1 v3 A) fun A4 => zbV (z_Cd_await N (mtL (Q.2.1 p) k : Int) A4) fun A5 => zbV (z_Cd_add N 13 0 A5) fun A6 => some A6) = some B ∧ CSp Q p l0 B (k + 1) ∧ cF [209, 212] A B := fun c => by
    have hnb : 1 ≤ nbk (itm (Q.2.1 p) k).1 := by rcases c with c | c <;> rw [c] <;> decide
    have hnl : nlk (Q.2.1 p) k = 2 := by
      unfold nlk
      rw [if_neg (by omega), if_neg (by omega), if_neg (by omega), if_neg (by omega), if_neg (by omega)]
    have hpk : pnd (Q.2.1 p) k := by unfold pnd; omega
    have hpm := pnd_mt hG hp hk hpk
    rw [n0 hnb, zbP_s]
    obtain ⟨C, c1, c2, c3⟩ := c_cadd (N := N) (x := 1) (y := ig (itm (Q.2.1 p) k) 1) hO hC (by omega) (by decide) (w0 hnb)
    rw [c1, zbV_s]
    obtain ⟨D, d1, d2, d3⟩ := c_await (N := N) (v := mtL (Q.2.1 p) k) c3.own (by omega)
    rw [d1, zbV_s]
    obtain ⟨E, e1, e2, e3⟩ := c_cadd (N := N) (x := 13) (y := 0) d2.own (c2.fr d2 (by decide)) (by rw [List.length_append, hlen]; simp only [List.length_cons, List.length_nil]; omega) (by decide) (by decide)
    rw [e1, zbV_s]
    refine ⟨E, rfl, ⟨?_, ?_⟩, ((c3.mono s1_9).trans (d2.mono s2_9)).trans (e3.mono s1_9)⟩
    · rw [rk_nx hG hp hk (by omega) (by omega), itK_a _ c, if_neg (by omega)]
      rw [List.append_assoc, List.append_assoc] at e2
      exact e2
    · refine aw_wait hG hp (aw_keep hW (fun j => c3.e (by decide) (by decide))) hk hpk (v := zi C 209 2) ?_ (fun j => by rw [e3.e (by decide) (by decide)]; exact d3 j)
      rw [c2.2.1, List.length_append, hlen]
      unfold psh
      rw [if_neg (by omega)]
      rfl
  by_cases k8 : (itm (Q.2.1 p) k).1 = 8
  · rw [if_pos k8]
    exact ask (Or.inl k8)
  rw [if_neg k8]
  by_cases k9 : (itm (Q.2.1 p) k).1 = 9
  · have hpk : pnd (Q.2.1 p) k := by unfold pnd; omega
    have hpm := pnd_mt hG hp hk hpk
    have hnl : nlk (Q.2.1 p) k = 1 := by
      unfold nlk
      rw [if_neg (by omega), if_neg (by omega), if_neg (by omega), if_pos k9]
    obtain ⟨f1, f2, f3, f4, f5⟩ := rk_ld hG hp hk (Or.inl k9)
    have hj9 : ¬ (itm (Q.2.1 p) (mtL (Q.2.1 p) (mtL (Q.2.1 p) k))).1 = 9 := fun z => by have := (f4.mp z).1; omega
    have hv := hW.1 _ f2 f1 (by omega)
    rw [f3] at hv
    rw [if_pos k9, zrd_ok (by omega) (by omega), hv]
    obtain ⟨D, d1, d2, d3⟩ := c_await (N := N) (v := mtL (Q.2.1 p) k) hO (by omega)
    rw [d1, zbV_s]
    obtain ⟨E, e1, e2, e3⟩ := c_cadd (N := N) (x := 14) (y := 0) d2.own (hC.fr d2 (by decide)) (by omega) (by decide) (by decide)
    rw [e1, zbV_s]
    have hpos : adk (Q.2.1 p) (mtL (Q.2.1 p) (mtL (Q.2.1 p) k)) + psh (Q.2.1 p) (mtL (Q.2.1 p) (mtL (Q.2.1 p) k)) < (rkC Q p k k).length := by
      rw [hrl]
      have a1 := adk_mono (X := Q.2.1 p) (show mtL (Q.2.1 p) (mtL (Q.2.1 p) k) + 1 ≤ k by omega)
      have a2 : adk (Q.2.1 p) (mtL (Q.2.1 p) (mtL (Q.2.1 p) k) + 1) = adk (Q.2.1 p) (mtL (Q.2.1 p) (mtL (Q.2.1 p) k)) + nlk (Q.2.1 p) (mtL (Q.2.1 p) (mtL (Q.2.1 p) k)) := rfl
      have a3 : nlk (Q.2.1 p) (mtL (Q.2.1 p) (mtL (Q.2.1 p) k)) = 2 := by
        unfold pnd at f1
        unfold nlk
        rw [if_neg (by omega), if_neg (by omega), if_neg (by omega), if_neg (by omega), if_neg (by omega)]
      unfold psh
      rw [if_neg hj9]
      omega
    obtain ⟨F, g1, g2, g3⟩ := c_lead (N := N) (v := adr Q p (mtL (Q.2.1 p) (mtL (Q.2.1 p) k)) + psh (Q.2.1 p) (mtL (Q.2.1 p) (mtL (Q.2.1 p) k))) e3.own e2 (by rw [List.length_append, List.length_append, eadr]; omega) (by rw [List.length_append, hlen]; simp only [List.length_cons, List.length_nil]; omega)
    rw [g1, zbV_s]
    refine ⟨F, rfl, ⟨?_, ?_⟩, ((d2.mono s2_9).trans (e3.mono s1_9)).trans (g3.mono s1_9)⟩
    · rw [f5, if_neg hj9, itK_b _ k9, if_neg (by omega)]
      have el : (((l0 ++ rkC Q p k k ++ [((14 : Int), (0 : Int))]).length : Nat) : Int) = (adr Q p k : Int) + 1 := by rw [List.length_append, hlen]; rfl
      rw [el, eadr (mtL (Q.2.1 p) (mtL (Q.2.1 p) k)), Nat.add_assoc, List.append_assoc, sn_app2, sn_app1 hpos] at g2
      exact g2
    · refine aw_wait hG hp hW hk hpk (v := zi A 209 2) ?_ (fun j => by rw [g3.e (by decide) (by decide), e3.e (by decide) (by decide)]; exact d3 j)
      rw [hC.2.1, hlen]
      unfold psh
      rw [if_pos k9]
      rfl
  rw [if_neg k9]
  by_cases k10 : (itm (Q.2.1 p) k).1 = 10
  · rw [if_pos k10]
    obtain ⟨D, d1, d2, d3⟩ := c_await (N := N) (v := k) hO (by omega)
    rw [d1, zbV_s]
    refine ⟨D, rfl, ⟨?_, ⟨fun j h1 h2 h3 => ?_, fun j h1 h2 h3 => ?_⟩⟩, d2.mono s2_9⟩
    · rw [rk_nx hG hp hk (by omega) (by omega)]
      have : itK Q p (k + 1) k = [] := by
        unfold itK itc
        rw [if_neg (by omega), if_neg (by omega), if_neg (by omega), if_neg (by omega), if_neg (by omega), if_neg (by omega), if_neg (by omega), if_neg (by omega), if_neg (by omega), if_neg (by omega), if_neg (by omega), if_neg (by omega), if_neg (by omega), if_neg (by omega), if_neg (by omega)]
      rw [this, List.append_nil]
      exact hC.fr d2 (by decide)
    · have : j ≠ k := fun e => by rw [e] at h2; unfold pnd at h2; omega
      rw [d3, if_neg (by omega)]
      exact hW.1 j (by omega) h2 (by omega)
    · rw [d3]
      by_cases e : j = k
      · rw [if_pos e, e, hC.2.1, hlen]
      · rw [if_neg e]
        exact hW.2 j (by omega) h2 (by omega)
  rw [if_neg k10]
  by_cases k11 : (itm (Q.2.1 p) k).1 = 11
  · rw [if_pos k11]
    exact ask (Or.inr k11)
  rw [if_neg k11]
  have k12 : (itm (Q.2.1 p) k).1 = 12 := by omega
  have t := pt.2.2.2.2 k12
  obtain ⟨f1, f2, f3, f4, f5⟩ := rk_ld hG hp hk (Or.inr k12)
  have hv := hW.1 _ f2 f1 (by omega)
  rw [f3] at hv
  rw [cp_kind hO ho hx (show mtL (Q.2.1 p) k < (Q.2.1 p).length by omega), zbP_s]
  have npk : ¬ pnd (Q.2.1 p) k := fun z => by unfold pnd at z; omega
  have hpos : adk (Q.2.1 p) (mtL (Q.2.1 p) (mtL (Q.2.1 p) k)) + psh (Q.2.1 p) (mtL (Q.2.1 p) (mtL (Q.2.1 p) k)) < (rkC Q p k k).length := by
    rw [hrl]
    have a1 := adk_mono (X := Q.2.1 p) (show mtL (Q.2.1 p) (mtL (Q.2.1 p) k) + 1 ≤ k by omega)
    have a2 : adk (Q.2.1 p) (mtL (Q.2.1 p) (mtL (Q.2.1 p) k) + 1) = adk (Q.2.1 p) (mtL (Q.2.1 p) (mtL (Q.2.1 p) k)) + nlk (Q.2.1 p) (mtL (Q.2.1 p) (mtL (Q.2.1 p) k)) := rfl
    have a3 : psh (Q.2.1 p) (mtL (Q.2.1 p) (mtL (Q.2.1 p) k)) < nlk (Q.2.1 p) (mtL (Q.2.1 p) (mtL (Q.2.1 p) k)) := by
      unfold pnd at f1
      unfold psh nlk
      rw [if_neg (show ¬ (itm (Q.2.1 p) (mtL (Q.2.1 p) (mtL (Q.2.1 p) k))).1 = 2 by omega), if_neg (show ¬ ((itm (Q.2.1 p) (mtL (Q.2.1 p) (mtL (Q.2.1 p) k))).1 = 3 ∨ (itm (Q.2.1 p) (mtL (Q.2.1 p) (mtL (Q.2.1 p) k))).1 = 4) by omega), if_neg (show ¬ (itm (Q.2.1 p) (mtL (Q.2.1 p) (mtL (Q.2.1 p) k))).1 = 10 by omega)]
      by_cases c9 : (itm (Q.2.1 p) (mtL (Q.2.1 p) (mtL (Q.2.1 p) k))).1 = 9
      · rw [if_pos c9, if_pos c9]; decide
      · rw [if_neg c9, if_neg c9, if_neg (show ¬ (itm (Q.2.1 p) (mtL (Q.2.1 p) (mtL (Q.2.1 p) k))).1 = 12 by omega)]; decide
    omega
  by_cases cm : (itm (Q.2.1 p) (mtL (Q.2.1 p) k)).1 = 10
  · have hnl : nlk (Q.2.1 p) k = 1 := by
      unfold nlk
      rw [if_neg (by omega), if_neg (by omega), if_neg (by omega), if_neg (by omega), if_pos k12, if_pos cm]
    have hj9 : ¬ (itm (Q.2.1 p) (mtL (Q.2.1 p) (mtL (Q.2.1 p) k))).1 = 9 := fun z => by have := (f4.mp z).2; omega
    have hw := hW.2 (mtL (Q.2.1 p) k) (by omega) cm (by rw [f3]; exact Nat.le_refl _)
    have adw := adr_le hG.1 hp (show mtL (Q.2.1 p) k ≤ 150 by omega)
    rw [if_pos cm, zrd_ok (by omega) (by omega), hw]
    obtain ⟨E, e1, e2, e3⟩ := c_cadd (N := N) (x := 14) (y := (adr Q p (mtL (Q.2.1 p) k) : Int)) hO hC (by omega) (by decide) (yb_w (by omega) (by omega))
    rw [e1, zbV_s]
    unfold z_Cd_addTurn_125
    rw [zrd_ok (by omega) (by omega), e3.e (by decide) (by decide), hv]
    obtain ⟨F, g1, g2, g3⟩ := c_lead (N := N) (v := adr Q p (mtL (Q.2.1 p) (mtL (Q.2.1 p) k)) + psh (Q.2.1 p) (mtL (Q.2.1 p) (mtL (Q.2.1 p) k))) e3.own e2 (by rw [List.length_append, List.length_append, eadr]; omega) (by rw [List.length_append, hlen]; simp only [List.length_cons, List.length_nil]; omega)
    rw [g1, zbV_s]
    refine ⟨F, rfl, ⟨?_, aw_next (aw_keep hW (fun j => by rw [g3.e (by decide) (by decide), e3.e (by decide) (by decide)])) npk (by omega)⟩, (e3.mono s1_9).trans (g3.mono s1_9)⟩
    rw [f5, if_neg hj9]
    have ek : itK Q p (k + 1) k = [(14, (adr Q p (mtL (Q.2.1 p) k) : Int))] := by
      unfold itK itc
      rw [if_neg (by omega), if_neg (by omega), if_neg (by omega), if_neg (by omega), if_neg (by omega), if_neg (by omega), if_neg (by omega), if_neg (by omega), if_neg (by omega), if_neg (by omega), if_neg (by omega), if_neg (by omega), if_neg (by omega), if_neg (by omega), if_pos k12, if_pos cm]
    have el : (((l0 ++ rkC Q p k k ++ [((14 : Int), (adr Q p (mtL (Q.2.1 p) k) : Int))]).length : Nat) : Int) = (adr Q p k : Int) + 1 := by rw [List.length_append, hlen]; rfl
    rw [el, eadr (mtL (Q.2.1 p) (mtL (Q.2.1 p) k)), Nat.add_assoc, List.append_assoc, sn_app2, sn_app1 hpos] at g2
    rw [ek]
    exact g2
  · have hcm : (itm (Q.2.1 p) (mtL (Q.2.1 p) k)).1 = 8 := by
      rcases t.2.2.2.1 with ⟨a1, -⟩ | ⟨a1, -⟩
      · exact a1
      · exact absurd a1 cm
    have hj9 : (itm (Q.2.1 p) (mtL (Q.2.1 p) (mtL (Q.2.1 p) k))).1 = 9 := f4.mpr ⟨k12, hcm⟩
    rw [if_neg cm]
    unfold z_Cd_addTurn_125
    rw [zrd_ok (by omega) (by omega), hv]
    obtain ⟨F, g1, g2, g3⟩ := c_lead (N := N) (v := adr Q p (mtL (Q.2.1 p) (mtL (Q.2.1 p) k)) + psh (Q.2.1 p) (mtL (Q.2.1 p) (mtL (Q.2.1 p) k))) hO hC (by rw [List.length_append, eadr]; omega) (by omega)
    rw [g1, zbV_s]
    refine ⟨F, rfl, ⟨?_, aw_next (aw_keep hW (fun j => g3.e (by decide) (by decide))) npk (by omega)⟩, g3.mono s1_9⟩
    rw [f5, if_pos hj9]
    have ek : itK Q p (k + 1) k = [] := by
      unfold itK itc
      rw [if_neg (by omega), if_neg (by omega), if_neg (by omega), if_neg (by omega), if_neg (by omega), if_neg (by omega), if_neg (by omega), if_neg (by omega), if_neg (by omega), if_neg (by omega), if_neg (by omega), if_neg (by omega), if_neg (by omega), if_neg (by omega), if_pos k12, if_neg cm]
    rw [hlen, eadr (mtL (Q.2.1 p) (mtL (Q.2.1 p) k)), Nat.add_assoc, sn_app2] at g2
    rw [ek, List.append_nil]
    exact g2
end
