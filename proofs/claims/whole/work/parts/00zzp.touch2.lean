section
variable {N : Nat} {A B : zA} {R R' : Nat} {Q QB : Pr}
theorem sk_itm {X Y : List It} (h : X.map sk = Y.map sk) {k : Nat} (hk : k < X.length) : sk (itm X k) = sk (itm Y k) ∧ k < Y.length := by
  have hl : X.length = Y.length := by
    have := congrArg List.length h
    rw [List.length_map, List.length_map] at this
    exact this
  refine ⟨?_, by omega⟩
  rw [itm_get hk, itm_get (by omega)]
  have e : (X.map sk)[k]'(by rw [List.length_map]; exact hk) = (Y.map sk)[k]'(by rw [List.length_map]; omega) := by simp only [h]
  rw [List.getElem_map, List.getElem_map] at e
  exact e
/-- mates of a changed program, where turns stand as they stood -/
theorem mtC_sk {Q Q' : Pr} {p : Nat} (hG : GQ Q) (hG' : GQ Q') (hp : exP Q p) (hp' : exP Q' p) (hl : (Q.2.1 p).length = (Q'.2.1 p).length) (hk : ∀ k, k < (Q.2.1 p).length → flt (itm (Q.2.1 p) k).1 = flt (itm (Q'.2.1 p) k).1) : ∀ k, k < (Q.2.1 p).length → 8 ≤ (itm (Q.2.1 p) k).1 → mtC Q p k = mtC Q' p k := by
  have h1 := hG.m p hp
  rw [hl] at h1
  intro k k1 k8
  exact mtC_eq hG' hp' (fun j hj => hk j (by omega)) h1 k (by omega) k8
theorem flt_sk {X Y : List It} (h : X.map sk = Y.map sk) : X.length = Y.length ∧ ∀ k, k < X.length → flt (itm X k).1 = flt (itm Y k).1 := by
  refine ⟨?_, fun k hk => by rw [sk_1 (sk_itm h hk).1]⟩
  have := congrArg List.length h
  rw [List.length_map, List.length_map] at this
  exact this
theorem CSt.upd {p : Nat} {X : List It} (hG : GQ Q) (hG' : GQ (updP Q p X)) (hR : okR R) (hp : exP Q p) (h : CSt A R Q (mtC Q)) (f : cF [R + 2 + 3 * p] A B) (hI : PI B (R + 2 + 3 * p)) (hn : cn B (R + 2 + 3 * p) = cn A (R + 2 + 3 * p)) (hr : cr B (R + 2 + 3 * p) = cr A (R + 2 + 3 * p)) (hm : ∀ k : Nat, k < (Q.2.1 p).length → 8 ≤ (itm (Q.2.1 p) k).1 → yv B (R + 2 + 3 * p) 1 k = yv A (R + 2 + 3 * p) 1 k) (hi : ∀ k : Nat, k < (Q.2.1 p).length → cw B (R + 2 + 3 * p) k 0 = (itm X k).1 ∧ ∀ i : Nat, i < nbk (itm X k).1 → cw B (R + 2 + 3 * p) k ((i : Int) + 1) = ig (itm X k) (i + 1)) (hl : (Q.2.1 p).length = X.length) (hk : ∀ k, k < (Q.2.1 p).length → flt (itm (Q.2.1 p) k).1 = flt (itm X k).1) : CSt B R (updP Q p X) (mtC (updP Q p X)) := by
  obtain ⟨x1, x2, x3⟩ := hR.fx
  have hp4 := exP3 hG.1 hp
  refine ⟨by rw [f.i x1 (cont2 (by omega))]; exact h.1, fun q hq => ?_⟩
  have hq' : exP Q q := hq
  obtain ⟨a1, a2, a3, a4, a5⟩ := h.2 q hq'
  by_cases e : q = p
  · subst e
    refine ⟨a1, hI, ?_, ?_, fun k hk' => ?_⟩
    · show _ = (((updP Q q X).2.1 q).length : Int)
      rw [updP_s, ← hl, hn]; exact a3
    · show _ = ((updP Q q X).2.2 q : Int)
      rw [hr]; exact a4
    · have hk0 : k < ((updP Q q X).2.1 q).length := hk'
      rw [updP_s] at hk0
      have hkq : k < (Q.2.1 q).length := by omega
      show _ = (itm ((updP Q q X).2.1 q) k).1 ∧ (∀ i : Nat, i < nbk (itm ((updP Q q X).2.1 q) k).1 → _ = ig (itm ((updP Q q X).2.1 q) k) (i + 1)) ∧ (8 ≤ (itm ((updP Q q X).2.1 q) k).1 → _ = (mtC (updP Q q X) q k : Int))
      have hms := mtC_sk hG hG' hq' hq (by rw [updP_s]; exact hl) (by rw [updP_s]; exact hk) k hkq
      rw [updP_s]
      refine ⟨(hi k hkq).1, (hi k hkq).2, fun k8 => ?_⟩
      have k8' : 8 ≤ (itm (Q.2.1 q) k).1 := by
        have := hk k hkq
        rw [flt_8 k8] at this
        unfold flt at this
        split at this <;> omega
      rw [hm k hkq k8', ← hms k8']
      exact (a5 k hkq).2.2 k8'
  · have fx := pto_fx a1
    have out : ([R + 2 + 3 * p] : List Nat).contains (R + 2 + 3 * q) = false := cont2 (by omega)
    have v : ∀ e f', f' < 2 → yv B (R + 2 + 3 * q) f' e = yv A (R + 2 + 3 * q) f' e := fun e f' hf2 => f.v (dy_of (pto_dy a1) hf2) out
    have hqq : (updP Q p X).2.1 q = Q.2.1 q := updP_o e
    refine ⟨a1, a2.fr a1 f out, ?_, ?_, fun k hk' => ?_⟩
    · show _ = (((updP Q p X).2.1 q).length : Int)
      unfold cn
      rw [hqq, f.i fx out]; exact a3
    · unfold cr
      rw [f.i fx out]; exact a4
    · have hk0 : k < ((updP Q p X).2.1 q).length := hk'
      rw [hqq] at hk0
      obtain ⟨b1, b2, b3⟩ := a5 k hk0
      show _ = (itm ((updP Q p X).2.1 q) k).1 ∧ (∀ i : Nat, i < nbk (itm ((updP Q p X).2.1 q) k).1 → _ = ig (itm ((updP Q p X).2.1 q) k) (i + 1)) ∧ (8 ≤ (itm ((updP Q p X).2.1 q) k).1 → _ = (mtC (updP Q p X) q k : Int))
      have hms := mtC_sk hG hG' hq' hq (by rw [hqq]) (fun k _ => by rw [hqq]) k hk0
      rw [hqq]
      unfold cw
      refine ⟨by rw [v _ 0 (by decide)]; exact b1, fun i hi' => by rw [v _ 0 (by decide)]; exact b2 i hi', fun k8 => ?_⟩
      rw [v _ 1 (by decide), ← hms k8]
      exact b3 k8
variable {x1 x2 x3 x4 : Int}
theorem c_touch (hN : 300000 ≤ N) (hG : GQ Q) (hGB : GQ QB) (h : CPG A R R' Q QB) (hS : STA A) (h4 : zw x4 = x4) : (¬ mayT Q x1 x2 x3 x4 → z_PC_touch N x1 x2 x3 x4 A = some (.inr 0, znw A (false, 100, 0))) ∧ (mayT Q x1 x2 x3 x4 → ∃ B, z_PC_touch N x1 x2 x3 x4 A = some (.inl (cif (Sam (wlC Q) (wlC (tchQ Q x1 x2 x3 x4))) 1 0), B) ∧ cF S1 A B ∧ ((Sam (wlC Q) (wlC (tchQ Q x1 x2 x3 x4)) ∧ CPG B R' R (tchQ Q x1 x2 x3 x4) QB ∧ zi B 4 11 = zw (zi A 4 11 + 1) ∧ zi B 4 12 = zi A 4 12 ∧ zi B 4 9 = 0) ∨ (¬ Sam (wlC Q) (wlC (tchQ Q x1 x2 x3 x4)) ∧ CPG B R R' Q QB ∧ zi B 4 11 = zi A 4 11 ∧ zi B 4 12 = zw (zi A 4 12 + 1) ∧ zi B 4 9 = zi A 4 9))) := by
  unfold z_PC_touch
  rw [c_mayTouch h hG.1 hS, zbP_s]
  refine ⟨fun hm => by rw [cif_neg hm, if_pos rfl], fun hm => ?_⟩
  rw [cif_pos hm, if_neg (by decide)]
  have hG' := tch_ok hG h4 hm
  have hm0 := hm
  obtain ⟨r, m2, m3, w, c7, cR, cR', s, sB⟩ := h
  obtain ⟨k1, k2, k3, k4, k5⟩ := r.ok
  obtain ⟨-, y1, -, -, -, -⟩ := rws_fr k1 (show 0 < 4 by decide)
  obtain ⟨-, y2, -, -, -, -⟩ := rws_fr k2 (show 0 < 4 by decide)
  rw [zgr_s m3, zcs_s y2, zgr_s m2, zcs_s y1]
  obtain ⟨B1, b1, b2, b3, b4⟩ := c_become (N := N) hN k2 k1 (fun z => k3 z.symm) hG.1 w.1 cR' s
  rw [b1, zbV_s]
  have u1 : cF S1 A B1 := b4.mono (fun a ha => S1_mem.mpr (by have := rwl_mem.mp ha; unfold okR at k2; omega))
  have n1 : ∀ a, (a < R' ∨ R' + 13 < a) → (rwl R').contains a = false := fun a ha => rwl_n ha
  have hC1 : CPG B1 R R' Q QB := ⟨r, by rw [b4.r (by decide) (n1 _ (by unfold okR at k2; omega))]; exact m2, by rw [b4.r (by decide) (n1 _ (by unfold okR at k2; omega))]; exact m3, w.fr b4 (n1 _ (by unfold okR at k2; omega)) (n1 _ (by unfold okR at k2; omega)) (n1 _ (by unfold okR at k2; omega)), c7.fr (Or.inl rfl) b4 (fun a a1 a2 => n1 a (by unfold RR at r; omega)), cR.fr k1 b4 (fun a a1 a2 => n1 a (by unfold RR at r; omega)), b2, s.fr hG.1 k1 b4 (fun a a1 a2 => n1 a (by unfold RR at r; omega)), sB.fr hGB.1 (Or.inl rfl) b4 (fun a a1 a2 => n1 a (by unfold RR at r; omega))⟩
  have i1 : ∀ j, zi B1 4 j = zi A 4 j := fun j => b4.i (by decide) (n1 _ (by unfold okR at k2; omega))
  rw [zgr_s hC1.2.2.1, zcs_s y2]
  obtain ⟨t1, t2, t3, t4⟩ := hm
  obtain ⟨p, rfl, hp4, hp⟩ := thr_n hG.1 t1
  rw [Int.toNat_natCast] at t3 t4
  obtain ⟨k, rfl⟩ : ∃ k : Nat, x2 = k := ⟨x2.toNat, by omega⟩
  rw [Int.toNat_natCast] at t4
  have hk : k < (Q.2.1 p).length := by omega
  have hb := nbk_le (itm (Q.2.1 p) k).1
  obtain ⟨v1, v2, v3, v4⟩ := t4
  obtain ⟨j, rfl⟩ : ∃ j : Nat, x3 = j := ⟨x3.toNat, by omega⟩
  obtain ⟨f1, f2, f3, f4, f5, f6⟩ := rws_fr k2 hp4
  rw [zgf_s f1, zfe_p k2 hp4, zcs_s f5]
  obtain ⟨a1, a2, a3, a4, a5⟩ := b3.2 p hp
  have a3 : cn B1 (R' + 2 + 3 * p) = ((Q.2.1 p).length : Int) := a3
  have hO1 := b4.own
  have hd := pto_dy f6
  obtain ⟨p1, p2, p3, p4, p5, p6⟩ := a2
  have hset : z_Pt_setNumber N (R' + 2 + 3 * p) k j x4 B1 = some (ys B1 (R' + 2 + 3 * p) 0 (5 * (k : Int) + 1 + j) x4) := by
    unfold z_Pt_setNumber
    unfold cn at a3 p3
    rw [if_neg (by omega), a3, if_pos (by omega), if_neg (by omega), if_pos (by omega), zgr_d hO1 hd (by decide), zwD_d hO1 hd (by decide) (by omega) (by omega), show ((k : Int) * 5 + 1 + j) = 5 * (k : Int) + 1 + j by omega]
  rw [hset, zbV_s]
  have g2 : cF [R' + 2 + 3 * p] B1 (ys B1 (R' + 2 + 3 * p) 0 (5 * (k : Int) + 1 + j) x4) := cF_ys hO1 hd (by decide) (cont1 _)
  have w0 : ∀ e : Int, 0 ≤ e → yv (ys B1 (R' + 2 + 3 * p) 0 (5 * (k : Int) + 1 + j) x4) (R' + 2 + 3 * p) 0 e = if e = 5 * (k : Int) + 1 + j then x4 else yv B1 (R' + 2 + 3 * p) 0 e := fun e he => by
    rw [yv_ys (by omega) he, h4]
  have w1 : ∀ e, yv (ys B1 (R' + 2 + 3 * p) 0 (5 * (k : Int) + 1 + j) x4) (R' + 2 + 3 * p) 1 e = yv B1 (R' + 2 + 3 * p) 1 e := fun e => yv_ys_o hO1 hd (by decide) hd (by decide) (by omega)
  have wz : ∀ q, zi (ys B1 (R' + 2 + 3 * p) 0 (5 * (k : Int) + 1 + j) x4) (R' + 2 + 3 * p) q = zi B1 (R' + 2 + 3 * p) q := fun q => zi_ys hO1 hd (by decide) (pto_fx f6)
  have wl0 : ∀ f', yl (ys B1 (R' + 2 + 3 * p) 0 (5 * (k : Int) + 1 + j) x4) (R' + 2 + 3 * p) f' = yl B1 (R' + 2 + 3 * p) f' := fun f' => rfl
  generalize ys B1 (R' + 2 + 3 * p) 0 (5 * (k : Int) + 1 + j) x4 = B2 at *
  have hI2 : PI B2 (R' + 2 + 3 * p) := PI.of ⟨p1, p2, p3, p4, p5, p6⟩ (wz 2) (wl0 0) (wl0 1)
  have htq : tchQ Q p k j x4 = updP Q p ((Q.2.1 p).set k (setN (itm (Q.2.1 p) k) j x4)) := by
    unfold tchQ
    rw [Int.toNat_natCast, Int.toNat_natCast, Int.toNat_natCast]
  have hsk : (Q.2.1 p).map sk = ((Q.2.1 p).set k (setN (itm (Q.2.1 p) k) j x4)).map sk := set_sk hk (by
    unfold sk
    rw [setN_1]
    by_cases c : (itm (Q.2.1 p) k).1 = 7
    · rw [if_pos c, if_pos c]
      have := setN_g (itm (Q.2.1 p) k) (w := j) (j := 1) x4 (by omega) (by omega)
      rw [if_neg (by omega)] at this
      exact Prod.ext rfl this
    · rw [if_neg c, if_neg c])
  rw [htq] at hG' ⊢
  have hC2 := CSt.upd (B := B2) hG hG' k2 hp b3 g2 hI2 (wz 2) (wz 3) (fun q _ _ => w1 q) (fun q hq => by
    obtain ⟨c1, c2, c3⟩ := a5 q hq
    have c1 : cw B1 (R' + 2 + 3 * p) q 0 = (itm (Q.2.1 p) q).1 := c1
    have c2 : ∀ i : Nat, i < nbk (itm (Q.2.1 p) q).1 → cw B1 (R' + 2 + 3 * p) q ((i : Int) + 1) = ig (itm (Q.2.1 p) q) (i + 1) := c2
    rw [itm_set hq]
    unfold cw at *
    by_cases e : q = k
    · subst e
      rw [if_pos rfl, setN_1]
      refine ⟨by rw [w0 _ (by omega), if_neg (by omega)]; exact c1, fun i hi => ?_⟩
      rw [w0 _ (by omega), setN_g _ _ (by omega) (by omega)]
      by_cases z : i = j
      · rw [if_pos (by omega), if_pos z]
      · rw [if_neg (by omega), if_neg z]; exact c2 i hi
    · rw [if_neg e]
      have hbq := nbk_le (itm (Q.2.1 p) q).1
      exact ⟨by rw [w0 _ (by omega), if_neg (by omega)]; exact c1, fun i hi => by rw [w0 _ (by omega), if_neg (by omega)]; exact c2 i hi⟩) (flt_sk hsk).1 (flt_sk hsk).2
  have out2 : ∀ a, a ≠ R' + 2 + 3 * p → ([R' + 2 + 3 * p] : List Nat).contains a = false := fun a ha => cont2 ha
  have hCP2 : CPG B2 R R' Q QB := ⟨r, by rw [g2.r (by decide) (out2 _ (by unfold okR at k2; omega))]; exact hC1.2.1, by rw [g2.r (by decide) (out2 _ (by unfold okR at k2; omega))]; exact hC1.2.2.1, hC1.2.2.2.1.fr g2 (out2 _ (by unfold okR at k2; omega)) (out2 _ (by unfold okR at k2; omega)) (out2 _ (by unfold okR at k2; omega)), hC1.2.2.2.2.1.fr (Or.inl rfl) g2 (fun a a1 a2 => out2 a (by unfold RR at r; omega)), hC1.2.2.2.2.2.1.fr k1 g2 (fun a a1 a2 => out2 a (by unfold RR at r; omega)), fun q hq => (by
    by_cases e : q = p
    · rw [e]; exact hI2
    · obtain ⟨-, -, -, -, -, u6⟩ := rws_fr k2 hq
      exact (b2 q hq).fr u6 g2 (out2 _ (by omega))), hC1.2.2.2.2.2.2.2.1.fr hG.1 k1 g2 (fun a a1 a2 => out2 a (by unfold RR at r; omega)), hC1.2.2.2.2.2.2.2.2.fr hGB.1 (Or.inl rfl) g2 (fun a a1 a2 => out2 a (by unfold RR at r; omega))⟩
  obtain ⟨E, e1, e2, e3⟩ := c_settle (N := N) hN hG hG' hGB hCP2 hC2
  rw [e1, zbI_s]
  have i2 : ∀ q, zi B2 4 q = zi A 4 q := fun q => by rw [g2.i (by decide) (out2 _ (by unfold okR at k2; omega))]; exact i1 q
  rw [i2, i2, i2] at e3
  have u2 : cF S1 B1 B2 := g2.mono (fun a ha => by
    simp only [List.contains_iff_mem, List.mem_cons, List.not_mem_nil, or_false] at ha
    exact S1_mem.mpr (by unfold okR at k2; omega))
  have u3 : cF S1 B2 E := e2.mono (fun a ha => by
    rw [List.contains_cons, Bool.or_eq_true, beq_iff_eq, wal_mem] at ha
    exact S1_mem.mpr (by omega))
  refine ⟨E, ?_, (u1.trans u2).trans u3, e3⟩
  rw [if_pos (by
    by_cases c : Sam (wlC Q) (wlC (updP Q p ((Q.2.1 p).set k (setN (itm (Q.2.1 p) k) j x4))))
    · rw [cif_pos c]; exact Or.inr rfl
    · rw [cif_neg c]; exact Or.inl rfl)]
end
