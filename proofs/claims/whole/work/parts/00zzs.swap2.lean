section
variable {N : Nat} {A B : zA} {R R' : Nat} {Q QB : Pr} {x1 x2 : Int}
theorem c_movable {p : Nat} {x : Int} (hO : Own A) (hQ : WO Q) (s : CSt A R Q (mtC Q)) (hp : exP Q p) : z_PC_isMovable N (R + 2 + 3 * p) x A = some (cif (0 ≤ x ∧ x < ((Q.2.1 p).length : Int) ∧ (itm (Q.2.1 p) x.toNat).1 ≤ 7) 1 0) := by
  have hP := s.2 p hp
  have h3 : cn A (R + 2 + 3 * p) = ((Q.2.1 p).length : Int) := hP.2.2.1
  unfold z_PC_isMovable
  rw [c_pthas h3, zbP_s]
  by_cases c : 0 ≤ x ∧ x < ((Q.2.1 p).length : Int)
  · obtain ⟨k, rfl⟩ : ∃ k : Nat, x = k := ⟨x.toNat, by omega⟩
    have hk : k < (Q.2.1 p).length := by omega
    have hkd : z_Pt_kind N (R + 2 + 3 * p) k A = some (itm (Q.2.1 p) k).1 := pc_kind (N := N) hO s.2 hp hk
    rw [cif_pos c, if_neg (by decide), hkd, zbP_s, Int.toNat_natCast]
    by_cases c7 : 7 < (itm (Q.2.1 p) k).1
    · rw [if_pos c7, cif_neg (by omega)]
    · rw [if_neg c7, cif_pos ⟨c.1, c.2, by omega⟩]
  · rw [cif_neg c, if_pos rfl, cif_neg (fun z => c ⟨z.1, z.2.1⟩)]
theorem cif_01 (p : Prop) : cif p (1 : Int) 0 = 0 ∨ cif p (1 : Int) 0 = 1 := by
  by_cases c : p
  · rw [cif_pos c]; exact Or.inr rfl
  · rw [cif_neg c]; exact Or.inl rfl
theorem c_swap (hN : 300000 ≤ N) (hG : GQ Q) (hGB : GQ QB) (h : CPG A R R' Q QB) : (¬ maySw Q x1 x2 → z_PC_swap N x1 x2 A = some (.inr 0, znw A (false, 100, 0))) ∧ (maySw Q x1 x2 → ∃ B, z_PC_swap N x1 x2 A = some (.inl (cif (Sam (wlC Q) (wlC (swpQ Q x1 x2))) 1 0), B) ∧ cF S1 A B ∧ ((Sam (wlC Q) (wlC (swpQ Q x1 x2)) ∧ CPG B R' R (swpQ Q x1 x2) QB ∧ zi B 4 11 = zw (zi A 4 11 + 1) ∧ zi B 4 12 = zi A 4 12 ∧ zi B 4 9 = 0) ∨ (¬ Sam (wlC Q) (wlC (swpQ Q x1 x2)) ∧ CPG B R R' Q QB ∧ zi B 4 11 = zi A 4 11 ∧ zi B 4 12 = zw (zi A 4 12 + 1) ∧ zi B 4 9 = zi A 4 9))) := by
  have h0 := h
  obtain ⟨r, m2, m3, w, c7, cR, cR', s, sB⟩ := h
  obtain ⟨k1, k2, k3, k4, k5⟩ := r.ok
  obtain ⟨-, y1, -, -, -, -⟩ := rws_fr k1 (show 0 < 4 by decide)
  obtain ⟨-, y2, -, -, -, -⟩ := rws_fr k2 (show 0 < 4 by decide)
  unfold z_PC_swap
  rw [zgr_s m2, zcs_s y1, c_thr s.1, zbP_s]
  by_cases t : thr Q x1
  rotate_left
  · rw [cif_neg t, if_pos rfl]
    exact ⟨fun _ => rfl, fun z => absurd z.1 t⟩
  rw [cif_pos t, if_neg (by decide)]
  obtain ⟨p, rfl, hp4, hp⟩ := thr_n hG.1 t
  obtain ⟨f1, f2, f3, f4, f5, f6⟩ := rws_fr k1 hp4
  obtain ⟨g1, g2, g3, g4, g5, g6⟩ := rws_fr k2 hp4
  have hl := (hG.1.2 p hp).2.2.1
  rw [zgr_s m2, zcs_s y1, zgf_s f1, zfe_p k1 hp4, zcs_s f5, c_movable w.1 hG.1 s hp, zbP_s]
  by_cases c1 : 0 ≤ x2 ∧ x2 < ((Q.2.1 p).length : Int) ∧ (itm (Q.2.1 p) x2.toNat).1 ≤ 7
  rotate_left
  · rw [cif_neg c1, if_pos rfl]
    exact ⟨fun _ => rfl, fun z => absurd (by
      obtain ⟨-, z2, z3, z4, -⟩ := z
      rw [Int.toNat_natCast] at z3 z4
      exact ⟨z2, by omega, z4⟩) c1⟩
  have w1 : zw (x2 + 1) = x2 + 1 := yb_w (by omega) (by omega)
  rw [cif_pos c1, if_neg (by decide), zgr_s m2, zcs_s y1, zgf_s f1, zfe_p k1 hp4, zcs_s f5, w1, c_movable w.1 hG.1 s hp, zbP_s]
  obtain ⟨k, rfl⟩ : ∃ k : Nat, x2 = k := ⟨x2.toNat, by omega⟩
  rw [Int.toNat_natCast] at c1
  by_cases c2 : 0 ≤ (k : Int) + 1 ∧ (k : Int) + 1 < ((Q.2.1 p).length : Int) ∧ (itm (Q.2.1 p) ((k : Int) + 1).toNat).1 ≤ 7
  rotate_left
  · rw [cif_neg c2, if_pos rfl]
    exact ⟨fun _ => rfl, fun z => absurd (by
      obtain ⟨-, z2, z3, z4, z5⟩ := z
      rw [Int.toNat_natCast, Int.toNat_natCast] at z5
      rw [Int.toNat_natCast] at z3
      exact ⟨by omega, z3, by rw [show ((k : Int) + 1).toNat = k + 1 by omega]; exact z5⟩) c2⟩
  have ek1 : ((k : Int) + 1).toNat = k + 1 := by omega
  rw [ek1] at c2
  have hm : maySw Q p k := ⟨t, by omega, by rw [Int.toNat_natCast]; exact c2.2.1, by rw [Int.toNat_natCast, Int.toNat_natCast]; exact c1.2.2, by rw [Int.toNat_natCast, Int.toNat_natCast]; exact c2.2.2⟩
  refine ⟨fun z => absurd hm z, fun _ => ?_⟩
  have hG' := swp_ok hG hm
  have htq : swpQ Q p k = updP Q p (swp (Q.2.1 p) k) := by
    unfold swpQ
    rw [Int.toNat_natCast, Int.toNat_natCast]
  rw [htq] at hG' ⊢
  rw [cif_pos (by rw [ek1]; exact c2), if_neg (by decide), zgr_s m3, zcs_s y2, zgr_s m2, zcs_s y1]
  obtain ⟨B1, b1, b2, b3, b4⟩ := c_begin (N := N) hN hG hGB h0
  rw [b1, zbV_s, zgr_s b2.2.2.1, zcs_s y2, zgf_s g1, zfe_p k2 hp4, zcs_s g5]
  obtain ⟨a1, a2, a3, a4, a5⟩ := b3.2 p hp
  have a3 : cn B1 (R' + 2 + 3 * p) = ((Q.2.1 p).length : Int) := a3
  have hO1 := b4.own
  obtain ⟨C, e1, e2, e3, e4, e5, e6⟩ := exch_run (N := N) (A := B1) (k := k) g6 (by rw [a3]; exact c2.2.1) a2 5 0 N B1 (by omega) (by omega) (cF.refl _ hO1) (fun _ => rfl) (fun _ => rfl) (fun _ => rfl) (fun a i hi => by rw [if_neg (by omega), if_neg (by omega)])
  have hex : z_Pt_exchange N (R' + 2 + 3 * p) k (k + 1) B1 = some C := by
    unfold z_Pt_exchange z_Pt_exchange_18
    rw [c_pthas a3, zbP_s, cif_pos ⟨by omega, by omega⟩, if_neg (by decide), c_pthas a3, zbP_s, cif_pos ⟨by omega, by omega⟩, if_neg (by decide)]
    exact e1
  rw [hex, zbV_s]
  have hkk : k + 1 < (Q.2.1 p).length := by omega
  have hI2 : PI C (R' + 2 + 3 * p) := PI.of a2 (e3 2) (e4 0) (e4 1)
  have out2 : ∀ a, a ≠ R' + 2 + 3 * p → ([R' + 2 + 3 * p] : List Nat).contains a = false := fun a ha => cont2 ha
  have hC2 : CSt C R' (updP Q p (swp (Q.2.1 p) k)) (mtC (updP Q p (swp (Q.2.1 p) k))) := CSt.upd (B := C) hG hG' k2 hp b3 e2 hI2 (e3 2) (e3 3) (fun q _ _ => e5 q) (fun q hq => by
    have b5 : ∀ q : Nat, q < (Q.2.1 p).length → cw B1 (R' + 2 + 3 * p) q 0 = (itm (Q.2.1 p) q).1 ∧ ∀ i : Nat, i < nbk (itm (Q.2.1 p) q).1 → cw B1 (R' + 2 + 3 * p) q ((i : Int) + 1) = ig (itm (Q.2.1 p) q) (i + 1) := fun q hq => ⟨(a5 q hq).1, (a5 q hq).2.1⟩
    have e60 : ∀ q : Nat, cw C (R' + 2 + 3 * p) q 0 = if q = k then cw B1 (R' + 2 + 3 * p) (k + 1) 0 else if q = k + 1 then cw B1 (R' + 2 + 3 * p) k 0 else cw B1 (R' + 2 + 3 * p) q 0 := fun q => e6 q 0 (by omega)
    have e61 : ∀ q i : Nat, i < 4 → cw C (R' + 2 + 3 * p) q ((i : Int) + 1) = if q = k then cw B1 (R' + 2 + 3 * p) (k + 1) ((i : Int) + 1) else if q = k + 1 then cw B1 (R' + 2 + 3 * p) k ((i : Int) + 1) else cw B1 (R' + 2 + 3 * p) q ((i : Int) + 1) := fun q i hi => by
      have := e6 q (i + 1) (by omega)
      rw [show ((i + 1 : Nat) : Int) = (i : Int) + 1 by omega] at this
      exact this
    have bk := b5 k (by omega)
    have bk1 := b5 (k + 1) hkk
    rw [show ((k + 1 : Nat) : Int) = (k : Int) + 1 by omega] at bk1
    rw [swp_itm hkk hq, e60]
    by_cases z1 : q = k
    · rw [if_pos z1, if_pos z1]
      have := nbk_le (itm (Q.2.1 p) (k + 1)).1
      exact ⟨bk1.1, fun i hi => by rw [e61 q i (by omega), if_pos z1]; exact bk1.2 i hi⟩
    · rw [if_neg z1, if_neg z1]
      by_cases z2 : q = k + 1
      · rw [if_pos z2, if_pos z2]
        have := nbk_le (itm (Q.2.1 p) k).1
        exact ⟨bk.1, fun i hi => by rw [e61 q i (by omega), if_neg z1, if_pos z2]; exact bk.2 i hi⟩
      · rw [if_neg z2, if_neg z2]
        have := nbk_le (itm (Q.2.1 p) q).1
        exact ⟨(b5 q hq).1, fun i hi => by rw [e61 q i (by omega), if_neg z1, if_neg z2]; exact (b5 q hq).2 i hi⟩) (swp_len hkk).symm (fun q hq => by
    rw [swp_itm hkk hq]
    by_cases z1 : q = k
    · rw [if_pos z1, z1, flt_7 c1.2.2, flt_7 c2.2.2]
    · rw [if_neg z1]
      by_cases z2 : q = k + 1
      · rw [if_pos z2, z2, flt_7 c1.2.2, flt_7 c2.2.2]
      · rw [if_neg z2])
  have hCP2 : CPG C R R' Q QB := b2.edit hG.1 hGB.1 e2 (fun q hq => by
    by_cases e : q = p
    · rw [e]; exact hI2
    · obtain ⟨-, -, -, -, -, u6⟩ := rws_fr k2 hq
      exact (b2.2.2.2.2.2.2.1 q hq).fr u6 e2 (out2 _ (by omega))) (out2 _ (by unfold okR at k2; omega)) (fun a a1 a2 a3 => out2 a (by omega)) (out2 _ (by unfold okR at k2; omega)) (out2 _ (by unfold okR at k2; omega)) (out2 _ (by unfold okR at k2; omega))
  obtain ⟨E, j1, j2, j3⟩ := c_settle (N := N) hN hG hG' hGB hCP2 hC2
  rw [j1, zbI_s]
  have i2 : ∀ q, zi C 4 q = zi A 4 q := fun q => by rw [e2.i (by decide) (out2 _ (by unfold okR at k2; omega)), b4.i (by decide) (rwl_n (by unfold okR at k2; omega))]
  rw [i2, i2, i2] at j3
  have u1 : cF S1 A B1 := b4.mono (fun a ha => S1_mem.mpr (by have := rwl_mem.mp ha; unfold okR at k2; omega))
  have u2 : cF S1 B1 C := e2.mono (fun a ha => by
    simp only [List.contains_iff_mem, List.mem_cons, List.not_mem_nil, or_false] at ha
    exact S1_mem.mpr (by unfold okR at k2; omega))
  have u3 : cF S1 C E := j2.mono (fun a ha => by
    rw [List.contains_cons, Bool.or_eq_true, beq_iff_eq, wal_mem] at ha
    exact S1_mem.mpr (by omega))
  refine ⟨E, ?_, (u1.trans u2).trans u3, j3⟩
  rw [if_pos (cif_01 _)]
end
