/-! restore, size, item -/
section
variable {N : Nat} {A : zA} {R R' : Nat} {Q QB : Pr} {x1 x2 x3 : Int}
theorem c_restore (hN : 300000 ≤ N) (hG : GQ Q) (hGB : GQ QB) (h : CPG A R R' Q QB) : ∃ B, z_PC_restore N A = some B ∧ CPG B R R' QB QB ∧ cF S1 A B ∧ zi B 4 9 = 0 ∧ zi B 4 11 = zi A 4 11 ∧ zi B 4 12 = zi A 4 12 := by
  obtain ⟨r, m2, m3, w, c7, cR, cR', s, sB⟩ := h
  obtain ⟨k1, k2, k3, k4, k5⟩ := r.ok
  obtain ⟨-, y1, -, -, -, -⟩ := rws_fr k1 (show 0 < 4 by decide)
  obtain ⟨B1, b1, b2, b3, b4⟩ := c_become (N := N) hN k1 (Or.inl rfl) k4 hGB.1 w.1 cR sB
  unfold z_PC_restore
  rw [zgr_s m2, zcs_s y1, b1, zbV_s, zlet_s]
  have n1 : ∀ a, (a < R ∨ R + 13 < a) → (rwl R).contains a = false := fun a ha => rwl_n ha
  have g : cF [4] B1 (zsi B1 4 9 0) := cF_si b4.own (by decide) (by decide) (by decide)
  have n4 : ∀ a, a ≠ 4 → ([4] : List Nat).contains a = false := fun a ha => cont2 ha
  have n47 : ∀ Y, okR Y → ∀ a, Y ≤ a → a ≤ Y + 13 → ([4] : List Nat).contains a = false := fun Y hY a a1 a2 => n4 a (by unfold okR at hY; omega)
  have i4 : ∀ j, zi B1 4 j = zi A 4 j := fun j => b4.i (by decide) (n1 _ (by unfold okR at k1; omega))
  have w1 := w.fr b4 (n1 _ (by unfold okR at k1; omega)) (n1 _ (by unfold okR at k1; omega)) (n1 _ (by unfold okR at k1; omega))
  have m21 : zmr B1 4 2 = some R := by rw [b4.r (by decide) (n1 _ (by unfold okR at k1; omega))]; exact m2
  have m31 : zmr B1 4 3 = some R' := by rw [b4.r (by decide) (n1 _ (by unfold okR at k1; omega))]; exact m3
  refine ⟨_, rfl, ⟨r, m21, m31, w1.fr g (by decide) (by decide) (by decide), (c7.fr (Or.inl rfl) b4 (fun a a1 a2 => n1 a (by unfold RR at r; omega))).fr (Or.inl rfl) g (n47 7 (Or.inl rfl)), b2.fr k1 g (n47 R k1), (cR'.fr k2 b4 (fun a a1 a2 => n1 a (by unfold RR at r; omega))).fr k2 g (n47 R' k2), b3.fr hGB.1 k1 g (n47 R k1), (sB.fr hGB.1 (Or.inl rfl) b4 (fun a a1 a2 => n1 a (by unfold RR at r; omega))).fr hGB.1 (Or.inl rfl) g (n47 7 (Or.inl rfl))⟩, (b4.mono (fun a ha => S1_mem.mpr (by have := rwl_mem.mp ha; unfold okR at k1; omega))).trans (g.mono (fun a ha => by
    simp only [List.contains_iff_mem, List.mem_cons, List.not_mem_nil, or_false] at ha
    exact S1_mem.mpr (by omega))), by rw [zi_si_s]; decide, by rw [zi_si_j (by decide)]; exact i4 11, by rw [zi_si_j (by decide)]; exact i4 12⟩
theorem r_restore (hN : 300000 ≤ N) (hG : GQ Q) (hGB : GQ QB) (h : RPG A Q QB) (hT : QB.1 = Q.1) : ∃ B, z_M_restore N A = some B ∧ RPG B QB QB ∧ fr (fun a j => qCp 0 a j ∨ (a = 226 ∧ j = 0)) A B := by
  have f0 : fr (fun a j => a = 226 ∧ j = 0) A (zsi A 226 0 0) := fr_si ⟨rfl, rfl⟩
  have h1 := h.f0 f0 (fun a j q => by omega)
  unfold z_M_restore
  rw [zlet_s]
  generalize zsi A 226 0 0 = A1 at *
  obtain ⟨C, c1, c2, c3, c4⟩ := r_copyState' (N := N) (x := 2) (y := 0) hN (by omega) (by omega) (by omega) h1.2.2.2.2.2 hGB.1 h1.2.1
  rw [show ((2 : Nat) : Int) = 2 from rfl, show ((0 : Nat) : Int) = 0 from rfl] at c1
  rw [c1, zbV_s]
  have st2 : RSt C 2 QB := fun q hq => by
    obtain ⟨d1, d2, d3⟩ := h1.2.1 q hq
    have e : ∀ a e, (a = 228 ∧ 4800 ≤ e.toNat) ∨ ((a = 229 ∨ a = 230) ∧ 4 ≤ e.toNat) → ri C a e = ri A1 a e := fun a e he => c4.e (fun z => by unfold qCp at z; omega)
    exact ⟨by unfold rn at *; rw [e _ _ (by omega)]; exact d1, by rw [e _ _ (by omega)]; exact d2, fun m hm => ⟨by rw [e _ _ (by unfold rad; omega)]; exact (d3 m hm).1, fun i hi => by rw [e _ _ (by unfold rad; omega)]; exact (d3 m hm).2 i hi⟩⟩
  exact ⟨C, rfl, ⟨c2, st2, by rw [c4.i (fun z => by unfold qCp at z; omega), hT]; exact h1.2.2.1, c3, h1.2.2.2.2.1.fr c4 (fun p hp z => by unfold qCp at z; omega), h1.2.2.2.2.2.fr c4 (fun p hp z => by unfold qCp at z; omega)⟩, (f0.mono (fun a j q => Or.inr q)).trans (c4.mono (fun a j q => Or.inl q))⟩
noncomputable def sizeA (Q : Pr) (x1 x2 : Int) : Int := cif (thr Q x1) (if x2 = 0 then ((Q.2.1 x1.toNat).length : Int) else if x2 = 1 then (Q.2.2 x1.toNat : Int) else -1) (-1)
theorem c_size (hQ : WO Q) (h : CPG A R R' Q QB) : z_PC_size N x1 x2 A = some (sizeA Q x1 x2) := by
  obtain ⟨r, m2, m3, w, c7, cR, cR', s, sB⟩ := h
  obtain ⟨k1, k2, k3, k4, k5⟩ := r.ok
  obtain ⟨-, y1, -, -, -, -⟩ := rws_fr k1 (show 0 < 4 by decide)
  unfold z_PC_size sizeA
  rw [zgr_s m2, zcs_s y1, c_thr s.1, zbP_s]
  by_cases t : thr Q x1
  · rw [cif_pos t, cif_pos t, if_neg (by decide)]
    obtain ⟨p, rfl, hp4, hp⟩ := thr_n hQ t
    obtain ⟨f1, f2, f3, f4, f5, f6⟩ := rws_fr k1 hp4
    have hP := s.2 p hp
    have h2 : zi A (R + 2 + 3 * p) 2 = ((Q.2.1 p).length : Int) := hP.2.2.1
    have h3 : zi A (R + 2 + 3 * p) 3 = (Q.2.2 p : Int) := hP.2.2.2.1
    rw [Int.toNat_natCast, zgr_s m2, zcs_s y1, zgf_s f1, zfe_p k1 hp4, zcs_s f5, h2, zgr_s m2, zcs_s y1, zgf_s f1, zfe_p k1 hp4, zcs_s f5, h3]
    by_cases c0 : x2 = 0
    · rw [if_pos c0, if_pos c0]
    · rw [if_neg c0, if_neg c0]
      by_cases c1 : x2 = 1
      · rw [if_pos c1, if_pos c1]
      · rw [if_neg c1, if_neg c1]
  · rw [cif_neg t, cif_neg t, if_pos rfl]
theorem r_size (hQ : WO Q) (h : RPG A Q QB) : z_M_size N x1 x2 A = some (sizeA Q x1 x2, zsi A 226 0 0) := by
  have f0 : fr (fun a j => a = 226 ∧ j = 0) A (zsi A 226 0 0) := fr_si ⟨rfl, rfl⟩
  have h1 := h.f0 f0 (fun a j q => by omega)
  unfold z_M_size sizeA
  rw [zlet_s]
  generalize zsi A 226 0 0 = A1 at *
  rw [r_thr h1.2.2.1, zbP_s]
  by_cases t : thr Q x1
  · rw [cif_pos t, cif_pos t, if_neg (by decide)]
    obtain ⟨p, rfl, hp4, hp⟩ := thr_n hQ t
    obtain ⟨s1, s2, -⟩ := h1.1 p hp
    have s1 : ri A1 229 (4 * (0 : Int) + p) = (Q.2.1 p).length := s1
    have s2 : ri A1 230 (4 * (0 : Int) + p) = Q.2.2 p := s2
    rw [Int.toNat_natCast]
    by_cases c0 : x2 < 0
    · rw [if_pos c0, if_neg (by omega), if_neg (by omega)]
    · rw [if_neg c0]
      by_cases c1 : 1 < x2
      · rw [if_pos c1, if_neg (by omega), if_neg (by omega)]
      · rw [if_neg c1]
        by_cases c2 : x2 = 0
        · rw [if_pos c2, if_pos c2, z_M_row_e (by omega) (by omega), zbP_s, zrd_ok (by omega) (by omega), s1]
        · rw [if_neg c2, if_neg c2, if_pos (by omega), z_M_row_e (by omega) (by omega), zbP_s, zrd_ok (by omega) (by omega), s2]
  · rw [cif_neg t, cif_neg t, if_pos rfl]
def mayI (Q : Pr) (x1 x2 x3 : Int) : Prop := thr Q x1 ∧ 0 ≤ x2 ∧ x2 < (Q.2.1 x1.toNat).length ∧ 0 ≤ x3 ∧ x3 ≤ nbk (itm (Q.2.1 x1.toNat) x2.toNat).1
def itemA (Q : Pr) (x1 x2 x3 : Int) : Int := ig (itm (Q.2.1 x1.toNat) x2.toNat) x3.toNat
theorem c_item (hQ : WO Q) (hS : STA A) (h : CPG A R R' Q QB) (hx3 : zw x3 = x3) : (¬ mayI Q x1 x2 x3 → z_PC_item N x1 x2 x3 A = some (.inr 2, znw A (false, 102, 0))) ∧ (mayI Q x1 x2 x3 → z_PC_item N x1 x2 x3 A = some (.inl (itemA Q x1 x2 x3), A)) := by
  obtain ⟨r, m2, m3, w, c7, cR, cR', s, sB⟩ := h
  obtain ⟨k1, k2, k3, k4, k5⟩ := r.ok
  obtain ⟨-, y1, -, -, -, -⟩ := rws_fr k1 (show 0 < 4 by decide)
  have hr := yb_wrg x3
  rw [hx3] at hr
  unfold z_PC_item itemA
  rw [zgr_s m2, zcs_s y1, c_thr s.1, zbP_s]
  by_cases t : thr Q x1
  rotate_left
  · rw [cif_neg t, if_pos rfl]
    exact ⟨fun _ => rfl, fun z => absurd z.1 t⟩
  rw [cif_pos t, if_neg (by decide)]
  obtain ⟨p, rfl, hp4, hp⟩ := thr_n hQ t
  obtain ⟨f1, f2, f3, f4, f5, f6⟩ := rws_fr k1 hp4
  have hP := s.2 p hp
  have h2 : cn A (R + 2 + 3 * p) = ((Q.2.1 p).length : Int) := hP.2.2.1
  rw [zgr_s m2, zcs_s y1, zgf_s f1, zfe_p k1 hp4, zcs_s f5, c_pthas h2, zbP_s]
  unfold mayI
  rw [Int.toNat_natCast]
  by_cases c1 : 0 ≤ x2 ∧ x2 < ((Q.2.1 p).length : Int)
  rotate_left
  · rw [cif_neg c1, if_pos rfl]
    exact ⟨fun _ => rfl, fun z => absurd ⟨z.2.1, z.2.2.1⟩ c1⟩
  rw [cif_pos c1, if_neg (by decide)]
  obtain ⟨k, rfl⟩ : ∃ k : Nat, x2 = k := ⟨x2.toNat, by omega⟩
  have hk : k < (Q.2.1 p).length := by omega
  rw [Int.toNat_natCast]
  have hkd : z_Pt_kind N (R + 2 + 3 * p) k A = some (itm (Q.2.1 p) k).1 := pc_kind (N := N) w.1 s.2 hp hk
  obtain ⟨o1, o2, -⟩ := (hQ.2 p hp).2.2.2 _ (itm_mem hk)
  have hst : ri A 3 (itm (Q.2.1 p) k).1 = nbk (itm (Q.2.1 p) k).1 := by
    have := (hS (itm (Q.2.1 p) k).1.toNat (by omega)).2.2
    rw [show (((itm (Q.2.1 p) k).1.toNat : Nat) : Int) = (itm (Q.2.1 p) k).1 by omega] at this
    exact this
  by_cases c0 : x3 = 0
  · rw [if_pos c0, zgr_s m2, zcs_s y1, zgf_s f1, zfe_p k1 hp4, zcs_s f5, hkd, zbP_s, c0]
    exact ⟨fun z => absurd ⟨t, c1.1, c1.2, by omega, by omega⟩ z, fun _ => rfl⟩
  · rw [if_neg c0]
    by_cases c2 : x3 < 0
    · rw [if_pos c2]
      exact ⟨fun _ => rfl, fun z => by have := z.2.2.2.1; omega⟩
    · rw [if_neg c2, zgr_s m2, zcs_s y1, zgf_s f1, zfe_p k1 hp4, zcs_s f5]
      have w1 : zw (x3 - 1) = x3 - 1 := yb_w (by omega) (by omega)
      have hn : z_Pt_hasNumber N (R + 2 + 3 * p) k (x3 - 1) A = some (cif (x3 - 1 < (nbk (itm (Q.2.1 p) k).1 : Int)) 1 0) := by
        unfold z_Pt_hasNumber
        rw [c_pthas h2, zbP_s, cif_pos c1, if_neg (by decide), if_neg (by omega), hkd, zbP_s, zrd_ok o1 (by omega), hst]
        by_cases z : x3 - 1 < (nbk (itm (Q.2.1 p) k).1 : Int)
        · rw [if_pos z, cif_pos z]
        · rw [if_neg z, cif_neg z]
      rw [w1, hn, zbP_s]
      by_cases c3 : x3 - 1 < (nbk (itm (Q.2.1 p) k).1 : Int)
      · rw [cif_pos c3, if_neg (by decide), zgr_s m2, zcs_s y1, zgf_s f1, zfe_p k1 hp4, zcs_s f5]
        have hnum := pc_num (N := N) (i := (x3 - 1).toNat) w.1 s.2 hp hk (show (x3 - 1).toNat < nbk (itm (Q.2.1 p) k).1 by omega)
        rw [show (((x3 - 1).toNat : Nat) : Int) = x3 - 1 by omega] at hnum
        rw [hnum, zbP_s]
        refine ⟨fun z => absurd ⟨t, c1.1, c1.2, by omega, by omega⟩ z, fun _ => ?_⟩
        show some (Sum.inl (ig (itm (Q.2.1 p) k) ((x3 - 1).toNat + 1)), A) = _
        rw [show (x3 - 1).toNat + 1 = x3.toNat by omega]
      · rw [cif_neg c3, if_pos rfl]
        exact ⟨fun _ => rfl, fun z => by have := z.2.2.2.2; omega⟩
theorem r_item (hQ : WO Q) (h : RPG A Q QB) : (¬ mayI Q x1 x2 x3 → ∃ v, z_M_item N x1 x2 x3 A = some (v, zsi (zsi A 226 0 0) 226 0 1)) ∧ (mayI Q x1 x2 x3 → z_M_item N x1 x2 x3 A = some (itemA Q x1 x2 x3, zsi A 226 0 0)) := by
  have f0 : fr (fun a j => a = 226 ∧ j = 0) A (zsi A 226 0 0) := fr_si ⟨rfl, rfl⟩
  have h1 := h.f0 f0 (fun a j q => by omega)
  unfold z_M_item itemA
  rw [zlet_s]
  generalize zsi A 226 0 0 = A1 at *
  have e31 : z_M_item_31 N A1 = some (0, zsi A1 226 0 1) := rfl
  have e60 : z_M_item_60 N A1 = some (0, zsi A1 226 0 1) := rfl
  rw [r_thr h1.2.2.1, zbP_s, e31, e60]
  by_cases t : thr Q x1
  rotate_left
  · rw [cif_neg t, if_pos rfl]
    exact ⟨fun _ => ⟨0, rfl⟩, fun z => absurd z.1 t⟩
  rw [cif_pos t, if_neg (by decide)]
  obtain ⟨p, rfl, hp4, hp⟩ := thr_n hQ t
  obtain ⟨s1, s2, s3⟩ := h1.1 p hp
  have s1 : ri A1 229 (4 * (0 : Int) + p) = (Q.2.1 p).length := s1
  have hl := (hQ.2 p hp).2.2.1
  unfold mayI
  rw [Int.toNat_natCast]
  by_cases c0 : x2 < 0
  · rw [if_pos c0]
    exact ⟨fun _ => ⟨0, rfl⟩, fun z => by have := z.2.1; omega⟩
  · rw [if_neg c0, z_M_row_e (by omega) (by omega), zbP_s, zrd_ok (by omega) (by omega), s1]
    by_cases c1 : x2 < ((Q.2.1 p).length : Int)
    rotate_left
    · rw [if_neg c1]
      exact ⟨fun _ => ⟨0, rfl⟩, fun z => absurd z.2.2.1 c1⟩
    rw [if_pos c1]
    obtain ⟨k, rfl⟩ : ∃ k : Nat, x2 = k := ⟨x2.toNat, by omega⟩
    have hk : k < (Q.2.1 p).length := by omega
    rw [Int.toNat_natCast]
    obtain ⟨o1, o2, -⟩ := (hQ.2 p hp).2.2.2 _ (itm_mem hk)
    have hkd := r_kind (N := N) (z := 0) hQ (by omega) h1.1 hp hk
    rw [show ((0 : Nat) : Int) = 0 from rfl] at hkd
    have hb := nbk_le (itm (Q.2.1 p) k).1
    rw [hkd, zbP_s]
    by_cases c2 : x3 < 0
    · rw [if_pos c2]
      exact ⟨fun _ => ⟨0, rfl⟩, fun z => by have := z.2.2.2.1; omega⟩
    · rw [if_neg c2, r_nums o1 o2, zbP_s]
      by_cases c3 : (nbk (itm (Q.2.1 p) k).1 : Int) < x3
      · rw [if_pos c3]
        exact ⟨fun _ => ⟨0, rfl⟩, fun z => by have := z.2.2.2.2; omega⟩
      · rw [if_neg c3]
        refine ⟨fun z => absurd ⟨t, by omega, c1, by omega, by omega⟩ z, fun _ => ?_⟩
        rw [z_M_field_e (by omega) (by omega) (by omega) (by omega) (by omega) (by omega), zbP_s]
        obtain ⟨u1, u2⟩ := s3 k hk
        by_cases c4 : x3 = 0
        · rw [c4, show (4 : Int) * 0 + p = 4 * ((0 : Nat) : Int) + p by omega, u1]
          rfl
        · have := u2 (x3.toNat - 1) (by omega)
          rw [show (((x3.toNat - 1 : Nat)) : Int) + 1 = x3 by omega, show x3.toNat - 1 + 1 = x3.toNat by omega] at this
          rw [show (4 : Int) * 0 + p = 4 * ((0 : Nat) : Int) + p by omega, this]
end
