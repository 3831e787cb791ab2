section
variable {N : Nat} {A E : zA} {Q QB : Pr} {x1 x2 : Int}
theorem rst_keep {F : Nat → Nat → Prop} {z : Nat} {U : Pr} (h : RSt A z U) (hU : WO U) (hz : z ≠ 1) (f : fr F A E) (hq : ∀ a j, F a j → (a = 228 → 4800 ≤ j ∧ j < 9600) ∧ (a = 229 ∨ a = 230 → 4 ≤ j ∧ j < 8)) : RSt E z U := fun q hq' => by
  have hq3 := exP3 hU hq'
  have hlq := (hU.2 q hq').2.2.1
  obtain ⟨d1, d2, d3⟩ := h q hq'
  have e : ∀ a e, (a = 228 ∧ (e.toNat < 4800 ∨ 9600 ≤ e.toNat)) ∨ ((a = 229 ∨ a = 230) ∧ (e.toNat < 4 ∨ 8 ≤ e.toNat)) → ri E a e = ri A a e := fun a e he => f.e (fun y => by have := hq _ _ y; omega)
  refine ⟨by unfold rn at *; rw [e _ _ (by omega)]; exact d1, by rw [e _ _ (by omega)]; exact d2, fun m hm' => ?_⟩
  have hbm := nbk_le (itm (U.2.1 q) m).1
  exact ⟨by rw [e _ _ (by unfold rad; omega)]; exact (d3 m hm').1, fun i hi => by rw [e _ _ (by unfold rad; omega)]; exact (d3 m hm').2 i hi⟩
theorem RPG.edit {F : Nat → Nat → Prop} (h : RPG A Q QB) (hQ : WO Q) (hB : WO QB) (f : fr F A E) (hq : ∀ a j, F a j → (a = 228 → 4800 ≤ j ∧ j < 9600) ∧ (a = 229 ∨ a = 230 → 4 ≤ j ∧ j < 8) ∧ (a = 226 → j ≠ 6)) (hl : RL E 1) : RPG E Q QB := by
  obtain ⟨r0, r2, r6, l0, l1, l2⟩ := h
  exact ⟨rst_keep r0 hQ (by omega) f (fun a j z => ⟨(hq a j z).1, (hq a j z).2.1⟩), rst_keep r2 hB (by omega) f (fun a j z => ⟨(hq a j z).1, (hq a j z).2.1⟩), by rw [f.i (fun z => (hq _ _ z).2.2 rfl rfl)]; exact r6, l0.fr f (fun p hp z => by have := (hq _ _ z).2.1 (Or.inl rfl); omega), hl, l2.fr f (fun p hp z => by have := (hq _ _ z).2.1 (Or.inl rfl); omega)⟩
theorem RPG.f0 {F : Nat → Nat → Prop} (h : RPG A Q QB) (f : fr F A E) (hq : ∀ a j, F a j → a ≠ 228 ∧ a ≠ 229 ∧ a ≠ 230 ∧ (a = 226 → j ≠ 6)) : RPG E Q QB := by
  obtain ⟨r0, r2, r6, l0, l1, l2⟩ := h
  exact ⟨r0.fr f (fun a j z => by have := hq a j z; omega), r2.fr f (fun a j z => by have := hq a j z; omega), by rw [f.i (fun z => (hq _ _ z).2.2.2 rfl rfl)]; exact r6, l0.fr f (fun p hp z => (hq _ _ z).2.1 rfl), l1.fr f (fun p hp z => (hq _ _ z).2.1 rfl), l2.fr f (fun p hp z => (hq _ _ z).2.1 rfl)⟩
theorem r_kind {p k : Nat} {z : Nat} (hQ : WO Q) (hz : z < 3) (h : RSt A z Q) (hp : exP Q p) (hk : k < (Q.2.1 p).length) : z_M_field N z p k 0 A = some (itm (Q.2.1 p) k).1 := by
  have hq3 := exP3 hQ hp
  have hlq := (hQ.2 p hp).2.2.1
  rw [z_M_field_e (by omega) (by omega) (by omega) (by omega) (by omega) (by omega), ((h p hp).2.2 k hk).1]
theorem r_swap (hN : 300000 ≤ N) (hNk : kc 20 * 150 < N) (hG : GQ Q) (hGB : GQ QB) (h : RPG A Q QB) (hx2 : zw x2 = x2) : (¬ maySw Q x1 x2 → ∃ B, z_M_swap N x1 x2 A = some (0, B) ∧ zi B 226 0 = 1 ∧ RPG B Q QB ∧ fr (fun a j => a = 226 ∧ j = 0) A B) ∧ (maySw Q x1 x2 → ∃ B, z_M_swap N x1 x2 A = some (cif (Sam (wlC Q) (wlC (swpQ Q x1 x2))) 1 0, B) ∧ zi B 226 0 = 0 ∧ fr qTc A B ∧ ((Sam (wlC Q) (wlC (swpQ Q x1 x2)) ∧ RPG B (swpQ Q x1 x2) QB ∧ zi B 226 7 = zw (zi A 226 7 + 1) ∧ zi B 226 8 = zi A 226 8) ∨ (¬ Sam (wlC Q) (wlC (swpQ Q x1 x2)) ∧ RPG B Q QB ∧ zi B 226 7 = zi A 226 7 ∧ zi B 226 8 = zw (zi A 226 8 + 1)))) := by
  have f0 : fr (fun a j => a = 226 ∧ j = 0) A (zsi A 226 0 0) := fr_si ⟨rfl, rfl⟩
  have v0 : zi (zsi A 226 0 0) 226 0 = 0 := by rw [zi_si_s]; decide
  have i0 : ∀ j, j ≠ 0 → zi (zsi A 226 0 0) 226 j = zi A 226 j := fun j hj => zi_si_j hj
  have h1 := h.f0 f0 (fun a j q => by omega)
  have key : z_M_swap N x1 x2 A = if3 (maySw Q x1 x2) (z_M_swap_76 N x1 x2 1 (zsi A 226 0 0)) (some (0, zsi (zsi A 226 0 0) 226 0 1)) := by
    unfold z_M_swap
    have t0 : z_M_swap_76 N x1 x2 0 (zsi A 226 0 0) = some (0, zsi (zsi A 226 0 0) 226 0 1) := by
      unfold z_M_swap_76 z_M_fail
      rw [if_pos rfl, zlet_s, zbI_s]
    have t1 : z_M_swap_38 N x1 x2 0 (zsi A 226 0 0) = some (0, zsi (zsi A 226 0 0) 226 0 1) := by
      unfold z_M_swap_38
      rw [if_pos rfl, t0]
    rw [zlet_s, r_thr h1.2.2.1, zbP_s]
    by_cases t : thr Q x1
    · rw [cif_pos t, if_neg (by decide)]
      obtain ⟨p, rfl, hp4, hp⟩ := thr_n hG.1 t
      obtain ⟨s1, s2, s3⟩ := h1.1 p hp
      have hl := (hG.1.2 p hp).2.2.1
      have s1 : ri (zsi A 226 0 0) 229 (4 * (0 : Int) + p) = (Q.2.1 p).length := s1
      by_cases c2 : x2 < 0
      · rw [if_pos c2, t1, if3_neg (fun z => by have := z.2.1; omega)]
      · rw [if_neg c2, z_M_row_e (by omega) (by omega), zbP_s, zrd_ok (by omega) (by omega), s1, yb_w (by omega) (by omega)]
        by_cases c3 : x2 < ((Q.2.1 p).length : Int) - 1
        · rw [if_pos c3]
          obtain ⟨k, rfl⟩ : ∃ k : Nat, x2 = k := ⟨x2.toNat, by omega⟩
          have w1 : zw ((k : Int) + 1) = ((k + 1 : Nat) : Int) := by rw [yb_w (by omega) (by omega)]; omega
          unfold z_M_swap_38
          have r1 := r_kind (N := N) (z := 0) (k := k) hG.1 (by omega) h1.1 hp (by omega)
          have r2 := r_kind (N := N) (z := 0) (k := k + 1) hG.1 (by omega) h1.1 hp (by omega)
          rw [show ((0 : Nat) : Int) = 0 from rfl] at r1 r2
          rw [if_neg (by decide), r1, zbP_s, w1, r2]
          by_cases d1 : (itm (Q.2.1 p) k).1 < 8
          · rw [if_pos d1, zbP_s]
            by_cases d2 : (itm (Q.2.1 p) (k + 1)).1 < 8
            · rw [if_pos d2, if3_pos ⟨t, by omega, by rw [Int.toNat_natCast]; omega, by rw [Int.toNat_natCast, Int.toNat_natCast]; omega, by rw [Int.toNat_natCast, Int.toNat_natCast]; omega⟩]
            · rw [if_neg d2, t0, if3_neg (fun z => by have := z.2.2.2.2; rw [Int.toNat_natCast, Int.toNat_natCast] at this; omega)]
          · rw [if_neg d1, t0, if3_neg (fun z => by have := z.2.2.2.1; rw [Int.toNat_natCast, Int.toNat_natCast] at this; omega)]
        · rw [if_neg c3, t1, if3_neg (fun z => by have := z.2.2.1; rw [Int.toNat_natCast] at this; omega)]
    · rw [cif_neg t, if_pos rfl, t1, if3_neg (fun z => t z.1)]
  rw [key]
  refine ⟨fun hm => ?_, fun hm => ?_⟩
  · rw [if3_neg hm]
    have f1 : fr (fun a j => a = 226 ∧ j = 0) (zsi A 226 0 0) (zsi (zsi A 226 0 0) 226 0 1) := fr_si ⟨rfl, rfl⟩
    exact ⟨_, rfl, by rw [zi_si_s]; decide, h1.f0 f1 (fun a j q => by omega), f0.trans f1⟩
  · rw [if3_pos hm]
    have hG' := swp_ok hG hm
    generalize hA1 : zsi A 226 0 0 = A1 at *
    obtain ⟨t1, t2, t3, t4, t5⟩ := hm
    obtain ⟨p, rfl, hp4, hp⟩ := thr_n hG.1 t1
    rw [Int.toNat_natCast] at t3 t4 t5
    obtain ⟨k, rfl⟩ : ∃ k : Nat, x2 = k := ⟨x2.toNat, by omega⟩
    rw [Int.toNat_natCast] at t4 t5
    have hl := (hG.1.2 p hp).2.2.1
    have hkk : k + 1 < (Q.2.1 p).length := by omega
    have htq : swpQ Q p k = updP Q p (swp (Q.2.1 p) k) := by
      unfold swpQ
      rw [Int.toNat_natCast, Int.toNat_natCast]
    rw [htq] at hG' ⊢
    have w1 : zw ((k : Int) + 1) = ((k + 1 : Nat) : Int) := by rw [yb_w (by omega) (by omega)]; omega
    unfold z_M_swap_76
    obtain ⟨C, c1, c2, c3, c4⟩ := r_copyState' (N := N) (x := 0) (y := 1) hN (by omega) (by omega) (by omega) h1.2.2.2.1 hG.1 h1.1
    rw [show ((0 : Nat) : Int) = 0 from rfl, show ((1 : Nat) : Int) = 1 from rfl] at c1
    have pl : ∀ (z m : Nat) (X : zA), z < 2 → m ≤ 240 → z_M_place N z p m X = some ((5 * (240 * (4 * z + p) + m) : Nat) : Int) := fun z m X hz hm => by
      rw [z_M_place_e (by omega) (by omega) (by omega) (by omega)]
      unfold rad
      congr 1
    have p1 := pl 0 k C (by omega) (by omega)
    have p2 := pl 1 (k + 1) C (by omega) (by omega)
    rw [show ((0 : Nat) : Int) = 0 from rfl] at p1
    rw [show ((1 : Nat) : Int) = 1 from rfl] at p2
    rw [if_neg (by decide), c1, zbV_s, w1, p1, zbP_s, p2, zbP_s]
    obtain ⟨D1, d1, d2, d3⟩ := r_copyItem' (N := N) (A := C) (x := 5 * (240 * (4 * 0 + p) + k)) (y := 5 * (240 * (4 * 1 + p) + (k + 1))) hN (by omega) (by omega) (by omega)
    have p3 := pl 0 (k + 1) D1 (by omega) (by omega)
    have p4 := pl 1 k D1 (by omega) (by omega)
    rw [show ((0 : Nat) : Int) = 0 from rfl] at p3
    rw [show ((1 : Nat) : Int) = 1 from rfl] at p4
    rw [d1, zbV_s, p3, zbP_s, p4, zbP_s]
    obtain ⟨D2, e1, e2, e3⟩ := r_copyItem' (N := N) (A := D1) (x := 5 * (240 * (4 * 0 + p) + (k + 1))) (y := 5 * (240 * (4 * 1 + p) + k)) hN (by omega) (by omega) (by omega)
    rw [e1, zbV_s]
    have FE : fr (fun a e => (a = 228 ∧ 4800 ≤ e ∧ e < 9600) ∨ ((a = 229 ∨ a = 230) ∧ 4 ≤ e ∧ e < 8)) A1 D2 := ((c4.mono (fun a e q => by unfold qCp at q; omega)).trans (d3.mono (fun a e q => by omega))).trans (e3.mono (fun a e q => by omega))
    have lD : RL D2 1 := (c3.fr d3 (fun q hq z => by omega)).fr e3 (fun q hq z => by omega)
    have hRE : RPG D2 Q QB := h1.edit hG.1 hGB.1 FE (fun a j q => by omega) lD
    have s0 := h1.1
    -- what stands in next's part
    have items : ∀ (m i : Nat), m < (Q.2.1 p).length → i < 5 → ri D2 228 (rad (4 * ((1 : Nat) : Int) + p) m i) = if m = k then ri A1 228 (rad (4 * ((0 : Nat) : Int) + p) (k + 1) i) else if m = k + 1 then ri A1 228 (rad (4 * ((0 : Nat) : Int) + p) k i) else ri C 228 (rad (4 * ((1 : Nat) : Int) + p) m i) := fun m i hm hi => by
      have cA : ∀ q : Nat, q < 240 → ri C 228 (rad (4 * ((0 : Nat) : Int) + p) q i) = ri A1 228 (rad (4 * ((0 : Nat) : Int) + p) q i) := fun q hq => c4.e (fun z => by unfold qCp rad at z; omega)
      by_cases z1 : m = k
      · rw [if_pos z1, z1]
        have := e2 i hi
        rw [show rad (4 * ((1 : Nat) : Int) + p) k i = ((5 * (240 * (4 * 1 + p) + k) : Nat) : Int) + i by unfold rad; omega, this, d3.e (fun z => by omega), show (((5 * (240 * (4 * 0 + p) + (k + 1)) : Nat) : Int) + i) = rad (4 * ((0 : Nat) : Int) + p) ((k + 1 : Nat) : Int) i by unfold rad; omega, cA (k + 1) (by omega), show ((k + 1 : Nat) : Int) = (k : Int) + 1 by omega]
      · rw [if_neg z1]
        by_cases z2 : m = k + 1
        · rw [if_pos z2, z2]
          have := d2 i hi
          rw [e3.e (fun z => by unfold rad at z; omega), show rad (4 * ((1 : Nat) : Int) + p) ((k + 1 : Nat) : Int) i = ((5 * (240 * (4 * 1 + p) + (k + 1)) : Nat) : Int) + i by unfold rad; omega, this, show (((5 * (240 * (4 * 0 + p) + k) : Nat) : Int) + i) = rad (4 * ((0 : Nat) : Int) + p) k i by unfold rad; omega, cA k (by omega)]
        · rw [if_neg z2, e3.e (fun z => by unfold rad at z; omega), d3.e (fun z => by unfold rad at z; omega)]
    have hE1 : RSt D2 1 (updP Q p (swp (Q.2.1 p) k)) := fun q hq => by
      have hq' : exP Q q := hq
      have hq3 := exP3 hG.1 hq'
      have hlq := (hG.1.2 q hq').2.2.1
      obtain ⟨g1, g2, g3⟩ := c2 q hq'
      have cn9 : ∀ a e, (a = 229 ∨ a = 230) → ri D2 a e = ri C a e := fun a e ha => by rw [e3.e (fun z => by omega), d3.e (fun z => by omega)]
      by_cases e : q = p
      · subst e
        rw [updP_s, swp_len hkk]
        refine ⟨by unfold rn at *; rw [cn9 _ _ (by omega)]; exact g1, by rw [cn9 _ _ (by omega)]; exact g2, fun m hm => ?_⟩
        obtain ⟨u1, u2⟩ := (s0 q hq').2.2 k (by omega)
        obtain ⟨v1, v2⟩ := (s0 q hq').2.2 (k + 1) (by omega)
        rw [show ((k + 1 : Nat) : Int) = (k : Int) + 1 by omega] at v1 v2
        obtain ⟨y1, y2⟩ := g3 m hm
        have i00 := items m 0 hm (by omega)
        rw [show ((0 : Nat) : Int) = 0 from rfl] at i00 u1 v1
        have i11 : ∀ i : Nat, i < 4 → ri D2 228 (rad (4 * ((1 : Nat) : Int) + q) m ((i : Int) + 1)) = if m = k then ri A1 228 (rad (4 * ((0 : Nat) : Int) + q) (k + 1) ((i : Int) + 1)) else if m = k + 1 then ri A1 228 (rad (4 * ((0 : Nat) : Int) + q) k ((i : Int) + 1)) else ri C 228 (rad (4 * ((1 : Nat) : Int) + q) m ((i : Int) + 1)) := fun i hi => by
          have := items m (i + 1) hm (by omega)
          rw [show ((i + 1 : Nat) : Int) = (i : Int) + 1 by omega] at this
          exact this
        rw [swp_itm hkk hm]
        by_cases z1 : m = k
        · rw [if_pos z1]
          rw [if_pos z1] at i00
          have hb := nbk_le (itm (Q.2.1 q) (k + 1)).1
          exact ⟨i00.trans v1, fun i hi => by have := i11 i (by omega); rw [if_pos z1] at this; exact this.trans (v2 i hi)⟩
        · rw [if_neg z1]
          rw [if_neg z1] at i00
          by_cases z2 : m = k + 1
          · rw [if_pos z2]
            rw [if_pos z2] at i00
            have hb := nbk_le (itm (Q.2.1 q) k).1
            exact ⟨i00.trans u1, fun i hi => by have := i11 i (by omega); rw [if_neg z1, if_pos z2] at this; exact this.trans (u2 i hi)⟩
          · rw [if_neg z2]
            rw [if_neg z2] at i00
            have hb := nbk_le (itm (Q.2.1 q) m).1
            exact ⟨i00.trans y1, fun i hi => by have := i11 i (by omega); rw [if_neg z1, if_neg z2] at this; exact this.trans (y2 i hi)⟩
      · rw [updP_o e]
        refine ⟨by unfold rn at *; rw [cn9 _ _ (by omega)]; exact g1, by rw [cn9 _ _ (by omega)]; exact g2, fun m hm => ?_⟩
        have hb := nbk_le (itm (Q.2.1 q) m).1
        have cm : ∀ i : Int, 0 ≤ i → i < 5 → ri D2 228 (rad (4 * ((1 : Nat) : Int) + q) m i) = ri C 228 (rad (4 * ((1 : Nat) : Int) + q) m i) := fun i h0 h5 => by rw [e3.e (fun z => by unfold rad at z; omega), d3.e (fun z => by unfold rad at z; omega)]
        exact ⟨by rw [cm 0 (by omega) (by omega)]; exact (g3 m hm).1, fun i hi => by rw [cm _ (by omega) (by omega)]; exact (g3 m hm).2 i hi⟩
    obtain ⟨Z, z1, z2, z3⟩ := r_settle (N := N) hN hNk hG hG' hRE hE1 rfl
    rw [z1, zbI_s]
    have iD : ∀ q, zi D2 226 q = zi A1 226 q := fun q => FE.i (fun z => by omega)
    rw [iD, iD, i0 7 (by omega), i0 8 (by omega)] at z3
    have zz : zi Z 226 0 = 0 := by
      rw [z2.i (fun q => by
        unfold qSt qA qCp at q
        omega), iD]
      exact v0
    refine ⟨Z, ?_, zz, ((f0.mono (fun a e q => Or.inr (Or.inr q))).trans (FE.mono (fun a e q => Or.inr (Or.inl (by unfold qCp; omega))))).trans (z2.mono (fun a e q => Or.inl q)), z3⟩
    rw [if_pos (cif_01 _)]
end
