noncomputable def if3 {α : Type} (p : Prop) (a b : α) : α := cif p a b
theorem if3_pos {α : Type} {p : Prop} {a b : α} (h : p) : if3 p a b = a := cif_pos h
theorem if3_neg {α : Type} {p : Prop} {a b : α} (h : ¬ p) : if3 p a b = b := cif_neg h
section
variable {N : Nat} {A : zA} {Q QB : Pr} {x1 x2 x3 x4 : Int}
theorem r_thr (h : zi A 226 6 = Q.1) : z_M_isThere N x1 A = some (cif (thr Q x1) 1 0) := by
  unfold z_M_isThere thr
  rw [h]
  by_cases c1 : x1 < 0
  · rw [if_pos c1, if_neg (by omega), cif_neg (by omega)]
  · rw [if_neg c1]
    by_cases c2 : x1 < Q.1
    · rw [if_pos c2, cif_pos (by omega)]
    · rw [if_neg c2]
      by_cases c : x1 = 3
      · rw [if_pos c, cif_pos (Or.inl c)]
      · rw [if_neg c, cif_neg (by omega)]
theorem r_nums {k : Int} (h0 : 0 ≤ k) (h12 : k ≤ 12) : z_M_numbersOf N k A = some (nbk k : Int) := by
  unfold z_M_numbersOf nbk
  rcases (show k = 0 ∨ k = 1 ∨ k = 2 ∨ k = 3 ∨ k = 4 ∨ k = 5 ∨ k = 6 ∨ k = 7 ∨ k = 8 ∨ k = 9 ∨ k = 10 ∨ k = 11 ∨ k = 12 by omega) with rfl | rfl | rfl | rfl | rfl | rfl | rfl | rfl | rfl | rfl | rfl | rfl | rfl <;> rfl
def qTc (a j : Nat) : Prop := qSt a j ∨ qCp 1 a j ∨ (a = 226 ∧ j = 0)
theorem r_tfail {x5 x7 s0 : Int} (h : x5 = 0) : z_M_touch_146 N x1 x2 x3 x4 x5 x7 s0 A = some (0, zsi A 226 0 1) := by
  unfold z_M_touch_146 z_M_touch_170 z_M_fail
  rw [if_pos h, zlet_s, zbI_s]
theorem r_tfail0 {x6 : Int} : z_M_touch_92 N x1 x2 x3 x4 x6 0 A = some (0, zsi A 226 0 1) := by
  have h1 : ∀ s, z_M_touch_109 N x1 x2 x3 x4 0 x6 s A = some (0, zsi A 226 0 1) := fun s => by
    unfold z_M_touch_109 z_M_touch_127
    rw [if_pos rfl]
    split
    · split
      · exact r_tfail rfl
      · exact r_tfail rfl
    · exact r_tfail rfl
  unfold z_M_touch_92
  split
  · split
    · exact h1 _
    · exact h1 _
  · exact h1 _
theorem r_touch_ok {kk : Int} {p : Nat} {i : It} (hk : i.1 = kk) (h0 : 0 ≤ kk) (h12 : kk ≤ 12) (hz : p < 4) (hr : ri A 230 p = Q.2.2 p) : z_M_touch_55 N p x2 x3 x4 1 kk A = if3 (mayN Q p i x3 x4) (z_M_touch_178 N p x2 x3 x4 A) (some (0, zsi A 226 0 1)) := by
  unfold z_M_touch_55
  rw [if_neg (by decide)]
  unfold mayN
  rw [hk]
  by_cases c3 : x3 < 0
  · rw [if_pos c3, if3_neg (by omega), r_tfail0]
  · rw [if_neg c3, r_nums h0 h12, zbP_s]
    by_cases c4 : x3 < (nbk kk : Int)
    · rw [if_pos c4]
      have h170 : z_M_touch_170 N A = some (0, zsi A 226 0 1) := rfl
      have h146 : ∀ s0 : Int, z_M_touch_146 N p x2 x3 x4 1 0 s0 A = if3 (0 ≤ x4 ∧ x4 < s0) (z_M_touch_178 N p x2 x3 x4 A) (some (0, zsi A 226 0 1)) := fun s0 => by
        unfold z_M_touch_146
        rw [if_neg (by decide), if_pos rfl, h170]
        by_cases d1 : x4 < 0
        · rw [if_pos d1, if3_neg (by omega)]
        · rw [if_neg d1]
          by_cases d2 : x4 < s0
          · rw [if_pos d2, if3_pos (by omega)]
          · rw [if_neg d2, if3_neg (by omega)]
      have h146' : ∀ s0 : Int, z_M_touch_146 N p x2 x3 x4 1 1 s0 A = z_M_touch_178 N p x2 x3 x4 A := fun s0 => by
        unfold z_M_touch_146
        rw [if_neg (by decide), if_neg (by decide)]
      have h127 : ∀ fl, z_M_touch_127 N p x2 x3 x4 1 fl A = z_M_touch_146 N p x2 x3 x4 1 fl (Q.2.2 p) A := fun fl => by
        unfold z_M_touch_127
        rw [if_neg (by decide), z_M_row_e (by omega) (by omega), zbP_s, zrd_ok (by omega) (by omega), show (4 * (0 : Int) + p) = p by omega, hr]
      have fin : ∀ q q' : Prop, (q ↔ q') → if3 q (z_M_touch_178 N p x2 x3 x4 A) (some (0, zsi A 226 0 1)) = if3 q' (z_M_touch_178 N p x2 x3 x4 A) (some (0, zsi A 226 0 1)) := fun q q' hq => by
        by_cases z : q
        · rw [if3_pos z, if3_pos (hq.mp z)]
        · rw [if3_neg z, if3_neg (fun y => z (hq.mpr y))]
      have h92 : z_M_touch_92 N p x2 x3 x4 kk 1 A = if3 ((kk = 0 ∧ x3 = 1) ∨ (kk = 2 ∧ x3 = 3 ∧ 0 ≤ x4 ∧ x4 ≤ 5) ∨ (¬ (kk = 0 ∧ x3 = 1) ∧ ¬ (kk = 2 ∧ x3 = 3) ∧ 0 ≤ x4 ∧ x4 < Q.2.2 p)) (z_M_touch_178 N p x2 x3 x4 A) (some (0, zsi A 226 0 1)) := by
        unfold z_M_touch_92 z_M_touch_109
        by_cases d0 : kk = 0
        · rw [if_pos d0]
          by_cases d1 : x3 = 1
          · rw [if_pos d1, if_neg (show ¬ kk = 2 by omega), h127, h146', if3_pos (by omega)]
          · rw [if_neg d1, if_neg (show ¬ kk = 2 by omega), h127, h146]
            exact fin _ _ (by omega)
        · rw [if_neg d0]
          by_cases d2 : kk = 2
          · rw [if_pos d2]
            by_cases d3 : x3 = 3
            · rw [if_pos d3, h146]
              exact fin _ _ (by omega)
            · rw [if_neg d3, h127, h146]
              exact fin _ _ (by omega)
          · rw [if_neg d2, h127, h146]
            exact fin _ _ (by omega)
      by_cases d7 : kk = 7
      · rw [if_pos d7]
        by_cases d1 : x3 = 1
        · rw [if_pos d1, r_tfail0, if3_neg (by omega)]
        · rw [if_neg d1, h92]
          exact fin _ _ (by omega)
      · rw [if_neg d7, h92]
        exact fin _ _ (by omega)
    · rw [if_neg c4, r_tfail0, if3_neg (by omega)]
theorem r_touch (hN : 300000 ≤ N) (hNk : kc 20 * 150 < N) (hG : GQ Q) (h : RPG A Q QB) (h4 : zw x4 = x4) : (¬ mayT Q x1 x2 x3 x4 → ∃ B, z_M_touch N x1 x2 x3 x4 A = some (0, B) ∧ zi B 226 0 = 1 ∧ RPG B Q QB ∧ fr (fun a j => a = 226 ∧ j = 0) A B) ∧ (mayT Q x1 x2 x3 x4 → ∃ B, z_M_touch N x1 x2 x3 x4 A = some (cif (Sam (wlC Q) (wlC (tchQ Q x1 x2 x3 x4))) 1 0, B) ∧ zi B 226 0 = 0 ∧ fr qTc A B ∧ ((Sam (wlC Q) (wlC (tchQ Q x1 x2 x3 x4)) ∧ RPG B (tchQ Q x1 x2 x3 x4) QB ∧ zi B 226 7 = zw (zi A 226 7 + 1) ∧ zi B 226 8 = zi A 226 8) ∨ (¬ Sam (wlC Q) (wlC (tchQ Q x1 x2 x3 x4)) ∧ RPG B Q QB ∧ zi B 226 7 = zi A 226 7 ∧ zi B 226 8 = zw (zi A 226 8 + 1)))) := by
  have f0 : fr (fun a j => a = 226 ∧ j = 0) A (zsi A 226 0 0) := fr_si ⟨rfl, rfl⟩
  have v0 : zi (zsi A 226 0 0) 226 0 = 0 := by rw [zi_si_s]; decide
  have rp : ∀ {X Y : zA}, RPG X Q QB → fr (fun a j => a = 226 ∧ j = 0) X Y → RPG Y Q QB := fun hx f => ⟨hx.1.fr f (fun a j q => by omega), hx.2.1.fr f (fun a j q => by omega), by rw [f.i (fun q => by omega)]; exact hx.2.2.1, hx.2.2.2.1.fr f (fun p hp q => by omega), hx.2.2.2.2.1.fr f (fun p hp q => by omega), hx.2.2.2.2.2.fr f (fun p hp q => by omega)⟩
  have h1 := rp h f0
  have i0 : ∀ j, j ≠ 0 → zi (zsi A 226 0 0) 226 j = zi A 226 j := fun j hj => zi_si_j hj
  have key : z_M_touch N x1 x2 x3 x4 A = if3 (mayT Q x1 x2 x3 x4) (z_M_touch_178 N x1 x2 x3 x4 (zsi A 226 0 0)) (some (0, zsi (zsi A 226 0 0) 226 0 1)) := by
    unfold z_M_touch
    rw [zlet_s, r_thr h1.2.2.1, zbP_s]
    have t0 : z_M_touch_36 N x1 x2 x3 x4 0 (zsi A 226 0 0) = some (0, zsi (zsi A 226 0 0) 226 0 1) := by
      unfold z_M_touch_36 z_M_touch_55
      rw [if_pos rfl, if_pos rfl, r_tfail0]
    by_cases t : thr Q x1
    · rw [cif_pos t, if_neg (by decide)]
      obtain ⟨p, rfl, hp4, hp⟩ := thr_n hG.1 t
      obtain ⟨s1, s2, s3⟩ := h1.1 p hp
      have hl := (hG.1.2 p hp).2.2.1
      have s1 : ri (zsi A 226 0 0) 229 (4 * (0 : Nat) + p) = (Q.2.1 p).length := s1
      rw [show (4 : Int) * ((0 : Nat) : Int) + p = 4 * 0 + (p : Int) by omega] at s1
      have s2 : ri (zsi A 226 0 0) 230 p = Q.2.2 p := by rw [show ((p : Nat) : Int) = 4 * ((0 : Nat) : Int) + p by omega]; exact s2
      by_cases c2 : x2 < 0
      · rw [if_pos c2, t0, if3_neg (fun z => by have := z.2.1; omega)]
      · rw [if_neg c2, z_M_row_e (by omega) (by omega), zbP_s, zrd_ok (by omega) (by omega), s1]
        by_cases c3 : x2 < ((Q.2.1 p).length : Int)
        · rw [if_pos c3]
          obtain ⟨k, rfl⟩ : ∃ k : Nat, x2 = k := ⟨x2.toNat, by omega⟩
          have hk : k < (Q.2.1 p).length := by omega
          obtain ⟨o1, o2, -⟩ := (hG.1.2 p hp).2.2.2 _ (itm_mem hk)
          have hkd : z_M_field N 0 p k 0 (zsi A 226 0 0) = some (itm (Q.2.1 p) k).1 := by
            rw [z_M_field_e (by omega) (by omega) (by omega) (by omega) (by omega) (by omega)]
            have := (s3 k hk).1
            rw [show (4 : Int) * ((0 : Nat) : Int) + p = 4 * 0 + (p : Int) by omega] at this
            rw [this]
          unfold z_M_touch_36
          rw [if_neg (by decide), hkd, zbP_s, r_touch_ok (i := itm (Q.2.1 p) k) rfl o1 o2 hp4 s2]
          by_cases m : mayN Q p (itm (Q.2.1 p) k) x3 x4
          · rw [if3_pos m, if3_pos ⟨t, by omega, by rw [Int.toNat_natCast]; exact c3, by rw [Int.toNat_natCast, Int.toNat_natCast]; exact m⟩]
          · rw [if3_neg m, if3_neg (fun z => m (by have := z.2.2.2; rw [Int.toNat_natCast, Int.toNat_natCast] at this; exact this))]
        · rw [if_neg c3, t0, if3_neg (fun z => by have := z.2.2.1; rw [Int.toNat_natCast] at this; omega)]
    · rw [cif_neg t, if_pos rfl, t0, if3_neg (fun z => t z.1)]
  rw [key]
  refine ⟨fun hm => ?_, fun hm => ?_⟩
  · rw [if3_neg hm]
    have f1 : fr (fun a j => a = 226 ∧ j = 0) (zsi A 226 0 0) (zsi (zsi A 226 0 0) 226 0 1) := fr_si ⟨rfl, rfl⟩
    exact ⟨_, rfl, by rw [zi_si_s]; decide, rp h1 f1, f0.trans f1⟩
  · rw [if3_pos hm]
    have hG' := tch_ok hG h4 hm
    generalize hA1 : zsi A 226 0 0 = A1 at *
    obtain ⟨t1, t2, t3, t4⟩ := hm
    obtain ⟨p, rfl, hp4, hp⟩ := thr_n hG.1 t1
    rw [Int.toNat_natCast] at t3 t4
    obtain ⟨k, rfl⟩ : ∃ k : Nat, x2 = k := ⟨x2.toNat, by omega⟩
    rw [Int.toNat_natCast] at t4
    have hk : k < (Q.2.1 p).length := by omega
    have hb := nbk_le (itm (Q.2.1 p) k).1
    have hl := (hG.1.2 p hp).2.2.1
    obtain ⟨v1, v2, v3, v4⟩ := t4
    obtain ⟨j, rfl⟩ : ∃ j : Nat, x3 = j := ⟨x3.toNat, by omega⟩
    unfold z_M_touch_178
    obtain ⟨C, c1, c2, c3, c4⟩ := r_copyState' (N := N) (x := 0) (y := 1) hN (by omega) (by omega) (by omega) h1.2.2.2.1 hG.1 h1.1
    rw [show ((0 : Nat) : Int) = 0 from rfl, show ((1 : Nat) : Int) = 1 from rfl] at c1
    rw [c1, zbV_s, z_M_place_e (by omega) (by omega) (by omega) (by omega), zbP_s, zwr_ok (by unfold rad; omega) (by unfold rad; omega)]
    have g2 : fr (fun a e => a = 228 ∧ e = 5 * (240 * (4 + p) + k) + 1 + j) C (rs C 228 (rad (4 * 1 + p) k 0 + 1 + j) x4) := fr_rs ⟨rfl, by unfold rad; omega⟩
    have g3 : ∀ e : Int, 0 ≤ e → ri (rs C 228 (rad (4 * 1 + p) k 0 + 1 + j) x4) 228 e = if e = rad (4 * 1 + p) k 0 + 1 + j then x4 else ri C 228 e := fun e he => by rw [ri_rs (by unfold rad; omega) he, h4]
    have iC : ∀ q, q ≠ 0 → zi (rs C 228 (rad (4 * 1 + p) k 0 + 1 + j) x4) 226 q = zi A 226 q := fun q hq => by rw [zi_rs_o (by decide), c4.i (fun z => by unfold qCp at z; omega), i0 q hq]
    have iC0 : zi (rs C 228 (rad (4 * 1 + p) k 0 + 1 + j) x4) 226 0 = 0 := by rw [zi_rs_o (by decide), c4.i (fun z => by unfold qCp at z; omega)]; exact v0
    generalize rs C 228 (rad (4 * 1 + p) k 0 + 1 + j) x4 = E at *
    have htq : tchQ Q p k j x4 = updP Q p ((Q.2.1 p).set k (setN (itm (Q.2.1 p) k) j x4)) := by
      unfold tchQ
      rw [Int.toNat_natCast, Int.toNat_natCast, Int.toNat_natCast]
    rw [htq] at hG' ⊢
    have hE1 : RSt E 1 (updP Q p ((Q.2.1 p).set k (setN (itm (Q.2.1 p) k) j x4))) := fun q hq => by
      have hq' : exP Q q := hq
      have hq3 := exP3 hG.1 hq'
      have hlq := (hG.1.2 q hq').2.2.1
      obtain ⟨d1, d2, d3⟩ := c2 q hq'
      have d1 : ri C 229 (4 * ((1 : Nat) : Int) + q) = (Q.2.1 q).length := d1
      have ge : ∀ (m i : Nat), i < 5 → m < 240 → ri E 228 (rad (4 * ((1 : Nat) : Int) + q) m i) = if q = p ∧ m = k ∧ i = j + 1 then x4 else ri C 228 (rad (4 * ((1 : Nat) : Int) + q) m i) := fun m i hi hm' => by
        rw [g3 _ (by unfold rad; omega)]
        by_cases z : q = p ∧ m = k ∧ i = j + 1
        · rw [if_pos (by obtain ⟨a, b, c⟩ := z; subst a; subst b; subst c; unfold rad; omega), if_pos z]
        · rw [if_neg (fun y => z (by unfold rad at y; omega)), if_neg z]
      by_cases e : q = p
      · subst e
        rw [updP_s, List.length_set]
        refine ⟨by unfold rn; rw [g2.e (fun z => by omega)]; exact d1, by rw [g2.e (fun z => by omega)]; exact d2, fun m hm' => ?_⟩
        obtain ⟨e1, e2⟩ := d3 m hm'
        rw [itm_set hm']
        have := ge m 0 (by omega) (by omega)
        rw [show ((0 : Nat) : Int) = 0 from rfl, if_neg (by omega)] at this
        by_cases z : m = k
        · subst z
          rw [if_pos rfl, setN_1]
          refine ⟨by rw [this]; exact e1, fun i hi => ?_⟩
          have := ge m (i + 1) (by omega) (by omega)
          rw [show ((i + 1 : Nat) : Int) = (i : Int) + 1 by omega] at this
          rw [this, setN_g _ _ (by omega) (by omega)]
          by_cases y : i = j
          · rw [if_pos ⟨rfl, rfl, by omega⟩, if_pos y]
          · rw [if_neg (by omega), if_neg y]; exact e2 i hi
        · rw [if_neg z]
          refine ⟨by rw [this]; exact e1, fun i hi => ?_⟩
          have hbm := nbk_le (itm (Q.2.1 q) m).1
          have := ge m (i + 1) (by omega) (by omega)
          rw [show ((i + 1 : Nat) : Int) = (i : Int) + 1 by omega] at this
          rw [this, if_neg (by omega)]; exact e2 i hi
      · rw [updP_o e]
        refine ⟨by unfold rn; rw [g2.e (fun z => by omega)]; exact d1, by rw [g2.e (fun z => by omega)]; exact d2, fun m hm' => ?_⟩
        obtain ⟨e1, e2⟩ := d3 m hm'
        have hbm := nbk_le (itm (Q.2.1 q) m).1
        have := ge m 0 (by omega) (by omega)
        rw [show ((0 : Nat) : Int) = 0 from rfl, if_neg (by omega)] at this
        refine ⟨by rw [this]; exact e1, fun i hi => ?_⟩
        have := ge m (i + 1) (by omega) (by omega)
        rw [show ((i + 1 : Nat) : Int) = (i : Int) + 1 by omega] at this
        rw [this, if_neg (by omega)]; exact e2 i hi
    have FE : fr (fun a e => (a = 228 ∧ 4800 ≤ e ∧ e < 9600) ∨ ((a = 229 ∨ a = 230) ∧ 4 ≤ e ∧ e < 8)) A1 E := (c4.mono (fun a e q => by unfold qCp at q; omega)).trans (g2.mono (fun a e q => by omega))
    have hRE : RPG E Q QB := by
      obtain ⟨r0, r2, r6, l0, l1, l2⟩ := h1
      have st : ∀ (z : Nat) (U : Pr), z ≠ 1 → z < 3 → WO U → RSt A1 z U → RSt E z U := fun z U hz1 hz3 hU hs q hq => by
        have hq3 := exP3 hU hq
        have hlq := (hU.2 q hq).2.2.1
        obtain ⟨d1, d2, d3⟩ := hs q hq
        refine ⟨by unfold rn at *; rw [FE.e (fun y => by omega)]; exact d1, by rw [FE.e (fun y => by omega)]; exact d2, fun m hm' => ?_⟩
        have hbm := nbk_le (itm (U.2.1 q) m).1
        exact ⟨by rw [FE.e (fun y => by unfold rad at y; omega)]; exact (d3 m hm').1, fun i hi => by rw [FE.e (fun y => by unfold rad at y; omega)]; exact (d3 m hm').2 i hi⟩
      refine ⟨st 0 Q (by omega) (by omega) hG.1 r0, ?_, by rw [iC 6 (by omega), ← i0 6 (by omega)]; exact r6, l0.fr FE (fun q hq z => by omega), c3.fr g2 (fun q hq z => by omega), l2.fr FE (fun q hq z => by omega)⟩
      intro q hq
      obtain ⟨d1, d2, d3⟩ := r2 q hq
      have hge : ∀ (m i : Nat), (8 * 1200 : Int) ≤ rad (4 * ((2 : Nat) : Int) + q) m i := fun m i => by unfold rad; omega
      refine ⟨by unfold rn at *; rw [FE.e (fun y => by omega)]; exact d1, by rw [FE.e (fun y => by omega)]; exact d2, fun m hm' => ⟨by have := hge m 0; rw [FE.e (fun y => by unfold rad at y; omega)]; exact (d3 m hm').1, fun i hi => by rw [FE.e (fun y => by unfold rad at y; omega)]; exact (d3 m hm').2 i hi⟩⟩
    obtain ⟨Z, z1, z2, z3⟩ := r_settle (N := N) hN hNk hG hG' hRE hE1 rfl
    rw [z1, zbI_s]
    rw [iC 7 (by omega), iC 8 (by omega)] at z3
    have z0 : zi Z 226 0 = 0 := by
      rw [z2.i (fun q => by
        unfold qSt qA qCp at q
        omega)]
      exact iC0
    refine ⟨Z, ?_, z0, ((f0.mono (fun a e q => Or.inr (Or.inr q))).trans (FE.mono (fun a e q => Or.inr (Or.inl (by unfold qCp; omega))))).trans (z2.mono (fun a e q => Or.inl q)), z3⟩
    rw [if_pos (by
      by_cases c : Sam (wlC Q) (wlC (updP Q p ((Q.2.1 p).set k (setN (itm (Q.2.1 p) k) j x4))))
      · rw [cif_pos c]; exact Or.inr rfl
      · rw [cif_neg c]; exact Or.inl rfl)]
end
