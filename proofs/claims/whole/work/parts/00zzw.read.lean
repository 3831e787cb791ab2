/-! reading items of a part -/
def wri (i : It) : Int := if i.1 ≤ 3 ∨ i.1 = 5 then ig i 1 else -1
def hrm (i : It) : Prop := i.1 = 0 ∨ i.1 = 1 ∨ (i.1 = 2 ∧ ig i 4 ≠ 3)
def okL (T p g : Nat) (X : List It) : Prop := ∀ i ∈ X, okI T p g i
theorem nbk_13 : ∀ k : Fin 13, nbk (k.val : Int) = [2, 2, 4, 2, 2, 1, 1, 2, 1, 0, 0, 1, 0][k.val] := by decide
theorem nbk_v {k : Int} (h0 : 0 ≤ k) (h12 : k ≤ 12) : (k = 0 ∧ nbk k = 2) ∨ (k = 1 ∧ nbk k = 2) ∨ (k = 2 ∧ nbk k = 4) ∨ (k = 3 ∧ nbk k = 2) ∨ (k = 4 ∧ nbk k = 2) ∨ (k = 5 ∧ nbk k = 1) ∨ (k = 6 ∧ nbk k = 1) ∨ (k = 7 ∧ nbk k = 2) ∨ (k = 8 ∧ nbk k = 1) ∨ (k = 9 ∧ nbk k = 0) ∨ (k = 10 ∧ nbk k = 0) ∨ (k = 11 ∧ nbk k = 1) ∨ (k = 12 ∧ nbk k = 0) := by
  rcases (show k = 0 ∨ k = 1 ∨ k = 2 ∨ k = 3 ∨ k = 4 ∨ k = 5 ∨ k = 6 ∨ k = 7 ∨ k = 8 ∨ k = 9 ∨ k = 10 ∨ k = 11 ∨ k = 12 by omega) with rfl | rfl | rfl | rfl | rfl | rfl | rfl | rfl | rfl | rfl | rfl | rfl | rfl <;> decide
section
variable {N : Nat} {A B : zA} {o : Nat} {X : List It} {g k T p h : Nat}
theorem cp_kind (hO : Own A) (ho : pto.contains o = true) (hx : CP A o X g) (hk : k < X.length) : z_Pt_kind N o k A = some (itm X k).1 := by
  obtain ⟨⟨p1, p2, p3, p4, p5, p6⟩, x2, x3, x4⟩ := hx
  have hd := pto_dy ho
  have h0 := (x4 k hk).1
  unfold cw at h0
  unfold cn at x2 p2 p3
  unfold z_Pt_kind
  rw [if_neg (by omega), if_pos (by omega), zgr_d hO hd (by decide), zrD_d hO hd (by decide) (by omega) (by omega), show (k : Int) * 5 = 5 * (k : Int) + 0 by omega, h0]
theorem cp_num {i : Nat} (hO : Own A) (ho : pto.contains o = true) (hx : CP A o X g) (hk : k < X.length) (hi : i < nbk (itm X k).1) : z_Pt_number N o k i A = some (ig (itm X k) (i + 1)) := by
  obtain ⟨⟨p1, p2, p3, p4, p5, p6⟩, x2, x3, x4⟩ := hx
  have hd := pto_dy ho
  have h0 := (x4 k hk).2 i hi
  have hb := nbk_le (itm X k).1
  unfold cw at h0
  unfold cn at x2 p2 p3
  unfold z_Pt_number z_Pt_number_26
  rw [if_neg (by omega), if_pos (by omega), if_neg (by omega), if_pos (by omega), if_neg (by decide), zgr_d hO hd (by decide), zrD_d hO hd (by decide) (by omega) (by omega), show (k : Int) * 5 + 1 + i = 5 * (k : Int) + ((i : Int) + 1) by omega, h0]
theorem cp_reg {i : Nat} (hO : Own A) (ho : pto.contains o = true) (hx : CP A o X g) (hok : okI T p h (itm X k)) (hg : h ≤ 60) (hk : k < X.length) (hi : i < nbk (itm X k).1) (hr : isr (itm X k).1 i) : z_Pt_register N o k i A = some (ig (itm X k) (i + 1)) := by
  have hok := (hok.2.2.1 i hi).2.2 hr
  obtain ⟨⟨p1, p2, p3, p4, p5, p6⟩, x2, x3, x4⟩ := hx
  have hd := pto_dy ho
  have h0 := (x4 k hk).2 i hi
  have hb := nbk_le (itm X k).1
  unfold cw at h0
  unfold cn at x2 p2 p3
  unfold z_Pt_register z_Pt_register_26 z_Pt_register_47
  rw [if_neg (by omega), if_pos (by omega), if_neg (by omega), if_pos (by omega), if_neg (by decide), zgr_d hO hd (by decide), zrD_d hO hd (by decide) (by omega) (by omega), show (k : Int) * 5 + 1 + i = 5 * (k : Int) + ((i : Int) + 1) by omega, h0, if_neg (by omega), if_pos (by omega)]
theorem cp_writ (hO : Own A) (ho : pto.contains o = true) (hx : CP A o X g) (hok : okI T p h (itm X k)) (hg : h ≤ 60) (hk : k < X.length) : z_Pt_written N o k A = some (wri (itm X k)) := by
  obtain ⟨o1, o2, o3, -⟩ := id hok
  have hv := nbk_v o1 o2
  unfold z_Pt_written z_Pt_written_16 wri
  rw [cp_kind hO ho hx hk, zbP_s]
  by_cases c : 3 < (itm X k).1
  · rw [if_pos c]
    by_cases c5 : (itm X k).1 = 5
    · have := cp_reg (N := N) (i := 0) hO ho hx hok hg hk (by omega) (by unfold isr; omega)
      rw [show ((0 : Nat) : Int) = 0 from rfl] at this
      rw [if_pos c5, if_pos (Or.inr c5), this, zbP_s]
    · rw [if_neg c5, if_neg (by omega)]
  · have := cp_reg (N := N) (i := 0) hO ho hx hok hg hk (by omega) (by unfold isr; omega)
    rw [show ((0 : Nat) : Int) = 0 from rfl] at this
    rw [if_neg c, if_pos (by omega), this, zbP_s]
theorem cp_reads (hO : Own A) (ho : pto.contains o = true) (hS : STA A) (hx : CP A o X g) (hok : okI T p h (itm X k)) (hk : k < X.length) : z_Pt_reads N o k A = some (rdk (itm X k).1) ∧ ∀ i : Int, 0 ≤ i → i < 4 → z_Pt_readNumber N o k i A = some (frk (itm X k).1 + i) := by
  obtain ⟨o1, o2, -⟩ := id hok
  have hs := hS (itm X k).1.toNat (by omega)
  rw [show (((itm X k).1.toNat : Nat) : Int) = (itm X k).1 by omega] at hs
  unfold z_Pt_reads z_Pt_readNumber
  rw [cp_kind hO ho hx hk, zbP_s, zrd_ok o1 (by omega), hs.1]
  refine ⟨rfl, fun i i0 i4 => ?_⟩
  rw [zbP_s, zrd_ok o1 (by omega), hs.2.1, yb_w (by unfold frk; split <;> omega) (by unfold frk; split <;> omega)]
theorem cp_harm (hO : Own A) (ho : pto.contains o = true) (hx : CP A o X g) (hok : okI T p h (itm X k)) (hk : k < X.length) : z_Pt_isHarmless N o k A = some (cif (hrm (itm X k)) 1 0) := by
  obtain ⟨o1, o2, -⟩ := id hok
  have hv := nbk_v o1 o2
  unfold z_Pt_isHarmless hrm
  rw [cp_kind hO ho hx hk, zbP_s]
  by_cases c0 : (itm X k).1 = 0
  · rw [if_pos c0, cif_pos (Or.inl c0)]
  · rw [if_neg c0]
    by_cases c1 : (itm X k).1 = 1
    · rw [if_pos c1, cif_pos (Or.inr (Or.inl c1))]
    · rw [if_neg c1]
      by_cases c2 : (itm X k).1 = 2
      · have := cp_num (N := N) (i := 3) hO ho hx hk (by omega)
        rw [show ((3 : Nat) : Int) = 3 from rfl] at this
        rw [if_pos c2, this, zbP_s]
        show (if ig (itm X k) 4 = 3 then some 0 else some 1) = _
        by_cases c3 : ig (itm X k) 4 = 3
        · rw [if_pos c3, cif_neg (fun z => by rcases z with z | z | z <;> first | exact c0 z | exact c1 z | exact z.2 c3)]
        · rw [if_neg c3, cif_pos (Or.inr (Or.inr ⟨c2, c3⟩))]
      · rw [if_neg c2, cif_neg (fun z => by omega)]
theorem cp_set {j : Nat} {v : Int} (hO : Own A) (ho : pto.contains o = true) (hx : CP A o X g) (hk : k < X.length) (hj : j < 4) (wv : zw v = v) : ∃ B, z_Pt_setNumber N o k j v A = some B ∧ CP B o (X.set k (setN (itm X k) j v)) g ∧ cF [o] A B ∧ (∀ e, yv B o 1 e = yv A o 1 e) := by
  obtain ⟨⟨p1, p2, p3, p4, p5, p6⟩, x2, x3, x4⟩ := hx
  have hd := pto_dy ho
  have hset : z_Pt_setNumber N o k j v A = some (ys A o 0 (5 * (k : Int) + 1 + j) v) := by
    unfold z_Pt_setNumber
    unfold cn at x2 p3
    rw [if_neg (by omega), x2, if_pos (by omega), if_neg (by omega), if_pos (by omega), zgr_d hO hd (by decide), zwD_d hO hd (by decide) (by omega) (by omega), show ((k : Int) * 5 + 1 + j) = 5 * (k : Int) + 1 + j by omega]
  have w0 : ∀ e : Int, 0 ≤ e → yv (ys A o 0 (5 * (k : Int) + 1 + j) v) o 0 e = if e = 5 * (k : Int) + 1 + j then v else yv A o 0 e := fun e he => by rw [yv_ys (by omega) he, wv]
  have wz : ∀ q, zi (ys A o 0 (5 * (k : Int) + 1 + j) v) o q = zi A o q := fun q => zi_ys hO hd (by decide) (pto_fx ho)
  refine ⟨_, hset, ⟨PI.of ⟨p1, p2, p3, p4, p5, p6⟩ (wz 2) rfl rfl, by unfold cn at *; rw [wz, List.length_set]; exact x2, by unfold cr at *; rw [wz]; exact x3, fun q hq => ?_⟩, cF_ys hO hd (by decide) (cont1 o), fun e => yv_ys_o hO hd (by decide) hd (by decide) (by omega)⟩
  rw [List.length_set] at hq
  obtain ⟨c1, c2⟩ := x4 q hq
  rw [itm_set hq]
  unfold cw at *
  by_cases e : q = k
  · subst e
    rw [if_pos rfl, setN_1]
    refine ⟨by rw [w0 _ (by omega), if_neg (by omega)]; exact c1, fun i hi => ?_⟩
    have := nbk_le (itm X q).1
    rw [w0 _ (by omega), setN_g _ _ (by omega) (by omega)]
    by_cases z : i = j
    · rw [if_pos (by omega), if_pos z]
    · rw [if_neg (by omega), if_neg z]; exact c2 i hi
  · rw [if_neg e]
    have hbq := nbk_le (itm X q).1
    exact ⟨by rw [w0 _ (by omega), if_neg (by omega)]; exact c1, fun i hi => by rw [w0 _ (by omega), if_neg (by omega)]; exact c2 i hi⟩
end
/-! the reference's reading -/
section
variable {N : Nat} {A : zA} {X : List It} {g k z p r T p' h : Nat}
theorem rp_kind (hz : z < 3) (hp : p < 4) (hr : r = 4 * z + p) (hx : RP A r X g) (hk : k < X.length) (hl : X.length ≤ 240) : z_M_field N z p k 0 A = some (itm X k).1 := by
  subst hr
  rw [z_M_field_e (by omega) (by omega) (by omega) (by omega) (by omega) (by omega), show (4 : Int) * z + p = ((4 * z + p : Nat) : Int) by omega, (hx.2.2 k hk).1]
theorem rp_num {i : Nat} (hz : z < 3) (hp : p < 4) (hr : r = 4 * z + p) (hx : RP A r X g) (hk : k < X.length) (hl : X.length ≤ 240) (hi : i < nbk (itm X k).1) : z_M_field N z p k ((i : Int) + 1) A = some (ig (itm X k) (i + 1)) := by
  have hb := nbk_le (itm X k).1
  subst hr
  rw [z_M_field_e (by omega) (by omega) (by omega) (by omega) (by omega) (by omega), show (4 : Int) * z + p = ((4 * z + p : Nat) : Int) by omega, (hx.2.2 k hk).2 i hi]
theorem rp_writ (hz : z < 3) (hp : p < 4) (hr : r = 4 * z + p) (hx : RP A r X g) (hok : okI T p' h (itm X k)) (hk : k < X.length) (hl : X.length ≤ 240) : z_M_writes N z p k A = some (wri (itm X k)) := by
  obtain ⟨o1, o2, -⟩ := id hok
  have hv := nbk_v o1 o2
  unfold z_M_writes z_M_writes_22 wri
  rw [rp_kind hz hp hr hx hk hl, zbP_s]
  by_cases c : 3 < (itm X k).1
  · rw [if_pos c]
    by_cases c5 : (itm X k).1 = 5
    · have := rp_num (N := N) (i := 0) hz hp hr hx hk hl (by omega)
      rw [show ((0 : Nat) : Int) + 1 = 1 from rfl] at this
      rw [if_pos c5, if_pos (Or.inr c5), this, zbP_s]
    · rw [if_neg c5, if_neg (by omega)]
  · have := rp_num (N := N) (i := 0) hz hp hr hx hk hl (by omega)
    rw [show ((0 : Nat) : Int) + 1 = 1 from rfl] at this
    rw [if_neg c, if_pos (by omega), this, zbP_s]
theorem rp_plain (hz : z < 3) (hp : p < 4) (hr : r = 4 * z + p) (hx : RP A r X g) (hok : okI T p' h (itm X k)) (hk : k < X.length) (hl : X.length ≤ 240) : z_M_isPlain N z p k A = some (cif (hrm (itm X k)) 1 0) := by
  obtain ⟨o1, o2, -⟩ := id hok
  have hv := nbk_v o1 o2
  unfold z_M_isPlain z_M_divides hrm
  rw [rp_kind hz hp hr hx hk hl, zbP_s]
  by_cases c : 2 < (itm X k).1
  · rw [if_pos c, cif_neg (by omega)]
  · rw [if_neg c, zbP_s]
    by_cases c2 : (itm X k).1 = 2
    · have := rp_num (N := N) (i := 3) hz hp hr hx hk hl (by omega)
      rw [show ((3 : Nat) : Int) + 1 = 4 from rfl] at this
      rw [if_pos c2, this, zbP_s]
      show zbP (if ig (itm X k) 4 = 3 then some 1 else some 0) _ = _
      by_cases c3 : ig (itm X k) 4 = 3
      · rw [if_pos c3, zbP_s, if_neg (by decide), cif_neg (fun z => by rcases z with z | z | z <;> first | omega | exact z.2 c3)]
      · rw [if_neg c3, zbP_s, if_pos rfl, cif_pos (Or.inr (Or.inr ⟨c2, c3⟩))]
    · rw [if_neg c2, zbP_s, if_pos rfl, cif_pos (by omega)]
/-- where an item reads: 0 for nowhere -/
def rda (k : Int) (n : Int) : Int := if k = 2 then 2 + n else if k = 4 then 1 + n else if 0 < n then 0 else if k = 1 ∨ k = 3 then 2 else if k = 6 ∨ k = 7 ∨ k = 8 ∨ k = 11 then 1 else 0
theorem r_readAt {k n : Int} (h0 : 0 ≤ n) (h1 : n ≤ 1) : z_M_readAt N k n A = some (rda k n) := by
  unfold z_M_readAt rda
  by_cases c2 : k = 2
  · rw [if_pos c2, if_pos c2, yb_w (by omega) (by omega)]
  · rw [if_neg c2, if_neg c2]
    by_cases c4 : k = 4
    · rw [if_pos c4, if_pos c4, yb_w (by omega) (by omega)]
    · rw [if_neg c4, if_neg c4]
      by_cases cn : 0 < n
      · rw [if_pos cn, if_pos cn]
      · rw [if_neg cn, if_neg cn]
        by_cases a1 : k = 1
        · rw [if_pos a1, if_pos (Or.inl a1)]
        · rw [if_neg a1]
          by_cases a3 : k = 3
          · rw [if_pos a3, if_pos (Or.inr a3)]
          · rw [if_neg a3, if_neg (show ¬ (k = 1 ∨ k = 3) by omega)]
            by_cases a6 : k = 6
            · rw [if_pos a6, if_pos (Or.inl a6)]
            · rw [if_neg a6]
              by_cases a7 : k = 7
              · rw [if_pos a7, if_pos (by omega)]
              · rw [if_neg a7]
                by_cases a8 : k = 8
                · rw [if_pos a8, if_pos (by omega)]
                · rw [if_neg a8]
                  by_cases a11 : k = 11
                  · rw [if_pos a11, if_pos (by omega)]
                  · rw [if_neg a11, if_neg (by omega)]
end
