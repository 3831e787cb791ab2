noncomputable def hoiQ (Q : Pr) (p : Nat) : Pr := updG Q p (hoS (Q.2.1 p) (Q.2.1 p).length).1 (Q.2.2 p)
theorem hoi_ok {Q : Pr} {p : Nat} (hG : GQ Q) (hp : exP Q p) : GQ (hoiQ Q p) := by
  obtain ⟨a1, a2, a3, a4⟩ := hG.1.2 p hp
  obtain ⟨⟨h1, h2, h3, h4⟩, -⟩ := hoS_inv (hG.n.2.1 p hp) (by omega) _ (Nat.le_refl _)
  exact hG.putG hp a1 a2 (fun nd sz n _ hb => h2 nd n hb) (fun nd sz _ => by rw [h3]; exact Nat.le_refl _) (fun i hi => a4 i (h4 i hi))
section
variable {N : Nat} {A : zA} {R R' p : Nat} {Q Qn QB : Pr}
theorem c_hoist (hN : 300000 ≤ N) (hG : GQ Q) (hp : exP Q p) (h : CPG A R R' Qn QB) (hs : CSt A R' Q (mtC Q)) (hS : STA A) : ∃ B, z_Mv_hoist N (R' + 2 + 3 * p) A = some (((hoS (Q.2.1 p) (Q.2.1 p).length).2 : Int), B) ∧ CSt B R' (hoiQ Q p) (mtC (hoiQ Q p)) ∧ CPI B R' ∧ cF [R' + 2 + 3 * p, 109] A B := by
  obtain ⟨r, m2, m3, w, c7, cR, cR', s, sB⟩ := h
  obtain ⟨k1, k2, k3, k4, k5⟩ := r.ok
  have hp3 := exP3 hG.1 hp
  obtain ⟨-, -, -, -, -, r6'⟩ := rws_fr k2 (show p < 4 by omega)
  obtain ⟨g7, g60, gl, gok⟩ := hG.1.2 p hp
  have hX := hs.cp hp
  have hb := hG.n.2.1 p hp
  have hm : CM A (R' + 2 + 3 * p) (Q.2.1 p) := fun k hk k8 => by
    obtain ⟨-, -, -, -, a5⟩ := hs.2 p hp
    have := (a5 k hk).2.2 k8
    rw [this]
    exact congrArg _ (mtL_eq (hG.m p hp) k hk k8)
  obtain ⟨C, c1, c2, c3, c4⟩ := c_hoist_run (N := N) (A := A) hN r6' (by unfold okR at k2; omega) (by unfold okR at k2; omega) gok g60 gl hb hS (Q.2.1 p).length 0 N A (by omega) (by omega) w.1 hS (cF.refl _ w.1) hX hm
  have hz : zi A (R' + 2 + 3 * p) 2 = (Q.2.1 p).length := hX.2.1
  unfold z_Mv_hoist z_Mv_hoist_9
  have e0 : ((hoS (Q.2.1 p) 0).2 : Int) = 0 := rfl
  rw [e0, show ((Q.2.1 p).length : Int) - 1 - ((0 : Nat) : Int) = ((Q.2.1 p).length : Int) - 1 by omega] at c1
  rw [hz, yb_w (by omega) (by omega), c1]
  have out : ∀ a, a ≠ R' + 2 + 3 * p → a ≠ 109 → ([R' + 2 + 3 * p, 109] : List Nat).contains a = false := fun a h1 h2 => nc_of (fun q => by
    simp only [List.contains_iff_mem, List.mem_cons, List.not_mem_nil, or_false] at q
    omega)
  obtain ⟨⟨i1, i2, i3, i4⟩, -⟩ := hoS_inv hb (by omega) _ (Nat.le_refl _)
  obtain ⟨mt, hBl⟩ := bal_Bl (i2 _ _ hb)
  refine ⟨C, rfl, CSt.put hG (hoi_ok hG hp) k2 hp hs c4 (fun a a1 a2 a3 => out a a3 (by unfold okR at k2; omega)) c2 hBl (fun k hk k8 => by rw [c3 k hk k8]; exact congrArg _ (mtL_eq hBl k hk k8).symm), fun q hq => ?_, c4⟩
  by_cases e : q = p
  · rw [e]; exact c2.1
  · obtain ⟨-, -, -, -, -, u6⟩ := rws_fr k2 hq
    exact (cR' q hq).fr u6 c4 (out _ (by omega) (by unfold okR at k2; omega))
end
/-! the reference -/
section
variable {N : Nat} {A : zA} {X : List It} {g p z T p' h : Nat}
theorem r_matchL {nd : Int → Nat} {n r : Nat} (hN : 300000 ≤ N) (hz : z < 3) (hp : p < 4) (hr : r = 4 * z + p) (hx : RP A r X g) (hl : X.length ≤ 240) (hb : bal nd n X) : ∃ B, z_M_match N z p A = some B ∧ (∀ k : Nat, k < X.length → 8 ≤ (itm X k).1 → ri B 231 (240 * p + k) = mtL X k) ∧ fr (fun a j => (a = 231 ∧ 240 * p ≤ j ∧ j < 240 * p + 240) ∨ a = 233) A B := by
  subst hr
  have er : (4 : Int) * z + p = ((4 * z + p : Nat) : Int) := by omega
  obtain ⟨B, b1, b2, b3⟩ := M_match_ok (N := N) (A := A) (nd := nd) (kd := fun k => (itm X k).1) (nm := fun k => ig (itm X k) 2) (X := X) (p := (p : Int)) (z := (z : Int)) (n := n) (by omega) (by omega) (by omega) (by omega) (by omega) hb (by unfold rn; rw [er]; exact hx.1) hl (fun k hk => by unfold rn at hk; rw [er] at hk ⊢; exact (hx.2.2 k (by rw [hx.1] at hk; omega)).1) (fun j hj => by rw [itm_get hj]; exact ⟨rfl, fun _ => rfl⟩)
  have hlt := Bl_lt _ _ _ b3
  refine ⟨B, b1, fun k hk k8 => ?_, ?_⟩
  · have u1 := mtL_eq b3 k hk k8
    have u2 := hlt k (by omega) hk k8
    omega
  · obtain ⟨c1, c2, c3⟩ := b2
    refine ⟨c1.1, by rw [c1.2.1], fun a j q => ⟨?_, by unfold zml; rw [c1.2.1]⟩⟩
    by_cases q1 : a = 231
    · subst q1
      have := c2 (j : Int) (by omega) (by
        by_cases w : j < 240 * p
        · left; omega
        · right
          have : ¬ j < 240 * p + 240 := fun w' => q (Or.inl ⟨rfl, by omega, w'⟩)
          omega)
      unfold ri at this
      rw [Int.toNat_natCast] at this
      unfold zi at this
      exact Int32.toInt_inj.mp this
    · exact c1.2.2 a j (by
        have : a ≠ 233 := fun w => q (Or.inr w)
        simp only [List.contains_cons, List.contains_nil, Bool.or_false, Bool.or_eq_false_iff, beq_eq_false_iff_ne]
        exact ⟨q1, this⟩) (fun _ => rfl)
theorem rp_spl {k r : Nat} {d : Int} (hz : z < 3) (hp : p < 4) (hr : r = 4 * z + p) (hx : RP A r X g) (hok : okI T p' h (itm X k)) (hk : k < X.length) (hl : X.length ≤ 240) : z_M_spoils N z p k d A = some (cif (spl (itm X k) d) 1 0) := by
  unfold z_M_spoils
  rw [rp_kind hz hp hr hx hk hl, zbP_s]
  by_cases c : (itm X k).1 = 7
  · rw [if_pos c]
    by_cases c6 : d < 6
    · rw [if_pos c6, cif_pos (show spl (itm X k) d from Or.inl ⟨c, c6⟩)]
    · rw [if_neg c6, cif_neg (fun z => by unfold spl at z; omega)]
  · rw [if_neg c, rp_writ hz hp hr hx hok hk hl, zbP_s]
    by_cases cw : wri (itm X k) = d
    · rw [if_pos cw, cif_pos (show spl (itm X k) d from Or.inr ⟨c, cw⟩)]
    · rw [if_neg cw, cif_neg (fun z => by unfold spl at z; omega)]
theorem r_spoilt_run {r b : Nat} {d : Int} (hz : z < 3) (hp : p < 4) (hr : r = 4 * z + p) (hx : RP A r X g) (hok : okL T p' h X) (hl : X.length ≤ 240) (hb : b < X.length) : ∀ (q k f : Nat) (fl : Int), k + q = b + 1 → q < f → (fl = 0 ∨ fl = 1) → z_M_spoiltBetween_6_l N f z p b d fl k A = some (if fl = 1 then 1 else cif (∃ m, k ≤ m ∧ m ≤ b ∧ spl (itm X m) d) 1 0) := by
  intro q
  induction q with
  | zero =>
    intro k f fl h1 h2 hf
    obtain ⟨u, rfl⟩ : ∃ u, f = u + 1 := ⟨f - 1, by omega⟩
    show z_M_spoiltBetween_6_b (z_M_spoiltBetween_6_l N u) N z p b d fl k A = _
    unfold z_M_spoiltBetween_6_b
    rw [if_pos (by omega), if_pos hf, cif_neg (fun ⟨m, m1, m2, _⟩ => by omega)]
    rcases hf with hf | hf
    · rw [hf, if_neg (by decide)]
    · rw [hf, if_pos rfl]
  | succ q ih =>
    intro k f fl h1 h2 hf
    obtain ⟨u, rfl⟩ : ∃ u, f = u + 1 := ⟨f - 1, by omega⟩
    have w1 : zw ((k : Int) + 1) = ((k + 1 : Nat) : Int) := by rw [yb_w (by omega) (by omega)]; omega
    show z_M_spoiltBetween_6_b (z_M_spoiltBetween_6_l N u) N z p b d fl k A = _
    unfold z_M_spoiltBetween_6_b
    rw [if_neg (by omega)]
    rcases hf with hf | hf
    · have hk : k < X.length := by omega
      rw [if_pos hf, rp_spl hz hp hr hx (hok _ (itm_mem hk)) hk hl, zbP_s, w1, ih (k + 1) u _ (by omega) (by omega) (cif_01 _), hf, if_neg (show ¬ (0 : Int) = 1 by decide)]
      by_cases c : spl (itm X k) d
      · rw [cif_pos c, if_pos rfl, cif_pos ⟨k, Nat.le_refl _, by omega, c⟩]
      · rw [cif_neg c, if_neg (show ¬ (0 : Int) = 1 by decide)]
        by_cases y : ∃ m, k + 1 ≤ m ∧ m ≤ b ∧ spl (itm X m) d
        · obtain ⟨m, m1, m2, m3⟩ := y
          rw [cif_pos ⟨m, m1, m2, m3⟩, cif_pos ⟨m, by omega, m2, m3⟩]
        · rw [cif_neg y, cif_neg (fun ⟨m, m1, m2, m3⟩ => y ⟨m, by
            by_cases e : m = k
            · rw [e] at m3; exact absurd m3 c
            · omega, m2, m3⟩)]
    · rw [if_neg (by omega), if_pos (Or.inr hf), hf, if_pos rfl]
theorem r_spoilt {r a : Nat} {b : Int} {d : Int} (hN : 300000 ≤ N) (hz : z < 3) (hp : p < 4) (hr : r = 4 * z + p) (hx : RP A r X g) (hok : okL T p' h X) (hl : X.length ≤ 240) (hb0 : (a : Int) - 1 ≤ b) (hb : b < X.length) : z_M_spoiltBetween N z p a b d A = some (cif (∃ m : Nat, a ≤ m ∧ (m : Int) ≤ b ∧ spl (itm X m) d) 1 0) := by
  unfold z_M_spoiltBetween z_M_spoiltBetween_6
  by_cases c : 0 ≤ b
  · obtain ⟨b', rfl⟩ : ∃ b' : Nat, b = b' := ⟨b.toNat, by omega⟩
    rw [r_spoilt_run hz hp hr hx hok hl (by omega) (b' + 1 - a) a N 0 (by omega) (by omega) (Or.inl rfl), if_neg (by decide)]
    by_cases y : ∃ m, a ≤ m ∧ m ≤ b' ∧ spl (itm X m) d
    · obtain ⟨m, m1, m2, m3⟩ := y
      rw [cif_pos ⟨m, m1, m2, m3⟩, cif_pos ⟨m, m1, by omega, m3⟩]
    · rw [cif_neg y, cif_neg (fun ⟨m, m1, m2, m3⟩ => y ⟨m, m1, by omega, m3⟩)]
  · obtain ⟨u, hu⟩ : ∃ u, N = u + 1 := ⟨N - 1, by omega⟩
    have : ∀ f, z_M_spoiltBetween_6_l N (f + 1) z p b d 0 a A = some 0 := fun f => by
      show z_M_spoiltBetween_6_b (z_M_spoiltBetween_6_l N f) N z p b d 0 a A = _
      unfold z_M_spoiltBetween_6_b
      rw [if_pos (by omega), if_pos (Or.inl rfl)]
    have t := this u
    rw [← hu] at t
    rw [t, cif_neg (fun ⟨m, m1, m2, m3⟩ => by omega)]
/-- steadiness -/
theorem r_steady_run {t e k : Nat} (hN : 300000 ≤ N) (hp : p < 4) (hx : RP A (4 + p) X g) (hok : okL T p' h X) (hl : X.length ≤ 240) (hk : k < X.length) (ht : t < e) (he : e < X.length) : ∀ (q n f : Nat), n + q = 2 → q < f → z_M_isSteady_67_l N f p ((t + 1 : Nat) : Int) e k n A = some (cif (∀ j : Nat, n ≤ j → (j : Int) < rdk (itm X k).1 → ∀ m, t < m → m ≤ e → ¬ spl (itm X m) (ig (itm X k) ((frk (itm X k).1).toNat + j + 1))) 1 0) := by
  have hoi := hok _ (itm_mem hk)
  obtain ⟨o1, o2, o3, -⟩ := id hoi
  have hvk := nbk_v o1 o2
  have rd2 : 0 ≤ rdk (itm X k).1 ∧ rdk (itm X k).1 ≤ 2 := by unfold rdk; repeat' split <;> omega
  have fr1 : 0 ≤ frk (itm X k).1 ∧ frk (itm X k).1 ≤ 1 := by unfold frk; split <;> omega
  intro q
  induction q with
  | zero =>
    intro n f h1 h2
    obtain ⟨u, rfl⟩ : ∃ u, f = u + 1 := ⟨f - 1, by omega⟩
    show z_M_isSteady_67_b (z_M_isSteady_67_l N u) N p _ e k n A = _
    unfold z_M_isSteady_67_b
    rw [if_neg (by omega), cif_pos (fun j j1 j2 => by omega)]
  | succ q ih =>
    intro n f h1 h2
    obtain ⟨u, rfl⟩ : ∃ u, f = u + 1 := ⟨f - 1, by omega⟩
    have w1 : zw ((n : Int) + 1) = ((n + 1 : Nat) : Int) := by rw [yb_w (by omega) (by omega)]; omega
    have hkd := rp_kind (N := N) (z := 1) (p := p) (r := 4 + p) (by omega) hp (by omega) hx hk hl
    rw [show ((1 : Nat) : Int) = 1 from rfl] at hkd
    show z_M_isSteady_67_b (z_M_isSteady_67_l N u) N p _ e k n A = _
    unfold z_M_isSteady_67_b
    rw [if_pos (by omega), hkd, zbP_s, r_readAt (by omega) (by omega), zbP_s, w1]
    by_cases c : (n : Int) < rdk (itm X k).1
    · have hrd : rda (itm X k).1 n = frk (itm X k).1 + n + 1 := by
        unfold rda frk
        unfold rdk at c
        repeat' split at c
        all_goals repeat' split
        all_goals omega
      obtain ⟨wh, hwh⟩ : ∃ wh : Nat, frk (itm X k).1 + (n : Int) = wh := ⟨(frk (itm X k).1 + n).toNat, by omega⟩
      have hwn : wh < nbk (itm X k).1 := by
        unfold rdk at c
        unfold frk at hwh
        repeat' split at c
        all_goals repeat' split at hwh
        all_goals omega
      have ewh : (frk (itm X k).1).toNat + n + 1 = wh + 1 := by omega
      have hnum := rp_num (N := N) (z := 1) (p := p) (r := 4 + p) (i := wh) (by omega) hp (by omega) hx hk hl hwn
      rw [show ((1 : Nat) : Int) = 1 from rfl] at hnum
      have hsb := r_spoilt (N := N) (z := 1) (p := p) (r := 4 + p) (a := t + 1) (b := (e : Int)) (d := ig (itm X k) (wh + 1)) hN (by omega) hp (by omega) hx hok hl (by omega) (by omega)
      rw [show ((1 : Nat) : Int) = 1 from rfl] at hsb
      rw [if_pos (by omega), hrd, show frk (itm X k).1 + (n : Int) + 1 = (wh : Int) + 1 by omega, hnum, zbP_s, hsb, zbP_s]
      by_cases y : ∃ m : Nat, t + 1 ≤ m ∧ (m : Int) ≤ e ∧ spl (itm X m) (ig (itm X k) (wh + 1))
      · obtain ⟨m, m1, m2, m3⟩ := y
        rw [cif_pos ⟨m, m1, m2, m3⟩, if_neg (by decide), cif_neg (fun z => by
          have := z n (Nat.le_refl _) c m (by omega) (by omega)
          rw [ewh] at this
          exact this m3)]
      · rw [cif_neg y, if_pos rfl, ih (n + 1) u (by omega) (by omega)]
        by_cases z : ∀ j : Nat, n + 1 ≤ j → (j : Int) < rdk (itm X k).1 → ∀ m, t < m → m ≤ e → ¬ spl (itm X m) (ig (itm X k) ((frk (itm X k).1).toNat + j + 1))
        · rw [cif_pos z, cif_pos (fun j j1 j2 m m1 m2 m3 => by
            by_cases ej : j = n
            · rw [ej, ewh] at m3; exact y ⟨m, by omega, by omega, m3⟩
            · exact z j (by omega) j2 m m1 m2 m3)]
        · rw [cif_neg z, cif_neg (fun v => z (fun j j1 j2 => v j (by omega) j2))]
    · have hrd : rda (itm X k).1 n = 0 := by
        unfold rda
        unfold rdk at c
        repeat' split at c
        all_goals repeat' split
        all_goals omega
      rw [hrd, if_neg (by decide), ih (n + 1) u (by omega) (by omega)]
      by_cases z : ∀ j : Nat, n + 1 ≤ j → (j : Int) < rdk (itm X k).1 → ∀ m, t < m → m ≤ e → ¬ spl (itm X m) (ig (itm X k) ((frk (itm X k).1).toNat + j + 1))
      · rw [cif_pos z, cif_pos (fun j j1 j2 => z j (by omega) j2)]
      · rw [cif_neg z, cif_neg (fun v => z (fun j j1 j2 => v j (by omega) j2))]
theorem r_steady {t e k : Nat} (hN : 300000 ≤ N) (hp : p < 4) (hx : RP A (4 + p) X g) (hok : okL T p' h X) (hl : X.length ≤ 240) (h1 : t < k) (h2 : k < e) (he : e < X.length) : z_M_isSteady N p ((t + 1 : Nat) : Int) e k A = some (cif (stdy X t e k) 1 0) := by
  have hk : k < X.length := by omega
  have hoi := hok _ (itm_mem hk)
  have hpl := rp_plain (N := N) (z := 1) (p := p) (r := 4 + p) (by omega) hp (by omega) hx hoi hk hl
  have hwr := rp_writ (N := N) (z := 1) (p := p) (r := 4 + p) (by omega) hp (by omega) hx hoi hk hl
  rw [show ((1 : Nat) : Int) = 1 from rfl] at hpl hwr
  unfold z_M_isSteady
  rw [hpl, zbP_s]
  by_cases c1 : hrm (itm X k)
  · rw [cif_pos c1, if_neg (by decide), hwr, zbP_s]
    by_cases c2 : wri (itm X k) < 7
    · rw [if_pos c2, cif_neg (fun z => by have := z.2.1; omega)]
    · have s1 := r_spoilt (N := N) (z := 1) (p := p) (r := 4 + p) (a := t + 1) (b := (k : Int) - 1) (d := wri (itm X k)) hN (by omega) hp (by omega) hx hok hl (by omega) (by omega)
      have s2 := r_spoilt (N := N) (z := 1) (p := p) (r := 4 + p) (a := k + 1) (b := (e : Int)) (d := wri (itm X k)) hN (by omega) hp (by omega) hx hok hl (by omega) (by omega)
      rw [show ((1 : Nat) : Int) = 1 from rfl] at s1 s2
      rw [if_neg c2, yb_w (by omega) (by omega), s1, zbP_s]
      by_cases y1 : ∃ m : Nat, t + 1 ≤ m ∧ (m : Int) ≤ (k : Int) - 1 ∧ spl (itm X m) (wri (itm X k))
      · obtain ⟨m, m1, m2, m3⟩ := y1
        rw [cif_pos ⟨m, m1, m2, m3⟩, if_neg (by decide), cif_neg (fun z => z.2.2.1 m (by omega) (by omega) (by omega) m3)]
      · rw [cif_neg y1, if_pos rfl, yb_w (by omega) (by omega), show ((k : Int) + 1) = ((k + 1 : Nat) : Int) by omega, s2, zbP_s]
        by_cases y2 : ∃ m : Nat, k + 1 ≤ m ∧ (m : Int) ≤ e ∧ spl (itm X m) (wri (itm X k))
        · obtain ⟨m, m1, m2, m3⟩ := y2
          rw [cif_pos ⟨m, m1, m2, m3⟩, if_neg (by decide), cif_neg (fun z => z.2.2.1 m (by omega) (by omega) (by omega) m3)]
        · have rr := r_steady_run (N := N) (t := t) (e := e) (k := k) hN hp hx hok hl hk (by omega) he 2 0 N (by omega) (by omega)
          rw [show ((0 : Nat) : Int) = 0 from rfl] at rr
          unfold z_M_isSteady_67
          rw [cif_neg y2, if_pos rfl, rr]
          by_cases z : ∀ j : Nat, 0 ≤ j → (j : Int) < rdk (itm X k).1 → ∀ m, t < m → m ≤ e → ¬ spl (itm X m) (ig (itm X k) ((frk (itm X k).1).toNat + j + 1))
          · rw [cif_pos z, cif_pos ⟨c1, by omega, fun m m1 m2 m3 m4 => by
              by_cases lt : m < k
              · exact y1 ⟨m, by omega, by omega, m4⟩
              · exact y2 ⟨m, by omega, by omega, m4⟩, fun j j1 => z j (by omega) j1⟩]
          · rw [cif_neg z, cif_neg (fun v => z (fun j _ j1 => v.2.2.2 j j1))]
  · rw [cif_neg c1, if_pos rfl, cif_neg (fun z => c1 z.1)]
end
