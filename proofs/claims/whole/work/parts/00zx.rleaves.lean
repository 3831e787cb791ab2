/-! the reference's WHILE is left -/
section
variable {N w sc dp lv t nc0 : Nat} {A B : zA} {D : Nat → T} {s : St}
theorem RW.rec {Q : Nat → Nat → Prop} (h : RW A w sc dp lv t D s) (f : fr Q A B) (hq : ∀ a j, Q a j → 262 ≤ a ∧ a ≤ 266) (hc : RCc B w t D s.2.2.2.2.2) : RW B w sc dp lv t D s := by
  obtain ⟨h1, h2, h3, h4, h5, h6, h7, h8, h9⟩ := h
  have e : ∀ a e, ¬ (262 ≤ a ∧ a ≤ 266) → ri B a e = ri A a e := fun a e ha => f.e (fun z => ha (hq _ _ z))
  have i : ∀ j, zi B 226 j = zi A 226 j := fun j => f.i (fun z => by have := hq _ _ z; omega)
  have r := Nat.le_refl t
  refine ⟨h1.fr f (fun a j z => by have := hq _ _ z; unfold qT; omega), h2.mono (fun k hk => ?_) r (fun _ _ => rfl), h3.mono (e _ _ (by omega)) (fun _ => e _ _ (by omega)) r (fun _ _ => rfl), h4.mono (i _) (fun _ _ => e _ _ (by omega)) r (fun _ _ => rfl), ?_, hc, by rw [e 261 _ (by omega)]; exact h7, by rw [e 261 _ (by omega)]; exact h8, h9⟩
  · unfold rpl
    rw [i 63, e 267 _ (by omega), e 268 _ (by omega)]
  · unfold RFl
    rw [i 62, i 66, i 80, i 64, i 65]
    exact h5
/-- the last of an open record is set: closed ones are others -/
theorem RCc.own {l : List (Int × Nat × T × T)} {c j : Nat} {W i : Int} (h : RCc A w t D l) (f : fr (fun a e => a = 265 ∧ e = 4000 * w + c) A B) (hl : ∀ q ∈ l, q.1 ≠ W) (o1 : ri A 262 (4000 * w + c) = j) (o2 : D j = tCir W i) : RCc B w t D l := fun q hq => by
  obtain ⟨jt, c', q1, q2, q3, q4, q5, q6, q7⟩ := h q hq
  have e : ∀ a e, a ≠ 265 → ri B a e = ri A a e := fun a e ha => f.e (fun z => ha z.1)
  have hne : c' ≠ c := fun z => by
    subst z
    rw [o1] at q7
    have : j = jt := by omega
    subst this
    rw [o2] at q2
    exact hl q hq (tCir_inj q2).1.symm
  exact ⟨jt, c', q1, q2, by rw [e _ _ (by omega)]; exact q3, by rw [e _ _ (by omega)]; exact q4, by rw [e _ _ (by omega)]; exact q5, by rw [f.e (fun z => by omega)]; exact q6, by rw [e _ _ (by omega)]; exact q7⟩
theorem OPN.mono {W : Int} {S : Nat → Bool} {f0 : Nat → T} {k : Nat} {Q : Nat → Nat → Prop} (h : OPN A w t nc0 D W S f0 k) (f : fr Q A B) (hq : ∀ a j, Q a j → a ≠ 262 ∧ a ≠ 263 ∧ a ≠ 264 ∧ a ≠ 266) : OPN B w t nc0 D W S f0 k := fun i hi hS => by
  obtain ⟨j, c, o1, o2, o3, o4, o5, o6, o7⟩ := h i hi hS
  have e : ∀ a e, (a = 262 ∨ a = 263 ∨ a = 264 ∨ a = 266) → ri B a e = ri A a e := fun a e ha => f.e (fun z => by have := hq _ _ z; omega)
  exact ⟨j, c, o1, o2, o3, by rw [e _ _ (by omega)]; exact o4, by rw [e _ _ (by omega)]; exact o5, by rw [e _ _ (by omega)]; exact o6, by rw [e _ _ (by omega)]; exact o7⟩
theorem rQ_rc_n {yw nc e a : Nat} {Z : Nat → Prop} (h : e < nc) (ha : 262 ≤ a ∧ a ≤ 265) : ¬ rQ w dp lv yw nc Z a (4000 * w + e) := fun q => by
  rcases q with q | q | q | q | q | q | q | q | q | q | q | q
  all_goals omega
theorem rQ_co_n {yw nc v : Nat} {Z : Nat → Prop} (h : ¬ Z v) : ¬ rQ w dp lv yw nc Z 266 (16000 * w + v) := fun q => by
  rcases q with q | q | q | q | q | q | q | q | q | q | q | q
  rotate_left 11
  · have := q.2.2.2
    rw [show 16000 * w + v - 16000 * w = v by omega] at this
    exact h this
  all_goals omega
theorem OPN.fq {W : Int} {S : Nat → Bool} {f0 : Nat → T} {k t' lv' : Nat} {D' : Nat → T} {s1 : St} (h : OPN A w t nc0 D W S f0 k) (g : FQ w sc dp lv' t t' D D' s1 A B) (hW : W < s1.2.2.2.1) (hc : ((nc0 + cnt S k : Nat) : Int) ≤ ri A 261 w) : OPN B w t' nc0 D' W S f0 k := fun i hi hS => by
  obtain ⟨j, c, o1, o2, o3, o4, o5, o6, o7⟩ := h i hi hS
  obtain ⟨g1, g2, g3, g4, g5⟩ := g
  have hlt := cnt_step hS k hi
  have e : ∀ a, 262 ≤ a → a ≤ 265 → ri B a (4000 * w + c) = ri A a (4000 * w + c) := fun a a1 a2 => g3.e (by
    rw [show ((4000 : Int) * w + c).toNat = 4000 * w + c by omega]
    exact rQ_rc_n (by omega) ⟨a1, a2⟩)
  have e6 : ri B 266 (16000 * w + j) = ri A 266 (16000 * w + j) := g3.e (by
    rw [show ((16000 : Int) * w + j).toNat = 16000 * w + j by omega]
    exact rQ_co_n (fun z => z ⟨o1, W, i, hW, o2⟩))
  exact ⟨j, c, by omega, by rw [g2 j o1]; exact o2, o3, by rw [e6]; exact o4, by rw [e _ (by omega) (by omega)]; exact o5, by rw [e _ (by omega) (by omega)]; exact o6, by rw [e _ (by omega) (by omega)]; exact o7.mono g1 g2⟩
theorem lv_run {S : Nat → Bool} {f0 : Nat → T} {W : Int} (hd : dp ≤ 3) (hl : lv < 30) (hw2 : w < 2) (h4 : nc0 + cnt S 61 < 4000) (hC : ∀ q ∈ s.2.2.2.2.2, q.1 ≠ W) : ∀ (r c fu : Nat) (A : zA), c + r = nc0 + cnt S 61 → nc0 ≤ c → r < fu → RW A w 0 dp (lv + 1) t D s → OPN A w t nc0 D W S f0 61 → ri A 275 lv = ((nc0 + cnt S 61 : Nat) : Int) → (∀ i : Nat, i < 61 → S i = true → nc0 + cnt S i < c → ix t D (ri A 265 (4000 * w + (nc0 + cnt S i : Nat))) (s.1 i)) → ∃ B, z_M_leaves_27_l N fu w lv (4000 * w + c) A = z_M_leaves_65 N B ∧ RW B w 0 dp (lv + 1) t D s ∧ OPN B w t nc0 D W S f0 61 ∧ (∀ i : Nat, i < 61 → S i = true → ix t D (ri B 265 (4000 * w + (nc0 + cnt S i : Nat))) (s.1 i)) ∧ fr (fun a j => a = 265 ∧ 4000 * w + nc0 ≤ j ∧ j < 4000 * w + 4000) A B := by
  intro r
  induction r with
  | zero =>
    intro c fu A h1 hc h2 h hO h275 hR
    obtain ⟨u, rfl⟩ : ∃ u, fu = u + 1 := ⟨fu - 1, by omega⟩
    refine ⟨A, ?_, h, hO, fun i hi hS => hR i hi hS (by have := cnt_step hS 61 hi; omega), fr.refl _ _⟩
    show z_M_leaves_27_b (z_M_leaves_27_l N u) N w lv (4000 * w + c) A = _
    unfold z_M_leaves_27_b
    rw [zrd_ok (by omega) (by omega), h275, yb_w (by omega) (by omega), if_neg (by omega)]
  | succ r ih =>
    intro c fu A h1 hc h2 h hO h275 hR
    obtain ⟨u, rfl⟩ : ∃ u, fu = u + 1 := ⟨fu - 1, by omega⟩
    have ht := h.1.1.1
    obtain ⟨i, i1, i2, i3⟩ := cnt_hit (S := S) (c := c - nc0) 61 (by omega)
    obtain ⟨j, c', o1, o2, o3, o4, o5, o6, o7⟩ := hO i i1 i2
    have hcc : c' = c := by omega
    subst hcc
    obtain ⟨g, g1, g2, g3⟩ := r_get (N := N) (r := i) h hd i1
    have st : z_M_leaves_27_l N (u + 1) w lv (4000 * w + c') A = z_M_leaves_27_l N u w lv (4000 * w + ((c' + 1 : Nat) : Int)) (rs A 265 (4000 * w + c') g) := by
      show z_M_leaves_27_b (z_M_leaves_27_l N u) N w lv (4000 * w + c') A = _
      unfold z_M_leaves_27_b
      rw [zrd_ok (by omega) (by omega), h275, yb_w (by omega) (by omega), if_pos (by omega), zrd_ok (by omega) (by omega), o6, g2, zbP_s, zwr_ok (by omega) (by omega), yb_w (by omega) (by omega), show (4000 : Int) * w + c' + 1 = 4000 * w + ((c' + 1 : Nat) : Int) by omega]
    have f1 : fr (fun a e => a = 265 ∧ e = 4000 * w + c') A (rs A 265 (4000 * w + c') g) := fr_rs ⟨rfl, by omega⟩
    have v1 : ri (rs A 265 (4000 * w + c') g) 265 (4000 * w + c') = g := by rw [ri_rs_s, yb_w (by omega) (by omega)]
    have hA1 : RW (rs A 265 (4000 * w + c') g) w 0 dp (lv + 1) t D s := h.rec f1 (fun a j q => by omega) (h.2.2.2.2.2.1.own f1 hC o5 o2)
    generalize rs A 265 (4000 * w + c') g = A1 at *
    obtain ⟨B, b1, b2, b3, b4, b5⟩ := ih (c' + 1) u A1 (by omega) (by omega) (by omega) hA1 (hO.mono f1 (fun a j q => by omega)) (by rw [f1.e (fun q => by omega)]; exact h275) (fun i' hi' hS' hlt => by
      by_cases q : nc0 + cnt S i' = c'
      · rw [q, v1]
        have : i' = i := by
          rcases Nat.lt_trichotomy i' i with z | z | z
          · have := cnt_step hS' i z; omega
          · exact z
          · have := cnt_step i2 i' z; omega
        subst this
        exact ⟨g, g1, rfl, g3⟩
      · rw [f1.e (fun z => by omega)]
        exact hR i' hi' hS' (by omega))
    refine ⟨B, by rw [st, b1], b2, b3, b4, (f1.mono (fun a e q => ⟨q.1, by omega, by omega⟩)).trans b5⟩
/-- the records of a circling stand -/
theorem RCc.new {S : Nat → Bool} {f0 g : Nat → T} {W : Int} (hO : OPN A w t nc0 D W S f0 61) (hR : ∀ i : Nat, i < 61 → S i = true → ix t D (ri A 265 (4000 * w + (nc0 + cnt S i : Nat))) (g i)) (hc : ((nc0 + cnt S 61 : Nat) : Int) ≤ ri A 261 w) : RCc A w t D (((List.range 61).filter S).map (fun i => (W, i, f0 i, g i))) := fun q hq => by
  obtain ⟨i, hi, rfl⟩ := List.mem_map.mp hq
  obtain ⟨hi, hS⟩ := List.mem_filter.mp hi
  have hi := List.mem_range.mp hi
  obtain ⟨j, c, o1, o2, o3, o4, o5, o6, o7⟩ := hO i hi hS
  have := cnt_step hS 61 hi
  have r := hR i hi hS
  rw [← o3] at r
  exact ⟨j, c, o1, o2, by omega, o4, o7, r, o5⟩
theorem RCc.app {l m : List (Int × Nat × T × T)} (h : RCc A w t D l) (g : RCc A w t D m) : RCc A w t D (l ++ m) := fun q hq => by
  rcases List.mem_append.mp hq with z | z
  · exact h q z
  · exact g q z
theorem RW.cc {l : List (Int × Nat × T × T)} (h : RW A w sc dp lv t D s) (hc : RCc A w t D l) : RW A w sc dp lv t D (s.1, s.2.1, s.2.2.1, s.2.2.2.1, s.2.2.2.2.1, l) := by
  obtain ⟨h1, h2, h3, h4, h5, h6, h7, h8, h9⟩ := h
  exact ⟨h1, h2, h3, h4, h5, hc, h7, h8, h9⟩
/-- leaves -/
theorem r_leaves {S : Nat → Bool} {f0 f2 : Nat → T} {W : Int} (hN : 300000 ≤ N) (hd : dp ≤ 3) (hl : lv < 30) (hw2 : w < 2) (h : RW A w sc dp (lv + 1) t D s) (hv : SV A 276 lv t D f2) (hs : sc = 0 → nc0 + cnt S 61 < 4000 ∧ (∀ q ∈ s.2.2.2.2.2, q.1 ≠ W) ∧ ri A 274 lv = nc0 ∧ ri A 275 lv = ((nc0 + cnt S 61 : Nat) : Int) ∧ OPN A w t nc0 D W S f0 61 ∧ ((nc0 + cnt S 61 : Nat) : Int) ≤ ri A 261 w) : ∃ B, z_M_leaves N w A = some B ∧ RW B w sc dp (lv + 1) t D (f2, s.2.1, s.2.2.1, s.2.2.2.1, s.2.2.2.2.1, if Nat.blt 0 sc then s.2.2.2.2.2 else s.2.2.2.2.2 ++ ((List.range 61).filter S).map (fun i => (W, i, f0 i, s.1 i))) ∧ fr (fun a j => (a = 265 ∧ sc = 0 ∧ 4000 * w + nc0 ≤ j ∧ j < 4000 * w + 4000) ∨ qP dp a j) A B := by
  have h66 : zi A 226 66 = (lv : Int) + 1 := by have := h.2.2.2.2.1.2.1; omega
  have h80 : zi A 226 80 = sc := h.2.2.2.2.1.2.2.1
  have wlv : zw ((lv : Int) + 1 - 1) = lv := by rw [yb_w (by omega) (by omega)]; omega
  unfold z_M_leaves
  by_cases c0 : sc = 0
  · subst c0
    obtain ⟨s1, s2, s3, s4, s5, s6⟩ := hs rfl
    rw [if_pos (by omega), h66, wlv, zrd_ok (by omega) (by omega), s3, yb_w (by omega) (by omega)]
    obtain ⟨B, b1, b2, b3, b4, b5⟩ := lv_run (N := N) (S := S) (f0 := f0) (W := W) hd hl hw2 s1 s2 (cnt S 61) nc0 N A rfl (Nat.le_refl _) (by omega) h s5 s4 (fun i _ _ q => by omega)
    unfold z_M_leaves_27
    rw [b1]
    unfold z_M_leaves_65
    have h6 : RCc B w t D (s.2.2.2.2.2 ++ ((List.range 61).filter S).map (fun i => (W, i, f0 i, s.1 i))) := b2.2.2.2.2.2.1.app (RCc.new b3 b4 (by rw [b5.e (fun q => by omega)]; exact s6))
    obtain ⟨C, c1, c2, c3⟩ := r_take_276 (N := N) (f := f2) hN (b2.cc h6) hd hl (hv.mono (fun i hi => b5.e (fun q => by omega)) (Nat.le_refl _) (fun _ _ => rfl))
    rw [c1, zbV_s]
    exact ⟨C, rfl, c2, (b5.mono (fun a j q => Or.inl ⟨q.1, rfl, q.2⟩)).trans (c3.mono (fun a j q => Or.inr q))⟩
  · have hb : Nat.blt 0 sc = true := by rw [Nat.blt_eq]; omega
    rw [if_neg (by omega), hb]
    unfold z_M_leaves_65
    obtain ⟨C, c1, c2, c3⟩ := r_take_276 (N := N) (f := f2) hN h hd hl hv
    rw [c1, zbV_s]
    exact ⟨C, rfl, c2, c3.mono (fun a j q => Or.inr q)⟩
end
