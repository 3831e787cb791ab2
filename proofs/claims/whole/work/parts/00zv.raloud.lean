/-! the reference's WHILE, aloud: its records -/
section
variable {N w sc dp lv t : Nat} {A B : zA} {D : Nat → T} {s : St}
theorem RC.sd {S : List (Int × Option T)} (h : RC A w sc dp lv t D s) (f : fr (qS w) A B) (hp : RSd B w t D S) : RC B w sc dp lv t D (s.1, S, s.2.2) := by
  obtain ⟨h1, h3, h4, h5, h6, h7, h8, h9⟩ := h
  have e : ∀ a e, a ≠ 259 → a ≠ 260 → ri B a e = ri A a e := fun a e ha hb => f.e (fun z => by unfold qS at z; omega)
  have i : ∀ j, zi B 226 j = zi A 226 j := fun j => f.i (fun z => by unfold qS at z; omega)
  have r := Nat.le_refl t
  refine ⟨h1.fr f (fun a j z => by unfold qS at z; unfold qT; omega), hp, h4.mono (i _) (fun _ _ => e _ _ (by omega) (by omega)) r (fun _ _ => rfl), ?_, h6.mono (by rw [e 261 _ (by omega) (by omega)]; omega) (fun c _ => ⟨e _ _ (by omega) (by omega), e _ _ (by omega) (by omega), e _ _ (by omega) (by omega)⟩) (fun _ _ _ _ _ => e _ _ (by omega) (by omega)) r (fun _ _ => rfl), by rw [e 261 _ (by omega) (by omega)]; exact h7, by rw [e 261 _ (by omega) (by omega)]; exact h8, h9⟩
  unfold RFl
  rw [i 62, i 66, i 80, i 64, i 65]
  exact h5
theorem c_say0 {c wd : Int} (h : RC A w sc dp lv t D s) (hw : w < 2) (hwd : wko wd) (hc : c = wc wd) (hl : sc = 0 → s.2.1.length < 1000) : ∃ B, z_M_says N w c A = some B ∧ RC B w sc dp lv t D (sSay (Nat.blt 0 sc) wd none s) ∧ fr (qS w) A B := by
  have h80 := h.2.2.2.1.2.2.1
  by_cases c0 : sc = 0
  · subst c0
    obtain ⟨L, l1, l2, l3⟩ := h.2.1
    have := fl_len L
    have hl := hl rfl
    rw [l1, List.length_map] at hl
    have rg := wc_rg hwd
    obtain ⟨B, b1, b2, b3⟩ := M_says (N := N) (x := c) h80 hw l3 (by omega) (yb_w (by omega) (by omega))
    refine ⟨B, b1, h.sd b3 ⟨L ++ [(wd, none)], ?_, fun q hq => ?_, ?_⟩, b3⟩
    · rw [List.map_append, ← l1]; rfl
    · rcases List.mem_append.mp hq with z | z
      · exact l2 q z
      · rw [List.mem_singleton] at z; subst z
        exact ⟨hwd.1, hwd.2, fun j hj => by cases hj⟩
    · rw [fl_app, fl_one]
      rw [hc] at b2
      exact b2
  · have hb : Nat.blt 0 sc = true := by rw [Nat.blt_eq]; omega
    rw [hb]
    exact ⟨A, M_says_q (by omega), h, fr.refl _ _⟩
end
theorem cnt_step {S : Nat → Bool} {i : Nat} (hi : S i = true) : ∀ k, i < k → cnt S i < cnt S k
  | 0, h => by omega
  | k + 1, h => by
    by_cases c : i = k
    · subst c
      show cnt S i < cnt S i + _
      rw [if_pos hi]
      omega
    · have := cnt_step hi k (by omega)
      show cnt S i < cnt S k + _
      omega
theorem cnt_up {S : Nat → Bool} {i : Nat} : ∀ k, i ≤ k → cnt S i ≤ cnt S k
  | 0, h => by rw [show i = 0 by omega]; exact Nat.le_refl _
  | k + 1, h => by
    by_cases c : i = k + 1
    · rw [c]; exact Nat.le_refl _
    · have := cnt_up (S := S) (i := i) k (by omega)
      show cnt S i ≤ cnt S k + _
      omega
theorem cnt_hit {S : Nat → Bool} {c : Nat} : ∀ k, c < cnt S k → ∃ i, i < k ∧ S i = true ∧ cnt S i = c
  | 0, h => by have : c < 0 := h; omega
  | k + 1, h => by
    have h : c < cnt S k + (if S k then 1 else 0) := h
    by_cases q : c < cnt S k
    · obtain ⟨i, i1, i2, i3⟩ := cnt_hit k q
      exact ⟨i, by omega, i2, i3⟩
    · by_cases z : S k = true
      · rw [if_pos z] at h
        exact ⟨k, by omega, z, by omega⟩
      · rw [if_neg z] at h
        omega
def OPN (A : zA) (w t nc0 : Nat) (D : Nat → T) (W : Int) (S : Nat → Bool) (f0 : Nat → T) (k : Nat) : Prop := ∀ i : Nat, i < k → S i = true → ∃ j c : Nat, j < t ∧ D j = tCir W i ∧ c = nc0 + cnt S i ∧ ri A 266 (16000 * w + j) = c ∧ ri A 262 (4000 * w + c) = j ∧ ri A 263 (4000 * w + c) = i ∧ ix t D (ri A 264 (4000 * w + c)) (f0 i)
/-- what records change -/
def qO (w lv t nc0 : Nat) (D : Nat → T) (W : Int) (a j : Nat) : Prop := (a = 261 ∧ j = w) ∨ (262 ≤ a ∧ a ≤ 264 ∧ 4000 * w + nc0 ≤ j ∧ j < 4000 * w + 4000) ∨ (a = 266 ∧ 16000 * w ≤ j ∧ j < 16000 * w + 16000 ∧ ∃ (v : Nat) (i : Int), j = 16000 * w + v ∧ v < t ∧ D v = tCir W i) ∨ (a = 275 ∧ j = lv)
theorem qO_no {w lv t nc0 : Nat} {D : Nat → T} {W : Int} {a j : Nat} (h : qO w lv t nc0 D W a j) : (a = 261 ∧ j = w) ∨ (262 ≤ a ∧ a ≤ 264 ∧ 4000 * w + nc0 ≤ j) ∨ a = 266 ∨ (a = 275 ∧ j = lv) := by
  rcases h with h | h | h | h
  · exact Or.inl h
  · exact Or.inr (Or.inl ⟨h.1, h.2.1, h.2.2.1⟩)
  · exact Or.inr (Or.inr (Or.inl h.1))
  · exact Or.inr (Or.inr (Or.inr h))
def rcp (A : zA) (w : Nat) (x y : Int) (j k : Nat) (v c : Int) : zA := rs (rs (rs (rs (rs A 262 x j) 263 x k) 264 x v) 266 y c) 261 w (c + 1)
section
variable {A : zA} {w j k : Nat} {x y v c : Int}
theorem rcp_fr : fr (fun a j => (a = 261 ∧ j = w) ∨ (262 ≤ a ∧ a ≤ 264 ∧ j = x.toNat) ∨ (a = 266 ∧ j = y.toNat)) A (rcp A w x y j k v c) := by
  unfold rcp
  exact ((((fr_rs (Or.inr (Or.inl ⟨by omega, by omega, rfl⟩))).trans (fr_rs (Or.inr (Or.inl ⟨by omega, by omega, rfl⟩)))).trans (fr_rs (Or.inr (Or.inl ⟨by omega, by omega, rfl⟩)))).trans (fr_rs (Or.inr (Or.inr ⟨rfl, rfl⟩)))).trans (fr_rs (Or.inl ⟨rfl, by omega⟩))
theorem rcp_261 : ri (rcp A w x y j k v c) 261 w = zw (c + 1) := by unfold rcp; rw [ri_rs_s]
theorem rcp_262 : ri (rcp A w x y j k v c) 262 x = zw j := by unfold rcp; rw [ri_rs_o (by decide), ri_rs_o (by decide), ri_rs_o (by decide), ri_rs_o (by decide), ri_rs_s]
theorem rcp_263 : ri (rcp A w x y j k v c) 263 x = zw k := by unfold rcp; rw [ri_rs_o (by decide), ri_rs_o (by decide), ri_rs_o (by decide), ri_rs_s]
theorem rcp_264 : ri (rcp A w x y j k v c) 264 x = zw v := by unfold rcp; rw [ri_rs_o (by decide), ri_rs_o (by decide), ri_rs_s]
theorem rcp_266 : ri (rcp A w x y j k v c) 266 y = zw c := by unfold rcp; rw [ri_rs_o (by decide), ri_rs_s]
end
section
variable {N w dp lv t nc0 : Nat} {D : Nat → T} {s : St}
theorem rec_run {S : Nat → Bool} {f0 : Nat → T} {W : Int} (hd : dp ≤ 3) (hl : lv < 30) (hw2 : w < 2) (hW : 0 ≤ W) (hW1 : W ≤ 50) (hs : s.2.2.2.1 = W + 1) (hC : ∀ q ∈ s.2.2.2.2.2, q.1 ≠ W) (hf : ∀ i, i < 61 → S i = true → s.1 i = tCir W i) (hnc : (nc0 : Int) ≤ 61 * W) : ∀ (r k fu : Nat) (A : zA), k + r = 61 → r < fu → RW A w 0 dp (lv + 1) t D s → MKS A lv S → SV A 278 lv t D f0 → ri A 261 w = ((nc0 + cnt S k : Nat) : Int) → OPN A w t nc0 D W S f0 k → ∃ B, z_M_aloud_57_l N fu w lv k A = some B ∧ RW B w 0 dp (lv + 1) t D s ∧ ri B 261 w = ((nc0 + cnt S 61 : Nat) : Int) ∧ ri B 275 lv = ((nc0 + cnt S 61 : Nat) : Int) ∧ OPN B w t nc0 D W S f0 61 ∧ fr (qO w lv t nc0 D W) A B := by
  have c61 := cnt_le S 61
  intro r
  induction r with
  | zero =>
    intro k fu A h1 h2 h hM hv h261 hO
    obtain ⟨u, rfl⟩ : ∃ u, fu = u + 1 := ⟨fu - 1, by omega⟩
    have hk : k = 61 := by omega
    subst hk
    have f1 : fr (qO w lv t nc0 D W) A (rs A 275 lv ((nc0 + cnt S 61 : Nat) : Int)) := fr_rs (Or.inr (Or.inr (Or.inr ⟨rfl, by omega⟩)))
    have f2 : fr (fun a j => a = 275 ∧ j = lv) A (rs A 275 lv ((nc0 + cnt S 61 : Nat) : Int)) := fr_rs ⟨rfl, by omega⟩
    refine ⟨rs A 275 lv ((nc0 + cnt S 61 : Nat) : Int), ?_, h.lev f2 (fun a j q => by omega), by rw [ri_rs_o (by decide)]; exact h261, by rw [ri_rs_s, yb_w (by omega) (by omega)], fun i hi hs => ?_, f1⟩
    · show z_M_aloud_57_b (z_M_aloud_57_l N u) N w lv ((61 : Nat) : Int) A = _
      unfold z_M_aloud_57_b
      rw [if_neg (by omega), zrd_ok (by omega) (by omega), h261, zwr_ok (by omega) (by omega)]
    · obtain ⟨j, c, o1, o2, o3, o4, o5, o6, o7⟩ := hO i hi hs
      refine ⟨j, c, o1, o2, o3, ?_, ?_, ?_, ?_⟩
      · rw [ri_rs_o (by decide)]; exact o4
      · rw [ri_rs_o (by decide)]; exact o5
      · rw [ri_rs_o (by decide)]; exact o6
      · rw [ri_rs_o (by decide)]; exact o7
  | succ r ih =>
    intro k fu A h1 h2 h hM hv h261 hO
    obtain ⟨u, rfl⟩ : ∃ u, fu = u + 1 := ⟨fu - 1, by omega⟩
    have w1 : zw ((k : Int) + 1) = ((k + 1 : Nat) : Int) := by rw [yb_w (by omega) (by omega)]; omega
    have h66 : zi A 226 66 = (lv : Int) + 1 := by have := h.2.2.2.2.1.2.1; omega
    have h80 : zi A 226 80 = 0 := h.2.2.2.2.1.2.2.1
    have ck := cnt_le S k
    have st : z_M_aloud_57_l N (u + 1) w lv k A = z_M_aloud_57_b (z_M_aloud_57_l N u) N w lv k A := rfl
    unfold z_M_aloud_57_b at st
    rw [if_pos (by omega), if_pos h80, M_circles h66 hl hM (by omega), zbP_s, w1] at st
    by_cases c : S k = true
    · rw [if_pos c, if_neg (by decide)] at st
      obtain ⟨j, g1, g2, g3⟩ := r_get (N := N) (r := k) h hd (by omega)
      have g3 : D j = tCir W k := by rw [g3]; exact hf k (by omega) c
      obtain ⟨v, v1, v2, v3⟩ := hv k (by omega)
      have ht := h.1.1.1
      have wx : zw (4000 * (w : Int) + ((nc0 + cnt S k : Nat) : Int)) = 4000 * (w : Int) + ((nc0 + cnt S k : Nat) : Int) := yb_w (by omega) (by omega)
      generalize hcc : nc0 + cnt S k = cc at *
      rw [zrd_ok (by omega) (by omega), h261, g2, zbP_s, wx, zwr_ok (by omega) (by omega), zwr_ok (by omega) (by omega), zrd_ok (by omega) (by omega), ri_rs_o (by decide), ri_rs_o (by decide), v2, zwr_ok (by omega) (by omega), zrd_ok (by omega) (by omega), ri_rs_o (by decide), ri_rs_o (by decide), ri_rs_s, yb_w (show -2147483648 ≤ (j : Int) by omega) (by omega), zrd_ok (by omega) (by omega), ri_rs_o (by decide), ri_rs_o (by decide), ri_rs_o (by decide), h261, zwr_ok (by omega) (by omega), zrd_ok (by omega) (by omega), ri_rs_o (by decide), ri_rs_o (by decide), ri_rs_o (by decide), ri_rs_o (by decide), h261, zwr_ok (by omega) (by omega)] at st
      have st : z_M_aloud_57_l N (u + 1) w lv k A = z_M_aloud_57_l N u w lv ((k + 1 : Nat) : Int) (rcp A w (4000 * (w : Int) + cc) (16000 * (w : Int) + j) j k v cc) := st
      have F := rcp_fr (A := A) (w := w) (x := 4000 * (w : Int) + cc) (y := 16000 * (w : Int) + j) (j := j) (k := k) (v := v) (c := cc)
      have r1 := rcp_261 (A := A) (w := w) (x := 4000 * (w : Int) + cc) (y := 16000 * (w : Int) + j) (j := j) (k := k) (v := v) (c := cc)
      have r2 := rcp_262 (A := A) (w := w) (x := 4000 * (w : Int) + cc) (y := 16000 * (w : Int) + j) (j := j) (k := k) (v := v) (c := cc)
      have r3 := rcp_263 (A := A) (w := w) (x := 4000 * (w : Int) + cc) (y := 16000 * (w : Int) + j) (j := j) (k := k) (v := v) (c := cc)
      have r4 := rcp_264 (A := A) (w := w) (x := 4000 * (w : Int) + cc) (y := 16000 * (w : Int) + j) (j := j) (k := k) (v := v) (c := cc)
      have r6 := rcp_266 (A := A) (w := w) (x := 4000 * (w : Int) + cc) (y := 16000 * (w : Int) + j) (j := j) (k := k) (v := v) (c := cc)
      rw [yb_w (by omega) (by omega)] at r1 r2 r3 r4 r6
      generalize rcp A w (4000 * (w : Int) + cc) (16000 * (w : Int) + j) j k v cc = A1 at *
      have e : ∀ a e, (a < 261 ∨ a = 265 ∨ 266 < a) → ri A1 a e = ri A a e := fun a e ha => F.e (fun z => by omega)
      have ie : ∀ j, zi A1 226 j = zi A 226 j := fun j => F.i (fun z => by omega)
      have eo : ∀ (a : Nat) (b : Nat), 262 ≤ a → a ≤ 264 → b ≠ cc → ri A1 a (4000 * w + b) = ri A a (4000 * w + b) := fun a b _ _ hb => F.e (fun z => by omega)
      have e6 : ∀ (b : Nat), b ≠ j → ri A1 266 (16000 * w + b) = ri A 266 (16000 * w + b) := fun b hb => F.e (fun z => by omega)
      obtain ⟨x1, x2, x3, x4, x5, x6, x7, x8, x9⟩ := h
      have rr := Nat.le_refl t
      have hcn : cnt S (k + 1) = cnt S k + 1 := by show cnt S k + (if S k then 1 else 0) = _; rw [if_pos c]
      have hN1 : RW A1 w 0 dp (lv + 1) t D s := by
        refine ⟨x1.fr F (fun a j z => by unfold qT; omega), x2.mono (fun i hi => ?_) rr (fun _ _ => rfl), x3.mono (e _ _ (by omega)) (fun _ => e _ _ (by omega)) rr (fun _ _ => rfl), x4.mono (ie _) (fun _ _ => e _ _ (by omega)) rr (fun _ _ => rfl), ?_, x6.mono (by rw [r1, h261]; omega) (fun b hb => ?_) (fun q hq i hi hD => ?_) rr (fun _ _ => rfl), by rw [r1]; omega, by rw [r1, hs]; omega, x9⟩
        · unfold rpl
          rw [ie 63, e 267 _ (by omega), e 268 _ (by omega)]
        · unfold RFl
          rw [ie 62, ie 66, ie 80, ie 64, ie 65]
          exact x5
        · rw [h261] at hb
          exact ⟨eo 264 b (by omega) (by omega) (by omega), e _ _ (by omega), eo 262 b (by omega) (by omega) (by omega)⟩
        · refine e6 i (fun z => ?_)
          rw [z, g3] at hD
          exact hC q hq (tCir_inj hD).1.symm
      obtain ⟨B, b1, b2, b3, b4, b5, b6⟩ := ih (k + 1) u A1 (by omega) (by omega) hN1 (fun i hi => by rw [F.l (fun z => by omega)]; exact hM i hi) (hv.mono (fun i hi => e _ _ (by omega)) rr (fun _ _ => rfl)) (by rw [r1, hcn]; omega) (fun i hi hSi => by
        by_cases q : i = k
        · subst q
          exact ⟨j, cc, g1, g3, by omega, r6, r2, r3, by rw [r4]; exact ⟨v, v1, rfl, v3⟩⟩
        · obtain ⟨j', c', o1, o2, o3, o4, o5, o6, o7⟩ := hO i (by omega) hSi
          have hlt := cnt_step hSi k (by omega)
          refine ⟨j', c', o1, o2, o3, ?_, ?_, ?_, ?_⟩
          · rw [e6 j' (fun z => by
              rw [z, g3] at o2
              have := (tCir_inj o2).2
              omega)]
            exact o4
          · rw [eo 262 c' (by omega) (by omega) (by omega)]; exact o5
          · rw [eo 263 c' (by omega) (by omega) (by omega)]; exact o6
          · rw [eo 264 c' (by omega) (by omega) (by omega)]; exact o7)
      refine ⟨B, by rw [st, b1], b2, b3, b4, b5, (F.mono (fun a b z => ?_)).trans b6⟩
      rcases z with z | z | z
      · exact Or.inl z
      · exact Or.inr (Or.inl ⟨z.1, z.2.1, by omega, by omega⟩)
      · exact Or.inr (Or.inr (Or.inl ⟨z.1, by omega, by omega, j, k, by omega, g1, g3⟩))
    · rw [if_neg c, if_pos rfl] at st
      have hcn : cnt S (k + 1) = cnt S k := by show cnt S k + (if S k then 1 else 0) = _; rw [if_neg c]; rfl
      obtain ⟨B, b1, b2, b3, b4, b5, b6⟩ := ih (k + 1) u A (by omega) (by omega) h hM hv (by rw [hcn]; exact h261) (fun i hi hSi => by
        by_cases q : i = k
        · subst q; exact absurd hSi c
        · exact hO i (by omega) hSi)
      exact ⟨B, by rw [st, b1], b2, b3, b4, b5, b6⟩
end
