section
variable {N w z : Nat} {P : Pg} {sz : Nat → Nat} {ex : Nat → Prop} {nd : Int → Nat}
theorem gr_loop {R : Bool → Nat → Nat → Nat → St → St} {n p b sc dp lv K : Nat} {In : Nat → Nat → Prop} (hI : ∀ x y, In x y → GR N w z P sz ex nd R n ∧ RB P sz ex nd R n ∧ RN P ex nd R n ∧ Bl nd (P.1 p) (fun k => P.2.1 p k 1) (P.2.2.1 p) n x y) (hcall : ∀ a, P.1 p a = 7 → nd (P.2.1 p a 1) ≤ n → GR N w z P sz ex nd R n ∧ RB P sz ex nd R n) (hN : 300000 ≤ N) (hX : RX R) (hM : RM R) (hw : WfP P ex) (hW : WB P sz ex nd) (hlow : ∀ k, k < P.2.2.2.1 p → P.1 p k = 7 → P.2.1 p k 1 < p) (hw2 : w < 2) (hz : z < 3) (hp : ex p) (hb : b ≤ P.2.2.2.1 p) (hdp : dp + p ≤ 3) (hK : 1 ≤ K) (hl : (lv + n ≤ 28 ∧ sc ≤ lv ∧ kc (n + 1) ≤ K) ∨ (lv ≤ 29 ∧ sc ≤ lv ∧ (∀ x y, ¬ In x y) ∧ ∀ q, ¬ nd q ≤ n)) : ∀ (f a l t : Nat) (D : Nat → T) (s : St) (A : zA), Bs nd (P.1 p) (fun k => P.2.1 p k 1) (P.2.2.1 p) n In f a b → b - a ≤ l → RW A w sc dp lv t D s → PrR A z ex P → BR P sz (Nat.blt 0 sc) p a (b - a) t s → ∃ (B : zA) (t' : Nat) (D' : Nat → T) (k : Nat), k ≤ K * rsz P sz p a (b - a) ∧ RU N w z p a p b k A B ∧ RW B w sc dp lv t' D' (wkl P R (Nat.blt 0 sc) p l a b s) ∧ FQ w sc dp lv t t' D D' s A B ∧ t' ≤ t + 21 * rsz P sz p a (b - a) := by
  obtain ⟨w1, w2, w3, w4⟩ := hw p hp
  generalize hsl : Nat.blt 0 sc = sil at *
  intro f
  induction f with
  | zero =>
    intro a l t D s A hB h1 h hP hg
    have : a = b := hB
    subst this
    refine ⟨A, t, D, 0, by omega, RU.refl, ?_, ⟨Nat.le_refl _, fun _ _ => rfl, fr.refl _ _, Int.le_refl _, fun _ => rfl⟩, by omega⟩
    cases l with
    | zero => exact h
    | succ l =>
      show RW A w sc dp lv t D (if a < a then _ else s)
      rw [if_neg (by omega)]; exact h
  | succ f ih =>
    intro a l t D s A hB h1 h hP hg
    by_cases cab : a < b
    · obtain ⟨l', rfl⟩ : ∃ l', l = l' + 1 := ⟨l - 1, by omega⟩
      have spec : wkl P R sil p (l' + 1) a b s = if P.1 p a = 8 then wkl P R sil p l' (P.2.2.1 p (P.2.2.1 p a) + 1) b (ifS P R sil p a s) else if P.1 p a = 10 then wkl P R sil p l' (P.2.2.1 p (P.2.2.1 p a) + 1) b (whS P R sil p a s) else if P.1 p a = 7 then wkl P R sil p l' (a + 1) b (clS P R sil p a s) else wkl P R sil p l' (a + 1) b (plS P sil p a s) := by
        show (if a < b then _ else s) = _
        rw [if_pos cab]
      rw [spec]
      have hg0 := hg
      obtain ⟨⟨g1, g2, g3, g4, g5, gw, gC, g6⟩, g7⟩ := hg
      have h0 := h.2.2.2.2.2.2.1
      have hs0 : sc = 0 → sil = false := fun q => by rw [← hsl, q]; rfl
      -- what is left after a block or an item
      have rest : ∀ (x zc k1 : Nat) (s' : St) (t1 : Nat) (D1 : Nat → T) (B : zA), k1 ≤ K * zc → RU N w z p a p x k1 A B → BD zc sil s s' → MX s s' → PX s s' → Bs nd (P.1 p) (fun k => P.2.1 p k 1) (P.2.2.1 p) n In f x b → a < x → x ≤ b → zc + rsz P sz p x (b - x) ≤ rsz P sz p a (b - a) → RW B w sc dp lv t1 D1 s' → FQ w sc dp lv t t1 D D1 s A B → t1 ≤ t + 21 * zc → ∃ (C : zA) (t' : Nat) (D' : Nat → T) (k : Nat), k ≤ K * rsz P sz p a (b - a) ∧ RU N w z p a p b k A C ∧ RW C w sc dp lv t' D' (wkl P R sil p l' x b s') ∧ FQ w sc dp lv t t' D D' s A C ∧ t' ≤ t + 21 * rsz P sz p a (b - a) := by
        intro x zc k1 s' t1 D1 B hk1 hU hBD hMX hPX hBs q1 q2 q3 hB' hX' ht1
        have hMX1 := hMX.1
        obtain ⟨ext, hext⟩ := hPX
        obtain ⟨d1, d2, d3, d4, d5, d6, d7⟩ := hBD
        have hwy : s'.2.2.1.length ≤ 150 := by
          cases sil with
          | true => rw [(d7 rfl).2.1]; exact gw
          | false => have := g6 rfl; omega
        obtain ⟨C, t', D', k2, e1, e2, e3, e4, e5⟩ := ih x l' t1 D1 s' B hBs (by omega) hB' (hX'.pr hP) ⟨⟨by omega, by omega, by omega, by omega, by omega, hwy, gC.mx hMX, fun q => by have := g6 q; omega⟩, by omega⟩
        have hmul : K * zc + K * rsz P sz p x (b - x) ≤ K * rsz P sz p a (b - a) := by
          rw [← Nat.mul_add]
          exact Nat.mul_le_mul_left _ q3
        exact ⟨C, t', D', k1 + k2, by omega, hU.trans e2, e3, hX'.trans e4 (Nat.le_refl _) (Nat.le_refl _) (by rw [hext, List.length_append]; omega) hMX1 h0, by omega⟩
      rcases hB with hB | ⟨-, ⟨hB, hB2⟩ | hB | hB⟩
      · omega
      · have ne : P.1 p a ≠ 8 ∧ P.1 p a ≠ 10 := by omega
        have r1 := rsz_one (P := P) (sz := sz) (p := p) cab
        rcases hB with hB | hB
        · rw [if_neg ne.1, if_neg ne.2, if_neg (by omega)]
          have hcs : cst P sz p a = 1 := by unfold cst; rw [if_neg (by omega)]
          obtain ⟨B, t1, D1, k1, k2, k3, k4, k5, k6⟩ := r_step (N := N) (k := a) hN hP hw hp (by omega) hz (by omega) hB.2 h hw2 (by omega) (by omega) (fun q => by have := g6 (hs0 q); omega) (by omega) (by omega)
          rw [hsl] at k2
          refine rest (a + 1) 1 1 _ t1 D1 B (by omega) (fun fu => ?_) BD_pl MX_pl PX_pl hB2 (by omega) (by omega) (by omega) k2 (FQ.qx k3 k5 k6) (by omega)
          rw [ws hP hp (by omega) hz (by omega) w3, if_pos (by omega), k1, zbV_s]
        · rw [if_neg ne.1, if_neg ne.2, if_pos hB.1]
          obtain ⟨hG, hRB⟩ := hcall a hB.1 hB.2
          obtain ⟨u1, u2, u3, u4, u5⟩ := w4 a (by omega)
          obtain ⟨v1, v2, v3⟩ := u5 hB.1
          have hl' : lv + n ≤ 28 ∧ sc ≤ lv ∧ kc (n + 1) ≤ K := by
            rcases hl with q | ⟨-, -, -, q⟩
            · exact q
            · exact absurd hB.2 (q _)
          obtain ⟨B, t1, D1, k, k1, k2, k3, k4, k5⟩ := g_call (N := N) (b := b) hN hG hw hW hw2 hz hp hB.1 cab hb (hlow a (by omega) hB.1) hB.2 hdp (by omega) h hP (by rw [hsl]; exact hg0)
          rw [hsl] at k3
          have hkm := kc_mono n
          exact rest (a + 1) (cst P sz p a) k _ t1 D1 B (Nat.le_trans k1 (Nat.mul_le_mul_right _ (by omega))) k2 (BD_cl hRB hW v1 v2 v3 hB.1 hB.2) (hM sil _ 0 _ (clP s.1 (P.2.1 p a 0).toNat, s.2)) (hX sil _ 0 _ (clP s.1 (P.2.1 p a 0).toNat, s.2)) hB2 (by omega) (by omega) (by omega) k3 k4 k5
      · obtain ⟨q1, q2, q3, q4, q5, q6, q7, q8, q9, q10⟩ := hB
        obtain ⟨hG, hRB, hRN, bb1⟩ := hI _ _ q8
        obtain ⟨-, -, -, bb2⟩ := hI _ _ q9
        have hl' : lv + n ≤ 28 ∧ sc ≤ lv ∧ kc (n + 1) ≤ K := by
          rcases hl with q | ⟨-, -, q, -⟩
          · exact q
          · exact absurd q8 (q _ _)
        rw [if_pos q1]
        obtain ⟨B, t1, D1, k, k1, k2, k3, k4, k5⟩ := g_if (N := N) (b := b) hN hG hRB hX hM hw hw2 hz hp q1 rfl rfl q5 q6 q2 q3 q4 hb bb1 bb2 hdp ⟨hl'.1, hl'.2.1⟩ h hP (by rw [hsl]; exact hg0)
        rw [hsl] at k3
        have := rsz_blk (P := P) (sz := sz) (p := p) q2 q3 q4
        exact rest _ _ k _ t1 D1 B (Nat.le_trans k1 (Nat.mul_le_mul_right _ (by omega))) k2 (BD_if hRB hp rfl rfl q2 q3 (by omega) bb1 bb2) (MX_if hM) (PX_if hX) q10 (by omega) (by omega) (by omega) k3 k4 k5
      · obtain ⟨q1, q2, q3, q4, q5, q6, q7, q8, q9, q10⟩ := hB
        obtain ⟨hG, hRB, hRN, bb2⟩ := hI _ _ q9
        have bb1 : Bl nd (P.1 p) (fun k => P.2.1 p k 1) (P.2.2.1 p) n (a + 1) (P.2.2.1 p a) := Bl_plain (by omega) (fun k k1 k2 => q8 k (by omega) k2)
        have hl' : lv + n ≤ 28 ∧ sc ≤ lv ∧ kc (n + 1) ≤ K := by
          rcases hl with q | ⟨-, -, q, -⟩
          · exact q
          · exact absurd q9 (q _ _)
        rw [if_neg (by omega), if_pos q1]
        obtain ⟨B, t1, D1, k, k1, k2, k3, k4, k5⟩ := g_while (N := N) (b := b) hN hG hRB hX hM hRN hw hw2 hz hp q1 rfl rfl q7 q5 q6 q2 q3 q4 hb bb1 bb2 hdp ⟨hl'.1, hl'.2.1⟩ h hP (by rw [hsl]; exact hg0)
        rw [hsl] at k3
        have := rsz_blk (P := P) (sz := sz) (p := p) q2 q3 q4
        exact rest _ _ k _ t1 D1 B (Nat.le_trans k1 (Nat.mul_le_mul_right _ (by omega))) k2 (BD_wh hRB hp rfl rfl q2 q3 (by omega) bb1 bb2) (MX_wh hM) ⟨[], (List.append_nil s.2.2.1).symm⟩ q10 (by omega) (by omega) (by omega) k3 k4 k5
    · have hab := Bs_le hB
      have : a = b := by omega
      subst this
      refine ⟨A, t, D, 0, by omega, RU.refl, ?_, ⟨Nat.le_refl _, fun _ _ => rfl, fr.refl _ _, Int.le_refl _, fun _ => rfl⟩, by omega⟩
      cases l with
      | zero => exact h
      | succ l =>
        show RW A w sc dp lv t D (if a < a then _ else s)
        rw [if_neg (by omega)]; exact h
/-- the reference's walk is the walk -/
theorem gr_all (hN : 300000 ≤ N) (hw : WfP P ex) (hW : WB P sz ex nd) (hlow : ∀ p k, ex p → k < P.2.2.2.1 p → P.1 p k = 7 → P.2.1 p k 1 < p) (hnd : ∀ q, 1 ≤ nd q) (hw2 : w < 2) (hz : z < 3) : ∀ n, GR N w z P sz ex nd (wk P n) n := by
  intro n
  induction n with
  | zero =>
    intro sc p a b dp lv t D s A hp hB hb hdp hl h hP hg
    have hBs : Bs nd (P.1 p) (fun k => P.2.1 p k 1) (P.2.2.1 p) 0 (fun _ _ => False) (b - a) a b := Bs_plain hB.1 rfl hB.2
    exact gr_loop (R := fun _ _ _ _ s => s) (n := 0) (p := p) (b := b) (K := kc 0) (In := fun _ _ => False) (fun _ _ hxy => hxy.elim) (fun x _ h0 => absurd h0 (by have := hnd (P.2.1 p x 1); omega)) hN (fun _ _ _ _ s => PX.refl s) (fun _ _ _ _ s => MX.refl s) hw hW (hlow p · hp) hw2 hz hp hb hdp (by decide) (Or.inr ⟨by omega, by omega, fun _ _ q => q, fun q => by have := hnd q; omega⟩) (b - a) a (b - a) t D s A hBs (Nat.le_refl _) h hP hg
  | succ n ih =>
    intro sc p a b dp lv t D s A hp hB hb hdp hl h hP hg
    have hRB := wk_bd hW hw n
    exact gr_loop (R := wk P n) (n := n) (p := p) (b := b) (K := kc (n + 1)) (In := Bl nd (P.1 p) (fun k => P.2.1 p k 1) (P.2.2.1 p) n) (fun x y hxy => ⟨ih, hRB, wk_ni hw n, hxy⟩) (fun _ _ _ => ⟨ih, hRB⟩) hN (wk_px P n) (wk_mx P n) hw hW (hlow p · hp) hw2 hz hp hb hdp (by have := kc_pos (n + 1); omega) (Or.inl ⟨by omega, by omega, Nat.le_refl _⟩) (b - a) a (b - a) t D s A hB (Nat.le_refl _) h hP hg
end
