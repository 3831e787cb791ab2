section
variable {N : Nat} {R0 : Nat} {P : Pg} {sz : Nat → Nat} {ex : Nat → Prop} {nd : Int → Nat}
theorem go_loop {rec : Nat → Int → Int → Int → zA → Option zA} {R : Bool → Nat → Nat → Nat → St → St} {n p b lv c ta : Nat} {sil : Bool} {In : Nat → Nat → Prop} (hI : ∀ x y, In x y → GOH P sz ex nd R0 rec R n ∧ RB P sz ex nd R n ∧ Bl nd (P.1 p) (fun k => P.2.1 p k 1) (P.2.2.1 p) n x y) (hcall : ∀ a, P.1 p a = 7 → nd (P.2.1 p a 1) ≤ n → GOH P sz ex nd R0 rec R n ∧ RB P sz ex nd R n) (hN : 300000 ≤ N) (hX : RX R) (hM : RM R) (hR0 : R0 = 7 ∨ R0 = 21 ∨ R0 = 35) (hex : ∀ p, ex p → p ≤ 3) (hw : WfP P ex) (hW : WB P sz ex nd) (hp : ex p) (hb : b ≤ P.2.2.2.1 p) (hl : lv + n ≤ 22 ∨ (lv ≤ 23 ∧ (∀ x y, ¬ In x y) ∧ ∀ q, ¬ nd q ≤ n)) (hc : okc lv c) (hta : okt ta) : ∀ (f a l fu t : Nat) (D : Nat → T) (s : St) (A : zA), Bs nd (P.1 p) (fun k => P.2.1 p k 1) (P.2.2.1 p) n In f a b → b - a ≤ l → b - a < fu → CW A sil c ta R0 t D s → PrC A R0 ex P → BG P sz sil p a (b - a) t s → ∃ (B : zA) (t' : Nat) (D' : Nat → T), z_Wk_goOverR_11_l rec N fu (R0 + 2 + 3 * p) b lv a A = some B ∧ CW B sil c ta R0 t' D' (wkl P R sil p l a b s) ∧ WX lv c ta t t' D D' A B ∧ t' ≤ t + 21 * rsz P sz p a (b - a) := by
  obtain ⟨w1, w2, w3, w4⟩ := hw p hp
  have hlv : lv ≤ 23 := by omega
  intro f
  induction f with
  | zero =>
    intro a l fu t D s A hB h1 h2 h hP hg
    have : a = b := hB
    subst this
    obtain ⟨g, rfl⟩ : ∃ g, fu = g + 1 := ⟨fu - 1, by omega⟩
    refine ⟨A, t, D, ?_, ?_, WX.refl h.1.1, by omega⟩
    · show z_Wk_goOverR_11_b rec (z_Wk_goOverR_11_l rec N g) N _ _ _ _ A = _
      unfold z_Wk_goOverR_11_b
      rw [if_neg (by omega)]
    · cases l with
      | zero => exact h
      | succ l =>
        show CW A sil c ta R0 t D (if a < a then _ else s)
        rw [if_neg (by omega)]; exact h
  | succ f ih =>
    intro a l fu t D s A hB h1 h2 h hP hg
    obtain ⟨g, rfl⟩ : ∃ g, fu = g + 1 := ⟨fu - 1, by omega⟩
    by_cases cab : a < b
    · obtain ⟨l', rfl⟩ : ∃ l', l = l' + 1 := ⟨l - 1, by omega⟩
      have hk := pc_kind (N := N) h.1.1 hP hp (show a < P.2.2.2.1 p by omega)
      have wa1 : zw ((a : Int) + 1) = ((a + 1 : Nat) : Int) := by rw [yb_w (by omega) (by omega)]; omega
      have key : z_Wk_goOverR_11_l rec N (g + 1) (R0 + 2 + 3 * p) b lv a A = (if P.1 p a = 7 then zbV (z_Wk_goOverCall rec N (R0 + 2 + 3 * p) a lv A) fun A3 => z_Wk_goOverR_11_l rec N g (R0 + 2 + 3 * p) b lv ((a + 1 : Nat) : Int) A3 else (if P.1 p a = 8 then zbV (z_Wk_goOverIf rec N (R0 + 2 + 3 * p) a lv A) fun A5 => zbP (z_Pt_endOf N (R0 + 2 + 3 * p) a A5) fun v6 => z_Wk_goOverR_11_l rec N g (R0 + 2 + 3 * p) b lv (zw ((zmx a v6) + 1)) A5 else (if P.1 p a = 10 then zbV (z_Wk_goOverWhile rec N (R0 + 2 + 3 * p) a lv A) fun A8 => zbP (z_Pt_endOf N (R0 + 2 + 3 * p) a A8) fun v9 => z_Wk_goOverR_11_l rec N g (R0 + 2 + 3 * p) b lv (zw ((zmx a v9) + 1)) A8 else zbV (z_Wk_goOverPlain N (R0 + 2 + 3 * p) a A) fun A11 => z_Wk_goOverR_11_l rec N g (R0 + 2 + 3 * p) b lv ((a + 1 : Nat) : Int) A11))) := by
        show z_Wk_goOverR_11_b rec (z_Wk_goOverR_11_l rec N g) N _ _ _ _ A = _
        unfold z_Wk_goOverR_11_b
        rw [if_pos (by omega), hk, zbP_s, wa1]
      rw [key]
      have spec : wkl P R sil p (l' + 1) a b s = if P.1 p a = 8 then wkl P R sil p l' (P.2.2.1 p (P.2.2.1 p a) + 1) b (ifS P R sil p a s) else if P.1 p a = 10 then wkl P R sil p l' (P.2.2.1 p (P.2.2.1 p a) + 1) b (whS P R sil p a s) else if P.1 p a = 7 then wkl P R sil p l' (a + 1) b (clS P R sil p a s) else wkl P R sil p l' (a + 1) b (plS P sil p a s) := by
        show (if a < b then _ else s) = _
        rw [if_pos cab]
      rw [spec]
      have hg0 := hg
      obtain ⟨g1, g2, g3, g4, g5, gw, gC, g6⟩ := hg
      -- the end of a block
      have hend : ∀ (B : zA) (m e : Nat), P.2.2.1 p a = m → P.2.2.1 p m = e → a < m → m < e → e < b → 8 ≤ P.1 p a → 8 ≤ P.1 p m → Own B → PrC B R0 ex P → z_Pt_endOf N (R0 + 2 + 3 * p) a B = some (e : Int) ∧ zw (zmx (a : Int) e + 1) = ((e + 1 : Nat) : Int) := fun B m e hm he q1 q2 q3 q4 q5 hO hPB => by
        constructor
        · unfold z_Pt_endOf
          rw [pc_mate hO hPB hp (by omega) q4, hm, zbP_s, pc_mate hO hPB hp (by omega) q5, he, zbP_s]
        · have : zmx (a : Int) e = e := by unfold zmx; rw [if_pos (by omega)]
          rw [this, yb_w (by omega) (by omega)]; omega
      -- what is left after a block or an item
      have rest : ∀ (x z : Nat) (s' : St) (t1 : Nat) (D1 : Nat → T) (B : zA), BD z sil s s' → MX s s' → Bs nd (P.1 p) (fun k => P.2.1 p k 1) (P.2.2.1 p) n In f x b → a < x → x ≤ b → z + rsz P sz p x (b - x) ≤ rsz P sz p a (b - a) → CW B sil c ta R0 t1 D1 s' → WX lv c ta t t1 D D1 A B → t1 ≤ t + 21 * z → ∃ (C : zA) (t' : Nat) (D' : Nat → T), z_Wk_goOverR_11_l rec N g (R0 + 2 + 3 * p) b lv (x : Int) B = some C ∧ CW C sil c ta R0 t' D' (wkl P R sil p l' x b s') ∧ WX lv c ta t t' D D' A C ∧ t' ≤ t + 21 * rsz P sz p a (b - a) := by
        intro x z s' t1 D1 B hBD hMX hBs q1 q2 q3 hB' hX' ht1
        obtain ⟨d1, d2, d3, d4, d5, d6, d7⟩ := hBD
        have hwy : s'.2.2.1.length ≤ 150 := by
          cases sil with
          | true => rw [(d7 rfl).2.1]; exact gw
          | false => have := g6 rfl; omega
        obtain ⟨C, t', D', k1, k2, k3, k4⟩ := ih x l' g t1 D1 s' B hBs (by omega) (by omega) hB' (hX'.pr hP (by omega) hex hc (by omega) hta) ⟨by omega, by omega, by omega, by omega, by omega, hwy, gC.mx hMX, fun q => by have := g6 q; omega⟩
        exact ⟨C, t', D', k1, k2, hX'.trans k3, by omega⟩
      rcases hB with hB | ⟨-, ⟨hB, hB2⟩ | hB | hB⟩
      · omega
      · have ne : P.1 p a ≠ 8 ∧ P.1 p a ≠ 10 := by omega
        rw [if_neg ne.1, if_neg ne.2]
        have r1 := rsz_one (P := P) (sz := sz) (p := p) cab
        rcases hB with hB | hB
        · rw [if_neg (by omega), if_neg ne.1, if_neg ne.2, if_neg (by omega)]
          have hcs : cst P sz p a = 1 := by unfold cst; rw [if_neg (by omega)]
          obtain ⟨B, t1, D1, k1, k2, k3, k4⟩ := w_plain (N := N) (p := p) (k := a) hN h hc (by omega) hta (by omega) (fun q => by have := g6 q; omega) hP hw hp (by omega) hB.2 ⟨g4, by omega⟩
          rw [k1, zbV_s]
          exact rest (a + 1) 1 _ t1 D1 B BD_pl MX_pl hB2 (by omega) (by omega) (by omega) k2 (k3.up (by omega)) (by omega)
        · rw [if_pos hB.1, if_neg ne.1, if_neg ne.2, if_pos hB.1]
          obtain ⟨hG, hRB⟩ := hcall a hB.1 hB.2
          obtain ⟨u1, u2, u3, u4, u5⟩ := w4 a (by omega)
          obtain ⟨v1, v2, v3⟩ := u5 hB.1
          have hl' : lv + n ≤ 22 := by
            rcases hl with q | ⟨-, -, q⟩
            · exact q
            · exact absurd hB.2 (q _)
          obtain ⟨B, t1, D1, k1, k2, k3, k4⟩ := w_call (N := N) (b := b) hN hG hRB hM hR0 hex hw hW hp hB.1 cab hb hB.2 hl' hc hta h hP hg0
          rw [k1, zbV_s]
          exact rest (a + 1) (cst P sz p a) _ t1 D1 B (BD_cl hRB hW v1 v2 v3 hB.1 hB.2) (hM sil _ 0 _ (clP s.1 (P.2.1 p a 0).toNat, s.2)) hB2 (by omega) (by omega) (by omega) k2 k3 k4
      · obtain ⟨q1, q2, q3, q4, q5, q6, q7, q8, q9, q10⟩ := hB
        obtain ⟨hG, hRB, bb1⟩ := hI _ _ q8
        obtain ⟨-, -, bb2⟩ := hI _ _ q9
        have hl' : lv + n ≤ 22 := by
          rcases hl with q | ⟨-, q, -⟩
          · exact q
          · exact absurd q8 (q _ _)
        rw [if_neg (by omega), if_pos q1, if_pos q1]
        obtain ⟨B, t1, D1, k1, k2, k3, k4⟩ := w_if (N := N) (b := b) hN hG hRB hX hM (by omega) hex hw hp q1 rfl rfl q5 q2 q3 q4 hb bb1 bb2 hl' hc hta h hP hg0
        obtain ⟨e1, e2⟩ := hend B _ _ rfl rfl q2 q3 q4 (by omega) (by omega) k2.1.1 (k3.pr hP (by omega) hex hc (by omega) hta)
        rw [k1, zbV_s, e1, zbP_s, e2]
        have := rsz_blk (P := P) (sz := sz) (p := p) q2 q3 q4
        exact rest _ _ _ t1 D1 B (BD_if hRB hp rfl rfl q2 q3 (by omega) bb1 bb2) (MX_if hM) q10 (by omega) (by omega) (by omega) k2 k3 k4
      · obtain ⟨q1, q2, q3, q4, q5, q6, q7, q8, q9, q10⟩ := hB
        obtain ⟨hG, hRB, bb2⟩ := hI _ _ q9
        have bb1 : Bl nd (P.1 p) (fun k => P.2.1 p k 1) (P.2.2.1 p) n (a + 1) (P.2.2.1 p a) := Bl_plain (by omega) (fun k k1 k2 => q8 k (by omega) k2)
        have hl' : lv + n ≤ 22 := by
          rcases hl with q | ⟨-, q, -⟩
          · exact q
          · exact absurd q9 (q _ _)
        rw [if_neg (by omega), if_neg (by omega), if_pos q1, if_neg (by omega), if_pos q1]
        obtain ⟨B, t1, D1, k1, k2, k3, k4⟩ := w_while (N := N) (b := b) hN hG hRB hX hM (by omega) hex hw hp q1 rfl rfl q5 q2 q3 q4 hb bb1 bb2 hl' hc hta h hP hg0
        obtain ⟨e1, e2⟩ := hend B _ _ rfl rfl q2 q3 q4 (by omega) (by omega) k2.1.1 (k3.pr hP (by omega) hex hc (by omega) hta)
        rw [k1, zbV_s, e1, zbP_s, e2]
        have := rsz_blk (P := P) (sz := sz) (p := p) q2 q3 q4
        exact rest _ _ _ t1 D1 B (BD_wh hRB hp rfl rfl q2 q3 (by omega) bb1 bb2) (MX_wh hM) q10 (by omega) (by omega) (by omega) k2 k3 k4
    · have hab := Bs_le hB
      have : a = b := by omega
      subst this
      refine ⟨A, t, D, ?_, ?_, WX.refl h.1.1, by omega⟩
      · show z_Wk_goOverR_11_b rec (z_Wk_goOverR_11_l rec N g) N _ _ _ _ A = _
        unfold z_Wk_goOverR_11_b
        rw [if_neg (by omega)]
      · cases l with
        | zero => exact h
        | succ l =>
          show CW A sil c ta R0 t D (if a < a then _ else s)
          rw [if_neg (by omega)]; exact h
/-- the class's walk is the walk -/
theorem go_all (hN : 300000 ≤ N) (hR0 : R0 = 7 ∨ R0 = 21 ∨ R0 = 35) (hex : ∀ p, ex p → p ≤ 3) (hw : WfP P ex) (hW : WB P sz ex nd) (hnd : ∀ q, 1 ≤ nd q) : ∀ n M, n ≤ M → GOH P sz ex nd R0 (z_Wk_goOver_l N (M + 1)) (wk P n) n := by
  intro n
  induction n with
  | zero =>
    intro M hM sil p a b lv c ta t D s A hp hB hb hl hc hta h hP hg
    obtain ⟨w1, w2, w3, w4⟩ := hw p hp
    have hBs : Bs nd (P.1 p) (fun k => P.2.1 p k 1) (P.2.2.1 p) 0 (fun _ _ => False) (b - a) a b := Bs_plain hB.1 rfl hB.2
    obtain ⟨B, t', D', k1, k2, k3, k4⟩ := go_loop (rec := z_Wk_goOver_l N M) (R := fun _ _ _ _ s => s) (n := 0) (p := p) (b := b) (In := fun _ _ => False) (fun _ _ hxy => hxy.elim) (fun x _ h0 => absurd h0 (by have := hnd (P.2.1 p x 1); omega)) hN (fun _ _ _ _ s => PX.refl s) (fun _ _ _ _ s => MX.refl s) hR0 hex hw hW hp hb (Or.inr ⟨by omega, fun _ _ q => q, fun q => by have := hnd q; omega⟩) hc hta (b - a) a (b - a) N t D s A hBs (Nat.le_refl _) (by omega) h hP hg
    refine ⟨B, t', D', ?_, k2, k3, k4⟩
    show z_Wk_goOverR (z_Wk_goOver_l N M) N _ _ _ _ A = _
    unfold z_Wk_goOverR z_Wk_goOverR_11
    rw [if_pos (by omega)]
    exact k1
  | succ n ih =>
    intro M hM sil p a b lv c ta t D s A hp hB hb hl hc hta h hP hg
    obtain ⟨M', rfl⟩ : ∃ M', M = M' + 1 := ⟨M - 1, by omega⟩
    obtain ⟨w1, w2, w3, w4⟩ := hw p hp
    have hG := ih M' (by omega)
    have hRB := wk_bd hW hw n
    obtain ⟨B, t', D', k1, k2, k3, k4⟩ := go_loop (rec := z_Wk_goOver_l N (M' + 1)) (R := wk P n) (n := n) (p := p) (b := b) (In := Bl nd (P.1 p) (fun k => P.2.1 p k 1) (P.2.2.1 p) n) (fun x y hxy => ⟨hG, hRB, hxy⟩) (fun _ _ _ => ⟨hG, hRB⟩) hN (wk_px P n) (wk_mx P n) hR0 hex hw hW hp hb (Or.inl (by omega)) hc hta (b - a) a (b - a) N t D s A hB (Nat.le_refl _) (by omega) h hP hg
    refine ⟨B, t', D', ?_, k2, k3, k4⟩
    show z_Wk_goOverR (z_Wk_goOver_l N (M' + 1)) N _ _ _ _ A = _
    unfold z_Wk_goOverR z_Wk_goOverR_11
    rw [if_pos (by omega)]
    exact k1
end
