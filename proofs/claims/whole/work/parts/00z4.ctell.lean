/-! what circled is told -/
section
variable {N : Nat} {A : zA} {ta : Nat}
theorem yz_rmT {f : Nat} (h : Own A) (hta : okt ta) (hf : f = 3 ∨ f = 4) (hn : zmr A ta f = none) : Rm A (yz A ta f 3050) := by
  obtain ⟨a1, a2, a3, a4, a5, a6, a7, a8, a9, a10, a11⟩ := hta.fx
  have hl := h.ln
  have hs : sy (yz A ta f 3050) = sy A := by
    unfold sy
    rw [List.map_congr_left (fun q hq => yz_ylo h (dy_of (SL_of q hq).1 (SL_of q hq).2) (fun z => by have := (SL_of q hq).2; omega))]
  have hb := big_app (A := A) (B := yz A ta f 3050) (n := 3050) yz_sh (by decide)
  have ht : tot (yz A ta f 3050) = tot A + 3050 := by
    unfold tot
    rw [hb, List.map_append, List.sum_append]
    simp only [List.map_cons, List.map_nil, List.sum_cons, List.sum_nil]
    omega
  have hc : ((big (yz A ta f 3050)).length : Int) = (big A).length + 1 := by
    rw [hb, List.length_append]; simp
  have hy : ty (yz A ta f 3050) = ty A + 1 := by
    unfold ty t1
    rw [yz_mr 114 3 (by omega), yz_mr 114 4 (by omega), yz_mr 117 3 (by omega), yz_mr 117 4 (by omega)]
    rcases hta with rfl | rfl <;> rcases hf with rfl | rfl
    · simp only [hn]; simp; omega
    · simp only [hn]; simp; omega
    · simp only [hn]; simp; omega
    · simp only [hn]; simp
  exact ⟨by omega, by omega⟩
theorem cF_yzT {f : Nat} (h : Own A) (hta : okt ta) (hf : f = 3 ∨ f = 4) (hn : zmr A ta f = none) : cF [ta] A (yz A ta f 3050) := by
  obtain ⟨a1, a2, a3, a4, a5, a6, a7, a8, a9, a10, a11⟩ := hta.fx
  have hl := h.ln
  have hd : dy ta f = true := by rcases hf with rfl | rfl; exact a7; exact a8
  refine ⟨yz_own h hd (by decide) (by decide), ⟨yz_rmT h hta hf hn, fun _ => smc_app (A := A) (B := yz A ta f 3050) (n := 3050) yz_sh (by decide), sh0_app yz_sh⟩, fun a j ha hb => ?_, fun o' f' hd' hs2 => ?_⟩
  · have := fx_lt ha
    refine ⟨yz_mi _ _ (by omega), yz_ml _ _ (by omega), ?_⟩
    rw [yz_mr _ _ (by omega), if_neg (fun q => by rw [q.1, cont1] at hb; cases hb)]
  · have ne : ¬ (o' = ta ∧ f' = f) := fun z => by rw [z.1, cont1] at hs2; cases hs2
    exact ⟨yz_ylo h hd' ne, fun e => yz_yvo h hd' ne e⟩
/-- both arrays there -/
theorem tale_w {i : Int} {x y : Int} (h : Own A) (hta : okt ta) (h3 : zmr A ta 3 ≠ none) (h4 : zmr A ta 4 ≠ none) (l3 : yl A ta 3 = 3050) (l4 : yl A ta 4 = 3050) (i0 : 0 ≤ i) (i1 : i < 3050) (wx : zw x = x) (wy : zw y = y) : ∃ B, (zgr A ta 3 fun p3 => zwD A p3 i x fun A4 => zgr A4 ta 4 fun p5 => zwD A4 p5 i y fun A6 => some A6) = some B ∧ cF [ta] A B ∧ (∀ a j, a < 296 → zmi B a j = zmi A a j) ∧ (∀ a j, zmr B a j = zmr A a j) ∧ (∀ f, yl B ta f = yl A ta f) ∧ (∀ e, 0 ≤ e → yv B ta 3 e = if e = i then x else yv A ta 3 e) ∧ (∀ e, 0 ≤ e → yv B ta 4 e = if e = i then y else yv A ta 4 e) := by
  obtain ⟨a1, a2, a3, a4, a5, a6, a7, a8, a9, a10, a11⟩ := hta.fx
  have nd : dyo.contains ta = false := by rcases hta with rfl | rfl <;> decide
  have get : ∀ f, dy ta f = true → zmr A ta f ≠ none → ∃ n : Nat, zmr A ta f = some (yc A ta f) ∧ A.1[yc A ta f]? = some (true, 0, n) ∧ yl A ta f = n ∧ 296 ≤ yc A ta f := fun f hd hn => by
    cases hc : zmr A ta f with
    | none => exact absurd hc hn
    | some c =>
      have e : yc A ta f = c := by unfold yc; rw [hc]; rfl
      obtain ⟨⟨n, g1, g2⟩, g3⟩ := h.2.1 ta f c hd hc
      refine ⟨n, by rw [e], by rw [e]; exact g1, by unfold yl; rw [e, g1], ?_⟩
      rcases g3 with g3 | g3
      · rw [nd] at g3; cases g3.1
      · omega
  obtain ⟨n3, m3, s3, q3, r3⟩ := get 3 a7 h3
  obtain ⟨n4, m4, s4, q4, r4⟩ := get 4 a8 h4
  have ne : yc A ta 3 ≠ yc A ta 4 := fun z => by
    have := h.2.2.2 ta 3 ta 4 _ a7 a8 m3 (by rw [z]; exact m4)
    omega
  have wd : ∀ (X : zA) (cc n : Nat) (z : Int) (K : zA → Option zA), X.1[cc]? = some (true, 0, n) → 4 ≤ cc → i < n → zwD X cc i z K = K (rs X cc i z) := fun X cc n z K g1 g2 g3 => by
    unfold zwD
    rw [g1]
    simp only
    rw [if_pos ⟨trivial, g2, i0, g3⟩]
    rfl
  rw [zgr_s m3, wd A _ n3 x _ s3 (by omega) (by omega)]
  have m4' : zmr (rs A (yc A ta 3) i x) ta 4 = some (yc A ta 4) := m4
  rw [zgr_s m4', wd (rs A (yc A ta 3) i x) _ n4 y _ s4 (by omega) (by omega)]
  have hz : ∀ a j, a ≠ yc A ta 3 → a ≠ yc A ta 4 → zmi (rs (rs A (yc A ta 3) i x) (yc A ta 4) i y) a j = zmi A a j := fun a j z1 z2 => by
    unfold rs zsi zmi zup
    simp only
    rw [if_neg (fun q => z2 q.1), if_neg (fun q => z1 q.1)]
  refine ⟨_, rfl, ⟨h, RmS.refl A, fun a j ha hs => ⟨hz a j (by have := fx_lt ha; omega) (by have := fx_lt ha; omega), rfl, rfl⟩, fun o f hd hs => ⟨rfl, fun e => ?_⟩⟩, fun a j ha => hz a j (by omega) (by omega), fun _ _ => rfl, fun _ => rfl, fun e e0 => ?_, fun e e0 => ?_⟩
  · have hne : o ≠ ta := fun z => by rw [z, cont1] at hs; cases hs
    have k : ∀ f', (f' = 3 ∨ f' = 4) → yc A o f ≠ yc A ta f' := fun f' hf' z => by
      have hd' : dy ta f' = true := by rcases hf' with rfl | rfl; exact a7; exact a8
      cases hc : zmr A o f with
      | none =>
        have : yc A o f = 0 := by unfold yc; rw [hc]; rfl
        rcases hf' with rfl | rfl <;> omega
      | some cc =>
        have e1 : yc A o f = cc := by unfold yc; rw [hc]; rfl
        have : zmr A ta f' = some (yc A ta f') := by rcases hf' with rfl | rfl; exact m3; exact m4
        exact hne (h.2.2.2 o f ta f' cc hd hd' hc (by rw [this, ← z, e1])).1
    show ri (rs (rs A (yc A ta 3) i x) (yc A ta 4) i y) (yc A o f) e = ri A (yc A o f) e
    rw [ri_rs_o (k 4 (Or.inr rfl)), ri_rs_o (k 3 (Or.inl rfl))]
  · show ri (rs (rs A (yc A ta 3) i x) (yc A ta 4) i y) (yc A ta 3) e = _
    rw [ri_rs_o ne, ri_rs i0 e0, wx]
    rfl
  · show ri (rs (rs A (yc A ta 3) i x) (yc A ta 4) i y) (yc A ta 4) e = _
    rw [ri_rs i0 e0, wy, ri_rs_o (fun z => ne z.symm)]
    rfl
theorem Ta_circled {w i : Int} {x y : Int} (h : Own A) (hta : okt ta) (hT : TAI A ta) (w0 : 0 ≤ w) (w1 : w < 50) (i0 : 0 ≤ i) (i1 : i < 61) (wx : zw x = x) (wy : zw y = y) : ∃ B, z_Ta_circled N ta w i x y A = some B ∧ cF [ta] A B ∧ (∀ a j, a < 296 → zmi B a j = zmi A a j) ∧ (∀ a j, a < 296 → ¬ (a = ta ∧ (j = 3 ∨ j = 4)) → zmr B a j = zmr A a j) ∧ TAI B ta ∧ zmr B ta 3 ≠ none ∧ (∀ e, 0 ≤ e → zmr A ta 3 ≠ none → yv B ta 3 e = if e = w * 61 + i then x else yv A ta 3 e) ∧ (∀ e, 0 ≤ e → zmr A ta 3 ≠ none → yv B ta 4 e = if e = w * 61 + i then y else yv A ta 4 e) ∧ yv B ta 3 (w * 61 + i) = x ∧ yv B ta 4 (w * 61 + i) = y := by
  obtain ⟨a1, a2, a3, a4, a5, a6, a7, a8, a9, a10, a11⟩ := hta.fx
  have hl := h.ln
  have hi : ∀ X : zA, z_Ta_indexOf N w i X = some (w * 61 + i) := fun X => by
    unfold z_Ta_indexOf
    rw [if_neg (by omega), if_pos w1, if_neg (by omega), if_pos i1, yb_w (by omega) (by omega)]
  unfold z_Ta_circled z_Ta_circled_32
  simp only [hi, zbP_s]
  rw [if_neg (show ¬ w * 61 + i < 0 by omega)]
  rcases hT with ⟨t3, t4⟩ | ⟨t3, t4, t5, t6⟩
  · rw [if_pos t3]
    have z1 : ∀ (X : zA) (K : Nat → zA → Option zA), zna X 0 3050 K = K X.1.length (znw X (true, 0, 3050)) := fun X K => by
      unfold zna; rw [if_pos (by decide)]; rfl
    simp only [z1, zlet_s]
    have e1 : zsr (znw A (true, 0, 3050)) ta 3 (some A.1.length) = yz A ta 3 3050 := rfl
    rw [e1]
    have o1 := yz_own h a7 (n := 3050) (by decide) (by decide)
    have f1 := cF_yzT h hta (Or.inl rfl) t3
    have t4' : zmr (yz A ta 3 3050) ta 4 = none := by rw [yz_mr _ _ (by omega), if_neg (by omega)]; exact t4
    have e2 : zsr (znw (yz A ta 3 3050) (true, 0, 3050)) ta 4 (some (yz A ta 3 3050).1.length) = yz (yz A ta 3 3050) ta 4 3050 := rfl
    rw [e2]
    have hl1 : (yz A ta 3 3050).1.length = A.1.length + 1 := by rw [yz_sh, List.length_append]; rfl
    have f2 := cF_yzT o1 hta (Or.inr rfl) t4'
    have o2 := yz_own o1 a8 (n := 3050) (by decide) (by decide)
    have c3 : zmr (yz (yz A ta 3 3050) ta 4 3050) ta 3 ≠ none := by
      rw [yz_mr _ _ (by omega), if_neg (by omega), yz_mr _ _ (by omega), if_pos ⟨rfl, rfl⟩]; simp
    have c4 : zmr (yz (yz A ta 3 3050) ta 4 3050) ta 4 ≠ none := by
      rw [yz_mr _ _ (by omega), if_pos ⟨rfl, rfl⟩]; simp
    have l3 : yl (yz (yz A ta 3 3050) ta 4 3050) ta 3 = 3050 := by rw [yz_ylo o1 a7 (by omega), yz_yl h a7 (by decide)]
    have l4 : yl (yz (yz A ta 3 3050) ta 4 3050) ta 4 = 3050 := yz_yl o1 a8 (by decide)
    have mi : ∀ a j, a < 296 → zmi (yz (yz A ta 3 3050) ta 4 3050) a j = zmi A a j := fun a j ha => by rw [yz_mi _ _ (by omega), yz_mi _ _ (by omega)]
    have mr : ∀ a j, a < 296 → ¬ (a = ta ∧ (j = 3 ∨ j = 4)) → zmr (yz (yz A ta 3 3050) ta 4 3050) a j = zmr A a j := fun a j ha hn => by
      rw [yz_mr _ _ (by omega), if_neg (by omega), yz_mr _ _ (by omega), if_neg (by omega)]
    generalize yz (yz A ta 3 3050) ta 4 3050 = E at *
    obtain ⟨B, b1, b2, b3, b4, b5, b6, b7⟩ := tale_w (i := w * 61 + i) o2 hta c3 c4 l3 l4 (by omega) (by omega) wx wy
    exact ⟨B, by rw [if_neg (show ¬ w * 61 + i < 0 by omega)]; exact b1, (f1.trans f2).trans b2, fun a j ha => by rw [b3 a j ha, mi a j ha], fun a j ha hn => by rw [b4, mr a j ha hn], Or.inr ⟨by rw [b4]; exact c3, by rw [b4]; exact c4, by rw [b5]; exact l3, by rw [b5]; exact l4⟩, by rw [b4]; exact c3, fun e e0 hn => absurd t3 hn, fun e e0 hn => absurd t3 hn, by rw [b6 _ (by omega), if_pos rfl], by rw [b7 _ (by omega), if_pos rfl]⟩
  · rw [if_neg t3, if_neg t4]
    obtain ⟨B, b1, b2, b3, b4, b5, b6, b7⟩ := tale_w (i := w * 61 + i) h hta t3 t4 t5 t6 (by omega) (by omega) wx wy
    exact ⟨B, b1, b2, b3, fun a j _ _ => b4 a j, Or.inr ⟨by rw [b4]; exact t3, by rw [b4]; exact t4, by rw [b5]; exact t5, by rw [b5]; exact t6⟩, by rw [b4]; exact t3, fun e e0 _ => b6 e e0, fun e e0 _ => b7 e e0, by rw [b6 _ (by omega), if_pos rfl], by rw [b7 _ (by omega), if_pos rfl]⟩
end
section
variable {N : Nat} {A : zA} {lv c ta R0 t : Nat} {D : Nat → T} {s : St} {P : Pg} {ex : Nat → Prop}
/-- what a loop tells -/
def tells (w : Int) (S : Nat → Bool) (f g : Nat → T) (n : Nat) : List (Int × Nat × T × T) := ((List.range n).filter S).map (fun i => (w, i, f i, g i))
theorem tells_s (w : Int) (S : Nat → Bool) (f g : Nat → T) (n : Nat) : tells w S f g (n + 1) = tells w S f g n ++ (if S n then [(w, n, f n, g n)] else []) := by
  unfold tells
  rw [List.range_succ, List.filter_append, List.map_append]
  congr 1
  by_cases h : S n = true
  · rw [if_pos h]; simp [h]
  · rw [if_neg h]; simp [h]
theorem w_tell {y2 y3 : Nat} {w : Int} {S : Nat → Bool} {f : Nat → T} (hc : okc lv c) (hl : lv ≤ 23) (hta : okt ta) (hy2 : okr lv y2) (hy3 : okr lv y3) (w0 : 0 ≤ w) (w1 : w < 50) (ht : t < 39000) (cc0 : List (Int × Nat × T × T)) (hcc : ∀ q ∈ cc0, q.1 ≠ w) : ∀ (r n fu : Nat) (A : zA), n + r = 61 → r < fu → CW A false c ta R0 t D (s.1, s.2.1, s.2.2.1, s.2.2.2.1, s.2.2.2.2.1, cc0 ++ tells w S f s.1 n) → CPl A y2 t D f → CY A y3 t D w S → ∃ B, z_Wk_tellCircling_3_l N fu w y2 y3 n A = some B ∧ CW B false c ta R0 t D (s.1, s.2.1, s.2.2.1, s.2.2.2.1, s.2.2.2.2.1, cc0 ++ tells w S f s.1 61) ∧ WX 24 c ta t t D D A B ∧ (∀ a j, a < 296 → zmi B a j = zmi A a j) := by
  obtain ⟨c1, c2, c3, c4, c5⟩ := hc.fx (show lv ≤ 24 by omega)
  obtain ⟨k1, k2, k3, k4⟩ := hy2.fx hl
  obtain ⟨l1, l2, l3, l4⟩ := hy3.fx hl
  obtain ⟨a1, a2, a3, a4, a5, a6, a7, a8, a9, a10, a11⟩ := hta.fx
  intro r
  induction r with
  | zero =>
    intro n fu A h1 h2 h h4 h5
    obtain ⟨g, rfl⟩ : ∃ g, fu = g + 1 := ⟨fu - 1, by omega⟩
    have : n = 61 := by omega
    subst this
    refine ⟨A, ?_, h, WX.refl h.1.1, fun _ _ _ => rfl⟩
    show z_Wk_tellCircling_3_b (z_Wk_tellCircling_3_l N g) N w y2 y3 _ A = _
    unfold z_Wk_tellCircling_3_b
    rw [if_neg (by omega)]
  | succ r ih =>
    intro n fu A h1 h2 h h4 h5
    obtain ⟨g, rfl⟩ : ∃ g, fu = g + 1 := ⟨fu - 1, by omega⟩
    have hO := h.1.1
    have wn1 : zw ((n : Int) + 1) = ((n + 1 : Nat) : Int) := by rw [yb_w (by omega) (by omega)]; omega
    obtain ⟨x, x1, x2, x3⟩ := h4 n (by omega)
    obtain ⟨y, y1, y2', y3'⟩ := h.2.2.1 n (by omega)
    have key : z_Wk_tellCircling_3_l N (g + 1) w y2 y3 n A = if ri A y3 n = -1 then z_Wk_tellCircling_3_l N g w y2 y3 ((n + 1 : Nat) : Int) A else (zbV (z_Ta_circled N ta w n x y A) fun A8 => z_Wk_tellCircling_3_l N g w y2 y3 ((n + 1 : Nat) : Int) A8) := by
      show z_Wk_tellCircling_3_b (z_Wk_tellCircling_3_l N g) N w y2 y3 n A = _
      unfold z_Wk_tellCircling_3_b
      rw [if_pos (by omega), zrD_f hO l2 (by omega) (by omega), zgr_s h.2.1.2.1, zcs_s a4, zrD_f hO k2 (by omega) (by omega), zgr_s h.2.1.1, zrD_f hO c2 (by omega) (by omega), wn1, x2, y2']
    rw [key]
    obtain ⟨q1, q2⟩ := h5 n (by omega)
    cases hs : S n with
    | false =>
      rw [if_pos (q2 hs)]
      refine ih (n + 1) g A (by omega) (by omega) ?_ h4 h5
      rw [tells_s, hs, if_neg (by decide), List.append_nil]
      exact h
    | true =>
      obtain ⟨j, j1, j2, j3⟩ := q1 hs
      rw [if_neg (by omega)]
      obtain ⟨h1', h2', h3', h4', h5', h6', h7', h8'⟩ := h
      obtain ⟨B, b1, b2, b3, b4, b5, b6, b7, b8, b9, b10⟩ := Ta_circled (N := N) (w := w) (i := n) (x := x) (y := y) hO hta h8' w0 w1 (by omega) (by omega) (yb_w (by omega) (by omega)) (yb_w (by omega) (by omega))
      rw [b1, zbV_s]
      have zi' : ∀ a j, a < 296 → zi B a j = zi A a j := fun a j ha => by unfold zi; rw [b3 a j ha]
      have ri' : ∀ (a : Nat) (e : Int), a < 296 → ri B a e = ri A a e := fun a e ha => zi' a _ ha
      have n1 : ∀ a, a ≠ ta → ([ta] : List Nat).contains a = false := fun a ha => cont2 ha
      have hCC : CCc B ta t D (cc0 ++ tells w S f s.1 (n + 1)) := by
        rw [tells_s, hs, if_pos rfl, ← List.append_assoc]
        intro q hq
        rcases List.mem_append.mp hq with hq | hq
        · obtain ⟨m1, m2, m3, m4, m5, m6⟩ := h7' q hq
          have hne : q.1 * 61 + q.2.1 ≠ w * 61 + n := by
            rcases List.mem_append.mp hq with hq | hq
            · have := hcc q hq; omega
            · obtain ⟨i, hi, rfl⟩ := List.mem_map.mp hq
              have := (List.mem_filter.mp hi).1
              have := List.mem_range.mp this
              dsimp only at *
              omega
          refine ⟨m1, m2, m3, ?_, ?_, b6⟩
          · rw [b7 _ (by omega) m6, if_neg hne]; exact m4
          · rw [b8 _ (by omega) m6, if_neg hne]; exact m5
        · rw [List.mem_singleton] at hq
          subst hq
          refine ⟨w0, w1, by dsimp only; omega, ?_, ?_, b6⟩
          · dsimp only; rw [b9]; exact ⟨x, x1, rfl, x3⟩
          · dsimp only; rw [b10]; exact ⟨y, y1, rfl, y3'⟩
      obtain ⟨C, m1, m2, m3, m4⟩ := ih (n + 1) g B (by omega) (by omega) ⟨h1'.fr b2 (n1 _ (by omega)), ⟨by rw [b4 _ _ (by omega) (by omega)]; exact h2'.1, by rw [b4 _ _ (by omega) (by omega)]; exact h2'.2.1, by rw [b4 _ _ (by omega) (by omega)]; exact h2'.2.2⟩, h3'.mono (fun i hi => ri' _ _ (by omega)) (Nat.le_refl _) (fun _ _ => rfl), h4'.mono (zi' _ _ (by omega)) (fun i => ⟨ri' _ _ (by omega), ri' _ _ (by omega)⟩) (Nat.le_refl _) (fun _ _ => rfl), h5'.mono (zi' _ _ (by omega)) (fun i => ri' _ _ (by omega)) (Nat.le_refl _) (fun _ _ => rfl), h6'.mono (zi' _ _ (by omega)) (zi' _ _ (by omega)) (zi' _ _ (by omega)), hCC, b5⟩ (fun i hi => by rw [ri' _ _ (by omega)]; exact h4 i hi) (fun i hi => by rw [ri' _ _ (by omega)]; exact h5 i hi)
      refine ⟨C, m1, m2, WX.trans ⟨Nat.le_refl _, fun _ _ => rfl, b2.mono (fun a ha => ?_)⟩ m3, fun a j ha => by rw [m4 a j ha, b3 a j ha]⟩
      simp only [List.contains_iff_mem, List.mem_cons, List.not_mem_nil, or_false] at ha
      exact wl_mem.mpr (by omega)
end
