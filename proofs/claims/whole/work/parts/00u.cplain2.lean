section
variable {N : Nat} {A : zA} {sil : Bool} {lv c ta R t : Nat} {D : Nat → T} {s : St} {ex : Nat → Prop} {P : Pg} {p k : Nat}
theorem w_rd {v : Nat} {K : Int → Option zA} (h : CW A sil c ta R t D s) (hc : okc lv c) (hl : lv ≤ 24) (hv : v < 61) : ∃ j : Nat, j < t ∧ D j = s.1 v ∧ ri A c v = j ∧ zrD A c v K = K j := by
  obtain ⟨c1, c2, c3, c4, c5⟩ := hc.fx hl
  obtain ⟨j, j1, j2, j3⟩ := h.2.2.1 v hv
  refine ⟨j, j1, j3, j2, ?_⟩
  rw [zrD_f h.1.1 c2 (by omega) (by omega), j2]
theorem w_wr {v j : Nat} {K : zA → Option zA} (h : CW A sil c ta R t D s) (hc : okc lv c) (hl : lv ≤ 24) (hv : v < 61) : zwD A c v j K = K (rs A c v j) := by
  obtain ⟨c1, c2, c3, c4, c5⟩ := hc.fx hl
  exact zwD_f h.1.1 c2 (by omega) (by omega) (by omega)
theorem w_plain (hN : 300000 ≤ N) (h : CW A sil c ta R t D s) (hc : okc lv c) (hl : lv ≤ 24) (hta : okt ta) (ht : t < 38000) (hlen : sil = false → s.2.1.length < 150 ∧ s.2.2.1.length < 150) (hP : PrC A R ex P) (hw : WfP P ex) (hp : ex p) (hk : k < P.2.2.2.1 p) (h6 : P.1 p k ≤ 6) (hip : 0 ≤ s.2.2.2.2.1 ∧ s.2.2.2.2.1 < 100000) : ∃ (B : zA) (t' : Nat) (D' : Nat → T), z_Wk_goOverPlain N (R + 2 + 3 * p) k A = some B ∧ CW B sil c ta R t' D' (plS P sil p k s) ∧ WX 24 c ta t t' D D' A B ∧ t' ≤ t + 1 := by
  obtain ⟨w1, w2, w3, w4⟩ := hw p hp
  obtain ⟨u1, u2, u3, u4, u5⟩ := w4 k hk
  have hO := h.1.1
  have hR := h.2.1.1
  obtain ⟨v1, g1, g2, g3⟩ := pc_any (N := N) (k := k) (i := 0) hO hP hp
  obtain ⟨v2, e1, e2, e3⟩ := pc_any (N := N) (k := k) (i := 1) hO hP hp
  unfold z_Wk_goOverPlain
  rw [g1, zbP_s, e1, zbP_s, pc_kind hO hP hp hk, zbP_s]
  unfold plS
  have r0 : 0 < nbk (P.1 p k) → isr (P.1 p k) 0 → v1 = P.2.1 p k 0 ∧ 0 ≤ P.2.1 p k 0 ∧ P.2.1 p k 0 < 60 := fun a b => by
    have q := pc_reg (N := N) (i := 0) hO hP hw hp hk a b
    rw [show ((0 : Nat) : Int) = 0 from rfl, g1] at q
    injection q with q
    have := (u3 0 a).2.2 b
    omega
  have r1 : 1 < nbk (P.1 p k) → isr (P.1 p k) 1 → v2 = P.2.1 p k 1 ∧ 0 ≤ P.2.1 p k 1 ∧ P.2.1 p k 1 < 60 := fun a b => by
    have q := pc_reg (N := N) (i := 1) hO hP hw hp hk a b
    rw [show ((1 : Nat) : Int) = 1 from rfl, e1] at q
    injection q with q
    have := (u3 1 a).2.2 b
    omega
  by_cases k0 : P.1 p k = 0
  · have nb : nbk (P.1 p k) = 2 := by rw [k0]; decide
    obtain ⟨q1, q2, q3⟩ := r0 (by omega) ⟨fun z => by omega, fun z => by omega, fun z => by omega⟩
    rw [if_pos k0, if_pos k0, zgr_s hR]
    have hn := pc_num (N := N) (i := 1) hO hP hp hk (by omega)
    rw [show ((1 : Nat) : Int) = 1 from rfl] at hn
    rw [hn, zbP_s]
    obtain ⟨j, t', B, D', b1, b2, b3, b4, b5, b6, b7⟩ := w_make (k := 0) (x := P.2.1 p k 1) (y := 0) (z := 0) hN h hc hl hta (by omega) (Or.inl ⟨rfl, rfl, rfl⟩) zw0 (zw_id ⟨(u3 1 (by omega)).1, (u3 1 (by omega)).2.1⟩) zw0 zw0
    rw [b1, zbI_s, q1, show P.2.1 p k 0 = ((P.2.1 p k 0).toNat : Int) by omega, w_wr b2 hc hl (by omega)]
    obtain ⟨s1, s2⟩ := w_set (r := (P.2.1 p k 0).toNat) (j := j) b2 hc hl hta (by omega) b3 (by omega)
    refine ⟨_, t', D', rfl, ?_, b6.trans s2, b5⟩
    rw [b4] at s1
    exact s1
  rw [if_neg k0, if_neg k0]
  by_cases k1 : P.1 p k = 1
  · have nb : nbk (P.1 p k) = 2 := by rw [k1]; decide
    obtain ⟨q1, q2, q3⟩ := r0 (by omega) ⟨fun z => by omega, fun z => by omega, fun z => by omega⟩
    obtain ⟨q4, q5, q6⟩ := r1 (by omega) ⟨fun z => by omega, fun z => by omega, fun z => by omega⟩
    rw [if_pos k1, if_pos k1, zgr_s hR, zgr_s hR, q1, q4, show P.2.1 p k 0 = ((P.2.1 p k 0).toNat : Int) by omega, show P.2.1 p k 1 = ((P.2.1 p k 1).toNat : Int) by omega]
    obtain ⟨j, j1, j2, j3, j4⟩ := w_rd (v := (P.2.1 p k 1).toNat) (K := fun v12 => zwD A c ((P.2.1 p k 0).toNat : Int) v12 fun A13 => some A13) h hc hl (by omega)
    rw [j4, w_wr h hc hl (by omega)]
    obtain ⟨s1, s2⟩ := w_set (r := (P.2.1 p k 0).toNat) (j := j) h hc hl hta (by omega) j1 (by omega)
    refine ⟨_, t, D, rfl, ?_, s2, by omega⟩
    rw [j2] at s1
    exact s1
  rw [if_neg k1, if_neg k1]
  by_cases k2 : P.1 p k = 2
  · have nb : nbk (P.1 p k) = 4 := by rw [k2]; decide
    obtain ⟨q1, q2, q3⟩ := r0 (by omega) ⟨fun z => by omega, fun z => by omega, fun z => by omega⟩
    obtain ⟨q4, q5, q6⟩ := r1 (by omega) ⟨fun z => by omega, fun z => by omega, fun z => by omega⟩
    have q7 := (u3 2 (by omega)).2.2 ⟨fun z => by omega, fun z => by omega, fun z => by omega⟩
    have hn := pc_num (N := N) (i := 3) hO hP hp hk (by omega)
    rw [show ((3 : Nat) : Int) = 3 from rfl] at hn
    have hr2 := pc_reg (N := N) (i := 2) hO hP hw hp hk (by omega) ⟨fun z => by omega, fun z => by omega, fun z => by omega⟩
    rw [show ((2 : Nat) : Int) = 2 from rfl] at hr2
    rw [if_pos k2, if_pos k2]
    simp only [zgr_s hR, hn, zbP_s, hr2]
    rw [q1, q4, show P.2.1 p k 0 = ((P.2.1 p k 0).toNat : Int) by omega, show P.2.1 p k 1 = ((P.2.1 p k 1).toNat : Int) by omega, show P.2.1 p k 2 = ((P.2.1 p k 2).toNat : Int) by omega]
    obtain ⟨x, x1, x2, x3, x4⟩ := w_rd (v := (P.2.1 p k 1).toNat) (K := fun v18 => zrD A c ((P.2.1 p k 2).toNat : Int) fun v21 => zbI (z_Wk_worked N (P.2.1 p k 3) v18 v21 A) fun v22 A23 => zwD A23 c ((P.2.1 p k 0).toNat : Int) v22 fun A24 => some A24) h hc hl (by omega)
    rw [x4]
    obtain ⟨y, y1, y2, y3, y4⟩ := w_rd (v := (P.2.1 p k 2).toNat) (K := fun v21 => zbI (z_Wk_worked N (P.2.1 p k 3) x v21 A) fun v22 A23 => zwD A23 c ((P.2.1 p k 0).toNat : Int) v22 fun A24 => some A24) h hc hl (by omega)
    rw [y4]
    obtain ⟨j, t', B, D', b1, b2, b3, b4, b5, b6⟩ := w_worked (o := P.2.1 p k 3) hN h hc hl hta (by omega) hlen x1 y1 (u4 k2)
    rw [b1, zbI_s, w_wr b2 hc hl (by omega)]
    obtain ⟨s1, s2⟩ := w_set (r := (P.2.1 p k 0).toNat) (j := j) b2 hc hl hta (by omega) b3 (by omega)
    refine ⟨_, t', D', rfl, ?_, b6.trans s2, b5⟩
    rw [b4, x2, y2] at s1
    simp only [Int.toNat_natCast]
    exact s1
  rw [if_neg k2, if_neg k2]
  by_cases k3 : P.1 p k = 3
  · have nb : nbk (P.1 p k) = 2 := by rw [k3]; decide
    obtain ⟨q1, q2, q3⟩ := r0 (by omega) ⟨fun z => by omega, fun z => by omega, fun z => by omega⟩
    obtain ⟨q4, q5, q6⟩ := r1 (by omega) ⟨fun z => by omega, fun z => by omega, fun z => by omega⟩
    rw [if_pos k3, if_pos k3, zgr_s hR, q1, q4]
    have z0 : P.2.1 p k 0 = ((P.2.1 p k 0).toNat : Int) := by omega
    have z1 : P.2.1 p k 1 = ((P.2.1 p k 1).toNat : Int) := by omega
    generalize (P.2.1 p k 0).toNat = n0 at *
    generalize (P.2.1 p k 1).toNat = n1 at *
    rw [z0, z1]
    obtain ⟨x, x1, x2, x3, x4⟩ := w_rd (v := n1) (K := fun v27 => zbV (z_Wk_demandCell N v27 A) fun A28 => zgr A28 110 5 fun p29 => zgr A28 110 5 fun p30 => zrD A28 p30 60 fun v31 => zgr A28 110 5 fun p32 => zrD A28 p32 n1 fun v33 => zbI (z_Th_make N 111 2 v31 v33 0 A28) fun v34 A35 => zwD A35 p29 n0 v34 fun A36 => some A36) h hc hl (by omega)
    rw [x4]
    obtain ⟨B, b1, b2, b3⟩ := w_cell (x := x) hN h hc hl hta (by omega) hlen x1
    rw [b1, zbV_s]
    simp only [zgr_s b2.2.1.1]
    obtain ⟨y, y1, y2, y3, y4⟩ := w_rd (v := 60) (K := fun v31 => zrD B c n1 fun v33 => zbI (z_Th_make N 111 2 v31 v33 0 B) fun v34 A35 => zwD A35 c n0 v34 fun A36 => some A36) b2 hc hl (by omega)
    rw [show ((60 : Nat) : Int) = 60 from rfl] at y4
    rw [y4]
    obtain ⟨z, z1', z2, z3, z4⟩ := w_rd (v := n1) (K := fun v33 => zbI (z_Th_make N 111 2 y v33 0 B) fun v34 A35 => zwD A35 c n0 v34 fun A36 => some A36) b2 hc hl (by omega)
    rw [z4]
    have pe : (sCel sil (D x) s).1 = s.1 := by
      unfold sCel sDem
      split
      · rfl
      · split
        · rfl
        · by_cases q : ((1 : Int), D x) ∈ s.2.2.1
          · rw [cif_pos q]
          · rw [cif_neg q]
    obtain ⟨j, t', C, D', c1, c2, c3, c4, c5, c6, c7⟩ := w_make (k := 2) (x := y) (y := z) (z := 0) hN b2 hc hl hta (by omega) (Or.inr (Or.inr (Or.inl ⟨rfl, by dsimp only; omega, by dsimp only; omega, by dsimp only; omega, by dsimp only; omega, rfl⟩))) (by decide) (yb_w (by omega) (by omega)) (yb_w (by omega) (by omega)) zw0
    rw [c1, zbI_s, w_wr c2 hc hl (by omega)]
    obtain ⟨s1, s2⟩ := w_set (r := n0) (j := j) c2 hc hl hta (by omega) c3 (by omega)
    refine ⟨_, t', D', rfl, ?_, (b3.trans c6).trans s2, c5⟩
    rw [pe] at y2 z2
    have : D' j = tLod (s.1 60) (s.1 n1) := by
      rw [c4, ← y2, ← z2]
      rfl
    rw [this, x2] at s1
    exact s1
  rw [if_neg k3, if_neg k3]
  by_cases k4 : P.1 p k = 4
  · have nb : nbk (P.1 p k) = 2 := by rw [k4]; decide
    obtain ⟨q1, q2, q3⟩ := r0 (by omega) ⟨fun z => by omega, fun z => by omega, fun z => by omega⟩
    obtain ⟨q4, q5, q6⟩ := r1 (by omega) ⟨fun z => by omega, fun z => by omega, fun z => by omega⟩
    rw [if_pos k4, if_pos k4, zgr_s hR, q1, q4]
    have z0 : P.2.1 p k 0 = ((P.2.1 p k 0).toNat : Int) := by omega
    have z1 : P.2.1 p k 1 = ((P.2.1 p k 1).toNat : Int) := by omega
    generalize (P.2.1 p k 0).toNat = n0 at *
    generalize (P.2.1 p k 1).toNat = n1 at *
    rw [z0, z1]
    obtain ⟨x, x1, x2, x3, x4⟩ := w_rd (v := n0) (K := fun v39 => zbV (z_Wk_demandCell N v39 A) fun A40 => zgr A40 110 5 fun p41 => zgr A40 110 5 fun p42 => zrD A40 p42 60 fun v43 => zgr A40 110 5 fun p44 => zrD A40 p44 n0 fun v45 => zgr A40 110 5 fun p46 => zrD A40 p46 n1 fun v47 => zbI (z_Th_make N 111 4 v43 v45 v47 A40) fun v48 A49 => zwD A49 p41 60 v48 fun A50 => some A50) h hc hl (by omega)
    rw [x4]
    obtain ⟨B, b1, b2, b3⟩ := w_cell (x := x) hN h hc hl hta (by omega) hlen x1
    rw [b1, zbV_s]
    simp only [zgr_s b2.2.1.1]
    obtain ⟨y, y1, y2, y3, y4⟩ := w_rd (v := 60) (K := fun v43 => zrD B c n0 fun v45 => zrD B c n1 fun v47 => zbI (z_Th_make N 111 4 v43 v45 v47 B) fun v48 A49 => zwD A49 c 60 v48 fun A50 => some A50) b2 hc hl (by omega)
    rw [show ((60 : Nat) : Int) = 60 from rfl] at y4
    rw [y4]
    obtain ⟨z, z1', z2, z3, z4⟩ := w_rd (v := n0) (K := fun v45 => zrD B c n1 fun v47 => zbI (z_Th_make N 111 4 y v45 v47 B) fun v48 A49 => zwD A49 c 60 v48 fun A50 => some A50) b2 hc hl (by omega)
    rw [z4]
    obtain ⟨v, v1', v2', v3, v4⟩ := w_rd (v := n1) (K := fun v47 => zbI (z_Th_make N 111 4 y z v47 B) fun v48 A49 => zwD A49 c 60 v48 fun A50 => some A50) b2 hc hl (by omega)
    rw [v4]
    have pe : (sCel sil (D x) s).1 = s.1 := by
      unfold sCel sDem
      split
      · rfl
      · split
        · rfl
        · by_cases q : ((1 : Int), D x) ∈ s.2.2.1
          · rw [cif_pos q]
          · rw [cif_neg q]
    obtain ⟨j, t', C, D', c1, c2, c3, c4, c5, c6, c7⟩ := w_make (k := 4) (x := y) (y := z) (z := v) hN b2 hc hl hta (by omega) (Or.inr (Or.inr (Or.inr (Or.inr (Or.inl ⟨rfl, by dsimp only; omega, by dsimp only; omega, by dsimp only; omega, by dsimp only; omega, by dsimp only; omega, by dsimp only; omega⟩))))) (by decide) (yb_w (by omega) (by omega)) (yb_w (by omega) (by omega)) (yb_w (by omega) (by omega))
    have wr := w_wr (v := 60) (j := j) (K := fun A50 => some A50) c2 hc hl (by omega)
    rw [show ((60 : Nat) : Int) = 60 from rfl] at wr
    rw [c1, zbI_s, wr]
    obtain ⟨s1, s2⟩ := w_set (r := 60) (j := j) c2 hc hl hta (by omega) c3 (by omega)
    rw [show ((60 : Nat) : Int) = 60 from rfl] at s1 s2
    refine ⟨_, t', D', rfl, ?_, (b3.trans c6).trans s2, c5⟩
    rw [pe] at y2 z2 v2'
    have : D' j = tSto (s.1 60) (s.1 n0) (s.1 n1) := by
      rw [c4, ← y2, ← z2, ← v2']
      rfl
    rw [this, x2] at s1
    exact s1
  rw [if_neg k4, if_neg k4]
  by_cases k5 : P.1 p k = 5
  · have nb : nbk (P.1 p k) = 1 := by rw [k5]; decide
    obtain ⟨q1, q2, q3⟩ := r0 (by omega) ⟨fun z => by omega, fun z => by omega, fun z => by omega⟩
    rw [if_pos k5, if_pos k5, q1]
    have z0 : P.2.1 p k 0 = ((P.2.1 p k 0).toNat : Int) := by omega
    generalize (P.2.1 p k 0).toNat = n0 at *
    rw [z0]
    obtain ⟨B, b1, b2, b3, b4⟩ := w_say (N := N) (w := 2) (x := -1) (u := none) h hc hl hta (by omega) (fun q => (hlen q).1) rfl (by decide) (by decide)
    rw [b1, zbV_s, zgr_s b2.2.1.1]
    have hi : zi B 110 12 = (sSay sil 2 none s).2.2.2.2.1 := b2.2.2.2.2.2.1.2.2
    have he : (sSay sil 2 none s).2.2.2.2.1 = s.2.2.2.2.1 := by unfold sSay; split <;> rfl
    rw [he] at hi
    rw [hi]
    obtain ⟨j, t', C, D', c1, c2, c3, c4, c5, c6, c7⟩ := w_make (k := 5) (x := s.2.2.2.2.1) (y := 0) (z := 0) hN b2 hc hl hta (by omega) (Or.inr (Or.inr (Or.inr (Or.inr (Or.inr (Or.inl ⟨rfl, rfl, rfl⟩)))))) (by decide) (yb_w (by omega) (by omega)) zw0 zw0
    rw [c1, zbI_s, w_wr c2 hc hl (by omega), zlet_s]
    obtain ⟨s1, s2⟩ := w_set (r := n0) (j := j) c2 hc hl hta (by omega) c3 (by omega)
    have c4 : D' j = tInp s.2.2.2.2.1 := by rw [c4]; rfl
    rw [c4] at s1
    obtain ⟨f1, f2, f3, f4, f5, f6, f7, f8, f9, f10, f11⟩ := hta.fx
    obtain ⟨e1', e2', e3', e4', e5'⟩ := hc.fx hl
    have oE := s1.1.1
    have zj : zi (rs C c n0 j) 110 12 = s.2.2.2.2.1 := by
      have := s1.2.2.2.2.2.1.2.2
      rw [show (sSet n0 (tInp s.2.2.2.2.1) (sSay sil 2 none s)).2.2.2.2.1 = s.2.2.2.2.1 from he] at this
      exact this
    rw [zj]
    have hF : cF [110] (rs C c n0 j) (zsi (rs C c n0 j) 110 12 (s.2.2.2.2.1 + 1)) := cF_si oE (by decide) (by decide) (by decide)
    have n1 : ∀ a, a ≠ 110 → ([110] : List Nat).contains a = false := fun a ha => cont2 ha
    obtain ⟨h1, h2, h3, h4, h5, h6', h7, h8⟩ := s1
    refine ⟨_, t', D', rfl, ⟨h1.fr hF (by decide), h2, h3.mono (fun i hi => ri_si_o (by omega)) (Nat.le_refl _) (fun _ _ => rfl), h4.mono (zi_si_o (by omega)) (fun i => ⟨ri_si_o (by omega), ri_si_o (by omega)⟩) (Nat.le_refl _) (fun _ _ => rfl), h5.mono (zi_si_j (by decide)) (fun i => ri_si_o (by decide)) (Nat.le_refl _) (fun _ _ => rfl), ⟨by rw [zi_si_j (by decide)]; exact h6'.1, by rw [zi_si_j (by decide)]; exact h6'.2.1, ?_⟩, h7.mono rfl (fun e => ⟨hF.v f7 (n1 _ (by omega)), hF.v f8 (n1 _ (by omega))⟩) (Nat.le_refl _) (fun _ _ => rfl), h8⟩, ((b3.trans c6).trans s2).trans ⟨Nat.le_refl _, fun _ _ => rfl, hF.mono (fun a ha => ?_)⟩, c5⟩
    · rw [zi_si_s, yb_w (by omega) (by omega)]
      show s.2.2.2.2.1 + 1 = (sSay sil 2 none s).2.2.2.2.1 + 1
      rw [he]
    · simp only [List.contains_iff_mem, List.mem_cons, List.not_mem_nil, or_false] at ha
      exact wl_mem.mpr (by omega)
  rw [if_neg k5, if_neg k5]
  have k6 : P.1 p k = 6 := by omega
  have nb : nbk (P.1 p k) = 1 := by rw [k6]; decide
  obtain ⟨q1, q2, q3⟩ := r0 (by omega) ⟨fun z => by omega, fun z => by omega, fun z => by omega⟩
  rw [if_pos k6, zgr_s hR, q1, show P.2.1 p k 0 = ((P.2.1 p k 0).toNat : Int) by omega]
  obtain ⟨x, x1, x2, x3, x4⟩ := w_rd (v := (P.2.1 p k 0).toNat) (K := fun v60 => zbV (z_Wk_say N 3 v60 A) fun A61 => some A61) h hc hl (by omega)
  rw [x4]
  obtain ⟨B, b1, b2, b3, b4⟩ := w_say (N := N) (w := 3) (x := x) (u := some (D x)) h hc hl hta (by omega) (fun q => (hlen q).1) ⟨x, x1, rfl, rfl⟩ (by decide) (by decide)
  rw [b1, zbV_s]
  refine ⟨B, t, D, rfl, ?_, b3, by omega⟩
  rw [x2] at b2
  exact b2
end
