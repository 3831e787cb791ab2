/-! what was said on this way stays ahead of what is said next -/
def PX (s s' : St) : Prop := ∃ x, s'.2.2.1 = s.2.2.1 ++ x
theorem PX.refl (s : St) : PX s s := ⟨[], by simp⟩
theorem PX.trans {s s' s'' : St} (h : PX s s') (g : PX s' s'') : PX s s'' := by
  obtain ⟨x, hx⟩ := h
  obtain ⟨y, hy⟩ := g
  exact ⟨x ++ y, by rw [hy, hx, List.append_assoc]⟩
theorem PX_say {sil : Bool} {w : Int} {x : Option T} {s : St} : PX s (sSay sil w x s) := ⟨[], by rw [say22.1]; simp⟩
theorem PX_dem {sil : Bool} {w : Int} {x : T} {s : St} : PX s (sDem sil w x s) := by
  unfold sDem
  cases sil with
  | true => exact PX.refl s
  | false =>
    by_cases q : (w, x) ∈ s.2.2.1
    · simp only [Bool.false_eq_true, if_false, cif_pos q]; exact PX.refl s
    · simp only [Bool.false_eq_true, if_false, cif_neg q]
      exact ⟨[(w, x)], rfl⟩
theorem PX_pl {P : Pg} {sil : Bool} {p k : Nat} {s : St} : PX s (plS P sil p k s) := by
  unfold plS
  repeat' split
  · exact PX.refl s
  · exact PX.refl s
  · show PX s (_, (sDiv sil _ _ s).2)
    unfold sDiv
    split
    · exact PX_dem
    · exact PX.refl s
  · show PX s (_, (sCel sil _ s).2)
    unfold sCel
    split
    · exact PX.refl s
    · exact PX_dem
  · show PX s (_, (sCel sil _ s).2)
    unfold sCel
    split
    · exact PX.refl s
    · exact PX_dem
  · exact (show PX s (sSay sil 2 none s) from PX_say)
  · exact PX_say
def RX (R : Bool → Nat → Nat → Nat → St → St) : Prop := ∀ sil p a b s, PX s (R sil p a b s)
theorem PX_if {P : Pg} {R : Bool → Nat → Nat → Nat → St → St} (hR : RX R) {sil : Bool} {p a : Nat} {s : St} : PX s (ifS P R sil p a s) := by
  unfold ifS
  simp only
  split
  · split
    · exact hR _ _ _ _ _
    · exact hR _ _ _ _ _
  · exact ⟨[], by rw [say22.1]; simp⟩
theorem wk_px (P : Pg) : ∀ n, RX (wk P n) := by
  have key : ∀ R, RX R → ∀ sil p l a b s, PX s (wkl P R sil p l a b s) := by
    intro R hR sil p l
    induction l with
    | zero => intro a b s; exact PX.refl s
    | succ l ih =>
      intro a b s
      show PX s (if a < b then _ else s)
      repeat' split
      · exact PX_if (hR := hR) |>.trans (ih _ _ _)
      · exact PX.trans (s' := whS P R sil p a s) ⟨[], by unfold whS; simp⟩ (ih _ _ _)
      · exact PX.trans (s' := clS P R sil p a s) (hR sil _ 0 _ (clP s.1 (P.2.1 p a 0).toNat, s.2)) (ih _ _ _)
      · exact PX_pl.trans (ih _ _ _)
      · exact PX.refl s
  intro n
  induction n with
  | zero => intro sil p a b s; exact key _ (fun _ _ _ _ s => PX.refl s) sil p _ a b s
  | succ n ih => intro sil p a b s; exact key _ ih sil p _ a b s
/-! what circled: each WHILE tells of itself alone -/
def MX (s s' : St) : Prop := s.2.2.2.1 ≤ s'.2.2.2.1 ∧ ∃ x, s'.2.2.2.2.2 = s.2.2.2.2.2 ++ x ∧ ∀ q ∈ x, s.2.2.2.1 ≤ q.1 ∧ q.1 < s'.2.2.2.1
theorem MX.refl (s : St) : MX s s := ⟨Int.le_refl _, [], by simp, fun q hq => by cases hq⟩
theorem MX.same {s s' : St} (h1 : s'.2.2.2.1 = s.2.2.2.1) (h2 : s'.2.2.2.2.2 = s.2.2.2.2.2) : MX s s' := ⟨by omega, [], by rw [h2]; simp, fun q hq => by cases hq⟩
theorem MX.trans {s s' s'' : St} (h : MX s s') (g : MX s' s'') : MX s s'' := by
  obtain ⟨h1, x, hx, hx2⟩ := h
  obtain ⟨g1, y, hy, hy2⟩ := g
  refine ⟨by omega, x ++ y, by rw [hy, hx, List.append_assoc], fun q hq => ?_⟩
  rcases List.mem_append.mp hq with hq | hq
  · have := hx2 q hq; omega
  · have := hy2 q hq; omega
theorem MX_say {sil : Bool} {w : Int} {x : Option T} {s : St} : MX s (sSay sil w x s) := MX.same (by rw [say22.1]) (by rw [say22.1])
theorem dem_tail {sil : Bool} {w : Int} {x : T} {s : St} : (sDem sil w x s).2.2.2 = s.2.2.2 := by
  unfold sDem
  cases sil with
  | true => rfl
  | false =>
    by_cases q : (w, x) ∈ s.2.2.1
    · simp only [Bool.false_eq_true, if_false, cif_pos q]
    · simp only [Bool.false_eq_true, if_false, cif_neg q]
theorem MX_pl {P : Pg} {sil : Bool} {p k : Nat} {s : St} : MX s (plS P sil p k s) := by
  unfold plS
  repeat' split
  · exact MX.refl s
  · exact MX.refl s
  · show MX s (_, (sDiv sil _ _ s).2)
    unfold sDiv
    split
    · exact MX.same (by dsimp only; rw [dem_tail]) (by dsimp only; rw [dem_tail])
    · exact MX.refl s
  · show MX s (_, (sCel sil _ s).2)
    unfold sCel
    split
    · exact MX.refl s
    · exact MX.same (by dsimp only; rw [dem_tail]) (by dsimp only; rw [dem_tail])
  · show MX s (_, (sCel sil _ s).2)
    unfold sCel
    split
    · exact MX.refl s
    · exact MX.same (by dsimp only; rw [dem_tail]) (by dsimp only; rw [dem_tail])
  · exact MX.same (by show (sSay sil 2 none s).2.2.2.1 = _; rw [say22.1]) (by show (sSay sil 2 none s).2.2.2.2.2 = _; rw [say22.1])
  · exact MX_say
def RM (R : Bool → Nat → Nat → Nat → St → St) : Prop := ∀ sil p a b s, MX s (R sil p a b s)
theorem MX_if {P : Pg} {R : Bool → Nat → Nat → Nat → St → St} (hR : RM R) {sil : Bool} {p a : Nat} {s : St} : MX s (ifS P R sil p a s) := by
  unfold ifS
  simp only
  split
  · split
    · exact hR _ _ _ _ _
    · exact hR _ _ _ _ _
  · generalize hs0 : sSay sil 4 _ s = s0
    have q0 : MX s s0 := by rw [← hs0]; exact MX_say
    have q1 := hR sil p (a + 1) (P.2.2.1 p a) s0
    generalize R sil p (a + 1) (P.2.2.1 p a) s0 = s1 at *
    have q2 : MX s1 (sSay sil 5 none (s.1, s1.2.1, s.2.2.1, s1.2.2.2)) := MX.same (by rw [say22.1]) (by rw [say22.1])
    have q3 := hR sil p (P.2.2.1 p a + 1) (P.2.2.1 p (P.2.2.1 p a)) (sSay sil 5 none (s.1, s1.2.1, s.2.2.1, s1.2.2.2))
    generalize sSay sil 5 none (s.1, s1.2.1, s.2.2.1, s1.2.2.2) = s2 at *
    generalize R sil p (P.2.2.1 p a + 1) (P.2.2.1 p (P.2.2.1 p a)) s2 = s3 at *
    exact (((q0.trans q1).trans q2).trans q3).trans (MX.same (by rw [say22.1]) (by rw [say22.1]))
theorem MX_wh {P : Pg} {R : Bool → Nat → Nat → Nat → St → St} (hR : RM R) {sil : Bool} {p a : Nat} {s : St} : MX s (whS P R sil p a s) := by
  unfold whS
  simp only
  generalize fcS P R p a s.2.2.2.1 s 62 (cS0 (P.2.2.2.2 p)) = S
  have q0 : MX (sBeg s.2.2.2.1 S s) (sSay sil 6 none (sBeg s.2.2.2.1 S s)) := MX_say
  have q1 := hR sil p (a + 1) (P.2.2.1 p a) (sSay sil 6 none (sBeg s.2.2.2.1 S s))
  have e0 : (sBeg s.2.2.2.1 S s).2 = (s.2.1, s.2.2.1, s.2.2.2.1 + 1, s.2.2.2.2) := rfl
  generalize sSay sil 6 none (sBeg s.2.2.2.1 S s) = s1 at *
  generalize sBeg s.2.2.2.1 S s = s0 at *
  generalize R sil p (a + 1) (P.2.2.1 p a) s1 = s2 at *
  have q2 : MX s2 (sSay sil 7 (some (s2.1 (P.2.1 p (P.2.2.1 p a) 0).toNat)) s2) := MX_say
  generalize sSay sil 7 (some (s2.1 (P.2.1 p (P.2.2.1 p a) 0).toNat)) s2 = s3 at *
  have q3 := hR sil p (P.2.2.1 p a + 1) (P.2.2.1 p (P.2.2.1 p a)) s3
  generalize R sil p (P.2.2.1 p a + 1) (P.2.2.1 p (P.2.2.1 p a)) s3 = s4 at *
  have q4 : MX s4 (sSay sil 8 none s4) := MX_say
  generalize sSay sil 8 none s4 = s5 at *
  obtain ⟨h1, x, hx, hx2⟩ := (((q0.trans q1).trans q2).trans q3).trans q4
  rw [e0] at h1 hx hx2
  dsimp only at h1 hx hx2
  refine ⟨by dsimp only; omega, ?_⟩
  dsimp only
  by_cases hs : sil = true
  · rw [if_pos hs]
    exact ⟨x, hx, fun q hq => by have := hx2 q hq; omega⟩
  · rw [if_neg hs]
    refine ⟨x ++ ((List.range 61).filter S).map (fun i => (s.2.2.2.1, i, s.1 i, s5.1 i)), by rw [hx, List.append_assoc], fun q hq => ?_⟩
    rcases List.mem_append.mp hq with hq | hq
    · have := hx2 q hq; omega
    · obtain ⟨i, -, rfl⟩ := List.mem_map.mp hq
      dsimp only
      omega
theorem wk_mx (P : Pg) : ∀ n, RM (wk P n) := by
  have key : ∀ R, RM R → ∀ sil p l a b s, MX s (wkl P R sil p l a b s) := by
    intro R hR sil p l
    induction l with
    | zero => intro a b s; exact MX.refl s
    | succ l ih =>
      intro a b s
      show MX s (if a < b then _ else s)
      repeat' split
      · exact MX_if (hR := hR) |>.trans (ih _ _ _)
      · exact MX_wh (hR := hR) |>.trans (ih _ _ _)
      · exact MX.trans (s' := clS P R sil p a s) (hR sil _ 0 _ (clP s.1 (P.2.1 p a 0).toNat, s.2)) (ih _ _ _)
      · exact MX_pl.trans (ih _ _ _)
      · exact MX.refl s
  intro n
  induction n with
  | zero => intro sil p a b s; exact key _ (fun _ _ _ _ s => MX.refl s) sil p _ a b s
  | succ n ih => intro sil p a b s; exact key _ ih sil p _ a b s
def CI (s : St) : Prop := ∀ q ∈ s.2.2.2.2.2, q.1 < s.2.2.2.1
theorem CI.mx {s s' : St} (h : CI s) (g : MX s s') : CI s' := by
  obtain ⟨g1, x, hx, hx2⟩ := g
  intro q hq
  rw [hx] at hq
  rcases List.mem_append.mp hq with hq | hq
  · have := h q hq; omega
  · exact (hx2 q hq).2
/-! the class: rows that are kept -/
section
variable {N : Nat} {A : zA} {sil : Bool} {lv c ta R t : Nat} {D : Nat → T} {s : St}
def pl7 (c ta : Nat) : List Nat := [110, 111, ta, ta + 1, ta + 2, 194, c]
/-- what leaves the walker's cells alone -/
theorem CW.out {B : zA} {S : List Nat} (h : CW A sil c ta R t D s) (hc : okc lv c) (hl : lv ≤ 24) (hta : okt ta) (hf : cF S A B) (hs : ∀ a, (pl7 c ta).contains a = true → S.contains a = false) : CW B sil c ta R t D s := by
  obtain ⟨c1, c2, c3, c4, c5⟩ := hc.fx hl
  obtain ⟨a1, a2, a3, a4, a5, a6, a7, a8, a9, a10, a11⟩ := hta.fx
  obtain ⟨h1, h2, h3, h4, h5, h6, h7, h8⟩ := h
  have n110 := hs 110 (by simp [pl7])
  have n111 := hs 111 (by simp [pl7])
  have n194 := hs 194 (by simp [pl7])
  have nc := hs c (by simp [pl7])
  have nt := hs ta (by simp [pl7])
  have nt1 := hs (ta + 1) (by simp [pl7])
  have nt2 := hs (ta + 2) (by simp [pl7])
  have m1 : ∀ j, zmr B 110 j = zmr A 110 j := fun j => hf.r (by decide) n110
  have m2 : ∀ j, zmr B ta j = zmr A ta j := fun j => hf.r a1 nt
  exact ⟨h1.fr hf n111, ⟨by rw [m1]; exact h2.1, by rw [m1]; exact h2.2.1, by rw [m1]; exact h2.2.2⟩, h3.mono (fun i hi => hf.e c1 nc) (Nat.le_refl _) (fun _ _ => rfl), h4.mono (hf.i a1 nt) (fun i => ⟨hf.e a2 nt1, hf.e a3 nt2⟩) (Nat.le_refl _) (fun _ _ => rfl), h5.mono (hf.i (by decide) n110) (fun i => hf.e (by decide) n194) (Nat.le_refl _) (fun _ _ => rfl), h6.mono (hf.i (by decide) n110) (hf.i (by decide) n110) (hf.i (by decide) n110), h7.mono (m2 _) (fun e => ⟨hf.v a7 nt, hf.v a8 nt⟩) (Nat.le_refl _) (fun _ _ => rfl), h8.mono (m2 _) (m2 _) (hf.n a7 nt) (hf.n a8 nt)⟩
/-- rows of this level -/
def okr (lv y : Nat) : Prop := 121 + 3 * lv ≤ y ∧ y < 121 + 3 * lv + 3
theorem okr.fx {y : Nat} (h : okr lv y) (hl : lv ≤ 23) : fx y = true ∧ zsh y = some (true, 0, 61) ∧ 121 ≤ y ∧ y < 193 := by
  have e : y = 121 + (y - 121) := by have := h.1; omega
  have h1 := h.1
  have h2 := h.2
  rw [e]
  exact ⟨(kfx (y - 121) (by omega)).1, (kfx (y - 121) (by omega)).2, by omega, by omega⟩
theorem w_keep {y : Nat} (h : CW A sil c ta R t D s) (hc : okc lv c) (hl : lv ≤ 23) (hta : okt ta) (hy : okr lv y) : CW (fp A c y 61) sil c ta R t D s ∧ CPl (fp A c y 61) y t D s.1 ∧ WX lv c ta t t D D A (fp A c y 61) ∧ z_Wk_copyAll N c y A = some (fp A c y 61) ∧ on1 y A (fp A c y 61) := by
  obtain ⟨c1, c2, c3, c4, c5⟩ := hc.fx (by omega)
  obtain ⟨y1, y2, y3, y4⟩ := hy.fx hl
  obtain ⟨a1, a2, a3, a4, a5, a6, a7, a8, a9, a10, a11⟩ := hta.fx
  have hy1 := hy.1
  have hy2 := hy.2
  have hO := h.1.1
  have hf : cF [y] A (fp A c y 61) := on1_fp.cF hO y1 (by omega)
  refine ⟨h.out hc (by omega) hta hf (fun a ha => cont2 (fun q => ?_)), fun i hi => ?_, ⟨Nat.le_refl _, fun _ _ => rfl, hf.mono (fun a ha => ?_)⟩, Wk_copyAll hO c2 y2 (by omega) (by omega) (by omega), on1_fp⟩
  · simp only [pl7, List.contains_iff_mem, List.mem_cons, List.not_mem_nil, or_false] at ha
    omega
  · rw [ri_fp (by omega), if_pos (by omega)]
    exact h.2.2.1 i hi
  · simp only [List.contains_iff_mem, List.mem_cons, List.not_mem_nil, or_false] at ha
    exact wl_mem.mpr (by omega)
theorem w_load {y : Nat} {f : Nat → T} (h : CW A sil c ta R t D s) (hc : okc lv c) (hl : lv ≤ 23) (hta : okt ta) (hy : okr lv y) (hf : CPl A y t D f) : CW (fp A y c 61) sil c ta R t D (f, s.2) ∧ WX 24 c ta t t D D A (fp A y c 61) ∧ z_Wk_copyAll N y c A = some (fp A y c 61) ∧ on1 c A (fp A y c 61) := by
  obtain ⟨c1, c2, c3, c4, c5⟩ := hc.fx (by omega)
  obtain ⟨y1, y2, y3, y4⟩ := hy.fx hl
  obtain ⟨a1, a2, a3, a4, a5, a6, a7, a8, a9, a10, a11⟩ := hta.fx
  have hy1 := hy.1
  have hy2 := hy.2
  obtain ⟨h1, h2, h3, h4, h5, h6, h7, h8⟩ := h
  have hO := h1.1
  have o1 : on1 c A (fp A y c 61) := on1_fp
  have hF : cF [c] A (fp A y c 61) := o1.cF hO c1 (by omega)
  have n1 : ∀ a, a ≠ c → ([c] : List Nat).contains a = false := fun a ha => cont2 ha
  refine ⟨⟨h1.fr hF (n1 _ (by omega)), ⟨by rw [o1.r]; exact h2.1, by rw [o1.r]; exact h2.2.1, by rw [o1.r]; exact h2.2.2⟩, fun i hi => ?_, h4.mono (o1.i (by omega)) (fun i => ⟨o1.e (by omega), o1.e (by omega)⟩) (Nat.le_refl _) (fun _ _ => rfl), h5.mono (o1.i (by omega)) (fun i => o1.e (by omega)) (Nat.le_refl _) (fun _ _ => rfl), h6.mono (o1.i (by omega)) (o1.i (by omega)) (o1.i (by omega)), h7.mono (o1.r _ _) (fun e => ⟨hF.v a7 (n1 _ (by omega)), hF.v a8 (n1 _ (by omega))⟩) (Nat.le_refl _) (fun _ _ => rfl), h8.mono (o1.r _ _) (o1.r _ _) (hF.n a7 (n1 _ (by omega))) (hF.n a8 (n1 _ (by omega)))⟩, ⟨Nat.le_refl _, fun _ _ => rfl, hF.mono (fun a ha => ?_)⟩, Wk_copyAll hO y2 c2 (by omega) (by omega) (by omega), o1⟩
  · rw [ri_fp (by omega), if_pos (by omega)]
    exact hf i hi
  · simp only [List.contains_iff_mem, List.mem_cons, List.not_mem_nil, or_false] at ha
    exact wl_mem.mpr (by omega)
/-- an int of the walker's own: way's length, WHILEs, INPUTs, silence -/
theorem w_fld {j : Nat} {z : Int} {s' : St} {sil' : Bool} (h : CW A sil c ta R t D s) (hc : okc lv c) (hl : lv ≤ 24) (hta : okt ta) (h1 : s'.1 = s.1) (h2 : s'.2.1 = s.2.1) (h3 : s'.2.2.2.2.2 = s.2.2.2.2.2) (hw : CWy (zsi A 110 j z) t D s'.2.2.1) (hf : CFl (zsi A 110 j z) sil' s'.2.2.2.1 s'.2.2.2.2.1) : CW (zsi A 110 j z) sil' c ta R t D s' ∧ WX 24 c ta t t D D A (zsi A 110 j z) := by
  obtain ⟨c1, c2, c3, c4, c5⟩ := hc.fx (by omega)
  obtain ⟨a1, a2, a3, a4, a5, a6, a7, a8, a9, a10, a11⟩ := hta.fx
  obtain ⟨g1, g2, g3, g4, g5, g6, g7, g8⟩ := h
  have hO := g1.1
  have hF : cF [110] A (zsi A 110 j z) := cF_si hO (by decide) (by decide) (by decide)
  have n1 : ∀ a, a ≠ 110 → ([110] : List Nat).contains a = false := fun a ha => cont2 ha
  refine ⟨⟨g1.fr hF (by decide), g2, ?_, ?_, hw, hf, ?_, g8⟩, Nat.le_refl _, fun _ _ => rfl, hF.mono (fun a ha => ?_)⟩
  · rw [h1]; exact g3.mono (fun i hi => ri_si_o (by omega)) (Nat.le_refl _) (fun _ _ => rfl)
  · rw [h2]; exact g4.mono (zi_si_o (by omega)) (fun i => ⟨ri_si_o (by omega), ri_si_o (by omega)⟩) (Nat.le_refl _) (fun _ _ => rfl)
  · rw [h3]; exact g7.mono rfl (fun e => ⟨hF.v a7 (n1 _ (by omega)), hF.v a8 (n1 _ (by omega))⟩) (Nat.le_refl _) (fun _ _ => rfl)
  · simp only [List.contains_iff_mem, List.mem_cons, List.not_mem_nil, or_false] at ha
    exact wl_mem.mpr (by omega)
theorem w_way {l x : List (Int × T)} (h : CW A sil c ta R t D s) (hc : okc lv c) (hl : lv ≤ 24) (hta : okt ta) (hx : s.2.2.1 = l ++ x) (hb : l.length < 100000) : CW (zsi A 110 7 l.length) sil c ta R t D (s.1, s.2.1, l, s.2.2.2) ∧ WX 24 c ta t t D D A (zsi A 110 7 l.length) := by
  refine w_fld h hc hl hta rfl rfl rfl ⟨by rw [zi_si_s, yb_w (by omega) (by omega)], fun k hk => ?_⟩ ⟨by rw [zi_si_j (by decide)]; exact h.2.2.2.2.2.1.1, by rw [zi_si_j (by decide)]; exact h.2.2.2.2.2.1.2.1, by rw [zi_si_j (by decide)]; exact h.2.2.2.2.2.1.2.2⟩
  have hk : k < l.length := hk
  obtain ⟨j, j1, j2, j3, j4⟩ := h.2.2.2.2.1.2 k (by rw [hx, List.length_append]; omega)
  simp only [hx, List.getElem_append_left hk] at j2 j3 j4
  exact ⟨j, j1, by rw [ri_si_o (by decide)]; exact j2, j3, j4⟩
end
