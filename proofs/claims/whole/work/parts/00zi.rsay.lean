/-! the reference says -/
/-- said rows of walk w -/
def qS (w : Nat) (a j : Nat) : Prop := (a = 259 ∧ 2000 * w ≤ j ∧ j < 2000 * w + 2000) ∨ (a = 260 ∧ j = w)
section
variable {N : Nat} {A B : zA} {w sc dp lv t t' : Nat} {D D' : Nat → T} {s : St}
theorem RW.sd {S : List (Int × Option T)} (h : RW A w sc dp lv t D s) (f : fr (qS w) A B) (hp : RSd B w t D S) : RW B w sc dp lv t D (s.1, S, s.2.2) := by
  obtain ⟨h1, h2, h3, h4, h5, h6, h7, h8, h9⟩ := h
  have e : ∀ a e, a ≠ 259 → a ≠ 260 → ri B a e = ri A a e := fun a e ha hb => f.e (fun z => by unfold qS at z; omega)
  have i : ∀ j, zi B 226 j = zi A 226 j := fun j => f.i (fun z => by unfold qS at z; omega)
  have r := Nat.le_refl t
  refine ⟨h1.fr f (fun a j z => by unfold qS at z; unfold qT; omega), h2.mono (fun k hk => ?_) r (fun _ _ => rfl), hp, h4.mono (i _) (fun _ _ => e _ _ (by omega) (by omega)) r (fun _ _ => rfl), ?_, h6.mono (by rw [e 261 _ (by omega) (by omega)]; omega) (fun c _ => ⟨e _ _ (by omega) (by omega), e _ _ (by omega) (by omega), e _ _ (by omega) (by omega)⟩) (fun _ _ _ _ _ => e _ _ (by omega) (by omega)) r (fun _ _ => rfl), by rw [e 261 _ (by omega) (by omega)]; exact h7, by rw [e 261 _ (by omega) (by omega)]; exact h8, h9⟩
  · unfold rpl
    rw [i 63, e 267 _ (by omega) (by omega), e 268 _ (by omega) (by omega)]
  · unfold RFl
    rw [i 62, i 66, i 80, i 64, i 65]
    exact h5
theorem M_says_q {x : Int} (h : 0 < zi A 226 80) : z_M_says N w x A = some A := by
  unfold z_M_says
  rw [if_pos h]
theorem M_says {x : Int} {L : List Int} (h : zi A 226 80 = 0) (hw : w < 2) (hL : RSl A w L) (hl : L.length < 2000) (hx : zw x = x) : ∃ B, z_M_says N w x A = some B ∧ RSl B w (L ++ [x]) ∧ fr (qS w) A B := by
  unfold z_M_says
  obtain ⟨l1, l2⟩ := hL
  rw [if_neg (by omega)]
  simp (disch := (first | decide | omega | assumption | ((repeat (first | apply Own.ys | apply Own.si | apply Own.rs)); assumption) | (simp only [yl_ys, yl_si, yl_rs]; omega))) only [zrd_ok, l1, zwr_ok, ri_rs_o]
  have w1 : zw ((L.length : Int) + 1) = ((L.length + 1 : Nat) : Int) := by rw [yb_w (by omega) (by omega)]; omega
  refine ⟨_, rfl, ⟨?_, fun i hi => ?_⟩, (fr_rs (Or.inl ⟨rfl, by omega, by omega⟩)).trans (fr_rs (Or.inr ⟨rfl, by omega⟩))⟩
  · rw [ri_rs_s, w1, List.length_append]; rfl
  · rw [ri_rs_o (by decide), ri_rs (by omega) (by omega), hx]
    rw [List.length_append] at hi
    have hi : i < L.length + 1 := hi
    by_cases c : i = L.length
    · subst c
      rw [if_pos rfl]
      simp
    · rw [if_neg (by omega), l2 i (by omega), List.getElem_append_left (by omega)]
def wko (wd : Int) : Prop := 0 ≤ wd ∧ wd ≤ 8
theorem wc_rg {wd : Int} (h : wko wd) : -9 ≤ wc wd ∧ wc wd ≤ -1 := by
  unfold wko at h
  unfold wc
  repeat' split
  all_goals omega
/-- a word alone -/
theorem r_say0 {c wd : Int} (h : RW A w sc dp lv t D s) (hw : w < 2) (hwd : wko wd) (hc : c = wc wd) (hl : sc = 0 → s.2.1.length < 1000) : ∃ B, z_M_says N w c A = some B ∧ RW B w sc dp lv t D (sSay (Nat.blt 0 sc) wd none s) ∧ fr (qS w) A B := by
  have h80 := h.2.2.2.2.1.2.2.1
  by_cases c0 : sc = 0
  · subst c0
    obtain ⟨L, l1, l2, l3⟩ := h.2.2.1
    have := fl_len L
    have hl := hl rfl
    rw [l1, List.length_map] at hl
    have rg := wc_rg hwd
    obtain ⟨B, b1, b2, b3⟩ := M_says (N := N) (x := c) h80 hw l3 (by omega) (yb_w (by omega) (by omega))
    refine ⟨B, b1, h.sd b3 ⟨L ++ [(wd, none)], ?_, fun q hq => ?_, ?_⟩, b3⟩
    · rw [List.map_append, ← l1]; rfl
    · rcases List.mem_append.mp hq with z | z
      · exact l2 q z
      · rw [List.mem_singleton] at z; subst z
        exact ⟨hwd.1, hwd.2, fun j hj => by cases hj⟩
    · rw [fl_app, fl_one]
      rw [hc] at b2
      exact b2
  · have hb : Nat.blt 0 sc = true := by rw [Nat.blt_eq]; omega
    rw [hb]
    exact ⟨A, M_says_q (by omega), h, fr.refl _ _⟩
/-- a word and a thing -/
theorem r_say1 {c wd : Int} {j : Nat} {u : T} (h : RW A w sc dp lv t D s) (hw : w < 2) (hwd : wko wd) (hc : c = wc wd) (hj : j < t) (hu : D j = u) (hl : sc = 0 → s.2.1.length < 999) : ∃ B C, z_M_says N w c A = some B ∧ fr (qS w) A B ∧ z_M_says N w j B = some C ∧ RW C w sc dp lv t D (sSay (Nat.blt 0 sc) wd (some u) s) ∧ fr (qS w) A C := by
  have h80 := h.2.2.2.2.1.2.2.1
  have ht := h.1.1.1
  by_cases c0 : sc = 0
  · subst c0
    obtain ⟨L, l1, l2, l3⟩ := h.2.2.1
    have := fl_len L
    have hl := hl rfl
    rw [l1, List.length_map] at hl
    have rg := wc_rg hwd
    obtain ⟨B, b1, b2, b3⟩ := M_says (N := N) (x := c) h80 hw l3 (by omega) (yb_w (by omega) (by omega))
    have h80' : zi B 226 80 = 0 := by rw [b3.i (fun z => by unfold qS at z; omega)]; exact h80
    obtain ⟨C, c1, c2, c3⟩ := M_says (N := N) (x := (j : Int)) h80' hw b2 (by rw [List.length_append]; show _ + 1 < _; omega) (yb_w (by omega) (by omega))
    refine ⟨B, C, b1, b3, c1, h.sd (b3.trans c3) ⟨L ++ [(wd, some j)], ?_, fun q hq => ?_, ?_⟩, b3.trans c3⟩
    · rw [List.map_append, ← l1, ← hu]; rfl
    · rcases List.mem_append.mp hq with z | z
      · exact l2 q z
      · rw [List.mem_singleton] at z; subst z
        exact ⟨hwd.1, hwd.2, fun k hk => by cases hk; exact hj⟩
    · rw [fl_app, fl_one]
      rw [hc, List.append_assoc] at c2
      exact c2
  · have hb : Nat.blt 0 sc = true := by rw [Nat.blt_eq]; omega
    rw [hb]
    exact ⟨A, A, M_says_q (by omega), fr.refl _ _, M_says_q (by omega), h, fr.refl _ _⟩
/-- on this way -/
def wyk (wd : Int) (j : Nat) : Int := if wd = 0 then (j : Int) else -1 - j
theorem so_run {x1 x2 x3 key : Int} : ∀ (r k f : Nat) (x5 : Int), ((k + r : Nat) : Int) = zi A 226 81 → k + r ≤ 900 → r < f → (x5 = 0 ∨ x5 = 1) → ∃ b : Int, z_M_saysOnce_31_l N f x1 x2 x3 key x5 k A = z_M_saysOnce_70 N x1 x2 x3 key b A ∧ (b = 0 ∨ b = 1) ∧ (b = 0 ↔ x5 = 0 ∧ ∀ i : Nat, k ≤ i → i < k + r → ri A 284 i ≠ key)
  | 0, k, f, x5, h1, h2, h3, h5 => by
    obtain ⟨g, rfl⟩ : ∃ g, f = g + 1 := ⟨f - 1, by omega⟩
    refine ⟨x5, ?_, h5, ⟨fun z => ⟨z, fun i a b => by omega⟩, fun z => z.1⟩⟩
    show z_M_saysOnce_31_b (z_M_saysOnce_31_l N g) N x1 x2 x3 key x5 k A = _
    unfold z_M_saysOnce_31_b
    rw [if_neg (by omega)]
  | r + 1, k, f, x5, h1, h2, h3, h5 => by
    obtain ⟨g, rfl⟩ : ∃ g, f = g + 1 := ⟨f - 1, by omega⟩
    have w1 : zw ((k : Int) + 1) = ((k + 1 : Nat) : Int) := by rw [yb_w (by omega) (by omega)]; omega
    have st : z_M_saysOnce_31_l N (g + 1) x1 x2 x3 key x5 k A = z_M_saysOnce_31_b (z_M_saysOnce_31_l N g) N x1 x2 x3 key x5 k A := rfl
    unfold z_M_saysOnce_31_b at st
    rw [if_pos (by omega), w1] at st
    by_cases c : x5 = 0
    · rw [if_pos c, zrd_ok (by omega) (by omega)] at st
      by_cases d : ri A 284 k = key
      · rw [if_pos d] at st
        obtain ⟨b, b1, b2, b3⟩ := so_run r (k + 1) g 1 (by omega) (by omega) (by omega) (Or.inr rfl)
        refine ⟨b, by rw [st, b1], b2, ⟨fun z => ?_, fun z => absurd d (z.2 k (Nat.le_refl _) (by omega))⟩⟩
        have := (b3.mp z).1
        omega
      · rw [if_neg d] at st
        obtain ⟨b, b1, b2, b3⟩ := so_run r (k + 1) g 0 (by omega) (by omega) (by omega) (Or.inl rfl)
        refine ⟨b, by rw [st, b1], b2, b3.trans ⟨fun z => ⟨c, fun i i1 i2 => ?_⟩, fun z => ⟨rfl, fun i i1 i2 => z.2 i (by omega) (by omega)⟩⟩⟩
        by_cases q : i = k
        · rw [q]; exact d
        · exact z.2 i (by omega) (by omega)
    · rw [if_neg c] at st
      obtain ⟨b, b1, b2, b3⟩ := so_run r (k + 1) g 1 (by omega) (by omega) (by omega) (Or.inr rfl)
      refine ⟨b, by rw [st, b1], b2, ⟨fun z => ?_, fun z => absurd z.1 c⟩⟩
      have := (b3.mp z).1
      omega
def qD (w yw : Nat) (a j : Nat) : Prop := qS w a j ∨ (a = 284 ∧ yw ≤ j) ∨ (a = 226 ∧ j = 81)
theorem r_dem {x2 wd : Int} {j : Nat} {u : T} (hN : 300000 ≤ N) (h : RW A w sc dp lv t D s) (hw : w < 2) (hwd : (x2 = 3 ∧ wd = 0) ∨ (x2 = 4 ∧ wd = 1)) (hj : j < t) (hu : D j = u) (hl : sc = 0 → s.2.1.length < 999) (hy : s.2.2.1.length ≤ 900) : ∃ B, z_M_saysOnce N w x2 j A = some B ∧ RW B w sc dp lv t D (sDem (Nat.blt 0 sc) wd u s) ∧ fr (qD w s.2.2.1.length) A B := by
  have h80 := h.2.2.2.2.1.2.2.1
  have ht := h.1.1.1
  have hinj := h.1.2.1.inj
  obtain ⟨y1, y2⟩ := h.2.2.2.1
  have e0 : z_M_saysOnce N w x2 j A = z_M_saysOnce_31 N w x2 j (wyk wd j) (if 0 < sc then 1 else 0) 0 A := by
    unfold z_M_saysOnce z_M_saysOnce_12 wyk
    rw [h80]
    rcases hwd with z | z
    · rw [if_pos z.1, if_pos z.2]
      split
      · rw [if_pos (by omega)]
      · rw [if_neg (by omega)]
    · rw [if_neg (show ¬ x2 = 3 by omega), if_neg (show ¬ wd = 0 by omega), yb_w (by omega) (by omega)]
      split
      · rw [if_pos (by omega)]
      · rw [if_neg (by omega)]
  rw [e0]
  unfold z_M_saysOnce_31
  obtain ⟨b, b1, b2, b3⟩ := so_run (N := N) (A := A) (x1 := w) (x2 := x2) (x3 := j) (key := wyk wd j) s.2.2.1.length 0 N (if 0 < sc then 1 else 0) (by rw [y1]; omega) (by omega) (by omega) (by split; exact Or.inr rfl; exact Or.inl rfl)
  rw [show ((0 : Nat) : Int) = 0 from rfl] at b1
  rw [b1]
  have key : (b = 0) ↔ (sc = 0 ∧ (wd, u) ∉ s.2.2.1) := by
    rw [b3]
    constructor
    · intro z
      have hs : sc = 0 := by
        have := z.1
        by_cases c : 0 < sc
        · rw [if_pos c] at this; omega
        · omega
      refine ⟨hs, fun hm => ?_⟩
      obtain ⟨k, hk, ek⟩ := List.mem_iff_getElem.mp hm
      obtain ⟨j', j1, j2, j3, j4⟩ := y2 k hk
      refine z.2 k (by omega) (by omega) ?_
      rw [ek] at j2 j3
      rw [j2]
      have : j' = j := hinj j' j j1 hj (by rw [j3, hu])
      rw [this]
      rfl
    · intro z
      refine ⟨by rw [if_neg (by omega)], fun i i1 i2 he => z.2 ?_⟩
      obtain ⟨j', j1, j2, j3, j4⟩ := y2 i (by omega)
      rw [he] at j2
      unfold wyk at j2
      have h2 : s.2.2.1[i].1 = wd ∧ j' = j := by
        rcases hwd with q | q
        · rw [if_pos q.2] at j2
          split at j2
          · omega
          · omega
        · rw [if_neg (by omega)] at j2
          split at j2
          · omega
          · omega
      rw [h2.2, hu] at j3
      exact List.mem_iff_getElem.mpr ⟨i, by omega, by rw [← h2.1, j3]⟩
  unfold z_M_saysOnce_70
  by_cases c : b = 0
  · rw [if_pos c]
    obtain ⟨k1, k2⟩ := key.mp c
    subst k1
    have hws : wko wd := by unfold wko; omega
    have hc : zw (-x2) = wc wd := by
      rcases hwd with q | q
      · rw [q.1, q.2]; decide
      · rw [q.1, q.2]; decide
    obtain ⟨B, C, c1, c2, c3, c4, c5⟩ := r_say1 (N := N) h hw hws hc hj hu hl
    rw [c1, zbV_s, c3, zbV_s]
    have cy : zi C 226 81 = s.2.2.1.length := by rw [c5.i (fun z => by unfold qS at z; omega)]; exact y1
    simp only [cy, zlet_s]
    rw [zwr_ok (by omega) (by omega)]
    have e1 : zi (rs C 284 (s.2.2.1.length : Int) (wyk wd j)) 226 81 = s.2.2.1.length := by rw [zi_rs_o (by decide)]; exact cy
    rw [e1]
    have hwk : zw (wyk wd j) = wyk wd j := by unfold wyk; split <;> exact yb_w (by omega) (by omega)
    have w1 : zw ((s.2.2.1.length : Int) + 1) = ((s.2.2.1.length + 1 : Nat) : Int) := by rw [yb_w (by omega) (by omega)]; omega
    generalize hF : zsi (rs C 284 (s.2.2.1.length : Int) (wyk wd j)) 226 81 ((s.2.2.1.length : Int) + 1) = F
    have fF : fr (qD w s.2.2.1.length) C F := by
      rw [← hF]
      exact (fr_rs (Or.inr (Or.inl ⟨rfl, by omega⟩))).trans (fr_si (Or.inr (Or.inr ⟨rfl, rfl⟩)))
    have f2 : fr (fun a j => (a = 284 ∧ s.2.2.1.length ≤ j) ∨ (a = 226 ∧ j = 81)) C F := by
      rw [← hF]
      exact (fr_rs (Or.inl ⟨rfl, by omega⟩)).trans (fr_si (Or.inr ⟨rfl, rfl⟩))
    have v81 : zi F 226 81 = ((s.2.2.1.length + 1 : Nat) : Int) := by rw [← hF, zi_si_s, w1]
    have v284 : ∀ i : Nat, ri F 284 i = if i = s.2.2.1.length then wyk wd j else ri C 284 i := fun i => by
      rw [← hF, ri_si_o (by decide), ri_rs (by omega) (by omega), hwk]
      by_cases z : i = s.2.2.1.length
      · rw [if_pos z, if_pos (by omega)]
      · rw [if_neg z, if_neg (by omega)]
    clear hF
    refine ⟨F, rfl, ?_, (c5.mono (fun a j z => Or.inl z)).trans fF⟩
    have es : sDem (Nat.blt 0 0) wd u s = (s.1, s.2.1 ++ [(wd, some u)], s.2.2.1 ++ [(wd, u)], s.2.2.2) := by
      unfold sDem
      rw [cif_neg k2]
      rfl
    rw [es]
    obtain ⟨h1, h2, h3, h4, h5, h6, h7, h8, h9⟩ := c4
    have e : ∀ a e, 226 < a → a ≠ 284 → ri F a e = ri C a e := fun a e ha hb => f2.e (fun z => by omega)
    have i : ∀ j, j ≠ 81 → zi F 226 j = zi C 226 j := fun j hj => f2.i (fun z => by omega)
    have r := Nat.le_refl t
    refine ⟨h1.fr f2 (fun a j z => by unfold qT; omega), h2.mono (fun k hk => ?_) r (fun _ _ => rfl), h3.mono (e _ _ (by omega) (by omega)) (fun _ => e _ _ (by omega) (by omega)) r (fun _ _ => rfl), ⟨by rw [v81]; dsimp only; rw [List.length_append]; rfl, fun k hk => ?_⟩, ?_, h6.mono (by rw [e 261 _ (by omega) (by omega)]; omega) (fun c _ => ⟨e _ _ (by omega) (by omega), e _ _ (by omega) (by omega), e _ _ (by omega) (by omega)⟩) (fun _ _ _ _ _ => e _ _ (by omega) (by omega)) r (fun _ _ => rfl), by rw [e 261 _ (by omega) (by omega)]; exact h7, by rw [e 261 _ (by omega) (by omega)]; exact h8, h9⟩
    · unfold rpl
      rw [i 63 (by omega), e 267 _ (by omega) (by omega), e 268 _ (by omega) (by omega)]
    · dsimp only at hk ⊢
      rw [List.length_append] at hk
      have hk : k < s.2.2.1.length + 1 := hk
      rw [v284]
      by_cases z : k = s.2.2.1.length
      · subst z
        rw [if_pos rfl]
        refine ⟨j, hj, ?_, ?_, ?_⟩
        · simp [wyk]
        · simp [hu]
        · simp; omega
      · rw [if_neg z]
        obtain ⟨j', j1, j2, j3, j4⟩ := h4.2 k (show k < s.2.2.1.length by omega)
        have eg : (s.2.2.1 ++ [(wd, u)])[k] = s.2.2.1[k]'(by omega) := List.getElem_append_left (by omega)
        refine ⟨j', j1, ?_, ?_, ?_⟩
        · rw [eg]; exact j2
        · rw [eg]; exact j3
        · rw [eg]; exact j4
    · unfold RFl
      rw [i 62 (by omega), i 66 (by omega), i 80 (by omega), i 64 (by omega), i 65 (by omega)]
      exact h5
  · rw [if_neg c]
    refine ⟨A, rfl, ?_, fr.refl _ _⟩
    have es : sDem (Nat.blt 0 sc) wd u s = s := by
      unfold sDem
      by_cases z : sc = 0
      · have hm : (wd, u) ∈ s.2.2.1 := Classical.byContradiction (fun q => c (key.mpr ⟨z, q⟩))
        rw [z, cif_pos hm]
        split <;> rfl
      · have hb : Nat.blt 0 sc = true := by rw [Nat.blt_eq]; omega
        rw [hb, if_pos rfl]
    rw [es]
    exact h
end
