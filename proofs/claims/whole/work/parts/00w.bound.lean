/-! how much a walk says, at most -/
def cst (P : Pg) (sz : Nat → Nat) (p k : Nat) : Nat := 1 + if P.1 p k = 7 then sz (P.2.1 p k 1).toNat else 0
def rsz (P : Pg) (sz : Nat → Nat) (p : Nat) : Nat → Nat → Nat
  | _, 0 => 0
  | a, l + 1 => cst P sz p a + rsz P sz p (a + 1) l
theorem rsz_add {P : Pg} {sz : Nat → Nat} {p : Nat} : ∀ (l a m : Nat), rsz P sz p a (l + m) = rsz P sz p a l + rsz P sz p (a + l) m
  | 0, a, m => by rw [Nat.zero_add, Nat.add_zero]; simp [rsz]
  | l + 1, a, m => by
    rw [show l + 1 + m = (l + m) + 1 by omega]
    show cst P sz p a + rsz P sz p (a + 1) (l + m) = cst P sz p a + rsz P sz p (a + 1) l + rsz P sz p (a + (l + 1)) m
    rw [rsz_add l (a + 1) m, show a + 1 + l = a + (l + 1) by omega]
    omega
theorem rsz_cut {P : Pg} {sz : Nat → Nat} {p a b c : Nat} (h1 : a ≤ b) (h2 : b ≤ c) : rsz P sz p a (c - a) = rsz P sz p a (b - a) + rsz P sz p b (c - b) := by
  have := rsz_add (P := P) (sz := sz) (p := p) (b - a) a (c - b)
  rw [show b - a + (c - b) = c - a by omega, show a + (b - a) = b by omega] at this
  exact this
theorem rsz_one {P : Pg} {sz : Nat → Nat} {p a b : Nat} (h : a < b) : rsz P sz p a (b - a) = cst P sz p a + rsz P sz p (a + 1) (b - (a + 1)) := by
  rw [show b - a = (b - (a + 1)) + 1 by omega]
  rfl
/-- a block: its three turns and what is in it -/
theorem rsz_blk {P : Pg} {sz : Nat → Nat} {p a m e b : Nat} (h1 : a < m) (h2 : m < e) (h3 : e < b) : rsz P sz p (a + 1) (m - (a + 1)) + rsz P sz p (m + 1) (e - (m + 1)) + rsz P sz p (e + 1) (b - (e + 1)) + 3 ≤ rsz P sz p a (b - a) := by
  rw [rsz_one (show a < b by omega), rsz_cut (a := a + 1) (b := m) (c := b) (by omega) (by omega), rsz_one (a := m) (show m < b by omega), rsz_cut (a := m + 1) (b := e) (c := b) (by omega) (by omega), rsz_one (a := e) (show e < b by omega)]
  unfold cst
  omega
def BD (z : Nat) (sil : Bool) (s s' : St) : Prop := s'.2.1.length ≤ s.2.1.length + z ∧ s'.2.2.1.length ≤ s.2.2.1.length + z ∧ s.2.2.2.1 ≤ s'.2.2.2.1 ∧ 3 * s'.2.2.2.1 ≤ 3 * s.2.2.2.1 + z ∧ s.2.2.2.2.1 ≤ s'.2.2.2.2.1 ∧ s'.2.2.2.2.1 ≤ s.2.2.2.2.1 + z ∧ (sil = true → s'.2.1 = s.2.1 ∧ s'.2.2.1 = s.2.2.1 ∧ s'.2.2.2.2.2 = s.2.2.2.2.2)
theorem BD.trans {z z' w : Nat} {sil : Bool} {s s' s'' : St} (h : BD z sil s s') (g : BD z' sil s' s'') (hw : z + z' ≤ w) : BD w sil s s'' := by
  obtain ⟨h1, h2, h3, h4, h5, h6, h7⟩ := h
  obtain ⟨g1, g2, g3, g4, g5, g6, g7⟩ := g
  exact ⟨by omega, by omega, by omega, by omega, by omega, by omega, fun q => ⟨(g7 q).1.trans (h7 q).1, (g7 q).2.1.trans (h7 q).2.1, (g7 q).2.2.trans (h7 q).2.2⟩⟩
theorem BD.refl (z : Nat) (sil : Bool) (s : St) : BD z sil s s := ⟨by omega, by omega, by omega, by omega, by omega, by omega, fun _ => ⟨rfl, rfl, rfl⟩⟩
/-- only the places differ -/
theorem BD.pl {z : Nat} {sil : Bool} {s s' : St} {f g : Nat → T} (h : BD z sil (f, s.2) s') : BD z sil s (g, s'.2) := h
theorem BD_say {sil : Bool} {w : Int} {x : Option T} {s : St} : BD 1 sil s (sSay sil w x s) := by
  unfold sSay
  cases sil with
  | true => exact BD.refl 1 true s
  | false =>
    exact ⟨by simp, by simp, by simp, by simp; omega, by simp, by simp; omega, fun q => by cases q⟩
theorem say22 {sil : Bool} {w : Int} {x : Option T} {s : St} : (sSay sil w x s).2.2 = s.2.2 ∧ (sSay sil w x s).1 = s.1 := by
  unfold sSay
  cases sil <;> exact ⟨rfl, rfl⟩
theorem BD_dem {sil : Bool} {w : Int} {x : T} {s : St} : BD 1 sil s (sDem sil w x s) := by
  unfold sDem
  cases sil with
  | true => exact BD.refl 1 true s
  | false =>
    by_cases q : (w, x) ∈ s.2.2.1
    · simp only [Bool.false_eq_true, if_false, cif_pos q]; exact BD.refl 1 false s
    · simp only [Bool.false_eq_true, if_false, cif_neg q]
      exact ⟨by simp, by simp, by simp, by simp; omega, by simp, by simp; omega, fun q => by cases q⟩
theorem BD_pl {P : Pg} {sil : Bool} {p k : Nat} {s : St} : BD 1 sil s (plS P sil p k s) := by
  unfold plS
  repeat' split
  · exact BD.refl 1 sil s
  · exact BD.refl 1 sil s
  · show BD 1 sil s (_, (sDiv sil _ _ s).2)
    unfold sDiv
    split
    · exact BD_dem
    · exact BD.refl 1 sil s
  · show BD 1 sil s (_, (sCel sil _ s).2)
    unfold sCel
    split
    · exact BD.refl 1 sil s
    · exact BD_dem
  · show BD 1 sil s (_, (sCel sil _ s).2)
    unfold sCel
    split
    · exact BD.refl 1 sil s
    · exact BD_dem
  · unfold sSay
    cases sil with
    | true => exact ⟨by simp [sSet], by simp [sSet], by simp [sSet], by simp [sSet]; omega, by simp [sSet]; omega, by simp [sSet], fun _ => ⟨rfl, rfl, rfl⟩⟩
    | false => exact ⟨by simp [sSet], by simp [sSet], by simp [sSet], by simp [sSet]; omega, by simp [sSet]; omega, by simp [sSet], fun q => by cases q⟩
  · exact BD_say
section
variable {P : Pg} {sz : Nat → Nat} {ex : Nat → Prop} {nd : Int → Nat}
/-- what nested walks keep -/
def RB (P : Pg) (sz : Nat → Nat) (ex : Nat → Prop) (nd : Int → Nat) (R : Bool → Nat → Nat → Nat → St → St) (n : Nat) : Prop := ∀ (sil : Bool) (p a b : Nat) (s : St), ex p → Bl nd (P.1 p) (fun k => P.2.1 p k 1) (P.2.2.1 p) n a b → b ≤ P.2.2.2.1 p → BD (rsz P sz p a (b - a)) sil s (R sil p a b s)
/-- parts that are called: balanced, no greater than told -/
def WB (P : Pg) (sz : Nat → Nat) (ex : Nat → Prop) (nd : Int → Nat) : Prop := ∀ q : Nat, ex q → q < 3 → Bl nd (P.1 q) (fun k => P.2.1 q k 1) (P.2.2.1 q) (nd q) 0 (P.2.2.2.1 q) ∧ rsz P sz q 0 (P.2.2.2.1 q) ≤ sz q
theorem BD_if {R : Bool → Nat → Nat → Nat → St → St} {n : Nat} (hR : RB P sz ex nd R n) {sil : Bool} {p a : Nat} {s : St} (hp : ex p) {m e : Nat} (hm : P.2.2.1 p a = m) (he : P.2.2.1 p m = e) (h1 : a < m) (h2 : m < e) (h3 : e < P.2.2.2.1 p) (b1 : Bl nd (P.1 p) (fun k => P.2.1 p k 1) (P.2.2.1 p) n (a + 1) m) (b2 : Bl nd (P.1 p) (fun k => P.2.1 p k 1) (P.2.2.1 p) n (m + 1) e) : BD (rsz P sz p (a + 1) (m - (a + 1)) + rsz P sz p (m + 1) (e - (m + 1)) + 3) sil s (ifS P R sil p a s) := by
  unfold ifS
  simp only [hm, he]
  split
  · split
    · have := hR sil p (a + 1) m s hp b1 (by omega)
      exact this.trans (BD.refl 0 sil _) (by omega)
    · have := hR sil p (m + 1) e s hp b2 (by omega)
      exact this.trans (BD.refl 0 sil _) (by omega)
  · generalize hs0 : sSay sil 4 _ s = s0
    have q0 : BD 1 sil s s0 := by rw [← hs0]; exact BD_say
    have q1 := hR sil p (a + 1) m s0 hp b1 (by omega)
    generalize R sil p (a + 1) m s0 = s1 at *
    have q2 := hR sil p (m + 1) e (sSay sil 5 none (s.1, s1.2.1, s.2.2.1, s1.2.2.2)) hp b2 (by omega)
    have q3 : BD 1 sil (s.1, s1.2.1, s.2.2.1, s1.2.2.2) (sSay sil 5 none (s.1, s1.2.1, s.2.2.1, s1.2.2.2)) := BD_say
    generalize sSay sil 5 none (s.1, s1.2.1, s.2.2.1, s1.2.2.2) = s2 at *
    generalize R sil p (m + 1) e s2 = s3 at *
    generalize sJoin _ s1.1 s3.1 = jj
    have q4 : BD 1 sil (jj, s3.2.1, s.2.2.1, s3.2.2.2) (sSay sil 8 none (jj, s3.2.1, s.2.2.1, s3.2.2.2)) := BD_say
    generalize sSay sil 8 none (jj, s3.2.1, s.2.2.1, s3.2.2.2) = s4 at *
    have q01 := q0.trans q1 (w := 1 + rsz P sz p (a + 1) (m - (a + 1))) (by omega)
    have q23 := q3.trans q2 (w := 1 + rsz P sz p (m + 1) (e - (m + 1))) (by omega)
    obtain ⟨x1, x2, x3, x4, x5, x6, x7⟩ := q01
    obtain ⟨y1, y2, y3, y4, y5, y6, y7⟩ := q23
    obtain ⟨z1, z2, z3, z4, z5, z6, z7⟩ := q4
    simp only at y1 y2 y3 y4 y5 y6 y7 z1 z2 z3 z4 z5 z6 z7
    exact ⟨by omega, by omega, by omega, by omega, by omega, by omega, fun q => ⟨(z7 q).1.trans ((y7 q).1.trans (x7 q).1), (z7 q).2.1, (z7 q).2.2.trans ((y7 q).2.2.trans (x7 q).2.2)⟩⟩
theorem BD_wh {R : Bool → Nat → Nat → Nat → St → St} {n : Nat} (hR : RB P sz ex nd R n) {sil : Bool} {p a : Nat} {s : St} (hp : ex p) {m e : Nat} (hm : P.2.2.1 p a = m) (he : P.2.2.1 p m = e) (h1 : a < m) (h2 : m < e) (h3 : e < P.2.2.2.1 p) (b1 : Bl nd (P.1 p) (fun k => P.2.1 p k 1) (P.2.2.1 p) n (a + 1) m) (b2 : Bl nd (P.1 p) (fun k => P.2.1 p k 1) (P.2.2.1 p) n (m + 1) e) : BD (rsz P sz p (a + 1) (m - (a + 1)) + rsz P sz p (m + 1) (e - (m + 1)) + 3) sil s (whS P R sil p a s) := by
  unfold whS
  simp only [hm, he]
  generalize fcS P R p a s.2.2.2.1 s 62 (cS0 (P.2.2.2.2 p)) = S
  have q0 : BD 1 sil (sBeg s.2.2.2.1 S s) (sSay sil 6 none (sBeg s.2.2.2.1 S s)) := BD_say
  have r0 := (say22 (sil := sil) (w := 6) (x := none) (s := sBeg s.2.2.2.1 S s)).1
  have e0 : (sBeg s.2.2.2.1 S s).2 = (s.2.1, s.2.2.1, s.2.2.2.1 + 1, s.2.2.2.2) := rfl
  have q1 := hR sil p (a + 1) m (sSay sil 6 none (sBeg s.2.2.2.1 S s)) hp b1 (by omega)
  generalize sSay sil 6 none (sBeg s.2.2.2.1 S s) = s1 at *
  generalize sBeg s.2.2.2.1 S s = s0 at *
  generalize R sil p (a + 1) m s1 = s2 at *
  have q2 : BD 1 sil s2 (sSay sil 7 (some (s2.1 (P.2.1 p m 0).toNat)) s2) := BD_say
  have q3 := hR sil p (m + 1) e (sSay sil 7 (some (s2.1 (P.2.1 p m 0).toNat)) s2) hp b2 (by omega)
  have r2 := (say22 (sil := sil) (w := 7) (x := some (s2.1 (P.2.1 p m 0).toNat)) (s := s2)).1
  generalize sSay sil 7 (some (s2.1 (P.2.1 p m 0).toNat)) s2 = s3 at *
  generalize R sil p (m + 1) e s3 = s4 at *
  have q4 : BD 1 sil s4 (sSay sil 8 none s4) := BD_say
  have r4 := (say22 (sil := sil) (w := 8) (x := none) (s := s4)).1
  generalize sSay sil 8 none s4 = s5 at *
  have q := (((q0.trans q1 (w := 1 + rsz P sz p (a + 1) (m - (a + 1))) (by omega)).trans q2 (w := 2 + rsz P sz p (a + 1) (m - (a + 1))) (by omega)).trans q3 (w := 2 + rsz P sz p (a + 1) (m - (a + 1)) + rsz P sz p (m + 1) (e - (m + 1))) (by omega)).trans q4 (w := 3 + rsz P sz p (a + 1) (m - (a + 1)) + rsz P sz p (m + 1) (e - (m + 1))) (by omega)
  obtain ⟨x1, x2, x3, x4, x5, x6, x7⟩ := q
  rw [e0] at x1 x2 x3 x4 x5 x6 x7
  -- three times the WHILE counts as the said ones do
  have y4 : 3 * s5.2.2.2.1 ≤ 3 * s.2.2.2.1 + (rsz P sz p (a + 1) (m - (a + 1)) + rsz P sz p (m + 1) (e - (m + 1)) + 3 : Nat) := by
    obtain ⟨-, -, -, a5, -⟩ := q1
    obtain ⟨-, -, -, a7, -⟩ := q3
    have b0 : s1.2.2.2.1 = s.2.2.2.1 + 1 := by rw [r0, e0]
    have b2 : s3.2.2.2.1 = s2.2.2.2.1 := by rw [r2]
    have b4 : s5.2.2.2.1 = s4.2.2.2.1 := by rw [r4]
    omega
  simp only at x1 x2 x3 x4 x5 x6 x7
  refine ⟨by dsimp only; omega, by dsimp only; omega, by dsimp only; omega, y4, by dsimp only; omega, by dsimp only; omega, fun hq => ?_⟩
  subst hq
  exact ⟨(x7 rfl).1, rfl, (x7 rfl).2.2⟩
theorem BD_cl {R : Bool → Nat → Nat → Nat → St → St} {n : Nat} (hR : RB P sz ex nd R n) (hW : WB P sz ex nd) {sil : Bool} {p a : Nat} {s : St} (h0 : 0 ≤ P.2.1 p a 1) (h3 : P.2.1 p a 1 < 3) (hq : ex (P.2.1 p a 1).toNat) (h7 : P.1 p a = 7) (hn : nd (P.2.1 p a 1) ≤ n) : BD (cst P sz p a) sil s (clS P R sil p a s) := by
  unfold clS cst
  rw [if_pos h7]
  obtain ⟨b1, b2⟩ := hW _ hq (by omega)
  rw [show (((P.2.1 p a 1).toNat : Nat) : Int) = P.2.1 p a 1 by omega] at b1
  have := hR sil (P.2.1 p a 1).toNat 0 (P.2.2.2.1 (P.2.1 p a 1).toNat) (clP s.1 (P.2.1 p a 0).toNat, s.2) hq (Bl_mono b1 hn) (Nat.le_refl _)
  rw [Nat.sub_zero] at this
  have h := this.trans (BD.refl 0 sil _) (w := 1 + sz (P.2.1 p a 1).toNat) (by omega)
  exact h
theorem wkl_bd {R : Bool → Nat → Nat → Nat → St → St} {n : Nat} {In : Nat → Nat → Prop} {sil : Bool} {p : Nat} (hp : ex p) (hI : ∀ x y, In x y → Bl nd (P.1 p) (fun k => P.2.1 p k 1) (P.2.2.1 p) n x y) (hR : RB P sz ex nd R n) (hW : WB P sz ex nd) (hw : WfP P ex) : ∀ (l f a b : Nat) (s : St), Bs nd (P.1 p) (fun k => P.2.1 p k 1) (P.2.2.1 p) n In f a b → b ≤ P.2.2.2.1 p → BD (rsz P sz p a (b - a)) sil s (wkl P R sil p l a b s) := by
  obtain ⟨w1, w2, w3, w4⟩ := hw p hp
  intro l
  induction l with
  | zero => intro f a b s _ _; exact BD.refl _ sil s
  | succ l ih =>
    intro f a b s hB hb
    show BD _ sil s (if a < b then _ else s)
    by_cases c : a < b
    · rw [if_pos c]
      cases f with
      | zero => have : a = b := hB; omega
      | succ f =>
        rcases hB with hB | ⟨-, ⟨hB, hB2⟩ | hB | hB⟩
        · omega
        · have ne : P.1 p a ≠ 8 ∧ P.1 p a ≠ 10 := by omega
          rw [if_neg ne.1, if_neg ne.2]
          have ih := fun s' => ih f (a + 1) b s' hB2 hb
          rw [rsz_one c]
          rcases hB with hB | hB
          · rw [if_neg (by omega)]
            exact BD_pl.trans (ih _) (by unfold cst; omega)
          · rw [if_pos hB.1]
            obtain ⟨u1, u2, u3, u4, u5⟩ := w4 a (by omega)
            obtain ⟨v1, v2, v3⟩ := u5 hB.1
            exact (BD_cl hR hW v1 v2 v3 hB.1 hB.2).trans (ih _) (by omega)
        · obtain ⟨g1, g2, g3, g4, g5, g6, g7, g8, g9, g10⟩ := hB
          rw [if_pos g1]
          have := rsz_blk (P := P) (sz := sz) (p := p) g2 g3 g4
          exact (BD_if hR hp rfl rfl g2 g3 (by omega) (hI _ _ g8) (hI _ _ g9)).trans (ih f _ b _ g10 hb) (by omega)
        · obtain ⟨g1, g2, g3, g4, g5, g6, g7, g8, g9, g10⟩ := hB
          rw [if_neg (by omega), if_pos g1]
          have := rsz_blk (P := P) (sz := sz) (p := p) g2 g3 g4
          exact (BD_wh hR hp rfl rfl g2 g3 (by omega) (Bl_plain (by omega) (fun k k1 k2 => g8 k (by omega) k2)) (hI _ _ g9)).trans (ih f _ b _ g10 hb) (by omega)
    · rw [if_neg c]; exact BD.refl _ sil s
theorem Bs_plain {kd nm : Nat → Int} {mt : Nat → Nat} {n : Nat} {In : Nat → Nat → Prop} : ∀ {l a b : Nat}, a ≤ b → b - a = l → (∀ k, a ≤ k → k < b → 0 ≤ kd k ∧ kd k ≤ 6) → Bs nd kd nm mt n In l a b
  | 0, a, b, h1, h2, _ => (show a = b by omega)
  | l + 1, a, b, h1, h2, h3 => Or.inr ⟨by omega, Or.inl ⟨Or.inl (h3 a (Nat.le_refl _) (by omega)), Bs_plain (by omega) (by omega) (fun k q1 q2 => h3 k (by omega) q2)⟩⟩
theorem wk_bd (hW : WB P sz ex nd) (hw : WfP P ex) : ∀ n, RB P sz ex nd (wk P n) n := by
  intro n
  induction n with
  | zero =>
    intro sil p a b s hp hB hb
    obtain ⟨w1, w2, w3, w4⟩ := hw p hp
    have key : ∀ l a (s : St), BD (rsz P sz p a (b - a)) sil s (wkl P (fun _ _ _ _ s => s) sil p l a b s) ∨ ¬ ∀ k, a ≤ k → k < b → 0 ≤ P.1 p k ∧ P.1 p k ≤ 6 := by
      intro l
      induction l with
      | zero => intro a s; exact Or.inl (BD.refl _ sil s)
      | succ l ih =>
        intro a s
        by_cases hk : ∀ k, a ≤ k → k < b → 0 ≤ P.1 p k ∧ P.1 p k ≤ 6
        · left
          show BD _ sil s (if a < b then _ else s)
          by_cases c : a < b
          · rw [if_pos c, rsz_one c]
            have := hk a (Nat.le_refl _) c
            rw [if_neg (by omega), if_neg (by omega), if_neg (by omega)]
            rcases ih (a + 1) (plS P sil p a s) with q | q
            · exact BD_pl.trans q (by unfold cst; omega)
            · exact absurd (fun k k1 k2 => hk k (by omega) k2) q
          · rw [if_neg c]; exact BD.refl _ sil s
        · exact Or.inr hk
    rcases key (b - a) a s with q | q
    · exact q
    · exact absurd hB.2 q
  | succ n ih =>
    intro sil p a b s hp hB hb
    exact wkl_bd hp (fun x y h => h) ih hW hw (b - a) (b - a) a b s hB hb
end
