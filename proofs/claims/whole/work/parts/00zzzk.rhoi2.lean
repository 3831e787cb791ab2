/-! HOIST of the reference: an item goes up -/
section
variable {N : Nat} {A : zA} {X : List It} {g p T p' h : Nat}
theorem r_mv3 {t : Int} {k : Nat} (hp : p < 4) (hk : k < 240) : ∀ (r i f : Nat) (B : zA), i + r = 5 → r < f → ∃ C, z_M_moveUp_3_l N f p t k i B = z_M_moveUp_39 N p t k C ∧ (∀ j : Nat, j < 5 → ri C 251 j = if i ≤ j then ri B 228 ((5 * (240 * (4 + p) + k) + j : Nat) : Int) else ri B 251 j) ∧ fr (fun a j => a = 251 ∧ j < 5) B C := by
  intro r
  induction r with
  | zero =>
    intro i f B h1 h2
    obtain ⟨u, rfl⟩ : ∃ u, f = u + 1 := ⟨f - 1, by omega⟩
    refine ⟨B, ?_, fun j hj => by rw [if_neg (by omega)], fr.refl _ _⟩
    show z_M_moveUp_3_b (z_M_moveUp_3_l N u) N p t k i B = _
    unfold z_M_moveUp_3_b
    rw [if_neg (by omega)]
  | succ r ih =>
    intro i f B h1 h2
    obtain ⟨u, rfl⟩ : ∃ u, f = u + 1 := ⟨f - 1, by omega⟩
    have w1 : zw ((i : Int) + 1) = ((i + 1 : Nat) : Int) := by rw [yb_w (by omega) (by omega)]; omega
    have ea : rad (4 * 1 + (p : Int)) k 0 + (i : Int) = ((5 * (240 * (4 + p) + k) + i : Nat) : Int) := by unfold rad; omega
    have f1 : fr (fun a j => a = 251 ∧ j = i) B (rs B 251 i (ri B 228 ((5 * (240 * (4 + p) + k) + i : Nat) : Int))) := fr_rs ⟨rfl, by omega⟩
    have v1 : ri (rs B 251 i (ri B 228 ((5 * (240 * (4 + p) + k) + i : Nat) : Int))) 251 i = ri B 228 ((5 * (240 * (4 + p) + k) + i : Nat) : Int) := by
      have := ri_rg B 228 ((5 * (240 * (4 + p) + k) + i : Nat) : Int)
      rw [ri_rs_s, yb_w this.1 this.2]
    obtain ⟨C, b1, b2, b3⟩ := ih (i + 1) u (rs B 251 i (ri B 228 ((5 * (240 * (4 + p) + k) + i : Nat) : Int))) (by omega) (by omega)
    refine ⟨C, ?_, fun j hj => ?_, (f1.mono (fun a j q => ⟨q.1, by omega⟩)).trans b3⟩
    · rw [← b1]
      show z_M_moveUp_3_b (z_M_moveUp_3_l N u) N p t k i B = _
      unfold z_M_moveUp_3_b
      rw [if_pos (by omega), z_M_place_e (by omega) (by omega) (by omega) (by omega), zbP_s, ea, zrd_ok (by omega) (by omega), zwr_ok (by omega) (by omega), w1]
    · rw [b2 j hj]
      by_cases c : j = i
      · subst c
        rw [if_neg (by omega), v1, if_pos (Nat.le_refl _)]
      · by_cases c2 : i + 1 ≤ j
        · rw [if_pos c2, if_pos (by omega), f1.e (fun q => by omega)]
        · rw [if_neg c2, if_neg (by omega), f1.e (fun q => by omega)]
theorem r_mv39 {t : Nat} (hN : 300000 ≤ N) (hp : p < 4) : ∀ (r j f : Nat) (B : zA), t + r = j → j < 240 → r < f → ∃ C, z_M_moveUp_39_l N f p t j B = z_M_moveUp_74 N p t 0 C ∧ (∀ q i : Nat, t < q → q ≤ j → i < 5 → ri C 228 ((5 * (240 * (4 + p) + q) + i : Nat) : Int) = ri B 228 ((5 * (240 * (4 + p) + (q - 1)) + i : Nat) : Int)) ∧ fr (fun a e => a = 228 ∧ 5 * (240 * (4 + p) + t) + 5 ≤ e ∧ e < 5 * (240 * (4 + p) + j) + 5) B C := by
  intro r
  induction r with
  | zero =>
    intro j f B h1 h3 h2
    obtain ⟨u, rfl⟩ : ∃ u, f = u + 1 := ⟨f - 1, by omega⟩
    refine ⟨B, ?_, fun q i q1 q2 => by omega, fr.refl _ _⟩
    show z_M_moveUp_39_b (z_M_moveUp_39_l N u) N p t j B = _
    unfold z_M_moveUp_39_b
    rw [if_neg (by omega)]
  | succ r ih =>
    intro j f B h1 h3 h2
    obtain ⟨u, rfl⟩ : ∃ u, f = u + 1 := ⟨f - 1, by omega⟩
    have w1 : zw ((j : Int) - 1) = ((j - 1 : Nat) : Int) := by rw [yb_w (by omega) (by omega)]; omega
    have w2 : zw ((j : Int) + (-1)) = ((j - 1 : Nat) : Int) := by rw [yb_w (by omega) (by omega)]; omega
    have ea : rad (4 * 1 + (p : Int)) ((j - 1 : Nat) : Int) 0 = ((5 * (240 * (4 + p) + (j - 1)) : Nat) : Int) := by unfold rad; omega
    have eb : rad (4 * 1 + (p : Int)) j 0 = ((5 * (240 * (4 + p) + j) : Nat) : Int) := by unfold rad; omega
    obtain ⟨C, c1, c2, c3⟩ := r_copyItem' (N := N) (A := B) (x := 5 * (240 * (4 + p) + (j - 1))) (y := 5 * (240 * (4 + p) + j)) hN (by omega) (by omega) (by omega)
    obtain ⟨D, d1, d2, d3⟩ := ih (j - 1) u C (by omega) (by omega) (by omega)
    refine ⟨D, ?_, fun q i q1 q2 q3 => ?_, (c3.mono (fun a e z => ⟨z.1, by omega, by omega⟩)).trans (d3.mono (fun a e z => ⟨z.1, by omega, by omega⟩))⟩
    · rw [← d1]
      show z_M_moveUp_39_b (z_M_moveUp_39_l N u) N p t j B = _
      unfold z_M_moveUp_39_b
      rw [if_pos (by omega), w1, z_M_place_e (by omega) (by omega) (by omega) (by omega), zbP_s, z_M_place_e (by omega) (by omega) (by omega) (by omega), zbP_s, ea, eb, c1, zbV_s, w2]
    · by_cases e : q = j
      · subst e
        have := c2 i q3
        rw [d3.e (fun z => by omega)]
        rw [show ((5 * (240 * (4 + p) + q) + i : Nat) : Int) = ((5 * (240 * (4 + p) + q) : Nat) : Int) + (i : Int) by omega, this]
        congr 1
      · rw [d2 q i q1 (by omega) q3, c3.e (fun z => by omega)]
theorem r_mv74 {t : Nat} (hp : p < 4) (ht : t < 240) : ∀ (r i f : Nat) (B : zA), i + r = 5 → r < f → ∃ C, z_M_moveUp_74_l N f p t i B = some C ∧ (∀ j : Nat, i ≤ j → j < 5 → ri C 228 ((5 * (240 * (4 + p) + t) + j : Nat) : Int) = ri B 251 j) ∧ fr (fun a j => a = 228 ∧ 5 * (240 * (4 + p) + t) + i ≤ j ∧ j < 5 * (240 * (4 + p) + t) + 5) B C := by
  intro r
  induction r with
  | zero =>
    intro i f B h1 h2
    obtain ⟨u, rfl⟩ : ∃ u, f = u + 1 := ⟨f - 1, by omega⟩
    refine ⟨B, ?_, fun j hj => by omega, fr.refl _ _⟩
    show z_M_moveUp_74_b (z_M_moveUp_74_l N u) N p t i B = _
    unfold z_M_moveUp_74_b
    rw [if_neg (by omega)]
  | succ r ih =>
    intro i f B h1 h2
    obtain ⟨u, rfl⟩ : ∃ u, f = u + 1 := ⟨f - 1, by omega⟩
    have w1 : zw ((i : Int) + 1) = ((i + 1 : Nat) : Int) := by rw [yb_w (by omega) (by omega)]; omega
    have ea : rad (4 * 1 + (p : Int)) t 0 + (i : Int) = ((5 * (240 * (4 + p) + t) + i : Nat) : Int) := by unfold rad; omega
    have f1 : fr (fun a j => a = 228 ∧ j = 5 * (240 * (4 + p) + t) + i) B (rs B 228 ((5 * (240 * (4 + p) + t) + i : Nat) : Int) (ri B 251 i)) := fr_rs ⟨rfl, by omega⟩
    have v1 : ri (rs B 228 ((5 * (240 * (4 + p) + t) + i : Nat) : Int) (ri B 251 i)) 228 ((5 * (240 * (4 + p) + t) + i : Nat) : Int) = ri B 251 i := by
      have := ri_rg B 251 (i : Int)
      rw [ri_rs_s, yb_w this.1 this.2]
    obtain ⟨C, b1, b2, b3⟩ := ih (i + 1) u (rs B 228 ((5 * (240 * (4 + p) + t) + i : Nat) : Int) (ri B 251 i)) (by omega) (by omega)
    refine ⟨C, ?_, fun j hj hj5 => ?_, (f1.mono (fun a j q => ⟨q.1, by omega, by omega⟩)).trans (b3.mono (fun a j q => ⟨q.1, by omega, by omega⟩))⟩
    · rw [← b1]
      show z_M_moveUp_74_b (z_M_moveUp_74_l N u) N p t i B = _
      unfold z_M_moveUp_74_b
      rw [if_pos (by omega), z_M_place_e (by omega) (by omega) (by omega) (by omega), zbP_s, ea, zrd_ok (by omega) (by omega), zwr_ok (by omega) (by omega), w1]
    · by_cases c : j = i
      · subst c
        rw [b3.e (fun q => by omega), v1]
      · rw [b2 j (by omega) hj5, f1.e (fun q => by omega)]
theorem r_moveUp {t k : Nat} (hN : 300000 ≤ N) (hp : p < 4) (hx : RP A (4 + p) X g) (hl : X.length ≤ 240) (h1 : t ≤ k) (h2 : k < X.length) : ∃ B, z_M_moveUp N p t k A = some B ∧ RP B (4 + p) (mup X t k) g ∧ fr (fun a j => (a = 228 ∧ 1200 * (4 + p) ≤ j ∧ j < 1200 * (4 + p) + 1200) ∨ a = 251) A B := by
  obtain ⟨C, c1, c2, c3⟩ := r_mv3 (N := N) (t := (t : Int)) (k := k) hp (by omega) 5 0 N A (by omega) (by omega)
  obtain ⟨D, d1, d2, d3⟩ := r_mv39 (N := N) (t := t) hN hp (k - t) k N C (by omega) (by omega) (by omega)
  obtain ⟨E, e1, e2, e3⟩ := r_mv74 (N := N) (t := t) hp (by omega) 5 0 N D (by omega) (by omega)
  rw [show ((0 : Nat) : Int) = 0 from rfl] at c1 e1
  obtain ⟨x1, x2, x3⟩ := hx
  refine ⟨E, ?_, ⟨?_, ?_, fun m hm => ?_⟩, ((c3.mono (fun a j z => Or.inr z.1)).trans (d3.mono (fun a j z => Or.inl ⟨z.1, by omega, by omega⟩))).trans (e3.mono (fun a j z => Or.inl ⟨z.1, by omega, by omega⟩))⟩
  · unfold z_M_moveUp z_M_moveUp_3
    rw [c1]
    unfold z_M_moveUp_39
    rw [d1]
    unfold z_M_moveUp_74
    rw [e1]
  · rw [e3.e (fun z => by omega), d3.e (fun z => by omega), c3.e (fun z => by omega), mup_len h1 h2]; exact x1
  · rw [e3.e (fun z => by omega), d3.e (fun z => by omega), c3.e (fun z => by omega)]; exact x2
  · rw [mup_len h1 h2] at hm
    have key : ∀ i : Nat, i < 5 → ri E 228 ((5 * (240 * (4 + p) + m) + i : Nat) : Int) = ri A 228 ((5 * (240 * (4 + p) + (if m < t then m else if m = t then k else if m ≤ k then m - 1 else m)) + i : Nat) : Int) := by
      intro i hi
      by_cases c1' : m < t
      · rw [if_pos c1', e3.e (fun z => by omega), d3.e (fun z => by omega), c3.e (fun z => by omega)]
      · rw [if_neg c1']
        by_cases c2' : m = t
        · rw [if_pos c2', c2', e2 i (by omega) hi, d3.e (fun z => by omega), c2 i hi, if_pos (Nat.zero_le _)]
        · rw [if_neg c2', e3.e (fun z => by omega)]
          by_cases c3' : m ≤ k
          · rw [if_pos c3', d2 m i (by omega) c3' hi, c3.e (fun z => by omega)]
          · rw [if_neg c3', d3.e (fun z => by omega), c3.e (fun z => by omega)]
    have hm' : (if m < t then m else if m = t then k else if m ≤ k then m - 1 else m) < X.length := by
      repeat' split
      all_goals omega
    have hi' : itm (mup X t k) m = itm X (if m < t then m else if m = t then k else if m ≤ k then m - 1 else m) := by
      rw [mup_itm h1 h2 hm]
      repeat' split
      all_goals rfl
    rw [hi']
    generalize (if m < t then m else if m = t then k else if m ≤ k then m - 1 else m) = m' at *
    have ad : ∀ (q i : Nat), rad ((4 + p : Nat) : Int) q i = ((5 * (240 * (4 + p) + q) + i : Nat) : Int) := fun q i => by unfold rad; omega
    obtain ⟨y1, y2⟩ := x3 m' hm'
    refine ⟨?_, fun i hi => ?_⟩
    · have a1 := ad m 0
      have a2 := ad m' 0
      rw [show ((0 : Nat) : Int) = 0 from rfl] at a1 a2
      rw [a1, key 0 (by omega), ← a2]; exact y1
    · have := nbk_le (itm X m').1
      have a1 := ad m (i + 1)
      have a2 := ad m' (i + 1)
      rw [show ((i + 1 : Nat) : Int) = (i : Int) + 1 by omega] at a1 a2
      rw [a1, key (i + 1) (by omega), ← a2]
      exact y2 i hi
/-! the loop over the items ahead of DO -/
def qHo (p : Nat) (a j : Nat) : Prop := qIn p a j ∨ a = 231 ∨ a = 233 ∨ a = 251
theorem r_hw_run {r13 : Int → Int → zA → Option zA} {w e m c0 : Nat} {G : zA} (hN : 300000 ≤ N) (hp : p < 4) (hok : okL T p' h X) (hl : X.length ≤ 240) (hm : m < e) (he : e < X.length) (hw : (itm X w).1 = 10) (hwm : w < m) (hpl : ∀ q, w < q → q < m → 0 ≤ (itm X q).1 ∧ (itm X q).1 ≤ 6) (hc0 : c0 ≤ 1000000) : ∀ (r j f : Nat) (B : zA), w + 1 + j + r = m → r < f → fr (qHo p) G B → RP B (4 + p) (hwS e w X j).1 g → zi B 226 33 = ((c0 + ((hwS e w X j).2 - w) : Nat) : Int) → ∃ C, z_M_hoist_75_l r13 N f p w ((hwS e w X j).2 : Nat) m e ((w + 1 + j : Nat) : Int) B = r13 p (zw ((w : Int) + (-1))) C ∧ fr (qHo p) G C ∧ RP C (4 + p) (hwS e w X (m - (w + 1))).1 g ∧ zi C 226 33 = ((c0 + ((hwS e w X (m - (w + 1))).2 - w) : Nat) : Int) := by
  intro r
  induction r with
  | zero =>
    intro j f B h1 h2 hF hx h33
    obtain ⟨u, rfl⟩ : ∃ u, f = u + 1 := ⟨f - 1, by omega⟩
    have ej : m - (w + 1) = j := by omega
    rw [ej]
    refine ⟨B, ?_, hF, hx, h33⟩
    show z_M_hoist_75_b r13 (z_M_hoist_75_l r13 N u) N p w ((hwS e w X j).2 : Nat) m e ((w + 1 + j : Nat) : Int) B = _
    unfold z_M_hoist_75_b
    rw [if_neg (by omega)]
  | succ r ih =>
    intro j f B h1 h2 hF hx h33
    obtain ⟨u, rfl⟩ : ∃ u, f = u + 1 := ⟨f - 1, by omega⟩
    obtain ⟨b1, b2, b3, b4, b5, b6, b7, b8, b9, b10, b11⟩ := hwS_inv (e := e) (w := w) (m := m) (X := X) (by omega) hw hpl j (by omega)
    have hs : hwS e w X (j + 1) = hw1 e (hwS e w X j) (w + 1 + j) := rfl
    unfold hw1 at hs
    have w1 : zw (((w + 1 + j : Nat) : Int) + 1) = ((w + 1 + (j + 1) : Nat) : Int) := by rw [yb_w (by omega) (by omega)]; omega
    have w2 : zw (((hwS e w X j).2 : Int) + 1) = (((hwS e w X j).2 + 1 : Nat) : Int) := by rw [yb_w (by omega) (by omega)]; omega
    have hst := r_steady (N := N) (A := B) (t := (hwS e w X j).2) (e := e) (k := w + 1 + j) hN hp hx (fun i hi => hok i (b11 i hi)) (by omega) b3 (by omega) (by omega)
    show ∃ C, z_M_hoist_75_b r13 (z_M_hoist_75_l r13 N u) N p w ((hwS e w X j).2 : Nat) m e ((w + 1 + j : Nat) : Int) B = _ ∧ _
    unfold z_M_hoist_75_b
    rw [if_pos (by omega), w2, hst, zbP_s, w1]
    by_cases c : stdy (hwS e w X j).1 (hwS e w X j).2 e (w + 1 + j)
    · rw [cif_pos c] at hs
      obtain ⟨D, d1, d2, d3⟩ := r_moveUp (N := N) (A := B) (t := (hwS e w X j).2) (k := w + 1 + j) hN hp hx (by omega) (by omega) (by omega)
      rw [cif_pos c, if_neg (by decide), d1, zbV_s, zlet_s]
      have f1 : fr (fun a j => a = 226 ∧ j = 33) D (zsi D 226 33 (zi D 226 33 + 1)) := fr_si ⟨rfl, rfl⟩
      have v33 : zi (zsi D 226 33 (zi D 226 33 + 1)) 226 33 = ((c0 + ((hwS e w X j).2 - w) + 1 : Nat) : Int) := by
        rw [zi_si_s, d3.i (fun z => by omega), h33, yb_w (by omega) (by omega)]; omega
      generalize zsi D 226 33 (zi D 226 33 + 1) = D1 at *
      have := ih (j + 1) u D1 (by omega) (by omega) ((hF.trans (d3.mono (fun a q z => by
        rcases z with z | z
        · exact Or.inl (Or.inl (Or.inl ⟨z.1, by omega, by omega⟩))
        · exact Or.inr (Or.inr (Or.inr z))))).trans (f1.mono (fun a q z => Or.inl (Or.inr z)))) (by rw [hs]; exact d2.fr (by rw [mup_len (by omega) (by omega)]; omega) f1 (fun a q z y => by unfold qRo at y; omega)) (by rw [hs, v33]; congr 1; show _ = c0 + ((hwS e w X j).2 + 1 - w); omega)
      rw [hs] at this
      exact this
    · rw [cif_neg c] at hs
      rw [cif_neg c, if_pos rfl]
      have := ih (j + 1) u B (by omega) (by omega) hF (by rw [hs]; exact hx) (by rw [hs]; exact h33)
      rw [hs] at this
      exact this
/-! all WHILEs from behind -/
theorem r_hoist_run {nd : Int → Nat} {n c0 : Nat} (hN : 300000 ≤ N) (hp : p < 4) (hok : okL T p' h X) (hl : X.length ≤ 150) (hb : bal nd n X) (hc0 : c0 ≤ 500000) : ∀ (r d f : Nat) (B : zA), d + r = X.length → r < f → fr (qHo p) A B → RP B (4 + p) (hoS X d).1 g → zi B 226 33 = ((c0 + (hoS X d).2 : Nat) : Int) → ∃ C, z_M_hoist_13_l N f p ((X.length : Int) - 1 - d) B = some C ∧ fr (qHo p) A C ∧ RP C (4 + p) (hoS X X.length).1 g ∧ zi C 226 33 = ((c0 + (hoS X X.length).2 : Nat) : Int) := by
  intro r
  induction r with
  | zero =>
    intro d f B h1 h2 hF hx h33
    obtain ⟨u, rfl⟩ : ∃ u, f = u + 1 := ⟨f - 1, by omega⟩
    have : d = X.length := by omega
    subst this
    refine ⟨B, ?_, hF, hx, h33⟩
    show z_M_hoist_13_b (z_M_hoist_13_l N u) N p ((X.length : Int) - 1 - X.length) B = _
    unfold z_M_hoist_13_b
    rw [if_pos (by omega)]
  | succ r ih =>
    intro d f B h1 h2 hF hx h33
    obtain ⟨u, rfl⟩ : ∃ u, f = u + 1 := ⟨f - 1, by omega⟩
    obtain ⟨⟨i1, i2, i3, i4⟩, i5⟩ := hoS_inv hb (by omega) d (by omega)
    obtain ⟨⟨_, _, _, _⟩, i5'⟩ := hoS_inv hb (by omega) (d + 1) (by omega)
    have hd1 : hoS X (d + 1) = if (itm (hoS X d).1 (X.length - 1 - d)).1 = 10 then ((hwS (mtL (hoS X d).1 (mtL (hoS X d).1 (X.length - 1 - d))) (X.length - 1 - d) (hoS X d).1 (mtL (hoS X d).1 (X.length - 1 - d) - (X.length - 1 - d + 1))).1, (hoS X d).2 + ((hwS (mtL (hoS X d).1 (mtL (hoS X d).1 (X.length - 1 - d))) (X.length - 1 - d) (hoS X d).1 (mtL (hoS X d).1 (X.length - 1 - d) - (X.length - 1 - d + 1))).2 - (X.length - 1 - d))) else hoS X d := rfl
    have ew : (X.length : Int) - 1 - d = ((X.length - 1 - d : Nat) : Int) := by omega
    have hkd := rp_kind (N := N) (z := 1) (p := p) (r := 4 + p) (by omega) hp (by omega) hx (show X.length - 1 - d < (hoS X d).1.length by omega) (by omega)
    rw [show ((1 : Nat) : Int) = 1 from rfl] at hkd
    rw [ew]
    show ∃ C, z_M_hoist_13_b (z_M_hoist_13_l N u) N p ((X.length - 1 - d : Nat) : Int) B = _ ∧ _
    unfold z_M_hoist_13_b
    rw [if_neg (by omega), hkd, zbP_s]
    generalize hW : X.length - 1 - d = w at *
    have wz : zw ((w : Int) + (-1)) = (X.length : Int) - 1 - ((d + 1 : Nat) : Int) := by rw [yb_w (by omega) (by omega)]; omega
    by_cases c : (itm (hoS X d).1 w).1 = 10
    · rw [if_pos c] at hd1
      obtain ⟨mt, hBl⟩ := bal_Bl (i2 _ _ hb)
      obtain ⟨a1, a2, a3, a4, a5, a6⟩ := mtL_at hBl (show w < (hoS X d).1.length by omega) c
      obtain ⟨D, d1, d2, d3⟩ := r_matchL (N := N) (A := B) (z := 1) (p := p) (r := 4 + p) hN (by omega) hp (by omega) hx (by omega) (i2 _ _ hb)
      rw [show ((1 : Nat) : Int) = 1 from rfl] at d1
      have m1 := d2 w (by omega) (by omega)
      have m2 := d2 (mtL (hoS X d).1 w) (by omega) (by omega)
      rw [if_pos c, d1, zbV_s, zrd_ok (by omega) (by omega), m1, zrd_ok (by omega) (by omega), m2, show zw ((w : Int) + 1) = ((w + 1 + 0 : Nat) : Int) by rw [yb_w (by omega) (by omega)]; omega]
      obtain ⟨E, e1, e2, e3, e4⟩ := r_hw_run (N := N) (G := A) (r13 := z_M_hoist_13_l N u) (X := (hoS X d).1) (w := w) (m := mtL (hoS X d).1 w) (e := mtL (hoS X d).1 (mtL (hoS X d).1 w)) (c0 := c0 + (hoS X d).2) (g := g) hN hp (fun i hi => hok i (i4 i hi)) (by omega) a2 a3 c a1 a6 (by omega) (mtL (hoS X d).1 w - (w + 1)) 0 N D (by omega) (by omega) (hF.trans (d3.mono (fun a q z => by
        rcases z with z | z
        · exact Or.inr (Or.inl z.1)
        · exact Or.inr (Or.inr (Or.inl z))))) (hx.fr (by omega) d3 (fun a q z y => by unfold qRo at y; omega)) (by rw [d3.i (fun z => by omega), h33]; show _ = ((c0 + (hoS X d).2 + (w - w) : Nat) : Int); omega)
      unfold z_M_hoist_75
      have e1 : z_M_hoist_75_l (z_M_hoist_13_l N u) N N p w w (mtL (hoS X d).1 w : Nat) (mtL (hoS X d).1 (mtL (hoS X d).1 w) : Nat) ((w + 1 + 0 : Nat) : Int) D = _ := e1
      rw [e1, wz]
      exact ih (d + 1) u E (by omega) (by omega) e2 (by rw [hd1]; exact e3) (by rw [hd1, e4]; congr 1; show _ = c0 + ((hoS X d).2 + _); omega)
    · rw [if_neg c] at hd1
      rw [if_neg c, wz]
      exact ih (d + 1) u B (by omega) (by omega) hF (by rw [hd1]; exact hx) (by rw [hd1]; exact h33)
theorem r_hoist {Q Qn QB : Pr} {c0 : Nat} (hN : 300000 ≤ N) (hG : GQ Q) (hp : exP Q p) (h : RPG A Qn QB) (hs : RSt A 1 Q) (hc0 : c0 ≤ 500000) (h33 : zi A 226 33 = c0) : ∃ B, z_M_hoist N p A = some B ∧ RSt B 1 (hoiQ Q p) ∧ zi B 226 33 = ((c0 + (hoS (Q.2.1 p) (Q.2.1 p).length).2 : Nat) : Int) ∧ RL B 1 ∧ fr (qHo p) A B := by
  have hp3 := exP3 hG.1 hp
  obtain ⟨g7, g60, gl, gok⟩ := hG.1.2 p hp
  have hx1 := rst_rp hs hp
  rw [show 4 * 1 + p = 4 + p by omega] at hx1
  have hxn := hx1.1
  have hb := hG.n.2.1 p hp
  obtain ⟨C, c1, c2, c3, c4⟩ := r_hoist_run (N := N) (A := A) (c0 := c0) (g := Q.2.2 p) hN (show p < 4 by omega) gok gl hb hc0 (Q.2.1 p).length 0 N A (by omega) (by omega) (fr.refl _ _) hx1 (by rw [h33]; rfl)
  obtain ⟨⟨i1, i2, i3, i4⟩, -⟩ := hoS_inv hb (by omega) _ (Nat.le_refl _)
  refine ⟨C, ?_, rst_put hG.1 hs c2 (fun q hq hq4 a j z y => by unfold qHo qIn qRo at z; unfold qRo at y; omega) c3, c4, fun q hq => ?_, c2⟩
  · unfold z_M_hoist z_M_hoist_13
    rw [z_M_row_e (by omega) (by omega), zbP_s, zrd_ok (by omega) (by omega), show (4 : Int) * 1 + p = ((4 + p : Nat) : Int) by omega, hxn, yb_w (by omega) (by omega), ← c1]
    congr 1
    omega
  · by_cases e : q = p
    · subst e
      have := c3.1
      unfold rn
      rw [show (4 : Int) * ((1 : Nat) : Int) + q = ((4 + q : Nat) : Int) by omega, this]
      omega
    · have : rn C (4 * ((1 : Nat) : Int) + q) = rn A (4 * ((1 : Nat) : Int) + q) := c2.e (fun z => by unfold qHo qIn qRo at z; omega)
      rw [this]
      exact h.2.2.2.2.1 q hq
end
