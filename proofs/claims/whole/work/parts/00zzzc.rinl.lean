section
variable {N : Nat} {A B : zA} {X W : List It} {g h p q T p' : Nat}
theorem RP_last {r : Nat} {i i' : It} (hx : RP A r (X ++ [i]) g) (hl : X.length < 240) (f : fr (fun a j => a = 228 ∧ 5 * (240 * r + X.length) + 1 ≤ j ∧ j < 5 * (240 * r + X.length) + 5) A B) (h1 : i'.1 = i.1) (hn : ∀ m : Nat, m < nbk i.1 → ri B 228 (rad r X.length ((m : Int) + 1)) = ig i' (m + 1)) : RP B r (X ++ [i']) g := by
  obtain ⟨a1, a2, a3⟩ := hx
  rw [List.length_append] at a1 a3
  refine ⟨by rw [f.e (fun z => by omega), List.length_append]; exact a1, by rw [f.e (fun z => by omega)]; exact a2, fun k hk => ?_⟩
  rw [List.length_append] at hk
  have hk : k < X.length + 1 := hk
  obtain ⟨b1, b2⟩ := a3 k hk
  by_cases c : k < X.length
  · rw [itm_app1 c] at b1 b2 ⊢
    have := nbk_le (itm X k).1
    exact ⟨by rw [f.e (fun z => by unfold rad at z; omega)]; exact b1, fun m hm => by rw [f.e (fun z => by unfold rad at z; omega)]; exact b2 m hm⟩
  · have : k = X.length := by omega
    subst this
    rw [itm_app2] at b1 b2 ⊢
    exact ⟨by rw [f.e (fun z => by unfold rad at z; omega), h1]; exact b1, fun m hm => hn m (by rw [← h1]; exact hm)⟩
theorem r_shifted {j : Nat} {b : Int} (hN : 300000 ≤ N) (hp : p < 4) (hq : q < 4) (hpq : q ≠ p) (hx : RP A (4 + p) X g) (hw : RP A (4 + q) W h) (hl : X.length < 240) (hj : j < W.length) (hlw : W.length ≤ 240) (hi : okI T p' h (itm W j)) (h60 : h ≤ 60) (hb0 : 0 ≤ b) (hb : b ≤ 60) : ∃ B, z_M_shifted N p q j b A = some B ∧ RP B (4 + p) (X ++ [shf b (itm W j)]) g ∧ fr (qRo (4 + p)) A B := by
  have x1 := hx.1
  have e4 : ((4 + p : Nat) : Int) = 4 * 1 + (p : Int) := by omega
  have p1 : z_M_place N 1 q j A = some ((5 * (240 * (4 + q) + j) : Nat) : Int) := by
    rw [z_M_place_e (by omega) (by omega) (by omega) (by omega)]
    unfold rad
    congr 1
  have p2 : z_M_place N 1 p (X.length : Int) A = some ((5 * (240 * (4 + p) + X.length) : Nat) : Int) := by
    rw [z_M_place_e (by omega) (by omega) (by omega) (by omega)]
    unfold rad
    congr 1
  obtain ⟨C, c1, c2, c3⟩ := r_copyItem' (N := N) (A := A) (x := 5 * (240 * (4 + q) + j)) (y := 5 * (240 * (4 + p) + X.length)) hN (by omega) (by omega) (by omega)
  have hwj := hw.2.2 j hj
  have hb4 := nbk_le (itm W j).1
  have hC0 : RP (rs C 229 ((4 + p : Nat) : Int) (ri C 229 ((4 + p : Nat) : Int) + 1)) (4 + p) (X ++ [itm W j]) g := RP_put (by omega) hx hl c3 (by
    have := c2 0 (by omega)
    rw [show rad ((4 + p : Nat) : Int) (X.length : Int) 0 = ((5 * (240 * (4 + p) + X.length) : Nat) : Int) + ((0 : Nat) : Int) by unfold rad; omega, this, show ((5 * (240 * (4 + q) + j) : Nat) : Int) + ((0 : Nat) : Int) = rad ((4 + q : Nat) : Int) j 0 by unfold rad; omega]
    exact hwj.1) (fun i hi => by
    have := c2 (i + 1) (by omega)
    rw [show rad ((4 + p : Nat) : Int) (X.length : Int) ((i : Int) + 1) = ((5 * (240 * (4 + p) + X.length) : Nat) : Int) + ((i + 1 : Nat) : Int) by unfold rad; omega, this, show ((5 * (240 * (4 + q) + j) : Nat) : Int) + ((i + 1 : Nat) : Int) = rad ((4 + q : Nat) : Int) j ((i : Int) + 1) by unfold rad; omega]
    exact hwj.2 i hi)
  have fC : fr (qRo (4 + p)) A (rs C 229 ((4 + p : Nat) : Int) (ri C 229 ((4 + p : Nat) : Int) + 1)) := (c3.mono (fun a j z => Or.inl ⟨z.1, by omega, by omega⟩)).trans (fr_rs (Or.inr ⟨Or.inl rfl, by omega⟩))
  have hw1 := hw.fr hlw fC (fun a e z y => by unfold qRo at z y; omega)
  unfold z_M_shifted
  rw [p1, zbP_s, z_M_row_e (by omega) (by omega), zbP_s, zrd_ok (by omega) (by omega), ← e4, x1, p2, zbP_s, c1, zbV_s, z_M_row_e (by omega) (by omega), zbP_s, ← e4, zrd_ok (by omega) (by omega), zwr_ok (by omega) (by omega)]
  generalize rs C 229 ((4 + p : Nat) : Int) (ri C 229 ((4 + p : Nat) : Int) + 1) = D at *
  generalize hu : 5 * (240 * (4 + q) + j) = u at *
  generalize hv : 5 * (240 * (4 + p) + X.length) = v at *
  obtain ⟨wk, wn⟩ := hw1.2.2 j hj
  have wk0 : ri D 228 u = (itm W j).1 := by rw [show ((u : Nat) : Int) = rad ((4 + q : Nat) : Int) j 0 by unfold rad; omega]; exact wk
  have wn0 : ∀ m : Nat, m < nbk (itm W j).1 → ri D 228 (u + ((m : Int) + 1)) = ig (itm W j) (m + 1) := fun m hm => by rw [show ((u : Nat) : Int) + ((m : Int) + 1) = rad ((4 + q : Nat) : Int) j ((m : Int) + 1) by unfold rad; omega]; exact wn m hm
  have xn0 : ∀ m : Nat, m < nbk (itm W j).1 → ri D 228 (v + ((m : Int) + 1)) = ig (itm W j) (m + 1) := fun m hm => by
    have := (hC0.2.2 X.length (by rw [List.length_append]; simp)).2 m (by rw [itm_app2]; exact hm)
    rw [itm_app2] at this
    rw [show ((v : Nat) : Int) + ((m : Int) + 1) = rad ((4 + p : Nat) : Int) (X.length : Int) ((m : Int) + 1) by unfold rad; omega]
    exact this
  have hi0 := hi
  generalize itm W j = i at *
  obtain ⟨o1, o2, o3, o4, o5⟩ := hi
  have hvk := nbk_v o1 o2
  have fr1 : 0 ≤ frk i.1 ∧ frk i.1 ≤ 1 := by unfold frk; split <;> omega
  rw [zrd_ok (by omega) (by omega), wk0]
  -- the end: reads
  have fin : ∀ (E : zA), fr (fun a e => a = 228 ∧ v + 1 ≤ e ∧ e < v + 5) D E → (∀ m : Nat, m < nbk i.1 → ri E 228 (v + ((m : Int) + 1)) = if (m : Int) < frk i.1 then sfn b i m else if m = 0 ∧ (i.1 = 0 ∨ i.1 = 5) then sfn b i 0 else ig i (m + 1)) → ∃ F, z_M_shifted_111 N b u v i.1 0 E = some F ∧ RP F (4 + p) (X ++ [shf b i]) g ∧ fr (qRo (4 + p)) A F := fun E fE hE => by
    have toRP : ∀ F, fr (fun a e => a = 228 ∧ v + 1 ≤ e ∧ e < v + 5) D F → (∀ m : Nat, m < nbk i.1 → ri F 228 (v + ((m : Int) + 1)) = sfn b i m) → RP F (4 + p) (X ++ [shf b i]) g ∧ fr (qRo (4 + p)) A F := fun F fF hF => by
      refine ⟨RP_last hC0 hl (fF.mono (fun a e z => ⟨z.1, by omega, by omega⟩)) rfl (fun m hm => ?_), fC.trans (fF.mono (fun a e z => Or.inl ⟨z.1, by omega, by omega⟩))⟩
      rw [shf_g _ _ (by omega), show rad ((4 + p : Nat) : Int) (X.length : Int) ((m : Int) + 1) = ((v : Nat) : Int) + ((m : Int) + 1) by unfold rad; omega]
      exact hF m hm
    by_cases c05 : i.1 = 0 ∨ i.1 = 5
    · -- it reads nothing
      have hn : ∀ (r n f : Nat), n + r = 2 → r < f → z_M_shifted_111_l N f b u v i.1 n E = some E := by
        intro r
        induction r with
        | zero =>
          intro n f h1 h2
          obtain ⟨y, rfl⟩ : ∃ y, f = y + 1 := ⟨f - 1, by omega⟩
          show z_M_shifted_111_b (z_M_shifted_111_l N y) N b u v i.1 n E = _
          unfold z_M_shifted_111_b
          rw [if_neg (by omega)]
        | succ r ih =>
          intro n f h1 h2
          obtain ⟨y, rfl⟩ : ∃ y, f = y + 1 := ⟨f - 1, by omega⟩
          have w1 : zw ((n : Int) + 1) = ((n + 1 : Nat) : Int) := by rw [yb_w (by omega) (by omega)]; omega
          have hrd : rda i.1 n = 0 := by unfold rda; repeat' split <;> omega
          show z_M_shifted_111_b (z_M_shifted_111_l N y) N b u v i.1 n E = _
          unfold z_M_shifted_111_b
          rw [if_pos (by omega), r_readAt (by omega) (by omega), zbP_s, hrd, if_neg (by decide), w1]
          exact ih (n + 1) y (by omega) (by omega)
      have := hn 2 0 N (by omega) (by omega)
      rw [show ((0 : Nat) : Int) = 0 from rfl] at this
      unfold z_M_shifted_111
      obtain ⟨t1, t2⟩ := toRP E fE (fun m hm => by
        rw [hE m hm]
        have f0 : frk i.1 = 0 := by unfold frk; rw [if_neg (by omega)]
        rw [f0, if_neg (by omega)]
        by_cases m0 : m = 0
        · rw [if_pos ⟨m0, c05⟩, m0]
        · rw [if_neg (fun z => m0 z.1)]
          unfold sfn
          rw [if_neg (by omega)])
      exact ⟨E, this, t1, t2⟩
    · obtain ⟨F, g1, g2, g3⟩ := r_shift_run (N := N) (b := b) (i := i) (u := u) (v := v) hi0 h60 hb0 hb (by omega) (by omega) (by omega) 2 0 N E (by omega) (by omega) (fun m hm => by rw [fE.e (fun z => by omega)]; exact wn0 m hm) (fun m hm => by
        rw [hE m hm, show frk i.1 + ((0 : Nat) : Int) = frk i.1 by omega]
        have rd0 : 0 ≤ rdk i.1 := by unfold rdk; repeat' split <;> omega
        by_cases y : (m : Int) < frk i.1
        · rw [if_pos y, if_pos ⟨y, by omega⟩]
        · rw [if_neg y, if_neg (fun z => c05 z.2), if_neg (fun z => y z.1)])
      rw [show ((0 : Nat) : Int) = 0 from rfl] at g1
      unfold z_M_shifted_111
      obtain ⟨t1, t2⟩ := toRP F (fE.trans g2) (fun m hm => by
        rw [g3 m hm]
        by_cases y : (m : Int) < frk i.1 + rdk i.1
        · rw [if_pos y]
        · rw [if_neg y, sfn_hi o1 o2 hm y (fun z => absurd z c05)])
      exact ⟨F, g1, t1, t2⟩
  have h73 : z_M_shifted_73 N b u v i.1 0 D = z_M_shifted_111 N b u v i.1 0 D := by
    unfold z_M_shifted_73
    rw [if_pos rfl]
  by_cases cw : i.1 ≤ 3 ∨ i.1 = 5
  · have hn0 : 0 < nbk i.1 := by omega
    have hr0 := (o3 0 hn0).2.2 (by unfold isr; omega)
    have hr0 : 0 ≤ ig i 1 ∧ ig i 1 < h := hr0
    have w0 := wn0 0 hn0
    have v0 := xn0 0 hn0
    rw [show ((0 : Nat) : Int) + 1 = 1 from rfl] at w0 v0
    have w0 : ri D 228 (u + 1) = ig i 1 := w0
    have v0 : ri D 228 (v + 1) = ig i 1 := v0
    have s73 : ∃ F, z_M_shifted_73 N b u v i.1 1 D = some F ∧ RP F (4 + p) (X ++ [shf b i]) g ∧ fr (qRo (4 + p)) A F := by
      unfold z_M_shifted_73
      rw [if_neg (by decide), zrd_ok (by omega) (by omega), w0]
      have sf0 : sfn b i 0 = if ig i 1 < 6 then ig i 1 else ig i 1 + b := by
        unfold sfn
        show (if _ ∧ _ ∧ _ ∧ 6 ≤ ig i 1 then ig i 1 + b else ig i 1) = _
        by_cases d : ig i 1 < 6
        · rw [if_neg (by omega), if_pos d]
        · rw [if_pos (by omega), if_neg d]
      by_cases d : ig i 1 < 6
      · rw [if_pos d]
        exact fin D (fr.refl _ _) (fun m hm => by
          rw [xn0 m hm]
          by_cases m0 : m = 0
          · subst m0
            show ig i 1 = _
            rw [sf0, if_pos d]
            split
            · rfl
            · split <;> rfl
          · rw [if_neg (by omega), if_neg (fun z => m0 z.1)])
      · rw [if_neg d, zrd_ok (by omega) (by omega), v0, zwr_ok (by omega) (by omega)]
        have f1 : fr (fun a e => a = 228 ∧ e = v + 1) D (rs D 228 (v + 1) (ig i 1 + b)) := fr_rs ⟨rfl, by omega⟩
        have v1 : ri (rs D 228 (v + 1) (ig i 1 + b)) 228 (v + 1) = ig i 1 + b := by rw [ri_rs_s, yb_w (by omega) (by omega)]
        generalize rs D 228 (v + 1) (ig i 1 + b) = E at *
        exact fin E (f1.mono (fun a e z => ⟨z.1, by omega, by omega⟩)) (fun m hm => by
          by_cases m0 : m = 0
          · subst m0
            rw [show ((0 : Nat) : Int) + 1 = 1 from rfl, v1, sf0, if_neg d]
            by_cases y : ((0 : Nat) : Int) < frk i.1
            · rw [if_pos y]
            · rw [if_neg y, if_pos ⟨rfl, by unfold frk at y; split at y <;> omega⟩]
          · rw [f1.e (fun z => by omega), xn0 m hm, if_neg (by omega), if_neg (fun z => m0 z.1)])
    by_cases c3 : 3 < i.1
    · rw [if_pos c3, if_pos (by omega)]; exact s73
    · rw [if_neg c3]; exact s73
  · rw [if_pos (by omega), if_neg (by omega), h73]
    exact fin D (fr.refl _ _) (fun m hm => by
      have f0 : frk i.1 = 0 := by unfold frk; rw [if_neg (by omega)]
      rw [xn0 m hm, f0, if_neg (by omega), if_neg (by omega)])
end
