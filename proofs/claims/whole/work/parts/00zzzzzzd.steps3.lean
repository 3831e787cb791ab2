/-! compile, both programs -/
section
variable {N : Nat} {A B C : zA} {R R' L ic : Nat} {Q QB Q' QB' : Pr} {Tx inp : Nat → Int} {ou : List Int} {s c1 c2 d1 d2 : Int} {F : Nat → Nat → Prop}
theorem sCo_n {a : Nat} (h : ¬ (a = 999 ∨ a = 4 ∨ a = 5 ∨ (7 ≤ a ∧ a ≤ 48))) : sCo.contains a = false := nc_of (fun q => h (by have := sCo_mem.mp q; omega))
theorem TXT0 : TXT (fun _ => 0) 0 := ⟨Nat.zero_le _, fun _ => ⟨Int.le_refl _, (by decide : (0 : Int) ≤ 65535)⟩, fun _ _ => rfl⟩
theorem qCm_i {a j : Nat} (h : qCm a j) : (226 ≤ a ∧ a ≤ 294) ∧ a ≠ 227 ∧ a ≠ 232 ∧ a ≠ 291 ∧ (a = 226 → j ≠ 10 ∧ j ≠ 92 ∧ j ≠ 93) := by
  unfold qCm at h
  omega
theorem CB.co {P P' : Nat} (h : CB A R R' Q QB Tx L inp ic ou s c1 c2) (f : cF sCo A B) (h5 : zi B 5 1 = 0) (hP : CPG B P P' Q' QB') (hL : CLt B Q') (h1 : zi B 4 11 = d1) (h2 : zi B 4 12 = d2) : CB B P P' Q' QB' (fun _ => 0) 0 inp ic ou s d1 d2 := by
  obtain ⟨k1, k2, k3, k4, k5, k6, k7, k8, k9, k10⟩ := h
  exact ⟨hP, k2.fr f (sCo_n (by omega)) (sCo_n (by omega)) (sCo_n (by omega)), TT103.fr k3 f (fun a z => sCo_n (by omega)), hL, ⟨h5, fun k hk => absurd hk (Nat.not_lt_zero k)⟩, k6.fr f (sCo_n (by omega)) (sCo_n (by omega)), k7.fr f (sCo_n (by omega)) (sCo_n (by omega)), by rw [f.i (by decide) (sCo_n (by omega))]; exact k8, h1, h2⟩
theorem co_in {P P' : Nat} (g : GB Q' QB' (fun _ => 0) 0 ic ou) (f : cF sCo A B) (h3 : smc B ≤ smc A + 3) (hC : CB B P P' Q' QB' (fun _ => 0) 0 inp ic ou s d1 d2) (f2 : fr F B C) (hF : ∀ a j, F a j → 226 ≤ a ∧ a ≤ 295) (hR : RBn C Q' QB' (fun _ => 0) 0 inp ic ou s d1 d2) : IN C ∧ MR A C := by
  have f3 := f2.cF hF f.own
  exact ⟨⟨P, P', Q', QB', _, 0, inp, ic, ou, s, d1, d2, g, hC.rf g.1 g.2.1 f2 hF, hR⟩, ⟨f.2.1.1.trans f3.2.1.1, by rw [f3.2.1.2.1 rcs999]; exact h3⟩, (K0.of f (sCo_n (by omega))).tr (K0.of f3 rcs0)⟩
theorem RBn.co (h : RBn A Q QB Tx L inp ic ou s c1 c2) (f : fr qCm A B) (h0 : zi B 226 1 = 0) (hP : RPG B Q' QB') (h7 : zi B 226 7 = d1) (h8 : zi B 226 8 = d2) : RBn B Q' QB' (fun _ => 0) 0 inp ic ou s d1 d2 := by
  obtain ⟨r1, r2, r3, r4, r5, r6, r7⟩ := h
  exact ⟨hP, ⟨h0, fun k hk => absurd hk (Nat.not_lt_zero k)⟩, r3.fr f (fun a j z => by have := qCm_i z; omega), r4.fr f (fun a j z => by have := qCm_i z; omega), by rw [f.i (fun z => by have := qCm_i z; omega)]; exact r5, h7, h8⟩
theorem st_compile (hN : 600000 ≤ N) (h : IN A) : LX A (z_Lw_compile N A) (z_M_compile N) zil := by
  obtain ⟨R, R', Q, QB, Tx, L, inp, ic, ou, s, c1, c2, g, hC, hR⟩ := h
  have g1 := g.1
  have g2 := g.2.1
  have g4 := g.2.2.2.1
  obtain ⟨k1, k2, k3, k4, k5, k6, k7, k8, k9, k10⟩ := id hC
  obtain ⟨w, B, b1, b2, b3, b4, b5⟩ := c_compile (N := N) (by omega) g4 g1 g2 k1 k5.1 k5.2
  have n9 : sCo.contains 209 = false := sCo_n (by omega)
  have hRB := hR.cf b2 (fun a h1 _ => sCo_n (by omega))
  have hGR : ∀ Q', tpp Tx L 3 0 Q00 = some Q' → GR0 Q' := fun Q' e => by
    rcases b5 with ⟨n, -⟩ | ⟨Q1, e1, e2, -⟩
    · rw [n] at e; cases e
    · rw [e1] at e; cases e; exact e2
  have gz : GB Q QB (fun _ => 0) 0 ic ou := ⟨g1, g2, g.2.2.1, TXT0, g.2.2.2.2⟩
  unfold z_Lw_compile LX
  rw [b1]
  rcases b5 with ⟨n, rfl, q1, q2⟩ | ⟨Q1, e1, e2, b5⟩
  · obtain ⟨v, D, d1, d2, d3, d4⟩ := r_compile (N := N) (by omega) g4 g1 g2 hRB.1 hRB.2.1.1 hRB.2.1.2 hGR
    rw [zbX_r, if_pos rfl]
    rcases d4 with ⟨-, y1, y2, y3, y4, y5⟩ | ⟨Q2, y1, -⟩
    · exact ⟨_, _, _, D, rfl, d1, y1, fun z => absurd z (by decide), co_in gz b2 b3 (hC.co (d1 := c1) (d2 := c2) b2 b4 q1 (k4.fr b2 n9 (q2 9)) (by rw [q2]; exact k9) (by rw [q2]; exact k10)) d2 (fun a j z => by have := qCm_i z; omega) (hRB.co d2 d3 y3 (by rw [y4]; exact hRB.2.2.2.2.2.1) (by rw [y5]; exact hRB.2.2.2.2.2.2)), K0.of b2 (sCo_n (by omega))⟩
    · rw [n] at y1; cases y1
  · rcases b5 with ⟨nl, rfl, q1, q2⟩ | ⟨nl, gq, rfl, q1, q2, q3, q4, q5⟩
    · obtain ⟨v, D, d1, d2, d3, d4⟩ := r_compile (N := N) (by omega) g4 g1 g2 hRB.1 hRB.2.1.1 hRB.2.1.2 hGR
      rw [zbX_r, if_neg (by decide), if_pos rfl]
      rcases d4 with ⟨y1, -⟩ | ⟨Q2, y0, ⟨-, y1, y2, y3, y4, y5⟩ | ⟨y1, -⟩⟩
      · rw [e1] at y1; cases y1
      · exact ⟨_, _, _, D, rfl, d1, y1, fun z => absurd z (by decide), co_in gz b2 b3 (hC.co (d1 := c1) (d2 := c2) b2 b4 q1 (k4.fr b2 n9 (q2 9)) (by rw [q2]; exact k9) (by rw [q2]; exact k10)) d2 (fun a j z => by have := qCm_i z; omega) (hRB.co d2 d3 y3 (by rw [y4]; exact hRB.2.2.2.2.2.1) (by rw [y5]; exact hRB.2.2.2.2.2.2)), K0.of b2 (sCo_n (by omega))⟩
      · rw [e1] at y0; cases y0; exact absurd y1 nl
    · rw [zbX_l, zwl5]
      have hR5 := hRB.w5 (x := zil ((Q1.2.1 3).length : Int))
      obtain ⟨v, D, d1, d2, d3, d4⟩ := r_compile (N := N) (by omega) g4 g1 g2 hR5.1 hR5.2.1.1 hR5.2.1.2 hGR
      rcases d4 with ⟨y1, -⟩ | ⟨Q2, y0, ⟨y1, -⟩ | ⟨-, y1, y2, y3, y4, y5⟩⟩
      · rw [e1] at y1; cases y1
      · rw [e1] at y0; cases y0; exact absurd nl y1
      · rw [e1] at y0
        cases y0
        have gn : GB Q1 Q1 (fun _ => 0) 0 ic ou := ⟨gq, gq, rfl, TXT0, g.2.2.2.2⟩
        have f3 : fr (fun a j => 226 ≤ a ∧ a ≤ 295) B D := (f295.mono (fun a j z => by omega)).trans (d2.mono (fun a j z => by have := qCm_i z; omega))
        exact ⟨_, _, _, D, rfl, d1, y1, fun _ => by rw [y2]; exact v295 d2 (fun a j z => by have := qCm_i z; omega), co_in gn b2 b3 (hC.co b2 b4 q1 (k4.z b2 n9 q2) q3 q4) f3 (fun a j z => z) (hR5.co d2 d3 y3 y4 y5), (K0.of b2 (sCo_n (by omega))).w5⟩
end
