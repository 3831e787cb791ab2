section
variable {N : Nat} {A : zA} {p q : Nat} {X W : List It} {g h T p' : Nat}
theorem r_putIn_run {r24 : Int → Int → Int → zA → Option zA} {n k : Int} {hs : Nat} (hN : 300000 ≤ N) (hp : p < 4) (hq : q < 4) (hpq : q ≠ p) (h6 : 6 ≤ hs) (h66 : hs ≤ 66) (hW : okL T p' h W) (h60 : h ≤ 60) (hl : X.length + W.length ≤ 240) : ∀ (r j f : Nat) (B : zA), j + r = W.length → r < f → RP B (4 + p) (X ++ (W.take j).map (shf ((hs : Int) - 6))) g → RP B (4 + q) W h → ∃ C, z_M_inline_136_l r24 N f p n k hs q j B = z_M_inline_172 r24 N p n k hs q C ∧ RP C (4 + p) (X ++ W.map (shf ((hs : Int) - 6))) g ∧ RP C (4 + q) W h ∧ fr (qRo (4 + p)) B C := by
  intro r
  induction r with
  | zero =>
    intro j f B h1 h2 hx hw
    obtain ⟨u, rfl⟩ : ∃ u, f = u + 1 := ⟨f - 1, by omega⟩
    refine ⟨B, ?_, ?_, hw, fr.refl _ _⟩
    · show z_M_inline_136_b r24 (z_M_inline_136_l r24 N u) N p n k hs q j B = _
      unfold z_M_inline_136_b
      have := hw.1
      rw [z_M_row_e (by omega) (by omega), zbP_s, zrd_ok (by omega) (by omega), show (4 : Int) * 1 + q = ((4 + q : Nat) : Int) by omega, this, if_neg (by omega)]
    · rw [show j = W.length by omega, List.take_length] at hx
      exact hx
  | succ r ih =>
    intro j f B h1 h2 hx hw
    obtain ⟨u, rfl⟩ : ∃ u, f = u + 1 := ⟨f - 1, by omega⟩
    have hj : j < W.length := by omega
    have w1 : zw ((j : Int) + 1) = ((j + 1 : Nat) : Int) := by rw [yb_w (by omega) (by omega)]; omega
    have hlen : (X ++ (W.take j).map (shf ((hs : Int) - 6))).length = X.length + j := by
      rw [List.length_append, List.length_map, List.length_take]
      omega
    obtain ⟨C, c1, c2, c3⟩ := r_shifted (N := N) (b := (hs : Int) - 6) hN hp hq hpq hx hw (by omega) hj (by omega) (hW _ (itm_mem hj)) h60 (by omega) (by omega)
    have st : z_M_inline_136_l r24 N (u + 1) p n k hs q j B = z_M_inline_136_l r24 N u p n k hs q ((j + 1 : Nat) : Int) C := by
      show z_M_inline_136_b r24 (z_M_inline_136_l r24 N u) N p n k hs q j B = _
      unfold z_M_inline_136_b
      have := hw.1
      rw [z_M_row_e (by omega) (by omega), zbP_s, zrd_ok (by omega) (by omega), show (4 : Int) * 1 + q = ((4 + q : Nat) : Int) by omega, this, if_pos (by omega), yb_w (by omega) (by omega), c1, zbV_s, w1]
    obtain ⟨D, d1, d2, d3, d4⟩ := ih (j + 1) u C (by omega) (by omega) (by
      rw [List.take_succ_eq_append_getElem hj, List.map_append, ← itm_get hj, ← List.append_assoc]
      exact c2) (hw.fr (by omega) c3 (fun a e z y => by unfold qRo at z y; omega))
    exact ⟨D, by rw [st, d1], d2, d3, c3.trans d4⟩
end
section
variable {N : Nat} {A : zA} {p : Nat} {Q : Pr} {c0 : Nat}
def qIn (p : Nat) (a j : Nat) : Prop := qRo (4 + p) a j ∨ (a = 226 ∧ j = 33)
theorem r_inl_run (hN : 300000 ≤ N) (hG : GQ Q) (hp : exP Q p) (hc0 : c0 ≤ 1000) : ∀ (r k f : Nat) (B : zA), k + r = (Q.2.1 p).length → r < f → fr (qIn p) A B → RP B p (Q.2.1 p) (Q.2.2 p) → (∀ q, q < Q.1 → q ≠ p → RP B (4 + q) (Q.2.1 q) (Q.2.2 q)) → RP B (4 + p) (inS Q (Q.2.1 p) (Q.2.2 p) k).1 (inS Q (Q.2.1 p) (Q.2.2 p) k).2.1 → zi B 226 33 = ((c0 + (inS Q (Q.2.1 p) (Q.2.2 p) k).2.2 : Nat) : Int) → ∃ C, z_M_inline_24_l N f p ((Q.2.1 p).length : Int) k B = some C ∧ fr (qIn p) A C ∧ RP C (4 + p) (inS Q (Q.2.1 p) (Q.2.2 p) (Q.2.1 p).length).1 (inS Q (Q.2.1 p) (Q.2.2 p) (Q.2.1 p).length).2.1 ∧ zi C 226 33 = ((c0 + (inS Q (Q.2.1 p) (Q.2.2 p) (Q.2.1 p).length).2.2 : Nat) : Int) := by
  have hp3 := exP3 hG.1 hp
  obtain ⟨g7, g60, gl, gok⟩ := hG.1.2 p hp
  have hlen : ∀ k, k ≤ (Q.2.1 p).length → (inS Q (Q.2.1 p) (Q.2.2 p) k).1.length ≤ 150 ∧ (inS Q (Q.2.1 p) (Q.2.2 p) k).2.2 ≤ k := by
    intro k hk
    obtain ⟨-, -, -, i4⟩ := inS_inv (Q := Q) (p := p) (g := Q.2.2 p) (X := Q.2.1 p) hG hp3 gok g7 g60 k hk
    have hW := hG.n
    have h2 := (i4 _ _ hW).2
    have h1 := szL_len (sz := (wnC Q).2) (inS Q (Q.2.1 p) (Q.2.2 p) k).1
    have h3 : szL (wnC Q).2 (Q.2.1 p) ≤ 150 := by
      rcases hp with z | z
      · have := hW.2.2.1 p z; omega
      · rw [z]; exact hW.2.2.2
    have h4 : szL (wnC Q).2 ((Q.2.1 p).take k) ≤ szL (wnC Q).2 (Q.2.1 p) := by
      have := szL_app (sz := (wnC Q).2) ((Q.2.1 p).take k) ((Q.2.1 p).drop k)
      rw [List.take_append_drop] at this
      omega
    refine ⟨by omega, ?_⟩
    clear i4 h1 h2 h3 h4 hW
    induction k with
    | zero => exact Nat.le_refl _
    | succ k ih =>
      have := ih (by omega)
      rw [inS_s (by omega)]
      unfold inl1
      split
      · show _ + 1 ≤ k + 1; omega
      · show (inS Q (Q.2.1 p) (Q.2.2 p) k).2.2 ≤ k + 1; omega
  intro r
  induction r with
  | zero =>
    intro k f B h1 h2 hF hX hq hc h33
    obtain ⟨u, rfl⟩ : ∃ u, f = u + 1 := ⟨f - 1, by omega⟩
    have hkk : k = (Q.2.1 p).length := by omega
    subst hkk
    refine ⟨B, ?_, hF, hc, h33⟩
    show z_M_inline_24_b (z_M_inline_24_l N u) N p ((Q.2.1 p).length : Int) ((Q.2.1 p).length : Int) B = _
    unfold z_M_inline_24_b
    rw [if_neg (by omega)]
  | succ r ih =>
    intro k f B h1 h2 hF hX hq hc h33
    obtain ⟨u, rfl⟩ : ∃ u, f = u + 1 := ⟨f - 1, by omega⟩
    have hk : k < (Q.2.1 p).length := by omega
    have w1 : zw ((k : Int) + 1) = ((k + 1 : Nat) : Int) := by rw [yb_w (by omega) (by omega)]; omega
    obtain ⟨i1, i2, i3, -⟩ := inS_inv (Q := Q) (p := p) (g := Q.2.2 p) (X := Q.2.1 p) hG hp3 gok g7 g60 k (by omega)
    have hlk := hlen k (by omega)
    have hlk1 := hlen (k + 1) (by omega)
    rw [inS_s hk] at hlk1
    have hins := inS_s (Q := Q) (g := Q.2.2 p) hk
    have e4 : (4 : Int) * 1 + p = ((4 + p : Nat) : Int) := by omega
    have hkd := rp_kind (N := N) (z := 0) (p := p) (r := p) (by omega) (by omega) (by omega) hX hk (by omega)
    rw [show ((0 : Nat) : Int) = 0 from rfl] at hkd
    have hreg := hc.2.1
    have st : z_M_inline_24_l N (u + 1) p ((Q.2.1 p).length : Int) k B = z_M_inline_24_b (z_M_inline_24_l N u) N p ((Q.2.1 p).length : Int) k B := rfl
    unfold z_M_inline_24_b at st
    rw [if_pos (by omega), z_M_row_e (by omega) (by omega), zbP_s, zrd_ok (by omega) (by omega), e4, hreg, hkd, zbP_s] at st
    -- the item is kept
    have h95 : ∃ C, z_M_inline_95 (z_M_inline_24_l N u) N p ((Q.2.1 p).length : Int) k B = z_M_inline_24_l N u p ((Q.2.1 p).length : Int) ((k + 1 : Nat) : Int) C ∧ fr (qRo (4 + p)) B C ∧ RP C (4 + p) ((inS Q (Q.2.1 p) (Q.2.2 p) k).1 ++ [itm (Q.2.1 p) k]) (inS Q (Q.2.1 p) (Q.2.2 p) k).2.1 := by
      obtain ⟨C, c1, c2, c3⟩ := RP_keep (N := N) hN (show p < 4 by omega) hc hX (by omega) hk (by omega)
      refine ⟨C, ?_, c3, c2⟩
      unfold z_M_inline_95
      rw [c1, zbV_s, w1]
    -- going on
    have go : ∀ (C : zA), fr (qIn p) B C → RP C (4 + p) (inS Q (Q.2.1 p) (Q.2.2 p) (k + 1)).1 (inS Q (Q.2.1 p) (Q.2.2 p) (k + 1)).2.1 → zi C 226 33 = ((c0 + (inS Q (Q.2.1 p) (Q.2.2 p) (k + 1)).2.2 : Nat) : Int) → ∃ D, z_M_inline_24_l N u p ((Q.2.1 p).length : Int) ((k + 1 : Nat) : Int) C = some D ∧ fr (qIn p) A D ∧ RP D (4 + p) (inS Q (Q.2.1 p) (Q.2.2 p) (Q.2.1 p).length).1 (inS Q (Q.2.1 p) (Q.2.2 p) (Q.2.1 p).length).2.1 ∧ zi D 226 33 = ((c0 + (inS Q (Q.2.1 p) (Q.2.2 p) (Q.2.1 p).length).2.2 : Nat) : Int) := fun C fC cC h33' => ih (k + 1) u C (by omega) (by omega) (hF.trans fC) (hX.fr (by omega) fC (fun a e z y => by unfold qIn qRo at z; unfold qRo at y; omega)) (fun q q1 q2 => by
      have hlq := (hG.1.2 q (Or.inl q1)).2.2.1
      have := hG.1.1
      exact (hq q q1 q2).fr (by omega) fC (fun a e z y => by unfold qIn qRo at z; unfold qRo at y; omega)) cC h33'
    have k0 : ∀ s0 : Int, s0 < 0 → z_M_inline_66 (z_M_inline_24_l N u) N p ((Q.2.1 p).length : Int) k ((inS Q (Q.2.1 p) (Q.2.2 p) k).2.1 : Int) s0 B = z_M_inline_95 (z_M_inline_24_l N u) N p ((Q.2.1 p).length : Int) k B := fun s0 hs0 => by
      unfold z_M_inline_66
      rw [if_pos hs0]
    unfold inl1 at hins hlk1
    by_cases c7 : (itm (Q.2.1 p) k).1 = 7
    · have hn1 := rp_num (N := N) (z := 0) (p := p) (r := p) (i := 1) (by omega) (by omega) (by omega) hX hk (by omega) (by rw [c7]; decide)
      rw [show ((0 : Nat) : Int) = 0 from rfl, show ((1 : Nat) : Int) + 1 = 2 from rfl] at hn1
      have hn1 : z_M_field N 0 p k 2 B = some (ig (itm (Q.2.1 p) k) 2) := hn1
      obtain ⟨o1, o2, o3, o4, o5⟩ := gok _ (itm_mem hk)
      have ot := o5 c7
      have h33t := hG.1.1
      obtain ⟨q, hqq⟩ : ∃ q : Nat, ig (itm (Q.2.1 p) k) 2 = q := ⟨(ig (itm (Q.2.1 p) k) 2).toNat, by omega⟩
      have hqn : (ig (itm (Q.2.1 p) k) 2).toNat = q := by omega
      obtain ⟨q1, q2, q3, q4⟩ := hG.1.2 q (Or.inl (by omega))
      have hcq := hq q (by omega) (by omega)
      have hrq := hcq.2.1
      rw [if_pos c7, hn1, zbP_s, hqq] at st
      rw [st]
      unfold z_M_inline_66
      rw [if_neg (by omega), z_M_row_e (by omega) (by omega), zbP_s, zrd_ok (by omega) (by omega), show (4 : Int) * 1 + q = ((4 + q : Nat) : Int) by omega, hrq, yb_w (by omega) (by omega)]
      rw [hqn] at hins hlk1
      by_cases cf : (inS Q (Q.2.1 p) (Q.2.2 p) k).2.1 + Q.2.2 q ≤ 66
      · rw [if_pos ⟨c7, cf⟩] at hins hlk1
        have hll := hlk1.1
        dsimp only at hll
        rw [List.length_append, List.length_cons, List.length_map] at hll
        rw [if_neg (by omega), zlet_s, h33]
        have f1 : fr (fun a j => a = 226 ∧ j = 33) B (zsi B 226 33 (((c0 + (inS Q (Q.2.1 p) (Q.2.2 p) k).2.2 : Nat) : Int) + 1)) := fr_si ⟨rfl, rfl⟩
        have v33 : zi (zsi B 226 33 (((c0 + (inS Q (Q.2.1 p) (Q.2.2 p) k).2.2 : Nat) : Int) + 1)) 226 33 = ((c0 + ((inS Q (Q.2.1 p) (Q.2.2 p) k).2.2 + 1) : Nat) : Int) := by rw [zi_si_s, yb_w (by omega) (by omega)]; omega
        generalize zsi B 226 33 (((c0 + (inS Q (Q.2.1 p) (Q.2.2 p) k).2.2 : Nat) : Int) + 1) = B1 at *
        have hX1 := hX.fr (by omega) f1 (fun a e z y => by unfold qRo at y; omega)
        have hc1 := hc.fr (by omega) f1 (fun a e z y => by unfold qRo at y; omega)
        have hcq1 := hcq.fr (by omega) f1 (fun a e z y => by unfold qRo at y; omega)
        have hn0 := rp_num (N := N) (z := 0) (p := p) (r := p) (i := 0) (by omega) (by omega) (by omega) hX1 hk (by omega) (by rw [c7]; decide)
        rw [show ((0 : Nat) : Int) = 0 from rfl, show (0 : Int) + 1 = 1 from rfl] at hn0
        have hn0 : z_M_field N 0 p k 1 B1 = some (ig (itm (Q.2.1 p) k) 1) := hn0
        have hr0 := o3 0 (by rw [c7]; decide)
        have hr0 : -2147483648 ≤ ig (itm (Q.2.1 p) k) 1 ∧ ig (itm (Q.2.1 p) k) 1 < 2147483648 ∧ _ := hr0
        obtain ⟨C, c1, c2, c3⟩ := RP_emit (N := N) (x3 := 1) (x4 := ((inS Q (Q.2.1 p) (Q.2.2 p) k).2.1 : Int)) (x5 := ig (itm (Q.2.1 p) k) 1) (x6 := 0) (x7 := 0) (show p < 4 by omega) hc1 (by omega) (by decide) (yb_w (by omega) (by omega)) (yb_w hr0.1 hr0.2.1) (by decide) (by decide)
        rw [hn0, zbP_s, c1, zbV_s]
        have hcq2 := hcq1.fr (by omega) c3 (fun a e z y => by unfold qRo at z y; omega)
        obtain ⟨D, d1, d2, d3, d4⟩ := r_putIn_run (N := N) (r24 := z_M_inline_24_l N u) (n := ((Q.2.1 p).length : Int)) (k := (k : Int)) (hs := (inS Q (Q.2.1 p) (Q.2.2 p) k).2.1) (X := (inS Q (Q.2.1 p) (Q.2.2 p) k).1 ++ [(1, ((inS Q (Q.2.1 p) (Q.2.2 p) k).2.1 : Int), ig (itm (Q.2.1 p) k) 1, 0, 0)]) hN (show p < 4 by omega) (show q < 4 by omega) (by omega) (by omega) (by omega) q4 q2 (by rw [List.length_append]; show _ + 1 + _ ≤ 240; omega) (Q.2.1 q).length 0 N C (by omega) (by omega) (by simpa using c2) hcq2
        unfold z_M_inline_136
        rw [show ((0 : Nat) : Int) = 0 from rfl] at d1
        rw [d1]
        unfold z_M_inline_172
        have hrq3 := d3.2.1
        rw [z_M_row_e (by omega) (by omega), zbP_s, z_M_row_e (by omega) (by omega), zbP_s, zrd_ok (by omega) (by omega), show (4 : Int) * 1 + q = ((4 + q : Nat) : Int) by omega, hrq3, e4, zwr_ok (by omega) (by omega), w1]
        have f5 : fr (fun a j => a = 230 ∧ j = 4 + p) D (rs D 230 ((4 + p : Nat) : Int) (((inS Q (Q.2.1 p) (Q.2.2 p) k).2.1 : Int) + (Q.2.2 q : Int) - 6)) := fr_rs ⟨rfl, by omega⟩
        have v5 : ri (rs D 230 ((4 + p : Nat) : Int) (((inS Q (Q.2.1 p) (Q.2.2 p) k).2.1 : Int) + (Q.2.2 q : Int) - 6)) 230 ((4 + p : Nat) : Int) = (((inS Q (Q.2.1 p) (Q.2.2 p) k).2.1 + Q.2.2 q - 6 : Nat) : Int) := by rw [ri_rs_s, yb_w (by omega) (by omega)]; omega
        generalize rs D 230 ((4 + p : Nat) : Int) (((inS Q (Q.2.1 p) (Q.2.2 p) k).2.1 : Int) + (Q.2.2 q : Int) - 6) = E at *
        have fE : fr (qIn p) B E := (((f1.mono (fun a j z => Or.inr z)).trans (c3.mono (fun a j z => Or.inl z))).trans (d4.mono (fun a j z => Or.inl z))).trans (f5.mono (fun a j z => Or.inl (Or.inr ⟨Or.inr z.1, z.2⟩)))
        refine go E fE ?_ ?_
        · rw [hins]
          have hL : (inS Q (Q.2.1 p) (Q.2.2 p) k).1 ++ (1, ((inS Q (Q.2.1 p) (Q.2.2 p) k).2.1 : Int), ig (itm (Q.2.1 p) k) 1, 0, 0) :: (Q.2.1 q).map (shf (((inS Q (Q.2.1 p) (Q.2.2 p) k).2.1 : Int) - 6)) = (inS Q (Q.2.1 p) (Q.2.2 p) k).1 ++ [(1, ((inS Q (Q.2.1 p) (Q.2.2 p) k).2.1 : Int), ig (itm (Q.2.1 p) k) 1, 0, 0)] ++ (Q.2.1 q).map (shf (((inS Q (Q.2.1 p) (Q.2.2 p) k).2.1 : Int) - 6)) := by simp
          show RP E (4 + p) ((inS Q (Q.2.1 p) (Q.2.2 p) k).1 ++ (1, ((inS Q (Q.2.1 p) (Q.2.2 p) k).2.1 : Int), ig (itm (Q.2.1 p) k) 1, 0, 0) :: (Q.2.1 q).map (shf (((inS Q (Q.2.1 p) (Q.2.2 p) k).2.1 : Int) - 6))) _
          rw [hL]
          obtain ⟨x1, x2, x3⟩ := d2
          exact ⟨by rw [f5.e (fun z => by omega)]; exact x1, v5, fun m hm => ⟨by rw [f5.e (fun z => by omega)]; exact (x3 m hm).1, fun i hi => by rw [f5.e (fun z => by omega)]; exact (x3 m hm).2 i hi⟩⟩
        · rw [f5.i (fun z => by omega), d4.i (fun z => by unfold qRo at z; omega), c3.i (fun z => by unfold qRo at z; omega), v33, hins]
      · rw [if_neg (fun z => cf z.2)] at hins
        rw [if_pos (by omega)]
        obtain ⟨C, c1, c2, c3⟩ := h95
        rw [c1]
        exact go C (c2.mono (fun a j z => Or.inl z)) (by rw [hins]; exact c3) (by rw [hins, c2.i (fun z => by unfold qRo at z; omega)]; exact h33)
    · rw [if_neg c7, k0 _ (by decide)] at st
      rw [if_neg (fun z => c7 z.1)] at hins
      obtain ⟨C, c1, c2, c3⟩ := h95
      rw [st, c1]
      exact go C (c2.mono (fun a j z => Or.inl z)) (by rw [hins]; exact c3) (by rw [hins, c2.i (fun z => by unfold qRo at z; omega)]; exact h33)
theorem r_inline {Qn QB : Pr} (hN : 300000 ≤ N) (hG : GQ Q) (hp : exP Q p) (h : RPG A Qn QB) (hs : RSt A 1 Q) (hT : Qn.1 = Q.1) (h1 : Qn.2.1 p = Q.2.1 p) (h2 : Qn.2.2 p = Q.2.2 p) (hc0 : c0 ≤ 1000) (h33 : zi A 226 33 = c0) : ∃ B, z_M_inline N p A = some B ∧ RSt B 1 (inlQ Q p) ∧ zi B 226 33 = ((c0 + (inS Q (Q.2.1 p) (Q.2.2 p) (Q.2.1 p).length).2.2 : Nat) : Int) ∧ RL B 1 ∧ fr (qIn p) A B := by
  have hp3 := exP3 hG.1 hp
  have hpn : exP Qn p := by unfold exP at *; omega
  have hX := rst_rp h.1 hpn
  rw [h1, h2, show 4 * 0 + p = p by omega] at hX
  have hl := (hG.1.2 p hp).2.2.1
  have hx1 := rst_rp hs hp
  have hxn : ri A 229 p = (Q.2.1 p).length := hX.1
  unfold z_M_inline z_M_inline_24
  rw [z_M_row_e (by omega) (by omega), zbP_s, zrd_ok (by omega) (by omega), show (4 : Int) * 0 + p = p by omega, hxn, z_M_row_e (by omega) (by omega), zbP_s, zwr_ok (by omega) (by omega), show (4 : Int) * 1 + p = ((4 + p : Nat) : Int) by omega]
  have f1 : fr (fun a j => a = 229 ∧ j = 4 + p) A (rs A 229 ((4 + p : Nat) : Int) 0) := fr_rs ⟨rfl, by omega⟩
  have v1 : ri (rs A 229 ((4 + p : Nat) : Int) 0) 229 ((4 + p : Nat) : Int) = 0 := by rw [ri_rs_s]; decide
  generalize rs A 229 ((4 + p : Nat) : Int) 0 = A1 at *
  obtain ⟨C, c1, c2, c3, c4⟩ := r_inl_run (N := N) (A := A) (c0 := c0) hN hG hp hc0 (Q.2.1 p).length 0 N A1 (by omega) (by omega) (f1.mono (fun a j z => Or.inl (Or.inr ⟨Or.inl z.1, z.2⟩))) (hX.fr (by omega) f1 (fun a e z y => by unfold qRo at y; omega)) (fun q q1 q2 => by
    have hlq := (hG.1.2 q (Or.inl q1)).2.2.1
    have := rst_rp hs (Or.inl q1 : exP Q q)
    rw [show 4 * 1 + q = 4 + q by omega] at this
    exact this.fr (by omega) f1 (fun a e z y => by unfold qRo at y; omega)) ⟨v1, by rw [f1.e (fun z => by omega)]; exact hx1.2.1, fun k hk => absurd hk (Nat.not_lt_zero k)⟩ (by rw [f1.i (fun z => by omega), h33]; rfl)
  rw [show ((0 : Nat) : Int) = 0 from rfl] at c1
  refine ⟨C, c1, rst_put hG.1 hs c2 (fun q hq hq4 a j z y => by unfold qIn qRo at z; unfold qRo at y; omega) c3, c4, fun q hq => ?_, c2⟩
  by_cases e : q = p
  · subst e
    have := c3.1
    unfold rn
    rw [show (4 : Int) * ((1 : Nat) : Int) + q = ((4 + q : Nat) : Int) by omega, this]
    have hG' := (inl_ok hG hp).1.2 q hp
    have : (inlQ Q q).2.1 q = (inS Q (Q.2.1 q) (Q.2.2 q) (Q.2.1 q).length).1 := updG_s.1
    rw [this] at hG'
    omega
  · have : rn C (4 * ((1 : Nat) : Int) + q) = rn A (4 * ((1 : Nat) : Int) + q) := c2.e (fun z => by unfold qIn qRo at z; omega)
    rw [this]
    exact h.2.2.2.2.1 q hq
end
