/-! CODE of the reference: the whole -/
def qBd (a j : Nat) : Prop := (a = 226 ∧ (j = 86 ∨ j = 91)) ∨ a = 231 ∨ a = 233 ∨ (287 ≤ a ∧ a ≤ 290)
def qB0 (a j : Nat) : Prop := (a = 226 ∧ j = 91) ∨ a = 231 ∨ a = 233 ∨ a = 289 ∨ a = 290
theorem q0_B {a j : Nat} (h : qB0 a j) : qBd a j := by unfold qB0 at h; unfold qBd; omega
theorem qT_B {a j : Nat} (h : qTl a j) : qBd a j := by unfold qTl at h; unfold qBd; omega
section
variable {N : Nat} {A B : zA} {Q : Pr} {p : Nat}
/-- mates, places and beginning of a part -/
def RDn (Q : Pr) (A : zA) (p : Nat) : Prop := (∀ k : Nat, k < (Q.2.1 p).length → 8 ≤ (itm (Q.2.1 p) k).1 → ri A 231 (240 * p + k) = mtL (Q.2.1 p) k) ∧ (∀ k : Nat, k < (Q.2.1 p).length → ri A 289 (240 * p + k) = adr Q p k) ∧ (p < Q.1 → ri A 290 p = ofP Q p)
def RRw (Q : Pr) (A : zA) : Prop := (∀ p, exP Q p → RP A p (Q.2.1 p) (Q.2.2 p)) ∧ zi A 226 6 = Q.1
theorem RRw.fr (hQ : WO Q) (h : RRw Q A) (f : fr qBd A B) : RRw Q B := ⟨fun p hp => (h.1 p hp).fr (by have := (hQ.2 p hp).2.2.1; omega) f (fun a j z y => by unfold qBd at z; unfold qRo at y; omega), by rw [f.i (fun z => by unfold qBd at z; omega)]; exact h.2⟩
theorem r_letters (hG : GQ Q) (hp : exP Q p) {k : Nat} (hk : k < (Q.2.1 p).length) (hx : RP A p (Q.2.1 p) (Q.2.2 p)) (hm : 8 ≤ (itm (Q.2.1 p) k).1 → ri A 231 (240 * p + k) = mtL (Q.2.1 p) k) : z_M_lettersOf N p k A = some (nlk (Q.2.1 p) k : Int) := by
  have hp3 := exP3 hG.1 hp
  have hl := (hG.1.2 p hp).2.2.1
  have kk : z_M_field N 0 p k 0 A = some (itm (Q.2.1 p) k).1 := rp_kind (z := 0) (by decide) (by omega) (by omega) hx hk (by omega)
  unfold z_M_lettersOf nlk
  rw [kk, zbP_s]
  by_cases c2 : (itm (Q.2.1 p) k).1 = 2
  · rw [if_pos c2, if_pos c2]; rfl
  rw [if_neg c2, if_neg c2]
  by_cases c3 : (itm (Q.2.1 p) k).1 = 3
  · rw [if_pos c3, if_pos (Or.inl c3)]; rfl
  rw [if_neg c3]
  by_cases c4 : (itm (Q.2.1 p) k).1 = 4
  · rw [if_pos c4, if_pos (Or.inr c4)]; rfl
  rw [if_neg c4, if_neg (show ¬ ((itm (Q.2.1 p) k).1 = 3 ∨ (itm (Q.2.1 p) k).1 = 4) by omega)]
  by_cases c10 : (itm (Q.2.1 p) k).1 = 10
  · rw [if_pos c10, if_pos c10]; rfl
  rw [if_neg c10, if_neg c10]
  by_cases c9 : (itm (Q.2.1 p) k).1 = 9
  · rw [if_pos c9, if_pos c9]; rfl
  rw [if_neg c9, if_neg c9]
  by_cases c12 : (itm (Q.2.1 p) k).1 = 12
  · have t := (mt_pt (hG.n.2.1 p hp) hk).2.2.2.2 c12
    rw [if_pos c12, if_pos c12, zrd_ok (by omega) (by omega), hm (by omega)]
    have km : z_M_field N 0 p (mtL (Q.2.1 p) k : Nat) 0 A = some (itm (Q.2.1 p) (mtL (Q.2.1 p) k)).1 := rp_kind (z := 0) (by decide) (by omega) (by omega) hx (by omega) (by omega)
    rw [km, zbP_s]
    split <;> rfl
  · rw [if_neg c12, if_neg c12]; rfl
theorem adr_s {k : Nat} : adr Q p (k + 1) = adr Q p k + nlk (Q.2.1 p) k := by
  unfold adr
  show _ + (adk (Q.2.1 p) k + nlk (Q.2.1 p) k) = _
  omega
def qLy (p : Nat) (a j : Nat) : Prop := (a = 226 ∧ j = 91) ∨ (a = 289 ∧ 240 * p ≤ j ∧ j < 240 * p + 240)
theorem r_lay_run (hG : GQ Q) (hp : exP Q p) : ∀ (r k f : Nat) (A : zA), k + r = (Q.2.1 p).length → r < f → RP A p (Q.2.1 p) (Q.2.2 p) → (∀ k : Nat, k < (Q.2.1 p).length → 8 ≤ (itm (Q.2.1 p) k).1 → ri A 231 (240 * p + k) = mtL (Q.2.1 p) k) → (∀ j : Nat, j < k → ri A 289 (240 * p + j) = adr Q p j) → ∃ B, z_M_layPart_20_l N f p (adr Q p k) k A = some B ∧ (∀ j : Nat, j < (Q.2.1 p).length → ri B 289 (240 * p + j) = adr Q p j) ∧ zi B 226 91 = (adr Q p (Q.2.1 p).length : Int) + 1 ∧ fr (qLy p) A B
  | 0, k, f + 1, A, h1, h2, hx, hm, ha => by
    have hp3 := exP3 hG.1 hp
    have hl := (hG.1.2 p hp).2.2.1
    have hn := hx.1
    have had := adr_le hG.1 hp (show k ≤ 150 by omega)
    unfold z_M_layPart_20_l z_M_layPart_20_b
    rw [z_M_row_e (by omega) (by omega), zbP_s, zrd_ok (by omega) (by omega), show (4 * 0 + (p : Int)) = (p : Int) by omega, hn, if_neg (by omega), zlet_s]
    have e : k = (Q.2.1 p).length := by omega
    refine ⟨_, rfl, fun j hj => by rw [ri_si_o (by decide)]; exact ha j (by omega), by rw [zi_si_s, yb_w (by omega) (by omega), e], fr_si (Or.inl ⟨rfl, rfl⟩)⟩
  | r + 1, k, f + 1, A, h1, h2, hx, hm, ha => by
    have hp3 := exP3 hG.1 hp
    have hl := (hG.1.2 p hp).2.2.1
    have hn := hx.1
    have had := adr_le hG.1 hp (show k ≤ 150 by omega)
    have hnl := nlk_le (Q.2.1 p) k
    unfold z_M_layPart_20_l z_M_layPart_20_b
    rw [z_M_row_e (by omega) (by omega), zbP_s, zrd_ok (by omega) (by omega), show (4 * 0 + (p : Int)) = (p : Int) by omega, hn, if_pos (by omega), zwr_ok (by omega) (by omega)]
    have f1 : fr (qLy p) A (rs A 289 (240 * (p : Int) + k) (adr Q p k : Int)) := fr_rs (Or.inr ⟨rfl, by omega, by omega⟩)
    have hx1 : RP (rs A 289 (240 * (p : Int) + k) (adr Q p k : Int)) p (Q.2.1 p) (Q.2.2 p) := hx.fr (by omega) f1 (fun a j z y => by unfold qLy at z; unfold qRo at y; omega)
    have hm1 : ∀ k' : Nat, k' < (Q.2.1 p).length → 8 ≤ (itm (Q.2.1 p) k').1 → ri (rs A 289 (240 * (p : Int) + k) (adr Q p k : Int)) 231 (240 * p + k') = mtL (Q.2.1 p) k' := fun k' h h8 => by rw [ri_rs_o (by decide)]; exact hm k' h h8
    rw [r_letters hG hp (by omega) hx1 (hm1 k (by omega)), zbP_s, show zw ((k : Int) + 1) = ((k + 1 : Nat) : Int) by rw [yb_w (by omega) (by omega)]; omega, show zw ((adr Q p k : Int) + (nlk (Q.2.1 p) k : Int)) = (adr Q p (k + 1) : Int) by rw [yb_w (by omega) (by omega), adr_s]; omega]
    obtain ⟨B, b1, b2, b3, b4⟩ := r_lay_run hG hp r (k + 1) f _ (by omega) (by omega) hx1 hm1 (fun j hj => by
      rw [ri_rs (by omega) (by omega)]
      by_cases e : j = k
      · rw [if_pos (by omega), e]
        exact yb_w (by omega) (by omega)
      · rw [if_neg (by omega)]
        exact ha j (by omega))
    exact ⟨B, b1, b2, b3, f1.trans b4⟩
/-- one part is laid -/
theorem r_b28 {r12 : Int → zA → Option zA} {x1 : Int} (hN : 300000 ≤ N) (hG : GQ Q) (hp : exP Q p) (hR : RRw Q A) (h91 : zi A 226 91 = if p = 3 then 0 else (ofP Q p : Int)) : ∃ B, z_M_build_28 r12 N x1 p A = r12 (zw (x1 + 1)) B ∧ RDn Q B p ∧ zi B 226 91 = (adr Q p (Q.2.1 p).length : Int) + 1 ∧ fr (fun a j => (a = 226 ∧ j = 91) ∨ a = 233 ∨ ((a = 231 ∨ a = 289) ∧ 240 * p ≤ j ∧ j < 240 * p + 240) ∨ (a = 290 ∧ j = p)) A B := by
  have hp3 := exP3 hG.1 hp
  have hl := (hG.1.2 p hp).2.2.1
  have hx := hR.1 p hp
  unfold z_M_build_28
  rw [r_isThere (Q := Q) hR.2, zbP_s, if_pos (show p < Q.1 ∨ p = 3 from hp), if_neg (by decide)]
  obtain ⟨C, c1, c2, c3⟩ := r_matchL (N := N) (z := 0) (p := p) (r := p) hN (by decide) (by omega) (by omega) hx (by omega) (hG.n.2.1 p hp)
  have c1 : z_M_match N 0 p A = some C := c1
  rw [c1, zbV_s, zwr_ok (by omega) (by omega)]
  have e91 : zi C 226 91 = if p = 3 then 0 else (ofP Q p : Int) := by rw [c3.i (fun z => by omega)]; exact h91
  have f4 : fr (fun a j => a = 290 ∧ j = p) C (rs C 290 (p : Int) (zi C 226 91)) := fr_rs ⟨rfl, by omega⟩
  have hof : p ≠ 3 → ofP Q p ≤ 2000 := fun q => by
    have hq : p < Q.1 := by unfold exP at hp; omega
    have := ofP_le hG.1 p (by omega)
    have := hG.1.1
    omega
  have v4 : ri (rs C 290 (p : Int) (zi C 226 91)) 290 (p : Int) = if p = 3 then 0 else (ofP Q p : Int) := by
    rw [ri_rs_s, e91]
    split
    · decide
    · next c => have := hof c; exact yb_w (by omega) (by omega)
  have hxC : RP (rs C 290 (p : Int) (zi C 226 91)) p (Q.2.1 p) (Q.2.2 p) := (hx.fr (by omega) c3 (fun a j z y => by unfold qRo at y; omega)).fr (by omega) f4 (fun a j z y => by rw [z.1] at y; exact nqRo (by omega) y)
  have hmC : ∀ k : Nat, k < (Q.2.1 p).length → 8 ≤ (itm (Q.2.1 p) k).1 → ri (rs C 290 (p : Int) (zi C 226 91)) 231 (240 * p + k) = mtL (Q.2.1 p) k := fun k hk k8 => by rw [ri_rs_o (by decide)]; exact c2 k hk k8
  generalize rs C 290 (p : Int) (zi C 226 91) = D at *
  have lay : z_M_layPart N p D = z_M_layPart_20_l N N p (adr Q p 0) 0 D := by
    unfold z_M_layPart z_M_layPart_20
    rw [zrd_ok (by omega) (by omega), v4]
    unfold adr
    by_cases c : p = 3
    · rw [if_pos (by omega), if_pos c, if_pos c]
      rfl
    · have := hof c
      rw [if_neg (by omega), if_neg c, if_neg c, yb_w (by omega) (by omega)]
      rfl
  obtain ⟨B, b1, b2, b3, b4⟩ := r_lay_run (N := N) hG hp (Q.2.1 p).length 0 N D (by omega) (by omega) hxC hmC (fun j hj => absurd hj (Nat.not_lt_zero j))
  rw [lay]
  have b1 : z_M_layPart_20_l N N p (adr Q p 0) 0 D = some B := b1
  rw [b1, zbV_s]
  refine ⟨B, rfl, ⟨fun k hk k8 => by rw [b4.e (fun z => by unfold qLy at z; omega)]; exact hmC k hk k8, b2, fun hq => ?_⟩, b3, ((c3.mono (fun a j z => by omega)).trans (f4.mono (fun a j z => by omega))).trans (b4.mono (fun a j z => by unfold qLy at z; omega))⟩
  rw [b4.e (fun z => by unfold qLy at z; omega), v4, if_neg (by have := hG.1.1; omega)]
theorem RDn.fr {q : Nat} (hG : GQ Q) (hq : exP Q q) (hne : q ≠ p) (h : RDn Q A q) (f : fr (fun a j => (a = 226 ∧ j = 91) ∨ a = 233 ∨ ((a = 231 ∨ a = 289) ∧ 240 * p ≤ j ∧ j < 240 * p + 240) ∨ (a = 290 ∧ j = p)) A B) : RDn Q B q := by
  have hl := (hG.1.2 q hq).2.2.1
  exact ⟨fun k hk k8 => by rw [f.e (fun z => by omega)]; exact h.1 k hk k8, fun k hk => by rw [f.e (fun z => by omega)]; exact h.2.1 k hk, fun hq' => by rw [f.e (fun z => by omega)]; exact h.2.2 hq'⟩
theorem qD_B {p a j : Nat} (h : (a = 226 ∧ j = 91) ∨ a = 233 ∨ ((a = 231 ∨ a = 289) ∧ 240 * p ≤ j ∧ j < 240 * p + 240) ∨ (a = 290 ∧ j = p)) : qB0 a j := by unfold qB0; omega
theorem r_b12 (hN : 300000 ≤ N) (hG : GQ Q) : ∀ (r i f : Nat) (A : zA), i + r = 3 → r + 1 < f → RRw Q A → RDn Q A 3 → (∀ q, q < i → q < Q.1 → RDn Q A q) → zi A 226 91 = (ofP Q (min i Q.1) : Int) → ∃ B, z_M_build_12_l N f ((i : Int) + 1) A = z_M_build_69 N 0 B ∧ RRw Q B ∧ (∀ p, exP Q p → RDn Q B p) ∧ fr qB0 A B
  | 0, i, f + 1, A, h1, h2, hR, h3, hd, h91 => by
    unfold z_M_build_12_l z_M_build_12_b
    rw [if_neg (by omega)]
    have := hG.1.1
    exact ⟨A, rfl, hR, fun p hp => by
      by_cases e : p = 3
      · rw [e]; exact h3
      · exact hd p (by unfold exP at hp; omega) (by unfold exP at hp; omega), fr.refl _ _⟩
  | r + 1, i, f + 1, A, h1, h2, hR, h3, hd, h91 => by
    unfold z_M_build_12_l z_M_build_12_b
    rw [if_pos (by omega), if_neg (by omega), show zw ((i : Int) + 1 - 1) = (i : Int) by rw [yb_w (by omega) (by omega)]; omega]
    have wi : zw ((i : Int) + 1 + 1) = ((i + 1 : Nat) : Int) + 1 := by rw [yb_w (by omega) (by omega)]; omega
    by_cases c : i < Q.1
    · have hp : exP Q i := Or.inl c
      obtain ⟨B, b1, b2, b3, b4⟩ := r_b28 (N := N) (p := i) (r12 := z_M_build_12_l N f) (x1 := (i : Int) + 1) hN hG hp hR (by rw [h91, if_neg (by omega), Nat.min_eq_left (by omega)])
      rw [b1, wi]
      have fB : fr qB0 A B := b4.mono (fun a j z => qD_B z)
      obtain ⟨C, c1, c2, c3, c4⟩ := r_b12 hN hG r (i + 1) f B (by omega) (by omega) (hR.fr hG.1 (fB.mono (fun a j z => q0_B z))) (h3.fr hG (Or.inr rfl) (by omega) b4) (fun q hq hq' => by
        by_cases e : q = i
        · rw [e]; exact b2
        · exact (hd q (by omega) hq').fr hG (Or.inl hq') e b4) (by
        rw [b3, Nat.min_eq_left (show i + 1 ≤ Q.1 by omega)]
        unfold adr
        rw [if_neg (by omega)]
        show ((ofP Q i + 1 + adk (Q.2.1 i) (Q.2.1 i).length : Nat) : Int) + 1 = ((ofP Q i + adk (Q.2.1 i) (Q.2.1 i).length + 2 : Nat) : Int)
        omega)
      exact ⟨C, c1, c2, c3, fB.trans c4⟩
    · unfold z_M_build_28
      rw [r_isThere (Q := Q) hR.2, zbP_s, if_neg (show ¬ (i < Q.1 ∨ i = 3) by omega), if_pos rfl, wi]
      exact r_b12 hN hG r (i + 1) f A (by omega) (by omega) hR h3 (fun q hq hq' => hd q (by omega) hq') (by rw [h91, Nat.min_eq_right (by omega), Nat.min_eq_right (by omega)])
/-- the letters of one part -/
theorem r_b111 {r69 : Int → zA → Option zA} {x1 : Int} {l : List (Int × Int)} (hG : GQ Q) (hp : exP Q p) (hl : l.length ≤ 1810) : ∀ (r k f : Nat) (A : zA), k + r = (Q.2.1 p).length → r < f → RLy Q A → RCd A (l ++ pcd Q p k) → ∃ B, z_M_build_111_l r69 N f x1 p k A = r69 (zw (x1 + 1)) B ∧ RLy Q B ∧ RCd B (l ++ (pcd Q p (Q.2.1 p).length ++ [((if p = 3 then 17 else 16), 0)])) ∧ fr qTl A B
  | 0, k, f + 1, A, h1, h2, hL, hC => by
    have hp3 := exP3 hG.1 hp
    have hn := (hL.1 p hp).1.1
    have hlen := (hG.1.2 p hp).2.2.1
    have e : k = (Q.2.1 p).length := by omega
    have hpl := pcd_len hG.1 hp k (by omega)
    have had := adk_le (Q.2.1 p) k
    unfold z_M_build_111_l z_M_build_111_b z_M_build_150
    rw [z_M_row_e (by omega) (by omega), zbP_s, zrd_ok (by omega) (by omega), show (4 * 0 + (p : Int)) = (p : Int) by omega, hn, if_neg (by omega)]
    obtain ⟨B, b1, b2, b3⟩ := r_tell (N := N) (x := if p = 3 then 17 else 16) (y := 0) hC (by rw [List.length_append]; omega) (by split <;> decide) (by decide)
    have st : (if (p : Int) = 3 then zbV (z_M_tell N 17 0 A) fun A1 => r69 (zw (x1 + 1)) A1 else zbV (z_M_tell N 16 0 A) fun A1 => r69 (zw (x1 + 1)) A1) = r69 (zw (x1 + 1)) B := by
      by_cases c : p = 3
      · rw [if_pos c] at b1
        rw [if_pos (by omega), b1, zbV_s]
      · rw [if_neg c] at b1
        rw [if_neg (by omega), b1, zbV_s]
    rw [st]
    refine ⟨B, rfl, hL.fr hG.1 b3, ?_, b3⟩
    rw [List.append_assoc, e] at b2
    exact b2
  | r + 1, k, f + 1, A, h1, h2, hL, hC => by
    have hp3 := exP3 hG.1 hp
    have hn := (hL.1 p hp).1.1
    have hlen := (hG.1.2 p hp).2.2.1
    have hpl := pcd_len hG.1 hp k (by omega)
    have had := adk_le (Q.2.1 p) k
    unfold z_M_build_111_l z_M_build_111_b
    rw [z_M_row_e (by omega) (by omega), zbP_s, zrd_ok (by omega) (by omega), show (4 * 0 + (p : Int)) = (p : Int) by omega, hn, if_pos (by omega)]
    obtain ⟨B, b1, b2, b3⟩ := r_itemCode (N := N) hG hp (show k < (Q.2.1 p).length by omega) hL hC (by rw [List.length_append]; omega)
    rw [b1, zbV_s, show zw ((k : Int) + 1) = ((k + 1 : Nat) : Int) by rw [yb_w (by omega) (by omega)]; omega]
    rw [List.append_assoc] at b2
    obtain ⟨C, c1, c2, c3, c4⟩ := r_b111 hG hp hl r (k + 1) f B (by omega) (by omega) (hL.fr hG.1 b3) b2
    exact ⟨C, c1, c2, c3, b3.trans c4⟩
theorem r_b69 (hN : 300000 ≤ N) (hG : GQ Q) : ∀ (r i f : Nat) (A : zA), i + r = 3 → r + 1 < f → RLy Q A → RCd A (cdq Q (min i Q.1)) → ∃ B, z_M_build_69_l N f ((i : Int) + 1) A = some B ∧ RCd B (cod Q) ∧ fr qTl A B
  | 0, i, f + 1, A, h1, h2, hL, hC => by
    unfold z_M_build_69_l z_M_build_69_b
    rw [if_neg (by omega)]
    have := hG.1.1
    rw [Nat.min_eq_right (by omega)] at hC
    exact ⟨A, rfl, hC, fr.refl _ _⟩
  | r + 1, i, f + 1, A, h1, h2, hL, hC => by
    have h3 := hG.1.1
    unfold z_M_build_69_l z_M_build_69_b
    rw [if_pos (by omega), if_neg (by omega), show zw ((i : Int) + 1 - 1) = (i : Int) by rw [yb_w (by omega) (by omega)]; omega]
    have wi : zw ((i : Int) + 1 + 1) = ((i + 1 : Nat) : Int) + 1 := by rw [yb_w (by omega) (by omega)]; omega
    unfold z_M_build_85
    rw [r_isThere (Q := Q) hL.2.2, zbP_s]
    by_cases c : i < Q.1
    · have hp : exP Q i := Or.inl c
      have hlq := cdq_len hG.1 i (by omega)
      have hof := ofP_le hG.1 i (by omega)
      rw [Nat.min_eq_left (by omega)] at hC
      rw [if_pos (Or.inl c), if_neg (by decide), if_neg (by omega)]
      obtain ⟨B, b1, b2, b3⟩ := r_tell (N := N) (x := 2) (y := 6) hC (by omega) (by decide) (by decide)
      rw [b1, zbV_s]
      have hlen := (hG.1.2 i hp).2.2.1
      obtain ⟨C, c1, c2, c3, c4⟩ := r_b111 (N := N) (r69 := z_M_build_69_l N f) (x1 := (i : Int) + 1) (l := cdq Q i ++ [(2, 6)]) hG hp (by rw [List.length_append]; simp only [List.length_cons, List.length_nil]; omega) (Q.2.1 i).length 0 N B (by omega) (by omega) (hL.fr hG.1 b3) (by
        show RCd B (cdq Q i ++ [(2, 6)] ++ [])
        rw [List.append_nil]; exact b2)
      have c1 : z_M_build_111 (z_M_build_69_l N f) N ((i : Int) + 1) i 0 B = z_M_build_69_l N f (zw ((i : Int) + 1 + 1)) C := c1
      rw [c1, wi]
      rw [if_neg (show ¬ i = 3 by omega), List.append_assoc] at c3
      obtain ⟨D, d1, d2, d3⟩ := r_b69 hN hG r (i + 1) f C (by omega) (by omega) c2 (by
        rw [Nat.min_eq_left (show i + 1 ≤ Q.1 by omega)]
        exact c3)
      exact ⟨D, d1, d2, (b3.trans c4).trans d3⟩
    · rw [if_neg (show ¬ (i < Q.1 ∨ i = 3) by omega), if_pos rfl, wi]
      exact r_b69 hN hG r (i + 1) f A (by omega) (by omega) hL (by
        rw [Nat.min_eq_right (by omega)] at hC ⊢
        exact hC)
/-- the reference's code -/
theorem r_build (hN : 300000 ≤ N) (hG : GQ Q) (h0 : RSt A 0 Q) (h6 : zi A 226 6 = Q.1) : ∃ B, z_M_build N A = some B ∧ RCd B (cod Q) ∧ fr qBd A B := by
  unfold z_M_build z_M_build_12
  rw [zlet_s, zlet_s]
  have f0 : fr qBd A (zsi (zsi A 226 86 0) 226 91 0) := (fr_si (Or.inl ⟨rfl, by omega⟩)).trans (fr_si (Or.inl ⟨rfl, by omega⟩))
  have e86 : zi (zsi (zsi A 226 86 0) 226 91 0) 226 86 = 0 := by rw [zi_si_j (by decide), zi_si_s]; decide
  have e91 : zi (zsi (zsi A 226 86 0) 226 91 0) 226 91 = 0 := by rw [zi_si_s]; decide
  have hR0 : RRw Q A := ⟨fun p hp => by
    have := rst_rp h0 hp
    rw [show 4 * 0 + p = p by omega] at this
    exact this, h6⟩
  have hR := hR0.fr hG.1 f0
  generalize zsi (zsi A 226 86 0) 226 91 0 = A1 at *
  obtain ⟨N', rfl⟩ : ∃ n, N = n + 1 := ⟨N - 1, by omega⟩
  obtain ⟨B, b1, b2, b3, b4⟩ := r_b28 (N := N' + 1) (p := 3) (r12 := z_M_build_12_l (N' + 1) N') (x1 := 0) hN hG (Or.inr rfl) hR (by rw [if_pos rfl]; exact e91)
  have b1 : z_M_build_28 (z_M_build_12_l (N' + 1) N') (N' + 1) 0 3 A1 = z_M_build_12_l (N' + 1) N' (zw (0 + 1)) B := b1
  have st : z_M_build_12_l (N' + 1) (N' + 1) 0 A1 = z_M_build_12_l (N' + 1) N' (((0 : Nat) : Int) + 1) B := by
    show z_M_build_12_b (z_M_build_12_l (N' + 1) N') (N' + 1) 0 A1 = _
    unfold z_M_build_12_b
    rw [if_pos (by decide), if_pos rfl, b1]
    rfl
  rw [st]
  have fB : fr qB0 A1 B := b4.mono (fun a j z => qD_B z)
  have e86B : zi B 226 86 = 0 := by rw [b4.i (fun z => by omega)]; exact e86
  obtain ⟨C, c1, c2, c3, c4⟩ := r_b12 (N := N' + 1) hN hG 3 0 N' B (by omega) (by omega) (hR.fr hG.1 (fB.mono (fun a j z => q0_B z))) b2 (fun q hq => absurd hq (Nat.not_lt_zero q)) (by
    rw [b3, Nat.min_eq_left (Nat.zero_le _)]
    unfold adr
    rw [if_pos rfl, Nat.zero_add]
    rfl)
  rw [c1]
  have hL : RLy Q C := ⟨fun p hp => ⟨c2.1 p hp, (c3 p hp).1, (c3 p hp).2.1⟩, fun q hq => (c3 q (Or.inl hq)).2.2 hq, c2.2⟩
  have e86C : zi C 226 86 = 0 := by rw [c4.i (fun z => by unfold qB0 at z; omega)]; exact e86B
  have hC0 : RCd C [] := ⟨e86C, fun i hi => absurd hi (Nat.not_lt_zero i)⟩
  have hlen := (hG.1.2 3 (Or.inr rfl)).2.2.1
  obtain ⟨D, d1, d2, d3, d4⟩ := r_b111 (N := N' + 1) (p := 3) (r69 := z_M_build_69_l (N' + 1) N') (x1 := 0) (l := []) hG (Or.inr rfl) (by decide) (Q.2.1 3).length 0 (N' + 1) C (by omega) (by omega) hL hC0
  have d1 : z_M_build_111 (z_M_build_69_l (N' + 1) N') (N' + 1) 0 3 0 C = z_M_build_69_l (N' + 1) N' (((0 : Nat) : Int) + 1) D := d1
  have st2 : z_M_build_69 (N' + 1) 0 C = z_M_build_69_l (N' + 1) N' (((0 : Nat) : Int) + 1) D := by
    show z_M_build_69_b (z_M_build_69_l (N' + 1) N') (N' + 1) 0 C = _
    unfold z_M_build_69_b z_M_build_85
    rw [if_pos (by decide), if_pos rfl]
    have ht : z_M_isThere (N' + 1) 3 C = some 1 := by
      have := r_isThere (N := N' + 1) (Q := Q) (p := 3) hL.2.2
      rw [if_pos (Or.inr rfl)] at this
      exact this
    rw [ht, zbP_s, if_neg (by decide), if_pos rfl, d1]
  rw [st2]
  obtain ⟨E, e1, e2, e3⟩ := r_b69 (N := N' + 1) hN hG 3 0 N' D (by omega) (by omega) d2 (by
    rw [Nat.min_eq_left (Nat.zero_le _)]
    exact d3)
  exact ⟨E, e1, e2, (((f0.trans (fB.mono (fun a j z => q0_B z))).trans (c4.mono (fun a j z => q0_B z))).trans (d4.mono (fun a j z => qT_B z))).trans (e3.mono (fun a j z => qT_B z))⟩
/-- what code answers -/
def mayC (Q : Pr) (x1 x2 : Int) : Prop := 0 ≤ x1 ∧ x1 < (cod Q).length ∧ 0 ≤ x2 ∧ x2 ≤ 1
noncomputable def codA (Q : Pr) (x1 x2 : Int) : Int := if x2 = 0 then (cdA (cod Q) x1.toNat).1 else (cdA (cod Q) x1.toNat).2
def qCo' (a j : Nat) : Prop := qBd a j ∨ (a = 226 ∧ j = 0)
theorem r_code {x1 x2 : Int} (hN : 300000 ≤ N) (hG : GQ Q) (h0 : RSt A 0 Q) (h6 : zi A 226 6 = Q.1) : (¬ mayC Q x1 x2 → ∃ B, z_M_code N x1 x2 A = some (0, B) ∧ zi B 226 0 = 1 ∧ fr qCo' A B) ∧ (mayC Q x1 x2 → ∃ B, z_M_code N x1 x2 A = some (codA Q x1 x2, B) ∧ zi B 226 0 = 0 ∧ fr qCo' A B) := by
  have hlen := cod_len hG.1
  unfold z_M_code
  rw [zlet_s]
  have f0 : fr (fun a j => a = 226 ∧ j = 0) A (zsi A 226 0 0) := fr_si ⟨rfl, rfl⟩
  have v0 : zi (zsi A 226 0 0) 226 0 = 0 := by rw [zi_si_s]; decide
  have h0' : RSt (zsi A 226 0 0) 0 Q := h0.fr f0 (fun a j z => by omega)
  have h6' : zi (zsi A 226 0 0) 226 6 = Q.1 := by rw [zi_si_j (by decide)]; exact h6
  generalize zsi A 226 0 0 = A1 at *
  obtain ⟨B, b1, b2, b3⟩ := r_build (N := N) hN hG h0' h6'
  rw [b1, zbV_s]
  have vB : zi B 226 0 = 0 := by rw [b3.i (fun z => by unfold qBd at z; omega)]; exact v0
  have fB : fr qCo' A B := (f0.mono (fun a j z => Or.inr z)).trans (b3.mono (fun a j z => Or.inl z))
  have bad : ∃ C, z_M_code_30 N B = some (0, C) ∧ zi C 226 0 = 1 ∧ fr qCo' A C := by
    unfold z_M_code_30 z_M_fail
    rw [zlet_s, zbI_s]
    exact ⟨_, rfl, by rw [zi_si_s]; decide, fB.trans (fr_si (Or.inr ⟨rfl, rfl⟩))⟩
  rw [b2.1]
  by_cases c1 : x1 < 0
  · rw [if_pos c1]
    exact ⟨fun _ => bad, fun z => absurd z.1 (by omega)⟩
  rw [if_neg c1]
  by_cases c2 : x1 < ((cod Q).length : Int)
  · rw [if_pos c2]
    by_cases c3 : x2 < 0
    · rw [if_pos c3]
      exact ⟨fun _ => bad, fun z => absurd z.2.2.1 (by omega)⟩
    rw [if_neg c3]
    by_cases c4 : 1 < x2
    · rw [if_pos c4]
      exact ⟨fun _ => bad, fun z => absurd z.2.2.2 (by omega)⟩
    rw [if_neg c4]
    have rd := b2.2 x1.toNat (by omega)
    rw [show ((x1.toNat : Nat) : Int) = x1 by omega] at rd
    refine ⟨fun z => absurd (show mayC Q x1 x2 from ⟨by omega, c2, by omega, by omega⟩) z, fun _ => ⟨B, ?_, vB, fB⟩⟩
    unfold codA
    by_cases c5 : x2 = 0
    · rw [if_pos c5, if_pos c5, zrd_ok (by omega) (by omega), rd.1]
    · rw [if_neg c5, if_neg c5, zrd_ok (by omega) (by omega), rd.2]
  · rw [if_neg c2]
    exact ⟨fun _ => bad, fun z => absurd z.2.1 c2⟩
end
