/-! COMPILE of the reference -/
def qCm (a j : Nat) : Prop := (a = 226 ∧ (j ≤ 1 ∨ (6 ≤ j ∧ j ≤ 8) ∨ (13 ≤ j ∧ j ≤ 21))) ∨ (228 ≤ a ∧ a ≤ 238 ∧ a ≠ 232)
theorem qP_C {a j : Nat} (h : qPs a j) : qCm a j := by
  unfold qPs at h
  unfold qCm
  rcases h with h | h | h | h | ⟨p, hp, h⟩
  · exact Or.inl ⟨h.1, by omega⟩
  · exact Or.inr (by omega)
  · exact Or.inr (by omega)
  · exact Or.inr (by omega)
  · unfold qRo at h
    exact Or.inr (by omega)
theorem qP_ed {a j : Nat} (h : qPs a j) : (a = 228 → 4800 ≤ j ∧ j < 9600) ∧ (a = 229 ∨ a = 230 → 4 ≤ j ∧ j < 8) ∧ (a = 226 → j ≠ 6) := by
  unfold qPs at h
  rcases h with h | h | h | h | ⟨p, hp, h⟩
  · omega
  · omega
  · omega
  · omega
  · unfold qRo at h
    omega
theorem WQ_cle {Q : Pr} (h : WQ Q) {p j : Nat} (hp : p < 4) (hc : cle (Q.2.1 p) j) : j < p ∧ j < 3 := by
  obtain ⟨h3, ⟨hq, he⟩, m1, m2, m3⟩ := h
  obtain ⟨i, hi, k7, rfl⟩ := hc
  by_cases e : p = 3
  · subst e
    have := (m3 i hi).2.2.2.2.2 k7
    omega
  · by_cases c : p < Q.1
    · have := ((hq p c).2.2 i hi).2.2.2.2.2 k7
      omega
    · rw [(he p (by omega) (by omega)).1] at hi
      cases hi
section
variable {N : Nat} {Tx : Nat → Int} {L : Nat} {A : zA} {Q QB : Pr}
/-- sizes and depths, part by part -/
theorem r_lim_run {V : zA → Prop} (hN : 300000 ≤ N) (hG : GR0 Q) : ∀ (r p f : Nat) (A : zA), p + r = 4 → r < f → zi A 226 15 = Q.1 → (∀ q, q < 4 → RP A (4 + q) (Q.2.1 q) (Q.2.2 q)) → (∀ j : Nat, j < p → ri A 237 j = szI Q p j) → (∀ j : Nat, j < p → ri A 238 j = wdI Q p j) → ∃ B, z_M_compile_31_l N f (cif (∀ q, q < p → okP Q q) 1 0) p A = z_M_compile_149 N (cif (limQ Q) 1 0) B ∧ fr (fun a _ => a = 233 ∨ a = 237 ∨ a = 238) A B
  | 0, p, f + 1, A, h1, h2, h15, hx, v1, v2 => by
    have h4 : p = 4 := by omega
    subst h4
    unfold z_M_compile_31_l z_M_compile_31_b
    rw [if_neg (by decide)]
    exact ⟨A, rfl, fr.refl _ _⟩
  | r + 1, p, f + 1, A, h1, h2, h15, hx, v1, v2 => by
    have hp : p < 4 := by omega
    have h3 := hG.1.1
    have e4 : ((4 + p : Nat) : Int) = 4 * 1 + (p : Int) := by omega
    have wp : zw ((p : Int) + 1) = ((p + 1 : Nat) : Int) := by rw [yb_w (by omega) (by omega)]; omega
    have nx : ∀ q, q < p + 1 → (q < p ∨ q = p) := fun q hq => by omega
    obtain ⟨⟨nd, n, hb⟩, hcal⟩ := hG.b hp
    have hl := hG.2 p hp
    have n7 : ∀ a j, (a = 233 ∨ a = 237 ∨ a = 238) → ∀ q, ¬ qRo (4 + q) a j := fun a j ha q => nqRo (by omega)
    -- the last piece: what was found is looked at
    have last : ∀ (z d : Int) (A2 : zA), fr (fun a _ => a = 233 ∨ a = 237) A A2 → zw z = z → zw d = d → ri A2 237 (p : Int) = z → (∀ j : Nat, j < p → ri A2 237 j = szI Q p j) → z = szI Q (p + 1) p → d = wdI Q (p + 1) p → (¬ exP Q p → z = 0 ∧ d = 0) → ∃ B, z_M_compile_95 (z_M_compile_31_l N f) N (cif (∀ q, q < p → okP Q q) 1 0) p p d A2 = z_M_compile_149 N (cif (limQ Q) 1 0) B ∧ fr (fun a _ => a = 233 ∨ a = 237 ∨ a = 238) A B := fun z d A2 f2 wz wd ez ej hz hd hno => by
      unfold z_M_compile_95
      rw [zwr_ok (by omega) (by omega)]
      have f3 : fr (fun a _ => a = 238) A2 (rs A2 238 (p : Int) d) := fr_rs rfl
      have f23 : fr (fun a _ => a = 233 ∨ a = 237 ∨ a = 238) A (rs A2 238 (p : Int) d) := (f2.mono (fun a j y => by omega)).trans (f3.mono (fun a j y => by omega))
      have d1 : ri (rs A2 238 (p : Int) d) 238 (p : Int) = d := by rw [ri_rs_s, wd]
      have d2 : ri (rs A2 238 (p : Int) d) 237 (p : Int) = z := by rw [ri_rs_o (by decide)]; exact ez
      have s1 : ∀ j : Nat, j < p + 1 → ri (rs A2 238 (p : Int) d) 237 j = szI Q (p + 1) j := fun j hj => by
        by_cases e : j = p
        · rw [e, d2, hz]
        · rw [ri_rs_o (by decide), ej j (by omega)]
          exact (if_neg (fun y => e y.1)).symm
      have s2 : ∀ j : Nat, j < p + 1 → ri (rs A2 238 (p : Int) d) 238 j = wdI Q (p + 1) j := fun j hj => by
        by_cases e : j = p
        · rw [e, d1, hd]
        · rw [ri_rs_n (by omega) (by omega) (by omega), f2.e (fun y => by omega), v2 j (by omega)]
          exact (if_neg (fun y => e y.1)).symm
      have hxB : ∀ q, q < 4 → RP (rs A2 238 (p : Int) d) (4 + q) (Q.2.1 q) (Q.2.2 q) := fun q hq => (hx q hq).fr (hG.2 q hq) f23 (fun a j y => n7 a j y q)
      have h15B : zi (rs A2 238 (p : Int) d) 226 15 = Q.1 := by rw [f23.i (fun y => by omega)]; exact h15
      have hr30 := (hxB p hp).2.1
      rw [e4] at hr30
      generalize rs A2 238 (p : Int) d = A3 at *
      obtain ⟨B, b1, b2⟩ := r_lim_run (V := V) hN hG r (p + 1) f A3 (by omega) (by omega) h15B hxB s1 s2
      have fin : ∀ v : Int, v = cif (∀ q, q < p + 1 → okP Q q) 1 0 → ∃ B, z_M_compile_31_l N f v (zw ((p : Int) + 1)) A3 = z_M_compile_149 N (cif (limQ Q) 1 0) B ∧ fr (fun a _ => a = 233 ∨ a = 237 ∨ a = 238) A B := fun v hv => by
        rw [hv, wp]
        exact ⟨B, b1, f23.trans b2⟩
      by_cases c0 : ∀ q, q < p → okP Q q
      · rw [cif_pos c0, if_neg (by decide), zrd_ok (by omega) (by omega), d1]
        have bad : ¬ okP Q p → (0 : Int) = cif (∀ q, q < p + 1 → okP Q q) 1 0 := fun y => by rw [cif_neg (fun x => y (x p (by omega)))]
        have ex : d > 3 ∨ z > 150 ∨ (Q.2.2 p : Int) > 60 → exP Q p := fun y => by
          rcases Decidable.em (p < Q.1 ∨ p = 3) with q | q
          · exact q
          · have h0 := hno q
            have e2 := (hG.1.2.1.2 p (by omega) (by omega)).2
            omega
        by_cases c3 : 3 < d
        · rw [if_pos c3]
          exact fin 0 (bad (fun y => by have := (y (ex (by omega))).2.2; omega))
        · rw [if_neg c3, zrd_ok (by omega) (by omega), d2]
          by_cases c150 : 150 < z
          · rw [if_pos c150]
            exact fin 0 (bad (fun y => by have := (y (ex (by omega))).2.1; omega))
          · rw [if_neg c150, z_M_row_e (by omega) (by omega), zbP_s, zrd_ok (by omega) (by omega), hr30]
            by_cases c60 : 60 < (Q.2.2 p : Int)
            · rw [if_pos c60]
              exact fin 0 (bad (fun y => by have := (y (ex (by omega))).1; omega))
            · rw [if_neg c60]
              refine fin 1 ?_
              rw [cif_pos (fun q hq => ?_)]
              rcases nx q hq with e | e
              · exact c0 q e
              · rw [e]
                exact fun _ => ⟨by omega, by omega, by omega⟩
      · rw [cif_neg c0, if_pos rfl]
        exact fin 0 (by rw [cif_neg (fun y => c0 (fun q hq => y q (by omega)))])
    unfold z_M_compile_31_l z_M_compile_31_b
    rw [if_pos (by omega), h15]
    by_cases c : p < Q.1 ∨ p = 3
    · have hcal' : ∀ j, cle (Q.2.1 p) j → ri A 237 j = szI Q p j := fun j hj => v1 j (WQ_cle hG.1 hp hj).1
      have hsz := r_totalOf (N := N) hN hp (hx p hp) hl hcal hcal'
      have ev : zw (szW (szI Q p) (Q.2.1 p) (Q.2.1 p).length) = szW (szI Q p) (Q.2.1 p) (Q.2.1 p).length := by
        have key : ∀ (X : List It) (a : Int), zw a = a → zw (szW (szI Q p) X a) = szW (szI Q p) X a := by
          intro X
          induction X with
          | nil => exact fun a ha => ha
          | cons i X ih =>
            intro a ha
            show zw (szW _ X (if i.1 = 7 then _ else a)) = szW _ X (if i.1 = 7 then _ else a)
            refine ih _ ?_
            split
            · have := yb_wrg (a + szI Q p (ig i 2).toNat)
              exact yb_w this.1 this.2
            · exact ha
        exact key _ _ (yb_w (by omega) (by omega))
      have step : z_M_compile_54 (z_M_compile_31_l N f) N (cif (∀ q, q < p → okP Q q) 1 0) p p A = z_M_compile_86 (z_M_compile_31_l N f) N (cif (∀ q, q < p → okP Q q) 1 0) p p (rs A 237 (p : Int) (szW (szI Q p) (Q.2.1 p) (Q.2.1 p).length)) := by
        unfold z_M_compile_54 z_M_compile_67
        rw [hsz, zbP_s, zwr_ok (by omega) (by omega), zi_rs_o (by decide), h15]
        by_cases k : (p : Int) < (Q.1 : Int)
        · rw [if_pos k]
        · rw [if_neg k, if_pos (by omega)]
      have pick : (if (p : Int) < (Q.1 : Int) then z_M_compile_54 (z_M_compile_31_l N f) N (cif (∀ q, q < p → okP Q q) 1 0) p p A else (if (p : Int) = 3 then z_M_compile_54 (z_M_compile_31_l N f) N (cif (∀ q, q < p → okP Q q) 1 0) p p A else z_M_compile_67 (z_M_compile_31_l N f) N (cif (∀ q, q < p → okP Q q) 1 0) p p 0 A)) = z_M_compile_54 (z_M_compile_31_l N f) N (cif (∀ q, q < p → okP Q q) 1 0) p p A := by
        by_cases k : (p : Int) < (Q.1 : Int)
        · rw [if_pos k]
        · rw [if_neg k, if_pos (by omega)]
      rw [pick, step]
      have f1 : fr (fun a _ => a = 237) A (rs A 237 (p : Int) (szW (szI Q p) (Q.2.1 p) (Q.2.1 p).length)) := fr_rs rfl
      have z1 : ri (rs A 237 (p : Int) (szW (szI Q p) (Q.2.1 p) (Q.2.1 p).length)) 237 (p : Int) = szW (szI Q p) (Q.2.1 p) (Q.2.1 p).length := by rw [ri_rs_s, ev]
      have z2 : ∀ j : Nat, j < p → ri (rs A 237 (p : Int) (szW (szI Q p) (Q.2.1 p) (Q.2.1 p).length)) 237 j = szI Q p j := fun j hj => by rw [ri_rs_n (by omega) (by omega) (by omega)]; exact v1 j hj
      generalize rs A 237 (p : Int) (szW (szI Q p) (Q.2.1 p) (Q.2.1 p).length) = A1 at *
      have hx1 : RP A1 (4 + p) (Q.2.1 p) (Q.2.2 p) := (hx p hp).fr hl f1 (fun a j y => n7 a j (by omega) p)
      obtain ⟨B, b1, b2⟩ := (wdV_ok (d := wdI Q p) hl hcal hb).2 N A1 p (Q.2.2 p) hN hp hx1 (fun j hj => by rw [f1.e (fun y => by omega)]; exact v2 j (WQ_cle hG.1 hp hj).1)
      unfold z_M_compile_86
      rw [b1, zbI_s]
      have wdw : zw (wdV (wdI Q p) (Q.2.1 p)) = wdV (wdI Q p) (Q.2.1 p) := by
        obtain ⟨m, q1, q2, q3, q4⟩ := Dp_all (d := wdI Q p) hl hcal hb (Nat.le_refl _) 0 0 (Nat.le_refl _) (by decide) (by decide)
        have e : wdV (wdI Q p) (Q.2.1 p) = m := by
          obtain ⟨C, t1, t2⟩ := q4 N A1 p (Q.2.2 p) (N - (Q.2.1 p).length) 0 hp hx1 (fun j hj => by rw [f1.e (fun y => by omega)]; exact v2 j (WQ_cle hG.1 hp hj).1) (Nat.le_refl _)
          rw [show N - (Q.2.1 p).length + ((Q.2.1 p).length - 0) = N by omega] at t1
          have t1 : z_M_nest N p A1 = z_M_nest_10_l N (N - (Q.2.1 p).length) p m ((0 : Nat) : Int) ((0 : Nat) : Int) ((Q.2.1 p).length : Int) C := t1
          obtain ⟨j, hj⟩ : ∃ j, N - (Q.2.1 p).length = j + 1 := ⟨N - (Q.2.1 p).length - 1, by omega⟩
          have hxC := hx1.fr hl t2 (fun a j y => n7 a j (by omega) p)
          have hn := hxC.1
          rw [e4] at hn
          rw [hj] at t1
          unfold z_M_nest_10_l z_M_nest_10_b at t1
          rw [z_M_row_e (by omega) (by omega), zbP_s, zrd_ok (by omega) (by omega), hn, if_neg (by omega), b1] at t1
          exact (Prod.mk.inj (Option.some.inj t1)).1
        rw [e]
        exact yb_w (by have : ((0 : Nat) : Int) ≤ m := q1; omega) q2
      exact last (szW (szI Q p) (Q.2.1 p) (Q.2.1 p).length) (wdV (wdI Q p) (Q.2.1 p)) B ((f1.mono (fun a j y => Or.inr y)).trans (b2.mono (fun a j y => Or.inl y))) ev wdw (by rw [b2.e (fun y => by omega)]; exact z1) (fun j hj => by rw [b2.e (fun y => by omega)]; exact z2 j hj) (if_pos ⟨rfl, c⟩).symm (if_pos ⟨rfl, c⟩).symm (fun y => absurd c y)
    · have pick : (if (p : Int) < (Q.1 : Int) then z_M_compile_54 (z_M_compile_31_l N f) N (cif (∀ q, q < p → okP Q q) 1 0) p p A else (if (p : Int) = 3 then z_M_compile_54 (z_M_compile_31_l N f) N (cif (∀ q, q < p → okP Q q) 1 0) p p A else z_M_compile_67 (z_M_compile_31_l N f) N (cif (∀ q, q < p → okP Q q) 1 0) p p 0 A)) = z_M_compile_67 (z_M_compile_31_l N f) N (cif (∀ q, q < p → okP Q q) 1 0) p p 0 A := by
        rw [if_neg (by omega), if_neg (by omega)]
      rw [pick]
      unfold z_M_compile_67
      rw [zwr_ok (by omega) (by omega), zi_rs_o (by decide), h15, if_neg (by omega), if_neg (by omega)]
      have f1 : fr (fun a _ => a = 237) A (rs A 237 (p : Int) 0) := fr_rs rfl
      have e1 : ∀ j, szI Q (p + 1) j = szI Q p j := fun j => if_neg (fun y => c y.2)
      have e2 : ∀ j, wdI Q (p + 1) j = wdI Q p j := fun j => if_neg (fun y => c y.2)
      have lo : ∀ q j, q ≤ j → szI Q q j = 0 ∧ wdI Q q j = 0 := fun q => by
        induction q with
        | zero => exact fun j _ => ⟨rfl, rfl⟩
        | succ q ih =>
          intro j hj
          have hn : ¬ (j = q ∧ (q < Q.1 ∨ q = 3)) := fun y => by omega
          exact ⟨(if_neg hn).trans (ih j (by omega)).1, (if_neg hn).trans (ih j (by omega)).2⟩
      exact last 0 0 (rs A 237 (p : Int) 0) (f1.mono (fun a j y => Or.inr y)) (by decide) (by decide) (by rw [ri_rs_s]; decide) (fun j hj => by rw [ri_rs_n (by omega) (by omega) (by omega)]; exact v1 j hj) (by rw [e1, (lo p p (Nat.le_refl _)).1]) (by rw [e2, (lo p p (Nat.le_refl _)).2]) (fun _ => ⟨rfl, rfl⟩)
theorem r_compile (hN : 300000 ≤ N) (hT : TXT Tx L) (hG : GQ Q) (hGB : GQ QB) (h : RPG A Q QB) (h1 : zi A 226 1 = L) (h7 : ∀ k : Nat, k < L → ri A 227 k = Tx k) (hGR : ∀ Q', tpp Tx L 3 0 Q00 = some Q' → GR0 Q') : ∃ v B, z_M_compile N A = some (v, B) ∧ fr qCm A B ∧ zi B 226 1 = 0 ∧ ((tpp Tx L 3 0 Q00 = none ∧ zi B 226 0 = 1 ∧ v = 0 ∧ RPG B Q QB ∧ zi B 226 7 = zi A 226 7 ∧ zi B 226 8 = zi A 226 8) ∨ (∃ Q', tpp Tx L 3 0 Q00 = some Q' ∧ ((¬ limQ Q' ∧ zi B 226 0 = 2 ∧ v = 0 ∧ RPG B Q QB ∧ zi B 226 7 = zi A 226 7 ∧ zi B 226 8 = zi A 226 8) ∨ (limQ Q' ∧ zi B 226 0 = 0 ∧ v = ((Q'.2.1 3).length : Int) ∧ RPG B Q' Q' ∧ zi B 226 7 = 0 ∧ zi B 226 8 = 0)))) := by
  unfold z_M_compile
  rw [zlet_s]
  have f0 : fr (fun a j => a = 226 ∧ j = 0) A (zsi A 226 0 0) := fr_si ⟨rfl, rfl⟩
  have v0 : zi (zsi A 226 0 0) 226 0 = 0 := by rw [zi_si_s]; decide
  generalize zsi A 226 0 0 = A0 at *
  obtain ⟨B, b1, b2, b3, b4, b5⟩ := r_parse (N := N) (A := A0) hN hT (by rw [f0.i (fun y => by omega)]; exact h1) (fun k hk => by rw [f0.e (fun y => by omega)]; exact h7 k hk)
  rw [b1, zbV_s, zlet_s]
  have f1 : fr (fun a j => a = 226 ∧ j = 1) B (zsi B 226 1 0) := fr_si ⟨rfl, rfl⟩
  have v1 : zi (zsi B 226 1 0) 226 1 = 0 := by rw [zi_si_s]; decide
  generalize zsi B 226 1 0 = C at *
  have nP : ∀ j, j < 13 ∨ 21 < j → ¬ qPs 226 j := fun j hj y => by
    unfold qPs at y
    rcases y with y | y | y | y | ⟨p, hp, y⟩
    · omega
    · omega
    · omega
    · omega
    · exact nqRo226 y
  have iC : ∀ j, j ≠ 0 → j ≠ 1 → (j < 13 ∨ 21 < j) → zi C 226 j = zi A 226 j := fun j j0 j1 j2 => by rw [f1.i (fun y => by omega), b2.i (nP j j2), f0.i (fun y => by omega)]
  have c0 : zi C 226 0 = 0 := by rw [f1.i (fun y => by omega), b2.i (nP 0 (by omega))]; exact v0
  have c16 : zi C 226 16 = zi B 226 16 := f1.i (fun y => by omega)
  have fC : fr qCm A C := ((f0.mono (fun a j y => Or.inl ⟨y.1, by omega⟩)).trans (b2.mono (fun a j y => qP_C y))).trans (f1.mono (fun a j y => Or.inl ⟨y.1, by omega⟩))
  have lC : RL C 1 := b3.fr f1 (fun p hp y => by omega)
  have fed : fr (fun a j => qPs a j ∨ (a = 226 ∧ (j = 0 ∨ j = 1))) A C := ((f0.mono (fun a j y => Or.inr ⟨y.1, by omega⟩)).trans (b2.mono (fun a j y => Or.inl y))).trans (f1.mono (fun a j y => Or.inr ⟨y.1, by omega⟩))
  have hed : ∀ {D : zA}, fr (fun a j => qPs a j ∨ (a = 226 ∧ (j = 0 ∨ j = 1)) ∨ a = 233 ∨ a = 237 ∨ a = 238) A D → RL D 1 → RPG D Q QB := fun {D} f l => h.edit hG.1 hGB.1 f (fun a j y => by
    rcases y with y | y | y
    · exact qP_ed y
    · omega
    · omega) l
  cases ht : tpp Tx L 3 0 Q00 with
  | none =>
    have e16 : zi C 226 16 = 1 := by rw [c16]; exact b4 ht
    rw [if_neg (by omega)]
    unfold z_M_fail
    rw [zlet_s, zbI_s]
    have f2 : fr (fun a j => a = 226 ∧ j = 0) C (zsi C 226 0 1) := fr_si ⟨rfl, rfl⟩
    refine ⟨0, _, rfl, fC.trans (f2.mono (fun a j y => Or.inl ⟨y.1, by omega⟩)), by rw [zi_si_j (by decide)]; exact v1, Or.inl ⟨rfl, by rw [zi_si_s]; decide, rfl, hed ((fed.mono (fun a j y => by rcases y with y | y; exact Or.inl y; exact Or.inr (Or.inl y))).trans (f2.mono (fun a j y => Or.inr (Or.inl ⟨y.1, by omega⟩)))) (lC.fr f2 (fun p hp y => by omega)), by rw [zi_si_j (by decide)]; exact iC 7 (by decide) (by decide) (by omega), by rw [zi_si_j (by decide)]; exact iC 8 (by decide) (by decide) (by omega)⟩⟩
  | some Q' =>
    obtain ⟨d1, d2, d3⟩ := b5 Q' ht
    have hR := hGR Q' ht
    rw [if_pos (by rw [c16]; exact d1)]
    have hxC : ∀ q, q < 4 → RP C (4 + q) (Q'.2.1 q) (Q'.2.2 q) := fun q hq => (d3 q hq).fr (hR.2 q hq) f1 (fun a j y x => by rw [y.1] at x; exact nqRo226 x)
    obtain ⟨D, e1, e2⟩ := r_lim_run (V := fun _ => True) (N := N) hN hR 4 0 N C (by omega) (by omega) (by rw [f1.i (fun y => by omega)]; exact d2) hxC (fun j hj => absurd hj (Nat.not_lt_zero j)) (fun j hj => absurd hj (Nat.not_lt_zero j))
    have x1 : (cif (∀ q, q < 0 → okP Q' q) (1 : Int) 0) = 1 := cif_pos (fun q hq => absurd hq (Nat.not_lt_zero q))
    rw [x1] at e1
    have e1 : z_M_compile_31 N 1 0 C = z_M_compile_149 N (cif (limQ Q') 1 0) D := e1
    rw [e1]
    have fD : fr qCm A D := fC.trans (e2.mono (fun a j y => Or.inr (by omega)))
    have fedD : fr (fun a j => qPs a j ∨ (a = 226 ∧ (j = 0 ∨ j = 1)) ∨ a = 233 ∨ a = 237 ∨ a = 238) A D := (fed.mono (fun a j y => by rcases y with y | y; exact Or.inl y; exact Or.inr (Or.inl y))).trans (e2.mono (fun a j y => Or.inr (Or.inr y)))
    have iD : ∀ j, zi D 226 j = zi C 226 j := fun j => e2.i (fun y => by omega)
    have lD : RL D 1 := lC.fr e2 (fun p hp y => by omega)
    unfold z_M_compile_149
    by_cases cl : limQ Q'
    · rw [cif_pos cl, if_neg (by decide), zlet_s, zlet_s, zlet_s]
      have hG' := lim_ok hR cl
      have e15 : zi D 226 15 = Q'.1 := by rw [iD, f1.i (fun y => by omega)]; exact d2
      have h3 := hR.1.1
      have f6 : fr (fun a j => a = 226 ∧ 6 ≤ j ∧ j ≤ 8) D (zsi (zsi (zsi D 226 6 (zi D 226 15)) 226 7 0) 226 8 0) := ((fr_si ⟨rfl, by omega⟩).trans (fr_si ⟨rfl, by omega⟩)).trans (fr_si ⟨rfl, by omega⟩)
      have v6 : zi (zsi (zsi (zsi D 226 6 (zi D 226 15)) 226 7 0) 226 8 0) 226 6 = Q'.1 := by rw [zi_si_j (by decide), zi_si_j (by decide), zi_si_s, e15, yb_w (by omega) (by omega)]
      have v7 : zi (zsi (zsi (zsi D 226 6 (zi D 226 15)) 226 7 0) 226 8 0) 226 7 = 0 := by rw [zi_si_j (by decide), zi_si_s]; decide
      have v8 : zi (zsi (zsi (zsi D 226 6 (zi D 226 15)) 226 7 0) 226 8 0) 226 8 = 0 := by rw [zi_si_s]; decide
      generalize zsi (zsi (zsi D 226 6 (zi D 226 15)) 226 7 0) 226 8 0 = E at *
      have rE : RSt E 1 Q' := rp_rst (fun p hp => by
        have hp4 : p < 4 := by have := exP3 hG'.1 hp; omega
        have := ((hxC p hp4).fr (hR.2 p hp4) e2 (fun a j y => nqRo (by omega))).fr (hR.2 p hp4) f6 (fun a j y x => by rw [y.1] at x; exact nqRo226 x)
        exact this)
      have lE : RL E 1 := lD.fr f6 (fun p hp y => by omega)
      obtain ⟨F, g1, g2, g3, g4⟩ := r_copyState' (N := N) (x := 1) (y := 0) hN (by decide) (by decide) (by decide) lE hG'.1 rE
      have g1 : z_M_copyState N 1 0 E = some F := g1
      rw [g1, zbV_s]
      have kC : ∀ {y z : Nat} {U V : zA}, z ≠ y → fr (qCp y) U V → RSt U z Q' → RSt V z Q' := fun {y z U V} hyz f hs => rp_rst (fun p hp => by
        have hp4 : p < 4 := by have := exP3 hG'.1 hp; omega
        refine (rst_rp hs hp).fr (hR.2 p hp4) f (fun a j q x => ?_)
        unfold qCp at q
        unfold qRo at x
        omega)
      have rF : RSt F 1 Q' := kC (by decide) g4 rE
      have lF : RL F 1 := lE.fr g4 (fun p hp y => by unfold qCp at y; omega)
      obtain ⟨G, i1, i2, i3, i4⟩ := r_copyState' (N := N) (x := 1) (y := 2) hN (by decide) (by decide) (by decide) lF hG'.1 rF
      have i1 : z_M_copyState N 1 2 F = some G := i1
      rw [i1, zbV_s, z_M_row_e (by decide) (by decide), zbP_s, zrd_ok (by decide) (by decide)]
      have r0 : RSt G 0 Q' := kC (by decide) i4 g2
      have n3 : ri G 229 (4 * 0 + 3) = ((Q'.2.1 3).length : Int) := (rst_rp r0 (p := 3) (Or.inr rfl)).1
      rw [n3]
      have nq : ∀ y j, ¬ qCp y 226 j := fun y j q => by unfold qCp at q; omega
      have iG : ∀ j, zi G 226 j = zi E 226 j := fun j => by rw [i4.i (nq 2 j), g4.i (nq 0 j)]
      have qcC : ∀ {y a j : Nat}, qCp y a j → qCm a j := fun {y a j} q => by
        unfold qCp at q
        exact Or.inr (by omega)
      refine ⟨_, G, rfl, ((fD.trans (f6.mono (fun a j y => Or.inl ⟨y.1, by omega⟩))).trans (g4.mono (fun a j y => qcC y))).trans (i4.mono (fun a j y => qcC y)), ?_, Or.inr ⟨Q', rfl, Or.inr ⟨cl, ?_, rfl, ⟨r0, i2, by rw [iG]; exact v6, g3.fr i4 (fun p hp y => by unfold qCp at y; omega), lF.fr i4 (fun p hp y => by unfold qCp at y; omega), i3⟩, by rw [iG]; exact v7, by rw [iG]; exact v8⟩⟩⟩
      · rw [iG, f6.i (fun y => by omega), iD]; exact v1
      · rw [iG, f6.i (fun y => by omega), iD]; exact c0
    · rw [cif_neg cl, if_pos rfl]
      unfold z_M_fail
      rw [zlet_s, zbI_s]
      have f2 : fr (fun a j => a = 226 ∧ j = 0) D (zsi D 226 0 2) := fr_si ⟨rfl, rfl⟩
      refine ⟨0, _, rfl, fD.trans (f2.mono (fun a j y => Or.inl ⟨y.1, by omega⟩)), by rw [zi_si_j (by decide), iD]; exact v1, Or.inr ⟨Q', rfl, Or.inl ⟨cl, by rw [zi_si_s]; decide, rfl, hed (fedD.trans (f2.mono (fun a j y => Or.inr (Or.inl ⟨y.1, by omega⟩)))) (lD.fr f2 (fun p hp y => by omega)), by rw [zi_si_j (by decide), iD]; exact iC 7 (by decide) (by decide) (by omega), by rw [zi_si_j (by decide), iD]; exact iC 8 (by decide) (by decide) (by omega)⟩⟩⟩
end
