/-! small new cells; the class's limits -/
section
variable {A B : zA} {l : List zK}
theorem ext_cF (h1 : B.1 = A.1 ++ l) (h2 : ∀ a j, a < A.1.length → zmi B a j = zmi A a j ∧ zml B a j = zml A a j ∧ zmr B a j = zmr A a j) (hl : ∀ s ∈ l, s.2.2 ≤ 4) (hO : Own A) : cF [999] A B ∧ smc B = smc A + l.length := by
  have hln := hO.ln
  have get : ∀ c, c < A.1.length → B.1[c]? = A.1[c]? := fun c hc => by rw [h1, List.getElem?_append_left hc]
  have mr : ∀ o f, dy o f = true → zmr B o f = zmr A o f := fun o f hd => (h2 o f (by have := fx_lt (dy_fx hd); omega)).2.2
  have ycE : ∀ o f, dy o f = true → yc B o f = yc A o f := fun o f hd => by unfold yc; rw [mr o f hd]
  have ylE : ∀ o f, dy o f = true → yl B o f = yl A o f := fun o f hd => by
    unfold yl
    rw [ycE o f hd, get _ (yc_lt hO hd)]
  have big' : big B = big A := by
    unfold big
    rw [h1, List.filter_append]
    have : l.filter (fun s => decide (4 < s.2.2)) = [] := List.filter_eq_nil_iff.mpr (fun s hs => by have := hl s hs; simp; omega)
    rw [this, List.append_nil]
  have hsy : sy B = sy A := by
    unfold sy
    rw [List.map_congr_left (fun q hq => ylE _ _ (dy_of (SL_of q hq).1 (SL_of q hq).2))]
  have hty : ty B = ty A := by
    unfold ty t1
    rw [mr 114 3 (by decide), mr 114 4 (by decide), mr 117 3 (by decide), mr 117 4 (by decide)]
  have ht : tot B = tot A := by unfold tot; rw [big']
  refine ⟨⟨⟨fun a s hs => ?_, fun o f c hd hc => ?_, fun o f ho hf => ?_, fun o f o' f' c hd hd' g1 g2 => ?_⟩, ⟨⟨by rw [ht, hsy, hty]; exact Int.le_refl _, by rw [big', hsy, hty]; exact Int.le_refl _⟩, fun z => absurd z (by decide), sh0_app h1⟩, fun a j ha _ => h2 a j (by have := fx_lt ha; omega), fun o f hd _ => ⟨ylE o f hd, fun e => ?_⟩⟩, ?_⟩
  · have := hO.1 a s hs
    rw [get a (by
      rcases Nat.lt_or_ge a A.1.length with q | q
      · exact q
      · rw [List.getElem?_eq_none q] at this; cases this)]
    exact this
  · rw [mr o f hd] at hc
    obtain ⟨⟨n, q1, q2⟩, q3⟩ := hO.2.1 o f c hd hc
    refine ⟨⟨n, ?_, q2⟩, q3⟩
    rw [get c (by
      rcases Nat.lt_or_ge c A.1.length with q | q
      · exact q
      · rw [List.getElem?_eq_none q] at q1; cases q1)]
    exact q1
  · rw [mr o f (dy_of ho hf)]
    exact hO.2.2.1 o f ho hf
  · rw [mr o f hd] at g1
    rw [mr o' f' hd'] at g2
    exact hO.2.2.2 o f o' f' c hd hd' g1 g2
  · unfold yv ri zi
    rw [ycE o f hd, (h2 _ _ (yc_lt hO hd)).1]
  · unfold smc
    rw [h1, List.filter_append, List.length_append]
    have : l.filter (fun s => decide (s.2.2 ≤ 4)) = l := List.filter_eq_self.mpr (fun s hs => by have := hl s hs; simp; omega)
    rw [this]
theorem znw_cF {s : zK} (hs : s.2.2 ≤ 4) (hO : Own A) : cF [999] A (znw A s) ∧ smc (znw A s) = smc A + 1 := ext_cF (l := [s]) rfl (fun a j ha => by
  have hn : ¬ a = A.1.length := by omega
  refine ⟨?_, ?_, ?_⟩
  · show (if a = A.1.length then _ else _) = _
    rw [if_neg hn]; rfl
  · show (if a = A.1.length then _ else _) = _
    rw [if_neg hn]; rfl
  · show (if a = A.1.length then _ else _) = _
    rw [if_neg hn]; rfl) (fun t ht => by rw [List.mem_singleton] at ht; rw [ht]; exact hs) hO
/-- a cell of nobody -/
def fre (A : zA) (x : Nat) : Prop := 296 ≤ x ∧ A.1[x]? = some (true, 0, 4) ∧ ∀ o f, dy o f = true → yc A o f ≠ x
theorem fre_rs {S : List Nat} {x : Nat} {e v : Int} (h : fre A x) (hO : Own A) : cF S A (rs A x e v) := by
  refine ⟨hO, RmS.refl A, fun a j ha _ => ⟨?_, rfl, rfl⟩, fun o f hd _ => ⟨rfl, fun e' => zi_si_o (h.2.2 o f hd)⟩⟩
  have := fx_lt ha
  unfold rs zsi zmi zup
  simp only
  rw [if_neg (fun q => by have := h.1; omega)]
theorem fre.rs {x y : Nat} {e v : Int} (h : fre A y) : fre (rs A x e v) y := h
theorem fre_wr {R : Type} {x : Nat} {e v : Int} {K : zA → Option R} (h : fre A x) (h0 : 0 ≤ e) (h1 : e < 4) : zwD A x e v K = K (rs A x e v) := by
  unfold zwD
  rw [h.2.1]
  simp only
  rw [if_pos ⟨trivial, by have := h.1; omega, h0, by omega⟩]
  rfl
theorem fre_rd {R : Type} {x : Nat} {e : Int} {K : Int → Option R} (h : fre A x) (h0 : 0 ≤ e) (h1 : e < 4) : zrD A x e K = K (ri A x e) := by
  unfold zrD
  rw [h.2.1]
  simp only
  rw [if_pos ⟨trivial, h0, by omega⟩]
  rfl
theorem fre_ar {N x : Nat} {z : Nat → Int} (h : fre A x) (hz : ∀ j : Nat, j < 4 → ri A x j = z j) : CAr N A x z := fun j hj => by
  unfold z_Ro_ofCalled
  rw [if_neg (by omega), if_pos (by omega), fre_rd h (by omega) (by omega), hz j (by omega)]
end
def szI (Q : Pr) : Nat → Nat → Int
  | 0 => fun _ => 0
  | p + 1 => fun j => if j = p ∧ (p < Q.1 ∨ p = 3) then szW (szI Q p) (Q.2.1 p) (Q.2.1 p).length else szI Q p j
noncomputable def wdI (Q : Pr) : Nat → Nat → Int
  | 0 => fun _ => 0
  | p + 1 => fun j => if j = p ∧ (p < Q.1 ∨ p = 3) then wdV (wdI Q p) (Q.2.1 p) else wdI Q p j
def okP (Q : Pr) (p : Nat) : Prop := exP Q p → Q.2.2 p ≤ 60 ∧ szI Q (p + 1) p ≤ 150 ∧ wdI Q (p + 1) p ≤ 3
/-- within the limits -/
def limQ (Q : Pr) : Prop := ∀ p, p < 4 → okP Q p
/-- what is known of what was read -/
def GR0 (Q : Pr) : Prop := WQ Q ∧ ∀ p, p < 4 → (Q.2.1 p).length ≤ 240
theorem GR0.b {Q : Pr} (h : GR0 Q) {p : Nat} (hp : p < 4) : (∃ nd n, bal nd n (Q.2.1 p)) ∧ cal3 (Q.2.1 p) := by
  obtain ⟨⟨h3, ⟨hq, he⟩, m1, m2, m3⟩, -⟩ := h
  by_cases e : p = 3
  · subst e
    refine ⟨⟨_, _, m2⟩, fun i hi k7 => ?_⟩
    have := (m3 i hi).2.2.2.2.2 k7
    omega
  · by_cases c : p < Q.1
    · refine ⟨⟨_, _, (hq p c).2.1⟩, fun i hi k7 => ?_⟩
      have := ((hq p c).2.2 i hi).2.2.2.2.2 k7
      omega
    · rw [(he p (by omega) (by omega)).1]
      exact ⟨⟨ndc, 0, bal_nil 0⟩, fun i hi => by cases hi⟩
section
variable {N R x1 x2 : Nat} {A : zA} {Q : Pr}
theorem c_wl_run (hN : 300000 ≤ N) (hR : okR R) (hG : GR0 Q) (hx : x1 ≠ x2) : ∀ (r p f : Nat) (A : zA), p + r = 4 → r < f → Own A → zi A R 1 = Q.1 → (∀ q, q < 4 → CP A (R + 2 + 3 * q) (Q.2.1 q) (Q.2.2 q) ∧ CM A (R + 2 + 3 * q) (Q.2.1 q)) → fre A x1 → fre A x2 → (∀ j : Nat, j < 4 → ri A x1 j = szI Q p j) → (∀ j : Nat, j < 4 → ri A x2 j = wdI Q p j) → ∃ B, z_Ro_withinLimits_13_l N f R x1 x2 (cif (∀ q, q < p → okP Q q) 1 0) p A = some (cif (limQ Q) 1 0, B) ∧ cF [] A B
  | 0, p, f + 1, A, h1, h2, hO, hz, hc, g1, g2, v1, v2 => by
    have h4 : p = 4 := by omega
    subst h4
    unfold z_Ro_withinLimits_13_l z_Ro_withinLimits_13_b
    rw [if_neg (by decide)]
    have e : cif (∀ q, q < 4 → okP Q q) (1 : Int) 0 = cif (limQ Q) (1 : Int) 0 := rfl
    rw [e]
    by_cases c : limQ Q
    · rw [cif_pos c, if_pos (Or.inr rfl)]; exact ⟨A, rfl, cF.refl _ hO⟩
    · rw [cif_neg c, if_pos (Or.inl rfl)]; exact ⟨A, rfl, cF.refl _ hO⟩
  | r + 1, p, f + 1, A, h1, h2, hO, hz, hc, g1, g2, v1, v2 => by
    have hp : p < 4 := by omega
    have h3 := hG.1.1
    obtain ⟨r1, r2, r3, r4, r5, r6⟩ := rws_fr hR hp
    have wp : zw ((p : Int) + 1) = ((p + 1 : Nat) : Int) := by rw [yb_w (by omega) (by omega)]; omega
    have hh : z_Ro_has N R p A = some (if p < Q.1 ∨ p = 3 then 1 else 0) := by
      unfold z_Ro_has
      rw [hz]
      by_cases c : p = 3
      · rw [if_pos (by omega), if_pos (Or.inr c)]
      · rw [if_neg (by omega), if_neg (by omega)]
        by_cases c2 : p < Q.1
        · rw [if_pos (by omega), if_pos (Or.inl c2)]
        · rw [if_neg (by omega), if_neg (by omega)]
    have nx : ∀ q, q < p + 1 → (q < p ∨ q = p) := fun q hq => by omega
    unfold z_Ro_withinLimits_13_l z_Ro_withinLimits_13_b
    rw [if_pos (by omega), hh, zbP_s]
    by_cases c : p < Q.1 ∨ p = 3
    · rw [if_pos c, if_neg (by decide), zgf_s r1, zfe_p hR hp, zcs_s r5]
      obtain ⟨⟨nd, n, hb⟩, hcal⟩ := hG.b hp
      obtain ⟨hcp, hcm⟩ := hc p hp
      rw [c_sizeOf hN hO r6 hcp hcal (fre_ar g1 v1), zbP_s, fre_wr g1 (by omega) (by omega), zgf_s r1, zfe_p hR hp, zcs_s r5]
      have f1 : cF [] A (rs A x1 (p : Int) (szW (szI Q p) (Q.2.1 p) (Q.2.1 p).length)) := fre_rs g1 hO
      have ev : zw (szW (szI Q p) (Q.2.1 p) (Q.2.1 p).length) = szW (szI Q p) (Q.2.1 p) (Q.2.1 p).length := by
        have key : ∀ (X : List It) (a : Int), zw a = a → zw (szW (szI Q p) X a) = szW (szI Q p) X a := by
          intro X
          induction X with
          | nil => exact fun a ha => ha
          | cons i X ih =>
            intro a ha
            show zw (szW _ X (if i.1 = 7 then _ else a)) = szW _ X (if i.1 = 7 then _ else a)
            refine ih _ ?_
            split
            · have := yb_wrg (a + szI Q p (ig i 2).toNat)
              exact yb_w this.1 this.2
            · exact ha
        have hl := hG.2 p hp
        exact key _ _ (yb_w (by omega) (by omega))
      have a1 : ∀ j : Nat, j < 4 → ri (rs A x1 (p : Int) (szW (szI Q p) (Q.2.1 p) (Q.2.1 p).length)) x1 j = szI Q (p + 1) j := fun j hj => by
        rw [ri_rs (by omega) (by omega)]
        show _ = (if j = p ∧ (p < Q.1 ∨ p = 3) then _ else _)
        by_cases e : j = p
        · rw [if_pos (by omega), if_pos ⟨e, c⟩, ev]
        · rw [if_neg (by omega), if_neg (fun z => e z.1)]
          exact v1 j hj
      have a2 : ∀ j : Nat, j < 4 → ri (rs A x1 (p : Int) (szW (szI Q p) (Q.2.1 p) (Q.2.1 p).length)) x2 j = wdI Q p j := fun j hj => by
        rw [ri_rs_o hx.symm]
        exact v2 j hj
      have hc1 : ∀ q, q < 4 → CP (rs A x1 (p : Int) (szW (szI Q p) (Q.2.1 p) (Q.2.1 p).length)) (R + 2 + 3 * q) (Q.2.1 q) (Q.2.2 q) ∧ CM (rs A x1 (p : Int) (szW (szI Q p) (Q.2.1 p) (Q.2.1 p).length)) (R + 2 + 3 * q) (Q.2.1 q) := fun q hq => ⟨(hc q hq).1.fr (rws_fr hR hq).2.2.2.2.2 f1 rfl, (hc q hq).2.fr (rws_fr hR hq).2.2.2.2.2 f1 rfl⟩
      have hz1 : zi (rs A x1 (p : Int) (szW (szI Q p) (Q.2.1 p) (Q.2.1 p).length)) R 1 = Q.1 := by rw [f1.i hR.fx.1 rfl]; exact hz
      have k1 : fre (rs A x1 (p : Int) (szW (szI Q p) (Q.2.1 p) (Q.2.1 p).length)) x1 := g1
      have k2 : fre (rs A x1 (p : Int) (szW (szI Q p) (Q.2.1 p) (Q.2.1 p).length)) x2 := g2
      generalize rs A x1 (p : Int) (szW (szI Q p) (Q.2.1 p) (Q.2.1 p).length) = A1 at *
      have hwd := (wdV_ok (d := wdI Q p) (hG.2 p hp) hcal hb).1 N A1 (R + 2 + 3 * p) x2 (Q.2.2 p) hN f1.own r6 (hc1 p hp).1 (hc1 p hp).2 (fre_ar k2 a2)
      rw [hwd, zbP_s, fre_wr k2 (by omega) (by omega)]
      have f2 : cF [] A1 (rs A1 x2 (p : Int) (wdV (wdI Q p) (Q.2.1 p))) := fre_rs k2 f1.own
      have wdw : zw (wdV (wdI Q p) (Q.2.1 p)) = wdV (wdI Q p) (Q.2.1 p) := by
        -- it is a number that the class's method gave
        obtain ⟨m, q1, q2, q3, q4⟩ := Dp_all (d := wdI Q p) (hG.2 p hp) hcal hb (Nat.le_refl _) 0 0 (Nat.le_refl _) (by decide) (by decide)
        have e : wdV (wdI Q p) (Q.2.1 p) = m := by
          have t1 := q3 N A1 (R + 2 + 3 * p) x2 (Q.2.2 p) (N - (Q.2.1 p).length) f1.own r6 (hc1 p hp).1 (hc1 p hp).2 (fre_ar k2 a2)
          have hl := hG.2 p hp
          have hn : zi A1 (R + 2 + 3 * p) 2 = (Q.2.1 p).length := (hc1 p hp).1.2.1
          rw [show N - (Q.2.1 p).length + ((Q.2.1 p).length - 0) = N by omega] at t1
          have t1 : z_Ro_whileDepth N (R + 2 + 3 * p) x2 A1 = z_Ro_whileDepth_7_l N (N - (Q.2.1 p).length) (R + 2 + 3 * p) x2 ((0 : Nat) : Int) m ((Q.2.1 p).length : Int) A1 := t1
          obtain ⟨j, hj⟩ : ∃ j, N - (Q.2.1 p).length = j + 1 := ⟨N - (Q.2.1 p).length - 1, by omega⟩
          rw [hj] at t1
          unfold z_Ro_whileDepth_7_l z_Ro_whileDepth_7_b at t1
          rw [if_neg (by omega), hwd] at t1
          exact Option.some.inj t1
        rw [e]
        exact yb_w (by have : ((0 : Nat) : Int) ≤ m := q1; omega) q2
      have b1 : ∀ j : Nat, j < 4 → ri (rs A1 x2 (p : Int) (wdV (wdI Q p) (Q.2.1 p))) x1 j = szI Q (p + 1) j := fun j hj => by
        rw [ri_rs_o hx]
        exact a1 j hj
      have b2 : ∀ j : Nat, j < 4 → ri (rs A1 x2 (p : Int) (wdV (wdI Q p) (Q.2.1 p))) x2 j = wdI Q (p + 1) j := fun j hj => by
        rw [ri_rs (by omega) (by omega)]
        show _ = (if j = p ∧ (p < Q.1 ∨ p = 3) then _ else _)
        by_cases e : j = p
        · rw [if_pos (by omega), if_pos ⟨e, c⟩, wdw]
        · rw [if_neg (by omega), if_neg (fun z => e z.1)]
          exact a2 j hj
      have hc2 : ∀ q, q < 4 → CP (rs A1 x2 (p : Int) (wdV (wdI Q p) (Q.2.1 p))) (R + 2 + 3 * q) (Q.2.1 q) (Q.2.2 q) ∧ CM (rs A1 x2 (p : Int) (wdV (wdI Q p) (Q.2.1 p))) (R + 2 + 3 * q) (Q.2.1 q) := fun q hq => ⟨(hc1 q hq).1.fr (rws_fr hR hq).2.2.2.2.2 f2 rfl, (hc1 q hq).2.fr (rws_fr hR hq).2.2.2.2.2 f2 rfl⟩
      have hz2 : zi (rs A1 x2 (p : Int) (wdV (wdI Q p) (Q.2.1 p))) R 1 = Q.1 := by rw [f2.i hR.fx.1 rfl]; exact hz1
      have l1 : fre (rs A1 x2 (p : Int) (wdV (wdI Q p) (Q.2.1 p))) x1 := k1
      have l2 : fre (rs A1 x2 (p : Int) (wdV (wdI Q p) (Q.2.1 p))) x2 := k2
      generalize rs A1 x2 (p : Int) (wdV (wdI Q p) (Q.2.1 p)) = A2 at *
      have f12 := f1.trans f2
      obtain ⟨B, d1, d2⟩ := c_wl_run hN hR hG hx r (p + 1) f A2 (by omega) (by omega) f2.own hz2 hc2 l1 l2 b1 b2
      have er : zi A2 (R + 2 + 3 * p) 3 = (Q.2.2 p : Int) := (hc2 p hp).1.2.2.1
      have fin : ∀ v : Int, v = cif (∀ q, q < p + 1 → okP Q q) 1 0 → ∃ B, z_Ro_withinLimits_13_l N f R x1 x2 v (zw ((p : Int) + 1)) A2 = some (cif (limQ Q) 1 0, B) ∧ cF [] A B := fun v hv => by
        rw [hv, wp]
        exact ⟨B, d1, f12.trans d2⟩
      by_cases c0 : ∀ q, q < p → okP Q q
      · rw [cif_pos c0, if_neg (by decide), zgf_s r1, zfe_p hR hp, zcs_s r5, er, fre_rd l1 (by omega) (by omega), b1 p hp, fre_rd l2 (by omega) (by omega), b2 p hp]
        have bad : ¬ okP Q p → (0 : Int) = cif (∀ q, q < p + 1 → okP Q q) 1 0 := fun z => by rw [cif_neg (fun y => z (y p (by omega)))]
        by_cases c60 : 60 < (Q.2.2 p : Int)
        · rw [if_pos c60]
          exact fin 0 (bad (fun z => by have := (z c).1; omega))
        · rw [if_neg c60]
          by_cases c150 : 150 < szI Q (p + 1) p
          · rw [if_pos c150]
            exact fin 0 (bad (fun z => by have := (z c).2.1; omega))
          · rw [if_neg c150]
            by_cases c3 : 3 < wdI Q (p + 1) p
            · rw [if_pos c3]
              exact fin 0 (bad (fun z => by have := (z c).2.2; omega))
            · rw [if_neg c3]
              refine fin 1 ?_
              rw [cif_pos (fun q hq => ?_)]
              rcases nx q hq with e | e
              · exact c0 q e
              · rw [e]
                exact fun _ => ⟨by omega, by omega, by omega⟩
      · rw [cif_neg c0, if_pos rfl]
        exact fin 0 (by rw [cif_neg (fun y => c0 (fun q hq => y q (by omega)))])
    · rw [if_neg c, if_pos rfl, wp]
      have e1 : ∀ j, szI Q (p + 1) j = szI Q p j := fun j => if_neg (fun z => c z.2)
      have e2 : ∀ j, wdI Q (p + 1) j = wdI Q p j := fun j => if_neg (fun z => c z.2)
      have e3 : cif (∀ q, q < p → okP Q q) (1 : Int) 0 = cif (∀ q, q < p + 1 → okP Q q) (1 : Int) 0 := by
        by_cases c0 : ∀ q, q < p → okP Q q
        · rw [cif_pos c0, cif_pos (fun q hq => by
            rcases nx q hq with e | e
            · exact c0 q e
            · rw [e]; exact fun z => absurd z c)]
        · rw [cif_neg c0, cif_neg (fun y => c0 (fun q hq => y q (by omega)))]
      rw [e3]
      exact c_wl_run hN hR hG hx r (p + 1) f A (by omega) (by omega) hO hz hc g1 g2 (fun j hj => by rw [e1]; exact v1 j hj) (fun j hj => by rw [e2]; exact v2 j hj)
theorem c_wl (hN : 300000 ≤ N) (hR : okR R) (hG : GR0 Q) (hO : Own A) (hz : zi A R 1 = Q.1) (hc : ∀ q, q < 4 → CP A (R + 2 + 3 * q) (Q.2.1 q) (Q.2.2 q) ∧ CM A (R + 2 + 3 * q) (Q.2.1 q)) : ∃ B, z_Ro_withinLimits N R A = some (cif (limQ Q) 1 0, B) ∧ cF [999] A B ∧ smc B = smc A + 2 := by
  have hln := hO.ln
  unfold z_Ro_withinLimits
  have z1 : ∀ (X : zA) (K : Nat → zA → Option (Int × zA)), zna X 0 4 K = K X.1.length (znw X (true, 0, 4)) := fun X K => by
    unfold zna
    rw [if_pos (by decide)]
    rfl
  rw [z1, z1]
  have le1 : (znw A (true, 0, 4)).1.length = A.1.length + 1 := by
    show (A.1 ++ [(true, 0, 4)]).length = _
    rw [List.length_append]; rfl
  obtain ⟨f1, s1⟩ := znw_cF (A := A) (s := (true, 0, 4)) (by decide) hO
  obtain ⟨f2, s2⟩ := znw_cF (A := znw A (true, 0, 4)) (s := (true, 0, 4)) (by decide) f1.own
  have e1 : ∀ j, zmi (znw (znw A (true, 0, 4)) (true, 0, 4)) A.1.length j = 0 := fun j => by
    show (if A.1.length = (znw A (true, 0, 4)).1.length then _ else (if A.1.length = A.1.length then _ else _)) = _
    rw [if_neg (by rw [le1]; omega), if_pos rfl]
  have e2 : ∀ j, zmi (znw (znw A (true, 0, 4)) (true, 0, 4)) (A.1.length + 1) j = 0 := fun j => by
    show (if A.1.length + 1 = (znw A (true, 0, 4)).1.length then _ else _) = _
    rw [if_pos le1.symm]
  have sh : (znw (znw A (true, 0, 4)) (true, 0, 4)).1 = A.1 ++ [(true, 0, 4)] ++ [(true, 0, 4)] := rfl
  have yE : ∀ o f, dy o f = true → yc (znw (znw A (true, 0, 4)) (true, 0, 4)) o f < A.1.length := fun o f hd => by
    have h1 := yc_lt hO hd
    have : yc (znw (znw A (true, 0, 4)) (true, 0, 4)) o f = yc A o f := by
      have ho := fx_lt (dy_fx hd)
      have q : zmr (znw (znw A (true, 0, 4)) (true, 0, 4)) o f = zmr A o f := by
        show (if o = (znw A (true, 0, 4)).1.length then _ else (if o = A.1.length then _ else _)) = _
        rw [if_neg (by rw [le1]; omega), if_neg (by omega)]
        rfl
      unfold yc
      rw [q]
    omega
  rw [le1]
  generalize hB : znw (znw A (true, 0, 4)) (true, 0, 4) = B at *
  have g1 : fre B A.1.length := ⟨hln, by rw [sh, List.getElem?_append_left (by rw [List.length_append]; simp), List.getElem?_append_right (Nat.le_refl _), Nat.sub_self]; rfl, fun o f hd => by have := yE o f hd; omega⟩
  have g2 : fre B (A.1.length + 1) := ⟨by omega, by
    have hq : (A.1 ++ [(true, 0, 4)]).length = A.1.length + 1 := by rw [List.length_append]; rfl
    rw [sh, List.getElem?_append_right (by rw [hq]; omega), hq, Nat.sub_self]; rfl, fun o f hd => by have := yE o f hd; omega⟩
  have f12 := f1.trans f2
  have nR : ([999] : List Nat).contains R = false := cont2 (by have := hR.fx.2.2; omega)
  have hcB : ∀ q, q < 4 → CP B (R + 2 + 3 * q) (Q.2.1 q) (Q.2.2 q) ∧ CM B (R + 2 + 3 * q) (Q.2.1 q) := fun q hq => by
    have nq : ([999] : List Nat).contains (R + 2 + 3 * q) = false := cont2 (by have := hR.fx.2.2; omega)
    exact ⟨(hc q hq).1.fr (rws_fr hR hq).2.2.2.2.2 f12 nq, (hc q hq).2.fr (rws_fr hR hq).2.2.2.2.2 f12 nq⟩
  obtain ⟨C, c1, c2⟩ := c_wl_run (N := N) hN hR hG (x1 := A.1.length) (x2 := A.1.length + 1) (by omega) 4 0 N B (by omega) (by omega) f12.own (by rw [f12.i hR.fx.1 nR]; exact hz) hcB g1 g2 (fun j hj => by
    unfold ri zi
    rw [e1]
    rfl) (fun j hj => by
    unfold ri zi
    rw [e2]
    rfl)
  have e0 : cif (∀ q, q < 0 → okP Q q) (1 : Int) 0 = 1 := cif_pos (fun q hq => absurd hq (Nat.not_lt_zero q))
  rw [e0] at c1
  have c1 : z_Ro_withinLimits_13 N R A.1.length (A.1.length + 1) 1 0 B = some (cif (limQ Q) 1 0, C) := c1
  refine ⟨C, c1, f12.trans (c2.mono (fun a h => (by cases h))), ?_⟩
  have := c2.2.1.2.1 rfl
  omega
end
