/-! WHILE: the rounds that nobody hears -/
section
variable {N : Nat} {A : zA} {sil : Bool} {lv c ta R0 t : Nat} {D : Nat → T} {s : St} {P : Pg} {sz : Nat → Nat} {ex : Nat → Prop} {nd : Int → Nat}
theorem w_leave {y : Nat} {w : Int} {S : Nat → Bool} (hN : 300000 ≤ N) (h : CW A sil c ta R0 t D s) (hc : okc lv c) (hl : lv ≤ 23) (hta : okt ta) (hy : okr lv y) (hS : CY A y t D w S) (hS61 : ∀ i, 61 ≤ i → S i = false) : ∃ B v, z_Wk_leaveUnchanged N y A = some (v, B) ∧ CW B sil c ta R0 t D s ∧ CY B y t D w (fun i => S i && cif (s.1 i = tCir w i) false true) ∧ on1 y A B ∧ (v = 0 ∨ v = 1) ∧ (v = 0 ↔ (fun i => S i && cif (s.1 i = tCir w i) false true) = S) := by
  obtain ⟨c1, c2, c3, c4, c5⟩ := hc.fx (show lv ≤ 24 by omega)
  obtain ⟨y1, y2, y3, y4⟩ := hy.fx hl
  obtain ⟨a1, a2, a3, a4, a5, a6, a7, a8, a9, a10, a11⟩ := hta.fx
  have hy1 := hy.1
  have hy2 := hy.2
  have hO := h.1.1
  have hinj := h.1.2.2.1.inj
  obtain ⟨B, v, b1, b2, b3, b4, b5⟩ := lea_run (N := N) (c := c) y2 c2 (by omega) (by omega) 61 0 N 0 A (by omega) (by omega) hO h.2.1.1 (Or.inl rfl)
  -- equal numbers, equal things
  have eqv : ∀ i : Nat, i < 61 → S i = true → (ri A y i = ri A c i ↔ s.1 i = tCir w i) := fun i hi hs => by
    obtain ⟨j, j1, j2, j3⟩ := (hS i hi).1 hs
    obtain ⟨k, k1, k2, k3⟩ := h.2.2.1 i hi
    rw [j2, k2]
    constructor
    · intro q
      have : j = k := by omega
      rw [← k3, ← this, j3]
    · intro q
      have := hinj j k j1 k1 (by rw [j3, k3, q])
      omega
  have ne1 : ∀ i : Nat, i < 61 → (S i = true ↔ ri A y i ≠ -1) := fun i hi => by
    constructor
    · intro q
      obtain ⟨j, j1, j2, j3⟩ := (hS i hi).1 q
      omega
    · intro q
      cases hs : S i with
      | true => rfl
      | false => exact absurd ((hS i hi).2 hs) q
  have hF : cF [y] A B := b2.cF hO y1 (by omega)
  refine ⟨B, v, b1, h.out hc (by omega) hta hF (fun a ha => cont2 (fun q => ?_)), fun i hi => ⟨fun q => ?_, fun q => ?_⟩, b2, b4, b5.trans ⟨fun z => ?_, fun z => ⟨rfl, fun i _ i1 i2 => ?_⟩⟩⟩
  · simp only [pl7, List.contains_iff_mem, List.mem_cons, List.not_mem_nil, or_false] at ha
    omega
  · have q : (S i && cif (s.1 i = tCir w i) false true) = true := q
    rw [Bool.and_eq_true] at q
    have hne : ¬ s.1 i = tCir w i := fun z => by rw [cif_pos z] at q; cases q.2
    rw [b3 i hi, if_neg (fun z => hne ((eqv i hi q.1).mp z.2.2))]
    exact (hS i hi).1 q.1
  · have q : (S i && cif (s.1 i = tCir w i) false true) = false := q
    rw [b3 i hi]
    by_cases hs : S i = true
    · have he : s.1 i = tCir w i := Classical.byContradiction (fun z => by rw [hs, cif_neg z] at q; cases q)
      rw [if_pos ⟨by omega, (ne1 i hi).mp hs, (eqv i hi hs).mpr he⟩]
    · have hs : S i = false := by cases hq : S i with
        | true => exact absurd hq hs
        | false => rfl
      have := (hS i hi).2 hs
      rw [if_neg (fun z => z.2.1 this), this]
  · funext i
    by_cases hi : i < 61
    · cases hs : S i with
      | false => rfl
      | true =>
        have := z.2 i (by omega) hi
        rw [cif_neg (fun q => this ⟨(ne1 i hi).mp hs, (eqv i hi hs).mpr q⟩)]
        rfl
    · rw [hS61 i (by omega)]; rfl
  · have hs := (ne1 i i1).mpr i2.1
    have := congrFun z i
    rw [hs, cif_pos ((eqv i i1 hs).mp i2.2)] at this
    cases this
/-- things back to a former number: places don't matter -/
theorem w_drop {t2 : Nat} {D2 : Nat → T} {B0 : zA} {s2 : St} (hN : 300000 ≤ N) (hta : okt ta) (hc : okc lv c) (hl : lv ≤ 24) (h0 : CV B0 true c ta R0 t D s) (h2 : CW A true c ta R0 t2 D2 s2) (ht : t ≤ t2) (ht2 : t2 ≤ 39000) (hD : ∀ i, i < t → D2 i = D i) (e1 : s2.2.1 = s.2.1) (e2 : s2.2.2.1 = s.2.2.1) (e3 : s2.2.2.2.2.2 = s.2.2.2.2.2) : ∃ B, z_Th_dropTo N 111 t A = some B ∧ cF [111] A B ∧ CV B true c ta R0 t D (s.1, s.2.1, s.2.2.1, s2.2.2.2.1, s2.2.2.2.2.1, s.2.2.2.2.2) := by
  obtain ⟨hO, hTT, hGT, hLK⟩ := h2.1
  have hinj := hGT.inj
  obtain ⟨B, b1, b2, b3, b4, b5, b6⟩ := Th_dropTo (N := N) (o := 111) hN (by decide) hO hTT ht (by omega)
  have hG : GT (tk B 111) t D := (hGT.take (s := t) ht (fun i hi => (b4 i hi).1)).cong (fun i hi => (hD i hi).symm)
  obtain ⟨a1, a2, a3, a4, a5, a6, a7, a8, a9, a10, a11⟩ := hta.fx
  have n1 : ∀ a, a ≠ 111 → ([111] : List Nat).contains a = false := fun a ha => cont2 ha
  obtain ⟨g1, g2, g3, g4, g5, g6, g7, g8⟩ := h2
  rw [e1] at g4
  rw [e2] at g5
  rw [e3] at g7
  have m1 : ∀ j, zmr B 110 j = zmr A 110 j := fun j => b2.r (by decide) (by decide)
  have m2 : ∀ j, zmr B ta j = zmr A ta j := fun j => b2.r a1 (n1 _ (by omega))
  have k4 : CSd B ta t2 D2 s.2.1 := g4.mono (b2.i a1 (n1 _ (by omega))) (fun i => ⟨b2.e a2 (n1 _ (by omega)), b2.e a3 (n1 _ (by omega))⟩) (Nat.le_refl _) (fun _ _ => rfl)
  have k5 : CWy B t2 D2 s.2.2.1 := g5.mono (b2.i (by decide) (by decide)) (fun i => b2.e (by decide) (by decide)) (Nat.le_refl _) (fun _ _ => rfl)
  have k7 : CCc B ta t2 D2 s.2.2.2.2.2 := g7.mono (m2 _) (fun e => ⟨b2.v a7 (n1 _ (by omega)), b2.v a8 (n1 _ (by omega))⟩) (Nat.le_refl _) (fun _ _ => rfl)
  exact ⟨B, b1, b2, ⟨b2.own, b3, hG, fun i hi => by rw [(b4 i hi).2]; exact hLK i (by omega)⟩, ⟨by rw [m1]; exact g2.1, by rw [m1]; exact g2.2.1, by rw [m1]; exact g2.2.2⟩, CSd.back hinj ht hD k4 h0.2.2.1, CWy.back hinj ht hD k5 h0.2.2.2.1, g6.mono (b2.i (by decide) (by decide)) (b2.i (by decide) (by decide)) (b2.i (by decide) (by decide)), CCc.back hinj ht hD k7 h0.2.2.2.2.2.1, g8.mono (m2 _) (m2 _) (b2.n a7 (n1 _ (by omega))) (b2.n a8 (n1 _ (by omega)))⟩
/-- an int of the walker's own -/
theorem CV.fld {j : Nat} {z : Int} {s' : St} {sil' : Bool} (h : CV A sil c ta R0 t D s) (hta : okt ta) (h2 : s'.2.1 = s.2.1) (h4 : s'.2.2.1 = s.2.2.1) (h3 : s'.2.2.2.2.2 = s.2.2.2.2.2) (hj : j ≠ 7) (hf : CFl (zsi A 110 j z) sil' s'.2.2.2.1 s'.2.2.2.2.1) : CV (zsi A 110 j z) sil' c ta R0 t D s' ∧ cF [110] A (zsi A 110 j z) := by
  obtain ⟨a1, a2, a3, a4, a5, a6, a7, a8, a9, a10, a11⟩ := hta.fx
  obtain ⟨g1, g2, g4, g5, g6, g7, g8⟩ := h
  have hO := g1.1
  have hF : cF [110] A (zsi A 110 j z) := cF_si hO (by decide) (by decide) (by decide)
  have n1 : ∀ a, a ≠ 110 → ([110] : List Nat).contains a = false := fun a ha => cont2 ha
  refine ⟨⟨g1.fr hF (by decide), g2, ?_, ?_, hf, ?_, g8⟩, hF⟩
  · rw [h2]; exact g4.mono (zi_si_o (by omega)) (fun i => ⟨ri_si_o (by omega), ri_si_o (by omega)⟩) (Nat.le_refl _) (fun _ _ => rfl)
  · rw [h4]; exact g5.mono (zi_si_j (fun q => hj q.symm)) (fun i => ri_si_o (by decide)) (Nat.le_refl _) (fun _ _ => rfl)
  · rw [h3]; exact g7.mono rfl (fun e => ⟨hF.v a7 (n1 _ (by omega)), hF.v a8 (n1 _ (by omega))⟩) (Nat.le_refl _) (fun _ _ => rfl)
/-- the state between the rounds -/
def RS (A : zA) (sil : Bool) (c ta R0 t y2 y3 : Nat) (D : Nat → T) (s : St) (w : Int) (S : Nat → Bool) (ex : Nat → Prop) (P : Pg) : Prop := CV A sil c ta R0 t D (s.1, s.2.1, s.2.2.1, w + 1, s.2.2.2.2) ∧ CPl A y2 t D s.1 ∧ CY A y3 t D w S ∧ PrC A R0 ex P ∧ (∀ i, 61 ≤ i → S i = false)
theorem c1_wl {lv c ta x a : Nat} (h : x = 110 ∨ x = 111 ∨ x = c ∨ (121 + 3 * lv ≤ x ∧ x < 193)) (ha : ([x] : List Nat).contains a = true) : (wl lv c ta).contains a = true := by
  simp only [List.contains_iff_mem, List.mem_cons, List.not_mem_nil, or_false] at ha
  exact wl_mem.mpr (by omega)
theorem w_round {rec : Nat → Int → Int → Int → zA → Option zA} {R : Bool → Nat → Nat → Nat → St → St} {n p a m e b y2 y3 : Nat} {S : Nat → Bool} {r117 : Nat → Int → Int → Nat → Nat → Int → Int → Int → Int → Int → Int → zA → Option zA} {x9 : Int} {x11 : Nat} (hN : 300000 ≤ N) (hG : GOH P sz ex nd R0 rec R n) (hB : RB P sz ex nd R n) (hX : RX R) (hM : RM R) (hR0 : R0 ≤ 35) (hex : ∀ p, ex p → p ≤ 3) (hw : WfP P ex) (hp : ex p) (h10 : P.1 p a = 10) (hm : P.2.2.1 p a = m) (he : P.2.2.1 p m = e) (h11 : P.1 p m = 11) (h1 : a < m) (h2 : m < e) (h3 : e < b) (hb : b ≤ P.2.2.2.1 p) (b1 : Bl nd (P.1 p) (fun k => P.2.1 p k 1) (P.2.2.1 p) n (a + 1) m) (b2 : Bl nd (P.1 p) (fun k => P.2.1 p k 1) (P.2.2.1 p) n (m + 1) e) (hl : lv + n ≤ 22) (hc : okc lv c) (hta : okt ta) (hy2 : okr lv y2) (hy3 : okr lv y3) (hne : y2 ≠ y3) (ht : t + 21 * (rsz P sz p (a + 1) (m - (a + 1)) + rsz P sz p (m + 1) (e - (m + 1))) ≤ 30000) (g2 : 0 ≤ s.2.2.2.1) (g3 : s.2.2.2.1 + 1 + (rsz P sz p (a + 1) (m - (a + 1)) + rsz P sz p (m + 1) (e - (m + 1))) ≤ 10000) (g4 : 0 ≤ s.2.2.2.2.1) (g5 : s.2.2.2.2.1 + (rsz P sz p (a + 1) (m - (a + 1)) + rsz P sz p (m + 1) (e - (m + 1))) ≤ 10000) (gw : s.2.2.1.length ≤ 150) (gC : CI s) (h : RS A true c ta R0 t y2 y3 D s s.2.2.2.1 S ex P) (hx11 : x11 < 62) : ∃ (B : zA) (fl : Int), z_Wk_findCircling_117_b rec r117 N (R0 + 2 + 3 * p) a lv y2 y3 m (s.2.2.2.1 + 1) s.2.2.2.2.1 x9 0 x11 A = r117 (R0 + 2 + 3 * p) a lv y2 y3 m (s.2.2.2.1 + 1) s.2.2.2.2.1 x9 fl ((x11 + 1 : Nat) : Int) B ∧ RS B true c ta R0 t y2 y3 D s s.2.2.2.1 (rdS P R p a s.2.2.2.1 s S) ex P ∧ cF (wl lv c ta) A B ∧ ((fl = 1 ∧ rdS P R p a s.2.2.2.1 s S = S) ∨ (fl = 0 ∧ rdS P R p a s.2.2.2.1 s S ≠ S)) := by
  obtain ⟨c1, c2, c3, c4, c5⟩ := hc.fx (show lv ≤ 24 by omega)
  obtain ⟨k1, k2, k3, k4⟩ := hy2.fx (show lv ≤ 23 by omega)
  obtain ⟨l1, l2, l3, l4⟩ := hy3.fx (show lv ≤ 23 by omega)
  obtain ⟨a1, a2, a3, a4, a5, a6, a7, a8, a9, a10, a11⟩ := hta.fx
  have q21 := hy2.1
  have q22 := hy2.2
  have q31 := hy3.1
  have q32 := hy3.2
  obtain ⟨hV, hrow, hCY, hP, h61⟩ := h
  generalize hz1 : rsz P sz p (a + 1) (m - (a + 1)) = z1 at *
  generalize hz2 : rsz P sz p (m + 1) (e - (m + 1)) = z2 at *
  generalize hwh : s.2.2.2.1 = w at *
  have hcc : okc (lv + 1) c := by rcases hc with q | ⟨l, q1, q2⟩; exact Or.inl q; exact Or.inr ⟨l, by omega, q2⟩
  have wl1 : zw ((lv : Int) + 1) = ((lv + 1 : Nat) : Int) := by rw [yb_w (by omega) (by omega)]; omega
  obtain ⟨w1, w2, w3, w4⟩ := hw p hp
  have wa1 : zw ((a : Int) + 1) = ((a + 1 : Nat) : Int) := by rw [yb_w (by omega) (by omega)]; omega
  have wm1 : zw ((m : Int) + 1) = ((m + 1 : Nat) : Int) := by rw [yb_w (by omega) (by omega)]; omega
  have wx1 : zw ((x11 : Int) + 1) = ((x11 + 1 : Nat) : Int) := by rw [yb_w (by omega) (by omega)]; omega
  have hmade : zi A 111 2 = t := hV.1.2.1.2.2
  unfold z_Wk_findCircling_117_b
  rw [if_neg (by omega), if_pos rfl, hmade]
  obtain ⟨B1, i1, i2, i3, i4⟩ := w_begin (N := N) hN hV hc (by omega) hta hy2 hy3 hrow hCY
  rw [i1, zbV_s, wa1, wl1]
  have eB : ((fun i => if S i then tCir w i else s.1 i), (s.1, s.2.1, s.2.2.1, w + 1, s.2.2.2.2).2) = sBeg w S s := rfl
  rw [eB] at i2
  have X1 : WX lv c ta t t D D A B1 := i3.up (by omega)
  have P1 := X1.pr hP hR0 hex hc (by omega) hta
  have d1 := hB true p (a + 1) m (sBeg w S s) hp b1 (by omega)
  have m1 := hM true p (a + 1) m (sBeg w S s)
  rw [hz1] at d1
  have gC1 : CI (sBeg w S s) := fun q hq => by
    have := gC q hq
    show q.1 < w + 1
    omega
  obtain ⟨B2, t2, D2, j1, j2, j3, j4⟩ := hG true p (a + 1) m (lv + 1) c ta t D (sBeg w S s) B1 hp b1 (by omega) (by omega) hcc hta i2 P1 ⟨by rw [hz1]; omega, by show 0 ≤ w + 1; omega, by rw [hz1]; show w + 1 + _ ≤ _; omega, g4, by rw [hz1]; show s.2.2.2.2.1 + _ ≤ _; omega, gw, gC1, fun q => by cases q⟩
  rw [hz1] at j4
  rw [j1, zbV_s]
  have X2 := X1.trans (j3.up (lv := lv) (by omega))
  have P2 := X2.pr hP hR0 hex hc (by omega) hta
  have hmm := pc_mate (N := N) j2.1.1 P2 hp (show m < P.2.2.2.1 p by omega) (by omega)
  rw [he] at hmm
  rw [hmm, zbP_s, wm1]
  have d2 := hB true p (m + 1) e (R true p (a + 1) m (sBeg w S s)) hp b2 (by omega)
  have m2 := hM true p (m + 1) e (R true p (a + 1) m (sBeg w S s))
  rw [hz2] at d2
  have d12 := d1.trans d2 (w := z1 + z2) (by omega)
  have hrd : rdS P R p a w s S = fun i => S i && cif ((R true p (m + 1) e (R true p (a + 1) m (sBeg w S s))).1 i = tCir w i) false true := by
    unfold rdS
    simp only [hm, he]
  rw [hrd]
  obtain ⟨v1, v2, v3, v4, v5, v6, v7⟩ := d1
  obtain ⟨f1, f2, f3⟩ := v7 rfl
  generalize R true p (a + 1) m (sBeg w S s) = s2 at *
  have vv3 : w + 1 ≤ s2.2.2.2.1 := v3
  have vv4 : 3 * s2.2.2.2.1 ≤ 3 * (w + 1) + (z1 : Int) := v4
  have vv5 : s.2.2.2.2.1 ≤ s2.2.2.2.2.1 := v5
  have vv6 : s2.2.2.2.2.1 ≤ s.2.2.2.2.1 + (z1 : Int) := v6
  have ff2 : s2.2.2.1 = s.2.2.1 := f2
  obtain ⟨B3, t3, D3, n1, n2, n3, n4⟩ := hG true p (m + 1) e (lv + 1) c ta t2 D2 s2 B2 hp b2 (by omega) (by omega) hcc hta j2 P2 ⟨by rw [hz2]; omega, by omega, by rw [hz2]; omega, by omega, by rw [hz2]; omega, by rw [ff2]; exact gw, gC1.mx m1, fun q => by cases q⟩
  rw [hz2] at n4
  rw [n1, zbV_s]
  have X3 := X2.trans (n3.up (lv := lv) (by omega))
  obtain ⟨o1, o2, o3, o4, o5, o6, o7⟩ := d12
  obtain ⟨p1, p2, p3⟩ := o7 rfl
  generalize R true p (m + 1) e s2 = s3 at *
  have hCY3 : CY B3 y3 t3 D3 w S := fun i hi => by
    have e1 : ri B3 y3 i = ri A y3 i := by
      rw [n3.2.2.e l1 (nc_of (fun z => by have := wl_mem.mp z; omega)), j3.2.2.e l1 (nc_of (fun z => by have := wl_mem.mp z; omega)), i4.e (by omega)]
    rw [e1]
    exact ⟨fun q => ((hCY i hi).1 q).mono X3.1 X3.2.1, (hCY i hi).2⟩
  have hrow3 : CPl B3 y2 t3 D3 s.1 := WX.row (lv' := lv + 1) n3 (WX.row (lv' := lv + 1) j3 (WX.row (lv' := 24) i3 hrow hc (by omega) hta hy2 (by omega)) hc (by omega) hta hy2 (by omega)) hc (by omega) hta hy2 (by omega)
  obtain ⟨B4, v, u1, u2, u3, u4, u5, u6⟩ := w_leave (N := N) hN n2 hc (by omega) hta hy3 hCY3 h61
  rw [u1, zbI_s]
  have F4 : cF [y3] B3 B4 := u4.cF n2.1.1 l1 (by omega)
  obtain ⟨B5, x1, x2, x3⟩ := w_drop (N := N) (A := B4) (B0 := A) (s := (s.1, s.2.1, s.2.2.1, w + 1, s.2.2.2.2)) hN hta hc (show lv ≤ 24 by omega) hV u2 X3.1 (by omega) X3.2.1 p1 p2 p3
  have rS : ∀ i : Nat, ri B5 y2 i = ri A y2 i := fun i => by
    rw [x2.e k1 (cont2 (by omega)), u4.e (by omega), n3.2.2.e k1 (nc_of (fun z => by have := wl_mem.mp z; omega)), j3.2.2.e k1 (nc_of (fun z => by have := wl_mem.mp z; omega)), i4.e (by omega)]
  have rY : ∀ i : Nat, ri B5 y3 i = ri B4 y3 i := fun i => x2.e l1 (cont2 (by omega))
  have F5 : cF (wl lv c ta) A B5 := (X3.2.2.trans (F4.mono (fun a ha => c1_wl (by omega) ha))).trans (x2.mono (fun a ha => c1_wl (by omega) ha))
  -- the two ints come back
  have wz1 : zw (w + 1) = w + 1 := yb_w (by omega) (by omega)
  have wz2 : zw s.2.2.2.2.1 = s.2.2.2.2.1 := yb_w (by omega) (by omega)
  obtain ⟨y1', y2'⟩ := x3.fld (j := 11) (z := w + 1) (s' := (s.1, s.2.1, s.2.2.1, w + 1, s3.2.2.2.2.1, s.2.2.2.2.2)) (sil' := true) hta rfl rfl rfl (by decide) ⟨by rw [zi_si_j (by decide)]; exact x3.2.2.2.2.1.1, by rw [zi_si_s, wz1], by rw [zi_si_j (by decide)]; exact x3.2.2.2.2.1.2.2⟩
  obtain ⟨y3', y4'⟩ := y1'.fld (j := 12) (z := s.2.2.2.2.1) (s' := (s.1, s.2.1, s.2.2.1, w + 1, s.2.2.2.2)) (sil' := true) hta rfl rfl rfl (by decide) ⟨by rw [zi_si_j (by decide)]; exact y1'.2.2.2.2.1.1, by rw [zi_si_j (by decide)]; exact y1'.2.2.2.2.1.2.1, by rw [zi_si_s, wz2]⟩
  have F6 : cF (wl lv c ta) A (zsi (zsi B5 110 11 (w + 1)) 110 12 s.2.2.2.2.1) := (F5.trans (y2'.mono (fun a ha => c1_wl (by omega) ha))).trans (y4'.mono (fun a ha => c1_wl (by omega) ha))
  have hinj3 := n2.1.2.2.1.inj
  have hRS : RS (zsi (zsi B5 110 11 (w + 1)) 110 12 s.2.2.2.2.1) true c ta R0 t y2 y3 D s w (fun i => S i && cif (s3.1 i = tCir w i) false true) ex P := by
    refine ⟨y3', fun i hi => ?_, fun i hi => ?_, hP.fr F6 (fun p' hp' => nc_of (fun z => by have := wl_mem.mp z; have := hex p' hp'; omega)), fun i hi => by show (S i && _) = false; rw [h61 i hi]; rfl⟩
    · rw [ri_si_o (by omega), ri_si_o (by omega), rS i]
      exact hrow i hi
    · rw [ri_si_o (by omega), ri_si_o (by omega), rY i]
      refine ⟨fun q => ?_, (u3 i hi).2⟩
      have q' : S i = true := by rw [Bool.and_eq_true] at q; exact q.1
      obtain ⟨jj, jj1, jj2, jj3⟩ := (hCY i hi).1 q'
      exact back_ix hinj3 X3.1 X3.2.1 ((u3 i hi).1 q) ⟨jj, jj1, jj3⟩
  by_cases hv : v = 0
  · rw [if_pos hv]
    unfold z_Wk_findCircling_191
    rw [x1, zbV_s, zlet_s, zlet_s, wx1]
    exact ⟨_, 1, rfl, hRS, F6, Or.inl ⟨rfl, u6.mp hv⟩⟩
  · rw [if_neg hv]
    unfold z_Wk_findCircling_191
    rw [x1, zbV_s, zlet_s, zlet_s, wx1]
    exact ⟨_, 0, rfl, hRS, F6, Or.inr ⟨rfl, fun q => hv (u6.mpr q)⟩⟩
end
