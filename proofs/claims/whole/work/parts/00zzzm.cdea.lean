/-! DEAD of the class -/
section
variable {S : List Nat} {A : zA}
theorem cF_sl {a j : Nat} {x : Int64} (h : Own A) (hs : S.contains a = true) : cF S A (zsl A a j x) := by
  refine ⟨h, RmS.refl A, fun b k hb hb2 => ⟨rfl, ?_, rfl⟩, fun o f hd hs2 => ⟨rfl, fun e => rfl⟩⟩
  rw [zml_sl, if_neg (fun q => by rw [q.1, hs] at hb2; cases hb2)]
theorem zrl_ok {R : Type} {a n : Nat} {e : Int} {K : Int64 → Option R} (h1 : 0 ≤ e) (h2 : e < n) : zrl A a n e K = K (zml A a e.toNat) := by unfold zrl; rw [if_pos ⟨h1, h2⟩]
theorem zwl_ok {R : Type} {a n : Nat} {e : Int} {x : Int64} {K : zA → Option R} (h1 : 0 ≤ e) (h2 : e < n) : zwl A a n e x K = K (zsl A a e.toNat x) := by unfold zwl; rw [if_pos ⟨h1, h2⟩]
theorem zwDl_ok {R : Type} {a n : Nat} {e : Int} {x : Int64} {K : zA → Option R} (hO : Own A) (hs : zsh a = some (true, 1, n)) (h4 : 4 ≤ a) (h1 : 0 ≤ e) (h2 : e < n) : zwDl A a e x K = K (zsl A a e.toNat x) := by
  unfold zwDl
  rw [hO.1 _ _ hs]
  simp only
  rw [if_pos ⟨trivial, h4, h1, h2⟩]
theorem zbJ_s {R : Type} {v : Int64} {K : Int64 → Option R} : zbJ (some v) K = K v := rfl
theorem fill3_run {N x m n : Nat} {v : Int64} (hs : zsh x = some (true, 1, m)) (h4 : 4 ≤ x) (hn : n ≤ m) (hm : m < 1000000) : ∀ (r s f : Nat) (A : zA), s + r = n → r < f → Own A → ∃ B, z_Ar_fill3_10_l N f x n v s A = some B ∧ cF [x] A B ∧ ∀ i : Nat, zml B x i = if s ≤ i ∧ i < n then v else zml A x i := by
  intro r
  induction r with
  | zero =>
    intro s f A h1 h2 hO
    obtain ⟨u, rfl⟩ : ∃ u, f = u + 1 := ⟨f - 1, by omega⟩
    refine ⟨A, ?_, cF.refl _ hO, fun i => by rw [if_neg (by omega)]⟩
    show z_Ar_fill3_10_b (z_Ar_fill3_10_l N u) N x n v s A = _
    unfold z_Ar_fill3_10_b
    rw [if_neg (by omega)]
  | succ r ih =>
    intro s f A h1 h2 hO
    obtain ⟨u, rfl⟩ : ∃ u, f = u + 1 := ⟨f - 1, by omega⟩
    have w1 : zw ((s : Int) + 1) = ((s + 1 : Nat) : Int) := by rw [yb_w (by omega) (by omega)]; omega
    have f1 : cF [x] A (zsl A x s v) := cF_sl hO (cont1 x)
    obtain ⟨B, b1, b2, b3⟩ := ih (s + 1) u (zsl A x s v) (by omega) (by omega) f1.own
    refine ⟨B, ?_, f1.trans b2, fun i => ?_⟩
    · rw [← b1]
      show z_Ar_fill3_10_b (z_Ar_fill3_10_l N u) N x n v s A = _
      unfold z_Ar_fill3_10_b
      rw [if_pos (by omega), zwDl_ok hO hs h4 (by omega) (by omega), w1, Int.toNat_natCast]
    · rw [b3, zml_sl]
      by_cases c : i = s
      · subst c
        rw [if_neg (by omega), if_pos ⟨rfl, rfl⟩, if_pos (by omega)]
      · rw [if_neg (show ¬ (x = x ∧ i = s) from fun z => c z.2)]
        by_cases c2 : s + 1 ≤ i ∧ i < n
        · rw [if_pos c2, if_pos (by omega)]
        · rw [if_neg c2, if_neg (by omega)]
theorem Ar_fill3 {N x m n : Nat} {v : Int64} (hN : 300000 ≤ N) (hs : zsh x = some (true, 1, m)) (h4 : 4 ≤ x) (hn : n ≤ m) (hm : m < 100000) (hO : Own A) : ∃ B, z_Ar_fill3 N x 0 n v A = some B ∧ cF [x] A B ∧ ∀ i : Nat, zml B x i = if i < n then v else zml A x i := by
  unfold z_Ar_fill3 z_Ar_fill3_10 zln z_Ar_rangeCheck
  rw [hO.1 _ _ hs]
  simp only
  rw [if_pos (by omega), if_neg (by omega), if_neg (by omega), if_neg (by omega), zbV_s]
  obtain ⟨B, b1, b2, b3⟩ := fill3_run (N := N) (v := v) hs h4 hn (by omega) n 0 N A (by omega) (by omega) hO
  rw [show ((0 : Nat) : Int) = 0 from rfl] at b1
  refine ⟨B, b1, b2, fun i => ?_⟩
  rw [b3]
  by_cases c : i < n
  · rw [if_pos (by omega), if_pos c]
  · rw [if_neg (by omega), if_neg c]
end
section
variable {N : Nat} {A : zA} {X : List It} {V : Nat → Int64} {o g T p h : Nat}
theorem c_rdB {k : Nat} (hO : Own A) (ho : pto.contains o = true) (hS : STA A) (hx : CP A o X g) (hok : okI T p h (itm X k)) (h60 : h ≤ 60) (hk : k < X.length) : ∀ (r i f : Nat), i + r = (rdk (itm X k).1).toNat → r < f → z_Mv_readBits_5_l N f o k (rdB (itm X k) i) i A = some (rdI (itm X k)) := by
  obtain ⟨e1, e2⟩ := cp_reads (N := N) hO ho hS hx hok hk
  have hr := rdk_0 (itm X k).1
  intro r
  induction r with
  | zero =>
    intro i f h1 h2
    obtain ⟨u, rfl⟩ : ∃ u, f = u + 1 := ⟨f - 1, by omega⟩
    show z_Mv_readBits_5_b (z_Mv_readBits_5_l N u) N o k (rdB (itm X k) i) i A = _
    unfold z_Mv_readBits_5_b
    rw [e1, zbP_s, if_neg (by omega)]
    unfold rdI
    rw [← h1]
    rfl
  | succ r ih =>
    intro i f h1 h2
    obtain ⟨u, rfl⟩ : ∃ u, f = u + 1 := ⟨f - 1, by omega⟩
    have w1 : zw ((i : Int) + 1) = ((i + 1 : Nat) : Int) := by rw [yb_w (by omega) (by omega)]; omega
    obtain ⟨q1, q2, d, q3, q4⟩ := rd_rg hok h60 (n := i) (by omega)
    have fr0 : 0 ≤ frk (itm X k).1 := by unfold frk; split <;> omega
    show z_Mv_readBits_5_b (z_Mv_readBits_5_l N u) N o k (rdB (itm X k) i) i A = _
    unfold z_Mv_readBits_5_b
    rw [e1, zbP_s, if_pos (by omega), e2 i (by omega) (by omega), zbP_s, show frk (itm X k).1 + (i : Int) = (((frk (itm X k).1).toNat + i : Nat) : Int) by omega, cp_reg hO ho hx hok h60 hk q1 q2, zbP_s, w1]
    exact ih (i + 1) u (by omega) (by omega)
theorem c_readBits {k : Nat} (hN : 300000 ≤ N) (hO : Own A) (ho : pto.contains o = true) (hS : STA A) (hx : CP A o X g) (hok : okI T p h (itm X k)) (h60 : h ≤ 60) (hk : k < X.length) : z_Mv_readBits N o k A = some (rdI (itm X k)) := by
  unfold z_Mv_readBits z_Mv_readBits_5
  have hr := rdk_0 (itm X k).1
  exact c_rdB hO ho hS hx hok h60 hk (rdk (itm X k).1).toNat 0 N (by omega) (by omega)
def VC (A : zA) (c : Nat) (X : List It) (V : Nat → Int64) : Prop := ∀ q : Nat, q ≤ X.length → zml A c q = V q
theorem c_at {e : Nat} (hv : VC A 108 X V) (he : e ≤ X.length) (hl : X.length ≤ 240) : z_Mv_neededAt N e A = some (V e) := by
  unfold z_Mv_neededAt
  rw [if_neg (by omega), if_pos (by omega), zrl_ok (by omega) (by omega), Int.toNat_natCast, hv e he]
theorem c_isN {d : Nat} {v : Int64} (hd : d < 60) : z_Mv_isNeeded N d v A = some (if bt v d = false then 0 else 1) := by
  unfold z_Mv_isNeeded
  rw [if_neg (by omega)]
  by_cases c : bt v d = false
  · rw [if_pos ((cbit0' v (by omega)).mpr c), if_pos c]
  · rw [if_neg (fun z => c ((cbit0' v (by omega)).mp z)), if_neg c]
theorem c_ahead {nd : Int → Nat} {n k : Nat} (hN : 300000 ≤ N) (hO : Own A) (ho : pto.contains o = true) (hS : STA A) (hx : CP A o X g) (hm : CM A o X) (hok : okL T p h X) (h60 : h ≤ 60) (hl : X.length ≤ 240) (hb : bal nd n X) (hv : VC A 108 X V) (hk : k < X.length) : z_Mv_neededAhead N o k A = some (nF X V k) := by
  have hoi := hok _ (itm_mem hk)
  have w1 : zw ((k : Int) + 1) = ((k + 1 : Nat) : Int) := by rw [yb_w (by omega) (by omega)]; omega
  obtain ⟨mt, hBl⟩ := bal_Bl hb
  have hlt : 8 ≤ (itm X k).1 → mtL X k < X.length := fun k8 => by
    rw [← mtL_eq hBl k hk k8]
    exact Bl_lt _ _ _ hBl k (by omega) hk k8
  obtain ⟨o1, o2, o3, -⟩ := id hoi
  unfold z_Mv_neededAhead nF
  rw [w1, c_at hv (by omega) hl, zbJ_s, c_readBits hN hO ho hS hx hoi h60 hk, zbJ_s, cp_mate hO ho hx hk, zbP_s, cp_kind hO ho hx hk, zbP_s]
  by_cases c7 : (itm X k).1 = 7
  · rw [if_pos c7, if_pos c7]
  rw [if_neg c7, if_neg c7]
  by_cases c8 : (itm X k).1 = 8
  · have := hlt (by omega)
    rw [if_pos c8, if_pos (Or.inl c8), hm k hk (by omega), show zw ((mtL X k : Int) + 1) = ((mtL X k + 1 : Nat) : Int) by rw [yb_w (by omega) (by omega)]; omega, c_at hv (by omega) hl, zbJ_s]
  rw [if_neg c8]
  by_cases c9 : (itm X k).1 = 9
  · have := hlt (by omega)
    rw [if_pos c9, if_neg (by omega), if_pos c9, hm k hk (by omega), c_at hv (by omega) hl, zbJ_s]
  rw [if_neg c9]
  by_cases c11 : (itm X k).1 = 11
  · have := hlt (by omega)
    rw [if_pos c11, if_pos (Or.inr c11), hm k hk (by omega), show zw ((mtL X k : Int) + 1) = ((mtL X k + 1 : Nat) : Int) by rw [yb_w (by omega) (by omega)]; omega, c_at hv (by omega) hl, zbJ_s]
  rw [if_neg c11]
  rw [if_neg (show ¬ ((itm X k).1 = 8 ∨ (itm X k).1 = 11) by omega), if_neg c9]
  by_cases c12 : (itm X k).1 = 12
  · have := hlt (by omega)
    rw [if_pos c12, if_pos c12, hm k hk (by omega), cp_kind hO ho hx this, zbP_s]
    by_cases c10 : (itm X (mtL X k)).1 = 10
    · rw [if_pos c10, if_pos c10, c_at hv (by omega) hl, zbJ_s]
    · rw [if_neg c10, if_neg c10]
  rw [if_neg c12, if_neg c12]
  unfold z_Mv_neededAheadOfPlain
  rw [cp_writ hO ho hx hoi h60 hk, zbP_s]
  by_cases cw : wri (itm X k) < 0
  · rw [if_pos cw, if_pos cw, zbJ_s]
  rw [if_neg cw, if_neg cw, cp_harm hO ho hx hoi hk, zbP_s]
  obtain ⟨d, hd, hd6⟩ := wri_rg hoi h60 cw
  rw [hd, Int.toNat_natCast]
  unfold z_Mv_neededAheadOfPlain_36
  by_cases ch : hrm (itm X k)
  · rw [cif_pos ch, if_neg (show ¬ (1 : Int) = 0 by decide), c_isN hd6, zbP_s]
    by_cases cb : bt (V (k + 1)) d = false
    · rw [if_pos cb, if_pos rfl, zbJ_s, cif_pos ⟨ch, cb⟩]
    · rw [if_neg cb, if_neg (show ¬ (1 : Int) = 0 by decide), zbJ_s, cif_neg (fun z => cb z.2)]
  · rw [cif_neg ch, if_pos rfl, zbJ_s, cif_neg (fun z => ch z.1)]
theorem CM.fr {S : List Nat} {B : zA} (hm : CM A o X) (ho : pto.contains o = true) (f : cF S A B) (hs : S.contains o = false) : CM B o X := fun k hk k8 => by
  rw [f.v (dy_of (pto_dy ho) (by decide)) hs]; exact hm k hk k8
theorem VC.fr {S : List Nat} {B : zA} (hv : VC A 108 X V) (f : cF S A B) (hs : S.contains 108 = false) : VC B 108 X V := fun q hq => by
  rw [f.l (by decide) hs]; exact hv q hq
/-- one sweep -/
theorem c_sweep {nd : Int → Nat} {n : Nat} {r38 : Nat → Int → Int → zA → Option zA} {x4 : Int} (hN : 300000 ≤ N) (ho : pto.contains o = true) (h108 : o ≠ 108) (hok : okL T p h X) (h60 : h ≤ 60) (hl : X.length ≤ 240) (hb : bal nd n X) : ∀ (r j f : Nat) (B : zA), j + r = X.length → r < f → Own B → STA B → CP B o X g → CM B o X → VC B 108 X (dsw X V j).1 → ∃ C, z_Mv_findNeeded_60_l r38 N f o (dsw X V j).2 x4 ((X.length : Int) - 1 - j) B = r38 o (dsw X V X.length).2 (zw (x4 + 1)) C ∧ cF [108] B C ∧ VC C 108 X (dsw X V X.length).1 := by
  intro r
  induction r with
  | zero =>
    intro j f B h1 h2 hO hS hx hm hv
    obtain ⟨u, rfl⟩ : ∃ u, f = u + 1 := ⟨f - 1, by omega⟩
    have : j = X.length := by omega
    subst this
    refine ⟨B, ?_, cF.refl _ hO, hv⟩
    show z_Mv_findNeeded_60_b r38 (z_Mv_findNeeded_60_l r38 N u) N o (dsw X V X.length).2 x4 ((X.length : Int) - 1 - (X.length : Nat)) B = _
    unfold z_Mv_findNeeded_60_b
    rw [if_pos (by omega)]
  | succ r ih =>
    intro j f B h1 h2 hO hS hx hm hv
    obtain ⟨u, rfl⟩ : ∃ u, f = u + 1 := ⟨f - 1, by omega⟩
    have ek : (X.length : Int) - 1 - j = ((X.length - 1 - j : Nat) : Int) := by omega
    have wz : zw (((X.length - 1 - j : Nat) : Int) + (-1)) = (X.length : Int) - 1 - ((j + 1 : Nat) : Int) := by rw [yb_w (by omega) (by omega)]; omega
    have e1 : dsw X V (j + 1) = d1 X (dsw X V j) (X.length - 1 - j) := rfl
    generalize hK : X.length - 1 - j = k at *
    have ha := c_ahead (N := N) (k := k) hN hO ho hS hx hm hok h60 hl hb hv (by omega)
    generalize dsw X V j = s at *
    have fC : cF [108] B (zsl B 108 k (nF X s.1 k)) := cF_sl hO (cont1 108)
    have hvC : VC (zsl B 108 k (nF X s.1 k)) 108 X (dsw X V (j + 1)).1 := fun q hq => by
      rw [e1, zml_sl]
      show _ = udV s.1 k (nF X s.1 k) q
      unfold udV
      by_cases c : q = k
      · rw [if_pos ⟨rfl, c⟩, if_pos c]
      · rw [if_neg (fun z => c z.2), if_neg c]; exact hv q hq
    obtain ⟨D, d1', d2, d3⟩ := ih (j + 1) u (zsl B 108 k (nF X s.1 k)) (by omega) (by omega) fC.own (hS.fr fC (by decide) (by decide) (by decide)) (hx.fr ho fC (cont2 h108)) (hm.fr ho fC (cont2 h108)) hvC
    refine ⟨D, ?_, fC.trans d2, d3⟩
    rw [← d1', ek]
    show z_Mv_findNeeded_60_b r38 (z_Mv_findNeeded_60_l r38 N u) N o s.2 x4 (k : Int) B = _
    unfold z_Mv_findNeeded_60_b
    rw [if_neg (by omega), ha, zbJ_s, e1]
    have e91 : z_Mv_findNeeded_91 r38 (z_Mv_findNeeded_60_l r38 N u) N o x4 k (nF X s.1 k) B = z_Mv_findNeeded_60_l r38 N u o 1 x4 ((X.length : Int) - 1 - ((j + 1 : Nat) : Int)) (zsl B 108 k (nF X s.1 k)) := by
      unfold z_Mv_findNeeded_91
      rw [zwl_ok (by omega) (by omega), wz, Int.toNat_natCast]
    have e2 : (d1 X s k).2 = if s.2 = 0 ∧ nF X s.1 k = s.1 k then 0 else 1 := rfl
    rw [e2]
    by_cases c0 : s.2 = 0
    · rw [if_pos c0, zrl_ok (by omega) (by omega), Int.toNat_natCast, hv k (by omega)]
      by_cases c1 : nF X s.1 k = s.1 k
      · rw [if_pos ((lg_cmp_z _ _).mpr c1), if_pos ⟨c0, c1⟩, zwl_ok (by omega) (by omega), wz, Int.toNat_natCast]
      · rw [if_neg (fun z => c1 ((lg_cmp_z _ _).mp z)), if_neg (fun z => c1 z.2), e91]
    · rw [if_neg c0, if_neg (fun z => c0 z.1), e91]
/-- the rounds -/
theorem c_rounds {nd : Int → Nat} {n n0 : Nat} {c : Int64} (hN : 300000 ≤ N) (ho : pto.contains o = true) (h108 : o ≠ 108) (hok : okL T p h X) (h60 : h ≤ 60) (hl : X.length ≤ 150) (hb : bal nd n X) (hn0 : n0 ≤ 9000) (hg0 : dG X c n0 = 0) (hg1 : ∀ m, m < n0 → dG X c m = 1) (hR0 : dR X c n0 = dF X c) (hR1 : dR X c (n0 + 1) = dF X c) : ∀ (r m f : Nat) (B : zA), m + r = n0 → r + 1 < f → Own B → STA B → CP B o X g → CM B o X → VC B 108 X (dR X c m) → ∃ C, z_Mv_findNeeded_38_l N f o 1 m B = some C ∧ cF [108] B C ∧ VC C 108 X (dF X c) := by
  intro r
  induction r with
  | zero =>
    intro m f B h1 h2 hO hS hx hm hv
    obtain ⟨u, rfl⟩ : ∃ u, f = u + 1 + 1 := ⟨f - 2, by omega⟩
    have : m = n0 := by omega
    subst this
    have hcn : zi B o 2 = X.length := hx.2.1
    show ∃ C, z_Mv_findNeeded_38_b (z_Mv_findNeeded_38_l N (u + 1)) N o 1 m B = _ ∧ _
    unfold z_Mv_findNeeded_38_b
    rw [if_neg (by decide)]
    by_cases c9 : m < 9000
    · rw [if_pos (by omega), hcn, yb_w (by omega) (by omega)]
      obtain ⟨C, c1, c2, c3⟩ := c_sweep (N := N) (r38 := z_Mv_findNeeded_38_l N (u + 1)) (x4 := (m : Int)) (V := dR X c m) hN ho h108 hok h60 (by omega) hb X.length 0 N B (by omega) (by omega) hO hS hx hm hv
      unfold z_Mv_findNeeded_60
      have e0 : (dsw X (dR X c m) 0).2 = 0 := rfl
      rw [e0, show (X.length : Int) - 1 - ((0 : Nat) : Int) = (X.length : Int) - 1 by omega] at c1
      have e3 : (dsw X (dR X c m) X.length).2 = 0 := hg0
      rw [e3] at c1
      rw [c1]
      refine ⟨C, ?_, c2, ?_⟩
      · show z_Mv_findNeeded_38_b (z_Mv_findNeeded_38_l N u) N o 0 _ C = _
        unfold z_Mv_findNeeded_38_b
        rw [if_pos rfl]
      · rw [← hR1]; exact c3
    · rw [if_neg (by omega)]
      exact ⟨B, rfl, cF.refl _ hO, by rw [← hR0]; exact hv⟩
  | succ r ih =>
    intro m f B h1 h2 hO hS hx hm hv
    obtain ⟨u, rfl⟩ : ∃ u, f = u + 1 := ⟨f - 1, by omega⟩
    have hcn : zi B o 2 = X.length := hx.2.1
    show ∃ C, z_Mv_findNeeded_38_b (z_Mv_findNeeded_38_l N u) N o 1 m B = _ ∧ _
    unfold z_Mv_findNeeded_38_b
    rw [if_neg (by decide), if_pos (by omega), hcn, yb_w (by omega) (by omega)]
    obtain ⟨C, c1, c2, c3⟩ := c_sweep (N := N) (r38 := z_Mv_findNeeded_38_l N u) (x4 := (m : Int)) (V := dR X c m) hN ho h108 hok h60 (by omega) hb X.length 0 N B (by omega) (by omega) hO hS hx hm hv
    unfold z_Mv_findNeeded_60
    have e0 : (dsw X (dR X c m) 0).2 = 0 := rfl
    rw [e0, show (X.length : Int) - 1 - ((0 : Nat) : Int) = (X.length : Int) - 1 by omega] at c1
    have e3 : (dsw X (dR X c m) X.length).2 = 1 := hg1 m (by omega)
    rw [e3, show zw ((m : Int) + 1) = ((m + 1 : Nat) : Int) by rw [yb_w (by omega) (by omega)]; omega] at c1
    rw [c1]
    obtain ⟨D, d1', d2, d3⟩ := ih (m + 1) u C (by omega) (by omega) c2.own (hS.fr c2 (by decide) (by decide) (by decide)) (hx.fr ho c2 (cont2 h108)) (hm.fr ho c2 (cont2 h108)) c3
    exact ⟨D, d1', c2.trans d2, d3⟩
theorem c_findNeeded {nd : Int → Nat} {n : Nat} {pr : Int} {P : Nat} (hN : 300000 ≤ N) (hO : Own A) (ho : pto.contains o = true) (h108 : o ≠ 108) (hS : STA A) (hx : CP A o X g) (hm : CM A o X) (hok : okL T p h X) (h60 : h ≤ 60) (hl : X.length ≤ 150) (hb : bal nd n X) (hpr : pr = if P = 3 then 0 else 1) : ∃ B, z_Mv_findNeeded N o pr A = some B ∧ cF [108] A B ∧ VC B 108 X (dF X (dcB P)) := by
  have hcn : zi A o 2 = X.length := hx.2.1
  obtain ⟨B, b1, b2, b3⟩ := Ar_fill3 (N := N) (x := 108) (m := 241) (n := X.length) (v := Int64.ofNat 0) hN (by decide) (by decide) (by omega) (by decide) hO
  have hxB := hx.fr ho b2 (cont2 h108)
  have hcnB : zi B o 2 = X.length := hxB.2.1
  have key : ∀ c : Int64, c = dcB P → ∃ D, z_Mv_findNeeded_38 N o 1 0 (zsl B 108 X.length c) = some D ∧ cF [108] A D ∧ VC D 108 X (dF X (dcB P)) := fun c hc => by
    have fC : cF [108] B (zsl B 108 X.length c) := cF_sl b2.own (cont1 108)
    have hc2 : c = Int64.ofNat 0 ∨ c = Int64.ofNat 63 := by
      rw [hc]; unfold dcB
      by_cases e : P = 3
      · rw [if_pos e]; exact Or.inl rfl
      · rw [if_neg e]; exact Or.inr rfl
    obtain ⟨n0, n1, n2, n3, n4, n5⟩ := dR_end (c := c) hok h60 hl hc2
    have fA := b2.trans fC
    obtain ⟨D, d1', d2, d3⟩ := c_rounds (N := N) (c := c) hN ho h108 hok h60 hl hb n1 n2 n3 n4 n5 n0 0 N (zsl B 108 X.length c) (by omega) (by omega) fA.own (hS.fr fA (by decide) (by decide) (by decide)) (hx.fr ho fA (cont2 h108)) (hm.fr ho fA (cont2 h108)) (fun q hq => by
      rw [zml_sl, b3]
      unfold dR
      by_cases e : q = X.length
      · rw [if_pos ⟨rfl, e⟩, if_pos e]
      · rw [if_neg (fun z => e z.2), if_pos (by omega), if_neg e])
    refine ⟨D, d1', fA.trans d2, ?_⟩
    rw [← hc]; exact d3
  unfold z_Mv_findNeeded
  rw [hcn, b1, zbV_s, hcnB, hpr]
  by_cases e : P = 3
  · rw [if_pos e, if_pos rfl, zwl_ok (by omega) (by omega), Int.toNat_natCast]
    exact key _ (by unfold dcB; rw [if_pos e])
  · rw [if_neg e, if_neg (by decide), zwl_ok (by omega) (by omega), Int.toNat_natCast]
    exact key _ (by unfold dcB; rw [if_neg e])
/-- what is kept -/
theorem c_drop_run {nd : Int → Nat} {n o' : Nat} (hN : 300000 ≤ N) (ho : pto.contains o = true) (ho' : pto.contains o' = true) (hne : o ≠ o') (hn8 : o' ≠ 108) (hok : okL T p h X) (h60 : h ≤ 60) (hl : X.length ≤ 150) (hb : bal nd n X) : ∀ (r k f : Nat) (B : zA), k + r = X.length → r < f → Own B → CP B o X g → VC B 108 X V → CP B o' (ddS X V k) g → ∃ C, z_Mv_drop_17_l N f o o' k B = some (((X.length - (ddS X V X.length).length : Nat) : Int), C) ∧ CP C o' (ddS X V X.length) g ∧ CM C o' (ddS X V X.length) ∧ cF [o'] B C := by
  intro r
  induction r with
  | zero =>
    intro k f B h1 h2 hO hx hv hc
    obtain ⟨u, rfl⟩ : ∃ u, f = u + 1 := ⟨f - 1, by omega⟩
    have : k = X.length := by omega
    subst this
    have hcn : zi B o 2 = X.length := hx.2.1
    obtain ⟨l1, l2, l3, l4⟩ := ddS_inv (X := X) (V := V) X.length (Nat.le_refl _)
    have hb' := l3 nd n hb
    rw [List.drop_length, List.append_nil] at hb'
    obtain ⟨C, c1, c2, c3, mt, c4, c5⟩ := CP_link (N := N) hN hO ho' hc hb'
    have hcn1 : zi C o 2 = X.length := (hx.fr ho c3 (cont2 hne)).2.1
    have hcn2 : zi C o' 2 = (ddS X V X.length).length := c2.2.1
    refine ⟨C, ?_, c2, fun q hq q8 => by rw [c5 q hq q8]; exact congrArg _ (mtL_eq c4 q hq q8), c3⟩
    show z_Mv_drop_17_b (z_Mv_drop_17_l N u) N o o' (X.length : Nat) B = _
    unfold z_Mv_drop_17_b
    rw [hcn, if_neg (by omega)]
    unfold z_Mv_drop_68
    rw [c1, zbV_s, hcn1, hcn2, yb_w (by omega) (by omega)]
    congr 2
    omega
  | succ r ih =>
    intro k f B h1 h2 hO hx hv hc
    obtain ⟨u, rfl⟩ : ∃ u, f = u + 1 := ⟨f - 1, by omega⟩
    have hk : k < X.length := by omega
    have hcn : zi B o 2 = X.length := hx.2.1
    have w1 : zw ((k : Int) + 1) = ((k + 1 : Nat) : Int) := by rw [yb_w (by omega) (by omega)]; omega
    obtain ⟨l1, -, -, -⟩ := ddS_inv (X := X) (V := V) k (by omega)
    have hoi := hok _ (itm_mem hk)
    have hs : ddS X V (k + 1) = cif (hrm (itm X k) ∧ bt (V (k + 1)) (wri (itm X k)).toNat = false) (ddS X V k) (ddS X V k ++ [itm X k]) := rfl
    have kp : ¬ (hrm (itm X k) ∧ bt (V (k + 1)) (wri (itm X k)).toNat = false) → ∃ C, z_Mv_drop_55 (z_Mv_drop_17_l N u) N o o' k B = some (((X.length - (ddS X V X.length).length : Nat) : Int), C) ∧ CP C o' (ddS X V X.length) g ∧ CM C o' (ddS X V X.length) ∧ cF [o'] B C := fun hn => by
      rw [cif_neg hn] at hs
      obtain ⟨D, d1', d2, d3⟩ := CP_copy (N := N) hO ho' ho hne hc hx (by omega) hk
      obtain ⟨C, c1, c2, c3, c4⟩ := ih (k + 1) u D (by omega) (by omega) d3.own (hx.fr ho d3 (cont2 hne)) (hv.fr d3 (cont2 (by omega))) (by rw [hs]; exact d2)
      refine ⟨C, ?_, c2, c3, d3.trans c4⟩
      unfold z_Mv_drop_55
      rw [d1', zbV_s, w1, c1]
    show ∃ C, z_Mv_drop_17_b (z_Mv_drop_17_l N u) N o o' k B = _ ∧ _
    unfold z_Mv_drop_17_b
    rw [hcn, if_pos (by omega), cp_harm hO ho hx hoi hk, zbP_s]
    by_cases ch : hrm (itm X k)
    · have hw0 : ¬ wri (itm X k) < 0 := fun z => by
        obtain ⟨o1, o2, o3, -⟩ := hoi
        have hvk := nbk_v o1 o2
        unfold hrm at ch
        unfold wri at z
        obtain ⟨-, -, a3⟩ := o3 0 (by omega)
        have := a3 ⟨by omega, by omega, by omega⟩
        rw [if_pos (by omega)] at z
        have : 0 ≤ ig (itm X k) 1 := this.1
        omega
      obtain ⟨d, hd, hd6⟩ := wri_rg hoi h60 hw0
      rw [cif_pos ch, if_neg (show ¬ (1 : Int) = 0 by decide), cp_writ hO ho hx hoi h60 hk, zbP_s, w1, c_at hv (by omega) (by omega), zbJ_s, hd, c_isN hd6, zbP_s]
      rw [hd, Int.toNat_natCast] at kp hs
      by_cases cb : bt (V (k + 1)) d = false
      · rw [cif_pos ⟨ch, cb⟩] at hs
        rw [if_pos cb, if_pos rfl]
        exact ih (k + 1) u B (by omega) (by omega) hO hx hv (by rw [hs]; exact hc)
      · rw [if_neg cb, if_neg (show ¬ (1 : Int) = 0 by decide)]
        exact kp (fun z => cb z.2)
    · rw [cif_neg ch, if_pos rfl]
      exact kp (fun z => ch z.1)
end
section
variable {N : Nat} {A : zA} {R R' p : Nat} {Q Qn QB : Pr}
theorem c_dead {pr : Int} (hN : 300000 ≤ N) (hG : GQ Q) (hGn : GQ Qn) (hp : exP Q p) (h : CPG A R R' Qn QB) (hs : CSt A R' Q (mtC Q)) (hS : STA A) (hT : Qn.1 = Q.1) (h1 : Qn.2.1 p = Q.2.1 p) (h2 : Qn.2.2 p = Q.2.2 p) (hpr : pr = if p = 3 then 0 else 1) : ∃ B, z_Mv_drop N (R + 2 + 3 * p) (R' + 2 + 3 * p) pr A = some ((((Q.2.1 p).length - (deaL (Q.2.1 p) p).length : Nat) : Int), B) ∧ CSt B R' (deaQ Q p) (mtC (deaQ Q p)) ∧ CPI B R' ∧ cF [R' + 2 + 3 * p, 108] A B := by
  obtain ⟨r, m2, m3, w, c7, cR, cR', s, sB⟩ := h
  obtain ⟨k1, k2, k3, k4, k5⟩ := r.ok
  have hp3 := exP3 hG.1 hp
  have hpn : exP Qn p := by unfold exP at *; omega
  obtain ⟨-, -, -, -, -, r6⟩ := rws_fr k1 (show p < 4 by omega)
  obtain ⟨-, -, -, -, -, r6'⟩ := rws_fr k2 (show p < 4 by omega)
  obtain ⟨g7, g60, gl, gok⟩ := hG.1.2 p hp
  have hX : CP A (R + 2 + 3 * p) (Q.2.1 p) (Q.2.2 p) := by rw [← h1, ← h2]; exact s.cp hpn
  have hb := hG.n.2.1 p hp
  have hne : R + 2 + 3 * p ≠ R' + 2 + 3 * p := by omega
  have hm : CM A (R + 2 + 3 * p) (Q.2.1 p) := fun k hk k8 => by
    obtain ⟨-, -, -, -, a5⟩ := s.2 p hpn
    rw [← h1] at hk k8 ⊢
    have := (a5 k hk).2.2 k8
    rw [this]
    exact congrArg _ (mtL_eq (hGn.m p hpn) k hk k8)
  obtain ⟨B, b1, b2, b3⟩ := c_findNeeded (N := N) (P := p) (pr := pr) hN w.1 r6 (by unfold okR at k1; omega) hS hX hm gok g60 gl hb hpr
  have hX1 := hX.fr r6 b2 (cont2 (by unfold okR at k1; omega))
  have hcr : zi B (R + 2 + 3 * p) 3 = Q.2.2 p := hX1.2.2.1
  obtain ⟨C, c1, c2, c3⟩ := CP_clear (N := N) (g := Q.2.2 p) b2.own r6' ((cR' p (by omega)).fr r6' b2 (cont2 (by unfold okR at k2; omega))) (by omega)
  obtain ⟨D, d1', d2, d3, d4⟩ := c_drop_run (N := N) (V := dF (Q.2.1 p) (dcB p)) hN r6 r6' hne (by unfold okR at k2; omega) gok g60 gl hb (Q.2.1 p).length 0 N C (by omega) (by omega) c3.own (hX1.fr r6 c3 (cont2 hne)) (b3.fr c3 (cont2 (by unfold okR at k2; omega))) c2
  have out : ∀ a, a ≠ R' + 2 + 3 * p → a ≠ 108 → ([R' + 2 + 3 * p, 108] : List Nat).contains a = false := fun a h1 h2 => nc_of (fun q => by
    simp only [List.contains_iff_mem, List.mem_cons, List.not_mem_nil, or_false] at q
    omega)
  have i1 : ∀ {Y Z : zA}, cF [108] Y Z → cF [R' + 2 + 3 * p, 108] Y Z := fun f => f.mono (fun a ha => by
    simp only [List.contains_iff_mem, List.mem_cons, List.not_mem_nil, or_false] at ha ⊢
    exact Or.inr ha)
  have i2 : ∀ {Y Z : zA}, cF [R' + 2 + 3 * p] Y Z → cF [R' + 2 + 3 * p, 108] Y Z := fun f => f.mono (fun a ha => by
    simp only [List.contains_iff_mem, List.mem_cons, List.not_mem_nil, or_false] at ha ⊢
    exact Or.inl ha)
  have fD : cF [R' + 2 + 3 * p, 108] A D := ((i1 b2).trans (i2 c3)).trans (i2 d4)
  obtain ⟨l1, l2, l3, l4⟩ := deaL_inv (X := Q.2.1 p) (p := p)
  obtain ⟨mt, hBl⟩ := bal_Bl (l3 _ _ hb)
  refine ⟨D, ?_, CSt.put hG (dea_ok hG hp) k2 hp hs fD (fun a a1 a2 a3 => out a a3 (by unfold okR at k2; omega)) d2 hBl (fun k hk k8 => by rw [d3 k hk k8]; exact congrArg _ (mtL_eq hBl k hk k8).symm), fun q hq => ?_, fD⟩
  · unfold z_Mv_drop z_Mv_drop_17
    rw [b1, zbV_s, hcr, c1, zbV_s]
    exact d1'
  · by_cases e : q = p
    · rw [e]; exact d2.1
    · obtain ⟨-, -, -, -, -, u6⟩ := rws_fr k2 hq
      exact (cR' q hq).fr u6 fD (out _ (by omega) (by unfold okR at k2; omega))
end
