/-! DEAD of the reference -/
theorem or_z (s : Int64) : s ||| Int64.ofNat 0 = s := bt_ext (fun i hi => by rw [bt_or, bt_0 ⟨i, hi⟩, Bool.or_false])
theorem or_c3 (a b c : Int64) : (a ||| b) ||| c = (a ||| c) ||| b := bt_ext (fun i hi => by
  rw [bt_or, bt_or, bt_or, bt_or, Bool.or_assoc, Bool.or_assoc, Bool.or_comm (bt b i)])
theorem or_a (a b c : Int64) : (a ||| b) ||| c = a ||| (b ||| c) := bt_ext (fun i hi => by
  rw [bt_or, bt_or, bt_or, bt_or, Bool.or_assoc])
theorem rda_rd {k : Int} {n : Nat} (h0 : 0 ≤ k) (h12 : k ≤ 12) (hn : n ≤ 1) : ((n : Int) < rdk k → rda k n = frk k + n + 1) ∧ (¬ (n : Int) < rdk k → rda k n = 0) := by
  constructor
  · intro c
    unfold rda frk
    unfold rdk at c
    repeat' split at c
    all_goals repeat' split
    all_goals omega
  · intro c
    unfold rda
    unfold rdk at c
    repeat' split at c
    all_goals repeat' split
    all_goals omega
def RMz (A : zA) (p : Nat) (X : List It) : Prop := ∀ k : Nat, k < X.length → 8 ≤ (itm X k).1 → ri A 231 (240 * p + k) = mtL X k
section
variable {N : Nat} {A : zA} {X : List It} {V : Nat → Int64} {g p T p' h : Nat}
theorem r_ahead66 {k : Nat} {s : Int64} (hp : p < 4) (hx : RP A p X g) (hok : okI T p' h (itm X k)) (h60 : h ≤ 60) (hk : k < X.length) (hl : X.length ≤ 240) : ∀ (r n f : Nat), n + r = 2 → r < f → z_M_ahead_66_l N f p k (s ||| rdB (itm X k) (min n (rdk (itm X k).1).toNat)) (itm X k).1 n A = z_M_ahead_113 N (s ||| rdI (itm X k)) (itm X k).1 A := by
  obtain ⟨o1, o2, o3, -⟩ := id hok
  have hr := rdk_0 (itm X k).1
  have fr0 : 0 ≤ frk (itm X k).1 := by unfold frk; split <;> omega
  intro r
  induction r with
  | zero =>
    intro n f h1 h2
    obtain ⟨u, rfl⟩ : ∃ u, f = u + 1 := ⟨f - 1, by omega⟩
    show z_M_ahead_66_b (z_M_ahead_66_l N u) N p k _ (itm X k).1 n A = _
    unfold z_M_ahead_66_b
    rw [if_neg (by omega), show min n (rdk (itm X k).1).toNat = (rdk (itm X k).1).toNat by omega]
    rfl
  | succ r ih =>
    intro n f h1 h2
    obtain ⟨u, rfl⟩ : ∃ u, f = u + 1 := ⟨f - 1, by omega⟩
    have w1 : zw ((n : Int) + 1) = ((n + 1 : Nat) : Int) := by rw [yb_w (by omega) (by omega)]; omega
    obtain ⟨y1, y2⟩ := rda_rd (k := (itm X k).1) (n := n) o1 o2 (by omega)
    show z_M_ahead_66_b (z_M_ahead_66_l N u) N p k _ (itm X k).1 n A = _
    unfold z_M_ahead_66_b
    rw [if_pos (by omega), r_readAt (by omega) (by omega), zbP_s, w1]
    have := ih (n + 1) u (by omega) (by omega)
    by_cases c : (n : Int) < rdk (itm X k).1
    · obtain ⟨q1, q2, d, q3, q4⟩ := rd_rg hok h60 (n := n) c
      have hnum := rp_num (N := N) (z := 0) (p := p) (r := p) (i := (frk (itm X k).1).toNat + n) (by omega) hp (by omega) hx hk hl q1
      rw [show ((0 : Nat) : Int) = 0 from rfl] at hnum
      rw [y1 c, if_pos (by omega), show frk (itm X k).1 + (n : Int) + 1 = (((frk (itm X k).1).toNat + n : Nat) : Int) + 1 by omega, hnum, zbP_s, ← this, show min n (rdk (itm X k).1).toNat = n by omega, show min (n + 1) (rdk (itm X k).1).toNat = n + 1 by omega, or_a]
      rfl
    · rw [y2 c, if_neg (by decide), ← this, show min n (rdk (itm X k).1).toNat = (rdk (itm X k).1).toNat by omega, show min (n + 1) (rdk (itm X k).1).toNat = (rdk (itm X k).1).toNat by omega]
theorem r_ahead51 {k : Nat} {s : Int64} (hN : 300000 ≤ N) (hp : p < 4) (hx : RP A p X g) (hok : okI T p' h (itm X k)) (h60 : h ≤ 60) (hk : k < X.length) (hl : X.length ≤ 240) : z_M_ahead_51 N p k s A = some (if (itm X k).1 = 7 then (s ||| rdI (itm X k)) ||| Int64.ofNat 63 else s ||| rdI (itm X k)) := by
  have hkd := rp_kind (N := N) (z := 0) (p := p) (r := p) (by omega) hp (by omega) hx hk hl
  rw [show ((0 : Nat) : Int) = 0 from rfl] at hkd
  have := r_ahead66 (N := N) (s := s) hp hx hok h60 hk hl 2 0 N (by omega) (by omega)
  rw [show min 0 (rdk (itm X k).1).toNat = 0 by omega, show rdB (itm X k) 0 = Int64.ofNat 0 from rfl, or_z, show ((0 : Nat) : Int) = 0 from rfl] at this
  unfold z_M_ahead_51 z_M_ahead_66
  rw [hkd, zbP_s, this]
  unfold z_M_ahead_113
  split <;> rfl
theorem wri_no {i : It} (h : 6 ≤ i.1) : wri i = -1 := by unfold wri; rw [if_neg (by omega)]
theorem hrm_wri {i : It} (ho : okI T p h i) (ch : hrm i) : ¬ wri i < 0 := fun z => by
  obtain ⟨o1, o2, o3, -⟩ := ho
  have hvk := nbk_v o1 o2
  unfold hrm at ch
  unfold wri at z
  obtain ⟨-, -, a3⟩ := o3 0 (by omega)
  have := a3 ⟨by omega, by omega, by omega⟩
  rw [if_pos (by omega)] at z
  have : 0 ≤ ig i 1 := this.1
  omega
theorem r_nF {nd : Int → Nat} {n k : Nat} (hN : 300000 ≤ N) (hp : p < 4) (hx : RP A p X g) (hm : RMz A p X) (hok : okL T p' h X) (h60 : h ≤ 60) (hl : X.length ≤ 150) (hb : bal nd n X) (hv : VC A 250 X V) (hk : k < X.length) : ∃ s, z_M_follows N p k A = some s ∧ z_M_ahead N p k s A = some (nF X V k) ∧ ((itm X k).1 ≤ 7 → s = V (k + 1)) := by
  have hoi := hok _ (itm_mem hk)
  obtain ⟨mt, hBl⟩ := bal_Bl hb
  have hlt : 8 ≤ (itm X k).1 → mtL X k < X.length := fun k8 => by
    rw [← mtL_eq hBl k hk k8]
    exact Bl_lt _ _ _ hBl k (by omega) hk k8
  obtain ⟨o1, o2, o3, -⟩ := id hoi
  have hkd := rp_kind (N := N) (z := 0) (p := p) (r := p) (by omega) hp (by omega) hx hk (by omega)
  rw [show ((0 : Nat) : Int) = 0 from rfl] at hkd
  have hwr := rp_writ (N := N) (z := 0) (p := p) (r := p) (by omega) hp (by omega) hx hoi hk (by omega)
  rw [show ((0 : Nat) : Int) = 0 from rfl] at hwr
  have hpl := rp_plain (N := N) (z := 0) (p := p) (r := p) (by omega) hp (by omega) hx hoi hk (by omega)
  rw [show ((0 : Nat) : Int) = 0 from rfl] at hpl
  have rl : ∀ (e : Nat) (K : Int64 → Option Int64), e ≤ X.length → zrl A 250 241 (e : Int) K = K (V e) := fun e K he => by
    rw [zrl_ok (by omega) (by omega), Int.toNat_natCast, hv e he]
  have nopl : 3 ≤ (itm X k).1 → ¬ hrm (itm X k) := fun a z => by unfold hrm at z; omega
  have e1 : ((k : Int) + 1) = ((k + 1 : Nat) : Int) := by omega
  have ah : ∀ s : Int64, wri (itm X k) < 0 → z_M_ahead N p k s A = some (if (itm X k).1 = 7 then (s ||| rdI (itm X k)) ||| Int64.ofNat 63 else s ||| rdI (itm X k)) := fun s hw => by
    unfold z_M_ahead z_M_ahead_32
    rw [hwr, zbP_s, hpl, zbP_s, cif_neg (fun z => hrm_wri hoi z hw), if_pos rfl, if_pos hw]
    exact r_ahead51 hN hp hx hoi h60 hk (by omega)
  have fo : z_M_follows N p k A = (if (itm X k).1 = 8 then zrl A 250 241 ((k : Int) + 1) fun v4 => zrl A 250 241 (ri A 231 (240 * p + k) + 1) fun v5 => some (v4 ||| v5) else (if (itm X k).1 = 9 then zrl A 250 241 (ri A 231 (240 * p + k)) fun v7 => some v7 else (if (itm X k).1 = 11 then zrl A 250 241 ((k : Int) + 1) fun v9 => zrl A 250 241 (ri A 231 (240 * p + k) + 1) fun v10 => some (v9 ||| v10) else (if (itm X k).1 = 12 then zbP (z_M_field N 0 p (ri A 231 (240 * p + k)) 0 A) fun v12 => (if v12 = 10 then zrl A 250 241 (ri A 231 (240 * p + k)) fun v14 => some v14 else zrl A 250 241 ((k : Int) + 1) fun v15 => some v15) else zrl A 250 241 ((k : Int) + 1) fun v16 => some v16)))) := by
    unfold z_M_follows
    rw [hkd, zbP_s, zrd_ok (by omega) (by omega)]
  by_cases c8 : (itm X k).1 = 8 ∨ (itm X k).1 = 11
  · have hmk := hm k hk (by omega)
    have := hlt (by omega)
    have em : ((mtL X k : Int) + 1) = ((mtL X k + 1 : Nat) : Int) := by omega
    have hff : ∀ (q1 q2 : Option Int64), (if (itm X k).1 = 8 then some (V (k + 1) ||| V (mtL X k + 1)) else if (itm X k).1 = 9 then q1 else if (itm X k).1 = 11 then some (V (k + 1) ||| V (mtL X k + 1)) else q2) = some (V (k + 1) ||| V (mtL X k + 1)) := fun q1 q2 => by
      rcases c8 with c8 | c8
      · rw [if_pos c8]
      · rw [if_neg (by omega), if_neg (by omega), if_pos c8]
    refine ⟨V (k + 1) ||| V (mtL X k + 1), ?_, ?_, fun z => by omega⟩
    · rw [fo, hmk, e1, em, rl (k + 1) _ (by omega), rl (mtL X k + 1) _ (by omega), hff]
    · rw [ah _ (by rw [wri_no (by omega)]; decide), if_neg (by omega)]
      unfold nF
      rw [if_neg (by omega), if_pos c8]
  rw [if_neg (show ¬ (itm X k).1 = 8 by omega)] at fo
  by_cases c9 : (itm X k).1 = 9
  · have := hlt (by omega)
    refine ⟨V (mtL X k), ?_, ?_, fun z => by omega⟩
    · rw [fo, if_pos c9, hm k hk (by omega), rl (mtL X k) _ (by omega)]
    · rw [ah _ (by rw [wri_no (by omega)]; decide), if_neg (by omega)]
      have : rdI (itm X k) = Int64.ofNat 0 := by unfold rdI; rw [c9]; rfl
      rw [this, or_z]
      unfold nF
      rw [if_neg (by omega), if_neg c8, if_pos c9]
  rw [if_neg c9, if_neg (show ¬ (itm X k).1 = 11 by omega)] at fo
  by_cases c12 : (itm X k).1 = 12
  · have hml := hlt (by omega)
    have hkm := rp_kind (N := N) (z := 0) (p := p) (r := p) (by omega) hp (by omega) hx hml (by omega)
    rw [show ((0 : Nat) : Int) = 0 from rfl] at hkm
    have : rdI (itm X k) = Int64.ofNat 0 := by unfold rdI; rw [c12]; rfl
    rw [if_pos c12, hm k hk (by omega), hkm, zbP_s] at fo
    by_cases c10 : (itm X (mtL X k)).1 = 10
    · refine ⟨V (mtL X k), ?_, ?_, fun z => by omega⟩
      · rw [fo, if_pos c10, rl (mtL X k) _ (by omega)]
      · rw [ah _ (by rw [wri_no (by omega)]; decide), if_neg (by omega), this, or_z]
        unfold nF
        rw [if_neg (by omega), if_neg c8, if_neg c9, if_pos c12, if_pos c10]
    · refine ⟨V (k + 1), ?_, ?_, fun z => by omega⟩
      · rw [fo, if_neg c10, e1, rl (k + 1) _ (by omega)]
      · rw [ah _ (by rw [wri_no (by omega)]; decide), if_neg (by omega), this, or_z]
        unfold nF
        rw [if_neg (by omega), if_neg c8, if_neg c9, if_pos c12, if_neg c10]
  rw [if_neg c12, e1, rl (k + 1) _ (by omega)] at fo
  refine ⟨_, fo, ?_, fun _ => rfl⟩
  by_cases c7 : (itm X k).1 = 7
  · rw [ah _ (by rw [wri_no (by omega)]; decide), if_pos c7]
    unfold nF
    rw [if_pos c7, or_c3]
  have hn : nF X V k = if wri (itm X k) < 0 then V (k + 1) ||| rdI (itm X k) else cif (hrm (itm X k) ∧ bt (V (k + 1)) (wri (itm X k)).toNat = false) (V (k + 1)) ((V (k + 1) &&& (zlsl (Int64.ofNat 1) (wri (itm X k)) ^^^ Int64.ofNat 18446744073709551615)) ||| rdI (itm X k)) := by
    unfold nF
    rw [if_neg c7, if_neg c8, if_neg c9, if_neg c12]
  rw [hn]
  by_cases cw : wri (itm X k) < 0
  · rw [ah _ cw, if_neg c7, if_pos cw]
  rw [if_neg cw]
  obtain ⟨d, hd, hd6⟩ := wri_rg hoi h60 cw
  unfold z_M_ahead z_M_ahead_32
  rw [hwr, zbP_s, hpl, zbP_s, hd, Int.toNat_natCast, if_neg (show ¬ (d : Int) < 0 by omega)]
  have e51 := r_ahead51 (N := N) (s := V (k + 1) &&& (zlsl (Int64.ofNat 1) d ^^^ Int64.ofNat 18446744073709551615)) hN hp hx hoi h60 hk (by omega)
  rw [if_neg c7] at e51
  rw [e51]
  by_cases ch : hrm (itm X k)
  · rw [cif_pos ch, if_neg (show ¬ (1 : Int) = 0 by decide)]
    by_cases cb : bt (V (k + 1)) d = false
    · rw [if_pos ((cbit0 _ (by omega)).mpr cb), cif_pos ⟨ch, cb⟩]
    · rw [if_neg (fun z => cb ((cbit0 _ (by omega)).mp z)), cif_neg (fun z => cb z.2)]
  · rw [cif_neg ch, if_pos rfl, cif_neg (fun z => ch z.1)]
/-- one sweep -/
theorem r_sweep {nd : Int → Nat} {n : Nat} {r57 : Int → Int → Int → zA → Option zA} (hN : 300000 ≤ N) (hp : p < 4) (hok : okL T p' h X) (h60 : h ≤ 60) (hl : X.length ≤ 150) (hb : bal nd n X) : ∀ (r j f : Nat) (B : zA), j + r = X.length → r < f → RP B p X g → RMz B p X → VC B 250 X (dsw X V j).1 → ∃ C, z_M_dead_68_l r57 N f p X.length (dsw X V j).2 ((X.length : Int) - 1 - j) B = r57 p X.length (dsw X V X.length).2 C ∧ fr (fun a _ => a = 250) B C ∧ VC C 250 X (dsw X V X.length).1 := by
  intro r
  induction r with
  | zero =>
    intro j f B h1 h2 hx hm hv
    obtain ⟨u, rfl⟩ : ∃ u, f = u + 1 := ⟨f - 1, by omega⟩
    have : j = X.length := by omega
    subst this
    refine ⟨B, ?_, fr.refl _ _, hv⟩
    show z_M_dead_68_b r57 (z_M_dead_68_l r57 N u) N p X.length (dsw X V X.length).2 ((X.length : Int) - 1 - (X.length : Nat)) B = _
    unfold z_M_dead_68_b
    rw [if_pos (by omega)]
  | succ r ih =>
    intro j f B h1 h2 hx hm hv
    obtain ⟨u, rfl⟩ : ∃ u, f = u + 1 := ⟨f - 1, by omega⟩
    have ek : (X.length : Int) - 1 - j = ((X.length - 1 - j : Nat) : Int) := by omega
    have wz : zw (((X.length - 1 - j : Nat) : Int) + (-1)) = (X.length : Int) - 1 - ((j + 1 : Nat) : Int) := by rw [yb_w (by omega) (by omega)]; omega
    have e1 : dsw X V (j + 1) = d1 X (dsw X V j) (X.length - 1 - j) := rfl
    generalize hK : X.length - 1 - j = k at *
    obtain ⟨s', ha1, ha2, -⟩ := r_nF (N := N) (k := k) hN hp hx hm hok h60 hl hb hv (by omega)
    generalize dsw X V j = s at *
    have fC : fr (fun a _ => a = 250) B (zsl B 250 k (nF X s.1 k)) := fr_sl rfl
    have hvC : VC (zsl B 250 k (nF X s.1 k)) 250 X (dsw X V (j + 1)).1 := fun q hq => by
      rw [e1, zml_sl]
      show _ = udV s.1 k (nF X s.1 k) q
      unfold udV
      by_cases c : q = k
      · rw [if_pos ⟨rfl, c⟩, if_pos c]
      · rw [if_neg (fun z => c z.2), if_neg c]; exact hv q hq
    obtain ⟨D, d1', d2, d3⟩ := ih (j + 1) u (zsl B 250 k (nF X s.1 k)) (by omega) (by omega) (hx.fr (by omega) fC (fun a e z y => by unfold qRo at y; omega)) (fun q hq q8 => by rw [fC.e (by decide)]; exact hm q hq q8) hvC
    refine ⟨D, ?_, fC.trans d2, d3⟩
    rw [← d1', ek]
    show z_M_dead_68_b r57 (z_M_dead_68_l r57 N u) N p X.length s.2 (k : Int) B = _
    unfold z_M_dead_68_b
    rw [if_neg (by omega), ha1, zbJ_s, ha2, zbJ_s, e1]
    have e91 : z_M_dead_106 r57 (z_M_dead_68_l r57 N u) N p X.length k (nF X s.1 k) B = z_M_dead_68_l r57 N u p X.length 1 ((X.length : Int) - 1 - ((j + 1 : Nat) : Int)) (zsl B 250 k (nF X s.1 k)) := by
      unfold z_M_dead_106
      rw [zwl_ok (by omega) (by omega), wz, Int.toNat_natCast]
    have e2 : (d1 X s k).2 = if s.2 = 0 ∧ nF X s.1 k = s.1 k then 0 else 1 := rfl
    rw [e2]
    by_cases c0 : s.2 = 0
    · rw [if_pos c0, zrl_ok (by omega) (by omega), Int.toNat_natCast, hv k (by omega)]
      by_cases c1 : nF X s.1 k = s.1 k
      · rw [if_pos ((lg_cmp_z _ _).mpr c1), if_pos ⟨c0, c1⟩, zwl_ok (by omega) (by omega), wz, Int.toNat_natCast]
      · rw [if_neg (fun z => c1 ((lg_cmp_z _ _).mp z)), if_neg (fun z => c1 z.2), e91]
    · rw [if_neg c0, if_neg (fun z => c0 z.1), e91]
theorem r_drounds {nd : Int → Nat} {n n0 : Nat} {c : Int64} (hN : 300000 ≤ N) (hp : p < 4) (hok : okL T p' h X) (h60 : h ≤ 60) (hl : X.length ≤ 150) (hb : bal nd n X) (hn0 : n0 ≤ 9000) (hg0 : dG X c n0 = 0) (hg1 : ∀ m, m < n0 → dG X c m = 1) (hR1 : dR X c (n0 + 1) = dF X c) : ∀ (r m f : Nat) (B : zA), m + r = n0 → r + 1 < f → RP B p X g → RMz B p X → VC B 250 X (dR X c m) → ∃ C, z_M_dead_57_l N f p X.length 1 B = z_M_dead_130 N p X.length C ∧ fr (fun a _ => a = 250) B C ∧ VC C 250 X (dF X c) := by
  intro r
  induction r with
  | zero =>
    intro m f B h1 h2 hx hm hv
    obtain ⟨u, rfl⟩ : ∃ u, f = u + 1 + 1 := ⟨f - 2, by omega⟩
    have : m = n0 := by omega
    subst this
    show ∃ C, z_M_dead_57_b (z_M_dead_57_l N (u + 1)) N p X.length 1 B = _ ∧ _
    unfold z_M_dead_57_b
    rw [if_neg (by decide), yb_w (by omega) (by omega)]
    obtain ⟨C, c1, c2, c3⟩ := r_sweep (N := N) (r57 := z_M_dead_57_l N (u + 1)) (V := dR X c m) hN hp hok h60 (by omega) hb X.length 0 N B (by omega) (by omega) hx hm hv
    unfold z_M_dead_68
    have e0 : (dsw X (dR X c m) 0).2 = 0 := rfl
    rw [e0, show (X.length : Int) - 1 - ((0 : Nat) : Int) = (X.length : Int) - 1 by omega] at c1
    have e3 : (dsw X (dR X c m) X.length).2 = 0 := hg0
    rw [e3] at c1
    rw [c1]
    refine ⟨C, ?_, c2, ?_⟩
    · show z_M_dead_57_b (z_M_dead_57_l N u) N p X.length 0 C = _
      unfold z_M_dead_57_b
      rw [if_pos rfl]
    · rw [← hR1]; exact c3
  | succ r ih =>
    intro m f B h1 h2 hx hm hv
    obtain ⟨u, rfl⟩ : ∃ u, f = u + 1 := ⟨f - 1, by omega⟩
    show ∃ C, z_M_dead_57_b (z_M_dead_57_l N u) N p X.length 1 B = _ ∧ _
    unfold z_M_dead_57_b
    rw [if_neg (by decide), yb_w (by omega) (by omega)]
    obtain ⟨C, c1, c2, c3⟩ := r_sweep (N := N) (r57 := z_M_dead_57_l N u) (V := dR X c m) hN hp hok h60 (by omega) hb X.length 0 N B (by omega) (by omega) hx hm hv
    unfold z_M_dead_68
    have e0 : (dsw X (dR X c m) 0).2 = 0 := rfl
    rw [e0, show (X.length : Int) - 1 - ((0 : Nat) : Int) = (X.length : Int) - 1 by omega] at c1
    have e3 : (dsw X (dR X c m) X.length).2 = 1 := hg1 m (by omega)
    rw [e3] at c1
    rw [c1]
    obtain ⟨D, d1', d2, d3⟩ := ih (m + 1) u C (by omega) (by omega) (hx.fr (by omega) c2 (fun a e z y => by unfold qRo at y; omega)) (fun q hq q8 => by rw [c2.e (by decide)]; exact hm q hq q8) c3
    exact ⟨D, d1', c2.trans d2, d3⟩
theorem r_dfill (hl : X.length ≤ 150) : ∀ (r k f : Nat) (B : zA), k + r = X.length → r < f → ∃ C, z_M_dead_19_l N f p X.length k B = z_M_dead_37 N p X.length C ∧ fr (fun a _ => a = 250) B C ∧ ∀ q : Nat, zml C 250 q = if k ≤ q ∧ q < X.length then Int64.ofNat 0 else zml B 250 q := by
  intro r
  induction r with
  | zero =>
    intro k f B h1 h2
    obtain ⟨u, rfl⟩ : ∃ u, f = u + 1 := ⟨f - 1, by omega⟩
    refine ⟨B, ?_, fr.refl _ _, fun q => by rw [if_neg (by omega)]⟩
    show z_M_dead_19_b (z_M_dead_19_l N u) N p X.length k B = _
    unfold z_M_dead_19_b
    rw [if_neg (by omega)]
  | succ r ih =>
    intro k f B h1 h2
    obtain ⟨u, rfl⟩ : ∃ u, f = u + 1 := ⟨f - 1, by omega⟩
    have w1 : zw ((k : Int) + 1) = ((k + 1 : Nat) : Int) := by rw [yb_w (by omega) (by omega)]; omega
    have f1 : fr (fun a _ => a = 250) B (zsl B 250 k (Int64.ofNat 0)) := fr_sl rfl
    obtain ⟨C, c1, c2, c3⟩ := ih (k + 1) u (zsl B 250 k (Int64.ofNat 0)) (by omega) (by omega)
    refine ⟨C, ?_, f1.trans c2, fun q => ?_⟩
    · rw [← c1]
      show z_M_dead_19_b (z_M_dead_19_l N u) N p X.length k B = _
      unfold z_M_dead_19_b
      rw [if_pos (by omega), zwl_ok (by omega) (by omega), w1, Int.toNat_natCast]
    · rw [c3, zml_sl]
      by_cases c : q = k
      · subst c
        rw [if_neg (by omega), if_pos ⟨rfl, rfl⟩, if_pos (by omega)]
      · rw [if_neg (show ¬ (250 = 250 ∧ q = k) from fun z => c z.2)]
        by_cases c2 : k + 1 ≤ q ∧ q < X.length
        · rw [if_pos c2, if_pos (by omega)]
        · rw [if_neg c2, if_neg (by omega)]
/-- what is kept -/
theorem r_drop_run {nd : Int → Nat} {n c0 : Nat} {G : zA} (hN : 300000 ≤ N) (hp : p < 4) (hok : okL T p' h X) (h60 : h ≤ 60) (hl : X.length ≤ 150) (hb : bal nd n X) (hc0 : c0 ≤ 100000) : ∀ (r k f : Nat) (B : zA), k + r = X.length → r < f → fr (qIn p) G B → RP B p X g → RMz B p X → VC B 250 X V → RP B (4 + p) (ddS X V k) g → zi B 226 33 = ((c0 + (k - (ddS X V k).length) : Nat) : Int) → ∃ C, z_M_dead_144_l N f p X.length k B = some C ∧ fr (qIn p) G C ∧ RP C (4 + p) (ddS X V X.length) g ∧ zi C 226 33 = ((c0 + (X.length - (ddS X V X.length).length) : Nat) : Int) := by
  intro r
  induction r with
  | zero =>
    intro k f B h1 h2 hF hx hm hv hc h33
    obtain ⟨u, rfl⟩ : ∃ u, f = u + 1 := ⟨f - 1, by omega⟩
    have : k = X.length := by omega
    subst this
    refine ⟨B, ?_, hF, hc, h33⟩
    show z_M_dead_144_b (z_M_dead_144_l N u) N p X.length (X.length : Nat) B = _
    unfold z_M_dead_144_b
    rw [if_neg (by omega)]
  | succ r ih =>
    intro k f B h1 h2 hF hx hm hv hc h33
    obtain ⟨u, rfl⟩ : ∃ u, f = u + 1 := ⟨f - 1, by omega⟩
    have hk : k < X.length := by omega
    have w1 : zw ((k : Int) + 1) = ((k + 1 : Nat) : Int) := by rw [yb_w (by omega) (by omega)]; omega
    obtain ⟨l1, -, -, -⟩ := ddS_inv (X := X) (V := V) k (by omega)
    have hoi := hok _ (itm_mem hk)
    have hpl := rp_plain (N := N) (z := 0) (p := p) (r := p) (by omega) hp (by omega) hx hoi hk (by omega)
    have hwr := rp_writ (N := N) (z := 0) (p := p) (r := p) (by omega) hp (by omega) hx hoi hk (by omega)
    rw [show ((0 : Nat) : Int) = 0 from rfl] at hpl hwr
    have hs : ddS X V (k + 1) = cif (hrm (itm X k) ∧ bt (V (k + 1)) (wri (itm X k)).toNat = false) (ddS X V k) (ddS X V k ++ [itm X k]) := rfl
    have go : ∀ C, fr (qIn p) B C → RP C (4 + p) (ddS X V (k + 1)) g → zi C 226 33 = ((c0 + (k + 1 - (ddS X V (k + 1)).length) : Nat) : Int) → ∃ D, z_M_dead_144_l N u p X.length ((k + 1 : Nat) : Int) C = some D ∧ fr (qIn p) G D ∧ RP D (4 + p) (ddS X V X.length) g ∧ zi D 226 33 = ((c0 + (X.length - (ddS X V X.length).length) : Nat) : Int) := fun C fC hC h3 => ih (k + 1) u C (by omega) (by omega) (hF.trans fC) (hx.fr (by omega) fC (fun a e z y => by unfold qIn qRo at z; unfold qRo at y; omega)) (fun q hq q8 => by rw [fC.e (fun z => by unfold qIn qRo at z; omega)]; exact hm q hq q8) (fun q hq => by rw [fC.l (fun z => by unfold qIn qRo at z; omega)]; exact hv q hq) hC h3
    have kp : ¬ (hrm (itm X k) ∧ bt (V (k + 1)) (wri (itm X k)).toNat = false) → ∃ C, z_M_dead_197 (z_M_dead_144_l N u) N p X.length k B = some C ∧ fr (qIn p) G C ∧ RP C (4 + p) (ddS X V X.length) g ∧ zi C 226 33 = ((c0 + (X.length - (ddS X V X.length).length) : Nat) : Int) := fun hn => by
      rw [cif_neg hn] at hs
      obtain ⟨C, c1, c2, c3⟩ := RP_keep (N := N) hN hp hc hx (by omega) hk (by omega)
      unfold z_M_dead_197
      rw [c1, zbV_s, w1]
      refine go C (c3.mono (fun a j z => Or.inl z)) (by rw [hs]; exact c2) ?_
      rw [hs, c3.i (fun z => by unfold qRo at z; omega), h33, List.length_append]
      show _ = ((c0 + (k + 1 - ((ddS X V k).length + 1)) : Nat) : Int)
      omega
    show ∃ C, z_M_dead_144_b (z_M_dead_144_l N u) N p X.length k B = _ ∧ _
    unfold z_M_dead_144_b
    rw [if_pos (by omega), hpl, zbP_s]
    by_cases ch : hrm (itm X k)
    · obtain ⟨d, hd, hd6⟩ := wri_rg hoi h60 (hrm_wri hoi ch)
      obtain ⟨s, s1, -, s3⟩ := r_nF (N := N) (k := k) hN hp hx hm hok h60 hl hb hv hk
      have s3 := s3 (by unfold hrm at ch; omega)
      subst s3
      rw [cif_pos ch, if_neg (show ¬ (1 : Int) = 0 by decide), s1, zbJ_s, hwr, zbP_s, hd]
      rw [hd, Int.toNat_natCast] at kp hs
      by_cases cb : bt (V (k + 1)) d = false
      · rw [cif_pos ⟨ch, cb⟩] at hs
        rw [if_pos ((cbit0 _ (by omega)).mpr cb), zlet_s, w1]
        have f1 : fr (fun a j => a = 226 ∧ j = 33) B (zsi B 226 33 (zi B 226 33 + 1)) := fr_si ⟨rfl, rfl⟩
        refine go _ (f1.mono (fun a j z => Or.inr z)) (by rw [hs]; exact hc.fr (by omega) f1 (fun a q z y => by unfold qRo at y; omega)) ?_
        rw [hs, zi_si_s, h33, yb_w (by omega) (by omega)]
        omega
      · rw [if_neg (fun z => cb ((cbit0 _ (by omega)).mp z))]
        exact kp (fun z => cb z.2)
    · rw [cif_neg ch, if_pos rfl]
      exact kp (fun z => ch z.1)
def qDe (p : Nat) (a j : Nat) : Prop := qIn p a j ∨ a = 231 ∨ a = 233 ∨ a = 250
theorem r_dead {Q Qn QB : Pr} {c0 : Nat} (hN : 300000 ≤ N) (hG : GQ Q) (hp : exP Q p) (h : RPG A Qn QB) (hs : RSt A 1 Q) (hT : Qn.1 = Q.1) (h1 : Qn.2.1 p = Q.2.1 p) (h2 : Qn.2.2 p = Q.2.2 p) (hc0 : c0 ≤ 100000) (h33 : zi A 226 33 = c0) : ∃ B, z_M_dead N p A = some B ∧ RSt B 1 (deaQ Q p) ∧ zi B 226 33 = ((c0 + ((Q.2.1 p).length - (deaL (Q.2.1 p) p).length) : Nat) : Int) ∧ RL B 1 ∧ fr (qDe p) A B := by
  have hp3 := exP3 hG.1 hp
  have hpn : exP Qn p := by unfold exP at *; omega
  have hX := rst_rp h.1 hpn
  rw [h1, h2, show 4 * 0 + p = p by omega] at hX
  obtain ⟨g7, g60, hl, gok⟩ := hG.1.2 p hp
  have hb := hG.n.2.1 p hp
  have hx1 := rst_rp hs hp
  obtain ⟨B, b1, b2, b3⟩ := r_matchL (N := N) (A := A) (z := 0) (p := p) (r := p) hN (by omega) (by omega) (by omega) hX (by omega) hb
  rw [show ((0 : Nat) : Int) = 0 from rfl] at b1
  have hXB := hX.fr (by omega) b3 (fun a q z y => by unfold qRo at y; omega)
  have hxn := hXB.1
  obtain ⟨C, c1, c2, c3⟩ := r_dfill (N := N) (p := p) (X := Q.2.1 p) (by omega) (Q.2.1 p).length 0 N B (by omega) (by omega)
  rw [show ((0 : Nat) : Int) = 0 from rfl] at c1
  have hcc : dcB p = Int64.ofNat 0 ∨ dcB p = Int64.ofNat 63 := by
    unfold dcB
    by_cases e : p = 3
    · rw [if_pos e]; exact Or.inl rfl
    · rw [if_neg e]; exact Or.inr rfl
  obtain ⟨n0, n1, n2, n3, n4, n5⟩ := dR_end (c := dcB p) gok g60 hl hcc
  have fD : fr (fun a _ => a = 250) C (zsl C 250 (Q.2.1 p).length (dcB p)) := fr_sl rfl
  have f1 : fr (fun a j => a = 250) B (zsl C 250 (Q.2.1 p).length (dcB p)) := c2.trans fD
  have vD : VC (zsl C 250 (Q.2.1 p).length (dcB p)) 250 (Q.2.1 p) (dR (Q.2.1 p) (dcB p) 0) := fun q hq => by
    rw [zml_sl, c3]
    unfold dR
    by_cases e : q = (Q.2.1 p).length
    · rw [if_pos ⟨rfl, e⟩, if_pos e]
    · rw [if_neg (fun z => e z.2), if_pos (by omega), if_neg e]
  have e37 : z_M_dead_37 N p (Q.2.1 p).length C = z_M_dead_57 N p (Q.2.1 p).length 1 (zsl C 250 (Q.2.1 p).length (dcB p)) := by
    unfold z_M_dead_37 dcB
    by_cases e : p = 3
    · rw [if_pos (by omega), zwl_ok (by omega) (by omega), Int.toNat_natCast, if_pos e]
    · rw [if_neg (by omega), zwl_ok (by omega) (by omega), Int.toNat_natCast, if_neg e]
  generalize zsl C 250 (Q.2.1 p).length (dcB p) = D at *
  have mD : RMz D p (Q.2.1 p) := fun q hq q8 => by rw [f1.e (by decide)]; exact b2 q hq q8
  obtain ⟨E, e1, e2, e3⟩ := r_drounds (N := N) (c := dcB p) hN (show p < 4 by omega) gok g60 hl hb n1 n2 n3 n5 n0 0 N D (by omega) (by omega) (hXB.fr (by omega) f1 (fun a q z y => by unfold qRo at y; omega)) mD vD
  have fE : fr (fun a _ => a = 250) B E := f1.trans e2
  have f9 : fr (fun a j => a = 229 ∧ j = 4 + p) E (rs E 229 ((4 + p : Nat) : Int) 0) := fr_rs ⟨rfl, by omega⟩
  have v9 : ri (rs E 229 ((4 + p : Nat) : Int) 0) 229 ((4 + p : Nat) : Int) = 0 := by rw [ri_rs_s]; decide
  have v9' : ∀ q, zml (rs E 229 ((4 + p : Nat) : Int) 0) 250 q = zml E 250 q := fun q => rfl
  have e130 : z_M_dead_130 N p (Q.2.1 p).length E = z_M_dead_144 N p (Q.2.1 p).length 0 (rs E 229 ((4 + p : Nat) : Int) 0) := by
    unfold z_M_dead_130
    rw [z_M_row_e (by omega) (by omega), zbP_s, zwr_ok (by omega) (by omega), show (4 : Int) * 1 + p = ((4 + p : Nat) : Int) by omega]
  generalize rs E 229 ((4 + p : Nat) : Int) 0 = F at *
  have hXE := hXB.fr (by omega) fE (fun a q z y => by unfold qRo at y; omega)
  have r4 : ri F 230 ((4 + p : Nat) : Int) = (Q.2.2 p : Int) := by
    rw [f9.e (fun z => by omega), fE.e (by decide), b3.e (fun z => by omega)]
    exact hx1.2.1
  obtain ⟨K, k1, k2, k3, k4⟩ := r_drop_run (N := N) (G := F) (V := dF (Q.2.1 p) (dcB p)) (c0 := c0) hN (show p < 4 by omega) gok g60 hl hb hc0 (Q.2.1 p).length 0 N F (by omega) (by omega) (fr.refl _ _) (hXE.fr (by omega) f9 (fun a q z y => by unfold qRo at y; omega)) (fun q hq q8 => by rw [f9.e (fun z => by omega), fE.e (by decide)]; exact b2 q hq q8) (fun q hq => by rw [v9']; exact e3 q hq) ⟨v9, r4, fun k hk => absurd hk (Nat.not_lt_zero k)⟩ (by rw [f9.i (fun z => by omega), fE.i (by decide), b3.i (fun z => by omega), h33]; rfl)
  have fK : fr (qDe p) A K := (((b3.mono (fun a j z => by
    rcases z with z | z
    · exact Or.inr (Or.inl z.1)
    · exact Or.inr (Or.inr (Or.inl z)))).trans (fE.mono (fun a j z => Or.inr (Or.inr (Or.inr z))))).trans (f9.mono (fun a j z => Or.inl (Or.inl (Or.inr ⟨Or.inl z.1, z.2⟩))))).trans (k2.mono (fun a j z => Or.inl z))
  refine ⟨K, ?_, rst_put hG.1 hs fK (fun q hq hq4 a j z y => by unfold qDe qIn qRo at z; unfold qRo at y; omega) k3, k4, fun q hq => ?_, fK⟩
  · unfold z_M_dead z_M_dead_19
    rw [b1, zbV_s, z_M_row_e (by omega) (by omega), zbP_s, zrd_ok (by omega) (by omega), show (4 : Int) * 0 + p = p by omega, hxn, c1, e37]
    unfold z_M_dead_57
    rw [e1, e130]
    exact k1
  · by_cases e : q = p
    · subst e
      have := k3.1
      have l := (deaL_inv (X := Q.2.1 q) (p := q)).1
      unfold deaL at l
      unfold rn
      rw [show (4 : Int) * ((1 : Nat) : Int) + q = ((4 + q : Nat) : Int) by omega, this]
      omega
    · have : rn K (4 * ((1 : Nat) : Int) + q) = rn A (4 * ((1 : Nat) : Int) + q) := fK.e (fun z => by unfold qDe qIn qRo at z; omega)
      rw [this]
      exact h.2.2.2.2.1 q hq
end
