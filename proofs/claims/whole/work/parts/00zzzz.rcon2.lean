/-! CONSTANTS of the reference: plain items, turns -/
section
variable {N : Nat} {A : zA} {X : List It} {g p T p' L c0 : Nat} {s : KS}
def RoS (A : zA) (p : Nat) (X : List It) (g c0 : Nat) (s : KS) : Prop := RP A p X g ∧ RMz A p X ∧ RP A (4 + p) s.2.1 g ∧ KnR A s.1 ∧ zi A 226 33 = ((c0 + s.2.2 : Nat) : Int)
theorem qK_row {a j : Nat} (h : a = 239 ∨ a = 240 ∨ (241 ≤ a ∧ a ≤ 245)) : ¬ qRo p a j ∧ ¬ qRo (4 + p) a j ∧ a ≠ 231 ∧ a ≠ 226 := by unfold qRo; omega
/-- cells 239..245 change -/
theorem RoS.fr {F : Nat → Nat → Prop} {B : zA} {kn : Kn} (h : RoS A p X g c0 s) (hl : X.length ≤ 240) (hl2 : s.2.1.length ≤ 240) (f : fr F A B) (hF : ∀ a j, F a j → 239 ≤ a ∧ a ≤ 245) (hk : KnR B kn) : RoS B p X g c0 (kn, s.2) := by
  obtain ⟨h1, h2, h3, h4, h5⟩ := h
  have no : ∀ a j, F a j → ¬ qRo p a j ∧ ¬ qRo (4 + p) a j := fun a j z => by
    have := hF a j z
    unfold qRo; omega
  exact ⟨h1.fr hl f (fun a j z => (no a j z).1), fun k hk k8 => by rw [f.e (fun z => by have := hF _ _ z; omega)]; exact h2 k hk k8, h3.fr hl2 f (fun a j z => (no a j z).2), hk, by rw [f.i (fun z => by have := hF _ _ z; omega)]; exact h5⟩
theorem ros_keep {k : Nat} (h : RoS A p X g c0 s) (hN : 300000 ≤ N) (hp : p < 4) (hl : X.length ≤ 150) (hl2 : s.2.1.length < 240) (hk : k < X.length) : ∃ B, z_M_keep N p k A = some B ∧ RoS B p X g c0 (s.1, s.2.1 ++ [itm X k], s.2.2) ∧ fr (qRo (4 + p)) A B := by
  obtain ⟨h1, h2, h3, h4, h5⟩ := h
  obtain ⟨B, b1, b2, b3⟩ := RP_keep (N := N) hN hp h3 h1 hl2 hk (by omega)
  refine ⟨B, b1, ⟨h1.fr (by omega) b3 (fun a j z y => by unfold qRo at z y; omega), fun k hk k8 => by rw [b3.e (fun z => by unfold qRo at z; omega)]; exact h2 k hk k8, b2, h4.fr b3 (fun r z => by unfold qRo at z; omega) (fun r z => by unfold qRo at z; omega), by rw [b3.i (fun z => by unfold qRo at z; omega)]; exact h5⟩, b3⟩
theorem r_learn {d : Nat} {v : Int} {kn : Kn} (hd : d < 60) (hv1 : -2147483648 ≤ v) (hv2 : v < 2147483648) (h : KnR A kn) : ∃ B, z_M_learn N d v A = some B ∧ KnR B (kset kn d (some v)) ∧ fr (fun a _ => a = 239 ∨ a = 240) A B := by
  refine ⟨rs (rs A 239 d 1) 240 d v, ?_, fun r hr => ?_, (fr_rs (Or.inl rfl)).trans (fr_rs (Or.inr rfl))⟩
  · unfold z_M_learn
    rw [zwr_ok (by omega) (by omega), zwr_ok (by omega) (by omega)]
  · unfold kset
    by_cases c : r = d
    · subst c
      rw [if_pos rfl, ri_rs_o (by decide), ri_rs_s, ri_rs_s, yb_w hv1 hv2]
      exact ⟨fun u e => ⟨by decide, Option.some.inj e⟩, fun e => (by cases e)⟩
    · rw [if_neg c, ri_rs_o (by decide), ri_rs_n (by omega) (by omega) (by omega), ri_rs_n (by omega) (by omega) (by omega), ri_rs_o (by decide)]
      exact h r hr
theorem r_forget {d : Nat} {kn : Kn} (hd : d < 60) (h : KnR A kn) : ∃ B, z_M_forget N d A = some B ∧ KnR B (kset kn d none) ∧ fr (fun a _ => a = 239) A B := by
  refine ⟨rs A 239 d 0, ?_, fun r hr => ?_, fr_rs rfl⟩
  · unfold z_M_forget
    rw [zwr_ok (by omega) (by omega)]
  · unfold kset
    by_cases c : r = d
    · subst c
      rw [if_pos rfl, ri_rs_s]
      exact ⟨fun u e => (by cases e), fun _ => by decide⟩
    · rw [if_neg c, ri_rs_n (by omega) (by omega) (by omega), ri_rs_o (by decide)]
      exact h r hr
theorem r_fg6 {kn : Kn} : ∀ (r i f : Nat) (B : zA), i + r = 6 → r < f → KnR B (fun q => if q < i then none else kn q) → ∃ C, z_M_simple_226_l N f i B = some C ∧ KnR C (kfg kn) ∧ fr (fun a _ => a = 239) B C := by
  intro r
  induction r with
  | zero =>
    intro i f B h1 h2 hk
    obtain ⟨u, rfl⟩ : ∃ u, f = u + 1 := ⟨f - 1, by omega⟩
    have : i = 6 := by omega
    subst this
    refine ⟨B, ?_, hk, fr.refl _ _⟩
    show z_M_simple_226_b (z_M_simple_226_l N u) N (6 : Nat) B = _
    unfold z_M_simple_226_b
    rw [if_neg (by decide)]
  | succ r ih =>
    intro i f B h1 h2 hk
    obtain ⟨u, rfl⟩ : ∃ u, f = u + 1 := ⟨f - 1, by omega⟩
    have w1 : zw ((i : Int) + 1) = ((i + 1 : Nat) : Int) := by rw [yb_w (by omega) (by omega)]; omega
    obtain ⟨C, c1, c2, c3⟩ := r_forget (N := N) (d := i) (by omega) hk
    have e : kset (fun q => if q < i then none else kn q) i none = fun q => if q < i + 1 then none else kn q := by
      funext q
      unfold kset
      by_cases z : q = i
      · rw [if_pos z, if_pos (by omega)]
      · rw [if_neg z]
        dsimp only
        by_cases y : q < i
        · rw [if_pos y, if_pos (by omega)]
        · rw [if_neg y, if_neg (by omega)]
    rw [e] at c2
    obtain ⟨D, d1, d2, d3⟩ := ih (i + 1) u C (by omega) (by omega) c2
    refine ⟨D, ?_, d2, c3.trans d3⟩
    rw [← d1]
    show z_M_simple_226_b (z_M_simple_226_l N u) N i B = _
    unfold z_M_simple_226_b
    rw [if_pos (by omega), c1, zbV_s, w1]
def qPl (p : Nat) (a j : Nat) : Prop := qIn p a j ∨ a = 239 ∨ a = 240
/-- a plain item, or a CALL -/
theorem r_simple {k : Nat} (hN : 300000 ≤ N) (hp : p < 4) (h : RoS A p X g c0 s) (hi : okI T p' g (itm X k)) (hg : g ≤ 60) (hk : k < X.length) (hl : X.length ≤ 150) (hkn : okK s.1) (hl2 : s.2.1.length < 240) (h7 : (itm X k).1 ≤ 7) (hch : c0 + s.2.2 ≤ 1000000) : ∃ B, z_M_simple N p k A = some B ∧ RoS B p X g c0 (plS1 (itm X k) s) ∧ fr (qPl p) A B := by
  obtain ⟨h1, h2, h3, h4, h5⟩ := id h
  obtain ⟨o1, o2, o3, o4, o5⟩ := id hi
  have hvk := nbk_v o1 o2
  have hx0 : 0 ≤ (4 : Int) * 0 + p ∧ (4 : Int) * 0 + p < 12 := by omega
  have fld : ∀ i : Int, 0 ≤ i → i < 5 → z_M_field N 0 p k i A = some (ri A 228 (rad p k i)) := fun i i0 i5 => by
    rw [z_M_field_e (by omega) (by omega) (by omega) (by omega) i0 i5, show (4 : Int) * 0 + p = p by omega]
  have hkd : ri A 228 (rad p k 0) = (itm X k).1 := (h1.2.2 k hk).1
  have num : ∀ i : Nat, i < nbk (itm X k).1 → ri A 228 (rad p k ((i : Int) + 1)) = ig (itm X k) (i + 1) := fun i hin => (h1.2.2 k hk).2 i hin
  have n1 : 1 ≤ nbk (itm X k).1 → ri A 228 (rad p k 1) = ig (itm X k) 1 := fun z => num 0 (by omega)
  have n2 : 2 ≤ nbk (itm X k).1 → ri A 228 (rad p k 2) = ig (itm X k) 2 := fun z => num 1 (by omega)
  have n3 : 3 ≤ nbk (itm X k).1 → ri A 228 (rad p k 3) = ig (itm X k) 3 := fun z => num 2 (by omega)
  have n4 : 4 ≤ nbk (itm X k).1 → ri A 228 (rad p k 4) = ig (itm X k) 4 := fun z => num 3 (by omega)
  have rg : ∀ i : Nat, i < nbk (itm X k).1 → isr (itm X k).1 i → 0 ≤ ig (itm X k) (i + 1) ∧ ig (itm X k) (i + 1) < g := fun i hin hr => (o3 i hin).2.2 hr
  -- it is kept
  have k0 : ∀ x8 : Int, plI s.1 (itm X k) = itm X k → plC s.1 (itm X k) = 0 → ((itm X k).1 = 0 ∨ vw s.1 (itm X k) = none) → ∃ B, z_M_simple_159 N p k (itm X k).1 (ri A 228 (rad p k 1)) (ri A 228 (rad p k 2)) 0 x8 A = some B ∧ RoS B p X g c0 (plS1 (itm X k) s) ∧ fr (qPl p) A B := fun x8 hpI hpC hv => by
    obtain ⟨B, b1, b2, b3⟩ := ros_keep (N := N) h hN hp hl hl2 hk
    have hS1 : plS1 (itm X k) s = (plK s.1 (itm X k), s.2.1 ++ [itm X k], s.2.2) := by unfold plS1; rw [hpI, hpC]; rfl
    have ll : (s.2.1 ++ [itm X k]).length ≤ 240 := by rw [List.length_append]; show _ + 1 ≤ 240; omega
    have fin : ∀ (C : zA) (F : Nat → Nat → Prop), fr F B C → (∀ a j, F a j → a = 239 ∨ a = 240) → KnR C (plK s.1 (itm X k)) → RoS C p X g c0 (plS1 (itm X k) s) ∧ fr (qPl p) A C := fun C F f hF hK => by
      rw [hS1]
      refine ⟨b2.fr (by omega) ll f (fun a j z => by have := hF a j z; omega) hK, (b3.mono (fun a j z => Or.inl (Or.inl z))).trans (f.mono (fun a j z => Or.inr (hF a j z)))⟩
    unfold z_M_simple_159
    rw [if_pos rfl, b1, zbV_s]
    by_cases c0' : (itm X k).1 = 0
    · have r0 := rg 0 (by omega) ⟨by omega, by omega, by omega⟩
      have r0 : 0 ≤ ig (itm X k) 1 ∧ ig (itm X k) 1 < g := r0
      obtain ⟨v1, v2, -⟩ := o3 1 (by omega)
      obtain ⟨d, hd⟩ : ∃ d : Nat, ig (itm X k) 1 = d := ⟨(ig (itm X k) 1).toNat, by omega⟩
      obtain ⟨C, c1, c2, c3⟩ := r_learn (N := N) (d := d) (v := ig (itm X k) 2) (by omega) v1 v2 b2.2.2.2.1
      rw [if_pos c0', n1 (by omega), n2 (by omega), hd, c1, zbV_s]
      have hK : plK s.1 (itm X k) = kset s.1 d (some (ig (itm X k) 2)) := by
        have hw : wri (itm X k) = d := by unfold wri; rw [if_pos (by omega)]; exact hd
        unfold plK
        rw [if_neg (by omega), hw, Int.toNat_natCast]
        unfold vw
        rw [if_pos c0']
      exact ⟨C, rfl, fin C _ c3 (fun a j z => z) (by rw [hK]; exact c2)⟩
    · have hvn : vw s.1 (itm X k) = none := hv.elim (fun z => absurd z c0') id
      rw [if_neg c0']
      by_cases c7 : (itm X k).1 = 7
      · obtain ⟨C, c1, c2, c3⟩ := r_fg6 (N := N) (kn := s.1) 6 0 N B (by omega) (by omega) (by
          have : (fun q => if q < 0 then none else s.1 q) = s.1 := by funext q; rw [if_neg (by omega)]
          rw [this]; exact b2.2.2.2.1)
        rw [if_pos c7]
        have hK : plK s.1 (itm X k) = kfg s.1 := by
          unfold plK
          rw [if_pos (by rw [wri_7 c7]; decide), if_pos c7]
        exact ⟨C, c1, fin C _ c3 (fun a j z => Or.inl z) (by rw [hK]; exact c2)⟩
      · have hwr := rp_writ (N := N) (z := 0) (p := p) (r := p) (by omega) hp (by omega) b2.1 hi hk (by omega)
        rw [show ((0 : Nat) : Int) = 0 from rfl] at hwr
        rw [if_neg c7, hwr, zbP_s]
        by_cases cw : wri (itm X k) < 0
        · rw [if_pos cw]
          have hK : plK s.1 (itm X k) = s.1 := by
            unfold plK
            rw [if_pos cw, if_neg c7]
          exact ⟨B, rfl, fin B (fun _ _ => False) (fr.refl _ _) (fun a j z => z.elim) (by rw [hK]; exact b2.2.2.2.1)⟩
        · obtain ⟨d, hd, hd6⟩ := wri_rg hi hg cw
          have hw1 : ig (itm X k) 1 = d := by
            unfold wri at hd cw
            by_cases z : (itm X k).1 ≤ 3 ∨ (itm X k).1 = 5
            · rw [if_pos z] at hd; exact hd
            · rw [if_neg z] at cw; exact absurd (by decide) cw
          have hn1 : 1 ≤ nbk (itm X k).1 := by
            unfold wri at cw
            by_cases z : (itm X k).1 ≤ 3 ∨ (itm X k).1 = 5
            · omega
            · rw [if_neg z] at cw; exact absurd (by decide) cw
          obtain ⟨C, c1, c2, c3⟩ := r_forget (N := N) (d := d) hd6 b2.2.2.2.1
          rw [if_neg cw, n1 hn1, hw1, c1, zbV_s]
          have hK : plK s.1 (itm X k) = kset s.1 d none := by
            unfold plK
            rw [if_neg cw, hd, Int.toNat_natCast, hvn]
          exact ⟨C, rfl, fin C _ c3 (fun a j z => Or.inl z) (by rw [hK]; exact c2)⟩
  -- it becomes CONST
  have k1 : ∀ v : Int, vw s.1 (itm X k) = some v → ((itm X k).1 = 1 ∨ (itm X k).1 = 2) → ∃ B, z_M_simple_159 N p k (itm X k).1 (ri A 228 (rad p k 1)) (ri A 228 (rad p k 2)) 1 v A = some B ∧ RoS B p X g c0 (plS1 (itm X k) s) ∧ fr (qPl p) A B := fun v hv hk12 => by
    obtain ⟨v1, v2⟩ := vw_rg hi hkn hv
    have r0 := rg 0 (by omega) ⟨by omega, by omega, by omega⟩
    have r0 : 0 ≤ ig (itm X k) 1 ∧ ig (itm X k) 1 < g := r0
    obtain ⟨d, hd⟩ : ∃ d : Nat, ig (itm X k) 1 = d := ⟨(ig (itm X k) 1).toNat, by omega⟩
    have hw : wri (itm X k) = d := by unfold wri; rw [if_pos (by omega)]; exact hd
    have hpI : plI s.1 (itm X k) = (0, (d : Int), v, 0, 0) := by unfold plI; rw [hv]; dsimp only; rw [if_neg (by omega), hw]
    have hpC : plC s.1 (itm X k) = 1 := by unfold plC; rw [hv]; dsimp only; rw [if_neg (by omega)]
    have hK : plK s.1 (itm X k) = kset s.1 d (some v) := by unfold plK; rw [if_neg (by omega), hw, Int.toNat_natCast, hv]
    have hS1 : plS1 (itm X k) s = (kset s.1 d (some v), s.2.1 ++ [(0, (d : Int), v, 0, 0)], s.2.2 + 1) := by unfold plS1; rw [hpI, hpC, hK]
    obtain ⟨B, b1, b2, b3⟩ := RP_emit (N := N) (x3 := 0) (x4 := (d : Int)) (x5 := v) (x6 := 0) (x7 := 0) hp h3 hl2 (by decide) (yb_w (by omega) (by omega)) (yb_w v1 v2) (by decide) (by decide)
    have ll : (s.2.1 ++ [(0, (d : Int), v, (0 : Int), (0 : Int))]).length ≤ 240 := by rw [List.length_append]; show _ + 1 ≤ 240; omega
    obtain ⟨C, c1, c2, c3⟩ := r_learn (N := N) (d := d) (v := v) (by omega) v1 v2 (h4.fr b3 (fun r z => by unfold qRo at z; omega) (fun r z => by unfold qRo at z; omega))
    have f4 : fr (fun a j => a = 226 ∧ j = 33) C (zsi C 226 33 (zi C 226 33 + 1)) := fr_si ⟨rfl, rfl⟩
    unfold z_M_simple_159
    rw [if_neg (by decide), n1 (by omega), hd, b1, zbV_s, c1, zbV_s, zlet_s]
    refine ⟨_, rfl, ?_, ((b3.mono (fun a j z => Or.inl (Or.inl z))).trans (c3.mono (fun a j z => Or.inr z))).trans (f4.mono (fun a j z => Or.inl (Or.inr z)))⟩
    rw [hS1]
    refine ⟨((h1.fr (by omega) b3 (fun a j z y => by unfold qRo at z y; omega)).fr (by omega) c3 (fun a j z y => by unfold qRo at y; omega)).fr (by omega) f4 (fun a j z y => by unfold qRo at y; omega), fun q hq q8 => ?_, (b2.fr ll c3 (fun a j z y => by unfold qRo at y; omega)).fr ll f4 (fun a j z y => by unfold qRo at y; omega), c2.fr f4 (fun r z => by omega) (fun r z => by omega), ?_⟩
    · rw [f4.e (fun z => by omega), c3.e (fun z => by omega), b3.e (fun z => by unfold qRo at z; omega)]; exact h2 q hq q8
    · rw [zi_si_s, c3.i (fun z => by omega), b3.i (fun z => by unfold qRo at z; omega), h5, yb_w (by omega) (by omega)]
      show _ = ((c0 + (s.2.2 + 1) : Nat) : Int)
      omega
  have pn : vw s.1 (itm X k) = none → plI s.1 (itm X k) = itm X k ∧ plC s.1 (itm X k) = 0 := fun e => ⟨by unfold plI; rw [e], by unfold plC; rw [e]⟩
  unfold z_M_simple
  rw [fld 0 (by decide) (by decide), zbP_s, fld 1 (by decide) (by decide), zbP_s, fld 2 (by decide) (by decide), zbP_s, fld 3 (by decide) (by decide), zbP_s, hkd]
  by_cases c1 : (itm X k).1 = 1
  · have r1 := rg 1 (by omega) ⟨by omega, by omega, by omega⟩
    have r1 : 0 ≤ ig (itm X k) 2 ∧ ig (itm X k) 2 < g := r1
    obtain ⟨t, ht⟩ : ∃ t : Nat, ig (itm X k) 2 = t := ⟨(ig (itm X k) 2).toNat, by omega⟩
    have hvw : vw s.1 (itm X k) = s.1 t := by unfold vw; rw [if_neg (by omega), if_pos c1, ht, Int.toNat_natCast]
    have e2 : ri A 228 (rad p k 2) = (t : Int) := by rw [n2 (by omega), ht]
    obtain ⟨q1, q2⟩ := h4 t (by omega)
    cases ev : s.1 t with
    | none =>
      rw [if_pos c1, e2, zrd_ok (by omega) (by omega), q2 ev, if_neg (by decide)]
      unfold z_M_simple_60 z_M_simple_78
      rw [if_pos rfl, if_neg (by omega), ← e2]
      obtain ⟨u1, u2⟩ := pn (hvw.trans ev)
      exact k0 0 u1 u2 (Or.inr (hvw.trans ev))
    | some v =>
      obtain ⟨y1, y2⟩ := q1 v ev
      rw [if_pos c1, e2, zrd_ok (by omega) (by omega), y1, if_pos rfl]
      unfold z_M_simple_60 z_M_simple_78
      rw [if_neg (by decide), zrd_ok (by omega) (by omega), y2, if_neg (by omega), ← e2]
      exact k1 v (hvw.trans ev) (Or.inl c1)
  · rw [if_neg c1]
    unfold z_M_simple_60
    rw [if_pos rfl]
    unfold z_M_simple_78
    by_cases c2 : (itm X k).1 = 2
    · have r1 := rg 1 (by omega) ⟨by omega, by omega, by omega⟩
      have r1 : 0 ≤ ig (itm X k) 2 ∧ ig (itm X k) 2 < g := r1
      have r2 := rg 2 (by omega) ⟨by omega, by omega, by omega⟩
      have r2 : 0 ≤ ig (itm X k) 3 ∧ ig (itm X k) 3 < g := r2
      obtain ⟨t, ht⟩ : ∃ t : Nat, ig (itm X k) 2 = t := ⟨(ig (itm X k) 2).toNat, by omega⟩
      obtain ⟨u, hu⟩ : ∃ u : Nat, ig (itm X k) 3 = u := ⟨(ig (itm X k) 3).toNat, by omega⟩
      have e2 : ri A 228 (rad p k 2) = (t : Int) := by rw [n2 (by omega), ht]
      have e3 : ri A 228 (rad p k 3) = (u : Int) := by rw [n3 (by omega), hu]
      have ho4 := o4 c2
      have hv0 : s.1 t = none ∨ s.1 u = none → vw s.1 (itm X k) = none := fun z => by
        unfold vw
        rw [if_neg (by omega), if_neg c1, if_pos c2, ht, hu, Int.toNat_natCast, Int.toNat_natCast]
        rcases z with z | z
        · rw [z]
        · rw [z]
          cases s.1 t <;> rfl
      have hv2 : ∀ a b, s.1 t = some a → s.1 u = some b → vw s.1 (itm X k) = if ig (itm X k) 4 = 3 ∧ b = 0 then none else some (wkO (ig (itm X k) 4) a b) := fun a b z1 z2 => by
        unfold vw
        rw [if_neg (by omega), if_neg c1, if_pos c2, ht, hu, Int.toNat_natCast, Int.toNat_natCast, z1, z2]
      obtain ⟨q1, q2⟩ := h4 t (by omega)
      obtain ⟨q3, q4⟩ := h4 u (by omega)
      have no : vw s.1 (itm X k) = none → ∃ B, z_M_simple_159 N p k (itm X k).1 (ri A 228 (rad p k 1)) (t : Int) 0 0 A = some B ∧ RoS B p X g c0 (plS1 (itm X k) s) ∧ fr (qPl p) A B := fun e => by
        rw [← e2]
        obtain ⟨u1, u2⟩ := pn e
        exact k0 0 u1 u2 (Or.inr e)
      rw [if_pos c2, e2, e3, zrd_ok (by omega) (by omega)]
      cases ev : s.1 t with
      | none =>
        rw [q2 ev, if_neg (by decide)]
        exact no (hv0 (Or.inl ev))
      | some a =>
        obtain ⟨y1, y2⟩ := q1 a ev
        rw [y1, if_pos rfl, zrd_ok (by omega) (by omega)]
        cases eu : s.1 u with
        | none =>
          rw [q4 eu, if_neg (by decide)]
          exact no (hv0 (Or.inr eu))
        | some b =>
          obtain ⟨y3, y4⟩ := q3 b eu
          have rb := hkn _ _ eu
          have hvw := hv2 a b ev eu
          have e129 : ¬ (ig (itm X k) 4 = 3 ∧ b = 0) → ∃ B, z_M_simple_129 N p k (itm X k).1 (ri A 228 (rad p k 1)) (t : Int) (u : Int) A = some B ∧ RoS B p X g c0 (plS1 (itm X k) s) ∧ fr (qPl p) A B := fun hne => by
            unfold z_M_simple_129
            rw [fld 4 (by decide) (by decide), zbP_s, n4 (by omega), zrd_ok (by omega) (by omega), zrd_ok (by omega) (by omega)]
            rw [if_neg hne] at hvw
            have y2' : ri A 240 (t : Int) = a := y2
            have y4' : ri A 240 (u : Int) = b := y4
            rw [y2', y4', worked_e ho4 hne (yb_w rb.1 rb.2), zbP_s, ← e2]
            exact k1 _ hvw (Or.inr c2)
          rw [y3, if_pos rfl, fld 4 (by decide) (by decide), zbP_s, n4 (by omega)]
          by_cases c3 : ig (itm X k) 4 = 3
          · rw [if_pos c3, zrd_ok (by omega) (by omega), y4]
            by_cases cb : b = 0
            · rw [if_pos cb]
              exact no (by rw [hvw, if_pos ⟨c3, cb⟩])
            · rw [if_neg cb]
              exact e129 (fun z => cb z.2)
          · rw [if_neg c3]
            exact e129 (fun z => c3 z.1)
    · rw [if_neg c2]
      by_cases c0' : (itm X k).1 = 0
      · refine k0 0 ?_ ?_ (Or.inl c0')
        · unfold plI
          split
          · rw [if_pos (Or.inr c0')]
          · rfl
        · unfold plC
          split
          · rw [if_pos (Or.inr c0')]
          · rfl
      · have hvn : vw s.1 (itm X k) = none := vw_k (by omega)
        obtain ⟨u1, u2⟩ := pn hvn
        exact k0 0 u1 u2 (Or.inr hvn)
/-- both ways come together -/
theorem r_both {l : Nat} {kb : Kn} (hl : l < 30) (hks : okK s.1) : ∀ (r i f : Nat) (B : zA), i + r = 60 → r < f → KnR B (fun q => if q < i then kjn kb s.1 q else s.1 q) → KsR B 243 244 l kb → ∃ C, z_M_both_2_l N f l i B = some C ∧ KnR C (kjn kb s.1) ∧ fr (fun a _ => a = 239) B C := by
  intro r
  induction r with
  | zero =>
    intro i f B h1 h2 hk hb
    obtain ⟨u, rfl⟩ : ∃ u, f = u + 1 := ⟨f - 1, by omega⟩
    have : i = 60 := by omega
    subst this
    refine ⟨B, ?_, fun r hr => ?_, fr.refl _ _⟩
    · show z_M_both_2_b (z_M_both_2_l N u) N l (60 : Nat) B = _
      unfold z_M_both_2_b
      rw [if_neg (by decide)]
    · have := hk r hr
      dsimp only at this
      rw [if_pos hr] at this
      exact this
  | succ r ih =>
    intro i f B h1 h2 hk hb
    obtain ⟨u, rfl⟩ : ∃ u, f = u + 1 := ⟨f - 1, by omega⟩
    have w1 : zw ((i : Int) + 1) = ((i + 1 : Nat) : Int) := by rw [yb_w (by omega) (by omega)]; omega
    obtain ⟨k1, k2⟩ := hk i (by omega)
    dsimp only at k1 k2
    rw [if_neg (by omega)] at k1 k2
    obtain ⟨b1, b2⟩ := hb i (by omega)
    have st : z_M_both_2_l N (u + 1) l i B = z_M_both_2_b (z_M_both_2_l N u) N l i B := rfl
    unfold z_M_both_2_b at st
    rw [if_pos (by omega), zrd_ok (by omega) (by omega)] at st
    have go : ∀ z : Int, (z = 1 ∧ s.1 i = kb i ∧ s.1 i ≠ none ∨ z = 0 ∧ (s.1 i ≠ kb i ∨ s.1 i = none)) → ∃ C, z_M_both_2_l N u l ((i + 1 : Nat) : Int) (rs B 239 i z) = some C ∧ KnR C (kjn kb s.1) ∧ fr (fun a _ => a = 239) B C := fun z hz => by
      have f1 : fr (fun a _ => a = 239) B (rs B 239 i z) := fr_rs rfl
      obtain ⟨C, c1, c2, c3⟩ := ih (i + 1) u (rs B 239 i z) (by omega) (by omega) (fun q hq => by
        by_cases e : q = i
        · subst e
          dsimp only
          rw [if_pos (show q < q + 1 by omega), ri_rs_s, ri_rs_o (by decide)]
          unfold kjn
          rcases hz with ⟨z1, z2, z3⟩ | ⟨z1, z2⟩
          · rw [if_pos z2, z1]
            exact ⟨fun v hv => ⟨by decide, (k1 v hv).2⟩, fun hv => absurd hv z3⟩
          · rw [z1]
            refine ⟨fun v hv => ?_, fun _ => by decide⟩
            exfalso
            by_cases y : s.1 q = kb q
            · rw [if_pos y] at hv
              rcases z2 with z2 | z2
              · exact z2 y
              · rw [z2] at hv; cases hv
            · rw [if_neg y] at hv; cases hv
        · rw [ri_rs_n (by omega) (by omega) (by omega), ri_rs_o (by decide)]
          have := hk q hq
          dsimp only at this
          dsimp only
          by_cases y : q < i
          · rw [if_pos y] at this
            rw [if_pos (show q < i + 1 by omega)]; exact this
          · rw [if_neg y] at this
            rw [if_neg (show ¬ q < i + 1 by omega)]; exact this) (hb.fr f1 (fun r _ => by decide) (fun r _ => by decide))
      exact ⟨C, c1, c2, f1.trans c3⟩
    have e58 : ∀ s0 : Int, z_M_both_58 (z_M_both_2_l N u) N l i s0 B = if s0 = 0 then z_M_both_2_l N u l ((i + 1 : Nat) : Int) (rs B 239 i 0) else z_M_both_2_l N u l ((i + 1 : Nat) : Int) (rs B 239 i 1) := fun s0 => by
      unfold z_M_both_58
      rw [zwr_ok (by omega) (by omega), zwr_ok (by omega) (by omega), w1]
    rw [st]
    cases eb : kb i with
    | none =>
      rw [b2 eb, if_neg (by decide), e58, if_pos rfl]
      refine go 0 (Or.inr ⟨rfl, ?_⟩)
      rw [eb]
      by_cases z : s.1 i = none
      · exact Or.inr z
      · exact Or.inl z
    | some b =>
      obtain ⟨x1, x2⟩ := b1 b eb
      rw [x1, if_pos rfl, zrd_ok (by omega) (by omega)]
      cases es : s.1 i with
      | none =>
        have := k2 es
        rw [this, if_neg (by decide), e58, if_pos rfl]
        exact go 0 (Or.inr ⟨rfl, Or.inr es⟩)
      | some a =>
        obtain ⟨y1, y2⟩ := k1 a es
        rw [y1, if_pos rfl, zrd_ok (by omega) (by omega), zrd_ok (by omega) (by omega), x2, y2]
        by_cases c : b = a
        · rw [if_pos c, e58, if_neg (by decide)]
          exact go 1 (Or.inl ⟨rfl, by rw [es, eb, c], by rw [es]; exact fun z => by cases z⟩)
        · rw [if_neg c, e58, if_pos rfl]
          exact go 0 (Or.inr ⟨rfl, Or.inl (by rw [es, eb]; exact fun z => c (Option.some.inj z).symm)⟩)
/-- what a WHILE writes is forgotten -/
theorem r_fgw {a e L : Nat} (hN : 300000 ≤ N) (hp : p < 4) (hok : okL T p' g X) (hl : X.length ≤ 150) (hae : a < e) (he : e < X.length) (ka : 8 ≤ (itm X a).1) (kE : 8 ≤ (itm X e).1) : ∀ (r i f : Nat) (B : zA), i + r = 60 → r < f → RP B p X g → KnR B (fun q => if q < i then fgW X a e s.1 q else s.1 q) → ∃ C, (∀ r58, z_M_constants_330_l r58 N f p L a ((a + 1 : Nat) : Int) e i B = z_M_constants_363 r58 N p L a ((a + 1 : Nat) : Int) C) ∧ KnR C (fgW X a e s.1) ∧ fr (fun a _ => a = 239) B C := by
  intro r
  induction r with
  | zero =>
    intro i f B h1 h2 hx hk
    obtain ⟨u, rfl⟩ : ∃ u, f = u + 1 := ⟨f - 1, by omega⟩
    have : i = 60 := by omega
    subst this
    refine ⟨B, fun r58 => ?_, fun r hr => ?_, fr.refl _ _⟩
    · show z_M_constants_330_b r58 (z_M_constants_330_l r58 N u) N p L a ((a + 1 : Nat) : Int) e (60 : Nat) B = _
      unfold z_M_constants_330_b
      rw [if_neg (by decide)]
    · have := hk r hr
      dsimp only at this
      rw [if_pos hr] at this
      exact this
  | succ r ih =>
    intro i f B h1 h2 hx hk
    obtain ⟨u, rfl⟩ : ∃ u, f = u + 1 := ⟨f - 1, by omega⟩
    have w1 : zw ((i : Int) + 1) = ((i + 1 : Nat) : Int) := by rw [yb_w (by omega) (by omega)]; omega
    have hsp := r_spoilt (N := N) (A := B) (z := 0) (p := p) (r := p) (a := a) (b := (e : Int)) (d := (i : Int)) hN (by omega) hp (by omega) hx hok (by omega) (by omega) (by omega)
    rw [show ((0 : Nat) : Int) = 0 from rfl] at hsp
    have eqv : (∃ m : Nat, a ≤ m ∧ (m : Int) ≤ e ∧ spl (itm X m) i) ↔ ∃ m, a < m ∧ m < e ∧ spl (itm X m) i := by
      constructor
      · intro ⟨m, m1, m2, m3⟩
        refine ⟨m, ?_, ?_, m3⟩
        · by_cases z : m = a
          · rw [z] at m3; exact absurd m3 (spl_end ka (by omega))
          · omega
        · by_cases z : m = e
          · rw [z] at m3; exact absurd m3 (spl_end kE (by omega))
          · omega
      · intro ⟨m, m1, m2, m3⟩
        exact ⟨m, by omega, by omega, m3⟩
    have st : ∀ r58, z_M_constants_330_l r58 N (u + 1) p L a ((a + 1 : Nat) : Int) e i B = (if cif (∃ m : Nat, a ≤ m ∧ (m : Int) ≤ e ∧ spl (itm X m) i) (1 : Int) 0 = 0 then z_M_constants_330_l r58 N u p L a ((a + 1 : Nat) : Int) e ((i + 1 : Nat) : Int) B else zbV (z_M_forget N i B) fun A4 => z_M_constants_330_l r58 N u p L a ((a + 1 : Nat) : Int) e ((i + 1 : Nat) : Int) A4) := fun r58 => by
      show z_M_constants_330_b r58 (z_M_constants_330_l r58 N u) N p L a ((a + 1 : Nat) : Int) e i B = _
      unfold z_M_constants_330_b
      rw [if_pos (by omega), hsp, zbP_s, w1]
    by_cases c : ∃ m, a < m ∧ m < e ∧ spl (itm X m) i
    · obtain ⟨C, c1, c2, c3⟩ := r_forget (N := N) (d := i) (by omega) hk
      have e1 : kset (fun q => if q < i then fgW X a e s.1 q else s.1 q) i none = fun q => if q < i + 1 then fgW X a e s.1 q else s.1 q := by
        funext q
        unfold kset
        by_cases z : q = i
        · rw [if_pos z, if_pos (by omega), z]
          unfold fgW
          rw [cif_pos c]
        · rw [if_neg z]
          dsimp only
          by_cases y : q < i
          · rw [if_pos y, if_pos (by omega)]
          · rw [if_neg y, if_neg (by omega)]
      rw [e1] at c2
      obtain ⟨D, d1, d2, d3⟩ := ih (i + 1) u C (by omega) (by omega) (hx.fr (by omega) c3 (fun a j z y => by unfold qRo at y; omega)) c2
      exact ⟨D, fun r58 => by rw [st, cif_pos (eqv.mpr c), if_neg (by decide), c1, zbV_s]; exact d1 r58, d2, c3.trans d3⟩
    · have e1 : (fun q => if q < i + 1 then fgW X a e s.1 q else s.1 q) = fun q => if q < i then fgW X a e s.1 q else s.1 q := by
        funext q
        by_cases z : q = i
        · rw [z, if_pos (by omega), if_neg (by omega)]
          unfold fgW
          rw [cif_neg c]
        · by_cases y : q < i
          · rw [if_pos y, if_pos (by omega)]
          · rw [if_neg y, if_neg (by omega)]
      obtain ⟨D, d1, d2, d3⟩ := ih (i + 1) u B (by omega) (by omega) hx (by rw [e1]; exact hk)
      exact ⟨D, fun r58 => by rw [st, cif_neg (fun z => c (eqv.mp z)), if_pos rfl]; exact d1 r58, d2, d3⟩
end
