/-! COMMON of the reference: an item, all items -/
theorem trK0 (g : Nat) (v : Int) : trK g (0, v, 0, 0) = (100, v, 0) := by unfold trK; rw [if_pos rfl]
theorem trK1 (g : Nat) (o : Int) (a b : Nat) : trK g (1, o, (a : Int), (b : Int)) = (o, (phi g a : Int), (phi g b : Int)) := by
  unfold trK
  rw [if_neg (by show ¬ (1 : Int) = 0; decide), if_pos rfl]
  dsimp only
  rw [Int.toNat_natCast, Int.toNat_natCast]
theorem trK2 (g a c : Nat) : trK g (2, (a : Int), (c : Int), 0) = (50, (phi g a : Int), (c : Int)) := by
  unfold trK
  rw [if_neg (by show ¬ (2 : Int) = 0; decide), if_neg (by show ¬ (2 : Int) = 1; decide)]
  dsimp only
  rw [Int.toNat_natCast]
theorem phi_le (g i : Nat) : phi g i ≤ 60 + i := by unfold phi; split <;> omega
def qCo (p : Nat) (a j : Nat) : Prop := qIn p a j ∨ qN9 a j
section
variable {N : Nat} {A : zA} {g m p k : Nat} {s : NS} {X : List It} {T p' : Nat}
theorem RNB.fr {F : Nat → Nat → Prop} {B : zA} (hn : RNB A g s) (hl : s.1.length ≤ 1100) (f : fr F A B) (hF : ∀ a j, F a j → ¬ qN9 a j) : RNB B g s := by
  obtain ⟨n1, n2, n3, n4, n5⟩ := hn
  have e : ∀ (a : Nat) (q : Int), (a = 246 ∨ a = 247 ∨ a = 248 ∨ a = 249) → ri B a q = ri A a q := fun a q ha => f.e (fun z => hF _ _ z (by unfold qN9 qNm; omega))
  refine ⟨by rw [f.i (fun z => hF _ _ z (by unfold qN9 qNm; omega))]; exact n1, fun i hi => by rw [e _ _ (by omega)]; exact n2 i hi, fun i h1 h2 => ?_, fun r hr => by rw [e _ _ (by omega)]; exact n4 r hr, by rw [f.i (fun z => hF _ _ z (by unfold qN9 qNm; omega))]; exact n5⟩
  have := n3 i h1 h2
  unfold RKy at this ⊢
  rw [e _ _ (by omega), e _ _ (by omega), e _ _ (by omega)]
  exact this
theorem RP_item {C : zA} {it : It} {r : Nat} (hx : RP A r X g) (hl : X.length ≤ 240) (hk : k < X.length) (f : fr (fun a j => a = 228 ∧ 5 * (240 * r + k) ≤ j ∧ j < 5 * (240 * r + k) + 5) A C) (h0 : ri C 228 (rad r k 0) = it.1) (hn : ∀ i : Nat, i < nbk it.1 → ri C 228 (rad r k ((i : Int) + 1)) = ig it (i + 1)) : RP C r (X.set k it) g := by
  obtain ⟨x1, x2, x3⟩ := hx
  refine ⟨by rw [f.e (fun z => by omega), List.length_set]; exact x1, by rw [f.e (fun z => by omega)]; exact x2, fun q hq => ?_⟩
  rw [List.length_set] at hq
  rw [itm_set hq]
  by_cases c : q = k
  · subst c
    rw [if_pos rfl]; exact ⟨h0, hn⟩
  · rw [if_neg c]
    have := nbk_le (itm X q).1
    exact ⟨by rw [f.e (fun z => by unfold rad at z; omega)]; exact (x3 q hq).1, fun i hi => by rw [f.e (fun z => by unfold rad at z; omega)]; exact (x3 q hq).2 i hi⟩
theorem RP_num {r w : Nat} {v : Int} (hx : RP A r X g) (hl : X.length ≤ 240) (hk : k < X.length) (hw : w < 4) (wv : zw v = v) : RP (rs A 228 (rad r k ((w : Int) + 1)) v) r (X.set k (setN (itm X k) w v)) g := by
  have f : fr (fun a j => a = 228 ∧ 5 * (240 * r + k) ≤ j ∧ j < 5 * (240 * r + k) + 5) A (rs A 228 (rad r k ((w : Int) + 1)) v) := fr_rs ⟨rfl, by unfold rad; omega, by unfold rad; omega⟩
  obtain ⟨y1, y2⟩ := hx.2.2 k hk
  have hb := nbk_le (itm X k).1
  refine RP_item hx hl hk f ?_ (fun i hi => ?_)
  · rw [ri_rs_n (by unfold rad; omega) (by unfold rad; omega) (by unfold rad; omega), setN_1]; exact y1
  · rw [setN_1] at hi
    rw [setN_g _ _ hw (by omega)]
    by_cases c : i = w
    · subst c
      rw [if_pos rfl, ri_rs_s, wv]
    · rw [if_neg c, ri_rs_n (by unfold rad; omega) (by unfold rad; omega) (by unfold rad; omega)]; exact y2 i hi
theorem r_crd {it : It} {r6 : Int → Int → zA → Option zA} (hN : 300000 ≤ N) (hp : p < 4) (hit : okI T p' g it) (hg : g ≤ 60) (hl : X.length ≤ 150) (hk : k < X.length) (hsl : s.1.length ≤ 1100) : ∀ (r i f : Nat) (B : zA), i + r = 2 → r < f → RP B (4 + p) (X.set k (rdL g s.2.1 it (min i (rdk it.1).toNat)).1) g → RNB B g s → ri B 230 p = g → ∃ C, z_M_common_41_l r6 N f p k (rad ((4 + p : Nat) : Int) k 0) it.1 (rdL g s.2.1 it (min i (rdk it.1).toNat)).2 i B = z_M_common_125 r6 N p k (rad ((4 + p : Nat) : Int) k 0) it.1 (rdL g s.2.1 it (rdk it.1).toNat).2 C ∧ RP C (4 + p) (X.set k (rdL g s.2.1 it (rdk it.1).toNat).1) g ∧ fr (fun a j => a = 228 ∧ 1200 * (4 + p) ≤ j ∧ j < 1200 * (4 + p) + 1200) B C := by
  obtain ⟨o1, o2, o3, -⟩ := id hit
  have hr := rdk_0 it.1
  have fr0 : 0 ≤ frk it.1 := by unfold frk; split <;> omega
  intro r
  induction r with
  | zero =>
    intro i f B h1 h2 hx hn h230
    obtain ⟨u, rfl⟩ : ∃ u, f = u + 1 := ⟨f - 1, by omega⟩
    have ei : min i (rdk it.1).toNat = (rdk it.1).toNat := by omega
    rw [ei] at hx ⊢
    refine ⟨B, ?_, hx, fr.refl _ _⟩
    show z_M_common_41_b r6 (z_M_common_41_l r6 N u) N p k _ it.1 _ i B = _
    unfold z_M_common_41_b
    rw [if_neg (by omega)]
  | succ r ih =>
    intro i f B h1 h2 hx hn h230
    obtain ⟨u, rfl⟩ : ∃ u, f = u + 1 := ⟨f - 1, by omega⟩
    have w1 : zw ((i : Int) + 1) = ((i + 1 : Nat) : Int) := by rw [yb_w (by omega) (by omega)]; omega
    obtain ⟨y1, y2⟩ := rda_rd (k := it.1) (n := i) o1 o2 (by omega)
    show ∃ C, z_M_common_41_b r6 (z_M_common_41_l r6 N u) N p k _ it.1 _ i B = _ ∧ _
    unfold z_M_common_41_b
    rw [if_pos (by omega), r_readAt (by omega) (by omega), zbP_s]
    by_cases c : (i : Int) < rdk it.1
    · have em : min i (rdk it.1).toNat = i := by omega
      have em2 : min (i + 1) (rdk it.1).toNat = i + 1 := by omega
      rw [em] at hx ⊢
      obtain ⟨b1, b2, b3, b4, b5⟩ := rdL_ok (nm := s.2.1) hit hg i (by omega)
      obtain ⟨q1, q2, d, q3, q4⟩ := rd_rg b2 hg (n := i) (by rw [b1]; omega)
      rw [b1] at q1 q2 q3
      have hb := nbk_le it.1
      have hitm : itm (X.set k (rdL g s.2.1 it i).1) k = (rdL g s.2.1 it i).1 := by rw [itm_set hk, if_pos rfl]
      have hk' : k < (X.set k (rdL g s.2.1 it i).1).length := by rw [List.length_set]; exact hk
      have hnum := (hx.2.2 k hk').2 ((frk it.1).toNat + i) (by rw [hitm, b1]; exact q1)
      rw [hitm, q3] at hnum
      have hdg : d < g := by
        have := ((b2.2.2.1 _ (by rw [b1]; exact q1)).2.2 (by rw [b1]; exact q2)).2
        omega
      have e : rdL g s.2.1 it (i + 1) = if lsF s.2.1 (s.2.1 (ig (rdL g s.2.1 it i).1 ((frk it.1).toNat + i + 1)).toNat) g = ig (rdL g s.2.1 it i).1 ((frk it.1).toNat + i + 1) then rdL g s.2.1 it i else (setN (rdL g s.2.1 it i).1 ((frk it.1).toNat + i) (lsF s.2.1 (s.2.1 (ig (rdL g s.2.1 it i).1 ((frk it.1).toNat + i + 1)).toNat) g), 1) := rfl
      rw [q3, Int.toNat_natCast] at e
      obtain ⟨l, l1, l2⟩ := lsF_le (nm := s.2.1) hdg
      have ea : rad ((4 + p : Nat) : Int) k 0 + (frk it.1 + (i : Int) + 1) = rad ((4 + p : Nat) : Int) k ((((frk it.1).toNat + i : Nat) : Int) + 1) := by unfold rad; omega
      have a0 : 0 ≤ rad ((4 + p : Nat) : Int) k ((((frk it.1).toNat + i : Nat) : Int) + 1) ∧ rad ((4 + p : Nat) : Int) k ((((frk it.1).toNat + i : Nat) : Int) + 1) < 14400 := by unfold rad; omega
      rw [y1 c, if_pos (by omega), ea, zrd_ok a0.1 a0.2, hnum, zrd_ok (by omega) (by omega), hn.2.2.2.1 d hdg, r_least hN hp hg h230 hn, zbP_s, l1]
      unfold z_M_common_84
      rw [if_pos (by omega), ea, zrd_ok a0.1 a0.2, hnum, w1]
      rw [l1] at e
      have := ih (i + 1) u
      rw [em2] at this
      by_cases cl : (l : Int) = (d : Int)
      · rw [if_pos cl] at e ⊢
        rw [e] at this
        exact this B (by omega) (by omega) hx hn h230
      · rw [if_neg cl] at e
        rw [if_neg cl, zwr_ok a0.1 a0.2]
        rw [e] at this
        have hput := RP_num (k := k) (w := (frk it.1).toNat + i) (v := (l : Int)) hx (by rw [List.length_set]; omega) hk' (by omega) (yb_w (by omega) (by omega))
        rw [hitm, List.set_set] at hput
        have f1 : fr (fun a j => a = 228 ∧ 1200 * (4 + p) ≤ j ∧ j < 1200 * (4 + p) + 1200) B (rs B 228 (rad ((4 + p : Nat) : Int) k ((((frk it.1).toNat + i : Nat) : Int) + 1)) (l : Int)) := fr_rs ⟨rfl, by unfold rad; omega, by unfold rad; omega⟩
        obtain ⟨C, c1, c2, c3⟩ := this _ (by omega) (by omega) hput (hn.fr hsl f1 (fun a j z y => by unfold qN9 qNm at y; omega)) (by rw [f1.e (fun z => by omega)]; exact h230)
        exact ⟨C, c1, c2, f1.trans c3⟩
    · rw [y2 c, if_neg (by decide)]
      unfold z_M_common_84
      rw [if_neg (by decide), w1]
      have em : min i (rdk it.1).toNat = (rdk it.1).toNat := by omega
      have em2 : min (i + 1) (rdk it.1).toNat = (rdk it.1).toNat := by omega
      have := ih (i + 1) u B (by omega) (by omega)
      rw [em2] at this
      rw [em] at hx ⊢
      exact this hx hn h230
theorem RNB_set {d n : Nat} {K : List Nd} {nm : Nat → Nat} {st : Nat × Nat} (hd : d < g) (hn1 : n ≤ 2000) (hg : g ≤ 60) (hn : RNB A g (K, nm, st)) : RNB (rs A 249 d (phi g n : Int)) g (K, nset nm d n, st) := by
  obtain ⟨n1, n2, n3, n4, n5⟩ := hn
  have hp := phi_le g n
  refine ⟨by rw [zi_rs_o (by decide)]; exact n1, fun i hi => by rw [ri_rs_o (by decide)]; exact n2 i hi, fun i h1 h2 => ?_, fun r hr => ?_, by rw [zi_rs_o (by decide)]; exact n5⟩
  · have := n3 i h1 h2
    unfold RKy at this ⊢
    rw [ri_rs_o (by decide), ri_rs_o (by decide), ri_rs_o (by decide)]
    exact this
  · show _ = (phi g (nset nm d n r) : Int)
    unfold nset
    by_cases e : r = d
    · rw [if_pos e, e, ri_rs_s, yb_w (by omega) (by omega)]
    · rw [if_neg e, ri_rs_n (by omega) (by omega) (by omega)]; exact n4 r hr
/-- the end of an item -/
theorem r_cend {c x5 : Nat} {C : zA} {it : It} (hl : X.length ≤ 150) (hw : s.1.length ≤ 1100) (hc : c ≤ 1000000) (hx5 : x5 ≤ 1) (hx : RP C (4 + p) (X.set k it) g) (hn : RNB C g s) (h33 : zi C 226 33 = c) : RP (zsi C 226 33 (zi C 226 33 + (x5 : Int))) (4 + p) (X.set k it) g ∧ RNB (zsi C 226 33 (zi C 226 33 + (x5 : Int))) g s ∧ zi (zsi C 226 33 (zi C 226 33 + (x5 : Int))) 226 33 = ((c + x5 : Nat) : Int) ∧ fr (qCo p) C (zsi C 226 33 (zi C 226 33 + (x5 : Int))) := by
  have f1 : fr (fun a j => a = 226 ∧ j = 33) C (zsi C 226 33 (zi C 226 33 + (x5 : Int))) := fr_si ⟨rfl, rfl⟩
  refine ⟨hx.fr (by rw [List.length_set]; omega) f1 (fun a q z y => by unfold qRo at y; omega), hn.fr hw f1 (fun a j z y => by unfold qN9 qNm at y; omega), ?_, f1.mono (fun a j z => Or.inl (Or.inr z))⟩
  rw [zi_si_s, h33, yb_w (by omega) (by omega)]
  omega
theorem r_bmv {y : Nd} {r6 : Int → Int → zA → Option zA} {c x5 d : Nat} (hN : 300000 ≤ N) (hp : p < 4) (hg : g ≤ 60) (hl : X.length ≤ 150) (hk : k < X.length) (hw : WNS g m s) (hm : m ≤ 150) (hn : RNB A g ((mkN s.1 y).2, s.2)) (hx : RP A (4 + p) X g) (h230 : ri A 230 p = g) (hi : okI T p' g (itm X k)) (hd : ig (itm X k) 1 = d) (hdg : d < g) (hk2 : (itm X k).1 = 2 ∨ (itm X k).1 = 3) (hc : c ≤ 1000000) (hx5 : x5 ≤ 1) (h33 : zi A 226 33 = c) : ∃ B, z_M_common_262 r6 N p k (rad ((4 + p : Nat) : Int) k 0) x5 d (phi g (mkN s.1 y).1 : Int) A = r6 p (zw ((k : Int) + 1)) B ∧ RP B (4 + p) (X.set k (bmv g (itm X k) y s).1) g ∧ RNB B g (bmv g (itm X k) y s).2.1 ∧ zi B 226 33 = ((c + if x5 = 0 ∧ (bmv g (itm X k) y s).2.2 = 0 then 0 else 1 : Nat) : Int) ∧ fr (qCo p) A B := by
  obtain ⟨o1, o2, o3, o4, o5⟩ := id hi
  have hvk := nbk_v o1 o2
  have hml : (mkN s.1 y).1 ≤ 300 ∧ (mkN s.1 y).2.length ≤ 300 := by
    have := hw.2.1
    rcases mkN_ok s.1 y with ⟨a1, -, a3⟩ | ⟨-, a2, a3⟩
    · rw [a3]; omega
    · rw [a3, List.length_append]
      show _ ∧ _ + 1 ≤ 300
      omega
  have hlw := r_least (N := N) (t := (mkN s.1 y).1) hN hp hg h230 hn
  have hlw : z_M_least N p (phi g (mkN s.1 y).1 : Int) A = some (lsF s.2.1 (mkN s.1 y).1 g) := hlw
  unfold z_M_common_262 z_M_common_316
  rw [hlw, zbP_s]
  have a0 : ∀ i : Nat, i < 5 → 0 ≤ rad ((4 + p : Nat) : Int) k 0 + (i : Int) ∧ rad ((4 + p : Nat) : Int) k 0 + (i : Int) < 14400 := fun i hi => by unfold rad; omega
  have s9 := fun (C : zA) (hC : RNB C g ((mkN s.1 y).2, s.2)) => RNB_set (d := d) (n := (mkN s.1 y).1) hdg (by omega) hg hC
  rcases lsF_ok (nm := s.2.1) (t := (mkN s.1 y).1) g with ⟨e, -⟩ | ⟨l, l1, l2, -, -⟩
  · have hbm : bmv g (itm X k) y s = (itm X k, ((mkN s.1 y).2, nset s.2.1 d (mkN s.1 y).1, s.2.2), 0) := by
      unfold bmv
      rw [e, hd, Int.toNat_natCast, if_pos (by decide), if_pos (by decide)]
    rw [hbm, e, if_pos (by decide), zwr_ok (by omega) (by omega), zlet_s]
    have f1 : fr (fun a _ => a = 249) A (rs A 249 d (phi g (mkN s.1 y).1 : Int)) := fr_rs rfl
    have hx1 : RP (rs A 249 d (phi g (mkN s.1 y).1 : Int)) (4 + p) (X.set k (itm X k)) g := by
      rw [set_self hk]; exact hx.fr (by omega) f1 (fun a q z y => by unfold qRo at y; omega)
    obtain ⟨b1, b2, b3, b4⟩ := r_cend (c := c) (x5 := x5) hl (by show (mkN s.1 y).2.length ≤ 1100; omega) hc hx5 hx1 (s9 A hn) (by rw [f1.i (by decide)]; exact h33)
    refine ⟨_, rfl, b1, b2, ?_, (f1.mono (fun a j z => Or.inr (Or.inr (Or.inl z)))).trans b4⟩
    rw [b3]
    by_cases c0 : x5 = 0
    · rw [if_pos ⟨c0, rfl⟩, c0]
    · rw [if_neg (fun z => c0 z.1)]; omega
  · have ge := a0 0 (by decide)
    have g2 := a0 2 (by decide)
    have g3 := a0 3 (by decide)
    have g4 := a0 4 (by decide)
    have ge : 0 ≤ rad ((4 + p : Nat) : Int) k 0 ∧ rad ((4 + p : Nat) : Int) k 0 < 14400 := by unfold rad; omega
    have g2 : 0 ≤ rad ((4 + p : Nat) : Int) k 0 + 2 ∧ rad ((4 + p : Nat) : Int) k 0 + 2 < 14400 := g2
    have g3 : 0 ≤ rad ((4 + p : Nat) : Int) k 0 + 3 ∧ rad ((4 + p : Nat) : Int) k 0 + 3 < 14400 := g3
    have g4 : 0 ≤ rad ((4 + p : Nat) : Int) k 0 + 4 ∧ rad ((4 + p : Nat) : Int) k 0 + 4 < 14400 := g4
    have hbm : bmv g (itm X k) y s = ((1, (d : Int), (l : Int), 0, 0), ((mkN s.1 y).2, nset s.2.1 d (mkN s.1 y).1, s.2.2), 1) := by
      unfold bmv
      rw [l2, hd, Int.toNat_natCast, if_neg (by omega), if_neg (by omega)]
    rw [hbm, l2, if_neg (by omega), zwr_ok ge.1 ge.2, zwr_ok g2.1 g2.2, zwr_ok g3.1 g3.2, zwr_ok g4.1 g4.2]
    have ob := hx.2.2 k hk
    have ob1 := ob.2 0 (by omega)
    have ob1 : ri A 228 (rad ((4 + p : Nat) : Int) k 1) = ig (itm X k) 1 := ob1
    have er : ∀ i : Int, rad ((4 + p : Nat) : Int) k i = rad ((4 + p : Nat) : Int) k 0 + i := fun i => by unfold rad; omega
    generalize hb : rad ((4 + p : Nat) : Int) k 0 = b at *
    have hbv : b = ((5 * (240 * (4 + p) + k) : Nat) : Int) := by rw [← hb]; unfold rad; omega
    have f : fr (fun a j => a = 228 ∧ 5 * (240 * (4 + p) + k) ≤ j ∧ j < 5 * (240 * (4 + p) + k) + 5) A (rs (rs (rs (rs A 228 b 1) 228 (b + 2) l) 228 (b + 3) 0) 228 (b + 4) 0) := (((fr_rs ⟨rfl, by omega, by omega⟩).trans (fr_rs ⟨rfl, by omega, by omega⟩)).trans (fr_rs ⟨rfl, by omega, by omega⟩)).trans (fr_rs ⟨rfl, by omega, by omega⟩)
    have v0 : ri (rs (rs (rs (rs A 228 b 1) 228 (b + 2) l) 228 (b + 3) 0) 228 (b + 4) 0) 228 b = 1 := by rw [ri_rs_n (by omega) (by omega) (by omega), ri_rs_n (by omega) (by omega) (by omega), ri_rs_n (by omega) (by omega) (by omega), ri_rs_s]; decide
    have v1 : ri (rs (rs (rs (rs A 228 b 1) 228 (b + 2) l) 228 (b + 3) 0) 228 (b + 4) 0) 228 (b + 1) = d := by rw [ri_rs_n (by omega) (by omega) (by omega), ri_rs_n (by omega) (by omega) (by omega), ri_rs_n (by omega) (by omega) (by omega), ri_rs_n (by omega) (by omega) (by omega), ← er 1, ob1]; exact hd
    have v2 : ri (rs (rs (rs (rs A 228 b 1) 228 (b + 2) l) 228 (b + 3) 0) 228 (b + 4) 0) 228 (b + 2) = l := by rw [ri_rs_n (by omega) (by omega) (by omega), ri_rs_n (by omega) (by omega) (by omega), ri_rs_s, yb_w (by omega) (by omega)]
    generalize rs (rs (rs (rs A 228 b 1) 228 (b + 2) l) 228 (b + 3) 0) 228 (b + 4) 0 = C at *
    have hxC : RP C (4 + p) (X.set k (1, (d : Int), (l : Int), 0, 0)) g := RP_item hx (by omega) hk f (by rw [hb]; exact v0) (fun i hi => by
      have hi : i < 2 := hi
      rw [er]
      rcases (show i = 0 ∨ i = 1 by omega) with rfl | rfl
      · exact v1
      · exact v2)
    have hnC : RNB C g ((mkN s.1 y).2, s.2) := hn.fr (by show (mkN s.1 y).2.length ≤ 1100; omega) f (fun a j z y => by unfold qN9 qNm at y; omega)
    rw [zwr_ok (by omega) (by omega), zlet_s]
    have f1 : fr (fun a _ => a = 249) C (rs C 249 d (phi g (mkN s.1 y).1 : Int)) := fr_rs rfl
    obtain ⟨b1, b2, b3, b4⟩ := r_cend (c := c) (x5 := 1) hl (by show (mkN s.1 y).2.length ≤ 1100; omega) hc (Nat.le_refl _) (hxC.fr (by rw [List.length_set]; omega) f1 (fun a q z y => by unfold qRo at y; omega)) (s9 C hnC) (by rw [f1.i (by decide), f.i (fun z => by omega)]; exact h33)
    refine ⟨_, rfl, b1, b2, ?_, ((f.mono (fun a j z => Or.inl (Or.inl (Or.inl ⟨z.1, by omega, by omega⟩)))).trans (f1.mono (fun a j z => Or.inr (Or.inr (Or.inl z))))).trans b4⟩
    have b3 : zi _ 226 33 = ((c + 1 : Nat) : Int) := b3
    rw [if_neg (show ¬ (x5 = 0 ∧ (1 : Int) = 0) from fun z => absurd z.2 (by decide))]
    exact b3
theorem r_goV {r6 : Int → Int → zA → Option zA} {c x5 : Nat} (hN : 300000 ≤ N) (hp : p < 4) (hg : g ≤ 60) (hl : X.length ≤ 150) (hk : k < X.length) (hw : WNS g m s) (hm : m ≤ 150) (hn : RNB A g s) (hx : RP A (4 + p) X g) (h230 : ri A 230 p = g) (hi : okI T p' g (itm X k)) (hc : c ≤ 1000000) (hx5 : x5 ≤ 1) (h33 : zi A 226 33 = c) : ∃ B, z_M_common_125 r6 N p k (rad ((4 + p : Nat) : Int) k 0) (itm X k).1 x5 A = r6 p (zw ((k : Int) + 1)) B ∧ RP B (4 + p) (X.set k (goV g (itm X k) s).1) g ∧ RNB B g (goV g (itm X k) s).2.1 ∧ zi B 226 33 = ((c + if x5 = 0 ∧ (goV g (itm X k) s).2.2 = 0 then 0 else 1 : Nat) : Int) ∧ fr (qCo p) A B := by
  obtain ⟨o1, o2, o3, o4, o5⟩ := id hi
  have hvk := nbk_v o1 o2
  obtain ⟨a1, a2, a3, a4, a5, -⟩ := id hw
  obtain ⟨n1, n2, n3, n4, n5⟩ := id hn
  have ob := (hx.2.2 k hk).2
  have g1 : 0 ≤ rad ((4 + p : Nat) : Int) k 0 + 1 ∧ rad ((4 + p : Nat) : Int) k 0 + 1 < 14400 := by unfold rad; omega
  have g2 : 0 ≤ rad ((4 + p : Nat) : Int) k 0 + 2 ∧ rad ((4 + p : Nat) : Int) k 0 + 2 < 14400 := by unfold rad; omega
  have g3 : 0 ≤ rad ((4 + p : Nat) : Int) k 0 + 3 ∧ rad ((4 + p : Nat) : Int) k 0 + 3 < 14400 := by unfold rad; omega
  have g4 : 0 ≤ rad ((4 + p : Nat) : Int) k 0 + 4 ∧ rad ((4 + p : Nat) : Int) k 0 + 4 < 14400 := by unfold rad; omega
  have er : ∀ i : Int, rad ((4 + p : Nat) : Int) k i = rad ((4 + p : Nat) : Int) k 0 + i := fun i => by unfold rad; omega
  have num : ∀ i : Nat, i < nbk (itm X k).1 → ri A 228 (rad ((4 + p : Nat) : Int) k 0 + ((i : Int) + 1)) = ig (itm X k) (i + 1) := fun i hin => by rw [← er]; exact ob i hin
  have reg0 : (itm X k).1 ≤ 3 ∨ (itm X k).1 = 5 → rgP (ig (itm X k) 1) (ri A 228 (rad ((4 + p : Nat) : Int) k 0 + 1)) g := fun hc => by
    have := (o3 0 (by omega)).2.2 ⟨by omega, by omega, by omega⟩
    have h0 : 0 ≤ ig (itm X k) 1 ∧ ig (itm X k) 1 < g := this
    have nn : ri A 228 (rad ((4 + p : Nat) : Int) k 0 + 1) = ig (itm X k) 1 := num 0 (by omega)
    exact ⟨(ig (itm X k) 1).toNat, by omega, by omega, by rw [nn]; omega⟩
  have reg1 : (itm X k).1 = 1 ∨ (itm X k).1 = 2 ∨ (itm X k).1 = 3 → rgP (ig (itm X k) 2) (ri A 228 (rad ((4 + p : Nat) : Int) k 0 + 2)) g := fun hc => by
    have := (o3 1 (by omega)).2.2 ⟨by omega, by omega, by omega⟩
    have h0 : 0 ≤ ig (itm X k) 2 ∧ ig (itm X k) 2 < g := this
    have nn : ri A 228 (rad ((4 + p : Nat) : Int) k 0 + 2) = ig (itm X k) 2 := num 1 (by omega)
    exact ⟨(ig (itm X k) 2).toNat, by omega, by omega, by rw [nn]; omega⟩
  have lim : ∀ d : Nat, d < g → s.2.1 d ≤ 300 := fun d hd => by have := a5 d hd; omega
  have mkl : ∀ y : Nd, (mkN s.1 y).1 ≤ 300 ∧ (mkN s.1 y).2.length ≤ 300 := fun y => by
    rcases mkN_ok s.1 y with ⟨a1, -, a3⟩ | ⟨-, a2, a3⟩
    · rw [a3]; omega
    · rw [a3, List.length_append]
      show _ ∧ _ + 1 ≤ 300
      omega
  have cnt : ∀ q : Nat, (c + if q = 0 ∧ (0 : Int) = 0 then 0 else 1 : Nat) = c + (if q = 0 then 0 else 1) := fun q => by
    by_cases e : q = 0
    · rw [if_pos ⟨e, rfl⟩, if_pos e]
    · rw [if_neg (fun z => e z.1), if_neg e]
  have cx : c + x5 = c + (if x5 = 0 then 0 else 1) := by split <;> omega
  have n9 : ∀ {B : zA}, fr qNm A B → ∀ a j, qNm a j → ¬ qRo (4 + p) a j := fun _ a j z y => by unfold qNm at z; unfold qRo at y; omega
  unfold z_M_common_125
  rw [zrd_ok g1.1 g1.2, zrd_ok g2.1 g2.2]
  have hset : RP A (4 + p) (X.set k (itm X k)) g := by rw [set_self hk]; exact hx
  unfold goV
  by_cases c0 : (itm X k).1 = 0
  · obtain ⟨d, d1, d2, d3⟩ := reg0 (by omega)
    have nn : ri A 228 (rad ((4 + p : Nat) : Int) k 0 + 2) = ig (itm X k) 2 := num 1 (by omega)
    obtain ⟨z1, z2, -⟩ := o3 1 (by omega)
    obtain ⟨B, b1, b2, b3⟩ := r_nameOf (N := N) (y := (0, ig (itm X k) 2, 0, 0)) hN hg hw (by omega) hn (Or.inl ⟨_, rfl⟩) (by show (0 : Int) ≠ 5; decide) (by rw [trK0]; exact yb_w z1 z2) (by rw [trK0]; show zw 0 = 0; decide)
    rw [trK0] at b1
    have hmk := mkl (0, ig (itm X k) 2, 0, 0)
    rw [if_pos c0, if_pos c0, d3, nn]
    rw [b1, zbI_s, zwr_ok (by omega) (by omega), zlet_s]
    have f1 : fr (fun a _ => a = 249) B (rs B 249 d (phi g (mkN s.1 (0, ig (itm X k) 2, 0, 0)).1 : Int)) := fr_rs rfl
    have hs9 := RNB_set (d := d) (n := (mkN s.1 (0, ig (itm X k) 2, 0, 0)).1) d2 (by omega) hg b2
    obtain ⟨e1, e2, e3, e4⟩ := r_cend (c := c) (x5 := x5) hl (by show (mkN s.1 (0, ig (itm X k) 2, 0, 0)).2.length ≤ 1100; omega) hc hx5 ((hset.fr (by rw [List.length_set]; omega) b3 (n9 b3)).fr (by rw [List.length_set]; omega) f1 (fun a q z y => by unfold qRo at y; omega)) hs9 (by rw [f1.i (by decide), b3.i (fun z => by unfold qNm at z; omega)]; exact h33)
    refine ⟨_, rfl, e1, ?_, ?_, ((b3.mono (fun a j z => Or.inr (Or.inl z))).trans (f1.mono (fun a j z => Or.inr (Or.inr (Or.inl z))))).trans e4⟩
    · dsimp only
      rw [d1, Int.toNat_natCast]; exact e2
    · rw [e3, cx, cnt]
  rw [if_neg c0, if_neg c0]
  by_cases c1 : (itm X k).1 = 1
  · obtain ⟨d, d1, d2, d3⟩ := reg0 (by omega)
    obtain ⟨t, t1, t2, t3⟩ := reg1 (by omega)
    have := lim t t2
    rw [if_pos c1, if_pos c1, d3, t3, zrd_ok (by omega) (by omega), n4 t t2, zwr_ok (by omega) (by omega), zlet_s]
    have f1 : fr (fun a _ => a = 249) A (rs A 249 d (phi g (s.2.1 t) : Int)) := fr_rs rfl
    have hs9 := RNB_set (K := s.1) (nm := s.2.1) (st := s.2.2) (d := d) (n := s.2.1 t) d2 (by omega) hg hn
    obtain ⟨e1, e2, e3, e4⟩ := r_cend (c := c) (x5 := x5) hl (by show s.1.length ≤ 1100; omega) hc hx5 (hset.fr (by rw [List.length_set]; omega) f1 (fun a q z y => by unfold qRo at y; omega)) hs9 (by rw [f1.i (by decide)]; exact h33)
    refine ⟨_, rfl, e1, ?_, ?_, (f1.mono (fun a j z => Or.inr (Or.inr (Or.inl z)))).trans e4⟩
    · dsimp only
      rw [d1, t1, Int.toNat_natCast, Int.toNat_natCast]; exact e2
    · rw [e3, cx, cnt]
  rw [if_neg c1, if_neg c1]
  by_cases c2 : (itm X k).1 = 2
  · obtain ⟨d, d1, d2, d3⟩ := reg0 (by omega)
    obtain ⟨t, t1, t2, t3⟩ := reg1 (by omega)
    have hu := (o3 2 (by omega)).2.2 ⟨by omega, by omega, by omega⟩
    have hu : 0 ≤ ig (itm X k) 3 ∧ ig (itm X k) 3 < g := hu
    obtain ⟨u, u1⟩ : ∃ u : Nat, ig (itm X k) 3 = u := ⟨(ig (itm X k) 3).toNat, by omega⟩
    have u3 : ri A 228 (rad ((4 + p : Nat) : Int) k 0 + 3) = (u : Int) := by rw [← u1]; exact num 2 (by omega)
    have v4 : ri A 228 (rad ((4 + p : Nat) : Int) k 0 + 4) = ig (itm X k) 4 := num 3 (by omega)
    have hl1 := lim t t2
    have hl2 := lim u (by omega)
    have hp1 := phi_le g (s.2.1 t)
    have hp2 := phi_le g (s.2.1 u)
    have ho4 := o4 c2
    obtain ⟨B, b1, b2, b3⟩ := r_nameOf (N := N) (y := (1, ig (itm X k) 4, (s.2.1 t : Int), (s.2.1 u : Int))) hN hg hw (by omega) hn (Or.inr (Or.inl ⟨_, _, _, ho4.1, ho4.2, rfl⟩)) (by show (1 : Int) ≠ 5; decide) (by rw [trK1]; exact yb_w (by show -2147483648 ≤ (phi g (s.2.1 t) : Int); omega) (by show (phi g (s.2.1 t) : Int) < 2147483648; omega)) (by rw [trK1]; exact yb_w (by show -2147483648 ≤ (phi g (s.2.1 u) : Int); omega) (by show (phi g (s.2.1 u) : Int) < 2147483648; omega))
    rw [trK1] at b1
    obtain ⟨C, e1, e2, e3, e4, e5⟩ := r_bmv (N := N) (r6 := r6) (c := c) (x5 := x5) (d := d) (X := X) (k := k) hN hp hg hl hk hw hm b2 (hx.fr (by omega) b3 (n9 b3)) (by rw [b3.e (fun z => by unfold qNm at z; omega)]; exact h230) hi d1 d2 (Or.inl c2) hc hx5 (by rw [b3.i (fun z => by unfold qNm at z; omega)]; exact h33)
    have e204 : z_M_common_204 r6 N p k (rad ((4 + p : Nat) : Int) k 0) (itm X k).1 x5 d t A = z_M_common_262 r6 N p k (rad ((4 + p : Nat) : Int) k 0) x5 d (phi g (mkN s.1 (1, ig (itm X k) 4, (s.2.1 t : Int), (s.2.1 u : Int))).1 : Int) B := by
      unfold z_M_common_204
      rw [if_pos c2, zrd_ok g4.1 g4.2, v4, zrd_ok (by omega) (by omega), n4 t t2, zrd_ok g3.1 g3.2, u3, zrd_ok (by omega) (by omega), n4 u (by omega)]
      rw [b1, zbI_s]
    rw [if_pos c2, if_pos c2, d3, t3, e204, e1, t1, u1, Int.toNat_natCast, Int.toNat_natCast]
    exact ⟨C, rfl, e2, e3, e4, (b3.mono (fun a j z => Or.inr (Or.inl z))).trans e5⟩
  rw [if_neg c2, if_neg c2]
  by_cases c3 : (itm X k).1 = 3
  · obtain ⟨d, d1, d2, d3⟩ := reg0 (by omega)
    obtain ⟨t, t1, t2, t3⟩ := reg1 (by omega)
    have hl1 := lim t t2
    have hp1 := phi_le g (s.2.1 t)
    obtain ⟨B, b1, b2, b3⟩ := r_nameOf (N := N) (y := (2, (s.2.1 t : Int), (s.2.2.1 : Int), 0)) hN hg hw (by omega) hn (Or.inr (Or.inr (Or.inl ⟨_, _, rfl⟩))) (by show (2 : Int) ≠ 5; decide) (by rw [trK2]; exact yb_w (by show -2147483648 ≤ (phi g (s.2.1 t) : Int); omega) (by show (phi g (s.2.1 t) : Int) < 2147483648; omega)) (by rw [trK2]; exact yb_w (by show -2147483648 ≤ (s.2.2.1 : Int); omega) (by show (s.2.2.1 : Int) < 2147483648; omega))
    rw [trK2] at b1
    obtain ⟨C, e1, e2, e3, e4, e5⟩ := r_bmv (N := N) (r6 := r6) (c := c) (x5 := x5) (d := d) (X := X) (k := k) hN hp hg hl hk hw hm b2 (hx.fr (by omega) b3 (n9 b3)) (by rw [b3.e (fun z => by unfold qNm at z; omega)]; exact h230) hi d1 d2 (Or.inr c3) hc hx5 (by rw [b3.i (fun z => by unfold qNm at z; omega)]; exact h33)
    have e204 : z_M_common_204 r6 N p k (rad ((4 + p : Nat) : Int) k 0) (itm X k).1 x5 d t A = z_M_common_262 r6 N p k (rad ((4 + p : Nat) : Int) k 0) x5 d (phi g (mkN s.1 (2, (s.2.1 t : Int), (s.2.2.1 : Int), 0)).1 : Int) B := by
      unfold z_M_common_204
      rw [if_neg c2, zrd_ok (by omega) (by omega), n4 t t2, n5]
      rw [b1, zbI_s]
    rw [if_pos c3, if_pos c3, d3, t3, e204, e1, t1, Int.toNat_natCast]
    exact ⟨C, rfl, e2, e3, e4, (b3.mono (fun a j z => Or.inr (Or.inl z))).trans e5⟩
  rw [if_neg c3, if_neg c3]
  by_cases c5 : (itm X k).1 = 5
  · obtain ⟨d, d1, d2, d3⟩ := reg0 (by omega)
    obtain ⟨B, b1, b2, b3⟩ := r_newName (N := N) hg hw (by omega) hn
    have hmk := mkl (5, (s.2.2.2 : Int), 0, 0)
    rw [if_pos c5, if_neg (show ¬ (itm X k).1 = 4 by omega), if_pos c5, d3, b1, zbI_s, zwr_ok (by omega) (by omega), zlet_s]
    have f1 : fr (fun a _ => a = 249) B (rs B 249 d (phi g (mkN s.1 (5, (s.2.2.2 : Int), 0, 0)).1 : Int)) := fr_rs rfl
    have hs9 := RNB_set (d := d) (n := (mkN s.1 (5, (s.2.2.2 : Int), 0, 0)).1) d2 (by omega) hg b2
    obtain ⟨e1, e2, e3, e4⟩ := r_cend (c := c) (x5 := x5) hl (by show (mkN s.1 (5, (s.2.2.2 : Int), 0, 0)).2.length ≤ 1100; omega) hc hx5 ((hset.fr (by rw [List.length_set]; omega) b3 (n9 b3)).fr (by rw [List.length_set]; omega) f1 (fun a q z y => by unfold qRo at y; omega)) hs9 (by rw [f1.i (by decide), b3.i (fun z => by unfold qNm at z; omega)]; exact h33)
    refine ⟨_, rfl, e1, ?_, ?_, ((b3.mono (fun a j z => Or.inr (Or.inl z))).trans (f1.mono (fun a j z => Or.inr (Or.inr (Or.inl z))))).trans e4⟩
    · dsimp only
      rw [d1, Int.toNat_natCast]; exact e2
    · rw [e3, cx, cnt]
  rw [if_neg c5]
  by_cases c4 : (itm X k).1 = 4
  · rw [if_pos c4, if_pos c4, zlet_s, n5]
    have f1 : fr (fun a j => a = 226 ∧ j = 35) A (zsi A 226 35 ((s.2.2.1 : Int) + 1)) := fr_si ⟨rfl, rfl⟩
    have v35 : zi (zsi A 226 35 ((s.2.2.1 : Int) + 1)) 226 35 = ((s.2.2.1 + 1 : Nat) : Int) := by rw [zi_si_s, yb_w (by omega) (by omega)]; omega
    have hnB : RNB (zsi A 226 35 ((s.2.2.1 : Int) + 1)) g (s.1, s.2.1, s.2.2.1 + 1, s.2.2.2) := by
      refine ⟨by rw [zi_si_j (by decide)]; exact n1, fun i hi => by rw [f1.e (fun z => by omega)]; exact n2 i hi, fun i h1 h2 => ?_, fun r hr => by rw [f1.e (fun z => by omega)]; exact n4 r hr, v35⟩
      have := n3 i h1 h2
      unfold RKy at this ⊢
      rw [f1.e (fun z => by omega), f1.e (fun z => by omega), f1.e (fun z => by omega)]
      exact this
    generalize zsi A 226 35 ((s.2.2.1 : Int) + 1) = B at *
    rw [zlet_s]
    obtain ⟨e1, e2, e3, e4⟩ := r_cend (c := c) (x5 := x5) hl (by show s.1.length ≤ 1100; omega) hc hx5 (hset.fr (by rw [List.length_set]; omega) f1 (fun a q z y => by unfold qRo at y; omega)) hnB (by rw [f1.i (by decide)]; exact h33)
    refine ⟨_, rfl, e1, e2, ?_, (f1.mono (fun a j z => Or.inr (Or.inr (Or.inr z)))).trans e4⟩
    rw [e3, cx, cnt]
  rw [if_neg c4, if_neg c4, if_neg c5]
  by_cases c6 : (itm X k).1 = 6
  · rw [if_pos c6, if_pos c6, zlet_s]
    obtain ⟨e1, e2, e3, e4⟩ := r_cend (c := c) (x5 := x5) hl (by omega) hc hx5 hset hn h33
    exact ⟨_, rfl, e1, e2, by rw [e3, cx, cnt], e4⟩
  rw [if_neg c6, if_neg c6]
  obtain ⟨B, b1, b2, b3⟩ := r_renew (N := N) (A := A) (g := g) hN hg
  rw [b1, zbV_s, zlet_s]
  obtain ⟨e1, e2, e3, e4⟩ := r_cend (c := c) (x5 := x5) (s := (ownK g, id, 0, 0)) hl (by show (ownK g).length ≤ 1100; rw [ownK_len]; omega) hc hx5 (hset.fr (by rw [List.length_set]; omega) b3 (fun a q z y => by unfold qN9 qNm at z; unfold qRo at y; omega)) b2 (by rw [b3.i (fun z => by unfold qN9 qNm at z; omega)]; exact h33)
  exact ⟨_, rfl, e1, e2, by rw [e3, cx, cnt], (b3.mono (fun a j z => Or.inr z)).trans e4⟩
theorem r_com_run {G : zA} {c : Nat} (hN : 300000 ≤ N) (hp : p < 4) (hok : okL T p' g X) (hg : g ≤ 60) (hl : X.length ≤ 150) (hc : c ≤ 100000) : ∀ (r k f : Nat) (B : zA), k + r = X.length → r < f → fr (qCo p) G B → RP B (4 + p) (cmS g X k).1 g → RNB B g (cmS g X k).2.1 → ri B 230 p = g → zi B 226 33 = ((c + (cmS g X k).2.2 : Nat) : Int) → ∃ C, z_M_common_6_l N f p k B = some C ∧ fr (qCo p) G C ∧ RP C (4 + p) (cmS g X X.length).1 g ∧ zi C 226 33 = ((c + (cmS g X X.length).2.2 : Nat) : Int) := by
  intro r
  induction r with
  | zero =>
    intro k f B h1 h2 hF hx hn h230 h33
    obtain ⟨u, rfl⟩ : ∃ u, f = u + 1 := ⟨f - 1, by omega⟩
    have : k = X.length := by omega
    subst this
    have hln := (cmS_ok hok hg X.length (Nat.le_refl _)).1
    have hxn := hx.1
    rw [hln] at hxn
    refine ⟨B, ?_, hF, hx, h33⟩
    show z_M_common_6_b (z_M_common_6_l N u) N p (X.length : Nat) B = _
    unfold z_M_common_6_b
    rw [z_M_row_e (by omega) (by omega), zbP_s, zrd_ok (by omega) (by omega), show (4 : Int) * 1 + p = ((4 + p : Nat) : Int) by omega, hxn, if_neg (by omega)]
  | succ r ih =>
    intro k f B h1 h2 hF hx hn h230 h33
    obtain ⟨u, rfl⟩ : ∃ u, f = u + 1 := ⟨f - 1, by omega⟩
    have hk : k < X.length := by omega
    obtain ⟨i1, i2, i3, i4, i5, i6, i7, i8⟩ := cmS_ok hok hg k (by omega)
    have e : cmS g X (k + 1) = ((cmS g X k).1.set k (cm1 g (itm X k) (cmS g X k).2.1).1, (cm1 g (itm X k) (cmS g X k).2.1).2.1, (cmS g X k).2.2 + (cm1 g (itm X k) (cmS g X k).2.1).2.2) := rfl
    have hik := i2 k (Nat.le_refl _)
    generalize cmS g X k = z at *
    have hxn := hx.1
    rw [i1] at hxn
    have hit := hok _ (itm_mem hk)
    have hr := rdk_0 (itm X k).1
    have hzl : z.2.1.1.length ≤ 1100 := by have := i6.2.1; omega
    have w1 : zw ((k : Int) + 1) = ((k + 1 : Nat) : Int) := by rw [yb_w (by omega) (by omega)]; omega
    have hkd := (hx.2.2 k (by omega)).1
    rw [hik] at hkd
    have hx0 : RP B (4 + p) (z.1.set k (rdL g z.2.1.2.1 (itm X k) (min 0 (rdk (itm X k).1).toNat)).1) g := by
      rw [Nat.zero_min]
      show RP B (4 + p) (z.1.set k (itm X k)) g
      rw [← hik, set_self (by omega)]; exact hx
    obtain ⟨C, c1, c2, c3⟩ := r_crd (N := N) (s := z.2.1) (it := itm X k) (X := z.1) (k := k) (r6 := z_M_common_6_l N u) hN hp hit hg (by omega) (by omega) hzl 2 0 N B (by omega) (by omega) hx0 hn h230
    rw [Nat.zero_min, show ((0 : Nat) : Int) = 0 from rfl] at c1
    have c1 : z_M_common_41_l (z_M_common_6_l N u) N N p k (rad ((4 + p : Nat) : Int) k 0) (itm X k).1 0 0 B = _ := c1
    obtain ⟨b1, b2, b3, b4, b5⟩ := rdL_ok (nm := z.2.1.2.1) hit hg (rdk (itm X k).1).toNat (by omega)
    have hik2 : itm (z.1.set k (rdL g z.2.1.2.1 (itm X k) (rdk (itm X k).1).toNat).1) k = (rdL g z.2.1.2.1 (itm X k) (rdk (itm X k).1).toNat).1 := by rw [itm_set (by omega), if_pos rfl]
    have hnC := hn.fr hzl c3 (fun a j z y => by unfold qN9 qNm at y; omega)
    obtain ⟨x5, hx5, hx5'⟩ : ∃ x5 : Nat, (rdL g z.2.1.2.1 (itm X k) (rdk (itm X k).1).toNat).2 = (x5 : Int) ∧ x5 ≤ 1 := by
      rcases b4 with b4 | b4
      · exact ⟨0, by rw [b4]; rfl, by decide⟩
      · exact ⟨1, by rw [b4]; rfl, by decide⟩
    have h33C : zi C 226 33 = ((c + z.2.2 : Nat) : Int) := by rw [c3.i (fun z => by omega)]; exact h33
    obtain ⟨D, d1, d2, d3, d4, d5⟩ := r_goV (N := N) (r6 := z_M_common_6_l N u) (k := k) (m := k) (x5 := x5) (c := c + z.2.2) hN hp hg (by rw [List.length_set]; omega) (by rw [List.length_set]; omega) i6 (by omega) hnC c2 (by rw [c3.e (fun z => by omega)]; exact h230) (by rw [hik2]; exact b2) (by omega) hx5' h33C
    rw [hik2] at d1 d2 d3 d4
    rw [List.set_set] at d2
    rw [b1, w1] at d1
    rw [hx5, d1] at c1
    have c1' : (cm1 g (itm X k) z.2.1).1 = (goV g (rdL g z.2.1.2.1 (itm X k) (rdk (itm X k).1).toNat).1 z.2.1).1 := rfl
    have c2' : (cm1 g (itm X k) z.2.1).2.1 = (goV g (rdL g z.2.1.2.1 (itm X k) (rdk (itm X k).1).toNat).1 z.2.1).2.1 := rfl
    have c3' : (cm1 g (itm X k) z.2.1).2.2 = if (rdL g z.2.1.2.1 (itm X k) (rdk (itm X k).1).toNat).2 = 0 ∧ (goV g (rdL g z.2.1.2.1 (itm X k) (rdk (itm X k).1).toNat).1 z.2.1).2.2 = 0 then 0 else 1 := rfl
    have fD : fr (qCo p) B D := (c3.mono (fun a j z => Or.inl (Or.inl (Or.inl z)))).trans d5
    obtain ⟨E, e1, e2, e3, e4⟩ := ih (k + 1) u D (by omega) (by omega) (hF.trans fD) (by rw [e]; dsimp only; rw [c1']; exact d2) (by rw [e]; dsimp only; rw [c2']; exact d3) (by rw [fD.e (fun z => by unfold qCo qIn qN9 qNm qRo at z; omega)]; exact h230) (by
      rw [e, d4]
      dsimp only
      rw [c3', hx5]
      refine congrArg (fun q : Nat => (q : Int)) ?_
      by_cases q : x5 = 0 ∧ (goV g (rdL g z.2.1.2.1 (itm X k) (rdk (itm X k).1).toNat).1 z.2.1).2.2 = 0
      · rw [if_pos q, if_pos ⟨by rw [q.1]; rfl, q.2⟩]; omega
      · rw [if_neg q, if_neg (fun y => q ⟨by have := y.1; omega, y.2⟩)]; omega)
    refine ⟨E, ?_, e2, e3, e4⟩
    rw [← e1, ← c1]
    show z_M_common_6_b (z_M_common_6_l N u) N p k B = _
    unfold z_M_common_6_b z_M_common_41
    have ge : 0 ≤ rad ((4 + p : Nat) : Int) k 0 ∧ rad ((4 + p : Nat) : Int) k 0 < 14400 := by unfold rad; omega
    rw [z_M_row_e (by omega) (by omega), zbP_s, zrd_ok (by omega) (by omega), show (4 : Int) * 1 + p = ((4 + p : Nat) : Int) by omega, hxn, if_pos (by omega), z_M_place_e (by omega) (by omega) (by omega) (by omega), zbP_s, show (4 : Int) * 1 + p = ((4 + p : Nat) : Int) by omega, zrd_ok ge.1 ge.2, hkd]
theorem r_common {Q Qn QB : Pr} {c0 : Nat} (hN : 300000 ≤ N) (hG : GQ Q) (hp : exP Q p) (h : RPG A Qn QB) (hs : RSt A 1 Q) (hT : Qn.1 = Q.1) (h2 : Qn.2.2 p = Q.2.2 p) (hc0 : c0 ≤ 100000) (h33 : zi A 226 33 = c0) : ∃ B, z_M_common N p A = some B ∧ RSt B 1 (comQ Q p) ∧ zi B 226 33 = ((c0 + (cmS (Q.2.2 p) (Q.2.1 p) (Q.2.1 p).length).2.2 : Nat) : Int) ∧ RL B 1 ∧ fr (qCo p) A B := by
  have hp3 := exP3 hG.1 hp
  have hpn : exP Qn p := by unfold exP at *; omega
  have hX := rst_rp h.1 hpn
  rw [show 4 * 0 + p = p by omega] at hX
  have h230 := hX.2.1
  rw [h2] at h230
  obtain ⟨g7, g60, hl, gok⟩ := hG.1.2 p hp
  have hx1 := rst_rp hs hp
  rw [show 4 * 1 + p = 4 + p by omega] at hx1
  obtain ⟨B, b1, b2, b3⟩ := r_renew (N := N) (A := A) (g := Q.2.2 p) hN g60
  obtain ⟨C, c1, c2, c3, c4⟩ := r_com_run (N := N) (G := A) (p := p) (c := c0) (X := Q.2.1 p) (g := Q.2.2 p) hN (by omega) gok g60 hl hc0 (Q.2.1 p).length 0 N B (by omega) (by omega) (b3.mono (fun a j z => Or.inr z)) (hx1.fr (by omega) b3 (fun a q z y => by unfold qN9 qNm at z; unfold qRo at y; omega)) b2 (by rw [b3.e (fun z => by unfold qN9 qNm at z; omega)]; exact h230) (by rw [b3.i (fun z => by unfold qN9 qNm at z; omega), h33]; rfl)
  rw [show ((0 : Nat) : Int) = 0 from rfl] at c1
  obtain ⟨j1, -⟩ := cmS_ok (g := Q.2.2 p) (X := Q.2.1 p) gok g60 _ (Nat.le_refl _)
  refine ⟨C, ?_, rst_put hG.1 hs c2 (fun q hq hq4 a j z y => by unfold qCo qIn qN9 qNm qRo at z; unfold qRo at y; omega) c3, c4, fun q hq => ?_, c2⟩
  · unfold z_M_common z_M_common_6
    rw [b1, zbV_s, c1]
  · by_cases e : q = p
    · subst e
      have := c3.1
      unfold rn
      rw [show (4 : Int) * ((1 : Nat) : Int) + q = ((4 + q : Nat) : Int) by omega, this]
      omega
    · have : rn C (4 * ((1 : Nat) : Int) + q) = rn A (4 * ((1 : Nat) : Int) + q) := c2.e (fun z => by unfold qCo qIn qN9 qNm qRo at z; omega)
      rw [this]
      exact h.2.2.2.2.1 q hq
end
