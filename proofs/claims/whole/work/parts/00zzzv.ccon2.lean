/-! CONSTANTS of the class: blocks -/
def RCo (N o o' k : Nat) (B : zA) (k' : Nat) (C : zA) (c : Nat) : Prop := ∀ f, z_Co_fold_64_l N (f + c) o o' (k : Int) B = z_Co_fold_64_l N f o o' (k' : Int) C
theorem RCo.refl (N o o' k : Nat) (B : zA) : RCo N o o' k B k B 0 := fun _ => rfl
theorem RCo.trans {N o o' k k' k'' c c' : Nat} {B C D : zA} (h : RCo N o o' k B k' C c) (g : RCo N o o' k' C k'' D c') : RCo N o o' k B k'' D (c + c') := fun f => by
  rw [show f + (c + c') = (f + c') + c by omega, h, g]
def LvF (L : Nat) (A B : zA) : Prop := ∀ j, j < L → ∀ i, i < 60 → zml B (52 + j) i = zml A (52 + j) i ∧ zml B (77 + j) i = zml A (77 + j) i
def KF (o' L a b : Nat) (A B : zA) : Prop := cF (cfS o') A B ∧ LvF L A B ∧ ∀ k : Nat, k < a ∨ b ≤ k → ri B 101 k = ri A 101 k
theorem KF.trans {o' L a b : Nat} {A B C : zA} (h : KF o' L a b A B) (g : KF o' L a b B C) : KF o' L a b A C := ⟨h.1.trans g.1, fun j hj i hi => ⟨(g.2.1 j hj i hi).1.trans (h.2.1 j hj i hi).1, (g.2.1 j hj i hi).2.trans (h.2.1 j hj i hi).2⟩, fun k hk => (g.2.2 k hk).trans (h.2.2 k hk)⟩
theorem KF.mono {o' L L' a b a' b' : Nat} {A B : zA} (h : KF o' L a b A B) (h1 : L' ≤ L) (h2 : a' ≤ a) (h3 : b ≤ b') : KF o' L' a' b' A B := ⟨h.1, fun j hj => h.2.1 j (by omega), fun k hk => h.2.2 k (by omega)⟩
theorem KF.refl {o' L a b : Nat} {A : zA} (h : Own A) : KF o' L a b A A := ⟨cF.refl _ h, fun _ _ _ _ => ⟨rfl, rfl⟩, fun _ _ => rfl⟩
theorem KF_1 {o' L a b x : Nat} {A B : zA} (f : cF [x] A B) (hL : L ≤ 24) (ho : o' < 49) (hx : x = o' ∨ x = 49 ∨ x = 50) : KF o' L a b A B := by
  refine ⟨cfS_1 f (by omega), fun j hj i hi => ⟨?_, ?_⟩, fun k hk => f.e (by decide) (cont2 (by omega))⟩
  · exact f.l (fx52 ⟨j, by omega⟩).1 (cont2 (by show 52 + j ≠ x; omega))
  · exact f.l (fx52 ⟨j, by omega⟩).2 (cont2 (by show 77 + j ≠ x; omega))
theorem KF_2 {o' L a b x : Nat} {A B : zA} (f : cF [x] A B) (hL : L ≤ 24) (ho : o' < 49) (hx : (x = 52 + L ∧ L < 24) ∨ (x = 77 + L ∧ L < 24)) : KF o' L a b A B := by
  refine ⟨cfS_1 f (by omega), fun j hj i hi => ⟨?_, ?_⟩, fun k hk => f.e (by decide) (cont2 (by omega))⟩
  · exact f.l (fx52 ⟨j, by omega⟩).1 (cont2 (by show 52 + j ≠ x; omega))
  · exact f.l (fx52 ⟨j, by omega⟩).2 (cont2 (by show 77 + j ≠ x; omega))
section
variable {N : Nat} {A : zA} {o o' g : Nat} {X : List It} {T p : Nat} {s : KS} {L : Nat} {nd : Int → Nat}
theorem RCo_one {B C : zA} {k v : Nat} {L : Nat} {s : KS} (h : CoS B o o' X g L s) (hk : k < X.length) (hl : X.length ≤ 240) (hv : v < 1000) (hg : z_Co_goOver N o k o' B = some ((v : Int), C)) : RCo N o o' k B (max k v + 1) C 1 := fun f => by
  have hcn : zi B o 2 = X.length := h.2.2.1.2.1
  show z_Co_fold_64_b (z_Co_fold_64_l N f) N o o' k B = _
  unfold z_Co_fold_64_b
  rw [hcn, if_pos (by omega), hg, zbI_s]
  have : zw (zmx (k : Int) (v : Int) + 1) = ((max k v + 1 : Nat) : Int) := by
    unfold zmx
    split
    · rw [yb_w (by omega) (by omega)]; omega
    · rw [yb_w (by omega) (by omega)]; omega
  rw [this]
theorem c_fgw {a e : Nat} (hN : 300000 ≤ N) (hoo : okO2 o o') (hok : okL T p g X) (hg : g ≤ 60) (he : e ≤ X.length) (hl : X.length ≤ 240) : ∀ (r i f : Nat) (B : zA), i + r = e → a < i → r < f → CoS B o o' X g L (fgW X a i s.1, s.2) → ∃ C, z_Co_forgetWritten_11_l N f o e i B = some C ∧ CoS C o o' X g L (fgW X a e s.1, s.2) ∧ cF [50] B C := by
  obtain ⟨p1, p2, p3, p4, p5, p6, p7⟩ := id hoo
  intro r
  induction r with
  | zero =>
    intro i f B h1 h2 h3 hc
    obtain ⟨u, rfl⟩ : ∃ u, f = u + 1 := ⟨f - 1, by omega⟩
    have : i = e := by omega
    subst this
    refine ⟨B, ?_, hc, cF.refl _ hc.1⟩
    show z_Co_forgetWritten_11_b (z_Co_forgetWritten_11_l N u) N o i i B = _
    unfold z_Co_forgetWritten_11_b
    rw [if_neg (by omega)]
  | succ r ih =>
    intro i f B h1 h2 h3 hc
    obtain ⟨u, rfl⟩ : ∃ u, f = u + 1 := ⟨f - 1, by omega⟩
    have hi : i < X.length := by omega
    have hoi := hok _ (itm_mem hi)
    have w1 : zw ((i : Int) + 1) = ((i + 1 : Nat) : Int) := by rw [yb_w (by omega) (by omega)]; omega
    have st : z_Co_forgetWritten_11_l N (u + 1) o e i B = z_Co_forgetWritten_11_b (z_Co_forgetWritten_11_l N u) N o e i B := rfl
    unfold z_Co_forgetWritten_11_b at st
    rw [if_pos (by omega), cp_writ hc.1 p1 hc.2.2.1 hoi hg hi, zbP_s, w1] at st
    have stp : ∀ r : Nat, (∃ m, a < m ∧ m < i + 1 ∧ spl (itm X m) r) ↔ ((∃ m, a < m ∧ m < i ∧ spl (itm X m) r) ∨ spl (itm X i) r) := fun r => by
      constructor
      · intro ⟨m, m1, m2, m3⟩
        by_cases z : m = i
        · rw [z] at m3; exact Or.inr m3
        · exact Or.inl ⟨m, m1, by omega, m3⟩
      · intro z
        rcases z with ⟨m, m1, m2, m3⟩ | z
        · exact ⟨m, m1, by omega, m3⟩
        · exact ⟨i, h2, by omega, z⟩
    have go : ∀ C, CoS C o o' X g L (fgW X a (i + 1) s.1, s.2) → cF [50] B C → ∃ D, z_Co_forgetWritten_11_l N u o e ((i + 1 : Nat) : Int) C = some D ∧ CoS D o o' X g L (fgW X a e s.1, s.2) ∧ cF [50] B D := fun C hC fC => by
      obtain ⟨D, d1, d2, d3⟩ := ih (i + 1) u C (by omega) (by omega) (by omega) hC
      exact ⟨D, d1, d2, fC.trans d3⟩
    have same : (∀ r : Nat, ¬ spl (itm X i) r) → fgW X a (i + 1) s.1 = fgW X a i s.1 := fun hn => by
      funext r
      unfold fgW
      by_cases z : ∃ m, a < m ∧ m < i ∧ spl (itm X m) r
      · rw [cif_pos z, cif_pos ((stp r).mpr (Or.inl z))]
      · rw [cif_neg z, cif_neg (fun y => ((stp r).mp y).elim z (hn r))]
    by_cases cw : wri (itm X i) < 0
    · rw [if_pos cw, cp_kind hc.1 p1 hc.2.2.1 hi, zbP_s] at st
      by_cases c7 : (itm X i).1 = 7
      · obtain ⟨C, d1, d2, d3⟩ := c_fgc (N := N) hc hN hoo
        rw [if_pos c7, d1, zbV_s] at st
        rw [st]
        refine go C ?_ d3
        have : fgW X a (i + 1) s.1 = kfg (fgW X a i s.1) := by
          funext r
          unfold kfg fgW
          by_cases r6 : r < 6
          · rw [if_pos r6, cif_pos ((stp r).mpr (Or.inr (Or.inl ⟨c7, by omega⟩)))]
          · rw [if_neg r6]
            have hn : ¬ spl (itm X i) r := fun z => by unfold spl at z; omega
            by_cases z : ∃ m, a < m ∧ m < i ∧ spl (itm X m) r
            · rw [cif_pos z, cif_pos ((stp r).mpr (Or.inl z))]
            · rw [cif_neg z, cif_neg (fun y => ((stp r).mp y).elim z hn)]
        rw [this]; exact d2
      · rw [if_neg c7] at st
        rw [st]
        refine go B ?_ (cF.refl _ hc.1)
        rw [same (fun r z => by unfold spl at z; omega)]; exact hc
    · obtain ⟨d, hd, hd6⟩ := wri_rg hoi hg cw
      rw [if_neg cw, hd, zwl_ok (by omega) (by omega), Int.toNat_natCast] at st
      rw [st]
      obtain ⟨d1, d2⟩ := c_kset (d := d) (v := none) hc hoo
      refine go _ ?_ d2
      have n7 : (itm X i).1 ≠ 7 := fun z => cw (by rw [wri_7 z]; decide)
      have : fgW X a (i + 1) s.1 = kset (fgW X a i s.1) d none := by
        funext r
        unfold kset fgW
        by_cases rd : r = d
        · rw [if_pos rd, cif_pos ((stp r).mpr (Or.inr (Or.inr ⟨n7, by rw [hd, rd]⟩)))]
        · rw [if_neg rd]
          have hn : ¬ spl (itm X i) r := fun z => by unfold spl at z; omega
          by_cases z : ∃ m, a < m ∧ m < i ∧ spl (itm X m) r
          · rw [cif_pos z, cif_pos ((stp r).mpr (Or.inl z))]
          · rw [cif_neg z, cif_neg (fun y => ((stp r).mp y).elim z hn)]
      rw [this]; exact d1
/-- both ways come together -/
theorem c_close {l : Nat} {kb : Kn} (hl : l < 24) (hoo : okO2 o o') (hks : okK s.1) (hkb : okK kb) : ∀ (r i f : Nat) (B : zA), i + r = 60 → r < f → CoS B o o' X g (l + 1) ((fun q => if q < i then kjn kb s.1 q else s.1 q), s.2) → (∀ q : Nat, q < 60 → zml B (77 + l) q = kv (kb q)) → ∃ C, z_Co_close_24_l N f i B = some C ∧ (∀ r : Nat, r < 60 → zml C 50 r = kv (kjn kb s.1 r)) ∧ zi C 49 4 = l ∧ (∃ D, cF [50] B D ∧ cF [49] D C) ∧ zi C 49 5 = s.2.2 := by
  intro r
  induction r with
  | zero =>
    intro i f B h1 h2 hc hb
    obtain ⟨u, rfl⟩ : ∃ u, f = u + 1 := ⟨f - 1, by omega⟩
    have : i = 60 := by omega
    subst this
    have h4 : zi B 49 4 = ((l + 1 : Nat) : Int) := hc.2.2.2.2.2.2.1
    have f1 : cF [49] B (zsi B 49 4 (((l + 1 : Nat) : Int) - 1)) := cF_si hc.1 (by decide) (by decide) (by decide)
    refine ⟨zsi B 49 4 (((l + 1 : Nat) : Int) - 1), ?_, fun r hr => ?_, by rw [zi_si_s, yb_w (by omega) (by omega)]; omega, ⟨B, cF.refl _ hc.1, f1⟩, by rw [zi_si_j (by decide)]; exact hc.2.2.2.2.2.2.2⟩
    · show z_Co_close_24_b (z_Co_close_24_l N u) N (60 : Nat) B = _
      unfold z_Co_close_24_b
      rw [if_neg (by decide), h4, zlet_s]
    · rw [f1.l (by decide) (by decide), hc.2.2.2.2.2.1 r hr]
      show kv (if r < 60 then _ else _) = _
      rw [if_pos hr]
  | succ r ih =>
    intro i f B h1 h2 hc hb
    obtain ⟨u, rfl⟩ : ∃ u, f = u + 1 := ⟨f - 1, by omega⟩
    have w1 : zw ((i : Int) + 1) = ((i + 1 : Nat) : Int) := by rw [yb_w (by omega) (by omega)]; omega
    have h4 : zi B 49 4 = ((l + 1 : Nat) : Int) := hc.2.2.2.2.2.2.1
    have hi := hc.2.2.2.2.2.1 i (by omega)
    have hi : zml B 50 i = kv (if i < i then _ else s.1 i) := hi
    rw [if_neg (by omega)] at hi
    have hrd : ∀ K : Int64 → Option zA, zrDl B (77 + l) (i : Int) K = K (kv (kb i)) := fun K => by
      unfold zrDl
      rw [hc.1.1 _ _ (sh52 ⟨l, hl⟩).2]
      simp only
      rw [if_pos ⟨trivial, by omega, by omega⟩, Int.toNat_natCast, hb i (by omega)]
    have st : z_Co_close_24_l N (u + 1) i B = z_Co_close_24_b (z_Co_close_24_l N u) N i B := rfl
    unfold z_Co_close_24_b at st
    rw [if_pos (by omega), zrl_ok (by omega) (by omega), Int.toNat_natCast, hi, h4, show (((l + 1 : Nat) : Int) - 1) = (l : Int) by omega, zfe_76 hl, hrd, w1] at st
    by_cases c : s.1 i = kb i
    · rw [if_pos ((lg_cmp_z _ _).mpr (by rw [c]))] at st
      rw [st]
      refine ih (i + 1) u B (by omega) (by omega) ?_ hb
      have : (fun q => if q < i + 1 then kjn kb s.1 q else s.1 q) = (fun q => if q < i then kjn kb s.1 q else s.1 q) := by
        funext q
        by_cases z : q = i
        · rw [z, if_pos (by omega), if_neg (by omega)]
          unfold kjn
          rw [if_pos c]
        · by_cases y : q < i
          · rw [if_pos y, if_pos (by omega)]
          · rw [if_neg y, if_neg (by omega)]
      rw [this]; exact hc
    · rw [if_neg (fun z => c (kv_inj (hks.o i) (hkb.o i) ((lg_cmp_z _ _).mp z))), zwl_ok (by omega) (by omega), Int.toNat_natCast] at st
      rw [st]
      obtain ⟨d1, d2⟩ := c_kset (d := i) (v := none) hc hoo
      have d1 : CoS (zsl B 50 i (Int64.ofNat 4294967296)) o o' X g (l + 1) (kset (fun q => if q < i then kjn kb s.1 q else s.1 q) i none, s.2) := d1
      have d2 : cF [50] B (zsl B 50 i (Int64.ofNat 4294967296)) := d2
      have : (fun q => if q < i + 1 then kjn kb s.1 q else s.1 q) = kset (fun q => if q < i then kjn kb s.1 q else s.1 q) i none := by
        funext q
        unfold kset
        by_cases z : q = i
        · rw [z, if_pos (by omega), if_pos rfl]
          unfold kjn
          rw [if_neg c]
        · rw [if_neg z]
          dsimp only
          by_cases y : q < i
          · rw [if_pos y, if_pos (by omega)]
          · rw [if_neg y, if_neg (by omega)]
      rw [← this] at d1
      obtain ⟨C, e1, e2, e3, ⟨D, e4, e5⟩, e6⟩ := ih (i + 1) u _ (by omega) (by omega) d1 (fun q hq => by rw [d2.l (fx52 ⟨l, hl⟩).2 (cont2 (by show 77 + l ≠ 50; omega))]; exact hb q hq)
      exact ⟨C, e1, e2, e3, ⟨D, d2.trans e4, e5⟩, e6⟩
end
