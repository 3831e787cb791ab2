/-! CONSTANTS of the class -/
def kv (o : Option Int) : Int64 := match o with
  | none => Int64.ofNat 4294967296
  | some v => zil v
def okO (o : Option Int) : Prop := ∀ v, o = some v → -2147483648 ≤ v ∧ v < 2147483648
theorem zil_i {v : Int} (h1 : -2147483648 ≤ v) (h2 : v < 2147483648) : (zil v).toInt = v := by
  unfold zil
  rw [Int32.toInt_toInt64]
  exact yb_w h1 h2
theorem kv_n : (Int64.ofNat 4294967296).toInt = 4294967296 := by decide
theorem kv_i {o : Option Int} (h : okO o) : (kv o).toInt = o.getD 4294967296 := by
  cases o with
  | none => exact kv_n
  | some v => exact zil_i (h v rfl).1 (h v rfl).2
theorem kv_inj {o q : Option Int} (ho : okO o) (hq : okO q) (h : kv o = kv q) : o = q := by
  have e : (kv o).toInt = (kv q).toInt := by rw [h]
  rw [kv_i ho, kv_i hq] at e
  cases o with
  | none =>
    cases q with
    | none => rfl
    | some v =>
      have := hq v rfl
      have e : (4294967296 : Int) = v := e
      omega
  | some u =>
    cases q with
    | none =>
      have := ho u rfl
      have e : u = (4294967296 : Int) := e
      omega
    | some v =>
      have e : u = v := e
      rw [e]
theorem kv_u {o : Option Int} (ho : okO o) : ((lg_cmp (kv o) (Int64.ofNat 4294967296)).toInt = 0) ↔ o = none := by
  rw [lg_cmp_z]
  constructor
  · intro h
    exact kv_inj (q := none) ho (fun v z => by cases z) h
  · intro h; rw [h]; rfl
theorem kv_0 {v : Int} (h1 : -2147483648 ≤ v) (h2 : v < 2147483648) : ((lg_cmp (kv (some v)) (Int64.ofNat 0)).toInt = 0) ↔ v = 0 := by
  rw [lg_cmp_z]
  have e0 : kv (some 0) = Int64.ofNat 0 := by decide
  constructor
  · intro h
    rw [← e0] at h
    have := kv_inj (fun u z => by rw [← Option.some.inj z]; exact ⟨h1, h2⟩) (fun u z => by rw [← Option.some.inj z]; exact ⟨by decide, by decide⟩) h
    exact Option.some.inj this
  · intro h; rw [h]; exact e0
theorem zil_32 {v : Int} (h1 : -2147483648 ≤ v) (h2 : v < 2147483648) : (zil v).toInt32.toInt = v := by
  unfold zil
  rw [Int32.toInt32_toInt64]
  exact yb_w h1 h2
theorem okK.o {kn : Kn} (h : okK kn) (r : Nat) : okO (kn r) := fun v e => h r v e
/-! levels -/
theorem sh52 : ∀ j : Fin 24, zsh (52 + j.val) = some (true, 1, 60) ∧ zsh (77 + j.val) = some (true, 1, 60) := by decide
theorem fx52 : ∀ j : Fin 24, fx (52 + j.val) = true ∧ fx (77 + j.val) = true := by decide
section
variable {R : Type} {A : zA} {S : List Nat}
theorem zfe_51 {j : Nat} {K : Nat → Option R} (hj : j < 24) : zfe 51 (j : Int) K = K (52 + j) := by
  have e1 : zsh 51 = some (true, 8, 24) := by decide
  have e2 : zfr 51 j = bif Nat.blt j 24 then some (52 + j) else none := rfl
  have e3 : Nat.blt j 24 = true := Nat.blt_eq.mpr hj
  unfold zfe
  rw [e1]
  simp only
  rw [if_pos ⟨by decide, by decide, by omega, by omega⟩]
  unfold zgf
  rw [Int.toNat_natCast, e2, e3]
  rfl
theorem zfe_76 {j : Nat} {K : Nat → Option R} (hj : j < 24) : zfe 76 (j : Int) K = K (77 + j) := by
  have e1 : zsh 76 = some (true, 8, 24) := by decide
  have e2 : zfr 76 j = bif Nat.blt j 24 then some (77 + j) else none := rfl
  have e3 : Nat.blt j 24 = true := Nat.blt_eq.mpr hj
  unfold zfe
  rw [e1]
  simp only
  rw [if_pos ⟨by decide, by decide, by omega, by omega⟩]
  unfold zgf
  rw [Int.toNat_natCast, e2, e3]
  rfl
theorem zcy_l {a b : Nat} {K : zA → Option R} (hO : Own A) (ha : zsh a = some (true, 1, 60)) (hb : zsh b = some (true, 1, 60)) (h4 : 4 ≤ a) (h4' : 4 ≤ b) (hab : a ≠ b) : zcy A a 0 b 0 60 K = K (zcp A a 0 b 0 60) := by
  unfold zcy
  rw [hO.1 _ _ ha, hO.1 _ _ hb]
  simp only
  rw [if_pos ⟨trivial, Or.inr trivial, h4, h4', hab, by decide, by decide, by decide, by decide, by decide⟩]
  rfl
theorem cF_zcp {a b n : Nat} (h : Own A) (hb : fx b = true) (h0 : b ≠ 0) (hs : S.contains b = true) : cF S A (zcp A a 0 b 0 n) := by
  refine ⟨h, RmS.refl A, fun c k hc hc2 => ⟨?_, ?_, rfl⟩, fun o f hd hs2 => ⟨rfl, fun e => ?_⟩⟩
  · show (if c = b ∧ _ then _ else _) = _
    rw [if_neg (fun q => by rw [q.1, hs] at hc2; cases hc2)]
    rfl
  · show (if c = b ∧ _ then _ else _) = _
    rw [if_neg (fun q => by rw [q.1, hs] at hc2; cases hc2)]
    rfl
  · have := h.ne3 hd hb h0
    unfold yv
    show (zmi (zcp A a 0 b 0 n) (yc A o f) e.toNat).toInt = _
    have e2 : zmi (zcp A a 0 b 0 n) (yc A o f) e.toNat = zmi A (yc A o f) e.toNat := by
      show (if yc A o f = b ∧ _ then _ else _) = _
      rw [if_neg (fun q => this q.1)]
      rfl
    rw [e2]
    rfl
theorem zml_cp (a b c i : Nat) : zml (zcp A a 0 b 0 60) c i = if c = b ∧ i < 60 then zml A a i else zml A c i := by
  show (if c = b ∧ 0 ≤ i ∧ i < 0 + 60 then A.2.2.1 a (0 + (i - 0)) else A.2.2.1 c i) = _
  by_cases q : c = b ∧ i < 60
  · rw [if_pos q, if_pos ⟨q.1, by omega, by omega⟩, Nat.zero_add, Nat.sub_zero]; rfl
  · rw [if_neg q, if_neg (fun z => q ⟨z.1, by omega⟩)]; rfl
end
section
variable {N : Nat} {A : zA} {o o' g : Nat} {X : List It} {T p : Nat} {s : KS} {L : Nat}
def CoS (A : zA) (o o' : Nat) (X : List It) (g L : Nat) (s : KS) : Prop := Own A ∧ STA A ∧ CP A o X g ∧ CM A o X ∧ CP A o' s.2.1 g ∧ (∀ r : Nat, r < 60 → zml A 50 r = kv (s.1 r)) ∧ zi A 49 4 = L ∧ zi A 49 5 = s.2.2
def cfS (o' : Nat) : List Nat := o' :: List.range' 49 53
theorem cfS_m {a : Nat} : (cfS o').contains a = true ↔ a = o' ∨ (49 ≤ a ∧ a < 102) := by
  unfold cfS
  rw [List.contains_iff_mem, List.mem_cons, List.mem_range'_1]
theorem cfS_n {a : Nat} (h : a ≠ o') (h2 : a < 49 ∨ 102 ≤ a) : (cfS o').contains a = false := nc_of (fun q => by have := cfS_m.mp q; omega)
theorem cfS_1 {a : Nat} {B : zA} (f : cF [a] A B) (h : a = o' ∨ (49 ≤ a ∧ a < 102)) : cF (cfS o') A B := f.mono (fun c hc => by
  rw [cfS_m]
  simp only [List.contains_iff_mem, List.mem_cons, List.not_mem_nil, or_false] at hc
  rw [hc]; exact h)
def okO2 (o o' : Nat) : Prop := pto.contains o = true ∧ pto.contains o' = true ∧ o ≠ o' ∧ 3 < o ∧ 3 < o' ∧ o < 49 ∧ o' < 49
/-- cells of knowledge, levels and turns change: the rows stay -/
theorem CoS.fr {B : zA} {a L' : Nat} {t : KS} (h : CoS A o o' X g L s) (hoo : okO2 o o') (f : cF [a] A B) (ha : 49 ≤ a ∧ a < 102) (h1 : t.2.1 = s.2.1) (hk : ∀ r : Nat, r < 60 → zml B 50 r = kv (t.1 r)) (h4 : zi B 49 4 = L') (h5 : zi B 49 5 = t.2.2) : CoS B o o' X g L' t := by
  obtain ⟨c1, c2, c3, c4, c5, c6, c7, c8⟩ := h
  obtain ⟨p1, p2, p3, p4, p5, p6, p7⟩ := hoo
  have n : ∀ q, q < 49 → ([a] : List Nat).contains q = false := fun q hq => cont2 (by omega)
  exact ⟨f.own, c2.fr f (n _ (by decide)) (n _ (by decide)) (n _ (by decide)), c3.fr p1 f (n _ p6), c4.fr p1 f (n _ p6), by rw [h1]; exact c5.fr p2 f (n _ p7), hk, h4, h5⟩
theorem CoS.copy {k : Nat} (h : CoS A o o' X g L s) (hoo : okO2 o o') (hk : k < X.length) (hl : s.2.1.length < 240) : ∃ B, z_Pt_addCopy N o' o k A = some B ∧ CoS B o o' X g L (s.1, s.2.1 ++ [itm X k], s.2.2) ∧ cF [o'] A B := by
  obtain ⟨c1, c2, c3, c4, c5, c6, c7, c8⟩ := h
  obtain ⟨p1, p2, p3, p4, p5, p6, p7⟩ := hoo
  obtain ⟨B, b1, b2, b3⟩ := CP_copy (N := N) c1 p2 p1 p3 c5 c3 hl hk
  have n : ∀ q, q ≠ o' → ([o'] : List Nat).contains q = false := fun q hq => cont2 hq
  refine ⟨B, b1, ⟨b3.own, c2.fr b3 (n _ (by omega)) (n _ (by omega)) (n _ (by omega)), c3.fr p1 b3 (n _ p3), c4.fr p1 b3 (n _ p3), b2, fun r hr => by rw [b3.l (by decide) (n _ (by omega))]; exact c6 r hr, by rw [b3.i (by decide) (n _ (by omega))]; exact c7, by rw [b3.i (by decide) (n _ (by omega))]; exact c8⟩, b3⟩
/-- what is known is kept at a level, and recalled -/
theorem c_kp {w l : Nat} (hO : Own A) (h4 : zi A 49 4 = ((l + 1 : Nat) : Int)) (hl : l < 24) (hw : w = 51 ∨ w = 76) : ∃ B, z_Co_keep N w A = some B ∧ cF [w + 1 + l] A B ∧ (∀ i : Nat, i < 60 → zml B (w + 1 + l) i = zml A 50 i) := by
  have hz : ∀ K : Nat → Option zA, zfe w ((l : Nat) : Int) K = K (w + 1 + l) := fun K => by
    rcases hw with rfl | rfl
    · exact zfe_51 hl
    · exact zfe_76 hl
  have hs : zsh (w + 1 + l) = some (true, 1, 60) ∧ fx (w + 1 + l) = true := by
    rcases hw with rfl | rfl
    · exact ⟨(sh52 ⟨l, hl⟩).1, (fx52 ⟨l, hl⟩).1⟩
    · exact ⟨(sh52 ⟨l, hl⟩).2, (fx52 ⟨l, hl⟩).2⟩
  refine ⟨zcp A 50 0 (w + 1 + l) 0 60, ?_, cF_zcp hO hs.2 (by omega) (cont1 _), fun i hi => by rw [zml_cp, if_pos ⟨rfl, hi⟩]⟩
  unfold z_Co_keep z_Co_levelIsThere
  rw [h4, if_neg (by omega), if_neg (by omega), zbP_s, if_neg (by decide), show (((l + 1 : Nat) : Int) - 1) = (l : Int) by omega, hz, zcy_l hO (by decide) hs.1 (by decide) (by omega) (by omega)]
theorem c_rcl {l : Nat} (hO : Own A) (h4 : zi A 49 4 = ((l + 1 : Nat) : Int)) (hl : l < 24) : ∃ B, z_Co_recall N 51 A = some B ∧ cF [50] A B ∧ (∀ i : Nat, i < 60 → zml B 50 i = zml A (52 + l) i) := by
  have hs := (sh52 ⟨l, hl⟩).1
  refine ⟨zcp A (52 + l) 0 50 0 60, ?_, cF_zcp hO (by decide) (by decide) (cont1 _), fun i hi => by rw [zml_cp, if_pos ⟨rfl, hi⟩]⟩
  unfold z_Co_recall z_Co_levelIsThere
  rw [h4, if_neg (by omega), if_neg (by omega), zbP_s, if_neg (by decide), show (((l + 1 : Nat) : Int) - 1) = (l : Int) by omega, zfe_51 hl, zcy_l hO hs (by decide) (by omega) (by decide) (by omega)]
/-- what a plain item writes -/
theorem c_value {k : Nat} (h : CoS A o o' X g L s) (hoo : okO2 o o') (hi : okI T p g (itm X k)) (hg : g ≤ 60) (hk : k < X.length) (hkn : okK s.1) : z_Co_valueWritten N o k A = some (kv (vw s.1 (itm X k))) := by
  obtain ⟨c1, c2, c3, c4, c5, c6, c7, c8⟩ := h
  obtain ⟨p1, p2, p3, p4, p5, p6, p7⟩ := hoo
  obtain ⟨o1, o2, o3, o4, o5⟩ := id hi
  have hvk := nbk_v o1 o2
  have rg : ∀ i : Nat, i < nbk (itm X k).1 → isr (itm X k).1 i → z_Pt_register N o k i A = some ((ig (itm X k) (i + 1)).toNat : Int) ∧ (ig (itm X k) (i + 1)).toNat < 60 := fun i hin hr => by
    have := (o3 i hin).2.2 hr
    refine ⟨?_, by omega⟩
    rw [cp_reg c1 p1 c3 hi hg hk hin hr]
    congr 1
    omega
  unfold z_Co_valueWritten vw
  rw [cp_kind c1 p1 c3 hk, zbP_s]
  by_cases c0 : (itm X k).1 = 0
  · have hn := cp_num (N := N) (i := 1) c1 p1 c3 hk (by omega)
    have hn : z_Pt_number N o k 1 A = some (ig (itm X k) 2) := hn
    rw [if_pos c0, if_pos c0, hn, zbP_s]
    rfl
  rw [if_neg c0, if_neg c0]
  by_cases c1' : (itm X k).1 = 1
  · obtain ⟨r1, r2⟩ := rg 1 (by omega) ⟨by omega, by omega, by omega⟩
    have r1 : z_Pt_register N o k 1 A = some ((ig (itm X k) 2).toNat : Int) := r1
    have r2 : (ig (itm X k) 2).toNat < 60 := r2
    rw [if_pos c1', if_pos c1', r1, zbP_s, zrl_ok (by omega) (by omega), Int.toNat_natCast, c6 _ r2]
  rw [if_neg c1', if_neg c1']
  by_cases c2' : (itm X k).1 = 2
  · obtain ⟨r1, r2⟩ := rg 1 (by omega) ⟨by omega, by omega, by omega⟩
    have r1 : z_Pt_register N o k 1 A = some ((ig (itm X k) 2).toNat : Int) := r1
    have r2 : (ig (itm X k) 2).toNat < 60 := r2
    obtain ⟨q1, q2⟩ := rg 2 (by omega) ⟨by omega, by omega, by omega⟩
    have q1 : z_Pt_register N o k 2 A = some ((ig (itm X k) 3).toNat : Int) := q1
    have q2 : (ig (itm X k) 3).toNat < 60 := q2
    have hn := cp_num (N := N) (i := 3) c1 p1 c3 hk (by omega)
    have hn : z_Pt_number N o k 3 A = some (ig (itm X k) 4) := hn
    rw [if_pos c2', if_pos c2', hn, zbP_s, r1, zbP_s, zrl_ok (by omega) (by omega), Int.toNat_natCast, c6 _ r2, q1, zbP_s, zrl_ok (by omega) (by omega), Int.toNat_natCast, c6 _ q2]
    have ho4 := o4 c2'
    unfold z_Co_worked
    cases e1 : s.1 (ig (itm X k) 2).toNat with
    | none => rw [if_pos ((kv_u (fun v z => by cases z)).mpr rfl), zbJ_s]; rfl
    | some a =>
      have ra := hkn _ _ e1
      have oa : okO (some a) := fun v z => by rw [← Option.some.inj z]; exact ra
      rw [if_neg (fun z => by cases (kv_u oa).mp z)]
      cases e2 : s.1 (ig (itm X k) 3).toNat with
      | none => rw [if_pos ((kv_u (fun v z => by cases z)).mpr rfl), zbJ_s]; rfl
      | some b =>
        have rb := hkn _ _ e2
        have ob : okO (some b) := fun v z => by rw [← Option.some.inj z]; exact rb
        rw [if_neg (fun z => by cases (kv_u ob).mp z)]
        dsimp only
        have w31 : z_Co_worked_31 N (ig (itm X k) 4) (kv (some a)) (kv (some b)) A = some (kv (some (wkO (ig (itm X k) 4) a b))) := by
          unfold z_Co_worked_31
          have ea : (kv (some a)).toInt32.toInt = a := zil_32 ra.1 ra.2
          have eb : (kv (some b)).toInt32.toInt = b := zil_32 rb.1 rb.2
          rw [ea, eb, workOf_e ho4 (yb_w rb.1 rb.2), zbP_s]
          rfl
        by_cases c3' : ig (itm X k) 4 = 3
        · rw [if_pos c3']
          by_cases cb : b = 0
          · rw [if_pos ((kv_0 rb.1 rb.2).mpr cb), zbJ_s, if_pos ⟨c3', cb⟩]; rfl
          · rw [if_neg (fun z => cb ((kv_0 rb.1 rb.2).mp z)), w31, zbJ_s, if_neg (fun z => cb z.2)]
        · rw [if_neg c3', w31, zbJ_s, if_neg (fun z => c3' z.1)]
  rw [if_neg c2', if_neg c2']
  rfl
theorem c_fgc (h : CoS A o o' X g L s) (hN : 300000 ≤ N) (hoo : okO2 o o') : ∃ B, z_Co_forgetCommon N A = some B ∧ CoS B o o' X g L (kfg s.1, s.2) ∧ cF [50] A B := by
  obtain ⟨B, b1, b2, b3⟩ := Ar_fill3 (N := N) (x := 50) (m := 60) (n := 6) (v := Int64.ofNat 4294967296) hN (by decide) (by decide) (by decide) (by decide) h.1
  have b1 : z_Ar_fill3 N 50 0 6 (Int64.ofNat 4294967296) A = some B := b1
  refine ⟨B, ?_, h.fr (t := (kfg s.1, s.2)) hoo b2 (by decide) rfl (fun r hr => ?_) (by rw [b2.i (by decide) (by decide)]; exact h.2.2.2.2.2.2.1) (by rw [b2.i (by decide) (by decide)]; exact h.2.2.2.2.2.2.2), b2⟩
  · unfold z_Co_forgetCommon
    rw [b1, zbV_s]
  · rw [b3]
    show _ = kv (kfg s.1 r)
    unfold kfg
    by_cases c : r < 6
    · rw [if_pos c, if_pos c]; rfl
    · rw [if_neg c, if_neg c]; exact h.2.2.2.2.2.1 r hr
theorem c_kset {d : Nat} {v : Option Int} (h : CoS A o o' X g L s) (hoo : okO2 o o') : CoS (zsl A 50 d (kv v)) o o' X g L (kset s.1 d v, s.2) ∧ cF [50] A (zsl A 50 d (kv v)) := by
  have f1 : cF [50] A (zsl A 50 d (kv v)) := cF_sl h.1 (cont1 50)
  refine ⟨h.fr (t := (kset s.1 d v, s.2)) hoo f1 (by decide) rfl (fun r hr => ?_) h.2.2.2.2.2.2.1 h.2.2.2.2.2.2.2, f1⟩
  rw [zml_sl]
  show _ = kv (kset s.1 d v r)
  unfold kset
  by_cases c : r = d
  · rw [if_pos ⟨rfl, c⟩, if_pos c]
  · rw [if_neg (fun z => c z.2), if_neg c]; exact h.2.2.2.2.2.1 r hr
theorem c_plain {k : Nat} (hN : 300000 ≤ N) (h : CoS A o o' X g L s) (hoo : okO2 o o') (hi : okI T p g (itm X k)) (hg : g ≤ 60) (hk : k < X.length) (hkn : okK s.1) (hl : s.2.1.length < 240) (h7 : (itm X k).1 ≤ 7) (hch : s.2.2 ≤ 1000) : ∃ B, z_Co_goOverPlain N o k o' A = some B ∧ CoS B o o' X g L (plS1 (itm X k) s) ∧ cF (cfS o') A B ∧ (∀ j, j ≠ 5 → zi B 49 j = zi A 49 j) ∧ (∀ a : Nat, 51 ≤ a → a < 102 → ∀ i, zml B a i = zml A a i ∧ zi B a i = zi A a i) := by
  obtain ⟨c1, c2, c3, c4, c5, c6, c7, c8⟩ := id h
  obtain ⟨p1, p2, p3, p4, p5, p6, p7⟩ := id hoo
  have hval := c_value (N := N) h hoo hi hg hk hkn
  have hwr := cp_writ (N := N) c1 p1 c3 hi hg hk
  have hvo : okO (vw s.1 (itm X k)) := fun v z => vw_rg hi hkn z
  have fxs : ∀ a, 51 ≤ a → a < 102 → fx a = true := fun a h1 h2 => by
    have : ∀ i : Fin 102, 51 ≤ i.val → fx i.val = true := by decide
    exact this ⟨a, h2⟩ h1
  -- the end
  have e66 : ∀ (B : zA) (out : List It) (ch : Nat), CoS B o o' X g L (s.1, out, ch) → ∃ C, z_Co_goOverPlain_66 N o k (kv (vw s.1 (itm X k))) (wri (itm X k)) B = some C ∧ CoS C o o' X g L (plK s.1 (itm X k), out, ch) ∧ cF [50] B C := fun B out ch hB => by
    unfold z_Co_goOverPlain_66 plK
    by_cases cw : wri (itm X k) < 0
    · rw [if_pos cw, if_pos cw, cp_kind hB.1 p1 hB.2.2.1 hk, zbP_s]
      by_cases c7' : (itm X k).1 = 7
      · obtain ⟨C, d1, d2, d3⟩ := c_fgc (N := N) hB hN hoo
        rw [if_pos c7', if_pos c7', d1, zbV_s]
        exact ⟨C, rfl, d2, d3⟩
      · rw [if_neg c7', if_neg c7']
        exact ⟨B, rfl, hB, cF.refl _ hB.1⟩
    · obtain ⟨d, hd, hd6⟩ := wri_rg hi hg cw
      rw [if_neg cw, if_neg cw, hd, Int.toNat_natCast, zwl_ok (by omega) (by omega), Int.toNat_natCast]
      obtain ⟨d1, d2⟩ := c_kset (d := d) (v := vw s.1 (itm X k)) hB hoo
      exact ⟨_, rfl, d1, d2⟩
  have fin : ∀ (B C : zA), cF [o'] A B → cF [50] B C → cF (cfS o') A C ∧ (∀ j, j ≠ 5 → zi C 49 j = zi A 49 j) ∧ (∀ a : Nat, 51 ≤ a → a < 102 → ∀ i, zml C a i = zml A a i ∧ zi C a i = zi A a i) := fun B C f1 f2 => by
    refine ⟨(cfS_1 f1 (Or.inl rfl)).trans (cfS_1 f2 (Or.inr (by decide))), fun j _ => by rw [f2.i (by decide) (by decide), f1.i (by decide) (cont2 (by omega))], fun a a1 a2 i => ⟨?_, ?_⟩⟩
    · rw [f2.l (fxs a a1 a2) (cont2 (by omega)), f1.l (fxs a a1 a2) (cont2 (by omega))]
    · rw [f2.i (fxs a a1 a2) (cont2 (by omega)), f1.i (fxs a a1 a2) (cont2 (by omega))]
  -- it is copied
  have e60 : plI s.1 (itm X k) = itm X k → plC s.1 (itm X k) = 0 → ∃ C, z_Co_goOverPlain_60 N o k o' (kv (vw s.1 (itm X k))) (wri (itm X k)) A = some C ∧ CoS C o o' X g L (plS1 (itm X k) s) ∧ cF (cfS o') A C ∧ (∀ j, j ≠ 5 → zi C 49 j = zi A 49 j) ∧ (∀ a : Nat, 51 ≤ a → a < 102 → ∀ i, zml C a i = zml A a i ∧ zi C a i = zi A a i) := fun hpI hpC => by
    obtain ⟨B, b1, b2, b3⟩ := h.copy (N := N) hoo hk hl
    obtain ⟨C, d1, d2, d3⟩ := e66 B _ _ b2
    unfold z_Co_goOverPlain_60
    rw [b1, zbV_s, d1]
    refine ⟨C, rfl, ?_, fin B C b3 d3⟩
    unfold plS1
    rw [hpI, hpC]
    exact d2
  unfold z_Co_goOverPlain
  rw [hval, zbJ_s, hwr, zbP_s]
  by_cases cw : wri (itm X k) < 0
  · rw [if_pos cw]
    refine e60 ?_ ?_
    · unfold plI
      split
      · rw [if_pos (Or.inl cw)]
      · rfl
    · unfold plC
      split
      · rw [if_pos (Or.inl cw)]
      · rfl
  rw [if_neg cw]
  cases ev : vw s.1 (itm X k) with
  | none =>
    rw [if_pos ((kv_u (fun v z => by cases z)).mpr rfl)]
    rw [ev] at e60
    exact e60 (by unfold plI; rw [ev]) (by unfold plC; rw [ev])
  | some v =>
    have hv := vw_rg hi hkn ev
    have ov : okO (some v) := fun u z => by rw [← Option.some.inj z]; exact hv
    rw [if_neg (fun z => by cases (kv_u ov).mp z), cp_kind c1 p1 c3 hk, zbP_s]
    rw [ev] at e60 e66
    by_cases c0 : (itm X k).1 = 0
    · rw [if_pos c0]
      exact e60 (by unfold plI; rw [ev]; dsimp only; rw [if_pos (Or.inr c0)]) (by unfold plC; rw [ev]; dsimp only; rw [if_pos (Or.inr c0)])
    · obtain ⟨d, hd, hd6⟩ := wri_rg hi hg cw
      have e32 : (kv (some v)).toInt32.toInt = v := zil_32 hv.1 hv.2
      rw [if_neg c0, e32, hd]
      obtain ⟨B, b1, b2, b3⟩ := CP_add (N := N) (x := 0) (y := (d : Int)) (z := v) c1 p2 c5 hl (by decide) (yb_w (by omega) (by omega)) (yb_w hv.1 hv.2) (by decide)
      have n : ∀ q, q ≠ o' → ([o'] : List Nat).contains q = false := fun q hq => cont2 hq
      have hB5 : zi B 49 5 = s.2.2 := by rw [b3.i (by decide) (n _ (by omega))]; exact c8
      have f2 : cF [49] B (zsi B 49 5 ((s.2.2 : Int) + 1)) := cF_si b3.own (by decide) (by decide) (by decide)
      have v5 : zi (zsi B 49 5 ((s.2.2 : Int) + 1)) 49 5 = ((s.2.2 + 1 : Nat) : Int) := by rw [zi_si_s, yb_w (by omega) (by omega)]; omega
      have vj : ∀ j, j ≠ 5 → zi (zsi B 49 5 ((s.2.2 : Int) + 1)) 49 j = zi B 49 j := fun j hj => zi_si_j hj
      rw [b1, zbV_s, hB5, zlet_s]
      have hBC : CoS B o o' X g L (s.1, s.2.1 ++ [(0, (d : Int), v, 0, 0)], s.2.2) := ⟨b3.own, c2.fr b3 (n _ (by omega)) (n _ (by omega)) (n _ (by omega)), c3.fr p1 b3 (n _ p3), c4.fr p1 b3 (n _ p3), b2, fun r hr => by rw [b3.l (by decide) (n _ (by omega))]; exact c6 r hr, by rw [b3.i (by decide) (n _ (by omega))]; exact c7, hB5⟩
      have hCC := hBC.fr (t := (s.1, s.2.1 ++ [(0, (d : Int), v, 0, 0)], s.2.2 + 1)) (L' := L) hoo f2 (by decide) rfl (fun r hr => by rw [f2.l (by decide) (by decide)]; exact hBC.2.2.2.2.2.1 r hr) (by rw [vj 4 (by decide)]; exact hBC.2.2.2.2.2.2.1) v5
      generalize zsi B 49 5 ((s.2.2 : Int) + 1) = C at *
      obtain ⟨D, d1, d2, d3⟩ := e66 C _ _ hCC
      rw [hd] at d1
      refine ⟨D, d1, ?_, ((cfS_1 b3 (Or.inl rfl)).trans (cfS_1 f2 (Or.inr (by decide)))).trans (cfS_1 d3 (Or.inr (by decide))), fun j hj => by rw [d3.i (by decide) (by decide), vj j hj, b3.i (by decide) (n _ (by omega))], fun a a1 a2 i => ⟨?_, ?_⟩⟩
      · have hpI : plI s.1 (itm X k) = (0, (d : Int), v, 0, 0) := by unfold plI; rw [ev]; dsimp only; rw [if_neg (by omega), hd]
        have hpC : plC s.1 (itm X k) = 1 := by unfold plC; rw [ev]; dsimp only; rw [if_neg (by omega)]
        unfold plS1
        rw [hpI, hpC]
        exact d2
      · rw [d3.l (fxs a a1 a2) (cont2 (by omega)), f2.l (fxs a a1 a2) (cont2 (by omega)), b3.l (fxs a a1 a2) (cont2 (by omega))]
      · rw [d3.i (fxs a a1 a2) (cont2 (by omega)), f2.i (fxs a a1 a2) (cont2 (by omega)), b3.i (fxs a a1 a2) (cont2 (by omega))]
end
