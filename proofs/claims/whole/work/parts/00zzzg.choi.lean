/-! HOIST of the class -/
def WR (A : zA) (X : List It) (a n : Nat) : Prop := ∀ r : Nat, r < 60 → ri A 109 r = cS X r a n
theorem cF109 {A : zA} {e z : Int} (hO : Own A) : cF [109] A (rs A 109 e z) := cF_rs hO (by decide) (by decide) (by decide)
section
variable {N : Nat} {A : zA} {o : Nat} {X : List It} {g T p h : Nat}
theorem c_count58 {r11 : Nat → Int → Int → zA → Option zA} {x3 x4 : Int} : ∀ (r j f : Nat) (B : zA), j + r = 6 → r < f → Own B → (∀ m : Nat, m < 60 → 0 ≤ ri B 109 m ∧ ri B 109 m ≤ 1000) → ∃ C, z_Mv_countWriters_58_l r11 N f o x3 x4 j B = r11 o x3 (zw (x4 + 1)) C ∧ cF [109] B C ∧ ∀ m : Nat, m < 60 → ri C 109 m = ri B 109 m + (if j ≤ m ∧ m < 6 then 1 else 0) := by
  intro r
  induction r with
  | zero =>
    intro j f B h1 h2 hO hb
    obtain ⟨u, rfl⟩ : ∃ u, f = u + 1 := ⟨f - 1, by omega⟩
    refine ⟨B, ?_, cF.refl _ hO, fun m hm => by rw [if_neg (by omega), Int.add_zero]⟩
    show z_Mv_countWriters_58_b r11 (z_Mv_countWriters_58_l r11 N u) N o x3 x4 j B = _
    unfold z_Mv_countWriters_58_b
    rw [if_neg (by omega)]
  | succ r ih =>
    intro j f B h1 h2 hO hb
    obtain ⟨u, rfl⟩ : ∃ u, f = u + 1 := ⟨f - 1, by omega⟩
    have w1 : zw ((j : Int) + 1) = ((j + 1 : Nat) : Int) := by rw [yb_w (by omega) (by omega)]; omega
    have hbj := hb j (by omega)
    have st : z_Mv_countWriters_58_l r11 N (u + 1) o x3 x4 j B = z_Mv_countWriters_58_l r11 N u o x3 x4 ((j + 1 : Nat) : Int) (rs B 109 j (ri B 109 j + 1)) := by
      show z_Mv_countWriters_58_b r11 (z_Mv_countWriters_58_l r11 N u) N o x3 x4 j B = _
      unfold z_Mv_countWriters_58_b
      rw [if_pos (by omega), zrd_ok (by omega) (by omega), zwr_ok (by omega) (by omega), w1]
    have f1 : cF [109] B (rs B 109 j (ri B 109 j + 1)) := cF109 hO
    have v1 : ∀ m : Nat, ri (rs B 109 j (ri B 109 j + 1)) 109 m = if m = j then ri B 109 j + 1 else ri B 109 m := fun m => by
      rw [ri_rs (by omega) (by omega), yb_w (by omega) (by omega)]
      by_cases c : m = j
      · rw [if_pos c, if_pos (by omega)]
      · rw [if_neg c, if_neg (by omega)]
    generalize rs B 109 j (ri B 109 j + 1) = B1 at *
    -- room for one more is kept by counting down
    have hb1 : ∀ m : Nat, m < 60 → 0 ≤ ri B1 109 m ∧ ri B1 109 m ≤ 1001 := fun m hm => by
      rw [v1 m]
      have := hb m hm
      split <;> omega
    obtain ⟨C, c1, c2, c3⟩ : ∃ C, z_Mv_countWriters_58_l r11 N u o x3 x4 ((j + 1 : Nat) : Int) B1 = r11 o x3 (zw (x4 + 1)) C ∧ cF [109] B1 C ∧ ∀ m : Nat, m < 60 → ri C 109 m = ri B1 109 m + (if j + 1 ≤ m ∧ m < 6 then 1 else 0) := by
      by_cases c : ∀ m : Nat, m < 60 → j + 1 ≤ m → ri B1 109 m ≤ 1000
      · have key : ∀ (r' j' f' : Nat) (B' : zA), j' + r' = 6 → r' < f' → Own B' → (∀ m : Nat, m < 60 → j' ≤ m → 0 ≤ ri B' 109 m ∧ ri B' 109 m ≤ 1000) → ∃ C, z_Mv_countWriters_58_l r11 N f' o x3 x4 j' B' = r11 o x3 (zw (x4 + 1)) C ∧ cF [109] B' C ∧ ∀ m : Nat, m < 60 → ri C 109 m = ri B' 109 m + (if j' ≤ m ∧ m < 6 then 1 else 0) := by
          intro r'
          induction r' with
          | zero =>
            intro j' f' B' h1' h2' hO' hb'
            obtain ⟨u', rfl⟩ : ∃ u', f' = u' + 1 := ⟨f' - 1, by omega⟩
            refine ⟨B', ?_, cF.refl _ hO', fun m hm => by rw [if_neg (by omega), Int.add_zero]⟩
            show z_Mv_countWriters_58_b r11 (z_Mv_countWriters_58_l r11 N u') N o x3 x4 j' B' = _
            unfold z_Mv_countWriters_58_b
            rw [if_neg (by omega)]
          | succ r' ih' =>
            intro j' f' B' h1' h2' hO' hb'
            obtain ⟨u', rfl⟩ : ∃ u', f' = u' + 1 := ⟨f' - 1, by omega⟩
            have w1' : zw ((j' : Int) + 1) = ((j' + 1 : Nat) : Int) := by rw [yb_w (by omega) (by omega)]; omega
            have hbj' := hb' j' (by omega) (Nat.le_refl _)
            have st' : z_Mv_countWriters_58_l r11 N (u' + 1) o x3 x4 j' B' = z_Mv_countWriters_58_l r11 N u' o x3 x4 ((j' + 1 : Nat) : Int) (rs B' 109 j' (ri B' 109 j' + 1)) := by
              show z_Mv_countWriters_58_b r11 (z_Mv_countWriters_58_l r11 N u') N o x3 x4 j' B' = _
              unfold z_Mv_countWriters_58_b
              rw [if_pos (by omega), zrd_ok (by omega) (by omega), zwr_ok (by omega) (by omega), w1']
            have v1' : ∀ m : Nat, ri (rs B' 109 j' (ri B' 109 j' + 1)) 109 m = if m = j' then ri B' 109 j' + 1 else ri B' 109 m := fun m => by
              rw [ri_rs (by omega) (by omega), yb_w (by omega) (by omega)]
              by_cases c : m = j'
              · rw [if_pos c, if_pos (by omega)]
              · rw [if_neg c, if_neg (by omega)]
            obtain ⟨C, c1, c2, c3⟩ := ih' (j' + 1) u' (rs B' 109 j' (ri B' 109 j' + 1)) (by omega) (by omega) (cF109 hO').own (fun m hm hj => by rw [v1' m, if_neg (by omega)]; exact hb' m hm (by omega))
            refine ⟨C, by rw [st', c1], (cF109 hO').trans c2, fun m hm => ?_⟩
            rw [c3 m hm, v1' m]
            by_cases z : m = j'
            · rw [if_pos z, if_neg (by omega), if_pos (by omega), z]; omega
            · rw [if_neg z]
              by_cases y : j' + 1 ≤ m ∧ m < 6
              · rw [if_pos y, if_pos (by omega)]
              · rw [if_neg y, if_neg (by omega)]
        exact key r (j + 1) u B1 (by omega) (by omega) f1.own (fun m hm hj => ⟨(hb1 m hm).1, c m hm hj⟩)
      · exfalso
        apply c
        intro m hm hj
        rw [v1 m, if_neg (by omega)]
        exact (hb m hm).2
    refine ⟨C, by rw [st, c1], f1.trans c2, fun m hm => ?_⟩
    rw [c3 m hm, v1 m]
    by_cases z : m = j
    · rw [if_pos z, if_neg (by omega), if_pos (by omega), z]; omega
    · rw [if_neg z]
      by_cases y : j + 1 ≤ m ∧ m < 6
      · rw [if_pos y, if_pos (by omega)]
      · rw [if_neg y, if_neg (by omega)]
theorem c_count {a b : Nat} (hN : 300000 ≤ N) (ho : pto.contains o = true) (hok : okL T p h X) (h60 : h ≤ 60) (hb : b ≤ X.length) (hl : X.length ≤ 240) (h109 : o ≠ 109) : ∀ (r k f : Nat) (B : zA), k + r = b → a ≤ k → r < f → Own B → CP B o X g → WR B X a (k - a) → ∃ C, z_Mv_countWriters_11_l N f o b k B = some C ∧ cF [109] B C ∧ WR C X a (b - a) := by
  intro r
  induction r with
  | zero =>
    intro k f B h1 ha h2 hO hc hw
    obtain ⟨u, rfl⟩ : ∃ u, f = u + 1 := ⟨f - 1, by omega⟩
    refine ⟨B, ?_, cF.refl _ hO, by rw [show b - a = k - a by omega]; exact hw⟩
    show z_Mv_countWriters_11_b (z_Mv_countWriters_11_l N u) N o b k B = _
    unfold z_Mv_countWriters_11_b
    rw [if_neg (by omega)]
  | succ r ih =>
    intro k f B h1 ha h2 hO hc hw
    obtain ⟨u, rfl⟩ : ∃ u, f = u + 1 := ⟨f - 1, by omega⟩
    have hk : k < X.length := by omega
    have w1 : zw ((k : Int) + 1) = ((k + 1 : Nat) : Int) := by rw [yb_w (by omega) (by omega)]; omega
    have hoi := hok _ (itm_mem hk)
    have hwr := cp_writ (N := N) hO ho hc hoi h60 hk
    obtain ⟨o1, o2, o3, -⟩ := hoi
    have hvk := nbk_v o1 o2
    have st : z_Mv_countWriters_11_l N (u + 1) o b k B = z_Mv_countWriters_11_b (z_Mv_countWriters_11_l N u) N o b k B := rfl
    unfold z_Mv_countWriters_11_b at st
    rw [if_pos (by omega), hwr, zbP_s, cp_kind hO ho hc hk, w1] at st
    have cs : ∀ r : Nat, cS X r a (k + 1 - a) = cS X r a (k - a) + cif (spl (itm X k) r) 1 0 := fun r => by
      rw [show k + 1 - a = (k - a) + 1 by omega, cS_s, show a + (k - a) = k by omega]
    have lim : ∀ m : Nat, m < 60 → 0 ≤ ri B 109 m ∧ ri B 109 m ≤ 1000 := fun m hm => by
      rw [hw m hm]
      have := cS_le (X := X) (r := (m : Int)) (a := a) (k - a)
      omega
    have go : ∀ C, cF [109] B C → WR C X a (k + 1 - a) → ∃ D, z_Mv_countWriters_11_l N u o b ((k + 1 : Nat) : Int) C = some D ∧ cF [109] B D ∧ WR D X a (b - a) := fun C fC hC => by
      obtain ⟨D, d1, d2, d3⟩ := ih (k + 1) u C (by omega) (by omega) (by omega) fC.own (hc.fr ho fC (cont2 h109)) hC
      exact ⟨D, d1, fC.trans d2, d3⟩
    by_cases c : wri (itm X k) < 0
    · rw [if_pos c, zbP_s] at st
      by_cases c7 : (itm X k).1 = 7
      · rw [if_pos c7] at st
        obtain ⟨C, c1, c2, c3⟩ := c_count58 (N := N) (o := o) (r11 := z_Mv_countWriters_11_l N u) (x3 := (b : Int)) (x4 := (k : Int)) 6 0 N B (by omega) (by omega) hO lim
        unfold z_Mv_countWriters_58 at st
        rw [show ((0 : Nat) : Int) = 0 from rfl] at c1
        rw [st, c1, w1]
        refine go C c2 (fun m hm => ?_)
        rw [c3 m hm, hw m hm, cs m]
        by_cases y : m < 6
        · rw [if_pos ⟨by omega, y⟩, cif_pos (show spl (itm X k) (m : Int) from Or.inl ⟨c7, by omega⟩)]
          omega
        · rw [if_neg (by omega), cif_neg (fun z => by unfold spl at z; omega)]
          omega
      · rw [if_neg c7] at st
        rw [st]
        refine go B (cF.refl _ hO) (fun m hm => ?_)
        rw [hw m hm, cs m, cif_neg (fun z => by unfold spl at z; omega)]
        omega
    · have hkk : (itm X k).1 ≤ 3 ∨ (itm X k).1 = 5 := by
        unfold wri at c
        split at c
        · assumption
        · omega
      have hr := (o3 0 (by omega)).2.2 (by unfold isr; omega)
      have hr : 0 ≤ ig (itm X k) 1 ∧ ig (itm X k) 1 < h := hr
      have hwv : wri (itm X k) = ig (itm X k) 1 := by unfold wri; rw [if_pos hkk]
      obtain ⟨d, hd⟩ : ∃ d : Nat, wri (itm X k) = d := ⟨(wri (itm X k)).toNat, by omega⟩
      have hd60 : d < 60 := by omega
      have ld := lim d hd60
      rw [if_neg c, hd, zrd_ok (by omega) (by omega), zwr_ok (by omega) (by omega)] at st
      rw [st]
      refine go _ (cF109 hO) (fun m hm => ?_)
      rw [ri_rs (by omega) (by omega), yb_w (by omega) (by omega), cs m]
      by_cases y : m = d
      · rw [if_pos (by omega), y, hw d hd60, cif_pos (show spl (itm X k) (d : Int) from Or.inr ⟨by omega, hd⟩)]
        omega
      · rw [if_neg (by omega), hw m hm, cif_neg (fun z => by unfold spl at z; omega)]
        omega
end
