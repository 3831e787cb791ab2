/-! limits: sizes and while in while, of the class and of the reference -/
def szW (z : Nat → Int) : List It → Int → Int
  | [] => fun a => a
  | i :: X => fun a => szW z X (if i.1 = 7 then zw (a + z (ig i 2).toNat) else a)
/-- j is called -/
def cle (X : List It) (j : Nat) : Prop := ∃ i ∈ X, i.1 = 7 ∧ (ig i 2).toNat = j
def cal3 (X : List It) : Prop := ∀ i ∈ X, i.1 = 7 → 0 ≤ ig i 2 ∧ ig i 2 < 3
/-- the class's array for sizes (or depths) -/
def CAr (N : Nat) (A : zA) (x : Nat) (z : Nat → Int) : Prop := ∀ j : Nat, j < 3 → z_Ro_ofCalled N x j A = some (z j)
section
variable {N : Nat} {A B : zA} {o x p g : Nat} {X : List It} {z : Nat → Int}
theorem itm_drop {k : Nat} (h : k < X.length) : X.drop k = itm X k :: X.drop (k + 1) := by
  rw [itm_get h]
  exact List.drop_eq_getElem_cons h
theorem c_size_run (hO : Own A) (ho : pto.contains o = true) (hx : CP A o X g) (hc : cal3 X) (ha : CAr N A x z) : ∀ (r k f : Nat) (acc : Int), k + r = X.length → r < f → z_Ro_sizeOf_7_l N f o x acc k A = some (szW z (X.drop k) acc)
  | 0, k, f + 1, acc, h1, h2 => by
    have hn : zi A o 2 = X.length := hx.2.1
    unfold z_Ro_sizeOf_7_l z_Ro_sizeOf_7_b
    rw [if_neg (by omega), List.drop_eq_nil_of_le (by omega)]
    rfl
  | r + 1, k, f + 1, acc, h1, h2 => by
    have hn : zi A o 2 = X.length := hx.2.1
    have hl := hx.1.2.1
    have hl2 := hx.2.1
    have hk : k < X.length := by omega
    unfold z_Ro_sizeOf_7_l z_Ro_sizeOf_7_b
    rw [if_pos (by omega), cp_kind hO ho hx hk, zbP_s, show zw ((k : Int) + 1) = ((k + 1 : Nat) : Int) by rw [yb_w (by omega) (by omega)]; omega, itm_drop hk]
    by_cases c : (itm X k).1 = 7
    · have hi := hc _ (itm_mem hk) c
      have hnum := cp_num (N := N) (i := 1) hO ho hx hk (by rw [c]; decide)
      have hnum : z_Pt_number N o k 1 A = some (ig (itm X k) 2) := hnum
      rw [if_pos c, hnum, zbP_s]
      have e := ha (ig (itm X k) 2).toNat (by omega)
      rw [show (((ig (itm X k) 2).toNat : Nat) : Int) = ig (itm X k) 2 by omega] at e
      rw [e, zbP_s, c_size_run hO ho hx hc ha r (k + 1) f _ (by omega) (by omega)]
      show _ = some (szW z (X.drop (k + 1)) (if (itm X k).1 = 7 then _ else _))
      rw [if_pos c]
    · rw [if_neg c, c_size_run hO ho hx hc ha r (k + 1) f _ (by omega) (by omega)]
      show _ = some (szW z (X.drop (k + 1)) (if (itm X k).1 = 7 then _ else _))
      rw [if_neg c]
theorem c_sizeOf (hN : 300000 ≤ N) (hO : Own A) (ho : pto.contains o = true) (hx : CP A o X g) (hc : cal3 X) (ha : CAr N A x z) : z_Ro_sizeOf N o x A = some (szW z X X.length) := by
  have hn : zi A o 2 = X.length := hx.2.1
  have hl := hx.1.2.1
  have hl2 := hx.2.1
  unfold z_Ro_sizeOf z_Ro_sizeOf_7
  rw [hn]
  exact c_size_run hO ho hx hc ha X.length 0 N _ (by omega) (by omega)
theorem r_size_run (hp : p < 4) (hx : RP A (4 + p) X g) (hl : X.length ≤ 240) (hc : cal3 X) (ha : ∀ j : Nat, cle X j → ri A 237 j = z j) : ∀ (r k f : Nat) (acc : Int), k + r = X.length → r < f → zw acc = acc → z_M_total_237_14_l N f p acc k A = some (szW z (X.drop k) acc)
  | 0, k, f + 1, acc, h1, h2, hw => by
    have e4 : ((4 + p : Nat) : Int) = 4 * 1 + (p : Int) := by omega
    have hn := hx.1
    rw [e4] at hn
    unfold z_M_total_237_14_l z_M_total_237_14_b
    rw [z_M_row_e (by omega) (by omega), zbP_s, zrd_ok (by omega) (by omega), hn, if_neg (by omega), List.drop_eq_nil_of_le (by omega)]
    rfl
  | r + 1, k, f + 1, acc, h1, h2, hw => by
    have e4 : ((4 + p : Nat) : Int) = 4 * 1 + (p : Int) := by omega
    have hn := hx.1
    rw [e4] at hn
    have hk : k < X.length := by omega
    have kk : z_M_field N 1 p k 0 A = some (itm X k).1 := rp_kind (z := 1) (by decide) hp (by omega) hx hk hl
    unfold z_M_total_237_14_l z_M_total_237_14_b
    rw [z_M_row_e (by omega) (by omega), zbP_s, zrd_ok (by omega) (by omega), hn, if_pos (by omega), kk, zbP_s, show zw ((k : Int) + 1) = ((k + 1 : Nat) : Int) by rw [yb_w (by omega) (by omega)]; omega, itm_drop hk]
    by_cases c : (itm X k).1 = 7
    · have hi := hc _ (itm_mem hk) c
      have kn : z_M_field N 1 p k 2 A = some (ig (itm X k) 2) := rp_num (z := 1) (i := 1) (by decide) hp (by omega) hx hk hl (by rw [c]; decide)
      rw [if_pos c, kn, zbP_s, zrd_ok (by omega) (by omega)]
      have e := ha (ig (itm X k) 2).toNat ⟨itm X k, itm_mem hk, c, rfl⟩
      rw [show (((ig (itm X k) 2).toNat : Nat) : Int) = ig (itm X k) 2 by omega] at e
      have hrg := yb_wrg (acc + z (ig (itm X k) 2).toNat)
      rw [e, r_size_run hp hx hl hc ha r (k + 1) f _ (by omega) (by omega) (yb_w hrg.1 hrg.2)]
      show _ = some (szW z (X.drop (k + 1)) (if (itm X k).1 = 7 then _ else _))
      rw [if_pos c]
    · rw [if_neg c, show zw (acc + 0) = acc by rw [Int.add_zero]; exact hw, r_size_run hp hx hl hc ha r (k + 1) f _ (by omega) (by omega) hw]
      show _ = some (szW z (X.drop (k + 1)) (if (itm X k).1 = 7 then _ else _))
      rw [if_neg c]
theorem r_totalOf (hN : 300000 ≤ N) (hp : p < 4) (hx : RP A (4 + p) X g) (hl : X.length ≤ 240) (hc : cal3 X) (ha : ∀ j : Nat, cle X j → ri A 237 j = z j) : z_M_total_237 N p A = some (szW z X X.length) := by
  have e4 : ((4 + p : Nat) : Int) = 4 * 1 + (p : Int) := by omega
  have hn := hx.1
  rw [e4] at hn
  unfold z_M_total_237 z_M_total_237_14
  rw [z_M_row_e (by omega) (by omega), zbP_s, zrd_ok (by omega) (by omega), hn]
  exact r_size_run hp hx hl hc ha X.length 0 N _ (by omega) (by omega) (yb_w (by omega) (by omega))
end
/-! while in while -/
def CDp (d : Nat → Int) (X : List It) (a b : Nat) (D : Nat) (m m' : Int) : Prop := ∀ (N : Nat) (A : zA) (o x g f : Nat), Own A → pto.contains o = true → CP A o X g → CM A o X → CAr N A x d → z_Ro_whileDepth_7_l N (f + (b - a)) o x D m a A = z_Ro_whileDepth_7_l N f o x D m' b A
def RDp (d : Nat → Int) (X : List It) (a b : Nat) (D : Nat) (m m' : Int) : Prop := ∀ (N : Nat) (A : zA) (p g f t : Nat), p < 4 → RP A (4 + p) X g → (∀ j : Nat, cle X j → ri A 238 j = d j) → t ≤ a → ∃ B, z_M_nest_10_l N (f + (b - a)) p m D t a A = z_M_nest_10_l N f p m' D t b B ∧ fr (fun c j => c = 233 ∧ t ≤ j) A B
def Dp (d : Nat → Int) (X : List It) (a b : Nat) : Prop := b ≤ X.length → ∀ (D : Nat) (m : Int), D ≤ a → (D : Int) ≤ m → m < 2147483648 → ∃ m', (D : Int) ≤ m' ∧ m' < 2147483648 ∧ CDp d X a b D m m' ∧ RDp d X a b D m m'
section
variable {d : Nat → Int} {X : List It}
theorem dp_c {a b c D : Nat} {m m' m'' : Int} (h1 : a ≤ b) (h2 : b ≤ c) (h : CDp d X a b D m m') (g : CDp d X b c D m' m'') : CDp d X a c D m m'' := fun N A o x gg f q1 q2 q3 q4 q5 => by
  rw [show f + (c - a) = (f + (c - b)) + (b - a) by omega, h N A o x gg _ q1 q2 q3 q4 q5, g N A o x gg _ q1 q2 q3 q4 q5]
theorem dp_r {a b c D : Nat} {m m' m'' : Int} (h1 : a ≤ b) (h2 : b ≤ c) (hl : X.length ≤ 240) (h : RDp d X a b D m m') (g : RDp d X b c D m' m'') : RDp d X a c D m m'' := fun N A p gg f t q1 q2 q3 q4 => by
  obtain ⟨B, b1, b2⟩ := h N A p gg (f + (c - b)) t q1 q2 q3 q4
  obtain ⟨C, c1, c2⟩ := g N B p gg f t q1 (q2.fr hl b2 (fun a j z y => by rw [z.1] at y; exact nqRo (by omega) y)) (fun j hj => by rw [b2.e (fun z => by omega)]; exact q3 j hj) (by omega)
  exact ⟨C, by rw [show f + (c - a) = (f + (c - b)) + (b - a) by omega, b1, c1], b2.trans c2⟩
theorem Dp.cat {a b c : Nat} (h1 : a ≤ b) (h2 : b ≤ c) (hl : X.length ≤ 240) (h : Dp d X a b) (g : Dp d X b c) : Dp d X a c := fun hc D m q1 q2 q3 => by
  obtain ⟨m', k1, k2, k3, k4⟩ := h (by omega) D m q1 q2 q3
  obtain ⟨m'', l1, l2, l3, l4⟩ := g hc D m' (by omega) k1 k2
  exact ⟨m'', l1, l2, dp_c h1 h2 k3 l3, dp_r h1 h2 hl k4 l4⟩
theorem zw_d (D : Nat) (h : D ≤ 1000) : zw (D : Int) = D := yb_w (by omega) (by omega)
/-- the reference's step behind the stack -/
theorem r_107 {N p : Nat} {A : zA} {k : Int} {m : Int} {D t a : Nat} {g : Nat} {r10 : Int → Int → Int → Int → Int → zA → Option (Int × zA)} (hp : p < 4) (hx : RP A (4 + p) X g) (hl : X.length ≤ 240) (ha : a < X.length) (hk : (itm X a).1 = k) (h7 : k ≠ 7) (hD : D ≤ 1000) (hm : (D : Int) ≤ m) : z_M_nest_107 r10 N p m D t a k A = r10 p m D t ((a + 1 : Nat) : Int) A := by
  unfold z_M_nest_107 z_M_nest_133
  rw [if_neg h7, Int.add_zero, zw_d D hD, if_neg (by omega), show zw ((a : Int) + 1) = ((a + 1 : Nat) : Int) by rw [yb_w (by omega) (by omega)]; omega]
theorem r_nb {N p : Nat} {A : zA} {m : Int} {D t a f g : Nat} (hp : p < 4) (hx : RP A (4 + p) X g) (hl : X.length ≤ 240) (ha : a < X.length) : z_M_nest_10_l N (f + 1) p m D t a A = (if (itm X a).1 = 10 then z_M_nest_50 (z_M_nest_10_l N f) N p m D t a (itm X a).1 A else (if (itm X a).1 = 8 then z_M_nest_50 (z_M_nest_10_l N f) N p m D t a (itm X a).1 A else (if (itm X a).1 = 10 then z_M_nest_75 (z_M_nest_10_l N f) N p m t a (itm X a).1 D 1 A else z_M_nest_75 (z_M_nest_10_l N f) N p m t a (itm X a).1 D 0 A))) := by
  have e4 : ((4 + p : Nat) : Int) = 4 * 1 + (p : Int) := by omega
  have hn := hx.1
  rw [e4] at hn
  have kk : z_M_field N 1 p a 0 A = some (itm X a).1 := rp_kind (z := 1) (by decide) hp (by omega) hx ha hl
  show z_M_nest_10_b (z_M_nest_10_l N f) N p m D t a A = _
  unfold z_M_nest_10_b
  rw [z_M_row_e (by omega) (by omega), zbP_s, zrd_ok (by omega) (by omega), hn, if_pos (by omega), kk, zbP_s]
/-- a plain item or a call -/
theorem Dp.one {a : Nat} (hl : X.length ≤ 240) (hc : cal3 X) (hk : (0 ≤ (itm X a).1 ∧ (itm X a).1 ≤ 7) ∨ (itm X a).1 = 9 ∨ (itm X a).1 = 11) : Dp d X a (a + 1) := fun hb D m q1 q2 q3 => by
  have ha : a < X.length := by omega
  have w1 : zw ((a : Int) + 1) = ((a + 1 : Nat) : Int) := by rw [yb_w (by omega) (by omega)]; omega
  by_cases c : (itm X a).1 = 7
  · have hi := hc _ (itm_mem ha) c
    have hrg := yb_wrg ((D : Int) + d (ig (itm X a) 2).toNat)
    refine ⟨zmx m (zw ((D : Int) + d (ig (itm X a) 2).toNat)), by unfold zmx; split <;> omega, by unfold zmx; split <;> omega, fun N A o x g f k1 k2 k3 k4 k5 => ?_, fun N A p g f t k1 k2 k3 k4 => ⟨A, ?_, fr.refl _ _⟩⟩
    · have hn : zi A o 2 = X.length := k3.2.1
      have hnum : z_Pt_number N o a 1 A = some (ig (itm X a) 2) := cp_num (i := 1) k1 k2 k3 ha (by rw [c]; decide)
      have e := k5 (ig (itm X a) 2).toNat (by omega)
      rw [show (((ig (itm X a) 2).toNat : Nat) : Int) = ig (itm X a) 2 by omega] at e
      rw [show f + (a + 1 - a) = f + 1 by omega]
      show z_Ro_whileDepth_7_b (z_Ro_whileDepth_7_l N f) N o x D m a A = _
      unfold z_Ro_whileDepth_7_b z_Ro_whileDepth_71
      rw [if_pos (by omega), cp_kind k1 k2 k3 ha, zbP_s, if_neg (by omega), zbP_s, if_neg (by omega), zbP_s, if_pos c, hnum, zbP_s, e, zbP_s, w1]
    · have kn : z_M_field N 1 p a 2 A = some (ig (itm X a) 2) := rp_num (z := 1) (i := 1) (by decide) k1 (by omega) k2 ha hl (by rw [c]; decide)
      have e := k3 (ig (itm X a) 2).toNat ⟨itm X a, itm_mem ha, c, rfl⟩
      rw [show (((ig (itm X a) 2).toNat : Nat) : Int) = ig (itm X a) 2 by omega] at e
      rw [show f + (a + 1 - a) = f + 1 by omega, r_nb k1 k2 hl ha, c, if_neg (by decide), if_neg (by decide), if_neg (by decide)]
      unfold z_M_nest_75 z_M_nest_107 z_M_nest_133
      rw [if_neg (by decide), if_pos rfl, kn, zbP_s, zrd_ok (by omega) (by omega), e, Int.add_zero, zw_d D (by omega), w1]
      unfold zmx
      split <;> rfl
  · refine ⟨m, q2, q3, fun N A o x g f k1 k2 k3 k4 k5 => ?_, fun N A p g f t k1 k2 k3 k4 => ⟨A, ?_, fr.refl _ _⟩⟩
    · have hn : zi A o 2 = X.length := k3.2.1
      rw [show f + (a + 1 - a) = f + 1 by omega]
      show z_Ro_whileDepth_7_b (z_Ro_whileDepth_7_l N f) N o x D m a A = _
      unfold z_Ro_whileDepth_7_b z_Ro_whileDepth_71
      rw [if_pos (by omega), cp_kind k1 k2 k3 ha, zbP_s, if_neg (by omega), zbP_s, if_neg (by omega), zbP_s, if_neg c, w1]
    · rw [show f + (a + 1 - a) = f + 1 by omega, r_nb k1 k2 hl ha, if_neg (by omega), if_neg (by omega), if_neg (by omega)]
      unfold z_M_nest_75
      rw [if_neg (by omega), Int.add_zero, zw_d D (by omega), r_107 k1 k2 hl ha rfl c (by omega) q2]
/-- a block: its opening at a, its end at e -/
theorem Dp.blk {a e : Nat} {w : Nat} (hl : X.length ≤ 240) (hae : a < e) (he : e < X.length) (hka : ((itm X a).1 = 8 ∧ w = 0) ∨ ((itm X a).1 = 10 ∧ w = 1)) (hke : (itm X e).1 = 12) (hmt : mtL X e = a) (hin : Dp d X (a + 1) e) : Dp d X a (e + 1) := fun hb D m q1 q2 q3 => by
  have hrD : ((D + w : Nat) : Int) ≤ zmx m ((D + w : Nat) : Int) := by unfold zmx; split <;> omega
  obtain ⟨m', k1, k2, k3, k4⟩ := hin (by omega) (D + w) (zmx m ((D + w : Nat) : Int)) (by omega) hrD (by unfold zmx; split <;> omega)
  have wa : zw ((a : Int) + 1) = ((a + 1 : Nat) : Int) := by rw [yb_w (by omega) (by omega)]; omega
  have we : zw ((e : Int) + 1) = ((e + 1 : Nat) : Int) := by rw [yb_w (by omega) (by omega)]; omega
  refine ⟨m', by omega, k2, fun N A o x g f c1 c2 c3 c4 c5 => ?_, fun N A p g f t c1 c2 c3 c4 => ?_⟩
  · have hn : zi A o 2 = X.length := c3.2.1
    have s1 : z_Ro_whileDepth_7_l N (f + 1 + (e - (a + 1)) + 1) o x D m a A = z_Ro_whileDepth_7_l N (f + 1 + (e - (a + 1))) o x ((D + w : Nat) : Int) (zmx m ((D + w : Nat) : Int)) ((a + 1 : Nat) : Int) A := by
      show z_Ro_whileDepth_7_b (z_Ro_whileDepth_7_l N (f + 1 + (e - (a + 1)))) N o x D m a A = _
      unfold z_Ro_whileDepth_7_b z_Ro_whileDepth_71
      rw [if_pos (by omega), cp_kind c1 c2 c3 (by omega), zbP_s]
      rcases hka with ⟨h8, rfl⟩ | ⟨h10, rfl⟩
      · rw [h8, if_neg (by decide), zbP_s, if_neg (by decide), zbP_s, if_neg (by decide), wa]
        have : zmx m ((D + 0 : Nat) : Int) = m := by unfold zmx; rw [if_neg (by omega)]
        rw [this]
        rfl
      · rw [h10, if_pos rfl, wa, show zw ((D : Int) + 1) = ((D + 1 : Nat) : Int) by rw [yb_w (by omega) (by omega)]; omega]
    have s2 : z_Ro_whileDepth_7_l N (f + 1) o x ((D + w : Nat) : Int) m' e A = z_Ro_whileDepth_7_l N f o x D m' ((e + 1 : Nat) : Int) A := by
      show z_Ro_whileDepth_7_b (z_Ro_whileDepth_7_l N f) N o x ((D + w : Nat) : Int) m' e A = _
      have hm8 : yv A o 1 e = a := by
        have := c4 e he (by rw [hke]; decide)
        rw [hmt] at this
        exact this
      unfold z_Ro_whileDepth_7_b z_Ro_whileDepth_71
      rw [if_pos (by omega), cp_kind c1 c2 c3 he, zbP_s, hke, if_neg (by decide), zbP_s, if_pos rfl, cp_mate c1 c2 c3 he, zbP_s, hm8, cp_kind c1 c2 c3 (by omega), zbP_s]
      rcases hka with ⟨h8, rfl⟩ | ⟨h10, rfl⟩
      · rw [h8, if_neg (by decide), zbP_s, if_neg (by decide), we]
        rfl
      · rw [h10, if_pos rfl, we, show zw (((D + 1 : Nat) : Int) + (-1)) = (D : Int) by rw [yb_w (by omega) (by omega)]; omega]
    rw [show f + (e + 1 - a) = f + 1 + (e - (a + 1)) + 1 by omega, s1, k3 N A o x g (f + 1) c1 c2 c3 c4 c5, s2]
  · -- the reference
    have kx : ∀ {C : zA}, fr (fun c j => c = 233 ∧ t ≤ j) A C → RP C (4 + p) X g := fun {C} f' => c2.fr hl f' (fun a j z y => by rw [z.1] at y; exact nqRo (by omega) y)
    have f1 : fr (fun c j => c = 233 ∧ t ≤ j) A (rs A 233 (t : Int) (itm X a).1) := fr_rs ⟨rfl, by omega⟩
    have s1 : z_M_nest_10_l N (f + 1 + (e - (a + 1)) + 1) p m D t a A = z_M_nest_10_l N (f + 1 + (e - (a + 1))) p (zmx m ((D + w : Nat) : Int)) ((D + w : Nat) : Int) ((t + 1 : Nat) : Int) ((a + 1 : Nat) : Int) (rs A 233 (t : Int) (itm X a).1) := by
      have wt : zw ((t : Int) + 1) = ((t + 1 : Nat) : Int) := by rw [yb_w (by omega) (by omega)]; omega
      rw [r_nb c1 c2 hl (by omega)]
      have g107 : ∀ (k : Int) (D' : Nat) (C : zA), k = (itm X a).1 → k ≠ 7 → D' ≤ 1000 → z_M_nest_107 (z_M_nest_10_l N (f + 1 + (e - (a + 1)))) N p m D' ((t + 1 : Nat) : Int) a k C = z_M_nest_10_l N (f + 1 + (e - (a + 1))) p (zmx m (D' : Int)) D' ((t + 1 : Nat) : Int) ((a + 1 : Nat) : Int) C := fun k D' C _ k7 hD' => by
        unfold z_M_nest_107 z_M_nest_133
        rw [if_neg k7, Int.add_zero, zw_d D' hD', wa]
        unfold zmx
        split <;> rfl
      rcases hka with ⟨h8, rfl⟩ | ⟨h10, rfl⟩
      · rw [h8, if_neg (by decide), if_pos rfl]
        unfold z_M_nest_50
        rw [zwr_ok (by omega) (by omega), if_neg (by decide), wt]
        unfold z_M_nest_75
        rw [if_neg (by decide), Int.add_zero, zw_d D (by omega), g107 8 D _ h8.symm (by decide) (by omega)]
        rfl
      · rw [h10, if_pos rfl]
        unfold z_M_nest_50
        rw [zwr_ok (by omega) (by omega), if_pos rfl, wt]
        unfold z_M_nest_75
        rw [if_neg (by decide), show zw ((D : Int) + 1) = ((D + 1 : Nat) : Int) by rw [yb_w (by omega) (by omega)]; omega, g107 10 (D + 1) _ h10.symm (by decide) (by omega)]
    obtain ⟨B, b1, b2⟩ := k4 N (rs A 233 (t : Int) (itm X a).1) p g (f + 1) (t + 1) c1 (kx f1) (fun j hj => by rw [f1.e (fun z => by omega)]; exact c3 j hj) (by omega)
    have top : ri B 233 (t : Int) = (itm X a).1 := by
      rw [b2.e (fun z => by have := z.2; omega), ri_rs_s]
      rcases hka with ⟨h8, -⟩ | ⟨h10, -⟩
      · rw [h8]; decide
      · rw [h10]; decide
    have fB := f1.trans (b2.mono (fun c j z => ⟨z.1, by omega⟩))
    refine ⟨B, ?_, fB⟩
    rw [show f + (e + 1 - a) = f + 1 + (e - (a + 1)) + 1 by omega, s1, b1, r_nb c1 (kx fB) hl he, hke, if_neg (by decide), if_neg (by decide), if_neg (by decide)]
    unfold z_M_nest_75
    have wt : zw (t : Int) = (t : Int) := yb_w (by omega) (by omega)
    have g107 : z_M_nest_107 (z_M_nest_10_l N f) N p m' D (t : Int) e 12 B = z_M_nest_10_l N f p m' D (t : Int) ((e + 1 : Nat) : Int) B := by
      unfold z_M_nest_107 z_M_nest_133
      rw [if_neg (by decide), Int.add_zero, zw_d D (by omega), if_neg (by omega), we]
    rw [if_pos rfl, zrd_ok (by omega) (by omega), show (((t + 1 : Nat) : Int) + (-1)) = (t : Int) by omega, top, wt, Int.add_zero, zw_d (D + w) (by omega)]
    rcases hka with ⟨h8, rfl⟩ | ⟨h10, rfl⟩
    · rw [h8, if_neg (by decide), Int.sub_zero, zw_d (D + 0) (by omega)]
      exact g107
    · rw [h10, if_pos rfl, show ((D + 1 : Nat) : Int) - 1 = (D : Int) by omega, zw_d D (by omega)]
      exact g107
theorem Dp.nil {a : Nat} : Dp d X a a := fun _ D m q1 q2 q3 => ⟨m, q2, q3, fun N A o x g f _ _ _ _ _ => by rw [Nat.sub_self, Nat.add_zero], fun N A p g f t _ _ _ _ => ⟨A, by rw [Nat.sub_self, Nat.add_zero], fr.refl _ _⟩⟩
theorem Dp_all {nd : Int → Nat} {n : Nat} (hl : X.length ≤ 240) (hc : cal3 X) (hb : bal nd n X) : Dp d X 0 X.length := by
  have hB := Bl_L hb
  have key : ∀ n a b, Bl nd (fun k => (itm X k).1) (fun k => ig (itm X k) 2) (mtL X) n a b → b ≤ X.length → Dp d X a b := Bl_rec (P := fun _ a b => b ≤ X.length → Dp d X a b)
    (fun n a _ => Dp.nil)
    (fun n a b hab hk hbl ih hlen => Dp.cat (b := a + 1) (by omega) (by omega) hl (Dp.one hl hc (by
      rcases hk with hk | hk
      · have hk : 0 ≤ (itm X a).1 ∧ (itm X a).1 ≤ 6 := hk
        exact Or.inl (by omega)
      · have hk : (itm X a).1 = 7 := hk.1
        exact Or.inl (by omega))) (ih hlen))
    (fun n a b k8 h1 h2 h3 k9 k12 hm b1 b2 b3 i1 i2 i3 hlen => by
      have k8 : (itm X a).1 = 8 := k8
      have k9 : (itm X (mtL X a)).1 = 9 := k9
      have k12 : (itm X (mtL X (mtL X a))).1 = 12 := k12
      exact Dp.cat (b := mtL X (mtL X a) + 1) (by omega) (by omega) hl (Dp.blk (w := 0) hl (by omega) (by omega) (Or.inl ⟨k8, rfl⟩) k12 hm (Dp.cat (b := mtL X a) (by omega) (by omega) hl (i1 (by omega)) (Dp.cat (b := mtL X a + 1) (by omega) (by omega) hl (Dp.one hl hc (Or.inr (Or.inl k9))) (i2 (by omega))))) (i3 hlen))
    (fun n a b k10 h1 h2 h3 k11 k12 hm hpl b1 b2 b3 i1 i2 i3 hlen => by
      have k10 : (itm X a).1 = 10 := k10
      have k11 : (itm X (mtL X a)).1 = 11 := k11
      have k12 : (itm X (mtL X (mtL X a))).1 = 12 := k12
      exact Dp.cat (b := mtL X (mtL X a) + 1) (by omega) (by omega) hl (Dp.blk (w := 1) hl (by omega) (by omega) (Or.inr ⟨k10, rfl⟩) k12 hm (Dp.cat (b := mtL X a) (by omega) (by omega) hl (i1 (by omega)) (Dp.cat (b := mtL X a + 1) (by omega) (by omega) hl (Dp.one hl hc (Or.inr (Or.inr k11))) (i2 (by omega))))) (i3 hlen))
  exact key n 0 X.length hB (Nat.le_refl _)
/-- how deep while lies in while -/
def WD (d : Nat → Int) (X : List It) (M : Int) : Prop := (∀ (N : Nat) (A : zA) (o x g : Nat), 300000 ≤ N → Own A → pto.contains o = true → CP A o X g → CM A o X → CAr N A x d → z_Ro_whileDepth N o x A = some M) ∧ ∀ (N : Nat) (A : zA) (p g : Nat), 300000 ≤ N → p < 4 → RP A (4 + p) X g → (∀ j : Nat, cle X j → ri A 238 j = d j) → ∃ B, z_M_nest N p A = some (M, B) ∧ fr (fun c _ => c = 233) A B
noncomputable def wdV (d : Nat → Int) (X : List It) : Int := Classical.epsilon (WD d X)
theorem wdV_ok {nd : Int → Nat} {n : Nat} (hl : X.length ≤ 240) (hc : cal3 X) (hb : bal nd n X) : WD d X (wdV d X) := by
  refine Classical.epsilon_spec (p := WD d X) ?_
  obtain ⟨m, k1, k2, k3, k4⟩ := Dp_all (d := d) hl hc hb (Nat.le_refl _) 0 0 (Nat.le_refl _) (by decide) (by decide)
  refine ⟨m, fun N A o x g q0 q1 q2 q3 q4 q5 => ?_, fun N A p g q0 q1 q2 q3 => ?_⟩
  · have hn : zi A o 2 = X.length := q3.2.1
    have := k3 N A o x g (N - X.length) q1 q2 q3 q4 q5
    rw [show N - X.length + (X.length - 0) = N by omega] at this
    unfold z_Ro_whileDepth z_Ro_whileDepth_7
    have this : z_Ro_whileDepth_7_l N N o x 0 0 0 A = z_Ro_whileDepth_7_l N (N - X.length) o x ((0 : Nat) : Int) m (X.length : Int) A := this
    rw [this]
    obtain ⟨j, hj⟩ : ∃ j, N - X.length = j + 1 := ⟨N - X.length - 1, by omega⟩
    rw [hj]
    unfold z_Ro_whileDepth_7_l z_Ro_whileDepth_7_b
    rw [if_neg (by omega)]
  · obtain ⟨B, b1, b2⟩ := k4 N A p g (N - X.length) 0 q1 q2 q3 (Nat.le_refl _)
    rw [show N - X.length + (X.length - 0) = N by omega] at b1
    refine ⟨B, ?_, b2.mono (fun c j z => z.1)⟩
    unfold z_M_nest z_M_nest_10
    have b1 : z_M_nest_10_l N N p 0 0 0 0 A = z_M_nest_10_l N (N - X.length) p m ((0 : Nat) : Int) ((0 : Nat) : Int) (X.length : Int) B := b1
    rw [b1]
    obtain ⟨j, hj⟩ : ∃ j, N - X.length = j + 1 := ⟨N - X.length - 1, by omega⟩
    rw [hj]
    have e4 : ((4 + p : Nat) : Int) = 4 * 1 + (p : Int) := by omega
    have hx := q2.fr hl b2 (fun a j z y => by rw [z.1] at y; exact nqRo (by omega) y)
    have hn := hx.1
    rw [e4] at hn
    unfold z_M_nest_10_l z_M_nest_10_b
    rw [z_M_row_e (by omega) (by omega), zbP_s, zrd_ok (by omega) (by omega), hn, if_neg (by omega)]
end
