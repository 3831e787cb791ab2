/-! a part as a list: class and reference -/
def ieq (i j : It) : Prop := i.1 = j.1 ∧ ∀ m : Nat, m < nbk i.1 → ig i (m + 1) = ig j (m + 1)
def CP (A : zA) (o : Nat) (X : List It) (g : Nat) : Prop := PI A o ∧ cn A o = X.length ∧ cr A o = g ∧ ∀ k : Nat, k < X.length → cw A o k 0 = (itm X k).1 ∧ ∀ i : Nat, i < nbk (itm X k).1 → cw A o k ((i : Int) + 1) = ig (itm X k) (i + 1)
def RP (A : zA) (r : Nat) (X : List It) (g : Nat) : Prop := ri A 229 r = X.length ∧ ri A 230 r = g ∧ ∀ k : Nat, k < X.length → ri A 228 (rad r k 0) = (itm X k).1 ∧ ∀ i : Nat, i < nbk (itm X k).1 → ri A 228 (rad r k ((i : Int) + 1)) = ig (itm X k) (i + 1)
theorem itm_app1 {X Y : List It} {k : Nat} (h : k < X.length) : itm (X ++ Y) k = itm X k := by
  rw [itm_get h, itm_get (by rw [List.length_append]; omega), List.getElem_append_left h]
theorem itm_app2 {X : List It} {i : It} : itm (X ++ [i]) X.length = i := by
  rw [itm_get (by rw [List.length_append]; simp)]
  simp
section
variable {N : Nat} {A B : zA} {o p : Nat} {X Y : List It} {g h : Nat}
theorem CP.fr {S : List Nat} (hc : CP A o X g) (ho : pto.contains o = true) (f : cF S A B) (hs : S.contains o = false) : CP B o X g := by
  obtain ⟨h1, h2, h3, h4⟩ := hc
  have hf := pto_fx ho
  have hd := pto_dy ho
  refine ⟨h1.fr ho f hs, by unfold cn at *; rw [f.i hf hs]; exact h2, by unfold cr at *; rw [f.i hf hs]; exact h3, fun k hk => ?_⟩
  unfold cw
  refine ⟨by rw [f.v (dy_of hd (by decide)) hs]; exact (h4 k hk).1, fun i hi => by rw [f.v (dy_of hd (by decide)) hs]; exact (h4 k hk).2 i hi⟩
theorem CP_clear (hO : Own A) (ho : pto.contains o = true) (hI : PI A o) (hg : g < 2147483648) : ∃ B, z_Pt_clear N o g A = some B ∧ CP B o [] g ∧ cF [o] A B := by
  obtain ⟨B, b1, b2, b3, b4, b5⟩ := Pt_clear (N := N) (x := (g : Int)) hO ho hI (by omega)
  exact ⟨B, b1, ⟨b3, by rw [b4]; rfl, b5, fun k hk => absurd hk (Nat.not_lt_zero k)⟩, b2⟩
theorem CP_copy {k : Nat} (hO : Own A) (ho : pto.contains o = true) (hp : pto.contains p = true) (hne : p ≠ o) (hx : CP A o X g) (hy : CP A p Y h) (hl : X.length < 240) (hk : k < Y.length) : ∃ B, z_Pt_addCopy N o p k A = some B ∧ CP B o (X ++ [itm Y k]) g ∧ cF [o] A B := by
  obtain ⟨x1, x2, x3, x4⟩ := hx
  obtain ⟨y1, y2, y3, y4⟩ := hy
  obtain ⟨B, b1, b2, b3, b4, b5, b6, b7, b8⟩ := Pt_addCopy (N := N) (x := (k : Int)) hO ho hp hne x1 y1 (by omega) (by omega) (by omega)
  refine ⟨B, b1, ⟨b3, by rw [b4, x2, List.length_append]; rfl, by rw [b5]; exact x3, fun m hm => ?_⟩, b2⟩
  rw [List.length_append] at hm
  have hm : m < X.length + 1 := hm
  by_cases c : m < X.length
  · rw [itm_app1 c]
    have := nbk_le (itm X m).1
    exact ⟨by rw [b6 m 0 (by omega) (by omega) (by omega) (by omega)]; exact (x4 m c).1, fun i hi => by rw [b6 m _ (by omega) (by omega) (by omega) (by omega)]; exact (x4 m c).2 i hi⟩
  · have : m = X.length := by omega
    subst this
    rw [itm_app2, ← x2]
    have := nbk_le (itm Y k).1
    exact ⟨by rw [b7 0 (by omega) (by omega)]; exact (y4 k hk).1, fun i hi => by rw [b7 _ (by omega) (by omega)]; exact (y4 k hk).2 i hi⟩
theorem CP_add {x y z : Int} (hO : Own A) (ho : pto.contains o = true) (hx : CP A o X g) (hl : X.length < 240) (wx : zw x = x) (wy : zw y = y) (wz : zw z = z) (hn : nbk x ≤ 2) : ∃ B, z_Pt_add N o x y z A = some B ∧ CP B o (X ++ [(x, y, z, 0, 0)]) g ∧ cF [o] A B := by
  obtain ⟨x1, x2, x3, x4⟩ := hx
  obtain ⟨B, b1, b2, b3, b4, b5, b6, b7, b8⟩ := Pt_add (N := N) (x := x) (y := y) (z := z) hO ho x1 (by omega)
  refine ⟨B, b1, ⟨b3, by rw [b4, x2, List.length_append]; rfl, by rw [b5]; exact x3, fun m hm => ?_⟩, b2⟩
  rw [List.length_append] at hm
  have hm : m < X.length + 1 := hm
  by_cases c : m < X.length
  · rw [itm_app1 c]
    have := nbk_le (itm X m).1
    exact ⟨by rw [b6 m 0 (by omega) (by omega) (by omega) (by omega)]; exact (x4 m c).1, fun i hi => by rw [b6 m _ (by omega) (by omega) (by omega) (by omega)]; exact (x4 m c).2 i hi⟩
  · have : m = X.length := by omega
    subst this
    rw [itm_app2, ← x2]
    refine ⟨by rw [b7.1, wx], fun i hi => ?_⟩
    have hi : i < nbk x := hi
    rcases (show i = 0 ∨ i = 1 by omega) with rfl | rfl
    · show cw B o (cn A o) 1 = y
      rw [b7.2.1, wy]
    · show cw B o (cn A o) 2 = z
      rw [b7.2.2.1, wz]
/-- linked -/
theorem CP_link {nd : Int → Nat} {n : Nat} (hN : 300000 ≤ N) (hO : Own A) (ho : pto.contains o = true) (hx : CP A o X g) (hb : bal nd n X) : ∃ B, z_Pt_link N o A = some B ∧ CP B o X g ∧ cF [o] A B ∧ ∃ mt : Nat → Nat, Bl nd (fun k => (itm X k).1) (fun k => ig (itm X k) 2) mt n 0 X.length ∧ ∀ k, k < X.length → 8 ≤ (itm X k).1 → yv B o 1 k = mt k := by
  obtain ⟨x1, x2, x3, x4⟩ := hx
  have hl := x1.2.1
  obtain ⟨B, b1, b2, b3⟩ := Pt_link_ok (N := N) (nd := nd) (kd := fun k => (itm X k).1) (nm := fun k => ig (itm X k) 2) (n := n) (X := X) ho (by omega) hb hO x1 x2 (fun k hk => (x4 k (by omega)).1) (fun j hj => by rw [itm_get hj]; exact ⟨rfl, fun _ => rfl⟩)
  have hlt := Bl_lt _ _ _ b3
  refine ⟨B, b1, ⟨b2.pi x1, by unfold cn at *; rw [b2.2.1]; exact x2, by unfold cr at *; rw [b2.2.1]; exact x3, fun k hk => ⟨by rw [b2.cw]; exact (x4 k hk).1, fun i hi => by rw [b2.cw]; exact (x4 k hk).2 i hi⟩⟩, b2.1, _, b3, fun k hk k8 => ?_⟩
  have := hlt k (by omega) hk k8
  omega
end
/-! the reference's rows -/
section
variable {N : Nat} {A B : zA} {X Y : List It} {g h r : Nat}
def qRo (r : Nat) (a j : Nat) : Prop := (a = 228 ∧ 1200 * r ≤ j ∧ j < 1200 * r + 1200) ∨ ((a = 229 ∨ a = 230) ∧ j = r)
theorem RP.fr {F : Nat → Nat → Prop} (hx : RP A r X g) (hl : X.length ≤ 240) (f : fr F A B) (hq : ∀ a j, F a j → ¬ qRo r a j) : RP B r X g := by
  obtain ⟨h1, h2, h3⟩ := hx
  have e : ∀ a e, qRo r a e.toNat → ri B a e = ri A a e := fun a e he => f.e (fun z => hq _ _ z he)
  refine ⟨by rw [e _ _ (Or.inr ⟨Or.inl rfl, by omega⟩)]; exact h1, by rw [e _ _ (Or.inr ⟨Or.inr rfl, by omega⟩)]; exact h2, fun k hk => ⟨?_, fun i hi => ?_⟩⟩
  · rw [e _ _ (Or.inl ⟨rfl, by unfold rad; omega, by unfold rad; omega⟩)]; exact (h3 k hk).1
  · have := nbk_le (itm X k).1
    rw [e _ _ (Or.inl ⟨rfl, by unfold rad; omega, by unfold rad; omega⟩)]; exact (h3 k hk).2 i hi
/-- the last place of a row is filled, then counted -/
theorem RP_put {C : zA} {it : It} (hr : r < 12) (hx : RP A r X g) (hl : X.length < 240) (f : fr (fun a j => a = 228 ∧ 5 * (240 * r + X.length) ≤ j ∧ j < 5 * (240 * r + X.length) + 5) A C) (h0 : ri C 228 (rad r X.length 0) = it.1) (hn : ∀ i : Nat, i < nbk it.1 → ri C 228 (rad r X.length ((i : Int) + 1)) = ig it (i + 1)) : RP (rs C 229 r (ri C 229 r + 1)) r (X ++ [it]) g := by
  obtain ⟨h1, h2, h3⟩ := hx
  have e1 : ri C 229 r = X.length := by rw [f.e (fun z => by omega)]; exact h1
  refine ⟨?_, ?_, fun k hk => ?_⟩
  · rw [ri_rs_s, e1, yb_w (by omega) (by omega), List.length_append]; rfl
  · rw [ri_rs_o (by decide), f.e (fun z => by omega)]; exact h2
  · rw [List.length_append] at hk
    have hk : k < X.length + 1 := hk
    by_cases c : k < X.length
    · rw [itm_app1 c]
      have := nbk_le (itm X k).1
      exact ⟨by rw [ri_rs_o (by decide), f.e (fun z => by unfold rad at z; omega)]; exact (h3 k c).1, fun i hi => by rw [ri_rs_o (by decide), f.e (fun z => by unfold rad at z; omega)]; exact (h3 k c).2 i hi⟩
    · have : k = X.length := by omega
      subst this
      rw [itm_app2]
      exact ⟨by rw [ri_rs_o (by decide)]; exact h0, fun i hi => by rw [ri_rs_o (by decide)]; exact hn i hi⟩
theorem RP_keep {p k : Nat} (hN : 300000 ≤ N) (hp : p < 4) (hx : RP A (4 + p) X g) (hy : RP A p Y h) (hl : X.length < 240) (hk : k < Y.length) (hk2 : k < 240) : ∃ B, z_M_keep N p k A = some B ∧ RP B (4 + p) (X ++ [itm Y k]) g ∧ fr (qRo (4 + p)) A B := by
  have x1 := hx.1
  have e4 : ((4 + p : Nat) : Int) = 4 * 1 + (p : Int) := by omega
  have p1 : z_M_place N 0 p k A = some ((5 * (240 * p + k) : Nat) : Int) := by
    rw [z_M_place_e (by omega) (by omega) (by omega) (by omega)]
    unfold rad
    congr 1
    omega
  have p2 : z_M_place N 1 p (X.length : Int) A = some ((5 * (240 * (4 + p) + X.length) : Nat) : Int) := by
    rw [z_M_place_e (by omega) (by omega) (by omega) (by omega)]
    unfold rad
    congr 1
  obtain ⟨C, c1, c2, c3⟩ := r_copyItem' (N := N) (A := A) (x := 5 * (240 * p + k)) (y := 5 * (240 * (4 + p) + X.length)) hN (by omega) (by omega) (by omega)
  unfold z_M_keep
  rw [p1, zbP_s, z_M_row_e (by omega) (by omega), zbP_s, zrd_ok (by omega) (by omega), ← e4, x1, p2, zbP_s, c1, zbV_s, z_M_row_e (by omega) (by omega), zbP_s, ← e4, zrd_ok (by omega) (by omega), zwr_ok (by omega) (by omega)]
  have hb := nbk_le (itm Y k).1
  refine ⟨_, rfl, RP_put (by omega) hx hl c3 ?_ (fun i hi => ?_), (c3.mono (fun a j z => Or.inl ⟨z.1, by omega, by omega⟩)).trans (fr_rs (Or.inr ⟨Or.inl rfl, by omega⟩))⟩
  · have := c2 0 (by omega)
    rw [show rad ((4 + p : Nat) : Int) (X.length : Int) 0 = ((5 * (240 * (4 + p) + X.length) : Nat) : Int) + ((0 : Nat) : Int) by unfold rad; omega, this, show ((5 * (240 * p + k) : Nat) : Int) + ((0 : Nat) : Int) = rad (p : Int) k 0 by unfold rad; omega]
    exact (hy.2.2 k hk).1
  · have := c2 (i + 1) (by omega)
    rw [show rad ((4 + p : Nat) : Int) (X.length : Int) ((i : Int) + 1) = ((5 * (240 * (4 + p) + X.length) : Nat) : Int) + ((i + 1 : Nat) : Int) by unfold rad; omega, this, show ((5 * (240 * p + k) : Nat) : Int) + ((i + 1 : Nat) : Int) = rad (p : Int) k ((i : Int) + 1) by unfold rad; omega]
    exact (hy.2.2 k hk).2 i hi
theorem RP_emit {p : Nat} {x3 x4 x5 x6 x7 : Int} (hp : p < 4) (hx : RP A (4 + p) X g) (hl : X.length < 240) (w3 : zw x3 = x3) (w4 : zw x4 = x4) (w5 : zw x5 = x5) (w6 : zw x6 = x6) (w7 : zw x7 = x7) : ∃ B, z_M_emit N 1 p x3 x4 x5 x6 x7 A = some B ∧ RP B (4 + p) (X ++ [(x3, x4, x5, x6, x7)]) g ∧ fr (qRo (4 + p)) A B := by
  have x1 := hx.1
  have e4 : ((4 + p : Nat) : Int) = 4 * 1 + (p : Int) := by omega
  have p2 : z_M_place N 1 p (X.length : Int) A = some ((5 * (240 * (4 + p) + X.length) : Nat) : Int) := by
    rw [z_M_place_e (by omega) (by omega) (by omega) (by omega)]
    unfold rad
    congr 1
  unfold z_M_emit
  rw [z_M_row_e (by omega) (by omega), zbP_s, zrd_ok (by omega) (by omega), ← e4, x1, p2, zbP_s]
  generalize hb : 5 * (240 * (4 + p) + X.length) = b
  rw [zwr_ok (by omega) (by omega), zwr_ok (by omega) (by omega), zwr_ok (by omega) (by omega), zwr_ok (by omega) (by omega), zwr_ok (by omega) (by omega), z_M_row_e (by omega) (by omega), zbP_s, ← e4, zrd_ok (by omega) (by omega), zwr_ok (by omega) (by omega)]
  have f : fr (fun a j => a = 228 ∧ b ≤ j ∧ j < b + 5) A (rs (rs (rs (rs (rs A 228 b x3) 228 (b + 1) x4) 228 (b + 2) x5) 228 (b + 3) x6) 228 (b + 4) x7) := ((((fr_rs ⟨rfl, by omega, by omega⟩).trans (fr_rs ⟨rfl, by omega, by omega⟩)).trans (fr_rs ⟨rfl, by omega, by omega⟩)).trans (fr_rs ⟨rfl, by omega, by omega⟩)).trans (fr_rs ⟨rfl, by omega, by omega⟩)
  have v0 : ri (rs (rs (rs (rs (rs A 228 b x3) 228 (b + 1) x4) 228 (b + 2) x5) 228 (b + 3) x6) 228 (b + 4) x7) 228 b = x3 := by rw [ri_rs_n (by omega) (by omega) (by omega), ri_rs_n (by omega) (by omega) (by omega), ri_rs_n (by omega) (by omega) (by omega), ri_rs_n (by omega) (by omega) (by omega), ri_rs_s, w3]
  have v1 : ri (rs (rs (rs (rs (rs A 228 b x3) 228 (b + 1) x4) 228 (b + 2) x5) 228 (b + 3) x6) 228 (b + 4) x7) 228 (b + 1) = x4 := by rw [ri_rs_n (by omega) (by omega) (by omega), ri_rs_n (by omega) (by omega) (by omega), ri_rs_n (by omega) (by omega) (by omega), ri_rs_s, w4]
  have v2 : ri (rs (rs (rs (rs (rs A 228 b x3) 228 (b + 1) x4) 228 (b + 2) x5) 228 (b + 3) x6) 228 (b + 4) x7) 228 (b + 2) = x5 := by rw [ri_rs_n (by omega) (by omega) (by omega), ri_rs_n (by omega) (by omega) (by omega), ri_rs_s, w5]
  have v3 : ri (rs (rs (rs (rs (rs A 228 b x3) 228 (b + 1) x4) 228 (b + 2) x5) 228 (b + 3) x6) 228 (b + 4) x7) 228 (b + 3) = x6 := by rw [ri_rs_n (by omega) (by omega) (by omega), ri_rs_s, w6]
  have v4 : ri (rs (rs (rs (rs (rs A 228 b x3) 228 (b + 1) x4) 228 (b + 2) x5) 228 (b + 3) x6) 228 (b + 4) x7) 228 (b + 4) = x7 := by rw [ri_rs_s, w7]
  generalize rs (rs (rs (rs (rs A 228 b x3) 228 (b + 1) x4) 228 (b + 2) x5) 228 (b + 3) x6) 228 (b + 4) x7 = C at *
  have e0 : rad ((4 + p : Nat) : Int) (X.length : Int) 0 = b := by unfold rad; omega
  refine ⟨_, rfl, RP_put (by omega) hx hl (f.mono (fun a j z => ⟨z.1, by omega, by omega⟩)) (by rw [e0]; exact v0) (fun i hi => ?_), (f.mono (fun a j z => Or.inl ⟨z.1, by omega, by omega⟩)).trans (fr_rs (Or.inr ⟨Or.inl rfl, by omega⟩))⟩
  have := nbk_le (x3, x4, x5, x6, x7).1
  have er : rad ((4 + p : Nat) : Int) (X.length : Int) ((i : Int) + 1) = (b : Int) + ((i : Int) + 1) := by unfold rad; omega
  rw [er]
  rcases (show i = 0 ∨ i = 1 ∨ i = 2 ∨ i = 3 by omega) with rfl | rfl | rfl | rfl
  · exact v1
  · exact v2
  · exact v3
  · exact v4
end
