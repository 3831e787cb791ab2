/-! CODE of the class: letters -/
def CDI (A : zA) : Prop := yl A 209 0 = yl A 209 1 ∧ 16 ≤ yl A 209 0 ∧ yl A 209 0 ≤ 10000 ∧ 0 ≤ zi A 209 2 ∧ zi A 209 2 ≤ yl A 209 0
def CCd (A : zA) (l : List (Int × Int)) : Prop := CDI A ∧ zi A 209 2 = l.length ∧ ∀ i : Nat, i < l.length → yv A 209 0 i = (cdA l i).1 ∧ yv A 209 1 i = (cdA l i).2
theorem d209 : dyo.contains 209 = true := by decide
section
variable {N : Nat} {A B : zA} {l : List (Int × Int)} {o g k : Nat} {X : List It}
theorem CDI.fr {S : List Nat} (h : CDI A) (f : cF S A B) (hs : S.contains 209 = false) : CDI B := by
  have e0 := f.n (dy_of d209 (show 0 < 2 by decide)) hs
  have e1 := f.n (dy_of d209 (show 1 < 2 by decide)) hs
  unfold CDI at *
  rw [e0, e1, f.i (by decide) hs]
  exact h
theorem CCd.fr {S : List Nat} (h : CCd A l) (f : cF S A B) (hs : S.contains 209 = false) : CCd B l := ⟨h.1.fr f hs, by rw [f.i (by decide) hs]; exact h.2.1, fun i hi => by
  rw [f.v (dy_of d209 (by decide)) hs, f.v (dy_of d209 (by decide)) hs]
  exact h.2.2 i hi⟩
theorem c_cadd0 {x y : Int} (hO : Own A) (h : CCd A l) (hl : l.length < 2407) (hn : zi A 209 2 < yl A 209 0) (hx : zw x = x) (hy : zw y = y) : ∃ B, z_Cd_add_46 N x y A = some B ∧ CCd B (l ++ [(x, y)]) ∧ cF [209] A B := by
  obtain ⟨⟨h1, h2, h3, h4, h5⟩, h6, h7⟩ := h
  unfold z_Cd_add_46
  rw [if_pos (by omega), zgr_d hO d209 (by decide), zwD_d hO d209 (by decide) (by omega) (by omega)]
  have e2 : zi (ys A 209 0 (zi A 209 2) x) 209 2 = zi A 209 2 := zi_ys hO d209 (by decide) (by decide)
  rw [zgr_d hO.ys d209 (by decide), e2, zwD_d hO.ys d209 (by decide) (by omega) (by rw [yl_ys]; omega), zlet_s]
  have e3 : zi (ys (ys A 209 0 (zi A 209 2) x) 209 1 (zi A 209 2) y) 209 2 = zi A 209 2 := by rw [zi_ys hO.ys d209 (by decide) (by decide), e2]
  rw [e3]
  have f1 : cF [209] A (ys A 209 0 (zi A 209 2) x) := cF_ys hO d209 (by decide) (by decide)
  have f2 : cF [209] (ys A 209 0 (zi A 209 2) x) (ys (ys A 209 0 (zi A 209 2) x) 209 1 (zi A 209 2) y) := cF_ys hO.ys d209 (by decide) (by decide)
  have f3 : cF [209] (ys (ys A 209 0 (zi A 209 2) x) 209 1 (zi A 209 2) y) (zsi (ys (ys A 209 0 (zi A 209 2) x) 209 1 (zi A 209 2) y) 209 2 (zi A 209 2 + 1)) := cF_si hO.ys.ys (by decide) (by decide) (by decide)
  refine ⟨_, rfl, ⟨⟨?_, ?_, ?_, ?_, ?_⟩, ?_, fun i hi => ?_⟩, (f1.trans f2).trans f3⟩
  · rw [yl_si, yl_si, yl_ys, yl_ys, yl_ys, yl_ys]; exact h1
  · rw [yl_si, yl_ys, yl_ys]; exact h2
  · rw [yl_si, yl_ys, yl_ys]; exact h3
  · rw [zi_si_s, yb_w (by omega) (by omega)]; omega
  · rw [zi_si_s, yb_w (by omega) (by omega), yl_si, yl_ys, yl_ys]; omega
  · rw [zi_si_s, yb_w (by omega) (by omega), h6, List.length_append]; rfl
  · rw [List.length_append] at hi
    have hi : i < l.length + 1 := hi
    rw [yv_si hO.ys.ys d209 (by decide) (by decide), yv_si hO.ys.ys d209 (by decide) (by decide), yv_ys_o hO.ys d209 (by decide) d209 (by decide) (by omega), h6]
    by_cases c : i < l.length
    · rw [cdA_l c, yv_ys_n (by omega) (by omega) (by omega), yv_ys_n (by omega) (by omega) (by omega), yv_ys_o hO d209 (by decide) d209 (by decide) (by omega)]
      exact h7 i c
    · have : i = l.length := by omega
      subst this
      rw [yv_ys_s, yv_ys_s, cdA_r (Nat.le_refl _), Nat.sub_self]
      exact ⟨hx, hy⟩
theorem c_cadd {x y : Int} (hO : Own A) (h : CCd A l) (hl : l.length < 2407) (hx : zw x = x) (hy : zw y = y) : ∃ B, z_Cd_add N x y A = some B ∧ CCd B (l ++ [(x, y)]) ∧ cF [209] A B := by
  have h0 := h
  obtain ⟨⟨h1, h2, h3, h4, h5⟩, h6, h7⟩ := h
  unfold z_Cd_add
  rw [zgr_d hO d209 (by decide), zln_d hO d209 (by decide)]
  by_cases c : zi A 209 2 = yl A 209 0
  · rw [if_pos c, zgr_d hO d209 (by decide), yb_w (by omega) (by omega), yg_run hO d209 (by decide) (by omega) (by omega)]
    have oB : Own (yg A 209 0 (2 * zi A 209 2)) := yg_own hO d209 (by decide) (by omega) (by omega)
    have l1 : yl (yg A 209 0 (2 * zi A 209 2)) 209 1 = yl A 209 1 := yg_ylo hO (dy_of d209 (by decide)) (by omega)
    have l0 : yl (yg A 209 0 (2 * zi A 209 2)) 209 0 = 2 * zi A 209 2 := yg_yl hO d209 (by decide) (by omega)
    have z2 : zi (yg A 209 0 (2 * zi A 209 2)) 209 2 = zi A 209 2 := yg_fi hO (by decide)
    rw [zgr_d oB d209 (by decide), z2, yb_w (by omega) (by omega), yg_run oB d209 (by decide) (by omega) (by omega)]
    have f1 : cF [209] A (yg A 209 0 (2 * zi A 209 2)) := cF_yg hO d209 (by decide) (by decide) (by omega) (by omega) (by omega)
    have f2 : cF [209] (yg A 209 0 (2 * zi A 209 2)) (yg (yg A 209 0 (2 * zi A 209 2)) 209 1 (2 * zi A 209 2)) := cF_yg oB d209 (by decide) (by decide) (by omega) (by omega) (by omega)
    have m1 : yl (yg (yg A 209 0 (2 * zi A 209 2)) 209 1 (2 * zi A 209 2)) 209 1 = 2 * zi A 209 2 := yg_yl oB d209 (by decide) (by omega)
    have m0 : yl (yg (yg A 209 0 (2 * zi A 209 2)) 209 1 (2 * zi A 209 2)) 209 0 = 2 * zi A 209 2 := by rw [yg_ylo oB (dy_of d209 (by decide)) (by omega), l0]
    have mz : zi (yg (yg A 209 0 (2 * zi A 209 2)) 209 1 (2 * zi A 209 2)) 209 2 = zi A 209 2 := by rw [yg_fi oB (by decide), z2]
    have hC : CCd (yg (yg A 209 0 (2 * zi A 209 2)) 209 1 (2 * zi A 209 2)) l := ⟨⟨by rw [m0, m1], by rw [m0]; omega, by rw [m0]; omega, by rw [mz]; omega, by rw [mz, m0]; omega⟩, by rw [mz]; exact h6, fun i hi => by
      rw [yg_yvo oB (dy_of d209 (by decide)) (by omega), yg_yv hO d209 (by decide) (by omega) (by omega), yg_yv oB d209 (by decide) (by omega) (by omega), yg_yvo hO (dy_of d209 (by decide)) (by omega)]
      exact h7 i hi⟩
    obtain ⟨B, b1, b2, b3⟩ := c_cadd0 (N := N) f2.own hC hl (by rw [mz, m0]; omega) hx hy
    exact ⟨B, b1, b2, (f1.trans f2).trans b3⟩
  · rw [if_neg c]
    exact c_cadd0 hO h0 hl (by omega) hx hy
/-- a number is put in later -/
def sn (l : List (Int × Int)) (v : Nat) (y : Int) : List (Int × Int) := l.set v ((cdA l v).1, y)
theorem sn_len (v : Nat) (y : Int) : (sn l v y).length = l.length := List.length_set
theorem sn_at {v i : Nat} {y : Int} (hv : v < l.length) (hi : i < l.length) : cdA (sn l v y) i = if i = v then ((cdA l v).1, y) else cdA l i := by
  unfold sn cdA
  rw [List.getD_eq_getElem?_getD, List.getD_eq_getElem?_getD]
  by_cases e : i = v
  · rw [if_pos e, e, List.getElem?_set_self hv]
    rfl
  · rw [if_neg e, List.getElem?_set_ne (fun z => e z.symm)]
    rw [List.getD_eq_getElem?_getD]
theorem c_lead {v : Nat} (hO : Own A) (h : CCd A l) (hv : v < l.length) (hl : l.length ≤ 2407) : ∃ B, z_Cd_lead N v A = some B ∧ CCd B (sn l v l.length) ∧ cF [209] A B := by
  obtain ⟨⟨h1, h2, h3, h4, h5⟩, h6, h7⟩ := h
  unfold z_Cd_lead
  rw [if_neg (by omega), if_pos (by omega), zgr_d hO d209 (by decide), zwD_d hO d209 (by decide) (by omega) (by omega)]
  have e2 : zi (ys A 209 1 (v : Int) (zi A 209 2)) 209 2 = zi A 209 2 := zi_ys hO d209 (by decide) (by decide)
  refine ⟨_, rfl, ⟨⟨by rw [yl_ys, yl_ys]; exact h1, by rw [yl_ys]; exact h2, by rw [yl_ys]; exact h3, by rw [e2]; exact h4, by rw [e2, yl_ys]; exact h5⟩, by rw [e2, sn_len]; exact h6, fun i hi => ?_⟩, cF_ys hO d209 (by decide) (by decide)⟩
  rw [sn_len] at hi
  rw [sn_at hv hi, yv_ys_o hO d209 (by decide) d209 (by decide) (by omega), yv_ys (by omega) (by omega), h6]
  by_cases e : i = v
  · rw [if_pos e, if_pos (show (i : Int) = (v : Int) by omega), e]
    exact ⟨(h7 v hv).1, yb_w (by omega) (by omega)⟩
  · rw [if_neg e, if_neg (show ¬ (i : Int) = (v : Int) by omega)]
    exact h7 i hi
theorem c_await {v : Nat} (hO : Own A) (hv : v < 240) : ∃ B, z_Cd_await N v A = some B ∧ cF [212] A B ∧ ∀ j : Nat, ri B 212 j = if j = v then zi A 209 2 else ri A 212 j := by
  unfold z_Cd_await
  rw [if_neg (by omega), if_pos (by omega), zwr_ok (by omega) (by omega)]
  refine ⟨_, rfl, cF_rs hO (by decide) (by decide) (by decide), fun j => ?_⟩
  rw [ri_rs (by omega) (by omega)]
  have := yb_rg A 209 2
  by_cases e : j = v
  · rw [if_pos (by omega), if_pos e]
    exact yb_w this.1 this.2
  · rw [if_neg (by omega), if_neg e]
theorem rdk_rg (k : Int) : rdk k = 0 ∨ rdk k = 1 ∨ rdk k = 2 := by
  unfold rdk
  repeat' split
  all_goals simp
/-- what an item reads -/
def rdl (i : It) : List (Int × Int) := if rdk i.1 = 2 then [(1, ig i ((frk i.1).toNat + 1)), (1, ig i ((frk i.1).toNat + 2))] else if rdk i.1 = 1 then [(1, ig i ((frk i.1).toNat + 1))] else []
theorem c_pl9 {T p h : Nat} (hN : 300000 ≤ N) (hO : Own A) (ho : pto.contains o = true) (hS : STA A) (hx : CP A o X g) (hok : okI T p h (itm X k)) (h60 : h ≤ 60) (hk : k < X.length) (hC : CCd A l) (hl : l.length + 2 ≤ 2407) : ∃ B, z_Cd_addPlain_9 N o k (itm X k).1 0 A = z_Cd_addPlain_42 N o k (itm X k).1 B ∧ CCd B (l ++ rdl (itm X k)) ∧ cF [209] A B := by
  have ne : ([209] : List Nat).contains o = false := by
    have : ∀ q ∈ pto, ([209] : List Nat).contains q = false := by decide
    exact this o (List.contains_iff_mem.mp ho)
  have hSf : ∀ {B : zA}, cF [209] A B → STA B := fun {B} f q hq => by
    rw [f.e (by decide) (by decide), f.e (by decide) (by decide), f.e (by decide) (by decide)]
    exact hS q hq
  have rd : ∀ {B : zA} {f : Nat} {n : Nat}, cF [209] A B → (n : Int) < rdk (itm X k).1 → z_Cd_addPlain_9_l N (f + 1) o k (itm X k).1 n B = zbV (z_Cd_add N 1 (ig (itm X k) ((frk (itm X k).1).toNat + n + 1)) B) fun A5 => z_Cd_addPlain_9_l N f o k (itm X k).1 (((n + 1 : Nat) : Int)) A5 := fun {B f n} fB hn => by
    obtain ⟨c1, c2⟩ := cp_reads (N := N) fB.own ho (hSf fB) (hx.fr ho fB ne) hok hk
    have hr2 : rdk (itm X k).1 ≤ 2 := by have := rdk_rg (itm X k).1; omega
    obtain ⟨g1, g2, -⟩ := rd_rg hok h60 hn
    have hf0 : 0 ≤ frk (itm X k).1 := by unfold frk; split <;> decide
    have hnum := cp_num (N := N) (i := (frk (itm X k).1).toNat + n) fB.own ho (hx.fr ho fB ne) hk g1
    show z_Cd_addPlain_9_b (z_Cd_addPlain_9_l N f) N o k (itm X k).1 n B = _
    unfold z_Cd_addPlain_9_b
    rw [c1, zbP_s, if_pos hn, c2 n (by omega) (by omega), zbP_s, show frk (itm X k).1 + (n : Int) = (((frk (itm X k).1).toNat + n : Nat) : Int) by omega, hnum, zbP_s, show zw ((n : Int) + 1) = ((n + 1 : Nat) : Int) by rw [yb_w (by omega) (by omega)]; omega]
  have en : ∀ {B : zA} {f : Nat} {n : Nat}, cF [209] A B → ¬ (n : Int) < rdk (itm X k).1 → z_Cd_addPlain_9_l N (f + 1) o k (itm X k).1 n B = z_Cd_addPlain_42 N o k (itm X k).1 B := fun {B f n} fB hn => by
    obtain ⟨c1, c2⟩ := cp_reads (N := N) fB.own ho (hSf fB) (hx.fr ho fB ne) hok hk
    show z_Cd_addPlain_9_b (z_Cd_addPlain_9_l N f) N o k (itm X k).1 n B = _
    unfold z_Cd_addPlain_9_b
    rw [c1, zbP_s, if_neg hn]
  have wn : ∀ n : Nat, (n : Int) < rdk (itm X k).1 → zw (ig (itm X k) ((frk (itm X k).1).toNat + n + 1)) = ig (itm X k) ((frk (itm X k).1).toNat + n + 1) := fun n hn => by
    obtain ⟨g1, -⟩ := rd_rg hok h60 hn
    have := hok.2.2.1 _ g1
    exact yb_w this.1 this.2.1
  obtain ⟨M, rfl⟩ : ∃ m, N = m + 1 + 1 + 1 := ⟨N - 3, by omega⟩
  have hr := rdk_rg (itm X k).1
  unfold z_Cd_addPlain_9 rdl
  have r0 : cF [209] A A := cF.refl _ hO
  rcases hr with hr | hr | hr
  · rw [if_neg (by omega), if_neg (by omega), List.append_nil]
    exact ⟨A, en (n := 0) r0 (by omega), hC, r0⟩
  · rw [if_neg (by omega), if_pos hr]
    obtain ⟨B, b1, b2, b3⟩ := c_cadd (N := M + 1 + 1 + 1) (x := 1) (y := ig (itm X k) ((frk (itm X k).1).toNat + 0 + 1)) hO hC (by omega) (by decide) (wn 0 (by omega))
    refine ⟨B, ?_, b2, b3⟩
    have e := rd (f := M + 1 + 1) (n := 0) r0 (by omega)
    have e : z_Cd_addPlain_9_l (M + 1 + 1 + 1) (M + 1 + 1 + 1) o k (itm X k).1 0 A = _ := e
    rw [e, b1, zbV_s, en (n := 0 + 1) b3 (by omega)]
  · rw [if_pos hr]
    obtain ⟨B, b1, b2, b3⟩ := c_cadd (N := M + 1 + 1 + 1) (x := 1) (y := ig (itm X k) ((frk (itm X k).1).toNat + 0 + 1)) hO hC (by omega) (by decide) (wn 0 (by omega))
    obtain ⟨C, c1, c2, c3⟩ := c_cadd (N := M + 1 + 1 + 1) (x := 1) (y := ig (itm X k) ((frk (itm X k).1).toNat + 1 + 1)) b3.own b2 (by rw [List.length_append]; simp only [List.length_cons, List.length_nil]; omega) (by decide) (wn 1 (by omega))
    refine ⟨C, ?_, ?_, b3.trans c3⟩
    · have e := rd (f := M + 1 + 1) (n := 0) r0 (by omega)
      have e : z_Cd_addPlain_9_l (M + 1 + 1 + 1) (M + 1 + 1 + 1) o k (itm X k).1 0 A = _ := e
      rw [e, b1, zbV_s, rd (n := 0 + 1) b3 (by omega), c1, zbV_s, en (n := 0 + 1 + 1) (b3.trans c3) (by omega)]
    · rw [List.append_assoc] at c2
      exact c2
end
