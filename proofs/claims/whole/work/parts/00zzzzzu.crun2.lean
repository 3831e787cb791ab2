/-! RUN of the class: letters -/
def men0 (m : Ms) (p k : Nat) : Ms := (mgl m, fun l => if l = mlv m + 1 then (fun _ => 0) else mfr m l, mce m, mou m, mni m, mlv m + 1, fun l => if l = mlv m then (p, k) else mrt m l, mp m, mk m)
section
variable {N : Nat} {A B : zA} {Q : Pr} {inp : Nat → Int} {ic T s pc : Nat} {m : Ms} {st : List Int}
theorem CSk.fr {F : Nat → Nat → Prop} (h : CSk A st) (f : fr F A B) (hf : ∀ a j, F a j → ¬ qStk a j) : CSk B st := ⟨by rw [f.i (fun z => hf _ _ z (Or.inl ⟨rfl, rfl⟩))]; exact h.1, fun i hi => by rw [f.e (fun z => hf _ _ z (Or.inr rfl))]; exact h.2 i hi⟩
/-- what a letter comes to: it goes on so -/
def LGo (Q : Pr) (inp : Nat → Int) (ic : Nat) (A : zA) (x : Option (Int × zA)) (m : Ms) (s : Nat) (st : List Int) (pc : Nat) : Prop := ∃ B, x = some (-1, B) ∧ CMs Q inp ic B m s st pc ∧ fr qMc A B
/-- or ends so -/
def LEn (A : zA) (x : Option (Int × zA)) (v : Int) (s : Nat) (ou : List Int) : Prop := ∃ B, x = some (v, B) ∧ zi B 214 4 = s ∧ COu B ou ∧ fr qMc A B
theorem cms_sk {st' : List Int} (h : CMs Q inp ic A m s st pc) (hB : CSk B st') (f : fr qStk A B) : CMs Q inp ic B m s st' pc := ⟨h.1.fr (f.mono (fun a j => qStk_s)), hB, by rw [f.i (fun z => by unfold qStk at z; omega)]; exact h.2.2.1, by rw [f.i (fun z => by unfold qStk at z; omega)]; exact h.2.2.2⟩
theorem qStk_c {a j : Nat} (h : qStk a j) : qMc a j := qMs_c (qStk_s h)
theorem cms_end {v : Int} {x : Option (Int × zA)} (h : CMs Q inp ic B m s st pc) (f : fr qMc A B) (hx : x = some (v, B)) : LEn A x v s (mou m) := ⟨B, hx, h.2.2.1, h.1.2.2.2.2.1.1, f⟩
theorem l_0 {v : Int} (h : CMs Q inp ic A m s st pc) (hs : st.length < 4) (hv : zw v = v) : LGo Q inp ic A (z_Mc_step_56 N 0 v A) m s (st ++ [v]) pc := by
  obtain ⟨B, b1, b2, b3⟩ := c_push (N := N) h.2.1 hs hv
  unfold z_Mc_step_56
  rw [if_pos (by decide), if_pos rfl, b1, zbV_s]
  exact ⟨B, rfl, cms_sk h b2 b3, b3.mono (fun a j => qStk_c)⟩
theorem l_1 {r : Int} (h : CMs Q inp ic A m s st pc) (hs : st.length < 4) (h0 : 0 ≤ r) (h1 : r < 60) : LGo Q inp ic A (z_Mc_step_56 N 1 r A) m s (st ++ [mget m r]) pc := by
  obtain ⟨g1, g2⟩ := c_mget (N := N) h.1 h0 h1
  obtain ⟨B, b1, b2, b3⟩ := c_push (N := N) h.2.1 hs g2
  unfold z_Mc_step_56
  rw [if_pos (by decide), if_neg (by decide), if_pos rfl, g1, zbP_s, b1, zbV_s]
  exact ⟨B, rfl, cms_sk h b2 b3, b3.mono (fun a j => qStk_c)⟩
theorem l_2 {r v : Int} (h : CMs Q inp ic A m s (st ++ [v]) pc) (hs : st.length < 4) (h0 : 0 ≤ r) (h1 : r < 60) : LGo Q inp ic A (z_Mc_step_56 N 2 r A) (mset m r v) s st pc := by
  obtain ⟨B, b1, b2, b3⟩ := c_pop (N := N) h.2.1 hs
  have hB := cms_sk h b2 b3
  obtain ⟨C, c1, c2, c3⟩ := c_mset (N := N) hB.1 h0 h1 (csk_w h.2.1)
  unfold z_Mc_step_56
  rw [if_pos (by decide), if_neg (by decide), if_neg (by decide), if_pos rfl, b1, zbI_s, c1, zbV_s]
  exact ⟨C, rfl, ⟨c2, hB.2.1.fr c3 (fun a j z y => by unfold qRg at z; unfold qStk at y; omega), by rw [c3.i (fun z => by unfold qRg at z; omega)]; exact hB.2.2.1, by rw [c3.i (fun z => by unfold qRg at z; omega)]; exact hB.2.2.2⟩, (b3.mono (fun a j => qStk_c)).trans (c3.mono (fun a j => qRg_c))⟩
theorem l_w {o x y : Int} (h : CMs Q inp ic A m s (st ++ [x] ++ [y]) pc) (hs : st.length < 3) (ho : 0 ≤ o ∧ o ≤ 5) : (o = 3 ∧ y = 0 → LEn A (z_Mc_doWork N o A) 1 s (mou m)) ∧ (¬ (o = 3 ∧ y = 0) → LGo Q inp ic A (z_Mc_doWork N o A) m s (st ++ [wkO o x y]) pc) := by
  have hy := csk_w h.2.1
  obtain ⟨B, b1, b2, b3⟩ := c_pop (N := N) h.2.1 (by rw [List.length_append]; simp only [List.length_cons, List.length_nil]; omega)
  have hB := cms_sk h b2 b3
  obtain ⟨C, c1, c2, c3⟩ := c_pop (N := N) hB.2.1 (by omega)
  have hC := cms_sk hB c2 c3
  have fC := (b3.mono (fun a j => qStk_c)).trans (c3.mono (fun a j => qStk_c))
  unfold z_Mc_doWork
  rw [b1, zbI_s, c1, zbI_s]
  have wr := wkO_rg o x y
  obtain ⟨D, d1, d2, d3⟩ := c_push (N := N) hC.2.1 (by omega) (yb_w wr.1 wr.2)
  have w21 : z_Mc_doWork_21 N o y x C = some (-1, D) := by
    unfold z_Mc_doWork_21
    rw [workOf_e ho hy, zbP_s, d1, zbV_s]
  refine ⟨fun c => ?_, fun c => ?_⟩
  · rw [if_pos c.1, if_pos c.2]
    exact cms_end hC fC rfl
  · by_cases c3' : o = 3
    · rw [if_pos c3', if_neg (fun z => c ⟨c3', z⟩), w21]
      exact ⟨D, rfl, cms_sk hC d2 d3, fC.trans (d3.mono (fun a j => qStk_c))⟩
    · rw [if_neg c3', w21]
      exact ⟨D, rfl, cms_sk hC d2 d3, fC.trans (d3.mono (fun a j => qStk_c))⟩
theorem l_9 {x b : Int} (h : CMs Q inp ic A m s (st ++ [x]) pc) (hs : st.length < 4) : (x < 0 ∨ 7 < x → LEn A (z_Mc_step_56 N 9 b A) 2 s (mou m)) ∧ (¬ (x < 0 ∨ 7 < x) → LGo Q inp ic A (z_Mc_step_56 N 9 b A) m s (st ++ [mce m x.toNat]) pc) := by
  obtain ⟨B, b1, b2, b3⟩ := c_pop (N := N) h.2.1 hs
  have hB := cms_sk h b2 b3
  have fB := b3.mono (fun a j => qStk_c)
  unfold z_Mc_step_56
  rw [if_pos (by decide), if_neg (by decide), if_neg (by decide), if_neg (by decide), if_pos rfl, b1, zbI_s]
  unfold z_Mc_loadCell
  refine ⟨fun c => ?_, fun c => ?_⟩
  · by_cases c1 : x < 0
    · rw [if_pos c1, zbI_s]
      exact cms_end hB fB rfl
    · rw [if_neg c1, if_neg (by omega), zbI_s]
      exact cms_end hB fB rfl
  · rw [if_neg (by omega), if_pos (by omega), zrd_ok (by omega) (by omega)]
    have e := hB.1.2.2.2.1 x.toNat (by omega)
    rw [show ((x.toNat : Nat) : Int) = x by omega] at e
    rw [e]
    have rg := ri_rg B 217 x
    rw [e] at rg
    obtain ⟨D, d1, d2, d3⟩ := c_push (N := N) hB.2.1 hs (yb_w rg.1 rg.2)
    rw [d1, zbV_s, zbI_s]
    exact ⟨D, rfl, cms_sk hB d2 d3, fB.trans (d3.mono (fun a j => qStk_c))⟩
theorem l_10 {x y b : Int} (h : CMs Q inp ic A m s (st ++ [x] ++ [y]) pc) (hs : st.length < 3) : (x < 0 ∨ 7 < x → LEn A (z_Mc_step_56 N 10 b A) 2 s (mou m)) ∧ (¬ (x < 0 ∨ 7 < x) → LGo Q inp ic A (z_Mc_step_56 N 10 b A) (mcs m x.toNat y) s st pc) := by
  have hy := csk_w h.2.1
  obtain ⟨B, b1, b2, b3⟩ := c_pop (N := N) h.2.1 (by rw [List.length_append]; simp only [List.length_cons, List.length_nil]; omega)
  have hB := cms_sk h b2 b3
  obtain ⟨C, c1, c2, c3⟩ := c_pop (N := N) hB.2.1 (by omega)
  have hC := cms_sk hB c2 c3
  have fC := (b3.mono (fun a j => qStk_c)).trans (c3.mono (fun a j => qStk_c))
  unfold z_Mc_step_56
  rw [if_pos (by decide), if_neg (by decide), if_neg (by decide), if_neg (by decide), if_neg (by decide), if_pos rfl, b1, zbI_s, c1, zbI_s]
  unfold z_Mc_storeCell
  refine ⟨fun c => ?_, fun c => ?_⟩
  · by_cases c1 : x < 0
    · rw [if_pos c1, zbI_s]
      exact cms_end hC fC rfl
    · rw [if_neg c1, if_neg (by omega), zbI_s]
      exact cms_end hC fC rfl
  · rw [if_neg (by omega), if_pos (by omega), zwr_ok (by omega) (by omega), zbI_s]
    obtain ⟨⟨k1, h2, h3, h4, h5, h6, h7, h8⟩, g1, g2, g3⟩ := hC
    have f : fr (fun a _ => a = 217) C (rs C 217 x y) := fr_rs rfl
    have fq : fr qMc C (rs C 217 x y) := f.mono (fun a j z => by unfold qMc; omega)
    refine ⟨_, rfl, ⟨⟨k1.fr fq, fun r' hr' => by rw [f.e (fun z => by omega)]; exact h2 r' hr', fun l r' a b c => by rw [f.e (fun z => by omega)]; exact h3 l r' a b c, fun j hj => ?_, ⟨⟨by rw [f.i (fun z => by omega)]; exact h5.1.1, fun i hi => by rw [f.e (fun z => by omega)]; exact h5.1.2 i hi⟩, h5.2⟩, by rw [f.i (fun z => by omega)]; exact h6, ⟨by rw [f.i (fun z => by omega)]; exact h7.1, h7.2⟩, fun l hl => by rw [f.e (fun z => by omega)]; exact h8 l hl⟩, g1.fr f (fun a j z y => by unfold qStk at y; omega), by rw [f.i (fun z => by omega)]; exact g2, by rw [f.i (fun z => by omega)]; exact g3⟩, fC.trans fq⟩
    rw [ri_rs (by omega) (by omega)]
    show _ = if j = x.toNat then y else mce m j
    by_cases e : j = x.toNat
    · rw [if_pos (by omega), if_pos e]; exact hy
    · rw [if_neg (by omega), if_neg e]; exact h4 j hj
theorem l_11 {b : Int} (h : CMs Q inp ic A m s st pc) (hs : st.length < 4) : LGo Q inp ic A (z_Mc_step_56 N 11 b A) (mns m) s (st ++ [if mni m < ic then inp (mni m) else 0]) pc := by
  unfold z_Mc_step_56
  rw [if_pos (by decide), if_neg (by decide), if_neg (by decide), if_neg (by decide), if_neg (by decide), if_neg (by decide), if_pos rfl]
  obtain ⟨⟨k1, h2, h3, h4, h5, h6, h7, h8⟩, g1, g2, g3⟩ := h
  obtain ⟨o1, o2, o3, o4, o5⟩ := k1
  unfold z_Mc_nextInput
  rw [h6, o3]
  by_cases c : mni m < ic
  · rw [if_pos (by omega), if_pos (by omega), zlet_s, if_pos c]
    have f : fr (fun a j => a = 214 ∧ j = 5) A (zsi A 214 5 (((min (mni m) ic : Nat) : Int) + 1)) := fr_si ⟨rfl, rfl⟩
    have e5 : zi (zsi A 214 5 (((min (mni m) ic : Nat) : Int) + 1)) 214 5 = ((mni m + 1 : Nat) : Int) := by rw [zi_si_s, yb_w (by omega) (by omega)]; omega
    generalize zsi A 214 5 (((min (mni m) ic : Nat) : Int) + 1) = A1 at *
    have fq : fr qMc A A1 := f.mono (fun a j z => by unfold qMc; omega)
    rw [e5, show ((mni m + 1 : Nat) : Int) - 1 = (mni m : Int) by omega, zrd_ok (by omega) (by omega), f.e (fun z => by omega), o5 _ c, zbI_s]
    have rg := ri_rg A 215 (mni m : Int)
    rw [o5 _ c] at rg
    have k1' : CIo Q inp ic A := ⟨o1, o2, o3, o4, o5⟩
    have hA1 : CMs Q inp ic A1 (mns m) s st pc := ⟨⟨k1'.fr fq, fun r' hr' => by rw [f.e (fun z => by omega)]; exact h2 r' hr', fun l r' a b c => by rw [f.e (fun z => by omega)]; exact h3 l r' a b c, fun j hj => by rw [f.e (fun z => by omega)]; exact h4 j hj, ⟨⟨by rw [f.i (fun z => by omega)]; exact h5.1.1, fun i hi => by rw [f.e (fun z => by omega)]; exact h5.1.2 i hi⟩, h5.2⟩, by rw [e5]; show _ = ((min (mni m + 1) ic : Nat) : Int); omega, ⟨by rw [f.i (fun z => by omega)]; exact h7.1, h7.2⟩, fun l hl => by rw [f.e (fun z => by omega)]; exact h8 l hl⟩, g1.fr f (fun a j z y => by unfold qStk at y; omega), by rw [f.i (fun z => by omega)]; exact g2, by rw [f.i (fun z => by omega)]; exact g3⟩
    obtain ⟨D, d1, d2, d3⟩ := c_push (N := N) hA1.2.1 hs (yb_w rg.1 rg.2)
    rw [d1, zbV_s]
    exact ⟨D, rfl, cms_sk hA1 d2 d3, fq.trans (d3.mono (fun a j => qStk_c))⟩
  · rw [if_neg (by omega), if_neg c, zbI_s]
    have hA1 : CMs Q inp ic A (mns m) s st pc := ⟨⟨⟨o1, o2, o3, o4, o5⟩, h2, h3, h4, h5, by rw [h6]; show _ = ((min (mni m + 1) ic : Nat) : Int); omega, h7, h8⟩, g1, g2, g3⟩
    obtain ⟨D, d1, d2, d3⟩ := c_push (N := N) (v := 0) hA1.2.1 hs (by decide)
    rw [d1, zbV_s]
    exact ⟨D, rfl, cms_sk hA1 d2 d3, d3.mono (fun a j => qStk_c)⟩
theorem l_12 {v b : Int} (h : CMs Q inp ic A m s (st ++ [v]) pc) (hs : st.length < 4) (ho : (mou m).length < 40) : LGo Q inp ic A (z_Mc_step_56 N 12 b A) (mos m v) s st pc := by
  have hv := csk_w h.2.1
  obtain ⟨B, b1, b2, b3⟩ := c_pop (N := N) h.2.1 hs
  have hB := cms_sk h b2 b3
  have fB := b3.mono (fun a j => qStk_c)
  unfold z_Mc_step_56
  rw [if_pos (by decide), if_neg (by decide), if_neg (by decide), if_neg (by decide), if_neg (by decide), if_neg (by decide), if_neg (by decide), b1, zbI_s]
  obtain ⟨⟨k1, h2, h3, h4, h5, h6, h7, h8⟩, g1, g2, g3⟩ := hB
  unfold z_Mc_show
  rw [h5.1.1, if_pos (by omega), zwr_ok (by omega) (by omega), zlet_s, zbV_s]
  have f1 : fr (fun a _ => a = 216) B (rs B 216 ((mou m).length : Int) v) := fr_rs rfl
  have e3 : zi (rs B 216 ((mou m).length : Int) v) 214 3 = (mou m).length := by rw [f1.i (fun z => by omega)]; exact h5.1.1
  rw [e3]
  have f2 : fr (fun a j => a = 214 ∧ j = 3) (rs B 216 ((mou m).length : Int) v) (zsi (rs B 216 ((mou m).length : Int) v) 214 3 (((mou m).length : Int) + 1)) := fr_si ⟨rfl, rfl⟩
  have f : fr (fun a j => a = 216 ∨ (a = 214 ∧ j = 3)) B (zsi (rs B 216 ((mou m).length : Int) v) 214 3 (((mou m).length : Int) + 1)) := (f1.mono (fun a j z => Or.inl z)).trans (f2.mono (fun a j z => Or.inr z))
  have fq : fr qMc B (zsi (rs B 216 ((mou m).length : Int) v) 214 3 (((mou m).length : Int) + 1)) := f.mono (fun a j z => by unfold qMc; omega)
  have hl : (mou m ++ [v]).length = (mou m).length + 1 := by rw [List.length_append]; rfl
  refine ⟨_, rfl, ⟨⟨k1.fr fq, fun r' hr' => by rw [f.e (fun z => by omega)]; exact h2 r' hr', fun l r' a b c => by rw [f.e (fun z => by omega)]; exact h3 l r' a b c, fun j hj => by rw [f.e (fun z => by omega)]; exact h4 j hj, ⟨⟨?_, fun i hi => ?_⟩, by show (mou m ++ [v]).length ≤ 40; omega⟩, by rw [f.i (fun z => by omega)]; exact h6, ⟨by rw [f.i (fun z => by omega)]; exact h7.1, h7.2⟩, fun l hl => by rw [f.e (fun z => by omega)]; exact h8 l hl⟩, g1.fr f (fun a j z y => by unfold qStk at y; omega), by rw [f.i (fun z => by omega)]; exact g2, by rw [f.i (fun z => by omega)]; exact g3⟩, fB.trans fq⟩
  · show _ = (((mou m ++ [v]).length : Nat) : Int)
    rw [zi_si_s, yb_w (by omega) (by omega)]
    omega
  · have hi : i < (mou m ++ [v]).length := hi
    show _ = (mou m ++ [v]).getD i 0
    rw [f2.e (fun z => by omega), ri_rs (by omega) (by omega)]
    by_cases e : i = (mou m).length
    · subst e
      rw [if_pos rfl, hv, getD_app_s]
    · rw [if_neg (by omega), h5.1.2 i (by omega), getD_app_l (by omega)]
theorem cms_pc {v : Nat} (h : CMs Q inp ic A m s st pc) (hv : v < 10000) : CMs Q inp ic (zsi A 214 13 (v : Int)) m s st v ∧ fr qMc A (zsi A 214 13 (v : Int)) := by
  have f : fr (fun a j => a = 214 ∧ j = 13) A (zsi A 214 13 (v : Int)) := fr_si ⟨rfl, rfl⟩
  exact ⟨⟨h.1.fr (f.mono (fun a j z => Or.inl ⟨z.1, by omega⟩)), h.2.1.fr f (fun a j z y => by unfold qStk at y; omega), by rw [f.i (fun z => by omega)]; exact h.2.2.1, by rw [zi_si_s, yb_w (by omega) (by omega)]⟩, f.mono (fun a j z => by unfold qMc; omega)⟩
theorem l_13 {x : Int} {v : Nat} (h : CMs Q inp ic A m s (st ++ [x]) pc) (hs : st.length < 4) (hv : v < 10000) : LGo Q inp ic A (z_Mc_step_56 N 13 v A) m s st (if x = 0 then v else pc) := by
  obtain ⟨B, b1, b2, b3⟩ := c_pop (N := N) h.2.1 hs
  have hB := cms_sk h b2 b3
  have fB := b3.mono (fun a j => qStk_c)
  unfold z_Mc_step_56
  rw [if_neg (by decide)]
  unfold z_Mc_turn
  rw [if_pos rfl, b1, zbI_s]
  by_cases e : x = 0
  · rw [if_pos e, if_pos e, zlet_s, zbI_s]
    obtain ⟨p1, p2⟩ := cms_pc hB hv
    exact ⟨_, rfl, p1, fB.trans p2⟩
  · rw [if_neg e, if_neg e, zbI_s]
    exact ⟨_, rfl, hB, fB⟩
theorem l_14 {v : Nat} (h : CMs Q inp ic A m s st pc) (hv : v < 10000) : LGo Q inp ic A (z_Mc_step_56 N 14 v A) m s st v := by
  unfold z_Mc_step_56
  rw [if_neg (by decide)]
  unfold z_Mc_turn
  rw [if_neg (by decide), if_pos rfl, zlet_s, zbI_s]
  obtain ⟨p1, p2⟩ := cms_pc h hv
  exact ⟨_, rfl, p1, p2⟩
theorem l_15 {v p k : Nat} (hN : 300000 ≤ N) (h : CMs Q inp ic A m s st pc) (hv : v < 10000) (hl : mlv m < 3) (hp : pc = adr Q p k) (hp2 : pc < 10000) : LGo Q inp ic A (z_Mc_step_56 N 15 v A) (men0 m p k) s st v := by
  unfold z_Mc_step_56
  rw [if_neg (by decide)]
  unfold z_Mc_turn
  rw [if_neg (by decide), if_neg (by decide), if_pos rfl]
  obtain ⟨⟨k1, h2, h3, h4, h5, h6, h7, h8⟩, g1, g2, g3⟩ := h
  unfold z_Mc_enter
  rw [h7.1, yb_w (by omega) (by omega), if_pos (by omega), zwr_ok (by omega) (by omega), zlet_s]
  have f1 : fr (fun a _ => a = 224) A (rs A 224 (mlv m : Int) (zi A 214 13)) := fr_rs rfl
  have e10 : zi (rs A 224 (mlv m : Int) (zi A 214 13)) 214 10 = mlv m := by rw [f1.i (fun z => by omega)]; exact h7.1
  rw [e10]
  have v24 : ∀ l : Nat, l < mlv m + 1 → ri (rs A 224 (mlv m : Int) (zi A 214 13)) 224 l = (adr Q (if l = mlv m then (p, k) else mrt m l).1 (if l = mlv m then (p, k) else mrt m l).2 : Int) := fun l hl => by
    rw [ri_rs (by omega) (by omega)]
    by_cases e : l = mlv m
    · rw [if_pos (by omega), if_pos e, g3, yb_w (by omega) (by omega), hp]
    · rw [if_neg (by omega), if_neg e]
      exact h8 l (by omega)
  generalize rs A 224 (mlv m : Int) (zi A 214 13) = A1 at *
  have f2 : fr (fun a j => a = 214 ∧ j = 10) A1 (zsi A1 214 10 ((mlv m : Int) + 1)) := fr_si ⟨rfl, rfl⟩
  have w10 : zi (zsi A1 214 10 ((mlv m : Int) + 1)) 214 10 = ((mlv m + 1 : Nat) : Int) := by rw [zi_si_s, yb_w (by omega) (by omega)]; omega
  rw [w10, zfe_m (by omega)]
  generalize zsi A1 214 10 ((mlv m : Int) + 1) = A2 at *
  have f12 : fr (fun a j => a = 224 ∨ (a = 214 ∧ j = 10)) A A2 := (f1.mono (fun a j z => Or.inl z)).trans (f2.mono (fun a j z => Or.inr z))
  have k2 := k1.fr (f12.mono (Q' := qMc) (fun a j z => by unfold qMc; omega))
  obtain ⟨B, b1, b2, b3⟩ := Ar_fill (N := N) (v := 0) hN (zsh_m (r := mlv m + 1) (by omega)) (by omega) (by decide) k2.1
  have f3 : fr (fun a _ => a = 220 + (mlv m + 1)) A2 B := ⟨b2.1, b2.2.1, fun a j z => ⟨b2.2.2.1 a j z, b2.2.2.2 a j z⟩⟩
  have f : fr (fun a j => a = 220 + (mlv m + 1) ∨ a = 224 ∨ (a = 214 ∧ j = 10)) A B := (f12.mono (fun a j z => Or.inr z)).trans (f3.mono (fun a j z => Or.inl z))
  have fq : fr qMc A B := f.mono (fun a j z => by unfold qMc; omega)
  rw [b1, zbV_s, zlet_s, zbV_s, zbI_s]
  have hB : CMs Q inp ic B (men0 m p k) s st pc := by
    refine ⟨⟨k1.fr fq, fun r' hr' => by rw [f.e (fun z => by omega)]; exact h2 r' hr', fun l r' a b c => ?_, fun j hj => by rw [f.e (fun z => by omega)]; exact h4 j hj, ⟨⟨by rw [f.i (fun z => by omega)]; exact h5.1.1, fun i hi => by rw [f.e (fun z => by omega)]; exact h5.1.2 i hi⟩, h5.2⟩, by rw [f.i (fun z => by omega)]; exact h6, ⟨by rw [f3.i (fun z => by omega)]; exact w10, by show mlv m + 1 ≤ 3; omega⟩, fun l hl' => by rw [f3.e (fun z => by omega), f2.e (fun z => by omega)]; exact v24 l hl'⟩, g1.fr f (fun a j z y => by unfold qStk at y; omega), by rw [f.i (fun z => by omega)]; exact g2, by rw [f.i (fun z => by omega)]; exact g3⟩
    have a : l ≤ mlv m + 1 := a
    show _ = (if l = mlv m + 1 then (fun _ => 0) else mfr m l) r'
    by_cases e : l = mlv m + 1
    · subst e
      rw [if_pos rfl, b3 r' (by omega)]
      decide
    · rw [if_neg e, f.e (fun z => by omega)]
      exact h3 l r' (by omega) b c
  obtain ⟨p1, p2⟩ := cms_pc hB hv
  exact ⟨_, rfl, p1, fq.trans p2⟩
theorem l_16 {b : Int} (h : CMs Q inp ic A m s st pc) (hl : 0 < mlv m) (hv : adr Q (mrt m (mlv m - 1)).1 (mrt m (mlv m - 1)).2 < 10000) : LGo Q inp ic A (z_Mc_step_56 N 16 b A) (mlf m) s st (adr Q (mrt m (mlv m - 1)).1 (mrt m (mlv m - 1)).2) := by
  unfold z_Mc_step_56
  rw [if_neg (by decide)]
  unfold z_Mc_turn
  rw [if_neg (by decide), if_neg (by decide), if_neg (by decide), if_pos rfl]
  obtain ⟨⟨k1, h2, h3, h4, h5, h6, h7, h8⟩, g1, g2, g3⟩ := h
  unfold z_Mc_leave
  rw [h7.1, if_pos (by omega), zlet_s]
  have h73 := h7.2
  have f : fr (fun a j => a = 214 ∧ j = 10) A (zsi A 214 10 ((mlv m : Int) - 1)) := fr_si ⟨rfl, rfl⟩
  have w10 : zi (zsi A 214 10 ((mlv m : Int) - 1)) 214 10 = ((mlv m - 1 : Nat) : Int) := by rw [zi_si_s, yb_w (by omega) (by omega)]; omega
  rw [w10, zrd_ok (by omega) (by omega), f.e (fun z => by omega), h8 _ (by omega), zlet_s, zbV_s, zbI_s]
  generalize zsi A 214 10 ((mlv m : Int) - 1) = A2 at *
  have fq : fr qMc A A2 := f.mono (fun a j z => by unfold qMc; omega)
  have hB : CMs Q inp ic A2 (mlf m) s st pc := ⟨⟨k1.fr fq, fun r' hr' => by rw [f.e (fun z => by omega)]; exact h2 r' hr', fun l r' a b c => by rw [f.e (fun z => by omega)]; have a : l ≤ mlv m - 1 := a; exact h3 l r' (by omega) b c, fun j hj => by rw [f.e (fun z => by omega)]; exact h4 j hj, ⟨⟨by rw [f.i (fun z => by omega)]; exact h5.1.1, fun i hi => by rw [f.e (fun z => by omega)]; exact h5.1.2 i hi⟩, h5.2⟩, by rw [f.i (fun z => by omega)]; exact h6, ⟨w10, by show mlv m - 1 ≤ 3; omega⟩, fun l hl => by rw [f.e (fun z => by omega)]; have hl : l < mlv m - 1 := hl; exact h8 l (by omega)⟩, g1.fr f (fun a j z y => by unfold qStk at y; omega), by rw [f.i (fun z => by omega)]; exact g2, by rw [f.i (fun z => by omega)]; exact g3⟩
  obtain ⟨p1, p2⟩ := cms_pc hB hv
  exact ⟨_, rfl, p1, fq.trans p2⟩
theorem l_17 {b : Int} (h : CMs Q inp ic A m s st pc) : LEn A (z_Mc_step_56 N 17 b A) 0 s (mou m) := by
  unfold z_Mc_step_56
  rw [if_neg (by decide)]
  unfold z_Mc_turn
  rw [if_neg (by decide), if_neg (by decide), if_neg (by decide), if_neg (by decide), zbI_s]
  exact cms_end h (fr.refl _ _) rfl
end
