/-! RUN of the class -/
def mcls : List Nat := (List.range 12).map (fun r => 214 + r)
theorem mcls_mem {a : Nat} : mcls.contains a = true ↔ 214 ≤ a ∧ a ≤ 225 := by
  unfold mcls
  rw [List.contains_iff_mem, List.mem_map]
  constructor
  · rintro ⟨r, h, rfl⟩
    have := List.mem_range.mp h
    omega
  · intro h
    exact ⟨a - 214, List.mem_range.mpr (by omega), by omega⟩
theorem mcls_n {a : Nat} (h : a < 214 ∨ 225 < a) : mcls.contains a = false := nc_of (fun q => by have := mcls_mem.mp q; omega)
theorem fx_mc : ∀ r, r < 12 → fx (214 + r) = true := by decide
theorem fx_mc' {a : Nat} (h : 214 ≤ a) (h2 : a ≤ 225) : fx a = true := by
  have := fx_mc (a - 214) (by omega)
  rw [show 214 + (a - 214) = a by omega] at this
  exact this
theorem frc_cF {A B : zA} {Q : Nat → Nat → Prop} (f : fr Q A B) (hq : ∀ a j, Q a j → 214 ≤ a ∧ a ≤ 225) (h : Own A) : cF mcls A B := by
  obtain ⟨f1, f2, f3⟩ := f
  have mr : ∀ a j, zmr B a j = zmr A a j := fun a j => by unfold zmr; rw [f2]
  have hc : ∀ o f, yc B o f = yc A o f := fun o f => by unfold yc; rw [mr]
  have hl : ∀ o f, yl B o f = yl A o f := fun o f => by unfold yl; rw [hc, f1]
  have hO : Own B := by
    obtain ⟨o1, o2, o3, o4⟩ := h
    refine ⟨fun a s hs => by rw [f1]; exact o1 a s hs, fun o f c hd hm => ?_, fun o f ho hf => ?_, fun o f o' f' c hd hd' hm hm' => ?_⟩
    · rw [mr] at hm; rw [f1]; exact o2 o f c hd hm
    · obtain ⟨c, hc⟩ := o3 o f ho hf; exact ⟨c, by rw [mr]; exact hc⟩
    · rw [mr] at hm hm'; exact o4 o f o' f' c hd hd' hm hm'
  refine ⟨hO, ?_, fun a j ha hs => ?_, fun o g hd hs => ⟨hl o g, fun e => ?_⟩⟩
  · have e0 : big B = big A := by unfold big; rw [f1]
    have e1 : tot B = tot A := by unfold tot; rw [e0]
    have e2 : sy B = sy A := by unfold sy; simp only [hl]
    have e3 : ∀ o f, t1 B o f = t1 A o f := fun o f => by unfold t1; rw [mr]
    have e4 : ty B = ty A := by unfold ty; simp only [e3]
    exact ⟨⟨by rw [e1, e2, e4]; exact Int.le_refl _, by rw [e0, e2, e4]; exact Int.le_refl _⟩, fun _ => by unfold smc; rw [f1], fun s z => by rw [f1]; exact z⟩
  · have hn : ¬ Q a j := fun q => by
      have := hq a j q
      rw [mcls_mem.mpr (by omega)] at hs
      cases hs
    exact ⟨(f3 a j hn).1, (f3 a j hn).2, mr a j⟩
  · unfold yv ri
    rw [hc]
    unfold zi
    rw [(f3 _ _ (fun q => by
      have := hq _ _ q
      have hne := h.ne3 hd (fx_mc' (a := yc A o g) (by omega) (by omega)) (by omega)
      exact hne rfl)).1]
def qMc (a j : Nat) : Prop := (a = 214 ∧ (j = 3 ∨ j = 4 ∨ j = 5 ∨ j = 10 ∨ j = 12 ∨ j = 13)) ∨ (216 ≤ a ∧ a ≤ 218) ∨ (220 ≤ a ∧ a ≤ 225)
/-- steps, stack and place -/
def qMs (a j : Nat) : Prop := (a = 214 ∧ (j = 4 ∨ j = 12 ∨ j = 13)) ∨ a = 225
def CIo (Q : Pr) (inp : Nat → Int) (ic : Nat) (A : zA) : Prop := Own A ∧ CCd A (cod Q) ∧ zi A 214 1 = ic ∧ ic ≤ 20 ∧ ∀ i : Nat, i < ic → ri A 215 i = inp i
def COu (A : zA) (ou : List Int) : Prop := zi A 214 3 = ou.length ∧ ∀ i : Nat, i < ou.length → ri A 216 i = ou.getD i 0
def CG (Q : Pr) (inp : Nat → Int) (ic : Nat) (A : zA) (m : Ms) : Prop :=
  CIo Q inp ic A ∧ (∀ r : Nat, r < 6 → ri A 218 r = mgl m r) ∧ (∀ l r : Nat, l ≤ mlv m → 6 ≤ r → r < 60 → ri A (220 + l) r = mfr m l r) ∧ (∀ j : Nat, j < 8 → ri A 217 j = mce m j) ∧ (COu A (mou m) ∧ (mou m).length ≤ 40) ∧ zi A 214 5 = ((min (mni m) ic : Nat) : Int) ∧ (zi A 214 10 = mlv m ∧ mlv m ≤ 3) ∧ (∀ l : Nat, l < mlv m → ri A 224 l = (adr Q (mrt m l).1 (mrt m l).2 : Int))
def CSk (A : zA) (st : List Int) : Prop := zi A 214 12 = st.length ∧ ∀ i : Nat, i < st.length → ri A 225 i = st.getD i 0
def CMs (Q : Pr) (inp : Nat → Int) (ic : Nat) (A : zA) (m : Ms) (s : Nat) (st : List Int) (pc : Nat) : Prop := CG Q inp ic A m ∧ CSk A st ∧ zi A 214 4 = s ∧ zi A 214 13 = pc
section
variable {N : Nat} {A B : zA} {Q : Pr} {inp : Nat → Int} {ic T s pc : Nat} {m : Ms} {st : List Int}
theorem CIo.fr (h : CIo Q inp ic A) (f : fr qMc A B) : CIo Q inp ic B := by
  have c := frc_cF f (fun a j z => by unfold qMc at z; omega) h.1
  exact ⟨c.own, h.2.1.fr c (mcls_n (by omega)), by rw [f.i (fun z => by unfold qMc at z; omega)]; exact h.2.2.1, h.2.2.2.1, fun i hi => by rw [f.e (fun z => by unfold qMc at z; omega)]; exact h.2.2.2.2 i hi⟩
theorem qMs_c {a j : Nat} (h : qMs a j) : qMc a j := by unfold qMs at h; unfold qMc; omega
theorem CG.fr (h : CG Q inp ic A m) (f : fr qMs A B) : CG Q inp ic B m := by
  obtain ⟨h1, h2, h3, h4, h5, h6, h7, h8⟩ := h
  refine ⟨h1.fr (f.mono (fun a j => qMs_c)), fun r hr => ?_, fun l r a b c => ?_, fun j hj => ?_, ⟨⟨?_, fun i hi => ?_⟩, h5.2⟩, ?_, ⟨?_, h7.2⟩, fun l hl => ?_⟩
  · rw [f.e (fun z => by unfold qMs at z; omega)]; exact h2 r hr
  · rw [f.e (fun z => by unfold qMs at z; omega)]; exact h3 l r a b c
  · rw [f.e (fun z => by unfold qMs at z; omega)]; exact h4 j hj
  · rw [f.i (fun z => by unfold qMs at z; omega)]; exact h5.1.1
  · rw [f.e (fun z => by unfold qMs at z; omega)]; exact h5.1.2 i hi
  · rw [f.i (fun z => by unfold qMs at z; omega)]; exact h6
  · rw [f.i (fun z => by unfold qMs at z; omega)]; exact h7.1
  · rw [f.e (fun z => by unfold qMs at z; omega)]; exact h8 l hl
/-- the stack alone -/
def qStk (a j : Nat) : Prop := (a = 214 ∧ j = 12) ∨ a = 225
theorem qStk_s {a j : Nat} (h : qStk a j) : qMs a j := by unfold qStk at h; unfold qMs; omega
theorem getD_app_l {l r : List Int} {i : Nat} (h : i < l.length) : (l ++ r).getD i 0 = l.getD i 0 := by
  rw [List.getD_eq_getElem?_getD, List.getD_eq_getElem?_getD, List.getElem?_append_left h]
theorem getD_app_s {l : List Int} {v : Int} : (l ++ [v]).getD l.length 0 = v := by
  rw [List.getD_eq_getElem?_getD, List.getElem?_append_right (Nat.le_refl _), Nat.sub_self]
  rfl
theorem c_push {v : Int} (h : CSk A st) (hs : st.length < 4) (hv : zw v = v) : ∃ B, z_Mc_push N v A = some B ∧ CSk B (st ++ [v]) ∧ fr qStk A B := by
  unfold z_Mc_push
  rw [h.1, if_pos (by omega), zwr_ok (by omega) (by omega), zlet_s]
  have f : fr (fun a j => a = 214 ∧ j = 12) (rs A 225 (st.length : Int) v) (zsi (rs A 225 (st.length : Int) v) 214 12 (zi (rs A 225 (st.length : Int) v) 214 12 + 1)) := fr_si ⟨rfl, rfl⟩
  refine ⟨_, rfl, ⟨?_, fun i hi => ?_⟩, (fr_rs (Or.inr rfl)).trans (fr_si (Or.inl ⟨rfl, rfl⟩))⟩
  · rw [zi_si_s, zi_rs_o (by decide), h.1, yb_w (by omega) (by omega), List.length_append]
    simp only [List.length_cons, List.length_nil]
    omega
  · rw [List.length_append] at hi
    simp only [List.length_cons, List.length_nil] at hi
    rw [f.e (fun z => by omega), ri_rs (by omega) (by omega)]
    by_cases e : i = st.length
    · subst e
      rw [if_pos rfl, hv, getD_app_s]
    · rw [if_neg (by omega), h.2 i (by omega), getD_app_l (by omega)]
theorem c_pop {v : Int} (h : CSk A (st ++ [v])) (hs : st.length < 4) : ∃ B, z_Mc_pop N A = some (v, B) ∧ CSk B st ∧ fr qStk A B := by
  have hl : (st ++ [v]).length = st.length + 1 := by rw [List.length_append]; rfl
  have h1 := h.1
  rw [hl] at h1
  unfold z_Mc_pop
  rw [h1, if_pos (by omega), zlet_s]
  have f : fr (fun a j => a = 214 ∧ j = 12) A (zsi A 214 12 (((st.length + 1 : Nat) : Int) - 1)) := fr_si ⟨rfl, rfl⟩
  have e12 : zi (zsi A 214 12 (((st.length + 1 : Nat) : Int) - 1)) 214 12 = (st.length : Int) := by rw [zi_si_s, yb_w (by omega) (by omega)]; omega
  rw [e12, zrd_ok (by omega) (by omega), f.e (fun z => by omega), h.2 st.length (by omega), getD_app_s]
  exact ⟨_, rfl, ⟨e12, fun i hi => by rw [f.e (fun z => by omega), h.2 i (by omega), getD_app_l hi]⟩, f.mono (fun a j z => Or.inl z)⟩
theorem csk_w {v : Int} (h : CSk A (st ++ [v])) : zw v = v := by
  have := h.2 st.length (by rw [List.length_append]; exact Nat.lt_succ_self _)
  rw [getD_app_s] at this
  rw [← this]
  have := ri_rg A 225 (st.length : Int)
  exact yb_w this.1 this.2
theorem zfe_m {R : Type} {r : Nat} {K : Nat → Option R} (hr : r < 4) : zfe 219 r K = K (220 + r) := by
  rcases (show r = 0 ∨ r = 1 ∨ r = 2 ∨ r = 3 by omega) with rfl | rfl | rfl | rfl <;> rfl
theorem zsh_m {r : Nat} (hr : r < 4) : zsh (220 + r) = some (true, 0, 60) := by
  rcases (show r = 0 ∨ r = 1 ∨ r = 2 ∨ r = 3 by omega) with rfl | rfl | rfl | rfl <;> rfl
theorem c_mget {r : Int} (h : CG Q inp ic A m) (h0 : 0 ≤ r) (h1 : r < 60) : z_Mc_get N r A = some (mget m r) ∧ zw (mget m r) = mget m r := by
  obtain ⟨k1, h2, h3, -, -, -, h7, -⟩ := h
  unfold z_Mc_get mget
  rw [if_neg (by omega), if_pos h1]
  by_cases c : r < 6
  · rw [if_pos c, if_pos c, zrd_ok h0 (by omega)]
    have := h2 r.toNat (by omega)
    rw [show ((r.toNat : Nat) : Int) = r by omega] at this
    rw [← this]
    have := ri_rg A 218 r
    exact ⟨rfl, yb_w this.1 this.2⟩
  · rw [if_neg c, if_neg c, h7.1, zfe_m (by omega), zrD_f k1.1 (zsh_m (by omega)) h0 (by omega)]
    have := h3 (mlv m) r.toNat (Nat.le_refl _) (by omega) (by omega)
    rw [show ((r.toNat : Nat) : Int) = r by omega] at this
    rw [← this]
    have := ri_rg A (220 + mlv m) r
    exact ⟨rfl, yb_w this.1 this.2⟩
/-- registers alone -/
def qRg (a _j : Nat) : Prop := a = 218 ∨ (220 ≤ a ∧ a ≤ 223)
theorem qRg_c {a j : Nat} (h : qRg a j) : qMc a j := by unfold qRg at h; unfold qMc; omega
theorem c_mset {r v : Int} (h : CG Q inp ic A m) (h0 : 0 ≤ r) (h1 : r < 60) (hv : zw v = v) : ∃ B, z_Mc_set N r v A = some B ∧ CG Q inp ic B (mset m r v) ∧ fr qRg A B := by
  obtain ⟨k1, h2, h3, h4, h5, h6, h7, h8⟩ := h
  unfold z_Mc_set z_Mc_set_20 mset
  rw [if_neg (by omega)]
  by_cases c : r < 6
  · rw [if_pos c, if_pos c, zwr_ok h0 (by omega)]
    have f : fr (fun a _ => a = 218) A (rs A 218 r v) := fr_rs rfl
    have fq : fr qRg A (rs A 218 r v) := f.mono (fun a j z => Or.inl z)
    refine ⟨_, rfl, ⟨k1.fr (fq.mono (fun a j => qRg_c)), fun r' hr' => ?_, fun l r' a b c => by rw [f.e (fun z => by omega)]; exact h3 l r' a b c, fun j hj => by rw [f.e (fun z => by omega)]; exact h4 j hj, ⟨⟨by rw [f.i (fun z => by omega)]; exact h5.1.1, fun i hi => by rw [f.e (fun z => by omega)]; exact h5.1.2 i hi⟩, h5.2⟩, by rw [f.i (fun z => by omega)]; exact h6, ⟨by rw [f.i (fun z => by omega)]; exact h7.1, h7.2⟩, fun l hl => by rw [f.e (fun z => by omega)]; exact h8 l hl⟩, fq⟩
    rw [ri_rs h0 (by omega)]
    show _ = if r' = r.toNat then v else mgl m r'
    by_cases e : r' = r.toNat
    · rw [if_pos (by omega), if_pos e]; exact hv
    · rw [if_neg (by omega), if_neg e]; exact h2 r' hr'
  · rw [if_neg c, if_neg c, if_neg c, if_pos h1, h7.1, zfe_m (by omega), zwD_f k1.1 (zsh_m (by omega)) (by omega) h0 (by omega)]
    have hl3 := h7.2
    have f : fr (fun a _ => a = 220 + mlv m) A (rs A (220 + mlv m) r v) := fr_rs rfl
    have fq : fr qRg A (rs A (220 + mlv m) r v) := f.mono (fun a j z => Or.inr (by omega))
    refine ⟨_, rfl, ⟨k1.fr (fq.mono (fun a j => qRg_c)), fun r' hr' => by rw [f.e (fun z => by omega)]; exact h2 r' hr', fun l r' a b c' => ?_, fun j hj => by rw [f.e (fun z => by omega)]; exact h4 j hj, ⟨⟨by rw [f.i (fun z => by omega)]; exact h5.1.1, fun i hi => by rw [f.e (fun z => by omega)]; exact h5.1.2 i hi⟩, h5.2⟩, by rw [f.i (fun z => by omega)]; exact h6, ⟨by rw [f.i (fun z => by omega)]; exact h7.1, h7.2⟩, fun l hl => by rw [f.e (fun z => by omega)]; exact h8 l hl⟩, fq⟩
    have a : l ≤ mlv m := a
    show _ = (if l = mlv m then fU (mfr m l) r.toNat v else mfr m l) r'
    by_cases e : l = mlv m
    · subst e
      rw [if_pos rfl, ri_rs (by omega) (by omega)]
      show _ = if r' = r.toNat then v else mfr m (mlv m) r'
      by_cases e2 : r' = r.toNat
      · rw [if_pos (by omega), if_pos e2]; exact hv
      · rw [if_neg (by omega), if_neg e2]; exact h3 (mlv m) r' a b c'
    · rw [if_neg e, f.e (fun z => by omega)]; exact h3 l r' a b c'
end
