/-! leaves that circle; when two walks said the same -/
def tAll (Q : Int → Int → Prop) : T → Prop
  | .nest k f => (if k = 7 then (match f with
      | .nest w (.append (.nest r _) _) => Q w r
      | _ => True) else True) ∧ tAll Q f
  | .append f g => tAll Q f ∧ tAll Q g
  | _ => True
theorem tAll_mono {Q Q' : Int → Int → Prop} (h : ∀ w r, Q w r → Q' w r) : ∀ u : T, tAll Q u → tAll Q' u
  | .nest k f, hu => by
    unfold tAll at hu ⊢
    refine ⟨?_, tAll_mono h f hu.2⟩
    have h1 := hu.1
    split
    · rename_i hk
      rw [if_pos hk] at h1
      split
      · exact h _ _ h1
      · trivial
    · trivial
  | .append f g, hu => by
    unfold tAll at hu ⊢
    exact ⟨tAll_mono h f hu.1, tAll_mono h g hu.2⟩
  | .nil, _ => by unfold tAll; trivial
  | .line, _ => by unfold tAll; trivial
  | .align _, _ => by unfold tAll; trivial
  | .text _, _ => by unfold tAll; trivial
  | .group _ _, _ => by unfold tAll; trivial
  | .tag _ _, _ => by unfold tAll; trivial
section
variable {Q : Int → Int → Prop}
theorem tAll_nd {k x : Int} {l m r : T} (hk : k ≠ 7) (hx : ∀ w f, x = 7 → l ≠ .nest w f) : tAll Q (tnd k x l m r) ↔ tAll Q l ∧ tAll Q m ∧ tAll Q r := by
  unfold tnd
  simp only [tAll]
  rw [if_neg hk]
  simp
theorem tAll_num (v : Int) : tAll Q (tNum v) := by
  unfold tNum tnd
  simp only [tAll]
  simp
theorem tAll_fst : tAll Q tFst := by
  unfold tFst tnd
  simp only [tAll]
  simp
theorem tAll_inp (v : Int) : tAll Q (tInp v) := by
  unfold tInp tnd
  simp only [tAll]
  simp
theorem tAll_wrk {o : Int} {s t : T} : tAll Q (tWrk o s t) ↔ tAll Q s ∧ tAll Q t := by
  unfold tWrk tnd
  simp only [tAll]
  simp
theorem tAll_lod {s t : T} : tAll Q (tLod s t) ↔ tAll Q s ∧ tAll Q t := by
  unfold tLod tnd
  simp only [tAll]
  simp
theorem tAll_sto {s t u : T} : tAll Q (tSto s t u) ↔ tAll Q s ∧ tAll Q t ∧ tAll Q u := by
  unfold tSto tnd
  simp only [tAll]
  simp
theorem tAll_cho {s t u : T} : tAll Q (tCho s t u) ↔ tAll Q s ∧ tAll Q t ∧ tAll Q u := by
  unfold tCho tnd
  simp only [tAll]
  simp
theorem tAll_cir {w r : Int} : tAll Q (tCir w r) ↔ Q w r := by
  unfold tCir tnd
  simp only [tAll]
  simp
end
def LV (Q : Int → Int → Prop) (s : St) : Prop := (∀ i, tAll Q (s.1 i)) ∧ (∀ q ∈ s.2.1, ∀ u, q.2 = some u → tAll Q u) ∧ (∀ q ∈ s.2.2.2.2.2, tAll Q q.2.2.1 ∧ tAll Q q.2.2.2)
def QU (cc : List (Int × Nat × T × T)) (Q : Int → Int → Prop) (w r : Int) : Prop := Q w r ∨ ∃ q ∈ cc, q.1 = w ∧ (q.2.1 : Int) = r
theorem LV.mono {Q Q' : Int → Int → Prop} {s : St} (h : LV Q s) (hq : ∀ w r, Q w r → Q' w r) : LV Q' s := ⟨fun i => tAll_mono hq _ (h.1 i), fun q hq' u hu => tAll_mono hq _ (h.2.1 q hq' u hu), fun q hq' => ⟨tAll_mono hq _ (h.2.2 q hq').1, tAll_mono hq _ (h.2.2 q hq').2⟩⟩
def LVR (R : Bool → Nat → Nat → Nat → St → St) : Prop := ∀ p a b s Q, LV Q s → LV (QU (R false p a b s).2.2.2.2.2 Q) (R false p a b s)
section
variable {Q : Int → Int → Prop} {s : St}
theorem LV_say {w : Int} {x : Option T} (h : LV Q s) (hx : ∀ u, x = some u → tAll Q u) : LV Q (sSay false w x s) := by
  refine ⟨h.1, fun q hq u hu => ?_, h.2.2⟩
  have hq : q ∈ s.2.1 ++ [(w, x)] := hq
  rcases List.mem_append.mp hq with hq | hq
  · exact h.2.1 q hq u hu
  · rw [List.mem_singleton] at hq
    subst hq
    exact hx u hu
theorem LV_set {r : Nat} {u : T} (h : LV Q s) (hu : tAll Q u) : LV Q (sSet r u s) := by
  refine ⟨fun i => ?_, h.2.1, h.2.2⟩
  show tAll Q (if i = r then u else s.1 i)
  split
  · exact hu
  · exact h.1 i
theorem LV_dem {w : Int} {u : T} (h : LV Q s) (hu : tAll Q u) : LV Q (sDem false w u s) ∧ (sDem false w u s).1 = s.1 := by
  unfold sDem
  simp only [Bool.false_eq_true, if_false]
  by_cases q : (w, u) ∈ s.2.2.1
  · rw [cif_pos q]; exact ⟨h, rfl⟩
  · rw [cif_neg q]
    refine ⟨⟨h.1, fun p hp v hv => ?_, h.2.2⟩, rfl⟩
    have hp : p ∈ s.2.1 ++ [(w, some u)] := hp
    rcases List.mem_append.mp hp with hp | hp
    · exact h.2.1 p hp v hv
    · rw [List.mem_singleton] at hp
      subst hp
      cases hv
      exact hu
theorem LV_cel {u : T} (h : LV Q s) (hu : tAll Q u) : LV Q (sCel false u s) := by
  unfold sCel
  split
  · exact h
  · exact (LV_dem h hu).1
theorem LV_pl {P : Pg} {p k : Nat} (h : LV Q s) : LV Q (plS P false p k s) := by
  unfold plS
  repeat' split
  · exact LV_set h (tAll_num _)
  · exact LV_set h (h.1 _)
  · refine LV_set ?_ ?_
    · unfold sDiv
      split
      · exact (LV_dem h (h.1 _)).1
      · exact h
    · unfold wkT
      split
      · exact tAll_num _
      · exact tAll_wrk.mpr ⟨h.1 _, h.1 _⟩
  · exact LV_set (LV_cel h (h.1 _)) (tAll_lod.mpr ⟨h.1 _, h.1 _⟩)
  · exact LV_set (LV_cel h (h.1 _)) (tAll_sto.mpr ⟨h.1 _, h.1 _, h.1 _⟩)
  · exact LV_set (LV_say h (fun u hu => by cases hu)) (tAll_inp _)
  · exact LV_say h (fun u hu => by cases hu; exact h.1 _)
theorem QU_of {cc : List (Int × Nat × T × T)} : ∀ w r, Q w r → QU cc Q w r := fun _ _ h => Or.inl h
theorem QU_sub {cc cc' : List (Int × Nat × T × T)} {Q' : Int → Int → Prop} (h : ∀ q ∈ cc, q ∈ cc') (hq : ∀ w r, Q w r → QU cc' Q' w r) : ∀ w r, QU cc Q w r → QU cc' Q' w r := fun w r h' => by
  rcases h' with h' | ⟨q, q1, q2⟩
  · exact hq w r h'
  · exact Or.inr ⟨q, h q q1, q2⟩
theorem MX.sub {s s' : St} (h : MX s s') : ∀ q ∈ s.2.2.2.2.2, q ∈ s'.2.2.2.2.2 := fun q hq => by
  obtain ⟨-, x, hx, -⟩ := h
  rw [hx]
  exact List.mem_append.mpr (Or.inl hq)
theorem LV_if {P : Pg} {R : Bool → Nat → Nat → Nat → St → St} (hR : LVR R) (hM : RM R) {p a : Nat} (h : LV Q s) : LV (QU (ifS P R false p a s).2.2.2.2.2 Q) (ifS P R false p a s) := by
  unfold ifS
  simp only
  split
  · split
    · exact hR _ _ _ _ _ h
    · exact hR _ _ _ _ _ h
  · have h0 : LV Q (sSay false 4 (some (s.1 (P.2.1 p a 0).toNat)) s) := LV_say h (fun u hu => by cases hu; exact h.1 _)
    have h1 := hR p (a + 1) (P.2.2.1 p a) _ Q h0
    generalize R false p (a + 1) (P.2.2.1 p a) (sSay false 4 (some (s.1 (P.2.1 p a 0).toNat)) s) = s1 at *
    have h2 : LV (QU s1.2.2.2.2.2 Q) (s.1, s1.2.1, s.2.2.1, s1.2.2.2) := ⟨fun i => tAll_mono QU_of _ (h.1 i), h1.2.1, h1.2.2⟩
    have h3 := LV_say (w := 5) (x := none) h2 (fun u hu => by cases hu)
    have h4 := hR p (P.2.2.1 p a + 1) (P.2.2.1 p (P.2.2.1 p a)) _ _ h3
    have m4 := hM false p (P.2.2.1 p a + 1) (P.2.2.1 p (P.2.2.1 p a)) (sSay false 5 none (s.1, s1.2.1, s.2.2.1, s1.2.2.2))
    have m5 := m4.sub
    rw [say22.1] at m5
    generalize R false p (P.2.2.1 p a + 1) (P.2.2.1 p (P.2.2.1 p a)) (sSay false 5 none (s.1, s1.2.1, s.2.2.1, s1.2.2.2)) = s2 at *
    have sub1 : ∀ w r, QU s1.2.2.2.2.2 Q w r → QU s2.2.2.2.2.2 Q w r := QU_sub m5 QU_of
    have sub2 : ∀ w r, QU s2.2.2.2.2.2 (QU s1.2.2.2.2.2 Q) w r → QU s2.2.2.2.2.2 Q w r := QU_sub (fun q hq => hq) sub1
    have h5 := h4.mono sub2
    have e : (sSay false 8 none (sJoin (s.1 (P.2.1 p a 0).toNat) s1.1 s2.1, s2.2.1, s.2.2.1, s2.2.2.2)).2.2.2.2.2 = s2.2.2.2.2.2 := by rw [say22.1]
    rw [e]
    refine LV_say ⟨fun i => ?_, h5.2.1, h5.2.2⟩ (fun u hu => by cases hu)
    show tAll _ (sJoin (s.1 (P.2.1 p a 0).toNat) s1.1 s2.1 i)
    unfold sJoin
    by_cases q : s1.1 i = s2.1 i
    · rw [cif_pos q]; exact h5.1 i
    · rw [cif_neg q]
      exact tAll_cho.mpr ⟨tAll_mono QU_of _ (h.1 _), tAll_mono sub1 _ (h1.1 i), h5.1 i⟩
theorem fcS_sub {P : Pg} {R : Bool → Nat → Nat → Nat → St → St} {p a : Nat} {w : Int} : ∀ n S i, fcS P R p a w s n S i = true → S i = true
  | 0, S, i, h => h
  | n + 1, S, i, h => by
    unfold fcS at h
    by_cases q : rdS P R p a w s S = S
    · rw [cif_pos q] at h; exact h
    · rw [cif_neg q] at h
      have := fcS_sub n _ i h
      unfold rdS at this
      simp only [Bool.and_eq_true] at this
      exact this.1
theorem cS0_lt {g i : Nat} (h : cS0 g i = true) : i < 61 := by
  unfold cS0 at h
  simp only [Bool.or_eq_true, Bool.and_eq_true] at h
  rcases h with h | h
  · have := Nat.blt_eq.mp h.2; omega
  · have := Nat.eq_of_beq_eq_true h; omega
theorem LV_wh {P : Pg} {R : Bool → Nat → Nat → Nat → St → St} (hR : LVR R) (hM : RM R) {p a : Nat} (h : LV Q s) : LV (QU (whS P R false p a s).2.2.2.2.2 Q) (whS P R false p a s) := by
  unfold whS
  simp only [Bool.false_eq_true, if_false]
  have hS61 : ∀ i, fcS P R p a s.2.2.2.1 s 62 (cS0 (P.2.2.2.2 p)) i = true → i < 61 := fun i hi => cS0_lt (fcS_sub 62 _ i hi)
  generalize fcS P R p a s.2.2.2.1 s 62 (cS0 (P.2.2.2.2 p)) = S at *
  have h0 : LV (fun w r => Q w r ∨ (w = s.2.2.2.1 ∧ ∃ i, S i = true ∧ (i : Int) = r)) (sBeg s.2.2.2.1 S s) := by
    refine ⟨fun i => ?_, fun q hq u hu => tAll_mono (fun _ _ z => Or.inl z) _ (h.2.1 q hq u hu), fun q hq => ⟨tAll_mono (fun _ _ z => Or.inl z) _ (h.2.2 q hq).1, tAll_mono (fun _ _ z => Or.inl z) _ (h.2.2 q hq).2⟩⟩
    show tAll _ (if S i then tCir s.2.2.2.1 i else s.1 i)
    cases hs : S i with
    | true => rw [if_pos rfl]; exact tAll_cir.mpr (Or.inr ⟨rfl, i, hs, rfl⟩)
    | false => rw [if_neg (by decide)]; exact tAll_mono (fun _ _ z => Or.inl z) _ (h.1 i)
  generalize hQ1 : (fun w r => Q w r ∨ (w = s.2.2.2.1 ∧ ∃ i, S i = true ∧ (i : Int) = r)) = Q1 at h0
  have h1 := LV_say (w := 6) (x := none) h0 (fun u hu => by cases hu)
  have h2 := hR p (a + 1) (P.2.2.1 p a) _ _ h1
  have cc0 : (sSay false 6 none (sBeg s.2.2.2.1 S s)).2.2.2.2.2 = s.2.2.2.2.2 := by rw [say22.1]; rfl
  generalize sSay false 6 none (sBeg s.2.2.2.1 S s) = s1 at *
  generalize R false p (a + 1) (P.2.2.1 p a) s1 = s2 at *
  have h3 := LV_say (w := 7) (x := some (s2.1 (P.2.1 p (P.2.2.1 p a) 0).toNat)) h2 (fun u hu => by cases hu; exact h2.1 _)
  have h4 := hR p (P.2.2.1 p a + 1) (P.2.2.1 p (P.2.2.1 p a)) _ _ h3
  have m5 := (hM false p (P.2.2.1 p a + 1) (P.2.2.1 p (P.2.2.1 p a)) (sSay false 7 (some (s2.1 (P.2.1 p (P.2.2.1 p a) 0).toNat)) s2)).sub
  rw [say22.1] at m5
  generalize R false p (P.2.2.1 p a + 1) (P.2.2.1 p (P.2.2.1 p a)) (sSay false 7 (some (s2.1 (P.2.1 p (P.2.2.1 p a) 0).toNat)) s2) = s4 at *
  have h5 := LV_say (w := 8) (x := none) h4 (fun u hu => by cases hu)
  have e8 := (say22 (sil := false) (w := 8) (x := none) (s := s4))
  have e81 : (sSay false 8 none s4).2.2.2.2.2 = s4.2.2.2.2.2 := by rw [e8.1]
  generalize sSay false 8 none s4 = s5 at *
  generalize hcc : s5.2.2.2.2.2 ++ List.map (fun i => (s.2.2.2.1, i, s.1 i, s5.1 i)) (List.filter S (List.range 61)) = ccf
  have sub : ∀ w r, QU s4.2.2.2.2.2 (QU s2.2.2.2.2.2 Q1) w r → QU ccf Q w r := by
    have i1 : ∀ q ∈ s4.2.2.2.2.2, q ∈ ccf := fun q hq => by rw [← hcc, e81]; exact List.mem_append.mpr (Or.inl hq)
    refine QU_sub i1 (QU_sub (fun q hq => i1 q (m5 q hq)) (fun w r hq => ?_))
    rw [← hQ1] at hq
    rcases hq with hq | ⟨rfl, i, hi, rfl⟩
    · exact Or.inl hq
    · refine Or.inr ⟨(s.2.2.2.1, i, s.1 i, s5.1 i), ?_, rfl, rfl⟩
      rw [← hcc]
      exact List.mem_append.mpr (Or.inr (List.mem_map.mpr ⟨i, List.mem_filter.mpr ⟨List.mem_range.mpr (hS61 i hi), hi⟩, rfl⟩))
  have h6 := h5.mono sub
  have h2' : ∀ i, tAll (QU ccf Q) (s2.1 i) := fun i => tAll_mono (fun w r z => sub w r (Or.inl z)) _ (h2.1 i)
  refine ⟨h2', h6.2.1, fun q hq => ?_⟩
  have hq : q ∈ ccf := hq
  rw [← hcc] at hq
  rcases List.mem_append.mp hq with hq | hq
  · exact h6.2.2 q hq
  · obtain ⟨i, -, rfl⟩ := List.mem_map.mp hq
    exact ⟨tAll_mono QU_of _ (h.1 i), h6.1 i⟩
theorem LV_cl {P : Pg} {R : Bool → Nat → Nat → Nat → St → St} (hR : LVR R) {p a : Nat} (h : LV Q s) : LV (QU (clS P R false p a s).2.2.2.2.2 Q) (clS P R false p a s) := by
  unfold clS
  simp only
  have h0 : LV Q (clP s.1 (P.2.1 p a 0).toNat, s.2) := by
    refine ⟨fun i => ?_, h.2.1, h.2.2⟩
    show tAll Q (clP s.1 (P.2.1 p a 0).toNat i)
    unfold clP
    split
    · exact h.1 _
    · split
      · exact h.1 _
      · exact tAll_num _
  have h1 := hR (P.2.1 p a 1).toNat 0 (P.2.2.2.1 (P.2.1 p a 1).toNat) _ _ h0
  generalize R false (P.2.1 p a 1).toNat 0 (P.2.2.2.1 (P.2.1 p a 1).toNat) (clP s.1 (P.2.1 p a 0).toNat, s.2) = s1 at *
  refine ⟨fun i => ?_, h1.2.1, h1.2.2⟩
  show tAll _ (clB s.1 s1.1 i)
  unfold clB
  split
  · exact h1.1 i
  · exact tAll_mono QU_of _ (h.1 i)
end
theorem wk_lv (P : Pg) : ∀ n, LVR (wk P n) := by
  have key : ∀ R, LVR R → RM R → ∀ p l a b s Q, LV Q s → LV (QU (wkl P R false p l a b s).2.2.2.2.2 Q) (wkl P R false p l a b s) := by
    intro R hR hM p l
    have hmx : ∀ l a b s, MX s (wkl P R false p l a b s) := by
      intro l
      induction l with
      | zero => intro a b s; exact MX.refl s
      | succ l ih =>
        intro a b s
        show MX s (if a < b then _ else s)
        repeat' split
        · exact MX_if (hR := hM) |>.trans (ih _ _ _)
        · exact MX_wh (hR := hM) |>.trans (ih _ _ _)
        · exact MX.trans (s' := clS P R false p a s) (hM false _ 0 _ (clP s.1 (P.2.1 p a 0).toNat, s.2)) (ih _ _ _)
        · exact MX_pl.trans (ih _ _ _)
        · exact MX.refl s
    induction l with
    | zero => intro a b s Q h; exact h.mono QU_of
    | succ l ih =>
      intro a b s Q h
      have step : ∀ x s', LV (QU s'.2.2.2.2.2 Q) s' → LV (QU (wkl P R false p l x b s').2.2.2.2.2 Q) (wkl P R false p l x b s') := fun x s' h' => by
        refine (ih x b s' _ h').mono (QU_sub (fun q hq => hq) (QU_sub ?_ QU_of))
        exact (hmx l x b s').sub
      show LV (QU (if a < b then _ else s).2.2.2.2.2 Q) (if a < b then _ else s)
      repeat' split
      · exact step _ _ (LV_if hR hM h)
      · exact step _ _ (LV_wh hR hM h)
      · exact step _ _ (LV_cl hR h)
      · exact step _ _ ((LV_pl h).mono QU_of)
      · exact h.mono QU_of
  intro n
  induction n with
  | zero => intro p a b s Q h; exact key _ (fun _ _ _ s _ h => h.mono QU_of) (fun _ _ _ _ s => MX.refl s) p _ a b s Q h
  | succ n ih => intro p a b s Q h; exact key _ ih (wk_mx P n) p _ a b s Q h
