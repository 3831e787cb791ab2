/-! places behind a part's registers neither change nor matter -/
def NB (g : Nat) (i : Nat) : Prop := g ≤ i ∧ i ≠ 60
def EQ (g : Nat) (s s' : St) : Prop := s.2 = s'.2 ∧ ∀ i, ¬ NB g i → s.1 i = s'.1 i
def KP (g : Nat) (s r : St) : Prop := ∀ i, NB g i → r.1 i = s.1 i
/-- what is asked of a nested walk -/
def RN (P : Pg) (ex : Nat → Prop) (nd : Int → Nat) (R : Bool → Nat → Nat → Nat → St → St) (n : Nat) : Prop := ∀ (sil : Bool) (p a b : Nat), ex p → Bl nd (P.1 p) (fun k => P.2.1 p k 1) (P.2.2.1 p) n a b → b ≤ P.2.2.2.1 p → (∀ s s', EQ (P.2.2.2.2 p) s s' → EQ (P.2.2.2.2 p) (R sil p a b s) (R sil p a b s')) ∧ ∀ s, KP (P.2.2.2.2 p) s (R sil p a b s)
section
variable {P : Pg} {ex : Nat → Prop} {nd : Int → Nat} {g : Nat}
theorem EQ.refl (s : St) : EQ g s s := ⟨rfl, fun _ _ => rfl⟩
theorem EQ.symm {s s' : St} (h : EQ g s s') : EQ g s' s := ⟨h.1.symm, fun i hi => (h.2 i hi).symm⟩
theorem EQ_say {sil : Bool} {w : Int} {x : Option T} {s s' : St} (h : EQ g s s') : EQ g (sSay sil w x s) (sSay sil w x s') := by
  unfold sSay
  cases sil with
  | true => exact h
  | false =>
    refine ⟨?_, h.2⟩
    show (s.2.1 ++ [(w, x)], s.2.2) = (s'.2.1 ++ [(w, x)], s'.2.2)
    rw [h.1]
theorem EQ_dem {sil : Bool} {w : Int} {x : T} {s s' : St} (h : EQ g s s') : EQ g (sDem sil w x s) (sDem sil w x s') ∧ (sDem sil w x s).1 = s.1 := by
  obtain ⟨f, r⟩ := s
  obtain ⟨f', r'⟩ := s'
  have hr : r = r' := h.1
  subst hr
  unfold sDem
  cases sil with
  | true => exact ⟨h, rfl⟩
  | false =>
    simp only [Bool.false_eq_true, if_false]
    by_cases q : (w, x) ∈ r.2.1
    · rw [cif_pos q, cif_pos q]; exact ⟨h, rfl⟩
    · rw [cif_neg q, cif_neg q]; exact ⟨⟨rfl, h.2⟩, rfl⟩
theorem EQ_set {r : Nat} {u u' : T} {s s' : St} (h : EQ g s s') (hu : u = u') : EQ g (sSet r u s) (sSet r u' s') := by
  refine ⟨h.1, fun i hi => ?_⟩
  show (if i = r then u else s.1 i) = (if i = r then u' else s'.1 i)
  rw [hu, h.2 i hi]
theorem KP_set {r : Nat} {u : T} {s s0 : St} (hr : ¬ NB g r) (h : KP g s s0) : KP g s (sSet r u s0) := fun i hi => by
  show (if i = r then u else s0.1 i) = s.1 i
  rw [if_neg (fun z : i = r => hr (by rw [← z]; exact hi))]
  exact h i hi
theorem nb_reg {x : Int} {g : Nat} (h0 : 0 ≤ x) (h1 : x < g) : ¬ NB g x.toNat := fun h => by have := h.1; omega
theorem nb60 : ¬ NB g 60 := fun h => h.2 rfl
theorem KP.refl (s : St) : KP g s s := fun _ _ => rfl
theorem KP_say {sil : Bool} {w : Int} {x : Option T} {s s0 : St} (h : KP g s s0) : KP g s (sSay sil w x s0) := fun i hi => by rw [say22.2]; exact h i hi
theorem dem_pl {sil : Bool} {w : Int} {x : T} {s : St} : (sDem sil w x s).1 = s.1 := (EQ_dem (g := 0) (EQ.refl s)).2
theorem NI_pl {sil : Bool} {p k : Nat} (hw : WfP P ex) (hp : ex p) (hk : k < P.2.2.2.1 p) (h6 : P.1 p k ≤ 6) : (∀ s s', EQ (P.2.2.2.2 p) s s' → EQ (P.2.2.2.2 p) (plS P sil p k s) (plS P sil p k s')) ∧ ∀ s, KP (P.2.2.2.2 p) s (plS P sil p k s) := by
  obtain ⟨w1, w2, w3, w4⟩ := hw p hp
  obtain ⟨u1, u2, u3, u4, u5⟩ := w4 k hk
  have r : ∀ i, i < nbk (P.1 p k) → isr (P.1 p k) i → ¬ NB (P.2.2.2.2 p) (P.2.1 p k i).toNat := fun i a b => by
    have := (u3 i a).2.2 b
    exact nb_reg this.1 this.2
  unfold plS
  by_cases k0 : P.1 p k = 0
  · have nb : nbk (P.1 p k) = 2 := by rw [k0]; decide
    simp only [if_pos k0]
    exact ⟨fun s s' h => EQ_set h rfl, fun s => KP_set (r 0 (by omega) ⟨fun z => by omega, fun z => by omega, fun z => by omega⟩) (KP.refl s)⟩
  by_cases k1 : P.1 p k = 1
  · have nb : nbk (P.1 p k) = 2 := by rw [k1]; decide
    simp only [if_neg k0, if_pos k1]
    exact ⟨fun s s' h => EQ_set h (h.2 _ (r 1 (by omega) ⟨fun z => by omega, fun z => by omega, fun z => by omega⟩)), fun s => KP_set (r 0 (by omega) ⟨fun z => by omega, fun z => by omega, fun z => by omega⟩) (KP.refl s)⟩
  by_cases k2 : P.1 p k = 2
  · have nb : nbk (P.1 p k) = 4 := by rw [k2]; decide
    simp only [if_neg k0, if_neg k1, if_pos k2]
    have r1 := r 1 (by omega) ⟨fun z => by omega, fun z => by omega, fun z => by omega⟩
    have r2 := r 2 (by omega) ⟨fun z => by omega, fun z => by omega, fun z => by omega⟩
    refine ⟨fun s s' h => EQ_set ?_ (by rw [h.2 _ r1, h.2 _ r2]), fun s => KP_set (r 0 (by omega) ⟨fun z => by omega, fun z => by omega, fun z => by omega⟩) (fun i hi => ?_)⟩
    · rw [h.2 _ r2]
      unfold sDiv
      split
      · exact (EQ_dem h).1
      · exact h
    · unfold sDiv
      split
      · rw [dem_pl]
      · rfl
  by_cases k3 : P.1 p k = 3
  · have nb : nbk (P.1 p k) = 2 := by rw [k3]; decide
    simp only [if_neg k0, if_neg k1, if_neg k2, if_pos k3]
    have r1 := r 1 (by omega) ⟨fun z => by omega, fun z => by omega, fun z => by omega⟩
    refine ⟨fun s s' h => EQ_set ?_ (by rw [h.2 _ r1, h.2 _ nb60]), fun s => KP_set (r 0 (by omega) ⟨fun z => by omega, fun z => by omega, fun z => by omega⟩) (fun i hi => ?_)⟩
    · rw [h.2 _ r1]
      unfold sCel
      split
      · exact h
      · exact (EQ_dem h).1
    · unfold sCel
      split
      · rfl
      · rw [dem_pl]
  by_cases k4 : P.1 p k = 4
  · have nb : nbk (P.1 p k) = 2 := by rw [k4]; decide
    simp only [if_neg k0, if_neg k1, if_neg k2, if_neg k3, if_pos k4]
    have r0 := r 0 (by omega) ⟨fun z => by omega, fun z => by omega, fun z => by omega⟩
    have r1 := r 1 (by omega) ⟨fun z => by omega, fun z => by omega, fun z => by omega⟩
    refine ⟨fun s s' h => EQ_set ?_ (by rw [h.2 _ r0, h.2 _ r1, h.2 _ nb60]), fun s => KP_set nb60 (fun i hi => ?_)⟩
    · rw [h.2 _ r0]
      unfold sCel
      split
      · exact h
      · exact (EQ_dem h).1
    · unfold sCel
      split
      · rfl
      · rw [dem_pl]
  by_cases k5 : P.1 p k = 5
  · have nb : nbk (P.1 p k) = 1 := by rw [k5]; decide
    simp only [if_neg k0, if_neg k1, if_neg k2, if_neg k3, if_neg k4, if_pos k5]
    have r0 := r 0 (by omega) ⟨fun z => by omega, fun z => by omega, fun z => by omega⟩
    refine ⟨fun s s' h => ?_, fun s i hi => ?_⟩
    · have hip : s.2.2.2.2.1 = s'.2.2.2.2.1 := by rw [h.1]
      have h1 := EQ_set (r := (P.2.1 p k 0).toNat) (u := tInp s.2.2.2.2.1) (u' := tInp s'.2.2.2.2.1) (EQ_say (sil := sil) (w := 2) (x := none) h) (by rw [hip])
      exact ⟨by dsimp only; rw [h1.1], h1.2⟩
    · exact (KP_set (u := tInp s.2.2.2.2.1) r0 (KP_say (sil := sil) (w := 2) (x := none) (KP.refl s))) i hi
  · have k6 : P.1 p k = 6 := by omega
    have nb : nbk (P.1 p k) = 1 := by rw [k6]; decide
    simp only [if_neg k0, if_neg k1, if_neg k2, if_neg k3, if_neg k4, if_neg k5]
    have r0 := r 0 (by omega) ⟨fun z => by omega, fun z => by omega, fun z => by omega⟩
    exact ⟨fun s s' h => by rw [h.2 _ r0]; exact EQ_say h, fun s => KP_say (KP.refl s)⟩
section
variable {R : Bool → Nat → Nat → Nat → St → St} {n p a m e : Nat} {sil : Bool}
theorem NI_if (hN : RN P ex nd R n) (hw : WfP P ex) (hp : ex p) (h8 : P.1 p a = 8) (hm : P.2.2.1 p a = m) (he : P.2.2.1 p m = e) (h1 : a < m) (h2 : m < e) (h3 : e < P.2.2.2.1 p) (b1 : Bl nd (P.1 p) (fun k => P.2.1 p k 1) (P.2.2.1 p) n (a + 1) m) (b2 : Bl nd (P.1 p) (fun k => P.2.1 p k 1) (P.2.2.1 p) n (m + 1) e) : (∀ s s', EQ (P.2.2.2.2 p) s s' → EQ (P.2.2.2.2 p) (ifS P R sil p a s) (ifS P R sil p a s')) ∧ ∀ s, KP (P.2.2.2.2 p) s (ifS P R sil p a s) := by
  obtain ⟨w1, w2, w3, w4⟩ := hw p hp
  obtain ⟨u1, u2, u3, u4, u5⟩ := w4 a (by omega)
  have nb : nbk (P.1 p a) = 1 := by rw [h8]; decide
  have hr := (u3 0 (by omega)).2.2 ⟨fun z => by omega, fun z => by omega, fun z => by omega⟩
  have r0 : ¬ NB (P.2.2.2.2 p) (P.2.1 p a 0).toNat := nb_reg hr.1 hr.2
  obtain ⟨n1, k1⟩ := hN sil p (a + 1) m hp b1 (by omega)
  obtain ⟨n2, k2⟩ := hN sil p (m + 1) e hp b2 (by omega)
  constructor
  · intro s s' h
    unfold ifS
    simp only [hm, he]
    rw [h.2 _ r0]
    split
    · split
      · exact n1 _ _ h
      · exact n2 _ _ h
    · have a1 := n1 _ _ (EQ_say (sil := sil) (w := 4) (x := some (s'.1 (P.2.1 p a 0).toNat)) h)
      generalize R sil p (a + 1) m (sSay sil 4 (some (s'.1 (P.2.1 p a 0).toNat)) s) = t1 at *
      generalize R sil p (a + 1) m (sSay sil 4 (some (s'.1 (P.2.1 p a 0).toNat)) s') = t1' at *
      have a2 : EQ (P.2.2.2.2 p) (s.1, t1.2.1, s.2.2.1, t1.2.2.2) (s'.1, t1'.2.1, s'.2.2.1, t1'.2.2.2) := ⟨by dsimp only; rw [a1.1, h.1], h.2⟩
      have a3 := n2 _ _ (EQ_say (sil := sil) (w := 5) (x := none) a2)
      generalize R sil p (m + 1) e (sSay sil 5 none (s.1, t1.2.1, s.2.2.1, t1.2.2.2)) = t2 at *
      generalize R sil p (m + 1) e (sSay sil 5 none (s'.1, t1'.2.1, s'.2.2.1, t1'.2.2.2)) = t2' at *
      refine EQ_say ⟨by dsimp only; rw [a3.1, h.1], fun i hi => ?_⟩
      show sJoin _ t1.1 t2.1 i = sJoin _ t1'.1 t2'.1 i
      unfold sJoin
      rw [a1.2 i hi, a3.2 i hi]
  · intro s
    unfold ifS
    simp only [hm, he]
    split
    · split
      · exact k1 s
      · exact k2 s
    · have a1 := k1 (sSay sil 4 (some (s.1 (P.2.1 p a 0).toNat)) s)
      generalize R sil p (a + 1) m (sSay sil 4 (some (s.1 (P.2.1 p a 0).toNat)) s) = t1 at *
      have a3 := k2 (sSay sil 5 none (s.1, t1.2.1, s.2.2.1, t1.2.2.2))
      generalize R sil p (m + 1) e (sSay sil 5 none (s.1, t1.2.1, s.2.2.1, t1.2.2.2)) = t2 at *
      refine KP_say (fun i hi => ?_)
      show sJoin _ t1.1 t2.1 i = s.1 i
      have e1 := a1 i hi
      have e3 := a3 i hi
      rw [say22.2] at e1 e3
      unfold sJoin
      rw [cif_pos (by rw [e1, e3]), e3]
theorem NI_cl (hN : RN P ex nd R n) (hw : WfP P ex) (hp : ex p) (h7 : P.1 p a = 7) (ha : a < P.2.2.2.1 p) : (∀ s s', EQ (P.2.2.2.2 p) s s' → EQ (P.2.2.2.2 p) (clS P R sil p a s) (clS P R sil p a s')) ∧ ∀ s, KP (P.2.2.2.2 p) s (clS P R sil p a s) := by
  obtain ⟨w1, w2, w3, w4⟩ := hw p hp
  obtain ⟨u1, u2, u3, u4, u5⟩ := w4 a ha
  have nb : nbk (P.1 p a) = 2 := by rw [h7]; decide
  have hr := (u3 0 (by omega)).2.2 ⟨fun z => by omega, fun z => by omega, fun z => by omega⟩
  have r0 : ¬ NB (P.2.2.2.2 p) (P.2.1 p a 0).toNat := nb_reg hr.1 hr.2
  have sh : ∀ i, (i < 6 ∨ i = 60) → ¬ NB (P.2.2.2.2 p) i := fun i hi z => by have := z.1; have := z.2; omega
  constructor
  · intro s s' h
    have e : clP s.1 (P.2.1 p a 0).toNat = clP s'.1 (P.2.1 p a 0).toNat := by
      funext i
      unfold clP
      by_cases q : i < 6 ∨ i = 60
      · rw [if_pos q, if_pos q, h.2 i (sh i q)]
      · rw [if_neg q, if_neg q, h.2 _ r0]
    unfold clS
    simp only
    rw [e, h.1]
    refine ⟨rfl, fun i hi => ?_⟩
    show clB s.1 _ i = clB s'.1 _ i
    unfold clB
    rw [h.2 i hi]
  · intro s i hi
    show clB s.1 _ i = s.1 i
    unfold clB
    rw [if_neg (fun q => sh i q hi)]
theorem EQ_beg {w : Int} {S : Nat → Bool} {s s' : St} (h : EQ g s s') : EQ g (sBeg w S s) (sBeg w S s') := by
  refine ⟨?_, fun i hi => ?_⟩
  · show (s.2.1, s.2.2.1, w + 1, s.2.2.2.2) = (s'.2.1, s'.2.2.1, w + 1, s'.2.2.2.2)
    rw [h.1]
  · show (if S i then tCir w i else s.1 i) = (if S i then tCir w i else s'.1 i)
    rw [h.2 i hi]
/-- circling ones behind the registers make no difference, but drop out -/
theorem NI_rd {w : Int} {S S' : Nat → Bool} {s s' : St} (hN : RN P ex nd R n) (hp : ex p) (hm : P.2.2.1 p a = m) (he : P.2.2.1 p m = e) (h3 : e < P.2.2.2.1 p) (h1 : a < m) (h2 : m < e) (b1 : Bl nd (P.1 p) (fun k => P.2.1 p k 1) (P.2.2.1 p) n (a + 1) m) (b2 : Bl nd (P.1 p) (fun k => P.2.1 p k 1) (P.2.2.1 p) n (m + 1) e) (h : EQ (P.2.2.2.2 p) s s') (hS : ∀ i, ¬ NB (P.2.2.2.2 p) i → S i = S' i) (hS' : ∀ i, NB (P.2.2.2.2 p) i → S' i = false) : rdS P R p a w s S = rdS P R p a w s' S' := by
  obtain ⟨n1, k1⟩ := hN true p (a + 1) m hp b1 (by omega)
  obtain ⟨n2, k2⟩ := hN true p (m + 1) e hp b2 (by omega)
  unfold rdS
  simp only [hm, he]
  have e0 : EQ (P.2.2.2.2 p) (sBeg w S s) (sBeg w S' s') := by
    refine ⟨?_, fun i hi => ?_⟩
    · show (s.2.1, s.2.2.1, w + 1, s.2.2.2.2) = (s'.2.1, s'.2.2.1, w + 1, s'.2.2.2.2)
      rw [h.1]
    · show (if S i then tCir w i else s.1 i) = (if S' i then tCir w i else s'.1 i)
      rw [h.2 i hi, hS i hi]
  have e1 := n2 _ _ (n1 _ _ e0)
  funext i
  by_cases hi : NB (P.2.2.2.2 p) i
  · rw [hS' i hi]
    have q1 := k2 (R true p (a + 1) m (sBeg w S s)) i hi
    have q2 := k1 (sBeg w S s) i hi
    rw [q1, q2]
    show (S i && cif ((if S i then tCir w i else s.1 i) = tCir w i) false true) = (false && _)
    cases hs : S i with
    | false => rfl
    | true => rw [if_pos rfl, cif_pos rfl]; rfl
  · rw [e1.2 i hi, hS i hi]
end
end
