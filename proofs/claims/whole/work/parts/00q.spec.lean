/-! things as trees; the walk over them -/
abbrev T : Type := Std.Format
def tnd (k x : Int) (l m r : T) : T := .nest k (.nest x (.append l (.append m r)))
def tNum (v : Int) : T := tnd 0 v .nil .nil .nil
def tWrk (o : Int) (s t : T) : T := tnd 1 o s t .nil
def tLod (a s : T) : T := tnd 2 0 a s .nil
def tFst : T := tnd 3 0 .nil .nil .nil
def tSto (a s t : T) : T := tnd 4 0 a s t
def tInp (n : Int) : T := tnd 5 n .nil .nil .nil
def tCho (s a b : T) : T := tnd 6 0 s a b
def tCir (w r : Int) : T := tnd 7 w (.nest r .nil) .nil .nil
def tkd (t : T) : Int := match t with
  | .nest k _ => k
  | _ => -1
def tvl (t : T) : Int := match t with
  | .nest _ (.nest x _) => x
  | _ => 0
theorem tnd_inj {k x k' x' : Int} {l m r l' m' r' : T} (h : tnd k x l m r = tnd k' x' l' m' r') : k = k' ∧ x = x' ∧ l = l' ∧ m = m' ∧ r = r' := by
  unfold tnd at h
  injection h with h1 h2
  injection h2 with h3 h4
  injection h4 with h5 h6
  injection h6 with h7 h8
  exact ⟨h1, h3, h5, h7, h8⟩
theorem tkd_nd (k x : Int) (l m r : T) : tkd (tnd k x l m r) = k := rfl
theorem tvl_nd (k x : Int) (l m r : T) : tvl (tnd k x l m r) = x := rfl
noncomputable def cif {α : Type} (p : Prop) (a b : α) : α := @ite α p (Classical.propDecidable p) a b
theorem cif_pos {α : Type} {p : Prop} {a b : α} (h : p) : cif p a b = a := by unfold cif; rw [if_pos h]
theorem cif_neg {α : Type} {p : Prop} {a b : α} (h : ¬ p) : cif p a b = b := by unfold cif; rw [if_neg h]
/-- nodes: kind and three numbers; what a node is, by the trees of its parts -/
abbrev Nd : Type := Int × Int × Int × Int
def cden (D : Nat → T) (n : Nd) : T :=
  if n.1 = 0 then tNum n.2.1
  else if n.1 = 1 then tWrk n.2.1 (D n.2.2.1.toNat) (D n.2.2.2.toNat)
  else if n.1 = 2 then tLod (D n.2.1.toNat) (D n.2.2.1.toNat)
  else if n.1 = 3 then tFst
  else if n.1 = 4 then tSto (D n.2.1.toNat) (D n.2.2.1.toNat) (D n.2.2.2.toNat)
  else if n.1 = 5 then tInp n.2.1
  else if n.1 = 6 then tCho (D n.2.1.toNat) (D n.2.2.1.toNat) (D n.2.2.2.toNat)
  else tCir n.2.1 n.2.2.1
def wn (n : Nd) (i : Nat) : Prop :=
  (n.1 = 0 ∧ n.2.2.1 = 0 ∧ n.2.2.2 = 0) ∨
  (n.1 = 1 ∧ 0 ≤ n.2.2.1 ∧ n.2.2.1 < i ∧ 0 ≤ n.2.2.2 ∧ n.2.2.2 < i) ∨
  (n.1 = 2 ∧ 0 ≤ n.2.1 ∧ n.2.1 < i ∧ 0 ≤ n.2.2.1 ∧ n.2.2.1 < i ∧ n.2.2.2 = 0) ∨
  (n.1 = 3 ∧ n.2.1 = 0 ∧ n.2.2.1 = 0 ∧ n.2.2.2 = 0) ∨
  (n.1 = 4 ∧ 0 ≤ n.2.1 ∧ n.2.1 < i ∧ 0 ≤ n.2.2.1 ∧ n.2.2.1 < i ∧ 0 ≤ n.2.2.2 ∧ n.2.2.2 < i) ∨
  (n.1 = 5 ∧ n.2.2.1 = 0 ∧ n.2.2.2 = 0) ∨
  (n.1 = 6 ∧ 0 ≤ n.2.1 ∧ n.2.1 < i ∧ 0 ≤ n.2.2.1 ∧ n.2.2.1 < i ∧ 0 ≤ n.2.2.2 ∧ n.2.2.2 < i) ∨
  (n.1 = 7 ∧ n.2.2.2 = 0)
def GT (nf : Nat → Nd) (t : Nat) (D : Nat → T) : Prop := (∀ i, i < t → wn (nf i) i ∧ D i = cden D (nf i)) ∧ (∀ i j, i < j → j < t → nf i ≠ nf j)
theorem wn_mono {n : Nd} {i j : Nat} (h : wn n i) (hij : i ≤ j) : wn n j := by
  unfold wn at *
  rcases h with h | h | h | h | h | h | h | h
  · exact Or.inl h
  · exact Or.inr (Or.inl ⟨h.1, h.2.1, by omega, h.2.2.2.1, by omega⟩)
  · exact Or.inr (Or.inr (Or.inl ⟨h.1, h.2.1, by omega, h.2.2.2.1, by omega, h.2.2.2.2.2⟩))
  · exact Or.inr (Or.inr (Or.inr (Or.inl h)))
  · exact Or.inr (Or.inr (Or.inr (Or.inr (Or.inl ⟨h.1, h.2.1, by omega, h.2.2.2.1, by omega, h.2.2.2.2.2.1, by omega⟩))))
  · exact Or.inr (Or.inr (Or.inr (Or.inr (Or.inr (Or.inl h)))))
  · exact Or.inr (Or.inr (Or.inr (Or.inr (Or.inr (Or.inr (Or.inl ⟨h.1, h.2.1, by omega, h.2.2.2.1, by omega, h.2.2.2.2.2.1, by omega⟩))))))
  · exact Or.inr (Or.inr (Or.inr (Or.inr (Or.inr (Or.inr (Or.inr h))))))
theorem cden_congr {D E : Nat → T} {n : Nd} {i : Nat} (h : wn n i) (q : ∀ k, k < i → D k = E k) : cden D n = cden E n := by
  obtain ⟨k, a, b, c⟩ := n
  unfold wn at h
  unfold cden
  simp only at h ⊢
  rcases h with h | h | h | h | h | h | h | h <;> obtain ⟨rfl, h⟩ := h
  · rfl
  · simp only [show ¬ (1 : Int) = 0 by decide, if_false, if_true]
    rw [q b.toNat (by omega), q c.toNat (by omega)]
  · simp only [show ¬ (2 : Int) = 0 by decide, show ¬ (2 : Int) = 1 by decide, if_false, if_true]
    rw [q a.toNat (by omega), q b.toNat (by omega)]
  · rfl
  · simp only [show ¬ (4 : Int) = 0 by decide, show ¬ (4 : Int) = 1 by decide, show ¬ (4 : Int) = 2 by decide, show ¬ (4 : Int) = 3 by decide, if_false, if_true]
    rw [q a.toNat (by omega), q b.toNat (by omega), q c.toNat (by omega)]
  · rfl
  · simp only [show ¬ (6 : Int) = 0 by decide, show ¬ (6 : Int) = 1 by decide, show ¬ (6 : Int) = 2 by decide, show ¬ (6 : Int) = 3 by decide, show ¬ (6 : Int) = 4 by decide, show ¬ (6 : Int) = 5 by decide, if_false, if_true]
    rw [q a.toNat (by omega), q b.toNat (by omega), q c.toNat (by omega)]
  · rfl
/-- alike trees, alike nodes -/
theorem cden_inj {D : Nat → T} {n m : Nd} {i : Nat} (hn : wn n i) (hm : wn m i) (hD : ∀ j k, j < i → k < i → D j = D k → j = k) (e : cden D n = cden D m) : n = m := by
  obtain ⟨k, a, b, c⟩ := n
  obtain ⟨k', a', b', c'⟩ := m
  have hk : ∀ (k a b c : Int), wn (k, a, b, c) i → tkd (cden D (k, a, b, c)) = k := by
    intro k a b c h
    unfold wn at h
    unfold cden
    simp only at h ⊢
    rcases h with h | h | h | h | h | h | h | h <;> obtain ⟨rfl, h⟩ := h <;> rfl
  have e0 : k = k' := by rw [← hk k a b c hn, e, hk k' a' b' c' hm]
  subst e0
  unfold wn at hn hm
  unfold cden at e
  simp only at hn hm e
  rcases hn with h | h | h | h | h | h | h | h <;> obtain ⟨rfl, h⟩ := h
  · simp at e hm
    obtain ⟨e1, e2, e3, e4, e5⟩ := tnd_inj e
    have q1 : a = a' := by omega
    have q2 : b = b' := by omega
    have q3 : c = c' := by omega
    rw [q1, q2, q3]
  · simp at e hm
    obtain ⟨e1, e2, e3, e4, e5⟩ := tnd_inj e
    have e3 := hD _ _ (by omega) (by omega) e3
    have e4 := hD _ _ (by omega) (by omega) e4
    have q1 : a = a' := by omega
    have q2 : b = b' := by omega
    have q3 : c = c' := by omega
    rw [q1, q2, q3]
  · simp at e hm
    obtain ⟨e1, e2, e3, e4, e5⟩ := tnd_inj e
    have e3 := hD _ _ (by omega) (by omega) e3
    have e4 := hD _ _ (by omega) (by omega) e4
    have q1 : a = a' := by omega
    have q2 : b = b' := by omega
    have q3 : c = c' := by omega
    rw [q1, q2, q3]
  · simp at hm
    have q1 : a = a' := by omega
    have q2 : b = b' := by omega
    have q3 : c = c' := by omega
    rw [q1, q2, q3]
  · simp at e hm
    obtain ⟨e1, e2, e3, e4, e5⟩ := tnd_inj e
    have e3 := hD _ _ (by omega) (by omega) e3
    have e4 := hD _ _ (by omega) (by omega) e4
    have e5 := hD _ _ (by omega) (by omega) e5
    have q1 : a = a' := by omega
    have q2 : b = b' := by omega
    have q3 : c = c' := by omega
    rw [q1, q2, q3]
  · simp at e hm
    obtain ⟨e1, e2, e3, e4, e5⟩ := tnd_inj e
    have q1 : a = a' := by omega
    have q2 : b = b' := by omega
    have q3 : c = c' := by omega
    rw [q1, q2, q3]
  · simp at e hm
    obtain ⟨e1, e2, e3, e4, e5⟩ := tnd_inj e
    have e3 := hD _ _ (by omega) (by omega) e3
    have e4 := hD _ _ (by omega) (by omega) e4
    have e5 := hD _ _ (by omega) (by omega) e5
    have q1 : a = a' := by omega
    have q2 : b = b' := by omega
    have q3 : c = c' := by omega
    rw [q1, q2, q3]
  · simp at e hm
    obtain ⟨e1, e2, e3, e4, e5⟩ := tnd_inj e
    injection e3 with e6 e7
    have q1 : a = a' := by omega
    have q2 : b = b' := by omega
    have q3 : c = c' := by omega
    rw [q1, q2, q3]
theorem GT.inj {nf : Nat → Nd} {D : Nat → T} : ∀ {t : Nat}, GT nf t D → ∀ i j, i < t → j < t → D i = D j → i = j := by
  intro t
  induction t with
  | zero => intro _ i j hi; omega
  | succ t ih =>
    intro h i j hi hj e
    have h' : GT nf t D := ⟨fun i hi => h.1 i (by omega), fun i j hij hj => h.2 i j hij (by omega)⟩
    have ih := ih h'
    have hn : nf i = nf j := by
      have a1 := h.1 i hi
      have a2 := h.1 j hj
      exact cden_inj (D := D) (i := t) (wn_mono a1.1 (by omega)) (wn_mono a2.1 (by omega)) ih (by rw [← a1.2, ← a2.2]; exact e)
    rcases Nat.lt_trichotomy i j with c | c | c
    · exact absurd hn (h.2 i j c hj)
    · exact c
    · exact absurd hn.symm (h.2 j i c hi)
theorem GT.ext {nf nf' : Nat → Nd} {D : Nat → T} {t : Nat} {n : Nd} (h : GT nf t D) (h1 : ∀ i, i < t → nf' i = nf i) (h2 : nf' t = n) (h3 : wn n t) (h4 : ∀ i, i < t → nf i ≠ n) : GT nf' (t + 1) (fun i => if i = t then cden D n else D i) := by
  refine ⟨fun i hi => ?_, fun i j hij hj => ?_⟩
  · by_cases c : i = t
    · subst c
      rw [h2]
      refine ⟨h3, ?_⟩
      dsimp only
      rw [if_pos rfl]
      exact cden_congr h3 (fun k hk => by rw [if_neg (by omega)])
    · rw [h1 i (by omega)]
      have := h.1 i (by omega)
      refine ⟨this.1, ?_⟩
      dsimp only
      rw [if_neg c, this.2]
      exact cden_congr this.1 (fun k hk => by rw [if_neg (by omega)])
  · by_cases c : j = t
    · rw [c, h2, h1 i (by omega)]; exact h4 i (by omega)
    · rw [h1 i (by omega), h1 j (by omega)]; exact h.2 i j hij (by omega)
theorem GT.take {nf nf' : Nat → Nd} {D : Nat → T} {t s : Nat} (h : GT nf t D) (hs : s ≤ t) (h1 : ∀ i, i < s → nf' i = nf i) : GT nf' s D := ⟨fun i hi => by rw [h1 i hi]; exact h.1 i (by omega), fun i j hij hj => by rw [h1 i (by omega), h1 j hj]; exact h.2 i j hij (by omega)⟩
theorem GT.cong {nf : Nat → Nd} {D E : Nat → T} {t : Nat} (h : GT nf t D) (h1 : ∀ i, i < t → E i = D i) : GT nf t E := ⟨fun i hi => ⟨(h.1 i hi).1, by rw [h1 i hi, (h.1 i hi).2]; exact cden_congr (h.1 i hi).1 (fun k hk => (h1 k (by omega)).symm)⟩, h.2⟩
/-! the walk -/
/-- kind, number i, mate of item k of part p; length and registers of part p -/
abbrev Pg : Type := (Nat → Nat → Int) × (Nat → Nat → Nat → Int) × (Nat → Nat → Nat) × (Nat → Nat) × (Nat → Nat)
/-- places; said; on this way; WHILEs, INPUTs so far; what circled -/
abbrev St : Type := (Nat → T) × List (Int × Option T) × List (Int × T) × Int × Int × List (Int × Nat × T × T)
def sSay (sil : Bool) (w : Int) (x : Option T) (s : St) : St := if sil then s else (s.1, s.2.1 ++ [(w, x)], s.2.2)
noncomputable def sDem (sil : Bool) (w : Int) (t : T) (s : St) : St := if sil then s else cif ((w, t) ∈ s.2.2.1) s (s.1, s.2.1 ++ [(w, some t)], s.2.2.1 ++ [(w, t)], s.2.2.2)
def sSet (r : Nat) (t : T) (s : St) : St := (fun i => if i = r then t else s.1 i, s.2)
def wkO (o s t : Int) : Int := if o = 0 then zw (s + t) else if o = 1 then zw (s - t) else if o = 2 then zw (s * t) else if o = 3 then (if t = 0 then 0 else zdv s t) else if o = 4 then (if s < t then 1 else 0) else (if s = t then 1 else 0)
def wkT (o : Int) (s t : T) : T := if tkd s = 0 ∧ tkd t = 0 ∧ ¬ (o = 3 ∧ tvl t = 0) then tNum (wkO o (tvl s) (tvl t)) else tWrk o s t
noncomputable def sDiv (sil : Bool) (o : Int) (t : T) (s : St) : St := if o = 3 ∧ ¬ (tkd t = 0 ∧ tvl t ≠ 0) then sDem sil 0 t s else s
noncomputable def sCel (sil : Bool) (t : T) (s : St) : St := if tkd t = 0 ∧ 0 ≤ tvl t ∧ tvl t < 8 then s else sDem sil 1 t s
noncomputable def plS (P : Pg) (sil : Bool) (p k : Nat) (s : St) : St :=
  if P.1 p k = 0 then sSet (P.2.1 p k 0).toNat (tNum (P.2.1 p k 1)) s
  else if P.1 p k = 1 then sSet (P.2.1 p k 0).toNat (s.1 (P.2.1 p k 1).toNat) s
  else if P.1 p k = 2 then sSet (P.2.1 p k 0).toNat (wkT (P.2.1 p k 3) (s.1 (P.2.1 p k 1).toNat) (s.1 (P.2.1 p k 2).toNat)) (sDiv sil (P.2.1 p k 3) (s.1 (P.2.1 p k 2).toNat) s)
  else if P.1 p k = 3 then sSet (P.2.1 p k 0).toNat (tLod (s.1 60) (s.1 (P.2.1 p k 1).toNat)) (sCel sil (s.1 (P.2.1 p k 1).toNat) s)
  else if P.1 p k = 4 then sSet 60 (tSto (s.1 60) (s.1 (P.2.1 p k 0).toNat) (s.1 (P.2.1 p k 1).toNat)) (sCel sil (s.1 (P.2.1 p k 0).toNat) s)
  else if P.1 p k = 5 then (fun q : St => (q.1, q.2.1, q.2.2.1, q.2.2.2.1, q.2.2.2.2.1 + 1, q.2.2.2.2.2)) (sSet (P.2.1 p k 0).toNat (tInp s.2.2.2.2.1) (sSay sil 2 none s))
  else sSay sil 3 (some (s.1 (P.2.1 p k 0).toNat)) s
noncomputable def sJoin (c : T) (f g : Nat → T) : Nat → T := fun i => cif (f i = g i) (g i) (tCho c (f i) (g i))
noncomputable def ifS (P : Pg) (R : Bool → Nat → Nat → Nat → St → St) (sil : Bool) (p a : Nat) (s : St) : St :=
  let c := s.1 (P.2.1 p a 0).toNat
  let m := P.2.2.1 p a
  let e := P.2.2.1 p m
  if tkd c = 0 then (if tvl c ≠ 0 then R sil p (a + 1) m s else R sil p (m + 1) e s)
  else
    let s1 := R sil p (a + 1) m (sSay sil 4 (some c) s)
    let s2 := R sil p (m + 1) e (sSay sil 5 none (s.1, s1.2.1, s.2.2.1, s1.2.2.2))
    sSay sil 8 none (sJoin c s1.1 s2.1, s2.2.1, s.2.2.1, s2.2.2.2)
def clP (f : Nat → T) (x : Nat) : Nat → T := fun i => if i < 6 ∨ i = 60 then f i else if i = 6 then f x else tNum 0
def clB (f g : Nat → T) : Nat → T := fun i => if i < 6 ∨ i = 60 then g i else f i
noncomputable def clS (P : Pg) (R : Bool → Nat → Nat → Nat → St → St) (sil : Bool) (p a : Nat) (s : St) : St :=
  let q := (P.2.1 p a 1).toNat
  let s1 := R sil q 0 (P.2.2.2.1 q) (clP s.1 (P.2.1 p a 0).toNat, s.2)
  (clB s.1 s1.1, s1.2)
def sBeg (w : Int) (S : Nat → Bool) (s : St) : St := (fun i => if S i then tCir w i else s.1 i, s.2.1, s.2.2.1, w + 1, s.2.2.2.2)
noncomputable def rdS (P : Pg) (R : Bool → Nat → Nat → Nat → St → St) (p a : Nat) (w : Int) (s : St) (S : Nat → Bool) : Nat → Bool :=
  let m := P.2.2.1 p a
  let e := P.2.2.1 p m
  let s3 := R true p (m + 1) e (R true p (a + 1) m (sBeg w S s))
  fun i => S i && cif (s3.1 i = tCir w i) false true
noncomputable def fcS (P : Pg) (R : Bool → Nat → Nat → Nat → St → St) (p a : Nat) (w : Int) (s : St) : Nat → (Nat → Bool) → (Nat → Bool)
  | 0 => fun S => S
  | n + 1 => fun S => cif (rdS P R p a w s S = S) S (fcS P R p a w s n (rdS P R p a w s S))
def cS0 (g : Nat) : Nat → Bool := fun i => (Nat.blt i g && Nat.blt i 60) || Nat.beq i 60
noncomputable def whS (P : Pg) (R : Bool → Nat → Nat → Nat → St → St) (sil : Bool) (p a : Nat) (s : St) : St :=
  let m := P.2.2.1 p a
  let e := P.2.2.1 p m
  let w := s.2.2.2.1
  let S := fcS P R p a w s 62 (cS0 (P.2.2.2.2 p))
  let s2 := R sil p (a + 1) m (sSay sil 6 none (sBeg w S s))
  let s3 := sSay sil 7 (some (s2.1 (P.2.1 p m 0).toNat)) s2
  let s4 := sSay sil 8 none (R sil p (m + 1) e s3)
  (s2.1, s4.2.1, s.2.2.1, s4.2.2.2.1, s4.2.2.2.2.1, if sil then s4.2.2.2.2.2 else s4.2.2.2.2.2 ++ ((List.range 61).filter S).map (fun i => (w, i, s.1 i, s4.1 i)))
noncomputable def wkl (P : Pg) (R : Bool → Nat → Nat → Nat → St → St) (sil : Bool) (p : Nat) : Nat → Nat → Nat → St → St
  | 0 => fun _ _ s => s
  | l + 1 => fun a b s => if a < b then
      (if P.1 p a = 8 then wkl P R sil p l (P.2.2.1 p (P.2.2.1 p a) + 1) b (ifS P R sil p a s)
      else if P.1 p a = 10 then wkl P R sil p l (P.2.2.1 p (P.2.2.1 p a) + 1) b (whS P R sil p a s)
      else if P.1 p a = 7 then wkl P R sil p l (a + 1) b (clS P R sil p a s)
      else wkl P R sil p l (a + 1) b (plS P sil p a s)) else s
noncomputable def wk (P : Pg) : Nat → Bool → Nat → Nat → Nat → St → St
  | 0 => fun sil p a b s => wkl P (fun _ _ _ _ s => s) sil p (b - a) a b s
  | n + 1 => fun sil p a b s => wkl P (wk P n) sil p (b - a) a b s
