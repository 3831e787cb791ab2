/-! the reference's walk: what may change; what its cells hold -/
def fr (Q : Nat → Nat → Prop) (A B : zA) : Prop := B.1 = A.1 ∧ B.2.2.2 = A.2.2.2 ∧ ∀ a j, ¬ Q a j → zmi B a j = zmi A a j ∧ zml B a j = zml A a j
section
variable {Q Q' : Nat → Nat → Prop} {A B C : zA}
theorem fr.refl (Q : Nat → Nat → Prop) (A : zA) : fr Q A A := ⟨rfl, rfl, fun _ _ _ => ⟨rfl, rfl⟩⟩
theorem fr.trans (h : fr Q A B) (g : fr Q B C) : fr Q A C := ⟨g.1.trans h.1, g.2.1.trans h.2.1, fun a j q => ⟨(g.2.2 a j q).1.trans (h.2.2 a j q).1, (g.2.2 a j q).2.trans (h.2.2 a j q).2⟩⟩
theorem fr.mono (h : fr Q A B) (hq : ∀ a j, Q a j → Q' a j) : fr Q' A B := ⟨h.1, h.2.1, fun a j q => h.2.2 a j (fun z => q (hq a j z))⟩
theorem fr.i (h : fr Q A B) {a j : Nat} (q : ¬ Q a j) : zi B a j = zi A a j := by unfold zi; rw [(h.2.2 a j q).1]
theorem fr.e (h : fr Q A B) {a : Nat} {e : Int} (q : ¬ Q a e.toNat) : ri B a e = ri A a e := h.i q
theorem fr.l (h : fr Q A B) {a j : Nat} (q : ¬ Q a j) : zml B a j = zml A a j := (h.2.2 a j q).2
theorem fr_si {a j : Nat} {z : Int} (h : Q a j) : fr Q A (zsi A a j z) := by
  refine ⟨rfl, rfl, fun b k q => ⟨?_, rfl⟩⟩
  unfold zsi zmi zup
  simp only
  rw [if_neg (fun z => q (by rw [z.1, z.2]; exact h))]
theorem fr_rs {a : Nat} {e z : Int} (h : Q a e.toNat) : fr Q A (rs A a e z) := fr_si h
theorem fr_sl {a j : Nat} {x : Int64} (h : Q a j) : fr Q A (zsl A a j x) := by
  refine ⟨rfl, rfl, fun b k q => ⟨rfl, ?_⟩⟩
  unfold zsl zml zup
  simp only
  rw [if_neg (fun z => q (by rw [z.1, z.2]; exact h))]
theorem rF.fr {l m : List Nat} (h : rF l m A B) (h1 : ∀ a j, l.contains a = true → Q a j) (h2 : ∀ j, m.contains j = true → Q 226 j) : fr Q A B := by
  refine ⟨h.1, by rw [h.2.1], fun a j q => ⟨h.2.2 a j ?_ (fun z => ?_), by unfold zml; rw [h.2.1]⟩⟩
  · cases hc : l.contains a with
    | false => rfl
    | true => exact absurd (h1 a j hc) q
  · cases hc : m.contains j with
    | false => rfl
    | true => exact absurd (z ▸ h2 j hc) q
end
/-- things alone -/
def qT (a j : Nat) : Prop := (252 ≤ a ∧ a ≤ 258) ∨ (a = 226 ∧ j = 42)
theorem rF_qT {A B : zA} (h : rF rtl [42] A B) : fr qT A B := h.fr (fun a j q => by
  have : a = 252 ∨ a = 253 ∨ a = 254 ∨ a = 255 ∨ a = 256 ∨ a = 257 ∨ a = 258 := by
    simp only [rtl, List.contains_iff_mem, List.mem_cons, List.not_mem_nil, or_false] at q
    exact q
  left; omega) (fun j q => by
  simp only [List.contains_iff_mem, List.mem_cons, List.not_mem_nil, or_false] at q
  right; exact ⟨rfl, q⟩)
/-- the class's kinds of the reference's -/
def cm (k : Int) : Int := if k = 3 then 4 else if k = 4 then 5 else if k = 5 then 6 else if k = 6 then 7 else if k = 7 then 3 else k
theorem cm_inj {x y : Int} (hx : 0 ≤ x ∧ x ≤ 7) (hy : 0 ≤ y ∧ y ≤ 7) (h : cm x = cm y) : x = y := by
  unfold cm at h
  repeat' split at h
  all_goals omega
def rkc (A : zA) (i : Nat) : Nd := (cm (ri A 252 i), ri A 253 i, ri A 254 i, ri A 255 i)
theorem rkc_of {A B : zA} {i j : Nat} (h : rk B i = rk A j) : rkc B i = rkc A j := by
  unfold rk at h
  simp only [Prod.mk.injEq] at h
  unfold rkc
  rw [h.1, h.2.1, h.2.2.1, h.2.2.2]
/-- its things -/
def RTh (A : zA) (t : Nat) (D : Nat → T) : Prop := RT A t ∧ GT (rkc A) t D ∧ ∀ i : Nat, i < t → 0 ≤ ri A 252 i ∧ ri A 252 i ≤ 7
section
variable {N : Nat} {A : zA} {t : Nat} {D : Nat → T}
theorem r_make {k x y z : Int} (hN : 300000 ≤ N) (h : RTh A t D) (ht : t < 16000) (hn : wn (cm k, x, y, z) t) (k0 : 0 ≤ k) (k7 : k ≤ 7) (wx : zw x = x) (wy : zw y = y) (wz : zw z = z) : ∃ (j t' : Nat) (B : zA) (D' : Nat → T), z_M_thing N k x y z A = some ((j : Int), B) ∧ RTh B t' D' ∧ j < t' ∧ D' j = cden D (cm k, x, y, z) ∧ t ≤ t' ∧ t' ≤ t + 1 ∧ (∀ i, i < t → D' i = D i) ∧ fr qT A B := by
  obtain ⟨hT, hG, hK⟩ := h
  obtain ⟨j, t', B, b1, b2, b3, b4, b5, b6, b7, b8, b9⟩ := M_thing (k := k) (a := x) (b := y) (c := z) hN hT ht (yb_w (by omega) (by omega)) wx wy wz
  have kB : ∀ i, i < t → rkc B i = rkc A i := fun i hi => rkc_of (b8 i hi)
  have k2 : ∀ i, i < t → ri B 252 i = ri A 252 i := fun i hi => by have := b8 i hi; unfold rk at this; simp only [Prod.mk.injEq] at this; exact this.1
  have kj : ri B 252 j = k := by unfold rk at b5; simp only [Prod.mk.injEq] at b5; exact b5.1
  have cj : rkc B j = (cm k, x, y, z) := by
    unfold rk at b5
    simp only [Prod.mk.injEq] at b5
    unfold rkc
    rw [b5.1, b5.2.1, b5.2.2.1, b5.2.2.2]
  by_cases c1 : t' = t
  · subst c1
    have hG' : GT (rkc B) t' D := hG.take (Nat.le_refl _) kB
    refine ⟨j, t', B, D, b1, ⟨b3, hG', fun i hi => by rw [k2 i hi]; exact hK i hi⟩, b4, ?_, by omega, by omega, fun _ _ => rfl, rF_qT b2⟩
    rw [(hG'.1 j b4).2, cj]
  · have ej : j = t := b9.resolve_left c1
    subst ej
    have : t' = j + 1 := by omega
    subst this
    have hG' := hG.ext kB cj hn (fun i hi he => by
      refine b3.2.2.2.2 i j hi (by omega) ?_
      rw [b8 i hi, b5]
      have hk := hK i hi
      unfold rkc at he
      simp only [Prod.mk.injEq] at he
      unfold rk
      rw [cm_inj hk ⟨k0, k7⟩ he.1, he.2.1, he.2.2.1, he.2.2.2])
    refine ⟨j, j + 1, B, _, b1, ⟨b3, hG', fun i hi => ?_⟩, by omega, ?_, by omega, by omega, fun i hi => by rw [if_neg (by omega)], rF_qT b2⟩
    · by_cases z : i < j
      · rw [k2 i z]; exact hK i z
      · rw [show i = j by omega, kj]; exact ⟨k0, k7⟩
    · rw [if_pos rfl]
theorem r_giveBack {n : Nat} (hN : 300000 ≤ N) (h : RTh A t D) (hn : n ≤ t) : ∃ B, z_M_giveBack N n A = some B ∧ RTh B n D ∧ fr qT A B := by
  obtain ⟨hT, hG, hK⟩ := h
  obtain ⟨B, b1, b2, b3, b4⟩ := M_giveBack hN hT hn
  refine ⟨B, b1, ⟨b3, hG.take hn (fun i hi => rkc_of (b4 i hi)), fun i hi => ?_⟩, rF_qT b2⟩
  have := b4 i hi
  unfold rk at this
  simp only [Prod.mk.injEq] at this
  rw [this.1]
  exact hK i (by omega)
theorem RTh.fr {B : zA} {Q : Nat → Nat → Prop} (h : RTh A t D) (f : fr Q A B) (hq : ∀ a j, Q a j → ¬ qT a j) : RTh B t D := by
  obtain ⟨⟨h1, h2, h3, h4, h5⟩, hG, hK⟩ := h
  have e : ∀ a e, 252 ≤ a → a ≤ 258 → ri B a e = ri A a e := fun a e a1 a2 => f.e (fun z => hq _ _ z (Or.inl ⟨a1, a2⟩))
  have k : ∀ i, rk B i = rk A i := fun i => by unfold rk; rw [e 252 _ (by omega) (by omega), e 253 _ (by omega) (by omega), e 254 _ (by omega) (by omega), e 255 _ (by omega) (by omega)]
  have lbe : ∀ h n, lb B h n = lb A h n := fun h n => lb_congr (fun i hi => e 257 _ (by omega) (by omega))
  refine ⟨⟨h1, by rw [f.i (fun z => hq _ _ z (Or.inr ⟨rfl, rfl⟩))]; exact h2, fun x x0 x1 => by rw [e 258 _ (by omega) (by omega), lbe]; exact h3 x x0 x1, fun i hi => ?_, fun i j a b => by rw [k, k]; exact h5 i j a b⟩, hG.take (Nat.le_refl _) (fun i _ => rkc_of (k i)), fun i hi => by rw [e 252 _ (by omega) (by omega)]; exact hK i hi⟩
  rw [e 257 _ (by omega) (by omega), e 252 _ (by omega) (by omega), e 253 _ (by omega) (by omega), e 254 _ (by omega) (by omega), e 255 _ (by omega) (by omega), e 256 _ (by omega) (by omega), lbe]
  exact h4 i hi
theorem RTh.kd {i : Nat} (h : RTh A t D) (hi : i < t) : tkd (D i) = cm (ri A 252 i) ∧ (cm (ri A 252 i) = 0 → tvl (D i) = ri A 253 i) ∧ (ri A 252 i = 0 ↔ tkd (D i) = 0) := by
  obtain ⟨hT, hG, hK⟩ := h
  obtain ⟨h1, h2⟩ := hG.1 i hi
  have hk : tkd (D i) = cm (ri A 252 i) := by
    rw [h2]
    unfold wn at h1
    unfold cden
    rcases h1 with h | h | h | h | h | h | h | h
    all_goals rw [show (rkc A i).1 = cm (ri A 252 i) from rfl] at *
    all_goals rw [h.1]
    all_goals rfl
  refine ⟨hk, fun z => ?_, ?_⟩
  · rw [h2]
    unfold cden
    rw [show (rkc A i).1 = cm (ri A 252 i) from rfl, if_pos z]
    rfl
  · rw [hk]
    have := hK i hi
    unfold cm
    repeat' split
    all_goals omega
end
