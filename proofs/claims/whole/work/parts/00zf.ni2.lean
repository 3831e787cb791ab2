/-! .. and the same of WHILE; a walk; the circling ones behind the registers drop out at once -/
section
variable {P : Pg} {ex : Nat → Prop} {nd : Int → Nat} {R : Bool → Nat → Nat → Nat → St → St} {n p a m e : Nat} {sil : Bool}
theorem cS0_nb {g i : Nat} (h : NB g i) : cS0 g i = false := by
  unfold cS0
  have h1 := h.1
  have h2 := h.2
  have a1 : Nat.blt i g = false := by
    cases q : Nat.blt i g with
    | false => rfl
    | true => rw [Nat.blt_eq] at q; omega
  have a2 : Nat.beq i 60 = false := by
    cases q : Nat.beq i 60 with
    | false => rfl
    | true => have := Nat.eq_of_beq_eq_true q; omega
  rw [a1, a2]
  rfl
theorem rdS_sub {w : Int} {s : St} {S : Nat → Bool} {i : Nat} (h : S i = false) : rdS P R p a w s S i = false := by
  unfold rdS
  rw [h, Bool.false_and]
theorem fcS_sb {w : Int} {s : St} : ∀ {k : Nat} {S : Nat → Bool} {i : Nat}, S i = false → fcS P R p a w s k S i = false
  | 0, _, _, h => h
  | k + 1, S, i, h => by
    unfold fcS
    by_cases q : rdS P R p a w s S = S
    · rw [cif_pos q]; exact h
    · rw [cif_neg q]; exact fcS_sb (rdS_sub h)
theorem fcS_fix {w : Int} {s : St} {S : Nat → Bool} (h : rdS P R p a w s S = S) : ∀ k, fcS P R p a w s k S = S
  | 0 => rfl
  | k + 1 => by unfold fcS; rw [cif_pos h]
theorem fcS_eq {w : Int} {s s' : St} (hN : RN P ex nd R n) (hp : ex p) (hm : P.2.2.1 p a = m) (he : P.2.2.1 p m = e) (h3 : e < P.2.2.2.1 p) (h1 : a < m) (h2 : m < e) (b1 : Bl nd (P.1 p) (fun k => P.2.1 p k 1) (P.2.2.1 p) n (a + 1) m) (b2 : Bl nd (P.1 p) (fun k => P.2.1 p k 1) (P.2.2.1 p) n (m + 1) e) (h : EQ (P.2.2.2.2 p) s s') : ∀ (k : Nat) (S : Nat → Bool), (∀ i, NB (P.2.2.2.2 p) i → S i = false) → fcS P R p a w s k S = fcS P R p a w s' k S
  | 0, _, _ => rfl
  | k + 1, S, hS => by
    have hr : rdS P R p a w s S = rdS P R p a w s' S := NI_rd hN hp hm he h3 h1 h2 b1 b2 h (fun _ _ => rfl) hS
    have ih := fcS_eq (w := w) hN hp hm he h3 h1 h2 b1 b2 h k (rdS P R p a w s' S) (fun i hi => rdS_sub (hS i hi))
    unfold fcS
    rw [hr, ih]
theorem NI_wh (hN : RN P ex nd R n) (hw : WfP P ex) (hp : ex p) (h11 : P.1 p m = 11) (hm : P.2.2.1 p a = m) (he : P.2.2.1 p m = e) (h1 : a < m) (h2 : m < e) (h3 : e < P.2.2.2.1 p) (b1 : Bl nd (P.1 p) (fun k => P.2.1 p k 1) (P.2.2.1 p) n (a + 1) m) (b2 : Bl nd (P.1 p) (fun k => P.2.1 p k 1) (P.2.2.1 p) n (m + 1) e) : (∀ s s', EQ (P.2.2.2.2 p) s s' → EQ (P.2.2.2.2 p) (whS P R sil p a s) (whS P R sil p a s')) ∧ ∀ s, KP (P.2.2.2.2 p) s (whS P R sil p a s) := by
  obtain ⟨w1, w2, w3, w4⟩ := hw p hp
  obtain ⟨u1, u2, u3, u4, u5⟩ := w4 m (by omega)
  have nb : nbk (P.1 p m) = 1 := by rw [h11]; decide
  have hr := (u3 0 (by omega)).2.2 ⟨fun z => by omega, fun z => by omega, fun z => by omega⟩
  have r0 : ¬ NB (P.2.2.2.2 p) (P.2.1 p m 0).toNat := nb_reg hr.1 hr.2
  obtain ⟨n1, k1⟩ := hN sil p (a + 1) m hp b1 (by omega)
  obtain ⟨n2, k2⟩ := hN sil p (m + 1) e hp b2 (by omega)
  constructor
  · intro s s' h
    unfold whS
    simp only [hm, he]
    have hw0 : s.2.2.2.1 = s'.2.2.2.1 := by rw [h.1]
    rw [hw0]
    rw [fcS_eq hN hp hm he h3 h1 h2 b1 b2 h 62 (cS0 (P.2.2.2.2 p)) (fun i hi => cS0_nb hi)]
    have hSn : ∀ i, NB (P.2.2.2.2 p) i → fcS P R p a s'.2.2.2.1 s' 62 (cS0 (P.2.2.2.2 p)) i = false := fun i hi => fcS_sb (cS0_nb hi)
    generalize fcS P R p a s'.2.2.2.1 s' 62 (cS0 (P.2.2.2.2 p)) = S at *
    generalize s'.2.2.2.1 = w at *
    have e2 := n1 _ _ (EQ_say (sil := sil) (w := 6) (x := none) (EQ_beg (w := w) (S := S) h))
    generalize R sil p (a + 1) m (sSay sil 6 none (sBeg w S s)) = s2 at *
    generalize R sil p (a + 1) m (sSay sil 6 none (sBeg w S s')) = s2' at *
    rw [e2.2 _ r0]
    have e4 := EQ_say (sil := sil) (w := 8) (x := none) (n2 _ _ (EQ_say (sil := sil) (w := 7) (x := some (s2'.1 (P.2.1 p m 0).toNat)) e2))
    generalize sSay sil 8 none (R sil p (m + 1) e (sSay sil 7 (some (s2'.1 (P.2.1 p m 0).toNat)) s2)) = s4 at *
    generalize sSay sil 8 none (R sil p (m + 1) e (sSay sil 7 (some (s2'.1 (P.2.1 p m 0).toNat)) s2')) = s4' at *
    refine ⟨?_, e2.2⟩
    dsimp only
    have hl : ((List.range 61).filter S).map (fun i => (w, i, s.1 i, s4.1 i)) = ((List.range 61).filter S).map (fun i => (w, i, s'.1 i, s4'.1 i)) := by
      apply List.map_congr_left
      intro i hi
      have hi := (List.mem_filter.mp hi).2
      have ni : ¬ NB (P.2.2.2.2 p) i := fun z => by rw [hSn i z] at hi; cases hi
      rw [h.2 i ni, e4.2 i ni]
    rw [hl, e4.1, h.1]
  · intro s
    unfold whS
    simp only [hm, he]
    have hSn : ∀ i, NB (P.2.2.2.2 p) i → fcS P R p a s.2.2.2.1 s 62 (cS0 (P.2.2.2.2 p)) i = false := fun i hi => fcS_sb (cS0_nb hi)
    generalize fcS P R p a s.2.2.2.1 s 62 (cS0 (P.2.2.2.2 p)) = S at *
    intro i hi
    have q := k1 (sSay sil 6 none (sBeg s.2.2.2.1 S s)) i hi
    rw [say22.2] at q
    show (R sil p (a + 1) m (sSay sil 6 none (sBeg s.2.2.2.1 S s))).1 i = s.1 i
    rw [q]
    show (if S i then tCir s.2.2.2.1 i else s.1 i) = s.1 i
    rw [hSn i hi]
    rfl
end
section
variable {P : Pg} {ex : Nat → Prop} {nd : Int → Nat}
theorem wkl_ni {sz : Nat → Nat} {R : Bool → Nat → Nat → Nat → St → St} {n : Nat} {In : Nat → Nat → Prop} {sil : Bool} {p : Nat} (hp : ex p) (hI : ∀ x y, In x y → Bl nd (P.1 p) (fun k => P.2.1 p k 1) (P.2.2.1 p) n x y) (hR : RN P ex nd R n) (hw : WfP P ex) : ∀ (l f a b : Nat), Bs nd (P.1 p) (fun k => P.2.1 p k 1) (P.2.2.1 p) n In f a b → b ≤ P.2.2.2.1 p → (∀ s s', EQ (P.2.2.2.2 p) s s' → EQ (P.2.2.2.2 p) (wkl P R sil p l a b s) (wkl P R sil p l a b s')) ∧ ∀ s, KP (P.2.2.2.2 p) s (wkl P R sil p l a b s) := by
  intro l
  induction l with
  | zero => intro f a b _ _; exact ⟨fun s s' h => h, fun s => KP.refl s⟩
  | succ l ih =>
    intro f a b hB hb
    by_cases c : a < b
    · cases f with
      | zero => have : a = b := hB; omega
      | succ f =>
        have tr : ∀ (g : St → St) (c : Nat), ((∀ s s', EQ (P.2.2.2.2 p) s s' → EQ (P.2.2.2.2 p) (g s) (g s')) ∧ ∀ s, KP (P.2.2.2.2 p) s (g s)) → ((∀ s s', EQ (P.2.2.2.2 p) s s' → EQ (P.2.2.2.2 p) (wkl P R sil p l c b s) (wkl P R sil p l c b s')) ∧ ∀ s, KP (P.2.2.2.2 p) s (wkl P R sil p l c b s)) → ((∀ s s', EQ (P.2.2.2.2 p) s s' → EQ (P.2.2.2.2 p) (wkl P R sil p l c b (g s)) (wkl P R sil p l c b (g s'))) ∧ ∀ s, KP (P.2.2.2.2 p) s (wkl P R sil p l c b (g s))) := fun g c h1 h2 => ⟨fun s s' h => h2.1 _ _ (h1.1 _ _ h), fun s i hi => by rw [h2.2 (g s) i hi]; exact h1.2 s i hi⟩
        unfold wkl
        simp only [if_pos c]
        rcases hB with hB | ⟨-, ⟨hB, hB2⟩ | hB | hB⟩
        · omega
        · have ne : P.1 p a ≠ 8 ∧ P.1 p a ≠ 10 := by omega
          simp only [if_neg ne.1, if_neg ne.2]
          rcases hB with hB | hB
          · simp only [if_neg (show ¬ P.1 p a = 7 by omega)]
            exact tr _ _ (NI_pl hw hp (by omega) hB.2) (ih f (a + 1) b hB2 hb)
          · simp only [if_pos hB.1]
            exact tr _ _ (NI_cl hR hw hp hB.1 (by omega)) (ih f (a + 1) b hB2 hb)
        · obtain ⟨g1, g2, g3, g4, g5, g6, g7, g8, g9, g10⟩ := hB
          simp only [if_pos g1]
          exact tr _ _ (NI_if hR hw hp g1 rfl rfl g2 g3 (by omega) (hI _ _ g8) (hI _ _ g9)) (ih f _ b g10 hb)
        · obtain ⟨g1, g2, g3, g4, g5, g6, g7, g8, g9, g10⟩ := hB
          simp only [if_neg (show ¬ P.1 p a = 8 by omega), if_pos g1]
          exact tr _ _ (NI_wh hR hw hp g5 rfl rfl g2 g3 (by omega) (Bl_plain (by omega) (fun k k1 k2 => g8 k (by omega) k2)) (hI _ _ g9)) (ih f _ b g10 hb)
    · unfold wkl
      simp only [if_neg c]
      exact ⟨fun s s' h => h, fun s => KP.refl s⟩
theorem wk_ni (hw : WfP P ex) : ∀ n, RN P ex nd (wk P n) n := by
  intro n
  induction n with
  | zero =>
    intro sil p a b hp hB hb
    have key : ∀ l a, (∀ k, a ≤ k → k < b → 0 ≤ P.1 p k ∧ P.1 p k ≤ 6) → (∀ s s', EQ (P.2.2.2.2 p) s s' → EQ (P.2.2.2.2 p) (wkl P (fun _ _ _ _ s => s) sil p l a b s) (wkl P (fun _ _ _ _ s => s) sil p l a b s')) ∧ ∀ s, KP (P.2.2.2.2 p) s (wkl P (fun _ _ _ _ s => s) sil p l a b s) := by
      intro l
      induction l with
      | zero => intro a _; exact ⟨fun s s' h => h, fun s => KP.refl s⟩
      | succ l ih =>
        intro a hk
        unfold wkl
        by_cases c : a < b
        · simp only [if_pos c]
          have := hk a (Nat.le_refl _) c
          simp only [if_neg (show ¬ P.1 p a = 8 by omega), if_neg (show ¬ P.1 p a = 10 by omega), if_neg (show ¬ P.1 p a = 7 by omega)]
          have ih := ih (a + 1) (fun k k1 k2 => hk k (by omega) k2)
          have h1 := NI_pl (sil := sil) hw hp (show a < P.2.2.2.1 p by omega) this.2
          exact ⟨fun s s' h => ih.1 _ _ (h1.1 _ _ h), fun s i hi => by rw [ih.2 _ i hi]; exact h1.2 s i hi⟩
        · simp only [if_neg c]
          exact ⟨fun s s' h => h, fun s => KP.refl s⟩
    exact key (b - a) a hB.2
  | succ n ih =>
    intro sil p a b hp hB hb
    exact wkl_ni (sz := fun _ => 0) hp (fun x y h => h) ih hw (b - a) (b - a) a b hB hb
theorem fcS_all {R : Bool → Nat → Nat → Nat → St → St} {n p a m e : Nat} {w : Int} {s : St} (hN : RN P ex nd R n) (hp : ex p) (hm : P.2.2.1 p a = m) (he : P.2.2.1 p m = e) (h3 : e < P.2.2.2.1 p) (h1 : a < m) (h2 : m < e) (b1 : Bl nd (P.1 p) (fun k => P.2.1 p k 1) (P.2.2.1 p) n (a + 1) m) (b2 : Bl nd (P.1 p) (fun k => P.2.1 p k 1) (P.2.2.1 p) n (m + 1) e) (hg : P.2.2.2.2 p ≤ 60) : fcS P R p a w s 62 (cS0 60) = fcS P R p a w s 62 (cS0 (P.2.2.2.2 p)) := by
  by_cases c : P.2.2.2.2 p = 60
  · rw [c]
  have hr : rdS P R p a w s (cS0 60) = rdS P R p a w s (cS0 (P.2.2.2.2 p)) := by
    refine NI_rd hN hp hm he h3 h1 h2 b1 b2 (EQ.refl s) (fun i hi => ?_) (fun i hi => cS0_nb hi)
    unfold cS0
    by_cases z : i = 60
    · rw [z]; simp
    · have : ¬ P.2.2.2.2 p ≤ i := fun q => hi ⟨q, z⟩
      have a1 : Nat.blt i 60 = true := by rw [Nat.blt_eq]; omega
      have a2 : Nat.blt i (P.2.2.2.2 p) = true := by rw [Nat.blt_eq]; omega
      rw [a1, a2]
  have hf : rdS P R p a w s (cS0 60) (P.2.2.2.2 p) = false := by rw [hr]; exact rdS_sub (cS0_nb ⟨Nat.le_refl _, c⟩)
  have ht : cS0 60 (P.2.2.2.2 p) = true := by
    unfold cS0
    have a1 : Nat.blt (P.2.2.2.2 p) 60 = true := by rw [Nat.blt_eq]; omega
    rw [a1]; rfl
  have hne : ¬ rdS P R p a w s (cS0 60) = cS0 60 := fun z => by rw [z, ht] at hf; cases hf
  have e1 : fcS P R p a w s 62 (cS0 60) = fcS P R p a w s 61 (rdS P R p a w s (cS0 60)) := by
    show cif _ _ _ = _
    rw [cif_neg hne]
  rw [e1, hr]
  show _ = cif (rdS P R p a w s (cS0 (P.2.2.2.2 p)) = cS0 (P.2.2.2.2 p)) (cS0 (P.2.2.2.2 p)) (fcS P R p a w s 61 (rdS P R p a w s (cS0 (P.2.2.2.2 p))))
  by_cases q : rdS P R p a w s (cS0 (P.2.2.2.2 p)) = cS0 (P.2.2.2.2 p)
  · rw [cif_pos q, q]; exact fcS_fix q 61
  · rw [cif_neg q]
end
