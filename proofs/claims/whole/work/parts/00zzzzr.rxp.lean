/-! the reference's expressions: the loop -/
def txk (Tx : Nat → Int) (mb : Bool) (s : Ps) : Option (Int × Ps) := (tx Tx mb s).bind fun w => if Tx w.2.1 = 60 ∨ Tx w.2.1 = 61 then none else some w
def RZ (Tx : Nat → Int) (L p b : Nat) (A : zA) (o : Option Ps) : Prop := (o = none → RXf L p b A) ∧ ∀ s, o = some s → RTx Tx L p A ∧ RPa L p b A s 0
def RZv (Tx : Nat → Int) (L p b : Nat) (A : zA) (v : Int) (o : Option (Int × Ps)) : Prop := RZ Tx L p b A (o.map Prod.snd) ∧ ∀ w, o = some w → v = w.1 ∧ 0 ≤ w.1 ∧ w.1 ≤ 300
section
variable {N : Nat} {Tx : Nat → Int} {L p b d : Nat} {mb : Bool} {A B : zA} {s : Ps}
theorem r_xstop {x1 x2 : Int} : ∀ {k : Nat}, 1 ≤ k → zi A 226 16 = 1 → z_M_expression_19_l N k x1 x2 A = some (0, A)
  | k + 1, _, h => by
    unfold z_M_expression_19_l z_M_expression_19_b z_M_expression_71
    have hn : ¬ zi A 226 16 = 0 := by omega
    split <;> simp only [if_neg hn]
theorem r_loop (hN : 300000 ≤ N) (hT : TXT Tx L) (hp : p < 4) (hm : mb = true ↔ p = 3) : ∀ (k w : Nat) (q : Mq) (A : zA), w ≤ 1 → L + 2 ≤ q.2.2.1 + k → RXx Tx L p b A (1 - w) q → ∃ v B, z_M_expression_19_l N k w 1 A = some (v, B) ∧ fr (qXp p) A B ∧ (mrun Tx mb k w q = none → RXf L p b B) ∧ ∀ q', mrun Tx mb k w q = some q' → RXx Tx L p b B 1 q' ∧ q'.1 = [] ∧ v = ri B 236 0
  | 0, w, q, A, hw, hk, h => by
    have : q.2.2.1 ≤ L := h.2.2.2.2.1
    omega
  | k + 1, w, (σ, π, s), A, hw, hk, h => by
    have a3 : s.1 ≤ L := h.2.2.2.2.1
    have hk : L + 2 ≤ s.1 + (k + 1) := hk
    unfold z_M_expression_19_l z_M_expression_19_b
    rw [if_neg (by decide), if_pos h.2.2.1]
    rcases (show w = 0 ∨ w = 1 by omega) with rfl | rfl
    · rw [if_pos (by rfl)]
      obtain ⟨v, B, b1, b2, b3, b4⟩ := r_behind (N := N) hN hT hp h
      rw [b1, zbI_s, mrun_0]
      cases hb : mbe Tx (σ, π, s) with
      | none =>
        have hf := b3 hb
        have e : ∃ x y, (if v = 0 then z_M_expression_56 (z_M_expression_19_l N k) N v 1 B else z_M_expression_56 (z_M_expression_19_l N k) N v 0 B) = z_M_expression_19_l N k x y B := by
          unfold z_M_expression_56
          split
          · split
            · exact ⟨_, _, rfl⟩
            · exact ⟨_, _, rfl⟩
          · split
            · exact ⟨_, _, rfl⟩
            · exact ⟨_, _, rfl⟩
        obtain ⟨x, y, e⟩ := e
        rw [e, r_xstop (by omega) hf.1]
        exact ⟨0, B, rfl, b2, fun _ => hf, fun q' z => by cases z⟩
      | some u =>
        obtain ⟨w', q'⟩ := u
        rw [Option.bind_some]
        rcases b4 w' q' hb with ⟨rfl, rfl, hq⟩ | ⟨rfl, rfl, hq⟩ | ⟨rfl, rfl, hq, hq1⟩
        · have hat : s.1 < q'.2.2.1 := mbe_at hb (show (1 : Nat) ≠ 2 by decide)
          rw [if_pos rfl]
          unfold z_M_expression_56
          rw [if_neg (by decide)]
          obtain ⟨v', C, c1, c2, c3, c4⟩ := r_loop hN hT hp hm k 1 q' B (by omega) (by omega) hq
          exact ⟨v', C, c1, b2.trans c2, c3, c4⟩
        · have hat : s.1 < q'.2.2.1 := mbe_at hb (show (0 : Nat) ≠ 2 by decide)
          rw [if_neg (by decide)]
          unfold z_M_expression_56
          rw [if_neg (by decide)]
          obtain ⟨v', C, c1, c2, c3, c4⟩ := r_loop hN hT hp hm k 0 q' B (by omega) (by omega) hq
          exact ⟨v', C, c1, b2.trans c2, c3, c4⟩
        · rw [if_neg (by decide)]
          unfold z_M_expression_56
          rw [if_pos rfl]
          obtain ⟨k, rfl⟩ : ∃ j, k = j + 1 := ⟨k - 1, by omega⟩
          unfold z_M_expression_19_l z_M_expression_19_b z_M_expression_71
          rw [if_pos rfl, if_pos hq.2.2.1, zrd_ok (by omega) (by omega)]
          refine ⟨_, B, rfl, b2, fun z => (by cases z), fun q'' z => ?_⟩
          have z : some q' = some q'' := z
          cases z
          exact ⟨hq, hq1, rfl⟩
    · rw [if_neg (by decide)]
      obtain ⟨v, B, b1, b2, b3, b4⟩ := r_factor (N := N) hN hT hp hm h
      rw [b1, zbI_s, mrun_1]
      cases hb : mfa Tx mb (σ, π, s) with
      | none =>
        have hf := b3 hb
        rw [r_xstop (by omega) hf.1]
        exact ⟨0, B, rfl, b2, fun _ => hf, fun q' z => by cases z⟩
      | some u =>
        obtain ⟨w', q'⟩ := u
        obtain ⟨rfl, hq⟩ := b4 w' q' hb
        have hat : s.1 < q'.2.2.1 := mfa_at hT a3 hb
        have hw' : w' ≤ 1 := by
          unfold mfa at hb
          split at hb
          · cases hb; omega
          · split at hb
            · cases hb; omega
            · split at hb
              · cases hb; omega
              · split at hb
                · split at hb
                  · cases hb; omega
                  · split at hb
                    · cases hb; omega
                    · split at hb
                      · cases hb; omega
                      · cases hb
                · cases hb
        obtain ⟨v', C, c1, c2, c3, c4⟩ := r_loop hN hT hp hm k w' q' B hw' (by omega) hq
        exact ⟨v', C, c1, b2.trans c2, c3, c4⟩
theorem r_expr {o : Option Ps} (hN : 300000 ≤ N) (hT : TXT Tx L) (hp : p < 4) (hm : mb = true ↔ p = 3) (h : RZ Tx L p b A o) : ∃ v B, z_M_expression N A = some (v, B) ∧ fr (qXp p) A B ∧ RZv Tx L p b B v (o.bind (txk Tx mb)) := by
  unfold z_M_expression z_M_expression_19
  rw [zlet_s, zlet_s, zlet_s]
  have f0 : fr (fun a j => a = 226 ∧ (j = 19 ∨ j = 20 ∨ j = 21)) A (zsi (zsi (zsi A 226 19 0) 226 20 0) 226 21 0) := ((fr_si ⟨rfl, by omega⟩).trans (fr_si ⟨rfl, by omega⟩)).trans (fr_si ⟨rfl, by omega⟩)
  have e19 : zi (zsi (zsi (zsi A 226 19 0) 226 20 0) 226 21 0) 226 19 = 0 := by rw [zi_si_j (by decide), zi_si_j (by decide), zi_si_s]; decide
  have e20 : zi (zsi (zsi (zsi A 226 19 0) 226 20 0) 226 21 0) 226 20 = 0 := by rw [zi_si_j (by decide), zi_si_s]; decide
  have e21 : zi (zsi (zsi (zsi A 226 19 0) 226 20 0) 226 21 0) 226 21 = 0 := by rw [zi_si_s]; decide
  have fX : fr (qXp p) A (zsi (zsi (zsi A 226 19 0) 226 20 0) 226 21 0) := f0.mono (fun a j z => Or.inl ⟨z.1, by omega⟩)
  generalize zsi (zsi (zsi A 226 19 0) 226 20 0) 226 21 0 = A1 at *
  cases o with
  | none =>
    have hf : RXf L p b A1 := (h.1 rfl).fr f0 (fun j hj z => by omega) (fun j z => by omega)
    rw [r_xstop (by omega) hf.1]
    exact ⟨0, A1, rfl, fX, ⟨⟨fun _ => hf, fun s z => by cases z⟩, fun w z => by cases z⟩⟩
  | some s =>
    obtain ⟨ht, hpa⟩ := h.2 s rfl
    have hpa' := hpa
    obtain ⟨a1, a2, a3, a4, a5, a6, a7⟩ := hpa
    have hx : RXx Tx L p b A1 0 ([], [], s) := ⟨ht.fr f0 (fun z => by omega) (fun z => by omega) (fun j z => by omega), ⟨e19, trivial, e20, trivial, e21, rfl, fun o z => (by cases z), fun o z => (by cases z), Nat.zero_le _⟩, ⟨by rw [f0.i (fun z => by omega)]; exact a1, by rw [f0.i (fun z => by omega)]; exact a2, a3, a4.fr (by have := hT.1; omega) f0 (fun a j z q => by rw [z.1] at q; exact nqRo226 q), a5, a6, a7⟩⟩
    have hl := hT.1
    obtain ⟨v, B, b1, b2, b3, b4⟩ := r_loop (N := N) (mb := mb) hN hT hp hm N 1 ([], [], s) A1 (by omega) (by show L + 2 ≤ s.1 + N; omega) hx
    have b1 : z_M_expression_19_l N N 1 1 A1 = some (v, B) := b1
    obtain ⟨m1, m2⟩ := m_x (mb := mb) (N := N) (s := s) (by omega) hT a3 a7
    refine ⟨v, B, b1, fX.trans b2, ?_⟩
    show RZv Tx L p b B v (txk Tx mb s)
    unfold txk
    cases ht' : tx Tx mb s with
    | none =>
      have hf := b3 (m2 ht')
      exact ⟨⟨fun _ => hf, fun s z => by cases z⟩, fun w z => by cases z⟩
    | some w =>
      rw [Option.bind_some]
      rcases m1 w ht' with ⟨n1, n2, n3⟩ | ⟨n1, n2⟩
      · rw [if_neg (by omega)]
        obtain ⟨y1, y2, y3⟩ := b4 _ n3
        have k4 : stk B 236 [w.1] := y1.2.1.2.2.2.1
        have rv := y1.2.1.2.2.2.2.2.2.2.1 w.1 List.mem_cons_self
        have hpw : RPa L p b B w.2 0 := y1.2.2
        have ev : v = w.1 := by rw [y3]; exact k4.1
        refine ⟨⟨fun z => (by cases z), fun s' z => ?_⟩, fun w' z => ?_⟩
        · cases z
          exact ⟨y1.1, hpw⟩
        · cases z
          exact ⟨ev, rv⟩
      · rw [if_pos n1]
        have hf := b3 n2
        exact ⟨⟨fun _ => hf, fun s z => by cases z⟩, fun w z => by cases z⟩
end
