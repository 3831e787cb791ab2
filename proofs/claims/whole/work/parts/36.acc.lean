/-! the kernel's machine with that loop in one step -/
noncomputable def mq_fill (P : mj_Pr) (nT : Nat) (go : mq_G) (d w mi : Nat) (L : mj_L) (S : List Value) (h : mq_H) (X : mq_X) : mq_R := match L, S with
  | [some (.ref r), some (.int x), l2], [] => (match mq_cell h r with
    | some (false, 12, n, dv, m) => (match mq_look P (false, 12, n, dv, m) 49 with
      | .ref b => (match mq_cell h b with
        | some (true, 0, n2, _, _) => bif decide (x = 0) && Nat.blt 49 n && Nat.beq n2 4096 && Nat.ble nT b && !Nat.beq r b then mq_p2K h.2 b (true, 0, 4096, .int (-1), []) (fun g => go d w mi 7 [some (.ref r), some (.int 4096), l2] [] (h.1, g) X) else none
        | _ => none)
      | _ => none)
    | _ => none)
  | _, _ => none
noncomputable def mq_at0 (L : mj_L) : Bool := match L with
  | [_, some (.int x), _] => decide (x = 0)
  | _ => false
/-- am: the method with the loop -/
noncomputable def mq_runA (P : mj_Pr) (nT am : Nat) (n : Nat) : mq_G := Nat.rec (motive := fun _ => mq_G) (fun _ _ _ _ _ _ _ _ => none) (fun _ go d w mi pc L S h X => bif Nat.beq mi am && Nat.beq pc 7 && mq_at0 L then mq_fill P nT go d w mi L S h X else (match P.code mi pc with
  | some (i, len) => mq_body P nT go d w mi pc (pc + len) i L S h X
  | none => none)) n
section MQW
variable {P : mj_Pr} {nT : Nat} {go : mq_G}
theorem mq_Snd_le {n k : Nat} (hnk : n ≤ k) (h : mq_Snd P nT go (mj_ex P nT n)) : mq_Snd P nT go (mj_ex P nT k) := fun d w mi pc L S h0 X o h1 X1 hx => ⟨(h d w mi pc L S h0 X o h1 X1 hx).1, fun ρ hρ => mj_ex_le P nT n k hnk _ _ _ _ _ _ _ _ ((h d w mi pc L S h0 X o h1 X1 hx).2 ρ hρ)⟩
theorem mq_c_eta {ρ : Nat → Int32} {b : Bool} {u n : Nat} {dv : Value} {m : mq_M Value} : mq_c P ρ (b, u, n, dv, m) = (b, u, (mq_c P ρ (b, u, n, dv, m)).2.2) := rfl
theorem mq_fill_ok {d w mi n : Nat} {L : mj_L} {S : List Value} {h h1 : mq_H} {X X1 : mq_X} {o : mj_O} (hlc : ∀ q ∈ mq_lc, P.code mi q.1 = some q.2) (ih : mq_Snd P nT go (mj_ex P nT n)) (hx : mq_fill P nT go d w mi L S h X = some (o, h1, X1)) : (∀ f ∈ X.2.2, f ∈ X1.2.2) ∧ ∀ ρ, mq_Ok ρ X1.2.2 → mj_ex P nT (n + 10 * 4096) d w mi 7 (mq_l ρ L) (mq_s ρ S) (mq_h P ρ h) = some (mq_o ρ o, mq_h P ρ h1) := by
  unfold mq_fill at hx
  split at hx
  · rename_i r x l2
    split at hx
    · rename_i n1 dv m hr
      split at hx
      · rename_i b hlk
        split at hx
        · rename_i n2 dv2 m2 hb
          obtain ⟨hc, hy⟩ := mq_bt hx
          clear hx
          simp only [Bool.and_eq_true, Bool.not_eq_true', decide_eq_true_eq] at hc
          obtain ⟨⟨⟨⟨rfl, c2⟩, c3⟩, c4⟩, c5⟩ := hc
          have c3 := Nat.eq_of_beq_eq_true c3
          subst c3
          have c4 := Nat.le_of_ble_eq_true c4
          have c5 : r ≠ b := fun z => by
            rw [z, Nat.beq_refl] at c5
            cases c5
          rw [mq_p2K_eq] at hy
          obtain ⟨k1, k2⟩ := ih _ _ _ _ _ _ _ _ _ _ _ hy
          refine ⟨k1, fun ρ hρ => ?_⟩
          have k3 := k2 ρ hρ
          obtain ⟨g1, -, -⟩ := mq_h_at (P := P) (ρ := ρ) hr
          obtain ⟨g2, -, -⟩ := mq_h_at (P := P) (ρ := ρ) hb
          have g3 := mq_c_at (P := P) (ρ := ρ) (c := (false, 12, n1, dv, m)) (j := 49) (Nat.blt_eq.mp c2)
          rw [hlk] at g3
          have lv : (mq_c P ρ (true, 0, 4096, dv2, m2)).2.2.length = 4096 := mq_c_len
          rw [mq_c_eta] at g1 g2
          have g3 : (mq_c P ρ (false, 12, n1, dv, m)).2.2[49]? = some (.ref b) := g3
          generalize (mq_c P ρ (true, 0, 4096, dv2, m2)).2.2 = vs at lv g2
          generalize (mq_c P ρ (false, 12, n1, dv, m)).2.2 = fs at g1 g3
          rw [mq_h_set, mq_c_rep (show mq_v ρ (.int (-1)) = .int (-1) from rfl)] at k3
          rw [show mq_l ρ [some (.ref r), some (.int 0), l2] = [some (.ref r), some (.int (Int32.ofNat 0)), l2.map (mq_v ρ)] from rfl, show mq_s ρ [] = [] from rfl]
          rw [mq_loop hlc g3 c4 c5 4096 0 vs (mq_h P ρ h) (Nat.zero_add _) g1 g2 lv]
          exact k3
        · cases hx
      · cases hx
    · cases hx
  · cases hx
def mq_KK : Nat := 50000
theorem mq_KK1 (n : Nat) : mq_KK * n + 10 * 4096 ≤ mq_KK * (n + 1) := by
  unfold mq_KK
  omega
theorem mq_KK2 (n : Nat) : ∃ N, mq_KK * (n + 1) = N + 1 ∧ mq_KK * n ≤ N := ⟨50000 * n + 49999, by unfold mq_KK; omega, by unfold mq_KK; omega⟩
theorem mq_runA_one {am n : Nat} (hdf : ∀ ci, ∀ v ∈ P.dfl ci, ∀ k, v ≠ .retAddr k) (hlc : ∀ q ∈ mq_lc, P.code am q.1 = some q.2) (ih : mq_Snd P nT (mq_runA P nT am n) (mj_ex P nT (mq_KK * n))) : mq_Snd P nT (mq_runA P nT am (n + 1)) (mj_ex P nT (mq_KK * (n + 1))) := by
  intro d w mi pc L S h X o h1 X1 hx
  have hx : (bif Nat.beq mi am && Nat.beq pc 7 && mq_at0 L then mq_fill P nT (mq_runA P nT am n) d w mi L S h X else (match P.code mi pc with
    | some (i, len) => mq_body P nT (mq_runA P nT am n) d w mi pc (pc + len) i L S h X
    | none => none)) = some (o, h1, X1) := hx
  cases hb : (Nat.beq mi am && Nat.beq pc 7 && mq_at0 L) with
  | true =>
    rw [hb] at hx
    simp only [Bool.and_eq_true] at hb
    have e1 := Nat.eq_of_beq_eq_true hb.1.1
    have e2 := Nat.eq_of_beq_eq_true hb.1.2
    subst e1
    subst e2
    obtain ⟨k1, k2⟩ := mq_fill_ok (n := mq_KK * n) hlc ih hx
    exact ⟨k1, fun ρ hρ => mj_ex_le P nT _ _ (mq_KK1 n) _ _ _ _ _ _ _ _ (k2 ρ hρ)⟩
  | false =>
    rw [hb] at hx
    dsimp only [cond_false] at hx
    obtain ⟨N, e, hN⟩ := mq_KK2 n
    split at hx
    · rename_i i len hc
      have k := mq_body_ok hdf (mq_Snd_le hN ih) hc hx
      rw [e]
      exact k
    · cases hx
theorem mq_runA_ok {am : Nat} (hdf : ∀ ci, ∀ v ∈ P.dfl ci, ∀ k, v ≠ .retAddr k) (hlc : ∀ q ∈ mq_lc, P.code am q.1 = some q.2) (n : Nat) : mq_Snd P nT (mq_runA P nT am n) (mj_ex P nT (mq_KK * n)) := by
  induction n with
  | zero => exact fun _ _ _ _ _ _ _ _ _ _ _ hx => nomatch hx
  | succ n ih => exact mq_runA_one hdf hlc ih
end MQW
