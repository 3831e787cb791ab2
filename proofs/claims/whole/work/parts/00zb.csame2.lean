section
variable {cc : List (Int × Nat × T × T)} {v : T}
theorem chd_wrk {o : Int} {s t : T} (h : chd cc (tWrk o s t) v) : v = s ∨ v = t := by
  rcases h with ⟨o', s', t', h, q⟩ | ⟨s', t', h, q⟩ | ⟨s', t', r', h, q⟩ | ⟨s', t', r', h, q⟩ | ⟨q', -, h, q⟩
  · obtain ⟨-, -, e3, e4, -⟩ := tnd_inj h
    rw [e3, e4]; exact q
  all_goals (have := (tnd_inj h).1; omega)
theorem chd_lod {s t : T} (h : chd cc (tLod s t) v) : v = s ∨ v = t := by
  rcases h with ⟨o', s', t', h, q⟩ | ⟨s', t', h, q⟩ | ⟨s', t', r', h, q⟩ | ⟨s', t', r', h, q⟩ | ⟨q', -, h, q⟩
  · have := (tnd_inj h).1; omega
  · obtain ⟨-, -, e3, e4, -⟩ := tnd_inj h
    rw [e3, e4]; exact q
  all_goals (have := (tnd_inj h).1; omega)
theorem chd_sto {s t r : T} (h : chd cc (tSto s t r) v) : v = s ∨ v = t ∨ v = r := by
  rcases h with ⟨o', s', t', h, q⟩ | ⟨s', t', h, q⟩ | ⟨s', t', r', h, q⟩ | ⟨s', t', r', h, q⟩ | ⟨q', -, h, q⟩
  · have := (tnd_inj h).1; omega
  · have := (tnd_inj h).1; omega
  · obtain ⟨-, -, e3, e4, e5⟩ := tnd_inj h
    rw [e3, e4, e5]; exact q
  all_goals (have := (tnd_inj h).1; omega)
theorem chd_cho {s t r : T} (h : chd cc (tCho s t r) v) : v = s ∨ v = t ∨ v = r := by
  rcases h with ⟨o', s', t', h, q⟩ | ⟨s', t', h, q⟩ | ⟨s', t', r', h, q⟩ | ⟨s', t', r', h, q⟩ | ⟨q', -, h, q⟩
  · have := (tnd_inj h).1; omega
  · have := (tnd_inj h).1; omega
  · have := (tnd_inj h).1; omega
  · obtain ⟨-, -, e3, e4, e5⟩ := tnd_inj h
    rw [e3, e4, e5]; exact q
  · have := (tnd_inj h).1; omega
theorem chd_cir {w r : Int} (h : chd cc (tCir w r) v) : ∃ q ∈ cc, q.1 = w ∧ (q.2.1 : Int) = r ∧ (v = q.2.2.1 ∨ v = q.2.2.2) := by
  rcases h with ⟨o', s', t', h, q⟩ | ⟨s', t', h, q⟩ | ⟨s', t', r', h, q⟩ | ⟨s', t', r', h, q⟩ | ⟨q', h1, h, q⟩
  · have := (tnd_inj h).1; omega
  · have := (tnd_inj h).1; omega
  · have := (tnd_inj h).1; omega
  · have := (tnd_inj h).1; omega
  · obtain ⟨e1, e2⟩ := tCir_inj h
    exact ⟨q', h1, e1.symm, e2.symm, q⟩
theorem chd_no {k x : Int} {l m r : T} (hk : k = 0 ∨ k = 3 ∨ k = 5) (h : chd cc (tnd k x l m r) v) : False := by
  rcases h with ⟨o', s', t', h, q⟩ | ⟨s', t', h, q⟩ | ⟨s', t', r', h, q⟩ | ⟨s', t', r', h, q⟩ | ⟨q', h1, h, q⟩ <;> (have := (tnd_inj h).1; omega)
end
theorem nd_len {t : Nat} {V : List Nat} (h1 : V.Nodup) (h2 : ∀ i ∈ V, i < t) : V.length ≤ t := by
  have := pig t V.length (fun k => V.getD k 0) (fun k hk => by
    have : V.getD k 0 = V[k] := by simp [List.getD, hk]
    show V.getD k 0 < t
    rw [this]; exact h2 _ (List.getElem_mem hk)) (fun i j hij hj => by
    have e1 : V.getD i 0 = V[i]'(by omega) := by simp [List.getD, show i < V.length by omega]
    have e2 : V.getD j 0 = V[j] := by simp [List.getD, hj]
    show V.getD i 0 ≠ V.getD j 0
    rw [e1, e2]
    exact (List.pairwise_iff_getElem.mp h1) i j (by omega) hj hij)
  exact this
/-- one more, unless it is there -/
def addv (V : List Nat) (j : Nat) : List Nat := if j ∈ V then V else V ++ [j]
theorem addv_mem {V : List Nat} {j i : Nat} : i ∈ addv V j ↔ i ∈ V ∨ i = j := by
  unfold addv
  split
  · constructor
    · exact Or.inl
    · rintro (h | rfl)
      · exact h
      · assumption
  · simp
theorem addv_pre (V : List Nat) (j : Nat) : ∃ x, addv V j = V ++ x := by
  unfold addv
  split
  · exact ⟨[], by simp⟩
  · exact ⟨[j], rfl⟩
section
variable {N : Nat} {A : zA} {t : Nat} {V : List Nat} {D : Nat → T}
theorem Th_reachA {j : Nat} (h : Own A) (hT : TT A 111 t) (ht : t ≤ 40000) (hV : CHN A t V) (hj : j < t) : ∃ B, z_Th_reach N 111 j A = some B ∧ LKF A B ∧ CHN B t (addv V j) := Th_reach h hT ht hV hj
/-- the parts of a thing come into the chain -/
theorem Th_reachFields {i : Nat} (h : Own A) (hT : TT A 111 t) (hG : GT (tk A 111) t D) (ht : t ≤ 40000) (hV : CHN A t V) (hi : i < t) : ∃ B V', z_Th_reachFields N 111 i A = some B ∧ LKF A B ∧ CHN B t V' ∧ (∃ x, V' = V ++ x) ∧ (∀ cc v, tkd (D i) ≠ 7 → chd cc (D i) v → ∃ j ∈ V', D j = v) ∧ (∀ j ∈ V', j ∈ V ∨ ∀ cc, chd cc (D i) (D j)) := by
  have hg := hG.1 i hi
  have hkd : tkd (D i) = (tk A 111 i).1 := by rw [hg.2, cden_kd hg.1]
  have hn : ∀ (X : zA), LKF A X → ∀ j : Int, 0 ≤ j → j < 3 → z_Th_field N 111 i j X = some (tn A 111 i (1 + j)) := fun X hX j j0 j1 => by
    rw [Th_field hX.1.own (by decide) (hX.tt hT).1 hi j0 j1, hX.2.1 i (1 + j) (by omega) (by omega)]
  have e1 : (tk A 111 i).2.1 = tn A 111 i 1 := rfl
  have e2 : (tk A 111 i).2.2.1 = tn A 111 i 2 := rfl
  have e3 : (tk A 111 i).2.2.2 = tn A 111 i 3 := rfl
  unfold z_Th_reachFields
  rw [Th_kind h (by decide) hT hi, zbP_s]
  have hD := hg.2
  unfold cden at hD
  rw [e1, e2, e3] at hD
  have hwn := hg.1
  unfold wn at hwn
  rw [e1, e2, e3] at hwn
  -- two parts
  have two : ∀ a b : Int, 0 ≤ a → a < 3 → 0 ≤ b → b < 3 → 0 ≤ tn A 111 i (1 + a) → tn A 111 i (1 + a) < t → 0 ≤ tn A 111 i (1 + b) → tn A 111 i (1 + b) < t → ∃ B V', (zbP (z_Th_field N 111 i a A) fun v2 => zbV (z_Th_reach N 111 v2 A) fun A3 => zbP (z_Th_field N 111 i b A3) fun v4 => zbV (z_Th_reach N 111 v4 A3) fun A5 => some A5) = some B ∧ LKF A B ∧ CHN B t V' ∧ (∃ x, V' = V ++ x) ∧ (∀ j, j ∈ V' ↔ j ∈ V ∨ (j : Int) = tn A 111 i (1 + a) ∨ (j : Int) = tn A 111 i (1 + b)) := by
    intro a b a0 a1 b0 b1 x0 x1 y0 y1
    rw [hn A (LKF.refl h) a a0 a1, zbP_s, show tn A 111 i (1 + a) = ((tn A 111 i (1 + a)).toNat : Int) by omega]
    obtain ⟨B, b1', b2, b3⟩ := Th_reachA (N := N) h hT ht hV (show (tn A 111 i (1 + a)).toNat < t by omega)
    rw [b1', zbV_s, hn B b2 b b0 b1, zbP_s, show tn A 111 i (1 + b) = ((tn A 111 i (1 + b)).toNat : Int) by omega]
    obtain ⟨C, c1, c2, c3⟩ := Th_reachA (N := N) b2.1.own (b2.tt hT).1 ht b3 (show (tn A 111 i (1 + b)).toNat < t by omega)
    rw [c1, zbV_s]
    refine ⟨C, _, rfl, b2.trans c2, c3, ?_, fun j => ?_⟩
    · obtain ⟨x, hx⟩ := addv_pre V (tn A 111 i (1 + a)).toNat
      obtain ⟨y, hy⟩ := addv_pre (addv V (tn A 111 i (1 + a)).toNat) (tn A 111 i (1 + b)).toNat
      exact ⟨x ++ y, by rw [hy, hx, List.append_assoc]⟩
    · rw [addv_mem, addv_mem]
      constructor
      · rintro ((q | q) | q)
        · exact Or.inl q
        · exact Or.inr (Or.inl (by omega))
        · exact Or.inr (Or.inr (by omega))
      · rintro (q | q | q)
        · exact Or.inl (Or.inl q)
        · exact Or.inl (Or.inr (by omega))
        · exact Or.inr (by omega)
  have three : 0 ≤ tn A 111 i 1 → tn A 111 i 1 < t → 0 ≤ tn A 111 i 2 → tn A 111 i 2 < t → 0 ≤ tn A 111 i 3 → tn A 111 i 3 < t → ∃ B V', (zbP (z_Th_field N 111 i 0 A) fun v12 => zbV (z_Th_reach N 111 v12 A) fun A13 => zbP (z_Th_field N 111 i 1 A13) fun v14 => zbV (z_Th_reach N 111 v14 A13) fun A15 => zbP (z_Th_field N 111 i 2 A15) fun v16 => zbV (z_Th_reach N 111 v16 A15) fun A17 => some A17) = some B ∧ LKF A B ∧ CHN B t V' ∧ (∃ x, V' = V ++ x) ∧ (∀ j, j ∈ V' ↔ j ∈ V ∨ (j : Int) = tn A 111 i 1 ∨ (j : Int) = tn A 111 i 2 ∨ (j : Int) = tn A 111 i 3) := by
    intro x0 x1 y0 y1 z0 z1
    rw [hn A (LKF.refl h) 0 (by decide) (by decide), zbP_s, show (1 : Int) + 0 = 1 from rfl, show tn A 111 i 1 = ((tn A 111 i 1).toNat : Int) by omega]
    obtain ⟨B, b1', b2, b3⟩ := Th_reachA (N := N) h hT ht hV (show (tn A 111 i 1).toNat < t by omega)
    rw [b1', zbV_s, hn B b2 1 (by decide) (by decide), zbP_s, show (1 : Int) + 1 = 2 from rfl, show tn A 111 i 2 = ((tn A 111 i 2).toNat : Int) by omega]
    obtain ⟨C, c1, c2, c3⟩ := Th_reachA (N := N) b2.1.own (b2.tt hT).1 ht b3 (show (tn A 111 i 2).toNat < t by omega)
    have L2 := b2.trans c2
    rw [c1, zbV_s, hn C L2 2 (by decide) (by decide), zbP_s, show (1 : Int) + 2 = 3 from rfl, show tn A 111 i 3 = ((tn A 111 i 3).toNat : Int) by omega]
    obtain ⟨E, d1, d2, d3⟩ := Th_reachA (N := N) L2.1.own (L2.tt hT).1 ht c3 (show (tn A 111 i 3).toNat < t by omega)
    rw [d1, zbV_s]
    refine ⟨E, _, rfl, L2.trans d2, d3, ?_, fun j => ?_⟩
    · obtain ⟨x, hx⟩ := addv_pre V (tn A 111 i 1).toNat
      obtain ⟨y, hy⟩ := addv_pre (addv V (tn A 111 i 1).toNat) (tn A 111 i 2).toNat
      obtain ⟨z, hz⟩ := addv_pre (addv (addv V (tn A 111 i 1).toNat) (tn A 111 i 2).toNat) (tn A 111 i 3).toNat
      exact ⟨x ++ y ++ z, by rw [hz, hy, hx]; simp⟩
    · rw [addv_mem, addv_mem, addv_mem]
      constructor
      · rintro (((q | q) | q) | q)
        · exact Or.inl q
        · exact Or.inr (Or.inl (by omega))
        · exact Or.inr (Or.inr (Or.inl (by omega)))
        · exact Or.inr (Or.inr (Or.inr (by omega)))
      · rintro (q | q | q | q)
        · exact Or.inl (Or.inl (Or.inl q))
        · exact Or.inl (Or.inl (Or.inr (by omega)))
        · exact Or.inl (Or.inr (by omega))
        · exact Or.inr (by omega)
  have nat : ∀ (x : Int) (j : Nat), (j : Int) = x → j = x.toNat := fun x j hj => by omega
  generalize hkk : (tk A 111 i).1 = kk at *
  rcases hwn with hw | hw | hw | hw | hw | hw | hw | hw <;> obtain ⟨rfl, hw⟩ := hw
  · refine ⟨A, V, by simp, LKF.refl h, hV, ⟨[], by simp⟩, fun cc v _ hc => ?_, fun j hj => Or.inl hj⟩
    rw [hD, if_pos rfl] at hc
    exact (chd_no (Or.inl rfl) hc).elim
  · rw [if_pos rfl]
    obtain ⟨B, V', b1, b2, b3, b4, b5⟩ := two 1 2 (by decide) (by decide) (by decide) (by decide) (by show 0 ≤ tn A 111 i 2; omega) (by show tn A 111 i 2 < t; omega) (by show 0 ≤ tn A 111 i 3; omega) (by show tn A 111 i 3 < t; omega)
    have b5 : ∀ j, j ∈ V' ↔ j ∈ V ∨ (j : Int) = tn A 111 i 2 ∨ (j : Int) = tn A 111 i 3 := b5
    simp at hD
    refine ⟨B, V', b1, b2, b3, b4, fun cc v _ hc => ?_, fun j hj => ?_⟩
    · rw [hD] at hc
      rcases chd_wrk hc with rfl | rfl
      · exact ⟨_, (b5 _).mpr (Or.inr (Or.inl (by omega))), rfl⟩
      · exact ⟨_, (b5 _).mpr (Or.inr (Or.inr (by omega))), rfl⟩
    · rcases (b5 j).mp hj with hj | hj | hj
      · exact Or.inl hj
      · right; intro cc; rw [hD, nat _ _ hj]; exact Or.inl ⟨_, _, _, rfl, Or.inl rfl⟩
      · right; intro cc; rw [hD, nat _ _ hj]; exact Or.inl ⟨_, _, _, rfl, Or.inr rfl⟩
  · rw [if_neg (by decide), if_pos rfl]
    obtain ⟨B, V', b1, b2, b3, b4, b5⟩ := two 0 1 (by decide) (by decide) (by decide) (by decide) (by show 0 ≤ tn A 111 i 1; omega) (by show tn A 111 i 1 < t; omega) (by show 0 ≤ tn A 111 i 2; omega) (by show tn A 111 i 2 < t; omega)
    have b5 : ∀ j, j ∈ V' ↔ j ∈ V ∨ (j : Int) = tn A 111 i 1 ∨ (j : Int) = tn A 111 i 2 := b5
    simp at hD
    refine ⟨B, V', b1, b2, b3, b4, fun cc v _ hc => ?_, fun j hj => ?_⟩
    · rw [hD] at hc
      rcases chd_lod hc with rfl | rfl
      · exact ⟨_, (b5 _).mpr (Or.inr (Or.inl (by omega))), rfl⟩
      · exact ⟨_, (b5 _).mpr (Or.inr (Or.inr (by omega))), rfl⟩
    · rcases (b5 j).mp hj with hj | hj | hj
      · exact Or.inl hj
      · right; intro cc; rw [hD, nat _ _ hj]; exact Or.inr (Or.inl ⟨_, _, rfl, Or.inl rfl⟩)
      · right; intro cc; rw [hD, nat _ _ hj]; exact Or.inr (Or.inl ⟨_, _, rfl, Or.inr rfl⟩)
  · refine ⟨A, V, by simp, LKF.refl h, hV, ⟨[], by simp⟩, fun cc v _ hc => ?_, fun j hj => Or.inl hj⟩
    simp at hD
    rw [hD] at hc
    exact (chd_no (Or.inr (Or.inl rfl)) hc).elim
  · rw [if_neg (by decide), if_neg (by decide), if_pos rfl]
    obtain ⟨B, V', b1, b2, b3, b4, b5⟩ := three (by omega) (by omega) (by omega) (by omega) (by omega) (by omega)
    simp at hD
    refine ⟨B, V', b1, b2, b3, b4, fun cc v _ hc => ?_, fun j hj => ?_⟩
    · rw [hD] at hc
      rcases chd_sto hc with rfl | rfl | rfl
      · exact ⟨_, (b5 _).mpr (Or.inr (Or.inl (by omega))), rfl⟩
      · exact ⟨_, (b5 _).mpr (Or.inr (Or.inr (Or.inl (by omega)))), rfl⟩
      · exact ⟨_, (b5 _).mpr (Or.inr (Or.inr (Or.inr (by omega)))), rfl⟩
    · rcases (b5 j).mp hj with hj | hj | hj | hj
      · exact Or.inl hj
      · right; intro cc; rw [hD, nat _ _ hj]; exact Or.inr (Or.inr (Or.inl ⟨_, _, _, rfl, Or.inl rfl⟩))
      · right; intro cc; rw [hD, nat _ _ hj]; exact Or.inr (Or.inr (Or.inl ⟨_, _, _, rfl, Or.inr (Or.inl rfl)⟩))
      · right; intro cc; rw [hD, nat _ _ hj]; exact Or.inr (Or.inr (Or.inl ⟨_, _, _, rfl, Or.inr (Or.inr rfl)⟩))
  · refine ⟨A, V, by simp, LKF.refl h, hV, ⟨[], by simp⟩, fun cc v _ hc => ?_, fun j hj => Or.inl hj⟩
    simp at hD
    rw [hD] at hc
    exact (chd_no (Or.inr (Or.inr rfl)) hc).elim
  · rw [if_neg (by decide), if_neg (by decide), if_neg (by decide), if_pos rfl]
    obtain ⟨B, V', b1, b2, b3, b4, b5⟩ := three (by omega) (by omega) (by omega) (by omega) (by omega) (by omega)
    simp at hD
    refine ⟨B, V', b1, b2, b3, b4, fun cc v _ hc => ?_, fun j hj => ?_⟩
    · rw [hD] at hc
      rcases chd_cho hc with rfl | rfl | rfl
      · exact ⟨_, (b5 _).mpr (Or.inr (Or.inl (by omega))), rfl⟩
      · exact ⟨_, (b5 _).mpr (Or.inr (Or.inr (Or.inl (by omega)))), rfl⟩
      · exact ⟨_, (b5 _).mpr (Or.inr (Or.inr (Or.inr (by omega)))), rfl⟩
    · rcases (b5 j).mp hj with hj | hj | hj | hj
      · exact Or.inl hj
      · right; intro cc; rw [hD, nat _ _ hj]; exact Or.inr (Or.inr (Or.inr (Or.inl ⟨_, _, _, rfl, Or.inl rfl⟩)))
      · right; intro cc; rw [hD, nat _ _ hj]; exact Or.inr (Or.inr (Or.inr (Or.inl ⟨_, _, _, rfl, Or.inr (Or.inl rfl)⟩)))
      · right; intro cc; rw [hD, nat _ _ hj]; exact Or.inr (Or.inr (Or.inr (Or.inl ⟨_, _, _, rfl, Or.inr (Or.inr rfl)⟩)))
  · refine ⟨A, V, by simp, LKF.refl h, hV, ⟨[], by simp⟩, fun cc v h7 hc => absurd hkd h7, fun j hj => Or.inl hj⟩
end
