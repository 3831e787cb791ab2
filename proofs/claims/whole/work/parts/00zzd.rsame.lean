/-! the reference: what was reached -/
def RCH (A : zA) (t : Nat) (V : List Nat) : Prop := V.Nodup ∧ (∀ i ∈ V, i < t) ∧ zi A 226 83 = V.length ∧ (∀ (k : Nat) (h : k < V.length), ri A 286 k = (V[k] : Int)) ∧ ∀ i : Nat, i < t → ri A 285 i = if i ∈ V then 1 else 0
def qK (a j : Nat) : Prop := a = 285 ∨ a = 286 ∨ (a = 226 ∧ j = 83)
def SR (A : zA) (t : Nat) (D : Nat → T) (s1 s2 : St) : Prop := RTh A t D ∧ RSd A 0 t D s1.2.1 ∧ RSd A 1 t D s2.2.1 ∧ RCc A 0 t D s1.2.2.2.2.2 ∧ RCc A 1 t D s2.2.2.2.2.2 ∧ ri A 261 0 ≤ 4000 ∧ ri A 261 1 ≤ 4000
section
variable {N t : Nat} {A B : zA} {D : Nat → T} {V : List Nat} {s1 s2 : St}
theorem SR.fr {F : Nat → Nat → Prop} (h : SR A t D s1 s2) (f : fr F A B) (hq : ∀ a j, F a j → qK a j) : SR B t D s1 s2 := by
  obtain ⟨h1, h2, h3, h4, h5, h6, h7⟩ := h
  have e : ∀ a e, a ≠ 226 → a ≠ 285 → a ≠ 286 → ri B a e = ri A a e := fun a e q1 q2 q3 => f.e (fun z => by have := hq _ _ z; unfold qK at this; omega)
  have r := Nat.le_refl t
  exact ⟨h1.fr f (fun a j z => by have := hq _ _ z; unfold qK at this; unfold qT; omega), h2.mono (e _ _ (by omega) (by omega) (by omega)) (fun _ => e _ _ (by omega) (by omega) (by omega)) r (fun _ _ => rfl), h3.mono (e _ _ (by omega) (by omega) (by omega)) (fun _ => e _ _ (by omega) (by omega) (by omega)) r (fun _ _ => rfl), h4.mono (by rw [e 261 _ (by omega) (by omega) (by omega)]; omega) (fun c _ => ⟨e _ _ (by omega) (by omega) (by omega), e _ _ (by omega) (by omega) (by omega), e _ _ (by omega) (by omega) (by omega)⟩) (fun _ _ _ _ _ => e _ _ (by omega) (by omega) (by omega)) r (fun _ _ => rfl), h5.mono (by rw [e 261 _ (by omega) (by omega) (by omega)]; omega) (fun c _ => ⟨e _ _ (by omega) (by omega) (by omega), e _ _ (by omega) (by omega) (by omega), e _ _ (by omega) (by omega) (by omega)⟩) (fun _ _ _ _ _ => e _ _ (by omega) (by omega) (by omega)) r (fun _ _ => rfl), by rw [e 261 _ (by omega) (by omega) (by omega)]; exact h6, by rw [e 261 _ (by omega) (by omega) (by omega)]; exact h7⟩
theorem r_reach {j : Nat} (hV : RCH A t V) (ht : t ≤ 16000) (hj : j < t) : ∃ B, z_M_reach N j A = some B ∧ RCH B t (addv V j) ∧ fr qK A B := by
  obtain ⟨v1, v2, v3, v4, v5⟩ := hV
  unfold z_M_reach
  rw [zrd_ok (by omega) (by omega), v5 j hj]
  by_cases c : j ∈ V
  · rw [if_pos c, if_neg (by decide)]
    refine ⟨A, rfl, ?_, fr.refl _ _⟩
    unfold addv
    rw [if_pos c]
    exact ⟨v1, v2, v3, v4, v5⟩
  · have hnd : (V ++ [j]).Nodup := by
      rw [List.nodup_append]
      exact ⟨v1, by simp, fun a ha b hb => by rw [List.mem_singleton] at hb; rw [hb]; exact fun z => c (by rw [← z]; exact ha)⟩
    have hmem : ∀ i ∈ V ++ [j], i < t := fun i hi => by
      rcases List.mem_append.mp hi with z | z
      · exact v2 i z
      · rw [List.mem_singleton] at z; omega
    have hlen := nd_len hnd hmem
    rw [List.length_append] at hlen
    have hlen : V.length + 1 ≤ t := hlen
    have e83 : zi (rs A 285 j 1) 226 83 = V.length := by rw [zi_rs_o (by decide)]; exact v3
    rw [if_neg c, if_pos rfl, zwr_ok (by omega) (by omega), e83, zwr_ok (by omega) (by omega), zlet_s, zi_rs_o (by decide), e83]
    unfold addv
    rw [if_neg c]
    refine ⟨_, rfl, ⟨hnd, hmem, ?_, fun k hk => ?_, fun i hi => ?_⟩, ((fr_rs (Or.inl rfl)).trans (fr_rs (Or.inr (Or.inl rfl)))).trans (fr_si (Or.inr (Or.inr ⟨rfl, rfl⟩)))⟩
    · rw [zi_si_s, yb_w (by omega) (by omega), List.length_append]
      rfl
    · rw [ri_si_o (by decide), ri_rs (by omega) (by omega), yb_w (by omega) (by omega), ri_rs_o (by decide)]
      rw [List.length_append] at hk
      have hk : k < V.length + 1 := hk
      by_cases z : k = V.length
      · subst z
        rw [if_pos rfl]
        simp
      · rw [if_neg (by omega), v4 k (by omega), List.getElem_append_left (by omega)]
    · rw [ri_si_o (by decide), ri_rs_o (by decide), ri_rs (by omega) (by omega)]
      by_cases z : i = j
      · subst z
        rw [if_pos rfl, if_pos (by simp)]
        decide
      · rw [if_neg (by omega), v5 i hi]
        by_cases y : i ∈ V
        · rw [if_pos y, if_pos (List.mem_append.mpr (Or.inl y))]
        · rw [if_neg y, if_neg (fun q => by
            rcases List.mem_append.mp q with q | q
            · exact y q
            · rw [List.mem_singleton] at q; exact z q)]
theorem addv2 (V : List Nat) (a b : Nat) : (∃ x, addv (addv V a) b = V ++ x) ∧ ∀ j, j ∈ addv (addv V a) b ↔ j ∈ V ∨ j = a ∨ j = b := by
  refine ⟨?_, fun j => ?_⟩
  · obtain ⟨x, hx⟩ := addv_pre V a
    obtain ⟨y, hy⟩ := addv_pre (addv V a) b
    exact ⟨x ++ y, by rw [hy, hx, List.append_assoc]⟩
  · rw [addv_mem, addv_mem, or_assoc]
theorem addv3 (V : List Nat) (a b c : Nat) : (∃ x, addv (addv (addv V a) b) c = V ++ x) ∧ ∀ j, j ∈ addv (addv (addv V a) b) c ↔ j ∈ V ∨ j = a ∨ j = b ∨ j = c := by
  refine ⟨?_, fun j => ?_⟩
  · obtain ⟨⟨x, hx⟩, -⟩ := addv2 V a b
    obtain ⟨y, hy⟩ := addv_pre (addv (addv V a) b) c
    exact ⟨x ++ y, by rw [hy, hx, List.append_assoc]⟩
  · rw [addv_mem, (addv2 V a b).2, or_assoc, or_assoc]
/-- the parts of a thing that doesn't circle -/
theorem r_parts {i : Nat} (h : RTh A t D) (hV : RCH A t V) (hi : i < t) (h7 : tkd (D i) ≠ 7) : ∃ B V', z_M_parts N i A = some (1, B) ∧ RCH B t V' ∧ fr qK A B ∧ (∃ x, V' = V ++ x) ∧ (∀ cc v, chd cc (D i) v → ∃ j ∈ V', D j = v) ∧ (∀ j ∈ V', j ∈ V ∨ ∀ cc, chd cc (D i) (D j)) := by
  have ht := h.1.1
  have hg := h.2.1.1 i hi
  have hk := h.2.2 i hi
  obtain ⟨hkd, -, -⟩ := h.kd hi
  have hD := hg.2
  have hwn := hg.1
  unfold cden at hD
  unfold wn at hwn
  have e0 : (rkc A i).1 = cm (ri A 252 i) := rfl
  have e1 : (rkc A i).2.1 = ri A 253 i := rfl
  have e2 : (rkc A i).2.2.1 = ri A 254 i := rfl
  have e3 : (rkc A i).2.2.2 = ri A 255 i := rfl
  rw [e0, e1, e2, e3] at hD hwn
  have fe : ∀ {X : zA}, fr qK A X → ∀ a e, 252 ≤ a → a ≤ 255 → ri X a e = ri A a e := fun f a e h1 h2 => f.e (fun z => by unfold qK at z; omega)
  -- two and three parts
  have two : ∀ a b : Nat, a < t → b < t → ∃ B C, z_M_reach N a A = some B ∧ z_M_reach N b B = some C ∧ fr qK A B ∧ fr qK A C ∧ RCH C t (addv (addv V a) b) := fun a b ha hb => by
    obtain ⟨B, b1, b2, b3⟩ := r_reach (N := N) hV ht ha
    obtain ⟨C, c1, c2, c3⟩ := r_reach (N := N) b2 ht hb
    exact ⟨B, C, b1, c1, b3, b3.trans c3, c2⟩
  unfold z_M_parts
  rw [zrd_ok (by omega) (by omega)]
  have cases8 : ri A 252 i = 0 ∨ ri A 252 i = 1 ∨ ri A 252 i = 2 ∨ ri A 252 i = 3 ∨ ri A 252 i = 4 ∨ ri A 252 i = 5 ∨ ri A 252 i = 6 ∨ ri A 252 i = 7 := by omega
  rcases cases8 with q | q | q | q | q | q | q | q
  · rw [q] at hD ⊢
    refine ⟨A, V, by simp, hV, fr.refl _ _, ⟨[], by simp⟩, fun cc v hc => ?_, fun j hj => Or.inl hj⟩
    rw [hD, show cm 0 = 0 by decide, if_pos rfl] at hc
    exact (chd_no (Or.inl rfl) hc).elim
  · have hw : 0 ≤ ri A 254 i ∧ ri A 254 i < i ∧ 0 ≤ ri A 255 i ∧ ri A 255 i < i := by
      rw [q, show cm 1 = 1 by decide] at hwn
      omega
    obtain ⟨a, ha⟩ : ∃ a : Nat, ri A 254 i = a := ⟨(ri A 254 i).toNat, by omega⟩
    obtain ⟨b, hb⟩ : ∃ b : Nat, ri A 255 i = b := ⟨(ri A 255 i).toNat, by omega⟩
    obtain ⟨B, C, b1, c1, b3, c3, c4⟩ := two a b (by omega) (by omega)
    obtain ⟨a1, a2⟩ := addv2 V a b
    rw [q, show cm 1 = 1 by decide, if_neg (by decide), if_pos rfl, ha, hb, Int.toNat_natCast, Int.toNat_natCast] at hD
    refine ⟨C, _, ?_, c4, c3, a1, fun cc v hc => ?_, fun j hj => ?_⟩
    · rw [q, if_pos rfl, zrd_ok (by omega) (by omega), q, if_pos rfl]
      unfold z_M_parts_64
      rw [zrd_ok (by omega) (by omega), ha, b1, zbV_s, zrd_ok (by omega) (by omega), fe b3 _ _ (by omega) (by omega), q, if_neg (by decide), zrd_ok (by omega) (by omega), fe b3 _ _ (by omega) (by omega), hb, c1, zbV_s]
    · rw [hD] at hc
      rcases chd_wrk hc with rfl | rfl
      · exact ⟨a, (a2 _).mpr (Or.inr (Or.inl rfl)), rfl⟩
      · exact ⟨b, (a2 _).mpr (Or.inr (Or.inr rfl)), rfl⟩
    · rcases (a2 j).mp hj with hj | rfl | rfl
      · exact Or.inl hj
      · right; intro cc; rw [hD]; exact Or.inl ⟨_, _, _, rfl, Or.inl rfl⟩
      · right; intro cc; rw [hD]; exact Or.inl ⟨_, _, _, rfl, Or.inr rfl⟩
  · have hw : 0 ≤ ri A 253 i ∧ ri A 253 i < i ∧ 0 ≤ ri A 254 i ∧ ri A 254 i < i := by
      rw [q, show cm 2 = 2 by decide] at hwn
      omega
    obtain ⟨a, ha⟩ : ∃ a : Nat, ri A 253 i = a := ⟨(ri A 253 i).toNat, by omega⟩
    obtain ⟨b, hb⟩ : ∃ b : Nat, ri A 254 i = b := ⟨(ri A 254 i).toNat, by omega⟩
    obtain ⟨B, C, b1, c1, b3, c3, c4⟩ := two a b (by omega) (by omega)
    obtain ⟨a1, a2⟩ := addv2 V a b
    rw [q, show cm 2 = 2 by decide, if_neg (by decide), if_neg (by decide), if_pos rfl, ha, hb, Int.toNat_natCast, Int.toNat_natCast] at hD
    refine ⟨C, _, ?_, c4, c3, a1, fun cc v hc => ?_, fun j hj => ?_⟩
    · rw [q, if_neg (by decide), if_pos rfl, zrd_ok (by omega) (by omega), q, if_neg (by decide), zrd_ok (by omega) (by omega), ha, b1, zbV_s]
      unfold z_M_parts_64
      rw [zrd_ok (by omega) (by omega), fe b3 _ _ (by omega) (by omega), hb, c1, zbV_s, zrd_ok (by omega) (by omega), fe c3 _ _ (by omega) (by omega), q, if_pos rfl]
    · rw [hD] at hc
      rcases chd_lod hc with rfl | rfl
      · exact ⟨a, (a2 _).mpr (Or.inr (Or.inl rfl)), rfl⟩
      · exact ⟨b, (a2 _).mpr (Or.inr (Or.inr rfl)), rfl⟩
    · rcases (a2 j).mp hj with hj | rfl | rfl
      · exact Or.inl hj
      · right; intro cc; rw [hD]; exact Or.inr (Or.inl ⟨_, _, rfl, Or.inl rfl⟩)
      · right; intro cc; rw [hD]; exact Or.inr (Or.inl ⟨_, _, rfl, Or.inr rfl⟩)
  · have hw : 0 ≤ ri A 253 i ∧ ri A 253 i < i ∧ 0 ≤ ri A 254 i ∧ ri A 254 i < i ∧ 0 ≤ ri A 255 i ∧ ri A 255 i < i := by
      rw [q, show cm 3 = 4 by decide] at hwn
      omega
    obtain ⟨a, ha⟩ : ∃ a : Nat, ri A 253 i = a := ⟨(ri A 253 i).toNat, by omega⟩
    obtain ⟨b, hb⟩ : ∃ b : Nat, ri A 254 i = b := ⟨(ri A 254 i).toNat, by omega⟩
    obtain ⟨c, hc'⟩ : ∃ c : Nat, ri A 255 i = c := ⟨(ri A 255 i).toNat, by omega⟩
    obtain ⟨B, C, b1, c1, b3, c3, c4⟩ := two a b (by omega) (by omega)
    obtain ⟨E, d1, d2, d3⟩ := r_reach (N := N) c4 ht (show c < t by omega)
    obtain ⟨a1, a2⟩ := addv3 V a b c
    rw [q, show cm 3 = 4 by decide, if_neg (by decide), if_neg (by decide), if_neg (by decide), if_neg (by decide), if_pos rfl, ha, hb, hc', Int.toNat_natCast, Int.toNat_natCast, Int.toNat_natCast] at hD
    refine ⟨E, _, ?_, d2, c3.trans d3, a1, fun cc v hc => ?_, fun j hj => ?_⟩
    · rw [q, if_neg (by decide), if_neg (by decide), if_pos rfl, zrd_ok (by omega) (by omega), q, if_neg (by decide), zrd_ok (by omega) (by omega), ha, b1, zbV_s]
      unfold z_M_parts_64
      rw [zrd_ok (by omega) (by omega), fe b3 _ _ (by omega) (by omega), hb, c1, zbV_s, zrd_ok (by omega) (by omega), fe c3 _ _ (by omega) (by omega), q, if_neg (by decide), zrd_ok (by omega) (by omega), fe c3 _ _ (by omega) (by omega), hc', d1, zbV_s]
    · rw [hD] at hc
      rcases chd_sto hc with rfl | rfl | rfl
      · exact ⟨a, (a2 _).mpr (Or.inr (Or.inl rfl)), rfl⟩
      · exact ⟨b, (a2 _).mpr (Or.inr (Or.inr (Or.inl rfl))), rfl⟩
      · exact ⟨c, (a2 _).mpr (Or.inr (Or.inr (Or.inr rfl))), rfl⟩
    · rcases (a2 j).mp hj with hj | rfl | rfl | rfl
      · exact Or.inl hj
      · right; intro cc; rw [hD]; exact Or.inr (Or.inr (Or.inl ⟨_, _, _, rfl, Or.inl rfl⟩))
      · right; intro cc; rw [hD]; exact Or.inr (Or.inr (Or.inl ⟨_, _, _, rfl, Or.inr (Or.inl rfl)⟩))
      · right; intro cc; rw [hD]; exact Or.inr (Or.inr (Or.inl ⟨_, _, _, rfl, Or.inr (Or.inr rfl)⟩))
  · refine ⟨A, V, by rw [q]; simp, hV, fr.refl _ _, ⟨[], by simp⟩, fun cc v hc => ?_, fun j hj => Or.inl hj⟩
    rw [q, show cm 4 = 5 by decide] at hD
    simp at hD
    rw [hD] at hc
    exact (chd_no (Or.inr (Or.inr rfl)) hc).elim
  · have hw : 0 ≤ ri A 253 i ∧ ri A 253 i < i ∧ 0 ≤ ri A 254 i ∧ ri A 254 i < i ∧ 0 ≤ ri A 255 i ∧ ri A 255 i < i := by
      rw [q, show cm 5 = 6 by decide] at hwn
      omega
    obtain ⟨a, ha⟩ : ∃ a : Nat, ri A 253 i = a := ⟨(ri A 253 i).toNat, by omega⟩
    obtain ⟨b, hb⟩ : ∃ b : Nat, ri A 254 i = b := ⟨(ri A 254 i).toNat, by omega⟩
    obtain ⟨c, hc'⟩ : ∃ c : Nat, ri A 255 i = c := ⟨(ri A 255 i).toNat, by omega⟩
    obtain ⟨B, C, b1, c1, b3, c3, c4⟩ := two a b (by omega) (by omega)
    obtain ⟨E, d1, d2, d3⟩ := r_reach (N := N) c4 ht (show c < t by omega)
    obtain ⟨a1, a2⟩ := addv3 V a b c
    rw [q, show cm 5 = 6 by decide, if_neg (by decide), if_neg (by decide), if_neg (by decide), if_neg (by decide), if_neg (by decide), if_neg (by decide), if_pos rfl, ha, hb, hc', Int.toNat_natCast, Int.toNat_natCast, Int.toNat_natCast] at hD
    refine ⟨E, _, ?_, d2, c3.trans d3, a1, fun cc v hc => ?_, fun j hj => ?_⟩
    · rw [q, if_neg (by decide), if_neg (by decide), if_neg (by decide), if_pos rfl, zrd_ok (by omega) (by omega), q, if_neg (by decide), zrd_ok (by omega) (by omega), ha, b1, zbV_s]
      unfold z_M_parts_64
      rw [zrd_ok (by omega) (by omega), fe b3 _ _ (by omega) (by omega), hb, c1, zbV_s, zrd_ok (by omega) (by omega), fe c3 _ _ (by omega) (by omega), q, if_neg (by decide), zrd_ok (by omega) (by omega), fe c3 _ _ (by omega) (by omega), hc', d1, zbV_s]
    · rw [hD] at hc
      rcases chd_cho hc with rfl | rfl | rfl
      · exact ⟨a, (a2 _).mpr (Or.inr (Or.inl rfl)), rfl⟩
      · exact ⟨b, (a2 _).mpr (Or.inr (Or.inr (Or.inl rfl))), rfl⟩
      · exact ⟨c, (a2 _).mpr (Or.inr (Or.inr (Or.inr rfl))), rfl⟩
    · rcases (a2 j).mp hj with hj | rfl | rfl | rfl
      · exact Or.inl hj
      · right; intro cc; rw [hD]; exact Or.inr (Or.inr (Or.inr (Or.inl ⟨_, _, _, rfl, Or.inl rfl⟩)))
      · right; intro cc; rw [hD]; exact Or.inr (Or.inr (Or.inr (Or.inl ⟨_, _, _, rfl, Or.inr (Or.inl rfl)⟩)))
      · right; intro cc; rw [hD]; exact Or.inr (Or.inr (Or.inr (Or.inl ⟨_, _, _, rfl, Or.inr (Or.inr rfl)⟩)))
  · exfalso
    rw [q, show cm 6 = 7 by decide] at hkd
    exact h7 hkd
  · refine ⟨A, V, by rw [q]; simp, hV, fr.refl _ _, ⟨[], by simp⟩, fun cc v hc => ?_, fun j hj => Or.inl hj⟩
    rw [q, show cm 7 = 3 by decide] at hD
    simp at hD
    rw [hD] at hc
    exact (chd_no (Or.inr (Or.inl rfl)) hc).elim
/-- a circling one -/
theorem r_circ {i : Nat} {q1 q2 : Int × Nat × T × T} (h : SR A t D s1 s2) (hV : RCH A t V) (hi : i < t) (hq1 : q1 ∈ s1.2.2.2.2.2) (hq2 : q2 ∈ s2.2.2.2.2.2) (e1 : D i = tCir q1.1 q1.2.1) (e2 : D i = tCir q2.1 q2.2.1) : ∃ B V' fl, z_M_parts N i A = some (fl, B) ∧ RCH B t V' ∧ fr qK A B ∧ (∃ x, V' = V ++ x) ∧ (∀ j, j ∈ V' → j ∈ V ∨ D j = q1.2.2.1 ∨ D j = q1.2.2.2) ∧ (∃ j ∈ V', D j = q1.2.2.1) ∧ (∃ j ∈ V', D j = q1.2.2.2) ∧ ((fl = 1 ∧ q1.2.2 = q2.2.2) ∨ (fl = 0 ∧ q1.2.2 ≠ q2.2.2)) := by
  obtain ⟨hT, -, -, h4, h5, h6, h7⟩ := h
  have ht := hT.1.1
  have inj := hT.2.1.inj
  have hk := hT.2.2 i hi
  have k6 : ri A 252 i = 6 := by
    have := (hT.kd hi).1
    rw [e1] at this
    have : (7 : Int) = cm (ri A 252 i) := this
    unfold cm at this
    repeat' split at this
    all_goals omega
  obtain ⟨jt, c, p1, p2, p3, p4, p5, p6, p7⟩ := h4 q1 hq1
  obtain ⟨ju, d, r1, r2, r3, r4, r5, r6, r7⟩ := h5 q2 hq2
  have : jt = i := inj jt i p1 hi (by rw [p2, e1])
  subst this
  have : ju = jt := inj ju jt r1 hi (by rw [r2, e2])
  subst this
  obtain ⟨x, x1, x2, x3⟩ := p5
  obtain ⟨y, y1, y2, y3⟩ := p6
  obtain ⟨u, u1, u2, u3⟩ := r5
  obtain ⟨v, v1, v2, v3⟩ := r6
  obtain ⟨B, b1, b2, b3⟩ := r_reach (N := N) hV ht x1
  obtain ⟨C, c1, c2, c3⟩ := r_reach (N := N) b2 ht y1
  have fe : ∀ {X : zA}, fr qK A X → ∀ a e, 252 ≤ a → a ≤ 266 → ri X a e = ri A a e := fun f a e h1 h2 => f.e (fun z => by unfold qK at z; omega)
  have b3c := b3.trans c3
  obtain ⟨a1, a2⟩ := addv2 V x y
  have z266 : ri A 266 ju = c := by rw [show ((ju : Nat) : Int) = 16000 * ((0 : Nat) : Int) + ju by omega]; exact p4
  have z266' : ri A 266 (16000 + ju) = d := by rw [show (16000 : Int) + ju = 16000 * ((1 : Nat) : Int) + ju by omega]; exact r4
  have z264 : ri A 264 c = x := by rw [show ((c : Nat) : Int) = 4000 * ((0 : Nat) : Int) + c by omega]; exact x2
  have z265 : ri A 265 c = y := by rw [show ((c : Nat) : Int) = 4000 * ((0 : Nat) : Int) + c by omega]; exact y2
  have z264' : ri A 264 (4000 + d) = u := by rw [show (4000 : Int) + d = 4000 * ((1 : Nat) : Int) + d by omega]; exact u2
  have z265' : ri A 265 (4000 + d) = v := by rw [show (4000 : Int) + d = 4000 * ((1 : Nat) : Int) + d by omega]; exact v2
  have p3 : (c : Int) < ri A 261 0 := p3
  have r3 : (d : Int) < ri A 261 1 := r3
  have wd : zw (4000 + (d : Int)) = 4000 + d := yb_w (by omega) (by omega)
  have st : z_M_parts N ju A = some (if x = u then (if y = v then 1 else 0) else 0, C) := by
    unfold z_M_parts
    rw [zrd_ok (by omega) (by omega), k6, if_neg (by decide), if_neg (by decide), if_neg (by decide), if_neg (by decide), if_pos rfl, zrd_ok (by omega) (by omega), z266, zrd_ok (by omega) (by omega), z266', zrd_ok (by omega) (by omega), z264, b1, zbV_s, zrd_ok (by omega) (by omega), fe b3 _ _ (by omega) (by omega), z265, c1, zbV_s, zrd_ok (by omega) (by omega), fe b3c _ _ (by omega) (by omega), z264, wd, zrd_ok (by omega) (by omega), fe b3c _ _ (by omega) (by omega), z264', zrd_ok (by omega) (by omega), fe b3c _ _ (by omega) (by omega), z265, zrd_ok (by omega) (by omega), fe b3c _ _ (by omega) (by omega), z265']
    by_cases w1 : x = u
    · rw [if_pos (by omega), if_pos w1]
      by_cases w2 : y = v
      · rw [if_pos (by omega), if_pos w2]
      · rw [if_neg (by omega), if_neg w2]
    · rw [if_neg (by omega), if_neg w1]
  refine ⟨C, _, _, st, c2, b3c, a1, fun j hj => ?_, ⟨x, (a2 _).mpr (Or.inr (Or.inl rfl)), x3⟩, ⟨y, (a2 _).mpr (Or.inr (Or.inr rfl)), y3⟩, ?_⟩
  · rcases (a2 j).mp hj with hj | rfl | rfl
    · exact Or.inl hj
    · exact Or.inr (Or.inl x3)
    · exact Or.inr (Or.inr y3)
  · have ex : q1.2.2 = q2.2.2 ↔ x = u ∧ y = v := by
      constructor
      · intro z
        exact ⟨inj x u x1 u1 (by rw [x3, u3, z]), inj y v y1 v1 (by rw [y3, v3, z])⟩
      · rintro ⟨rfl, rfl⟩
        exact Prod.ext (by rw [← x3, ← u3]) (by rw [← y3, ← v3])
    by_cases w1 : x = u
    · rw [if_pos w1]
      by_cases w2 : y = v
      · rw [if_pos w2]; exact Or.inl ⟨rfl, ex.mpr ⟨w1, w2⟩⟩
      · rw [if_neg w2]; exact Or.inr ⟨rfl, fun z => w2 (ex.mp z).2⟩
    · rw [if_neg w1]; exact Or.inr ⟨rfl, fun z => w1 (ex.mp z).1⟩
end
