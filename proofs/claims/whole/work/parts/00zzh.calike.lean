/-! the class: two walks, compared -/
def wal : List Nat := (List.range 85).map (fun r => 110 + r)
theorem wal_mem {a : Nat} : wal.contains a = true ↔ 110 ≤ a ∧ a ≤ 194 := by
  unfold wal
  rw [List.contains_iff_mem, List.mem_map]
  constructor
  · rintro ⟨r, h, rfl⟩
    have := List.mem_range.mp h
    omega
  · intro h
    exact ⟨a - 110, List.mem_range.mpr (by omega), by omega⟩
theorem wal_n {a : Nat} (h : a < 110 ∨ 194 < a) : wal.contains a = false := nc_of (fun q => by have := wal_mem.mp q; omega)
theorem wl_wal {ta a : Nat} (ht : okt ta) (h : (wl 0 193 ta).contains a = true) : wal.contains a = true := by
  have := wl_mem.mp h
  unfold okt at ht
  exact wal_mem.mpr (by omega)
/-- the class's things and tales stand -/
def CWI (A : zA) : Prop := Own A ∧ (∃ t, t ≤ 40000 ∧ TT A 111 t) ∧ TAI A 114 ∧ TAI A 117
theorem TAI.fr {A B : zA} {ta : Nat} {S : List Nat} (h : TAI A ta) (hta : okt ta) (f : cF S A B) (hs : S.contains ta = false) : TAI B ta := by
  obtain ⟨a1, a2, a3, a4, a5, a6, a7, a8, a9, a10, a11, a12⟩ := hta.fx
  exact h.mono (f.r a1 hs) (f.r a1 hs) (f.n a7 hs) (f.n a8 hs)
section
variable {N : Nat} {A : zA} {R0 R1 : Nat} {Q0 Q1 : Pr} {mt0 mt1 : Nat → Nat → Nat} {nd0 nd1 : Int → Nat} {sz0 sz1 : Nat → Nat}
theorem c_alike (hN : 300000 ≤ N) (hR0 : R0 = 7 ∨ R0 = 21 ∨ R0 = 35) (hR1 : R1 = 7 ∨ R1 = 21 ∨ R1 = 35) (o0 : WO Q0) (n0 : WN Q0 nd0 sz0) (m0 : MT Q0 nd0 mt0) (o1 : WO Q1) (n1 : WN Q1 nd1 sz1) (m1 : MT Q1 nd1 mt1) (h : CWI A) (hP0 : PrC A R0 (exP Q0) (pgO Q0 mt0)) (hP1 : PrC A R1 (exP Q1) (pgO Q1 mt1)) : ∃ A1 A2 B, z_Wk_walk N R0 0 A = some A1 ∧ cF wal A A1 ∧ z_Wk_walk N R1 1 A1 = some A2 ∧ z_Wk_saidTheSame N A2 = some (cif (Sam (wlk Q0 mt0) (wlk Q1 mt1)) 1 0, B) ∧ cF wal A B ∧ CWI B := by
  obtain ⟨hO, ⟨t, ht, hTT⟩, T4, T7⟩ := h
  have hex0 : ∀ p, exP Q0 p → p ≤ 3 := fun p hp => exP3 o0 hp
  have hex1 : ∀ p, exP Q1 p → p ≤ 3 := fun p hp => exP3 o1 hp
  have k4 : okt 114 := Or.inl rfl
  have k7 : okt 117 := Or.inr rfl
  have up1 : ∀ {X Y : zA}, cF [111] X Y → cF wal X Y := fun f => f.mono (fun a ha => by
    simp only [List.contains_iff_mem, List.mem_cons, List.not_mem_nil, or_false] at ha
    exact wal_mem.mpr (by omega))
  have up0 : ∀ {X Y : zA}, cF [110] X Y → cF wal X Y := fun f => f.mono (fun a ha => by
    simp only [List.contains_iff_mem, List.mem_cons, List.not_mem_nil, or_false] at ha
    exact wal_mem.mpr (by omega))
  have prw : ∀ {X Y : zA} {R : Nat} {Q : Pr} {mt : Nat → Nat → Nat}, cF wal X Y → (R = 7 ∨ R = 21 ∨ R = 35) → (∀ p, exP Q p → p ≤ 3) → PrC X R (exP Q) (pgO Q mt) → PrC Y R (exP Q) (pgO Q mt) := fun f hR hx hp => hp.fr f (fun p hp' => wal_n (by have := hx p hp'; omega))
  unfold z_Wk_walk
  rw [if_pos rfl]
  obtain ⟨A1, b1, b2, b3, b4, b5, b6⟩ := Th_dropTo (N := N) (n := 0) hN (o := 111) (by decide) hO hTT (by omega) ht
  rw [show ((0 : Nat) : Int) = 0 from rfl] at b1
  rw [b1, zbV_s]
  have T41 := T4.fr k4 b2 (by decide)
  have T71 := T7.fr k7 b2 (by decide)
  have C1 : CT A1 0 (fun _ => .nil) := ⟨b2.own, b3, ⟨fun i hi => by omega, fun i j hij hj => by omega⟩, fun i hi => by omega⟩
  have W1 := up1 b2
  unfold z_Wk_walk_12
  rw [zlet_s, if_pos rfl]
  have f2 := cF_sr (A := A1) (j := 9) (r := some R0) C1.1
  have v2 : zmr (zsr A1 110 9 (some R0)) 110 9 = some R0 := by rw [zmr_sr, if_pos ⟨rfl, rfl⟩]
  have C2 := C1.fr f2 (by decide)
  have T42 := T41.fr k4 f2 (by decide)
  have T72 := T71.fr k7 f2 (by decide)
  have W2 := W1.trans (up0 f2)
  generalize zsr A1 110 9 (some R0) = A2 at *
  obtain ⟨q1, q2⟩ := n0.main m0
  obtain ⟨A3, t3, D3, c1, c2, c3, c4, c5, c6, c7⟩ := walk33 (N := N) (ta := 114) hN hR0 hex0 (o0.wf (mt := mt0)) (n0.wb m0) (fun q => (n0.1 q).1) (Or.inr rfl) q1 q2 k4 T42 C2 (by omega) v2 (prw W2 hR0 hex0 hP0)
  have c2 : CW A3 false 193 114 R0 t3 D3 (wlk Q0 mt0) := c2
  rw [c1]
  have W3 := W2.trans (c6.mono (fun a ha => wl_wal k4 ha))
  have T73 := T72.fr k7 c6 (nc_of (fun q => by have := wl_mem.mp q; omega))
  have hO3 := c2.1.1
  have f4 := cF_sr (A := A3) (j := 9) (r := some R1) hO3
  have v4 : zmr (zsr A3 110 9 (some R1)) 110 9 = some R1 := by rw [zmr_sr, if_pos ⟨rfl, rfl⟩]
  have C4 := c2.1.fr f4 (by decide)
  have T74 := T73.fr k7 f4 (by decide)
  have W4 := W3.trans (up0 f4)
  obtain ⟨q3, q4⟩ := n1.main m1
  generalize hA4 : zsr A3 110 9 (some R1) = A4 at *
  obtain ⟨A5, t5, D5, d1, d2, d3, d4, d5, d6, d7⟩ := walk33 (N := N) (ta := 117) hN hR1 hex1 (o1.wf (mt := mt1)) (n1.wb m1) (fun q => (n1.1 q).1) (Or.inr rfl) q3 q4 k7 T74 C4 (by omega) v4 (prw W4 hR1 hex1 hP1)
  have d2 : CW A5 false 193 117 R1 t5 D5 (wlk Q1 mt1) := d2
  have W5 := W4.trans (d6.mono (fun a ha => wl_wal k7 ha))
  have F5 : ∀ a, (a = 114 ∨ a = 115 ∨ a = 116) → ([110] : List Nat).contains a = false ∧ (wl 0 193 117).contains a = false := fun a ha => ⟨cont2 (by omega), nc_of (fun q => by have := wl_mem.mp q; omega)⟩
  have i5 : ∀ a j, (a = 114 ∨ a = 115 ∨ a = 116) → zi A5 a j = zi A3 a j := fun a j ha => by
    have hf : fx a = true := by rcases ha with rfl | rfl | rfl <;> decide
    rw [d6.i hf (F5 a ha).2, f4.i hf (F5 a ha).1]
  have y5 : ∀ f e, (f = 3 ∨ f = 4) → yv A5 114 f e = yv A3 114 f e := fun f e hf => by
    have hd : dy 114 f = true := by rcases hf with rfl | rfl <;> decide
    rw [d6.v hd (F5 114 (Or.inl rfl)).2, f4.v hd (F5 114 (Or.inl rfl)).1]
  have r5 : ∀ j, zmr A5 114 j = zmr A3 114 j := fun j => by rw [d6.r (by decide) (F5 114 (Or.inl rfl)).2, f4.r (by decide) (F5 114 (Or.inl rfl)).1]
  have D53 : ∀ i, i < t3 → D5 i = D3 i := d5
  have T45 : TAI A5 114 := (c2.2.2.2.2.2.2.2.fr k4 f4 (by decide)).fr k4 d6 (F5 114 (Or.inl rfl)).2
  have hSA : SA A5 t5 D5 (wlk Q0 mt0) (wlk Q1 mt1) := ⟨d2.1.1, d2.1.2.1, d2.1.2.2.1, c2.2.2.2.1.mono (i5 114 2 (Or.inl rfl)) (fun i => ⟨i5 115 _ (Or.inr (Or.inl rfl)), i5 116 _ (Or.inr (Or.inr rfl))⟩) d3 D53, d2.2.2.2.1, c2.2.2.2.2.2.2.1.mono (r5 3) (fun e => ⟨y5 3 e (Or.inl rfl), y5 4 e (Or.inr rfl)⟩) d3 D53, d2.2.2.2.2.2.2.1, T45, d2.2.2.2.2.2.2.2⟩
  obtain ⟨E, g1, g2⟩ := Wk_saidTheSame (N := N) hN hSA d2.1.2.2.2 wlk_lv wlk_lv (by omega) (wlk_bd o0 n0 m0).1
  refine ⟨A3, A5, E, rfl, W3, ?_, g1, W5.trans (up1 g2.1), g2.1.own, ⟨t5, by omega, (g2.tt d2.1.2.1).1⟩, T45.fr k4 g2.1 (by decide), d2.2.2.2.2.2.2.2.fr k7 g2.1 (by decide)⟩
  rw [if_neg (by decide), zlet_s, if_neg (by decide), hA4]
  exact d1
end
