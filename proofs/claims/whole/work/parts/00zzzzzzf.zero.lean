/-! the cells that the constructors leave -/
def z1v : List Int32 := [0, 1, 2, 1, 2, 0, 1, 1, 1, 0, 0, 1, 0]
def z2v : List Int32 := [0, 1, 1, 1, 0, 0, 0, 0, 0, 0, 0, 0, 0]
def z3v : List Int32 := [2, 2, 4, 2, 2, 1, 1, 2, 1, 0, 0, 1, 0]
def zS0 (L : Nat) : List zK := (true, 0, L) :: (List.range 295).map (fun a => (zsh (a + 1)).getD (false, 0, 0))
def z7 (a j : Nat) : Bool := (pto.contains a && Nat.beq j 3) || (Nat.beq a 230 && Nat.blt j 12)
def zI0 (xs : Nat → Int32) (a j : Nat) : Int32 := if a = 0 then xs j else if a = 1 then z1v.getD j 0 else if a = 2 then z2v.getD j 0 else if a = 3 then z3v.getD j 0 else if z7 a j then 7 else 0
def zR0 (a j : Nat) : Option Nat := if dyo.contains a && Nat.blt j 2 then some (a + 1 + j) else if a = 4 ∧ j = 2 then some 21 else if a = 4 ∧ j = 3 then some 35 else if a = 110 ∧ j = 5 then some 193 else if a = 110 ∧ j = 8 then some 114 else if a = 110 ∧ j = 9 then some 195 else zfr a j
def zA0 (L : Nat) (xs : Nat → Int32) : zA := (zS0 L, zI0 xs, fun _ _ => 0, zR0)
section
variable {L : Nat} {xs : Nat → Int32}
theorem zsh_a {a : Nat} {s : zK} (h : zsh a = some s) : a < 296 := by
  by_cases e : a < 296
  · exact e
  · exfalso
    have hb : ∀ n, n < 296 → Nat.blt a n = false := fun n hn => by
      cases q : Nat.blt a n with
      | false => rfl
      | true => have := Nat.blt_eq.mp q; omega
    have hq : ∀ n, n < 296 → Nat.beq a n = false := fun n hn => by
      cases q : Nat.beq a n with
      | false => rfl
      | true => have := Nat.eq_of_beq_eq_true q; omega
    unfold zsh at h
    simp [hb, hq] at h
theorem zS0_at {a : Nat} {s : zK} (h : zsh a = some s) : (zS0 L)[a]? = some s := by
  have hl := zsh_a h
  cases a with
  | zero => rw [show zsh 0 = none from rfl] at h; cases h
  | succ a =>
    unfold zS0
    rw [List.getElem?_cons_succ, List.getElem?_map, List.getElem?_range (by omega)]
    show some ((zsh (a + 1)).getD (false, 0, 0)) = some s
    rw [h]
    rfl
theorem mi0 {a j : Nat} (h : 4 ≤ a) : zi (zA0 L xs) a j = if z7 a j then 7 else 0 := by
  show (zI0 xs a j).toInt = _
  unfold zI0
  rw [if_neg (by omega), if_neg (by omega), if_neg (by omega), if_neg (by omega)]
  cases z7 a j <;> rfl
theorem mr0_d {o f : Nat} (ho : dyo.contains o = true) (hf : f < 2) : zmr (zA0 L xs) o f = some (o + 1 + f) := by
  show zR0 o f = _
  unfold zR0
  rw [ho, Nat.blt_eq.mpr hf]
  rfl
theorem dyo_sh : ∀ o ∈ dyo, ∀ f, f < 2 → ∃ n, n ≤ 1000000 ∧ zsh (o + 1 + f) = some (true, 0, n) := by
  have : ∀ o ∈ dyo, (match zsh (o + 1), zsh (o + 2) with
    | some (true, 0, n), some (true, 0, m) => Nat.ble n 1000000 && Nat.ble m 1000000
    | _, _ => false) = true := by decide
  intro o ho f hf
  have := this o ho
  rcases (show f = 0 ∨ f = 1 by omega) with rfl | rfl
  · split at this
    · next n m e1 e2 =>
      rw [Bool.and_eq_true] at this
      exact ⟨n, Nat.ble_eq.mp this.1, e1⟩
    · cases this
  · split at this
    · next n m e1 e2 =>
      rw [Bool.and_eq_true] at this
      exact ⟨m, Nat.ble_eq.mp this.2, e2⟩
    · cases this
theorem dyo_inj : ∀ o ∈ dyo, ∀ o' ∈ dyo, o = o' ∨ o + 2 < o' ∨ o' + 2 < o := by decide
theorem own0 : Own (zA0 L xs) := by
  have tl : ∀ o f c, dy o f = true → zmr (zA0 L xs) o f = some c → dyo.contains o = true ∧ f < 2 ∧ c = o + 1 + f := fun o f c hd hm => by
    rcases dy_cases hd with ⟨h1, h2⟩ | ⟨h1, h2⟩
    · rw [mr0_d h1 h2] at hm
      exact ⟨h1, h2, (Option.some.inj hm).symm⟩
    · exfalso
      rcases h1 with rfl | rfl <;> rcases h2 with rfl | rfl <;> cases hm
  refine ⟨fun a s hs => zS0_at hs, fun o f c hd hm => ?_, fun o f ho hf => ⟨_, mr0_d ho hf⟩, fun o f o' f' c hd hd' hm hm' => ?_⟩
  · obtain ⟨h1, h2, rfl⟩ := tl o f c hd hm
    obtain ⟨n, n1, n2⟩ := dyo_sh o (List.contains_iff_mem.mp h1) f h2
    exact ⟨⟨n, zS0_at n2, n1⟩, Or.inl ⟨h1, h2, rfl⟩⟩
  · obtain ⟨h1, h2, e1⟩ := tl o f c hd hm
    obtain ⟨h1', h2', e1'⟩ := tl o' f' c hd' hm'
    have := dyo_inj o (List.contains_iff_mem.mp h1) o' (List.contains_iff_mem.mp h1')
    omega
theorem yl0 {o f n : Nat} (ho : dyo.contains o = true) (hf : f < 2) (hs : zsh (o + 1 + f) = some (true, 0, n)) : yl (zA0 L xs) o f = n := by
  unfold yl yc
  rw [mr0_d ho hf]
  show (match (zS0 L)[o + 1 + f]? with
    | some (_, _, n) => (n : Int)
    | none => 0) = _
  rw [zS0_at hs]
theorem yv0 {o f : Nat} {e : Int} (ho : dyo.contains o = true) (hf : f < 2) (h4 : 3 ≤ o) (h7 : ∀ j, z7 (o + 1 + f) j = false) : yv (zA0 L xs) o f e = 0 := by
  unfold yv yc
  rw [mr0_d ho hf]
  show zi (zA0 L xs) (o + 1 + f) e.toNat = 0
  rw [mi0 (by omega), h7]
  rfl
theorem z7_f {a j : Nat} (h1 : pto.contains a = false) (h2 : a ≠ 230) : z7 a j = false := by
  unfold z7
  rw [h1]
  have : Nat.beq a 230 = false := by
    cases q : Nat.beq a 230 with
    | false => rfl
    | true => exact absurd (Nat.eq_of_beq_eq_true q) h2
  rw [this]
  rfl
theorem z0i {a j : Nat} (h : 4 ≤ a) (h1 : pto.contains a = false) (h2 : a ≠ 230) : zi (zA0 L xs) a j = 0 := by
  rw [mi0 h, z7_f h1 h2]
  rfl
theorem pto_sh : ∀ o ∈ pto, zsh (o + 1) = some (true, 0, 80) ∧ zsh (o + 2) = some (true, 0, 16) ∧ 4 ≤ o := by decide
theorem pi0 {o : Nat} (ho : pto.contains o = true) : PI (zA0 L xs) o ∧ cn (zA0 L xs) o = 0 ∧ cr (zA0 L xs) o = 7 := by
  obtain ⟨s1, s2, s3⟩ := pto_sh o (List.contains_iff_mem.mp ho)
  have y0 : yl (zA0 L xs) o 0 = 80 := yl0 (pto_dy ho) (by decide) s1
  have y1 : yl (zA0 L xs) o 1 = 16 := yl0 (pto_dy ho) (by decide) s2
  have c0 : cn (zA0 L xs) o = 0 := by
    unfold cn
    have h2 : z7 o 2 = false := by
      unfold z7
      have : (Nat.beq o 230 && Nat.blt 2 12) = false := by
        cases q : Nat.beq o 230 with
        | false => rfl
        | true =>
          have := Nat.eq_of_beq_eq_true q
          subst this
          exact absurd ho (by decide)
      rw [ho, this]
      rfl
    rw [mi0 s3, h2]
    rfl
  have c7 : cr (zA0 L xs) o = 7 := by
    unfold cr
    have h2 : z7 o 3 = true := by
      unfold z7
      rw [ho]
      rfl
    rw [mi0 s3, h2]
    rfl
  refine ⟨?_, c0, c7⟩
  unfold PI
  rw [c0, y0, y1]
  decide
theorem tt0 {o : Nat} (ho : dyo.contains o = true) (h3 : 4 ≤ o) (hp : pto.contains o = false) (h230 : o ≠ 230) (s0 : zsh (o + 1 + 0) = some (true, 0, 896)) (s1 : zsh (o + 1 + 1) = some (true, 0, 256)) (h7 : ∀ j, z7 (o + 1 + 1) j = false) : TT (zA0 L xs) o 0 := by
  refine ⟨⟨0, by decide, yl0 ho (by decide) s0, yl0 ho (by decide) s1, Nat.zero_le _, fun i hi => absurd hi (Nat.not_lt_zero i), fun s hs => Or.inl (yv0 ho (by decide) (by omega) h7)⟩, fun i j h1 h2 => absurd h2 (Nat.not_lt_zero j), z0i h3 hp h230⟩
theorem gq0 : GQ Q00 := by
  refine ⟨⟨by decide, fun p hp => ⟨(by decide : 7 ≤ 7), (by decide : 7 ≤ 60), Nat.zero_le _, fun i hi => by cases hi⟩⟩, fun _ => 1, fun _ => 0, fun q => ⟨(by decide : 1 ≤ 1), (by decide : 1 ≤ 20)⟩, fun q hq => ?_, fun q hq => absurd hq (Nat.not_lt_zero q), Nat.zero_le _⟩
  show bal _ _ []
  cases lvl (fun _ => 1) q with
  | zero => exact fun i hi => by cases hi
  | succ n => exact ⟨[], rfl, fun s hs => by cases hs⟩
theorem cst0 {R : Nat} {mt : Nat → Nat → Nat} (hR : okR R) : CSt (zA0 L xs) R Q00 mt := by
  refine ⟨?_, fun p hp => ?_⟩
  · rcases hR with rfl | rfl | rfl <;> exact z0i (by decide) (by decide) (by decide)
  · have : p = 3 := by
      rcases hp with hp | hp
      · exact absurd hp (Nat.not_lt_zero p)
      · exact hp
    subst this
    have ho : pto.contains (R + 2 + 3 * 3) = true := by rcases hR with rfl | rfl | rfl <;> decide
    obtain ⟨p1, p2, p3⟩ := pi0 (L := L) (xs := xs) ho
    exact ⟨ho, p1, p2, p3, fun k hk => absurd hk (Nat.not_lt_zero k)⟩
theorem cpi0 {R : Nat} (hR : okR R) : CPI (zA0 L xs) R := fun p hp => by
  refine (pi0 (L := L) (xs := xs) ?_).1
  rcases (show p = 0 ∨ p = 1 ∨ p = 2 ∨ p = 3 by omega) with rfl | rfl | rfl | rfl <;> rcases hR with rfl | rfl | rfl <;> decide
theorem sta0 : STA (zA0 L xs) := by
  have key : ∀ k, k < 13 → (z1v.getD k 0).toInt = rdk k ∧ (z2v.getD k 0).toInt = frk k ∧ (z3v.getD k 0).toInt = nbk k := by decide
  intro k hk
  obtain ⟨a, b, c⟩ := key k hk
  refine ⟨?_, ?_, ?_⟩
  · show (zI0 xs 1 ((k : Int).toNat)).toInt = _
    rw [Int.toNat_natCast]; exact a
  · show (zI0 xs 2 ((k : Int).toNat)).toInt = _
    rw [Int.toNat_natCast]; exact b
  · show (zI0 xs 3 ((k : Int).toNat)).toInt = _
    rw [Int.toNat_natCast]; exact c
/-- at the beginning all holds -/
theorem in0 : IN (zA0 L xs) := by
  have tf : ∀ {P : Prop} {i : Nat}, i < 0 → P := fun h => absurd h (Nat.not_lt_zero _)
  have rn0 : ∀ e, rn (zA0 L xs) e = 0 := fun e => z0i (a := 229) (j := e.toNat) (by decide) (by decide) (by decide)
  have z2 : ∀ j, zi (zA0 L xs) 226 j = 0 := fun j => z0i (by decide) (by decide) (by decide)
  have m2 : ∀ j, zi (zA0 L xs) 214 j = 0 := fun j => z0i (by decide) (by decide) (by decide)
  have p4 : ∀ j, zi (zA0 L xs) 4 j = 0 := fun j => z0i (by decide) (by decide) (by decide)
  have rst : ∀ z, z < 3 → RSt (zA0 L xs) z Q00 := fun z hz p hp => by
    have : p = 3 := by
      rcases hp with hp | hp
      · exact tf hp
      · exact hp
    subst this
    refine ⟨rn0 _, ?_, fun k hk => tf hk⟩
    show zi (zA0 L xs) 230 _ = 7
    have h7 : z7 230 ((4 * (z : Int) + (3 : Nat)).toNat) = true := by
      rcases (show z = 0 ∨ z = 1 ∨ z = 2 by omega) with rfl | rfl | rfl <;> decide
    rw [mi0 (by decide), h7]
    rfl
  have rl : ∀ z, RL (zA0 L xs) z := fun z p hp => by rw [rn0]; decide
  have t111 : TT (zA0 L xs) 111 0 := tt0 (by decide) (by decide) (by decide) (by decide) rfl rfl (fun j => z7_f (by decide) (by decide))
  have t103 : TT (zA0 L xs) 103 0 := tt0 (by decide) (by decide) (by decide) (by decide) rfl rfl (fun j => z7_f (by decide) (by decide))
  have p95 : P95 (zA0 L xs) := fun o ho => by
    have hp : pto.contains o = true := by rcases ho with rfl | rfl | rfl | rfl <;> decide
    obtain ⟨s1, s2, s3⟩ := pto_sh o (List.contains_iff_mem.mp hp)
    rw [yl0 (f := 0) (pto_dy hp) (by decide) s1, yl0 (f := 1) (pto_dy hp) (by decide) s2]
    decide
  have cdi : CDI (zA0 L xs) := by
    unfold CDI
    rw [yl0 (o := 209) (f := 0) (n := 128) (by decide) (by decide) rfl, yl0 (o := 209) (f := 1) (n := 128) (by decide) (by decide) rfl, z0i (by decide) (by decide) (by decide)]
    decide
  have tai : ∀ ta, ta = 114 ∨ ta = 117 → TAI (zA0 L xs) ta := fun ta h => Or.inl (by rcases h with rfl | rfl <;> exact ⟨rfl, rfl⟩)
  refine ⟨21, 35, Q00, Q00, fun _ => 0, 0, fun _ => 0, 0, [], 0, 0, 0, ⟨gq0, gq0, rfl, TXT0, Nat.zero_le _, Nat.zero_le _⟩, ⟨⟨Or.inl ⟨rfl, rfl⟩, rfl, rfl, ⟨own0, ⟨0, Nat.zero_le _, t111⟩, tai 114 (Or.inl rfl), tai 117 (Or.inr rfl)⟩, cpi0 (Or.inl rfl), cpi0 (Or.inr (Or.inl rfl)), cpi0 (Or.inr (Or.inr rfl)), cst0 (Or.inr (Or.inl rfl)), cst0 (Or.inl rfl)⟩, sta0, ⟨⟨0, t103, Nat.zero_le _⟩, p95⟩, ⟨cdi, Or.inl (p4 9)⟩, ⟨z0i (by decide) (by decide) (by decide), fun k hk => tf hk⟩, ⟨m2 1, fun k hk => tf hk⟩, ⟨m2 3, fun k hk => tf hk⟩, m2 4, p4 11, p4 12⟩, ⟨⟨rst 0 (by decide), rst 2 (by decide), z2 6, rl 0, rl 1, rl 2⟩, ⟨z2 1, fun k hk => tf hk⟩, ⟨z2 10, fun k hk => tf hk⟩, ⟨z2 92, fun k hk => tf hk⟩, z2 93, z2 7, z2 8⟩⟩
theorem sc0 : SC (zA0 L xs) L := rfl
end
