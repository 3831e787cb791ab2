/-! the state of the reference's walk -/
def rpl (A : zA) (dp : Nat) (i : Nat) : Int := if i = 60 then zi A 226 63 else if i < 6 then ri A 267 i else ri A 268 (60 * dp + i)
def RPl (A : zA) (dp t : Nat) (D : Nat → T) (f : Nat → T) : Prop := ∀ i : Nat, i < 61 → ix t D (rpl A dp i) (f i)
def wc (w : Int) : Int := if w = 0 then -3 else if w = 1 then -4 else if w = 2 then -1 else if w = 3 then -2 else -1 - w
def fx1 (q : Int × Option Nat) : List Int := wc q.1 :: (match q.2 with
  | none => []
  | some j => [(j : Int)])
def fl (L : List (Int × Option Nat)) : List Int := L.flatMap fx1
/-- said so far, as numbers -/
def RSl (A : zA) (w : Nat) (L : List Int) : Prop := ri A 260 w = L.length ∧ ∀ (i : Nat) (h : i < L.length), ri A 259 (2000 * w + i) = L[i]
def RSd (A : zA) (w t : Nat) (D : Nat → T) (S : List (Int × Option T)) : Prop := ∃ L : List (Int × Option Nat), S = L.map (fun q => (q.1, q.2.map D)) ∧ (∀ q ∈ L, 0 ≤ q.1 ∧ q.1 ≤ 8 ∧ ∀ j, q.2 = some j → j < t) ∧ RSl A w (fl L)
def RWy (A : zA) (t : Nat) (D : Nat → T) (l : List (Int × T)) : Prop := zi A 226 81 = l.length ∧ ∀ (k : Nat) (h : k < l.length), ∃ j : Nat, j < t ∧ ri A 284 k = (if l[k].1 = 0 then (j : Int) else -1 - j) ∧ D j = l[k].2 ∧ (l[k].1 = 0 ∨ l[k].1 = 1)
def RCc (A : zA) (w t : Nat) (D : Nat → T) (l : List (Int × Nat × T × T)) : Prop := ∀ q ∈ l, ∃ jt c : Nat, jt < t ∧ D jt = tCir q.1 q.2.1 ∧ (c : Int) < ri A 261 w ∧ ri A 266 (16000 * w + jt) = c ∧ ix t D (ri A 264 (4000 * w + c)) q.2.2.1 ∧ ix t D (ri A 265 (4000 * w + c)) q.2.2.2 ∧ ri A 262 (4000 * w + c) = jt
def RFl (A : zA) (sc dp lv : Nat) (W I : Int) : Prop := zi A 226 62 = dp ∧ zi A 226 66 = lv ∧ zi A 226 80 = sc ∧ zi A 226 64 = W ∧ zi A 226 65 = I
def RW (A : zA) (w sc dp lv t : Nat) (D : Nat → T) (s : St) : Prop := RTh A t D ∧ RPl A dp t D s.1 ∧ RSd A w t D s.2.1 ∧ RWy A t D s.2.2.1 ∧ RFl A sc dp lv s.2.2.2.1 s.2.2.2.2.1 ∧ RCc A w t D s.2.2.2.2.2 ∧ 0 ≤ ri A 261 w ∧ ri A 261 w ≤ 61 * s.2.2.2.1 ∧ 0 ≤ s.2.2.2.2.1
section
variable {A B : zA} {w dp t t' : Nat} {D D' : Nat → T}
theorem RPl.mono {f : Nat → T} (h : RPl A dp t D f) (he : ∀ i : Nat, i < 61 → rpl B dp i = rpl A dp i) (ht : t ≤ t') (hD : ∀ i, i < t → D' i = D i) : RPl B dp t' D' f := fun i hi => by
  rw [he i hi]; exact (h i hi).mono ht hD
theorem RSl.mono {L : List Int} (h : RSl A w L) (h1 : ri B 260 w = ri A 260 w) (h2 : ∀ i : Nat, i < L.length → ri B 259 (2000 * w + i) = ri A 259 (2000 * w + i)) : RSl B w L := ⟨by rw [h1]; exact h.1, fun i hi => by rw [h2 i hi]; exact h.2 i hi⟩
theorem RSd.mono {S : List (Int × Option T)} (h : RSd A w t D S) (h1 : ri B 260 w = ri A 260 w) (h2 : ∀ i : Nat, ri B 259 (2000 * w + i) = ri A 259 (2000 * w + i)) (ht : t ≤ t') (hD : ∀ i, i < t → D' i = D i) : RSd B w t' D' S := by
  obtain ⟨L, l1, l2, l3⟩ := h
  refine ⟨L, ?_, fun q hq => ⟨(l2 q hq).1, (l2 q hq).2.1, fun j hj => by have := (l2 q hq).2.2 j hj; omega⟩, l3.mono h1 (fun i _ => h2 i)⟩
  rw [l1]
  apply List.map_congr_left
  intro q hq
  obtain ⟨x, y⟩ := q
  cases y with
  | none => rfl
  | some j => show (x, some (D j)) = (x, some (D' j)); rw [hD j ((l2 _ hq).2.2 j rfl)]
theorem RWy.mono {l : List (Int × T)} (h : RWy A t D l) (h1 : zi B 226 81 = zi A 226 81) (h2 : ∀ i : Nat, i < l.length → ri B 284 i = ri A 284 i) (ht : t ≤ t') (hD : ∀ i, i < t → D' i = D i) : RWy B t' D' l := ⟨by rw [h1]; exact h.1, fun k hk => by
  obtain ⟨j, j1, j2, j3, j4⟩ := h.2 k hk
  exact ⟨j, by omega, by rw [h2 k hk]; exact j2, by rw [hD j j1]; exact j3, j4⟩⟩
theorem RCc.mono {l : List (Int × Nat × T × T)} (h : RCc A w t D l) (h1 : ri A 261 w ≤ ri B 261 w) (h2 : ∀ c : Nat, (c : Int) < ri A 261 w → ri B 264 (4000 * w + c) = ri A 264 (4000 * w + c) ∧ ri B 265 (4000 * w + c) = ri A 265 (4000 * w + c) ∧ ri B 262 (4000 * w + c) = ri A 262 (4000 * w + c)) (h3 : ∀ q ∈ l, ∀ j, j < t → D j = tCir q.1 q.2.1 → ri B 266 (16000 * w + j) = ri A 266 (16000 * w + j)) (ht : t ≤ t') (hD : ∀ i, i < t → D' i = D i) : RCc B w t' D' l := fun q hq => by
  obtain ⟨jt, c, q1, q2, q3, q4, q5, q6, q7⟩ := h q hq
  exact ⟨jt, c, by omega, by rw [hD jt q1]; exact q2, by omega, by rw [h3 q hq jt q1 q2]; exact q4, by rw [(h2 c q3).1]; exact q5.mono ht hD, by rw [(h2 c q3).2.1]; exact q6.mono ht hD, by rw [(h2 c q3).2.2]; exact q7⟩
theorem fl_app (L M : List (Int × Option Nat)) : fl (L ++ M) = fl L ++ fl M := by unfold fl; rw [List.flatMap_append]
theorem fl_one (q : Int × Option Nat) : fl [q] = fx1 q := by unfold fl; simp
theorem fx1_len (q : Int × Option Nat) : (fx1 q).length ≤ 2 := by
  obtain ⟨x, y⟩ := q
  cases y <;> simp [fx1]
theorem fl_len : ∀ L : List (Int × Option Nat), (fl L).length ≤ 2 * L.length
  | [] => by simp [fl]
  | q :: L => by
    have h1 := fl_len L
    have h2 := fx1_len q
    have : fl (q :: L) = fx1 q ++ fl L := by unfold fl; rw [List.flatMap_cons]
    rw [this, List.length_append, List.length_cons]
    omega
end
section
variable {N : Nat} {A B : zA} {w sc dp lv t t' : Nat} {D D' : Nat → T} {s : St}
/-- only things grew -/
theorem RW.th (h : RW A w sc dp lv t D s) (f : fr qT A B) (hT : RTh B t' D') (ht : t ≤ t') (hD : ∀ i, i < t → D' i = D i) : RW B w sc dp lv t' D' s := by
  obtain ⟨h1, h2, h3, h4, h5, h6, h7, h8, h9⟩ := h
  have e : ∀ a e, 258 < a → ri B a e = ri A a e := fun a e ha => f.e (fun z => by unfold qT at z; omega)
  have i : ∀ j, j ≠ 42 → zi B 226 j = zi A 226 j := fun j hj => f.i (fun z => by unfold qT at z; omega)
  refine ⟨hT, h2.mono (fun k hk => ?_) ht hD, h3.mono (e _ _ (by omega)) (fun _ => e _ _ (by omega)) ht hD, h4.mono (i _ (by omega)) (fun _ _ => e _ _ (by omega)) ht hD, ?_, h6.mono (by rw [e 261 _ (by omega)]; omega) (fun c _ => ⟨e _ _ (by omega), e _ _ (by omega), e _ _ (by omega)⟩) (fun _ _ _ _ _ => e _ _ (by omega)) ht hD, by rw [e 261 _ (by omega)]; exact h7, by rw [e 261 _ (by omega)]; exact h8, h9⟩
  · unfold rpl
    rw [i 63 (by omega), e 267 _ (by omega), e 268 _ (by omega)]
  · unfold RFl
    rw [i 62 (by omega), i 66 (by omega), i 80 (by omega), i 64 (by omega), i 65 (by omega)]
    exact h5
/-- level rows, way back: the state doesn't speak of them -/
theorem RW.lev {Q : Nat → Nat → Prop} (h : RW A w sc dp lv t D s) (f : fr Q A B) (hq : ∀ a j, Q a j → a = 263 ∨ (269 ≤ a ∧ a ≤ 283)) : RW B w sc dp lv t D s := by
  obtain ⟨h1, h2, h3, h4, h5, h6, h7, h8, h9⟩ := h
  have e : ∀ a e, ¬ (a = 263 ∨ (269 ≤ a ∧ a ≤ 283)) → ri B a e = ri A a e := fun a e ha => f.e (fun z => ha (hq _ _ z))
  have i : ∀ j, zi B 226 j = zi A 226 j := fun j => f.i (fun z => by have := hq _ _ z; omega)
  have r := Nat.le_refl t
  refine ⟨h1.fr f (fun a j z => by have := hq _ _ z; unfold qT; omega), h2.mono (fun k hk => ?_) r (fun _ _ => rfl), h3.mono (e _ _ (by omega)) (fun _ => e _ _ (by omega)) r (fun _ _ => rfl), h4.mono (i _) (fun _ _ => e _ _ (by omega)) r (fun _ _ => rfl), ?_, h6.mono (by rw [e 261 _ (by omega)]; omega) (fun c _ => ⟨e _ _ (by omega), e _ _ (by omega), e _ _ (by omega)⟩) (fun _ _ _ _ _ => e _ _ (by omega)) r (fun _ _ => rfl), by rw [e 261 _ (by omega)]; exact h7, by rw [e 261 _ (by omega)]; exact h8, h9⟩
  · unfold rpl
    rw [i 63, e 267 _ (by omega), e 268 _ (by omega)]
  · unfold RFl
    rw [i 62, i 66, i 80, i 64, i 65]
    exact h5
/-- places -/
def qP (dp : Nat) (a j : Nat) : Prop := (a = 226 ∧ j = 63) ∨ a = 267 ∨ (a = 268 ∧ 60 * dp + 6 ≤ j)
theorem RW.pl {f' : Nat → T} (h : RW A w sc dp lv t D s) (f : fr (qP dp) A B) (hp : RPl B dp t D f') : RW B w sc dp lv t D (f', s.2) := by
  obtain ⟨h1, h2, h3, h4, h5, h6, h7, h8, h9⟩ := h
  have e : ∀ a e, 226 < a → a ≠ 267 → a ≠ 268 → ri B a e = ri A a e := fun a e h0 ha hb => f.e (fun z => by unfold qP at z; omega)
  have i : ∀ j, j ≠ 63 → zi B 226 j = zi A 226 j := fun j hj => f.i (fun z => by unfold qP at z; omega)
  have r := Nat.le_refl t
  refine ⟨h1.fr f (fun a j z => by unfold qP at z; unfold qT; omega), hp, h3.mono (e _ _ (by omega) (by omega) (by omega)) (fun _ => e _ _ (by omega) (by omega) (by omega)) r (fun _ _ => rfl), h4.mono (i _ (by omega)) (fun _ _ => e _ _ (by omega) (by omega) (by omega)) r (fun _ _ => rfl), ?_, h6.mono (by rw [e 261 _ (by omega) (by omega) (by omega)]; omega) (fun c _ => ⟨e _ _ (by omega) (by omega) (by omega), e _ _ (by omega) (by omega) (by omega), e _ _ (by omega) (by omega) (by omega)⟩) (fun _ _ _ _ _ => e _ _ (by omega) (by omega) (by omega)) r (fun _ _ => rfl), by rw [e 261 _ (by omega) (by omega) (by omega)]; exact h7, by rw [e 261 _ (by omega) (by omega) (by omega)]; exact h8, h9⟩
  unfold RFl
  rw [i 62 (by omega), i 66 (by omega), i 80 (by omega), i 64 (by omega), i 65 (by omega)]
  exact h5
theorem M_get {r : Nat} (hd : zi A 226 62 = dp) (hd3 : dp ≤ 3) (hr : r < 61) : z_M_get N r A = some (rpl A dp r) := by
  unfold z_M_get rpl
  by_cases c : r = 60
  · rw [if_pos (by omega), if_pos c]
  · rw [if_neg (by omega), if_neg c]
    by_cases c6 : r < 6
    · rw [if_pos (by omega), if_pos c6, zrd_ok (by omega) (by omega)]
    · rw [if_neg (by omega), if_neg c6, hd, zrd_ok (by omega) (by omega)]
def rse (A : zA) (dp r : Nat) (v : Int) : zA := if r = 60 then zsi A 226 63 v else if r < 6 then rs A 267 r v else rs A 268 (60 * dp + r) v
theorem M_set {r : Nat} {v : Int} (hd : zi A 226 62 = dp) (hd3 : dp ≤ 3) (hr : r < 61) : z_M_set N r v A = some (rse A dp r v) := by
  unfold z_M_set rse
  by_cases c : r = 60
  · rw [if_pos (by omega), if_pos c]; rfl
  · rw [if_neg (by omega), if_neg c]
    by_cases c6 : r < 6
    · rw [if_pos (by omega), if_pos c6, zwr_ok (by omega) (by omega)]
    · rw [if_neg (by omega), if_neg c6, hd, zwr_ok (by omega) (by omega)]
theorem rse_fr {r : Nat} {v : Int} (hr : r < 61) : fr (qP dp) A (rse A dp r v) := by
  unfold rse
  split
  · exact fr_si (Or.inl ⟨rfl, rfl⟩)
  · split
    · exact fr_rs (Or.inr (Or.inl rfl))
    · exact fr_rs (Or.inr (Or.inr ⟨rfl, by omega⟩))
theorem rpl_rse {r i : Nat} {v : Int} (hr : r < 61) (hi : i < 61) (hv : zw v = v) : rpl (rse A dp r v) dp i = if i = r then v else rpl A dp i := by
  unfold rse
  by_cases c : r = 60
  · rw [if_pos c]
    unfold rpl
    by_cases c' : i = 60
    · rw [if_pos c', if_pos (by omega), zi_si_s, hv]
    · rw [if_neg c', if_neg c', ri_si_o (by decide), ri_si_o (by decide), if_neg (show ¬ i = r by omega)]
  · rw [if_neg c]
    by_cases c6 : r < 6
    · rw [if_pos c6]
      unfold rpl
      by_cases c' : i = 60
      · rw [if_pos c', if_neg (by omega), if_pos c', zi_rs_o (by decide)]
      · rw [if_neg c', if_neg c']
        by_cases d6 : i < 6
        · rw [if_pos d6, if_pos d6, ri_rs (by omega) (by omega), hv]
          by_cases z : i = r
          · rw [if_pos z, if_pos (by omega)]
          · rw [if_neg z, if_neg (by omega)]
        · rw [if_neg d6, if_neg d6, if_neg (by omega), ri_rs_o (by decide)]
    · rw [if_neg c6]
      unfold rpl
      by_cases c' : i = 60
      · rw [if_pos c', if_neg (by omega), if_pos c', zi_rs_o (by decide)]
      · rw [if_neg c', if_neg c']
        by_cases d6 : i < 6
        · rw [if_pos d6, if_pos d6, if_neg (by omega), ri_rs_o (by decide)]
        · rw [if_neg d6, if_neg d6, ri_rs (by omega) (by omega), hv]
          by_cases z : i = r
          · rw [if_pos z, if_pos (by omega)]
          · rw [if_neg z, if_neg (by omega)]
/-- a place is set -/
theorem r_set {r j : Nat} {u : T} (h : RW A w sc dp lv t D s) (hd3 : dp ≤ 3) (hr : r < 61) (hj : j < t) (hu : D j = u) : ∃ B, z_M_set N r j A = some B ∧ RW B w sc dp lv t D (sSet r u s) ∧ fr (qP dp) A B := by
  have hd := h.2.2.2.2.1.1
  have ht := h.1.1.1
  refine ⟨_, M_set hd hd3 hr, h.pl (rse_fr hr) (fun i hi => ?_), rse_fr hr⟩
  rw [rpl_rse hr hi (yb_w (by omega) (by omega))]
  show ix t D (if i = r then (j : Int) else rpl A dp i) (if i = r then u else s.1 i)
  split
  · exact ⟨j, hj, rfl, hu⟩
  · exact h.2.1 i hi
theorem r_get {r : Nat} (h : RW A w sc dp lv t D s) (hd3 : dp ≤ 3) (hr : r < 61) : ∃ j : Nat, j < t ∧ z_M_get N r A = some (j : Int) ∧ D j = s.1 r := by
  obtain ⟨j, j1, j2, j3⟩ := h.2.1 r hr
  exact ⟨j, j1, by rw [M_get h.2.2.2.2.1.1 hd3 hr, j2], j3⟩
end
