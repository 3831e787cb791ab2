/-! mates there are; the walk of a program -/
theorem bal_mt {nd : Int → Nat} : ∀ n X, bal nd n X → ∀ (a : Nat) (kd nm : Nat → Int), (∀ j (hj : j < X.length), X[j].1 = kd (a + j) ∧ (X[j].1 = 7 → X[j].2.2.1 = nm (a + j))) → ∃ mt, Bl nd kd nm mt n a (a + X.length) := by
  have blk : ∀ (n : Nat) (ia ib ic : It) (P Q X : List It) (wh : Bool), ia.1 = (if wh then 10 else 8) → ib.1 = (if wh then 11 else 9) → ic.1 = 12 → (wh = true → ∀ i ∈ P, 0 ≤ i.1 ∧ i.1 ≤ 6) → (∀ (a : Nat) (kd nm : Nat → Int), (∀ j (hj : j < P.length), P[j].1 = kd (a + j) ∧ (P[j].1 = 7 → P[j].2.2.1 = nm (a + j))) → ∃ mt, Bl nd kd nm mt n a (a + P.length)) → (∀ (a : Nat) (kd nm : Nat → Int), (∀ j (hj : j < Q.length), Q[j].1 = kd (a + j) ∧ (Q[j].1 = 7 → Q[j].2.2.1 = nm (a + j))) → ∃ mt, Bl nd kd nm mt n a (a + Q.length)) → (∀ (a : Nat) (kd nm : Nat → Int), (∀ j (hj : j < X.length), X[j].1 = kd (a + j) ∧ (X[j].1 = 7 → X[j].2.2.1 = nm (a + j))) → ∃ mt, Bl nd kd nm mt (n + 1) a (a + X.length)) → ∀ (a : Nat) (kd nm : Nat → Int), (∀ j (hj : j < (ia :: (P ++ ib :: (Q ++ ic :: X))).length), (ia :: (P ++ ib :: (Q ++ ic :: X)))[j].1 = kd (a + j) ∧ ((ia :: (P ++ ib :: (Q ++ ic :: X)))[j].1 = 7 → (ia :: (P ++ ib :: (Q ++ ic :: X)))[j].2.2.1 = nm (a + j))) → ∃ mt, Bl nd kd nm mt (n + 1) a (a + (ia :: (P ++ ib :: (Q ++ ic :: X))).length) := by
    intro n ia ib ic P Q X wh ha hb hc hPp ihP ihQ ihX a kd nm hX
    have hlen : (ia :: (P ++ ib :: (Q ++ ic :: X))).length = P.length + Q.length + X.length + 3 := by simp only [List.length_cons, List.length_append]; omega
    generalize hm : a + 1 + P.length = m
    generalize he : m + 1 + Q.length = e
    have ga : ia.1 = kd a := by have := (hX 0 (by rw [hlen]; omega)).1; simpa using this
    have gm : ib.1 = kd m := by
      have := (hX (1 + P.length) (by rw [hlen]; omega)).1
      rw [show a + (1 + P.length) = m by omega] at this
      rw [← this]
      simp [List.getElem_cons, List.getElem_append]
    have ge : ic.1 = kd e := by
      have := (hX (1 + P.length + (1 + Q.length)) (by rw [hlen]; omega)).1
      rw [show a + (1 + P.length + (1 + Q.length)) = e by omega] at this
      rw [← this]
      simp only [List.getElem_cons, List.getElem_append]
      rw [dif_neg (by omega), dif_neg (by omega), dif_neg (by omega), dif_neg (by omega), dif_pos (by omega)]
    have gP : ∀ j (hj : j < P.length), P[j].1 = kd (a + 1 + j) ∧ (P[j].1 = 7 → P[j].2.2.1 = nm (a + 1 + j)) := fun j hj => by
      have := hX (j + 1) (by rw [hlen]; omega)
      rw [show a + 1 + j = a + (j + 1) by omega]
      simp only [List.getElem_cons_succ, List.getElem_append, dif_pos hj] at this
      exact this
    have gQ : ∀ j (hj : j < Q.length), Q[j].1 = kd (m + 1 + j) ∧ (Q[j].1 = 7 → Q[j].2.2.1 = nm (m + 1 + j)) := fun j hj => by
      have := hX (P.length + 1 + j + 1) (by rw [hlen]; omega)
      rw [show m + 1 + j = a + (P.length + 1 + j + 1) by omega]
      simp only [List.getElem_cons_succ, List.getElem_append, List.getElem_cons] at this
      rw [dif_neg (by omega), dif_neg (by omega), dif_pos (by omega)] at this
      simp only [show P.length + 1 + j - P.length - 1 = j by omega] at this
      exact this
    have gX : ∀ j (hj : j < X.length), X[j].1 = kd (e + 1 + j) ∧ (X[j].1 = 7 → X[j].2.2.1 = nm (e + 1 + j)) := fun j hj => by
      have := hX (P.length + 1 + Q.length + 1 + j + 1) (by rw [hlen]; omega)
      rw [show e + 1 + j = a + (P.length + 1 + Q.length + 1 + j + 1) by omega]
      simp only [List.getElem_cons_succ, List.getElem_append, List.getElem_cons] at this
      rw [dif_neg (by omega), dif_neg (by omega), dif_neg (by omega), dif_neg (by omega)] at this
      simp only [show P.length + 1 + Q.length + 1 + j - P.length - 1 - Q.length - 1 = j by omega] at this
      exact this
    obtain ⟨mp, bp⟩ := ihP (a + 1) kd nm gP
    obtain ⟨mq, bq⟩ := ihQ (m + 1) kd nm gQ
    obtain ⟨mx, bx⟩ := ihX (e + 1) kd nm gX
    rw [hm] at bp
    rw [he] at bq
    refine ⟨fun k => if k = a then m else if k < m then mp k else if k = m then e else if k < e then mq k else if k = e then a else mx k, ?_⟩
    rw [hlen, show a + (P.length + Q.length + X.length + 3) = e + 1 + X.length by omega]
    refine Bl_app ?_ (Bl_congr bx (fun k k1 k2 => ⟨rfl, rfl, fun _ => by rw [if_neg (by omega), if_neg (by omega), if_neg (by omega), if_neg (by omega), if_neg (by omega)]⟩))
    have b1 := Bl_congr (mt' := fun k => if k = a then m else if k < m then mp k else if k = m then e else if k < e then mq k else if k = e then a else mx k) bp (fun k k1 k2 => ⟨rfl, rfl, fun _ => by rw [if_neg (by omega), if_pos (by omega)]⟩)
    have b2 := Bl_congr (mt' := fun k => if k = a then m else if k < m then mp k else if k = m then e else if k < e then mq k else if k = e then a else mx k) bq (fun k k1 k2 => ⟨rfl, rfl, fun _ => by rw [if_neg (by omega), if_neg (by omega), if_neg (by omega), if_pos (by omega)]⟩)
    have t1 : (fun k => if k = a then m else if k < m then mp k else if k = m then e else if k < e then mq k else if k = e then a else mx k) a = m := by dsimp only; rw [if_pos rfl]
    have t2 : (fun k => if k = a then m else if k < m then mp k else if k = m then e else if k < e then mq k else if k = e then a else mx k) m = e := by dsimp only; rw [if_neg (by omega), if_neg (by omega), if_pos rfl]
    have t3 : (fun k => if k = a then m else if k < m then mp k else if k = m then e else if k < e then mq k else if k = e then a else mx k) e = a := by dsimp only; rw [if_neg (by omega), if_neg (by omega), if_neg (by omega), if_neg (by omega), if_pos rfl]
    cases wh with
    | false =>
      exact Bl_if (m := m) (by rw [← ga]; exact ha) t1 t2 t3 (by rw [← gm]; exact hb) (by rw [← ge]; exact hc) (by omega) (by omega) b1 b2
    | true =>
      exact Bl_wh (m := m) (by rw [← ga]; exact ha) t1 t2 t3 (by rw [← gm]; exact hb) (by rw [← ge]; exact hc) (by omega) (by omega) (fun k q1 q2 => by have := gP (k - (a + 1)) (by omega); rw [show a + 1 + (k - (a + 1)) = k by omega] at this; rw [← this.1]; exact hPp rfl _ (List.getElem_mem _)) b2
  apply bal_ind
  · intro n a kd nm _
    exact ⟨fun _ => 0, Bl_plain (Nat.le_refl _) (fun k h1 h2 => by simp only [List.length_nil] at h2; omega)⟩
  · intro n i X hi ih a kd nm hX
    have g0 := hX 0 (by simp)
    simp only [List.getElem_cons_zero, Nat.add_zero] at g0
    obtain ⟨mt, b⟩ := ih (a + 1) kd nm (fun j hj => by
      have := hX (j + 1) (by simp; omega)
      simp only [List.getElem_cons_succ] at this
      rw [show a + 1 + j = a + (j + 1) by omega]; exact this)
    refine ⟨mt, ?_⟩
    rw [List.length_cons, show a + (X.length + 1) = a + 1 + X.length by omega]
    refine Bl_app ?_ b
    rcases hi with hi | ⟨m, rfl, hi, hi2⟩
    · exact Bl_plain (by omega) (fun k k1 k2 => by rw [show k = a by omega, ← g0.1]; exact hi)
    · exact Bl_one (Or.inr ⟨by rw [← g0.1]; exact hi, by rw [← g0.2 hi]; exact hi2⟩)
  · intro n ia P ib Q ic X ha hb hc ihP ihQ ihX
    exact blk n ia ib ic P Q X false ha hb hc (fun z => by cases z) ihP ihQ ihX
  · intro n ia P ib Q ic X ha hb hc hPp ihP ihQ ihX
    exact blk n ia ib ic P Q X true ha hb hc (fun _ => hPp) ihP ihQ ihX
def GQ (Q : Pr) : Prop := WO Q ∧ ∃ nd sz, WN Q nd sz
noncomputable def wnC (Q : Pr) : (Int → Nat) × (Nat → Nat) := Classical.epsilon (fun x => WN Q x.1 x.2)
noncomputable def mtC (Q : Pr) : Nat → Nat → Nat := Classical.epsilon (fun mt => MT Q (wnC Q).1 mt)
theorem GQ.n {Q : Pr} (h : GQ Q) : WN Q (wnC Q).1 (wnC Q).2 := by
  obtain ⟨-, nd, sz, h⟩ := h
  exact Classical.epsilon_spec (p := fun x : (Int → Nat) × (Nat → Nat) => WN Q x.1 x.2) ⟨(nd, sz), h⟩
theorem MT_ex {Q : Pr} {nd : Int → Nat} {sz : Nat → Nat} (h : WN Q nd sz) : ∃ mt, MT Q nd mt := by
  have key : ∀ p, exP Q p → ∃ mt : Nat → Nat, Bl nd (fun k => (itm (Q.2.1 p) k).1) (fun k => ig (itm (Q.2.1 p) k) 2) mt (lvl nd p) 0 (Q.2.1 p).length := fun p hp => by
    obtain ⟨mt, b⟩ := bal_mt _ _ (h.2.1 p hp) 0 (fun k => (itm (Q.2.1 p) k).1) (fun k => ig (itm (Q.2.1 p) k) 2) (fun j hj => by
      rw [Nat.zero_add, itm_get hj]
      exact ⟨rfl, fun _ => rfl⟩)
    rw [Nat.zero_add] at b
    exact ⟨mt, b⟩
  refine ⟨fun p => Classical.epsilon (fun mt : Nat → Nat => Bl nd (fun k => (itm (Q.2.1 p) k).1) (fun k => ig (itm (Q.2.1 p) k) 2) mt (lvl nd p) 0 (Q.2.1 p).length), fun p hp => ?_⟩
  exact Classical.epsilon_spec (key p hp)
theorem GQ.m {Q : Pr} (h : GQ Q) : MT Q (wnC Q).1 (mtC Q) := Classical.epsilon_spec (p := fun mt => MT Q (wnC Q).1 mt) (MT_ex h.n)
noncomputable def wlC (Q : Pr) : St := wlk Q (mtC Q)
