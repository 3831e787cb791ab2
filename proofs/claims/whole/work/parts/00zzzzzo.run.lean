/-! RUN: what it is -/
section
variable {Q : Pr} {p : Nat}
theorem pcd_at (hQ : WO Q) (hp : exP Q p) {k t : Nat} : ∀ m, k < m → m ≤ (Q.2.1 p).length → t < nlk (Q.2.1 p) k → cdA (pcd Q p m) (adk (Q.2.1 p) k + t) = cdA (itc Q p k) t
  | 0, h, _, _ => by omega
  | m + 1, h, hl, ht => by
    have hpl := pcd_len hQ hp m (by omega)
    show cdA (pcd Q p m ++ itc Q p m) _ = _
    by_cases e : k = m
    · subst e
      rw [cdA_r (by omega), hpl, Nat.add_sub_cancel_left]
    · have a1 := adk_mono (X := Q.2.1 p) (show k + 1 ≤ m by omega)
      have a2 : adk (Q.2.1 p) (k + 1) = adk (Q.2.1 p) k + nlk (Q.2.1 p) k := rfl
      rw [cdA_l (by omega)]
      exact pcd_at hQ hp m (by omega) (by omega) ht
theorem cdq_at {i q : Nat} : ∀ r, q + r ≤ Q.1 → i < (cdq Q q).length → cdA (cdq Q (q + r)) i = cdA (cdq Q q) i
  | 0, _, _ => rfl
  | r + 1, h, hi => by
    have key : ∀ r, i < (cdq Q (q + r)).length := fun r => by
      induction r with
      | zero => exact hi
      | succ r ih =>
        show i < (cdq Q (q + r) ++ _).length
        rw [List.length_append]
        omega
    show cdA (cdq Q (q + r) ++ _) i = _
    rw [cdA_l (key r)]
    exact cdq_at r (by omega) hi
theorem cod_pt (hQ : WO Q) (hp : exP Q p) {i : Nat} (hi : i < adk (Q.2.1 p) (Q.2.1 p).length + 1) : cdA (cod Q) (adr Q p 0 + i) = cdA (pcd Q p (Q.2.1 p).length ++ [((if p = 3 then 17 else 16), 0)]) i := by
  have hpl := pcd_len hQ hp _ (Nat.le_refl _)
  by_cases e : p = 3
  · subst e
    have e0 : adr Q 3 0 = 0 := by unfold adr; rw [if_pos rfl]; rfl
    rw [e0, Nat.zero_add, if_pos rfl]
    have := cdq_at (Q := Q) (q := 0) (i := i) Q.1 (by omega) (by
      show i < (pcd Q 3 (Q.2.1 3).length ++ [(17, 0)]).length
      rw [List.length_append, hpl]
      exact hi)
    rw [Nat.zero_add] at this
    exact this
  · have hq : p < Q.1 := by unfold exP at hp; omega
    have hl := cdq_len hQ p (by omega)
    have e0 : adr Q p 0 = ofP Q p + 1 := by unfold adr; rw [if_neg e]; rfl
    have hlt : ofP Q p + 1 + i < (cdq Q (p + 1)).length := by
      rw [cdq_len hQ (p + 1) (by omega)]
      show _ < ofP Q p + adk (Q.2.1 p) (Q.2.1 p).length + 2
      omega
    have := cdq_at (Q := Q) (q := p + 1) (i := ofP Q p + 1 + i) (Q.1 - (p + 1)) (by omega) hlt
    rw [show p + 1 + (Q.1 - (p + 1)) = Q.1 by omega] at this
    rw [e0, if_neg e]
    show cdA (cdq Q Q.1) _ = _
    rw [this]
    show cdA (cdq Q p ++ ((2, 6) :: (pcd Q p (Q.2.1 p).length ++ [(16, 0)]))) _ = _
    rw [cdA_r (by omega), hl, show ofP Q p + 1 + i - ofP Q p = i + 1 by omega]
    rfl
theorem adr_0 {k : Nat} : adr Q p k = adr Q p 0 + adk (Q.2.1 p) k := by
  unfold adr
  show _ = _ + 0 + _
  omega
/-- the letters of an item stand where they are looked for -/
theorem cod_at (hQ : WO Q) (hp : exP Q p) {k t : Nat} (hk : k < (Q.2.1 p).length) (ht : t < nlk (Q.2.1 p) k) : cdA (cod Q) (adr Q p k + t) = cdA (itc Q p k) t := by
  have hpl := pcd_len hQ hp _ (Nat.le_refl _)
  have a1 := adk_mono (X := Q.2.1 p) (show k + 1 ≤ (Q.2.1 p).length by omega)
  have a2 : adk (Q.2.1 p) (k + 1) = adk (Q.2.1 p) k + nlk (Q.2.1 p) k := rfl
  rw [adr_0, Nat.add_assoc, cod_pt hQ hp (by omega), cdA_l (by omega), pcd_at hQ hp _ hk (Nat.le_refl _) ht]
theorem cod_end (hQ : WO Q) (hp : exP Q p) : cdA (cod Q) (adr Q p (Q.2.1 p).length) = ((if p = 3 then 17 else 16), 0) := by
  have hpl := pcd_len hQ hp _ (Nat.le_refl _)
  rw [adr_0, cod_pt hQ hp (by omega), cdA_r (by omega), hpl, Nat.sub_self]
  rfl
theorem cod_beg (hQ : WO Q) {q : Nat} (hq : q < Q.1) : cdA (cod Q) (ofP Q q) = (2, 6) ∧ adr Q q 0 = ofP Q q + 1 := by
  have h3 := hQ.1
  have hl := cdq_len hQ q (by omega)
  have hlt : ofP Q q < (cdq Q (q + 1)).length := by
    rw [cdq_len hQ (q + 1) (by omega)]
    show _ < ofP Q q + adk (Q.2.1 q) (Q.2.1 q).length + 2
    omega
  have := cdq_at (Q := Q) (q := q + 1) (i := ofP Q q) (Q.1 - (q + 1)) (by omega) hlt
  rw [show q + 1 + (Q.1 - (q + 1)) = Q.1 by omega] at this
  refine ⟨?_, by unfold adr; rw [if_neg (by omega)]; rfl⟩
  show cdA (cdq Q Q.1) _ = _
  rw [this]
  show cdA (cdq Q q ++ ((2, 6) :: (pcd Q q (Q.2.1 q).length ++ [(16, 0)]))) _ = _
  rw [cdA_r (by omega), hl, Nat.sub_self]
  rfl
theorem adr_len (hQ : WO Q) (hp : exP Q p) : adr Q p (Q.2.1 p).length < (cod Q).length := by
  have h1 : (cod Q).length = ofP Q Q.1 := cdq_len hQ Q.1 (Nat.le_refl _)
  have mono : ∀ r q, q + r ≤ Q.1 → ofP Q q ≤ ofP Q (q + r) := fun r => by
    induction r with
    | zero => exact fun q _ => Nat.le_refl _
    | succ r ih =>
      intro q hq
      have := ih q (by omega)
      show ofP Q q ≤ ofP Q (q + r) + adk (Q.2.1 (q + r)) (Q.2.1 (q + r)).length + 2
      omega
  rw [h1]
  by_cases e : p = 3
  · subst e
    have := mono Q.1 0 (by omega)
    rw [Nat.zero_add] at this
    have e0 : ofP Q 0 = adk (Q.2.1 3) (Q.2.1 3).length + 1 := rfl
    unfold adr
    rw [if_pos rfl]
    omega
  · have hq : p < Q.1 := by unfold exP at hp; omega
    have := mono (Q.1 - (p + 1)) (p + 1) (by omega)
    rw [show p + 1 + (Q.1 - (p + 1)) = Q.1 by omega] at this
    have e0 : ofP Q (p + 1) = ofP Q p + adk (Q.2.1 p) (Q.2.1 p).length + 2 := rfl
    unfold adr
    rw [if_neg e]
    omega
end
/-- globals, frames, cells, what was shown, inputs read, level, returns, place -/
abbrev Ms : Type := (Nat → Int) × (Nat → Nat → Int) × (Nat → Int) × List Int × Nat × Nat × (Nat → Nat × Nat) × Nat × Nat
def mgl (m : Ms) : Nat → Int := m.1
def mfr (m : Ms) : Nat → Nat → Int := m.2.1
def mce (m : Ms) : Nat → Int := m.2.2.1
def mou (m : Ms) : List Int := m.2.2.2.1
def mni (m : Ms) : Nat := m.2.2.2.2.1
def mlv (m : Ms) : Nat := m.2.2.2.2.2.1
def mrt (m : Ms) : Nat → Nat × Nat := m.2.2.2.2.2.2.1
def mp (m : Ms) : Nat := m.2.2.2.2.2.2.2.1
def mk (m : Ms) : Nat := m.2.2.2.2.2.2.2.2
def fU (f : Nat → Int) (a : Nat) (v : Int) : Nat → Int := fun x => if x = a then v else f x
def mget (m : Ms) (r : Int) : Int := if r < 6 then mgl m r.toNat else mfr m (mlv m) r.toNat
def mset (m : Ms) (r v : Int) : Ms := if r < 6 then (fU (mgl m) r.toNat v, m.2) else (m.1, fun l => if l = mlv m then fU (mfr m l) r.toNat v else mfr m l, m.2.2)
def mgo (m : Ms) (p k : Nat) : Ms := (mgl m, mfr m, mce m, mou m, mni m, mlv m, mrt m, p, k)
def mcs (m : Ms) (a : Nat) (v : Int) : Ms := (mgl m, mfr m, fU (mce m) a v, mou m, mni m, mlv m, mrt m, mp m, mk m)
def mos (m : Ms) (v : Int) : Ms := (mgl m, mfr m, mce m, mou m ++ [v], mni m, mlv m, mrt m, mp m, mk m)
def mns (m : Ms) : Ms := (mgl m, mfr m, mce m, mou m, mni m + 1, mlv m, mrt m, mp m, mk m)
/-- into procedure q, with v -/
def men (m : Ms) (q : Nat) (v : Int) : Ms := (mgl m, fun l => if l = mlv m + 1 then (fun r => if r = 6 then v else 0) else mfr m l, mce m, mou m, mni m, mlv m + 1, fun l => if l = mlv m then (mp m, mk m + 1) else mrt m l, q, 0)
def mlf (m : Ms) : Ms := (mgl m, mfr m, mce m, mou m, mni m, mlv m - 1, mrt m, (mrt m (mlv m - 1)).1, (mrt m (mlv m - 1)).2)
/-- one item: letters wanted, letters counted, -1 or how it ends, and what then is -/
noncomputable def isp (Q : Pr) (inp : Nat → Int) (ic : Nat) (m : Ms) : Nat × Nat × Int × Ms :=
  if mk m < (Q.2.1 (mp m)).length then
    (if (itm (Q.2.1 (mp m)) (mk m)).1 = 0 then (2, 2, -1, mgo (mset m (ig (itm (Q.2.1 (mp m)) (mk m)) 1) (ig (itm (Q.2.1 (mp m)) (mk m)) 2)) (mp m) (mk m + 1))
    else if (itm (Q.2.1 (mp m)) (mk m)).1 = 1 then (2, 2, -1, mgo (mset m (ig (itm (Q.2.1 (mp m)) (mk m)) 1) (mget m (ig (itm (Q.2.1 (mp m)) (mk m)) 2))) (mp m) (mk m + 1))
    else if (itm (Q.2.1 (mp m)) (mk m)).1 = 2 then (if ig (itm (Q.2.1 (mp m)) (mk m)) 4 = 3 ∧ mget m (ig (itm (Q.2.1 (mp m)) (mk m)) 3) = 0 then (3, 3, 1, m) else (4, 4, -1, mgo (mset m (ig (itm (Q.2.1 (mp m)) (mk m)) 1) (wkO (ig (itm (Q.2.1 (mp m)) (mk m)) 4) (mget m (ig (itm (Q.2.1 (mp m)) (mk m)) 2)) (mget m (ig (itm (Q.2.1 (mp m)) (mk m)) 3)))) (mp m) (mk m + 1)))
    else if (itm (Q.2.1 (mp m)) (mk m)).1 = 3 then (if mget m (ig (itm (Q.2.1 (mp m)) (mk m)) 2) < 0 ∨ 7 < mget m (ig (itm (Q.2.1 (mp m)) (mk m)) 2) then (2, 2, 2, m) else (3, 3, -1, mgo (mset m (ig (itm (Q.2.1 (mp m)) (mk m)) 1) (mce m (mget m (ig (itm (Q.2.1 (mp m)) (mk m)) 2)).toNat)) (mp m) (mk m + 1)))
    else if (itm (Q.2.1 (mp m)) (mk m)).1 = 4 then (if mget m (ig (itm (Q.2.1 (mp m)) (mk m)) 1) < 0 ∨ 7 < mget m (ig (itm (Q.2.1 (mp m)) (mk m)) 1) then (3, 3, 2, m) else (3, 3, -1, mgo (mcs m (mget m (ig (itm (Q.2.1 (mp m)) (mk m)) 1)).toNat (mget m (ig (itm (Q.2.1 (mp m)) (mk m)) 2))) (mp m) (mk m + 1)))
    else if (itm (Q.2.1 (mp m)) (mk m)).1 = 5 then (2, 2, -1, mgo (mset (mns m) (ig (itm (Q.2.1 (mp m)) (mk m)) 1) (if mni m < ic then inp (mni m) else 0)) (mp m) (mk m + 1))
    else if (itm (Q.2.1 (mp m)) (mk m)).1 = 6 then (if (mou m).length = 40 then (2, 1, 4, m) else (2, 2, -1, mgo (mos m (mget m (ig (itm (Q.2.1 (mp m)) (mk m)) 1))) (mp m) (mk m + 1)))
    else if (itm (Q.2.1 (mp m)) (mk m)).1 = 7 then (3, 3, -1, men m (ig (itm (Q.2.1 (mp m)) (mk m)) 2).toNat (mget m (ig (itm (Q.2.1 (mp m)) (mk m)) 1)))
    else if (itm (Q.2.1 (mp m)) (mk m)).1 = 8 ∨ (itm (Q.2.1 (mp m)) (mk m)).1 = 11 then (2, 2, -1, mgo m (mp m) (if mget m (ig (itm (Q.2.1 (mp m)) (mk m)) 1) = 0 then mtL (Q.2.1 (mp m)) (mk m) + 1 else mk m + 1))
    else if (itm (Q.2.1 (mp m)) (mk m)).1 = 9 then (1, 1, -1, mgo m (mp m) (mtL (Q.2.1 (mp m)) (mk m)))
    else if (itm (Q.2.1 (mp m)) (mk m)).1 = 12 then (if (itm (Q.2.1 (mp m)) (mtL (Q.2.1 (mp m)) (mk m))).1 = 10 then (1, 1, -1, mgo m (mp m) (mtL (Q.2.1 (mp m)) (mk m))) else (0, 0, -1, mgo m (mp m) (mk m + 1)))
    else (0, 0, -1, mgo m (mp m) (mk m + 1)))
  else (if mlv m = 0 then (1, 1, 0, m) else (1, 1, -1, mlf m))
noncomputable def arun (Q : Pr) (inp : Nat → Int) (ic T : Nat) : Nat → Nat → Ms → Option (Int × Nat × List Int)
  | 0 => fun _ _ => none
  | n + 1 => fun s m => if T < s + (isp Q inp ic m).1 then some (3, T, mou m) else if (isp Q inp ic m).2.2.1 = -1 then arun Q inp ic T n (s + (isp Q inp ic m).2.1) (isp Q inp ic m).2.2.2 else some ((isp Q inp ic m).2.2.1, s + (isp Q inp ic m).2.1, mou m)
/-- it is such as it must be -/
def MV (Q : Pr) (m : Ms) : Prop := exP Q (mp m) ∧ mk m ≤ (Q.2.1 (mp m)).length ∧ mlv m + mp m ≤ 3 ∧ (∀ l, l < mlv m → exP Q (mrt m l).1 ∧ (mrt m l).2 ≤ (Q.2.1 (mrt m l).1).length ∧ l + (mrt m l).1 ≤ 3) ∧ (mou m).length ≤ 40
section
variable {Q : Pr} {inp : Nat → Int} {ic T : Nat} {m : Ms}
theorem mset_o {r v : Int} : mce (mset m r v) = mce m ∧ mou (mset m r v) = mou m ∧ mni (mset m r v) = mni m ∧ mlv (mset m r v) = mlv m ∧ mrt (mset m r v) = mrt m ∧ mp (mset m r v) = mp m ∧ mk (mset m r v) = mk m := by
  unfold mset
  split <;> exact ⟨rfl, rfl, rfl, rfl, rfl, rfl, rfl⟩
theorem arun_mono {r : Int × Nat × List Int} : ∀ (n s : Nat) (m : Ms), arun Q inp ic T n s m = some r → arun Q inp ic T (n + 1) s m = some r
  | 0, s, m, h => by cases h
  | n + 1, s, m, h => by
    have h : (if T < s + (isp Q inp ic m).1 then some (3, T, mou m) else if (isp Q inp ic m).2.2.1 = -1 then arun Q inp ic T n (s + (isp Q inp ic m).2.1) (isp Q inp ic m).2.2.2 else some ((isp Q inp ic m).2.2.1, s + (isp Q inp ic m).2.1, mou m)) = some r := h
    show (if T < s + (isp Q inp ic m).1 then some (3, T, mou m) else if (isp Q inp ic m).2.2.1 = -1 then arun Q inp ic T (n + 1) (s + (isp Q inp ic m).2.1) (isp Q inp ic m).2.2.2 else some ((isp Q inp ic m).2.2.1, s + (isp Q inp ic m).2.1, mou m)) = some r
    split at h
    · next c => rw [if_pos c]; exact h
    · next c =>
      rw [if_neg c]
      split at h
      · next c' => rw [if_pos c']; exact arun_mono n _ _ h
      · next c' => rw [if_neg c']; exact h
/-- a step that goes on keeps what must be, and takes letters or goes on in its part -/
theorem isp_ok (hG : GQ Q) (hm : MV Q m) (h : (isp Q inp ic m).2.2.1 = -1) : MV Q (isp Q inp ic m).2.2.2 ∧ (isp Q inp ic m).2.1 = (isp Q inp ic m).1 ∧ (1 ≤ (isp Q inp ic m).1 ∨ (mp (isp Q inp ic m).2.2.2 = mp m ∧ mk (isp Q inp ic m).2.2.2 = mk m + 1 ∧ mk m < (Q.2.1 (mp m)).length)) := by
  obtain ⟨v1, v2, v3, v4, v5⟩ := hm
  have go : ∀ {m' : Ms} {k' : Nat}, mou m' = mou m → mlv m' = mlv m → mrt m' = mrt m → k' ≤ (Q.2.1 (mp m)).length → MV Q (mgo m' (mp m) k') := fun {m' k'} e1 e2 e3 hk => by
    refine ⟨v1, hk, ?_, fun l hl => ?_, ?_⟩
    · show mlv m' + mp m ≤ 3
      omega
    · have hl : l < mlv m' := hl
      show exP Q (mrt m' l).1 ∧ (mrt m' l).2 ≤ (Q.2.1 (mrt m' l).1).length ∧ l + (mrt m' l).1 ≤ 3
      rw [e3]
      exact v4 l (by omega)
    · show (mou m').length ≤ 40
      rw [e1]; exact v5
  unfold isp at h ⊢
  by_cases ck : mk m < (Q.2.1 (mp m)).length
  · rw [if_pos ck] at h ⊢
    have pt := mt_pt (hG.n.2.1 _ v1) ck
    obtain ⟨q1, q2, q3, q4⟩ := hG.1.2 _ v1
    obtain ⟨o1, o2, o3, o4, o5⟩ := q4 _ (itm_mem ck)
    generalize hi : itm (Q.2.1 (mp m)) (mk m) = i at *
    by_cases c0 : i.1 = 0
    · rw [if_pos c0]
      exact ⟨go mset_o.2.1 mset_o.2.2.2.1 mset_o.2.2.2.2.1 ck, rfl, Or.inl (Nat.succ_pos _)⟩
    rw [if_neg c0] at h ⊢
    by_cases c1 : i.1 = 1
    · rw [if_pos c1]
      exact ⟨go mset_o.2.1 mset_o.2.2.2.1 mset_o.2.2.2.2.1 ck, rfl, Or.inl (Nat.succ_pos _)⟩
    rw [if_neg c1] at h ⊢
    by_cases c2 : i.1 = 2
    · rw [if_pos c2] at h ⊢
      by_cases cz : ig i 4 = 3 ∧ mget m (ig i 3) = 0
      · rw [if_pos cz] at h
        exact absurd h (by decide : ¬ (1 : Int) = -1)
      · rw [if_neg cz]
        exact ⟨go mset_o.2.1 mset_o.2.2.2.1 mset_o.2.2.2.2.1 ck, rfl, Or.inl (Nat.succ_pos _)⟩
    rw [if_neg c2] at h ⊢
    by_cases c3 : i.1 = 3
    · rw [if_pos c3] at h ⊢
      by_cases cz : mget m (ig i 2) < 0 ∨ 7 < mget m (ig i 2)
      · rw [if_pos cz] at h
        exact absurd h (by decide : ¬ (2 : Int) = -1)
      · rw [if_neg cz]
        exact ⟨go mset_o.2.1 mset_o.2.2.2.1 mset_o.2.2.2.2.1 ck, rfl, Or.inl (Nat.succ_pos _)⟩
    rw [if_neg c3] at h ⊢
    by_cases c4 : i.1 = 4
    · rw [if_pos c4] at h ⊢
      by_cases cz : mget m (ig i 1) < 0 ∨ 7 < mget m (ig i 1)
      · rw [if_pos cz] at h
        exact absurd h (by decide : ¬ (2 : Int) = -1)
      · rw [if_neg cz]
        exact ⟨go rfl rfl rfl ck, rfl, Or.inl (Nat.succ_pos _)⟩
    rw [if_neg c4] at h ⊢
    by_cases c5 : i.1 = 5
    · rw [if_pos c5]
      exact ⟨go (mset_o (m := mns m)).2.1 (mset_o (m := mns m)).2.2.2.1 (mset_o (m := mns m)).2.2.2.2.1 ck, rfl, Or.inl (Nat.succ_pos _)⟩
    rw [if_neg c5] at h ⊢
    by_cases c6 : i.1 = 6
    · rw [if_pos c6] at h ⊢
      by_cases cz : (mou m).length = 40
      · rw [if_pos cz] at h
        exact absurd h (by decide : ¬ (4 : Int) = -1)
      · rw [if_neg cz]
        refine ⟨⟨v1, ck, v3, v4, ?_⟩, rfl, Or.inl (Nat.succ_pos _)⟩
        show (mou m ++ [mget m (ig i 1)]).length ≤ 40
        rw [List.length_append]
        simp only [List.length_cons, List.length_nil]
        omega
    rw [if_neg c6] at h ⊢
    by_cases c7 : i.1 = 7
    · have o5 := o5 c7
      rw [if_pos c7]
      have hp3 := exP3 hG.1 v1
      refine ⟨⟨Or.inl (by show (ig i 2).toNat < Q.1; omega), Nat.zero_le _, ?_, fun l hl => ?_, v5⟩, rfl, Or.inl (Nat.succ_pos _)⟩
      · show mlv m + 1 + (ig i 2).toNat ≤ 3
        omega
      · have hl : l < mlv m + 1 := hl
        show exP Q (if l = mlv m then (mp m, mk m + 1) else mrt m l).1 ∧ (if l = mlv m then (mp m, mk m + 1) else mrt m l).2 ≤ (Q.2.1 (if l = mlv m then (mp m, mk m + 1) else mrt m l).1).length ∧ l + (if l = mlv m then (mp m, mk m + 1) else mrt m l).1 ≤ 3
        by_cases e : l = mlv m
        · rw [if_pos e]
          exact ⟨v1, ck, by show l + mp m ≤ 3; omega⟩
        · rw [if_neg e]
          exact v4 l (by omega)
    rw [if_neg c7] at h ⊢
    by_cases c8 : i.1 = 8 ∨ i.1 = 11
    · rw [if_pos c8]
      refine ⟨go rfl rfl rfl ?_, rfl, Or.inl (Nat.succ_pos _)⟩
      have hmt : mtL (Q.2.1 (mp m)) (mk m) < (Q.2.1 (mp m)).length := by
        rcases c8 with c | c
        · have := pt.1 (show (itm (Q.2.1 (mp m)) (mk m)).1 = 8 by rw [hi]; exact c); omega
        · have := pt.2.2.2.1 (show (itm (Q.2.1 (mp m)) (mk m)).1 = 11 by rw [hi]; exact c); omega
      split <;> omega
    rw [if_neg c8] at h ⊢
    by_cases c9 : i.1 = 9
    · have := pt.2.1 (show (itm (Q.2.1 (mp m)) (mk m)).1 = 9 by rw [hi]; exact c9)
      rw [if_pos c9]
      exact ⟨go rfl rfl rfl (by omega), rfl, Or.inl (Nat.succ_pos _)⟩
    rw [if_neg c9] at h ⊢
    by_cases c12 : i.1 = 12
    · have := pt.2.2.2.2 (show (itm (Q.2.1 (mp m)) (mk m)).1 = 12 by rw [hi]; exact c12)
      rw [if_pos c12] at h ⊢
      by_cases cz : (itm (Q.2.1 (mp m)) (mtL (Q.2.1 (mp m)) (mk m))).1 = 10
      · rw [if_pos cz]
        exact ⟨go rfl rfl rfl (by omega), rfl, Or.inl (Nat.succ_pos _)⟩
      · rw [if_neg cz]
        exact ⟨go rfl rfl rfl ck, rfl, Or.inr ⟨rfl, rfl, ck⟩⟩
    · rw [if_neg c12]
      exact ⟨go rfl rfl rfl ck, rfl, Or.inr ⟨rfl, rfl, ck⟩⟩
  · rw [if_neg ck] at h ⊢
    by_cases cl : mlv m = 0
    · rw [if_pos cl] at h
      exact absurd h (by decide : ¬ (0 : Int) = -1)
    · rw [if_neg cl]
      obtain ⟨w1, w2, w3⟩ := v4 (mlv m - 1) (by omega)
      exact ⟨⟨w1, w2, by show mlv m - 1 + (mrt m (mlv m - 1)).1 ≤ 3; omega, fun l hl => v4 l (by have hl : l < mlv m - 1 := hl; omega), v5⟩, rfl, Or.inl (Nat.succ_pos _)⟩
theorem arun_ex (hG : GQ Q) : ∀ (n s : Nat) (m : Ms), MV Q m → s ≤ T → (T - s) * 200 + ((Q.2.1 (mp m)).length - mk m) + 1 ≤ n → ∃ r, arun Q inp ic T n s m = some r
  | 0, s, m, hm, hs, hn => by omega
  | n + 1, s, m, hm, hs, hn => by
    show ∃ r, (if T < s + (isp Q inp ic m).1 then some (3, T, mou m) else if (isp Q inp ic m).2.2.1 = -1 then arun Q inp ic T n (s + (isp Q inp ic m).2.1) (isp Q inp ic m).2.2.2 else some ((isp Q inp ic m).2.2.1, s + (isp Q inp ic m).2.1, mou m)) = some r
    by_cases c : T < s + (isp Q inp ic m).1
    · rw [if_pos c]; exact ⟨_, rfl⟩
    rw [if_neg c]
    by_cases c' : (isp Q inp ic m).2.2.1 = -1
    · rw [if_pos c']
      obtain ⟨k1, k2, k3⟩ := isp_ok hG hm c'
      have hl := (hG.1.2 _ k1.1).2.2.1
      refine arun_ex hG n _ _ k1 (by omega) ?_
      rcases k3 with k3 | ⟨k3, k4, k5⟩
      · have : (T - (s + (isp Q inp ic m).2.1)) * 200 + 200 ≤ (T - s) * 200 := by omega
        omega
      · rw [k3, k4]
        have : (T - (s + (isp Q inp ic m).2.1)) * 200 ≤ (T - s) * 200 := by omega
        omega
    · rw [if_neg c']; exact ⟨_, rfl⟩
end
