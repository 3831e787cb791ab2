/-! RUN of the class: items -/
section
variable {N : Nat} {A B : zA} {Q : Pr} {inp : Nat → Int} {ic T s pc : Nat} {m : Ms} {st : List Int} {r : Int × Nat × List Int}
/-- letters that go on: what they do -/
theorem lo_p {a b : Int} (hT : T ≤ 2000) (hC : cdA (cod Q) pc = (a, b)) (hpc : pc < (cod Q).length) (hl : (cod Q).length ≤ 2407) (ha : (0 ≤ a ∧ a < 3) ∨ (9 ≤ a ∧ a < 18)) (h12 : a = 12 → (mou m).length < 40) (h0 : s = T → r = (3, T, mou m)) (hs : s ≤ T)
    (h : s < T → ∀ A, CMs Q inp ic A m (s + 1) st (pc + 1) → LEn A (z_Mc_step_56 N a b A) r.1 r.2.1 r.2.2 ∧ r.1 ≠ -1 ∨ ∃ m' st' pc', LGo Q inp ic A (z_Mc_step_56 N a b A) m' (s + 1) st' pc' ∧ LO N Q inp ic T (s + 1) m' st' pc' r) : LO N Q inp ic T s m st pc r := by
  refine lo_stp hT hC hpc hl (by omega) h12 h0 hs (fun c A hA => ?_)
  have e : stp N a b A = z_Mc_step_56 N a b A := by
    unfold stp
    rcases ha with ha | ha
    · rw [if_pos ha.2]
    · rw [if_neg (by omega), if_neg (by omega)]
  rw [e]
  exact h c A hA
theorem lo_0 {v : Int} (hT : T ≤ 2000) (hC : cdA (cod Q) pc = (0, v)) (hpc : pc < (cod Q).length) (hl : (cod Q).length ≤ 2407) (h0 : s = T → r = (3, T, mou m)) (hs : s ≤ T) (hk : st.length < 4) (hv : zw v = v) (h : s < T → LO N Q inp ic T (s + 1) m (st ++ [v]) (pc + 1) r) : LO N Q inp ic T s m st pc r :=
  lo_p hT hC hpc hl (by decide) (fun z => absurd z (by decide)) h0 hs (fun c A hA => Or.inr ⟨_, _, _, l_0 hA hk hv, h c⟩)
theorem lo_1 {v : Int} (hT : T ≤ 2000) (hC : cdA (cod Q) pc = (1, v)) (hpc : pc < (cod Q).length) (hl : (cod Q).length ≤ 2407) (h0 : s = T → r = (3, T, mou m)) (hs : s ≤ T) (hk : st.length < 4) (v0 : 0 ≤ v) (v1 : v < 60) (h : s < T → LO N Q inp ic T (s + 1) m (st ++ [mget m v]) (pc + 1) r) : LO N Q inp ic T s m st pc r :=
  lo_p hT hC hpc hl (by decide) (fun z => absurd z (by decide)) h0 hs (fun c A hA => Or.inr ⟨_, _, _, l_1 hA hk v0 v1, h c⟩)
theorem lo_2 {v x : Int} (hT : T ≤ 2000) (hC : cdA (cod Q) pc = (2, v)) (hpc : pc < (cod Q).length) (hl : (cod Q).length ≤ 2407) (h0 : s = T → r = (3, T, mou m)) (hs : s ≤ T) (hk : st.length < 4) (v0 : 0 ≤ v) (v1 : v < 60) (h : s < T → LO N Q inp ic T (s + 1) (mset m v x) st (pc + 1) r) : LO N Q inp ic T s m (st ++ [x]) pc r :=
  lo_p hT hC hpc hl (by decide) (fun z => absurd z (by decide)) h0 hs (fun c A hA => Or.inr ⟨_, _, _, l_2 hA hk v0 v1, h c⟩)
theorem LO.go {p k : Nat} (h : LO N Q inp ic T s (mgo m p k) st pc r) : LO N Q inp ic T s m st pc r := h
/-- what an item's run comes to -/
def CIt (N : Nat) (Q : Pr) (inp : Nat → Int) (ic T s : Nat) (m : Ms) (r : Int × Nat × List Int) : Prop :=
  (T < s + (isp Q inp ic m).1 → r = (3, T, mou m)) → (¬ T < s + (isp Q inp ic m).1 → (isp Q inp ic m).2.2.1 = -1 → LO N Q inp ic T (s + (isp Q inp ic m).2.1) (isp Q inp ic m).2.2.2 [] (adr Q (mp (isp Q inp ic m).2.2.2) (mk (isp Q inp ic m).2.2.2)) r) → (¬ T < s + (isp Q inp ic m).1 → (isp Q inp ic m).2.2.1 ≠ -1 → r = ((isp Q inp ic m).2.2.1, s + (isp Q inp ic m).2.1, mou m)) → LO N Q inp ic T s m [] (adr Q (mp m) (mk m)) r
theorem CIt.go {n : Nat} {m' : Ms} (hu : isp Q inp ic m = (n, n, -1, m')) (h : (T < s + n → r = (3, T, mou m)) → (¬ T < s + n → LO N Q inp ic T (s + n) m' [] (adr Q (mp m') (mk m')) r) → LO N Q inp ic T s m [] (adr Q (mp m) (mk m)) r) : CIt N Q inp ic T s m r := by
  unfold CIt
  rw [hu]
  exact fun a b _ => h a (fun c => b c rfl)
theorem CIt.stop {n a : Nat} {v : Int} {m' : Ms} (hu : isp Q inp ic m = (n, a, v, m')) (hv : v ≠ -1) (h : (T < s + n → r = (3, T, mou m)) → (¬ T < s + n → r = (v, s + a, mou m)) → LO N Q inp ic T s m [] (adr Q (mp m) (mk m)) r) : CIt N Q inp ic T s m r := by
  unfold CIt
  rw [hu]
  exact fun a _ c => h a (fun d => c d hv)
theorem men_eq {p k q : Nat} {v : Int} (hp : p = mp m) (hk : k = mk m + 1) : mgo (mset (men0 m p k) 6 v) q 0 = men m q v := by
  subst hp hk
  unfold mset
  rw [if_neg (by decide)]
  unfold mgo men men0 mgl mfr mce mou mni mlv mrt
  simp only [Prod.mk.injEq, and_self, and_true, true_and]
  funext l
  by_cases e : l = m.2.2.2.2.2.1 + 1
  · rw [if_pos e, if_pos e, if_pos e]
    funext x
    rfl
  · rw [if_neg e, if_neg e, if_neg e]
/-- at the bottom stands the main part -/
def M3 (m : Ms) : Prop := (mlv m = 0 → mp m = 3) ∧ (0 < mlv m → (mrt m 0).1 = 3)
theorem M3_go {m' : Ms} {k' : Nat} (h : M3 m) (e1 : mlv m' = mlv m) (e2 : mrt m' = mrt m) : M3 (mgo m' (mp m) k') := by
  refine ⟨fun z => h.1 ?_, fun z => ?_⟩
  · have z : mlv m' = 0 := z
    omega
  · have z : 0 < mlv m' := z
    show (mrt m' 0).1 = 3
    rw [e2]
    exact h.2 (by omega)
theorem isp_m3 (h : M3 m) (hc : (isp Q inp ic m).2.2.1 = -1) : M3 (isp Q inp ic m).2.2.2 := by
  unfold isp at hc ⊢
  generalize itm (Q.2.1 (mp m)) (mk m) = i at *
  by_cases ck : mk m < (Q.2.1 (mp m)).length
  · rw [if_pos ck] at hc ⊢
    by_cases c0 : i.1 = 0
    · rw [if_pos c0]; exact M3_go h mset_o.2.2.2.1 mset_o.2.2.2.2.1
    rw [if_neg c0] at hc ⊢
    by_cases c1 : i.1 = 1
    · rw [if_pos c1]; exact M3_go h mset_o.2.2.2.1 mset_o.2.2.2.2.1
    rw [if_neg c1] at hc ⊢
    by_cases c2 : i.1 = 2
    · rw [if_pos c2] at hc ⊢
      by_cases cz : ig i 4 = 3 ∧ mget m (ig i 3) = 0
      · rw [if_pos cz]; exact h
      · rw [if_neg cz]; exact M3_go h mset_o.2.2.2.1 mset_o.2.2.2.2.1
    rw [if_neg c2] at hc ⊢
    by_cases c3 : i.1 = 3
    · rw [if_pos c3]
      split
      · exact h
      · exact M3_go h mset_o.2.2.2.1 mset_o.2.2.2.2.1
    rw [if_neg c3] at hc ⊢
    by_cases c4 : i.1 = 4
    · rw [if_pos c4]
      split
      · exact h
      · exact M3_go (m' := mcs m _ _) h rfl rfl
    rw [if_neg c4] at hc ⊢
    by_cases c5 : i.1 = 5
    · rw [if_pos c5]; exact M3_go h (mset_o (m := mns m)).2.2.2.1 (mset_o (m := mns m)).2.2.2.2.1
    rw [if_neg c5] at hc ⊢
    by_cases c6 : i.1 = 6
    · rw [if_pos c6]
      split
      · exact h
      · exact M3_go (m' := mos m _) h rfl rfl
    rw [if_neg c6] at hc ⊢
    by_cases c7 : i.1 = 7
    · rw [if_pos c7]
      refine ⟨fun z => absurd z (Nat.succ_ne_zero _), fun _ => ?_⟩
      show (if 0 = mlv m then (mp m, mk m + 1) else mrt m 0).1 = 3
      by_cases e : 0 = mlv m
      · rw [if_pos e]; exact h.1 e.symm
      · rw [if_neg e]; exact h.2 (by omega)
    rw [if_neg c7] at hc ⊢
    by_cases c8 : i.1 = 8 ∨ i.1 = 11
    · rw [if_pos c8]; exact M3_go h rfl rfl
    rw [if_neg c8] at hc ⊢
    by_cases c9 : i.1 = 9
    · rw [if_pos c9]; exact M3_go h rfl rfl
    rw [if_neg c9] at hc ⊢
    by_cases c12 : i.1 = 12
    · rw [if_pos c12]
      split
      · exact M3_go h rfl rfl
      · exact M3_go h rfl rfl
    · rw [if_neg c12]; exact M3_go h rfl rfl
  · rw [if_neg ck] at hc ⊢
    by_cases e : mlv m = 0
    · rw [if_pos e]; exact h
    · rw [if_neg e]
      refine ⟨fun z => ?_, fun z => h.2 (by omega)⟩
      have z : mlv m - 1 = 0 := z
      show (mrt m (mlv m - 1)).1 = 3
      rw [z]
      exact h.2 (by omega)
theorem c_itm (hN : 300000 ≤ N) (hG : GQ Q) (hm : MV Q m) (h3 : M3 m) (hT : T ≤ 2000) (hs : s ≤ T) : CIt N Q inp ic T s m r := by
  have hQ := hG.1
  have hl := cod_len hQ
  obtain ⟨v1, v2, v3, v4, v5⟩ := hm
  have hp3 := exP3 hQ v1
  have ado : ∀ p k', exP Q p → k' ≤ (Q.2.1 p).length → adr Q p k' < (cod Q).length := fun p k' hp hk' => by
    have a1 := adr_len hQ hp
    have a2 := adk_mono (X := Q.2.1 p) hk'
    rw [adr_0] at a1 ⊢
    omega
  by_cases hk : mk m < (Q.2.1 (mp m)).length
  · obtain ⟨q1, q2, q3, q4⟩ := hQ.2 _ v1
    obtain ⟨o1, o2, o3, o4, o5⟩ := q4 _ (itm_mem hk)
    have hsp : isp Q inp ic m = if mk m < (Q.2.1 (mp m)).length then _ else _ := rfl
    rw [if_pos hk] at hsp
    have hat := fun t ht => cod_at hQ v1 hk (t := t) ht
    have hlt : ∀ t, t ≤ nlk (Q.2.1 (mp m)) (mk m) → adr Q (mp m) (mk m) + t < (cod Q).length := fun t ht => by
      have a1 := ado _ (mk m + 1) v1 hk
      rw [adr_s] at a1
      omega
    have has : adr Q (mp m) (mk m + 1) = adr Q (mp m) (mk m) + nlk (Q.2.1 (mp m)) (mk m) := adr_s
    have rg : ∀ j : Nat, j < nbk (itm (Q.2.1 (mp m)) (mk m)).1 → isr (itm (Q.2.1 (mp m)) (mk m)).1 j → 0 ≤ ig (itm (Q.2.1 (mp m)) (mk m)) (j + 1) ∧ ig (itm (Q.2.1 (mp m)) (mk m)) (j + 1) < 60 := fun j hj hr => by
      have := (o3 j hj).2.2 hr
      omega
    have pt := mt_pt (hG.n.2.1 _ v1) hk
    have nl := nlk.eq_1 (Q.2.1 (mp m)) (mk m)
    have ic' := itc.eq_1 Q (mp m) (mk m)
    have goo : ∀ {s' : Nat} {m' : Ms}, LO N Q inp ic T s' (mgo m' (mp m) (mk m + 1)) [] (adr Q (mp m) (mk m + 1)) r → LO N Q inp ic T s' m' [] (adr Q (mp m) (mk m) + nlk (Q.2.1 (mp m)) (mk m)) r := fun h => by
      rw [← has]; exact h
    have mtn := nlk.eq_1 (Q.2.1 (mp m)) (mtL (Q.2.1 (mp m)) (mk m))
    generalize hi : itm (Q.2.1 (mp m)) (mk m) = i at *
    obtain ⟨a0, ha0⟩ : ∃ a, a = adr Q (mp m) (mk m) := ⟨_, rfl⟩
    rw [← ha0] at hat hlt has goo
    by_cases c0 : i.1 = 0
    · rw [if_pos c0] at hsp
      rw [if_pos c0] at ic'
      rw [if_neg (by omega), if_neg (by omega), if_neg (by omega), if_neg (by omega), if_neg (by omega)] at nl
      rw [nl] at hat hlt goo
      rw [ic'] at hat
      have r1 := rg 0 (by rw [c0]; decide) (by unfold isr; omega)
      have w2 := o3 1 (by rw [c0]; decide)
      refine CIt.go hsp (fun ha hb => ?_)
      rw [← ha0]
      refine lo_0 hT (hat 0 (by decide)) (hlt 0 (by decide)) hl (fun c => ha (by omega)) hs (by decide) (yb_w w2.1 w2.2.1) (fun d => ?_)
      refine lo_2 (st := []) hT (hat 1 (by decide)) (hlt 1 (by decide)) hl (fun c => ha (by omega)) (by omega) (by decide) r1.1 r1.2 (fun d => ?_)
      exact goo (hb (by omega))
    rw [if_neg c0] at hsp ic'
    by_cases c1 : i.1 = 1
    · rw [if_pos c1] at hsp
      rw [if_pos c1] at ic'
      rw [if_neg (by omega), if_neg (by omega), if_neg (by omega), if_neg (by omega), if_neg (by omega)] at nl
      rw [nl] at hat hlt goo
      rw [ic'] at hat
      have r1 := rg 0 (by rw [c1]; decide) (by unfold isr; omega)
      have r2 := rg 1 (by rw [c1]; decide) (by unfold isr; omega)
      refine CIt.go hsp (fun ha hb => ?_)
      rw [← ha0]
      refine lo_1 hT (hat 0 (by decide)) (hlt 0 (by decide)) hl (fun c => ha (by omega)) hs (by decide) r2.1 r2.2 (fun d => ?_)
      refine lo_2 (st := []) hT (hat 1 (by decide)) (hlt 1 (by decide)) hl (fun c => ha (by omega)) (by omega) (by decide) r1.1 r1.2 (fun d => ?_)
      exact goo (hb (by omega))
    rw [if_neg c1] at hsp ic'
    by_cases c2 : i.1 = 2
    · have o4 := o4 c2
      rw [if_pos c2] at hsp
      rw [if_pos c2] at ic'
      rw [if_pos c2] at nl
      rw [nl] at hat hlt goo
      rw [ic'] at hat
      have r1 := rg 0 (by rw [c2]; decide) (by unfold isr; omega)
      have r2 := rg 1 (by rw [c2]; decide) (by unfold isr; omega)
      have r3 := rg 2 (by rw [c2]; decide) (by unfold isr; omega)
      have es : ∀ (b : Int) A, stp N (3 + ig i 4) b A = z_Mc_doWork N (ig i 4) A := fun b A => by
        unfold stp
        rw [if_neg (by omega), if_pos (by omega), show 3 + ig i 4 - 3 = ig i 4 by omega]
      by_cases cz : ig i 4 = 3 ∧ mget m (ig i 3) = 0
      · rw [if_pos cz] at hsp
        refine CIt.stop hsp (by decide) (fun ha hb => ?_)
        rw [← ha0]
        refine lo_1 hT (hat 0 (by decide)) (hlt 0 (by decide)) hl (fun c => ha (by omega)) hs (by decide) r2.1 r2.2 (fun d => ?_)
        refine lo_1 hT (hat 1 (by decide)) (hlt 1 (by decide)) hl (fun c => ha (by omega)) (by omega) (show 1 < 4 by decide) r3.1 r3.2 (fun d => ?_)
        refine lo_stp hT (hat 2 (by decide)) (hlt 2 (by decide)) hl (by omega) (fun z => by omega) (fun c => ha (by omega)) (by omega) (fun d A hA => Or.inl ?_)
        rw [es, hb (by omega)]
        exact ⟨(l_w (st := []) hA (by decide) o4).1 cz, (by decide : (1 : Int) ≠ -1)⟩
      · rw [if_neg cz] at hsp
        refine CIt.go hsp (fun ha hb => ?_)
        rw [← ha0]
        refine lo_1 hT (hat 0 (by decide)) (hlt 0 (by decide)) hl (fun c => ha (by omega)) hs (by decide) r2.1 r2.2 (fun d => ?_)
        refine lo_1 hT (hat 1 (by decide)) (hlt 1 (by decide)) hl (fun c => ha (by omega)) (by omega) (show 1 < 4 by decide) r3.1 r3.2 (fun d => ?_)
        refine lo_stp hT (hat 2 (by decide)) (hlt 2 (by decide)) hl (by omega) (fun z => by omega) (fun c => ha (by omega)) (by omega) (fun d A hA => Or.inr ?_)
        rw [es]
        refine ⟨_, _, _, (l_w (st := []) hA (by decide) o4).2 cz, ?_⟩
        refine lo_2 (st := []) hT (hat 3 (by decide)) (hlt 3 (by decide)) hl (fun c => ha (by omega)) (by omega) (by decide) r1.1 r1.2 (fun d => ?_)
        exact goo (hb (by omega))
    rw [if_neg c2] at hsp ic' nl
    by_cases c3 : i.1 = 3
    · rw [if_pos c3] at hsp
      rw [if_pos c3] at ic'
      rw [if_pos (Or.inl c3)] at nl
      rw [nl] at hat hlt goo
      rw [ic'] at hat
      have r1 := rg 0 (by rw [c3]; decide) (by unfold isr; omega)
      have r2 := rg 1 (by rw [c3]; decide) (by unfold isr; omega)
      by_cases cz : mget m (ig i 2) < 0 ∨ 7 < mget m (ig i 2)
      · rw [if_pos cz] at hsp
        refine CIt.stop hsp (by decide) (fun ha hb => ?_)
        rw [← ha0]
        refine lo_1 hT (hat 0 (by decide)) (hlt 0 (by decide)) hl (fun c => ha (by omega)) hs (by decide) r2.1 r2.2 (fun d => ?_)
        refine lo_p hT (hat 1 (by decide)) (hlt 1 (by decide)) hl (by decide) (fun z => absurd z (by decide)) (fun c => ha (by omega)) (by omega) (fun d A hA => Or.inl ?_)
        rw [hb (by omega)]
        exact ⟨(l_9 (st := []) hA (by decide)).1 cz, (by decide : (2 : Int) ≠ -1)⟩
      · rw [if_neg cz] at hsp
        refine CIt.go hsp (fun ha hb => ?_)
        rw [← ha0]
        refine lo_1 hT (hat 0 (by decide)) (hlt 0 (by decide)) hl (fun c => ha (by omega)) hs (by decide) r2.1 r2.2 (fun d => ?_)
        refine lo_p hT (hat 1 (by decide)) (hlt 1 (by decide)) hl (by decide) (fun z => absurd z (by decide)) (fun c => ha (by omega)) (by omega) (fun d A hA => Or.inr ?_)
        refine ⟨_, _, _, (l_9 (st := []) hA (by decide)).2 cz, ?_⟩
        refine lo_2 (st := []) hT (hat 2 (by decide)) (hlt 2 (by decide)) hl (fun c => ha (by omega)) (by omega) (by decide) r1.1 r1.2 (fun d => ?_)
        exact goo (hb (by omega))
    rw [if_neg c3] at hsp ic'
    by_cases c4 : i.1 = 4
    · rw [if_pos c4] at hsp
      rw [if_pos c4] at ic'
      rw [if_pos (Or.inr c4)] at nl
      rw [nl] at hat hlt goo
      rw [ic'] at hat
      have r1 := rg 0 (by rw [c4]; decide) (by unfold isr; omega)
      have r2 := rg 1 (by rw [c4]; decide) (by unfold isr; omega)
      by_cases cz : mget m (ig i 1) < 0 ∨ 7 < mget m (ig i 1)
      · rw [if_pos cz] at hsp
        refine CIt.stop hsp (by decide) (fun ha hb => ?_)
        rw [← ha0]
        refine lo_1 hT (hat 0 (by decide)) (hlt 0 (by decide)) hl (fun c => ha (by omega)) hs (by decide) r1.1 r1.2 (fun d => ?_)
        refine lo_1 hT (hat 1 (by decide)) (hlt 1 (by decide)) hl (fun c => ha (by omega)) (by omega) (show 1 < 4 by decide) r2.1 r2.2 (fun d => ?_)
        refine lo_p hT (hat 2 (by decide)) (hlt 2 (by decide)) hl (by decide) (fun z => absurd z (by decide)) (fun c => ha (by omega)) (by omega) (fun d A hA => Or.inl ?_)
        rw [hb (by omega)]
        exact ⟨(l_10 (st := []) hA (by decide)).1 cz, (by decide : (2 : Int) ≠ -1)⟩
      · rw [if_neg cz] at hsp
        refine CIt.go hsp (fun ha hb => ?_)
        rw [← ha0]
        refine lo_1 hT (hat 0 (by decide)) (hlt 0 (by decide)) hl (fun c => ha (by omega)) hs (by decide) r1.1 r1.2 (fun d => ?_)
        refine lo_1 hT (hat 1 (by decide)) (hlt 1 (by decide)) hl (fun c => ha (by omega)) (by omega) (show 1 < 4 by decide) r2.1 r2.2 (fun d => ?_)
        refine lo_p hT (hat 2 (by decide)) (hlt 2 (by decide)) hl (by decide) (fun z => absurd z (by decide)) (fun c => ha (by omega)) (by omega) (fun d A hA => Or.inr ?_)
        refine ⟨_, _, _, (l_10 (st := []) hA (by decide)).2 cz, ?_⟩
        exact goo (hb (by omega))
    rw [if_neg c4] at hsp ic'
    rw [if_neg (by omega)] at nl
    by_cases c5 : i.1 = 5
    · rw [if_pos c5] at hsp
      rw [if_pos c5] at ic'
      rw [if_neg (by omega), if_neg (by omega), if_neg (by omega)] at nl
      rw [nl] at hat hlt goo
      rw [ic'] at hat
      have r1 := rg 0 (by rw [c5]; decide) (by unfold isr; omega)
      refine CIt.go hsp (fun ha hb => ?_)
      rw [← ha0]
      refine lo_p hT (hat 0 (by decide)) (hlt 0 (by decide)) hl (by decide) (fun z => absurd z (by decide)) (fun c => ha (by omega)) (by omega) (fun d A hA => Or.inr ⟨_, _, _, l_11 (b := 0) hA (by decide), ?_⟩)
      refine lo_2 (st := []) hT (hat 1 (by decide)) (hlt 1 (by decide)) hl (fun c => ha (by omega)) (by omega) (by decide) r1.1 r1.2 (fun d => ?_)
      exact goo (hb (by omega))
    rw [if_neg c5] at hsp ic'
    by_cases c6 : i.1 = 6
    · rw [if_pos c6] at hsp
      rw [if_pos c6] at ic'
      rw [if_neg (by omega), if_neg (by omega), if_neg (by omega)] at nl
      rw [nl] at hat hlt goo
      rw [ic'] at hat
      have r1 := rg 0 (by rw [c6]; decide) (by unfold isr; omega)
      by_cases cz : (mou m).length = 40
      · rw [if_pos cz] at hsp
        refine CIt.stop hsp (by decide) (fun ha hb => ?_)
        rw [← ha0]
        refine lo_1 hT (hat 0 (by decide)) (hlt 0 (by decide)) hl (fun c => ha (by omega)) hs (by decide) r1.1 r1.2 (fun d => ?_)
        exact lo_12f hT (hat 1 (by decide)) (hlt 1 (by decide)) (fun c => ha (by omega)) (by omega) cz (fun d => hb (by omega))
      · rw [if_neg cz] at hsp
        refine CIt.go hsp (fun ha hb => ?_)
        rw [← ha0]
        refine lo_1 hT (hat 0 (by decide)) (hlt 0 (by decide)) hl (fun c => ha (by omega)) hs (by decide) r1.1 r1.2 (fun d => ?_)
        refine lo_p hT (hat 1 (by decide)) (hlt 1 (by decide)) hl (by decide) (fun z => by omega) (fun c => ha (by omega)) (by omega) (fun d A hA => Or.inr ⟨_, _, _, l_12 (st := []) (b := 0) hA (by decide) (by omega), ?_⟩)
        exact goo (hb (by omega))
    rw [if_neg c6] at hsp ic'
    by_cases c7 : i.1 = 7
    · have o5 := o5 c7
      rw [if_pos c7] at hsp
      rw [if_pos c7] at ic'
      rw [if_neg (by omega), if_neg (by omega), if_neg (by omega)] at nl
      rw [nl] at hat hlt has
      rw [ic'] at hat
      have r1 := rg 0 (by rw [c7]; decide) (by unfold isr; omega)
      have hq : (ig i 2).toNat < Q.1 := by omega
      obtain ⟨cb1, cb2⟩ := cod_beg hQ hq
      have aq := ado (ig i 2).toNat 0 (Or.inl hq) (Nat.zero_le _)
      refine CIt.go hsp (fun ha hb => ?_)
      rw [← ha0]
      refine lo_1 hT (hat 0 (by decide)) (hlt 0 (by decide)) hl (fun c => ha (by omega)) hs (by decide) r1.1 r1.2 (fun d => ?_)
      have hlt2 := hlt 2 (by decide)
      refine lo_p hT (hat 1 (by decide)) (hlt 1 (by decide)) hl (by decide) (fun z => absurd z (by decide)) (fun c => ha (by omega)) (by omega) (fun d A hA => Or.inr ⟨_, _, _, l_15 (v := ofP Q (ig i 2).toNat) (p := mp m) (k := mk m + 1) hN hA (by omega) (by omega) has.symm (by omega), ?_⟩)
      refine lo_2 (st := []) hT cb1 (by omega) hl (fun c => ha (by omega)) (by omega) (by decide) (by decide) (by decide) (fun d => ?_)
      have hb := hb (by omega)
      have hb : LO N Q inp ic T (s + 3) (men m (ig i 2).toNat (mget m (ig i 1))) [] (adr Q (ig i 2).toNat 0) r := hb
      rw [← men_eq (m := m) (p := mp m) (k := mk m + 1) (q := (ig i 2).toNat) (v := mget m (ig i 1)) rfl rfl, cb2] at hb
      exact hb.go
    rw [if_neg c7] at hsp ic'
    have mlt : i.1 = 8 ∨ i.1 = 11 → mtL (Q.2.1 (mp m)) (mk m) < (Q.2.1 (mp m)).length ∧ nlk (Q.2.1 (mp m)) (mtL (Q.2.1 (mp m)) (mk m)) = 1 := fun c => by
      rcases c with c | c
      · have := pt.1 (show (itm (Q.2.1 (mp m)) (mk m)).1 = 8 by rw [hi]; exact c)
        refine ⟨by omega, ?_⟩
        have k9 : (itm (Q.2.1 (mp m)) (mtL (Q.2.1 (mp m)) (mk m))).1 = 9 := this.2.2.2.1
        rw [mtn, if_neg (by omega), if_neg (by omega), if_neg (by omega), if_pos k9]
      · have := pt.2.2.2.1 (show (itm (Q.2.1 (mp m)) (mk m)).1 = 11 by rw [hi]; exact c)
        refine ⟨by omega, ?_⟩
        have k12 : (itm (Q.2.1 (mp m)) (mtL (Q.2.1 (mp m)) (mk m))).1 = 12 := this.2.2.2.2.2.1
        have k10 : (itm (Q.2.1 (mp m)) (mtL (Q.2.1 (mp m)) (mtL (Q.2.1 (mp m)) (mk m)))).1 = 10 := this.2.2.2.2.1
        rw [mtn, if_neg (by omega), if_neg (by omega), if_neg (by omega), if_neg (by omega), if_pos k12, if_pos k10]
    by_cases c8 : i.1 = 8 ∨ i.1 = 11
    · rw [if_pos c8] at hsp
      have ic2 : itc Q (mp m) (mk m) = [(1, ig i 1), (13, ((adr Q (mp m) (mtL (Q.2.1 (mp m)) (mk m)) + 1 : Nat) : Int))] := by
        rw [ic']
        rcases c8 with c | c
        · rw [if_pos c, Int.natCast_add]; rfl
        · rw [if_neg (by omega), if_neg (by omega), if_pos c, Int.natCast_add]; rfl
      rw [if_neg (by omega), if_neg (by omega), if_neg (by omega)] at nl
      rw [nl] at hat hlt has
      rw [ic2] at hat
      obtain ⟨ml1, ml2⟩ := mlt c8
      have r1 := rg 0 (by rcases c8 with c | c <;> rw [c] <;> decide) (by unfold isr; omega)
      refine CIt.go hsp (fun ha hb => ?_)
      rw [← ha0]
      refine lo_1 hT (hat 0 (by decide)) (hlt 0 (by decide)) hl (fun c => ha (by omega)) hs (by decide) r1.1 r1.2 (fun d => ?_)
      have am := ado (mp m) (mtL (Q.2.1 (mp m)) (mk m)) v1 (by omega)
      refine lo_p hT (hat 1 (by decide)) (hlt 1 (by decide)) hl (by decide) (fun z => absurd z (by decide)) (fun c => ha (by omega)) (by omega) (fun d A hA => Or.inr ⟨_, _, _, l_13 (st := []) hA (by decide) (by omega), ?_⟩)
      have hb := hb (by omega)
      have hb : LO N Q inp ic T (s + 2) m [] (adr Q (mp m) (if mget m (ig i 1) = 0 then mtL (Q.2.1 (mp m)) (mk m) + 1 else mk m + 1)) r := hb
      by_cases e : mget m (ig i 1) = 0
      · rw [if_pos e] at hb ⊢
        rw [adr_s, ml2] at hb
        exact hb
      · rw [if_neg e] at hb ⊢
        rw [has] at hb
        exact hb
    rw [if_neg c8] at hsp
    rw [if_neg (by omega)] at ic'
    by_cases c9 : i.1 = 9
    · have := pt.2.1 (show (itm (Q.2.1 (mp m)) (mk m)).1 = 9 by rw [hi]; exact c9)
      have am := ado (mp m) (mtL (Q.2.1 (mp m)) (mk m)) v1 (by omega)
      rw [if_pos c9] at hsp
      rw [if_pos c9] at ic'
      rw [if_neg (by omega), if_pos c9] at nl
      rw [nl] at hat hlt
      rw [ic'] at hat
      refine CIt.go hsp (fun ha hb => ?_)
      rw [← ha0]
      exact lo_p hT (hat 0 (by decide)) (hlt 0 (by decide)) hl (by decide) (fun z => absurd z (by decide)) (fun c => ha (by omega)) (by omega) (fun d A hA => Or.inr ⟨_, _, _, l_14 (N := N) hA (by omega), hb (by omega)⟩)
    rw [if_neg c9] at hsp ic'
    rw [if_neg (by omega)] at ic'
    by_cases c12 : i.1 = 12
    · have := pt.2.2.2.2 (show (itm (Q.2.1 (mp m)) (mk m)).1 = 12 by rw [hi]; exact c12)
      have am := ado (mp m) (mtL (Q.2.1 (mp m)) (mk m)) v1 (by omega)
      rw [if_pos c12] at hsp ic'
      rw [if_neg (by omega), if_neg (by omega), if_pos c12] at nl
      by_cases cz : (itm (Q.2.1 (mp m)) (mtL (Q.2.1 (mp m)) (mk m))).1 = 10
      · rw [if_pos cz] at hsp ic' nl
        rw [nl] at hat hlt
        rw [ic'] at hat
        refine CIt.go hsp (fun ha hb => ?_)
        rw [← ha0]
        exact lo_p hT (hat 0 (by decide)) (hlt 0 (by decide)) hl (by decide) (fun z => absurd z (by decide)) (fun c => ha (by omega)) (by omega) (fun d A hA => Or.inr ⟨_, _, _, l_14 (N := N) hA (by omega), hb (by omega)⟩)
      · rw [if_neg cz] at hsp nl
        rw [nl] at goo
        exact CIt.go hsp (fun ha hb => by rw [← ha0]; exact goo (hb (by omega)))
    · rw [if_neg c12] at hsp
      have c10 : i.1 = 10 := by omega
      rw [if_pos c10] at nl
      rw [nl] at goo
      exact CIt.go hsp (fun ha hb => by rw [← ha0]; exact goo (hb (by omega)))
  · have hke : mk m = (Q.2.1 (mp m)).length := by omega
    have hsp : isp Q inp ic m = if mk m < (Q.2.1 (mp m)).length then _ else _ := rfl
    rw [if_neg hk] at hsp
    have he := cod_end hQ v1
    have hlt := adr_len hQ v1
    rw [← hke] at he hlt
    by_cases e : mlv m = 0
    · rw [if_pos e] at hsp
      rw [if_pos (h3.1 e)] at he
      refine CIt.stop hsp (by decide) (fun ha hb => ?_)
      refine lo_p hT he hlt hl (by decide) (fun z => absurd z (by decide)) (fun c => ha (by omega)) hs (fun d A hA => Or.inl ?_)
      rw [hb (by omega)]
      exact ⟨l_17 (N := N) (b := 0) hA, (by decide : (0 : Int) ≠ -1)⟩
    · rw [if_neg e] at hsp
      rw [if_neg (by omega)] at he
      obtain ⟨w1, w2, w3⟩ := v4 (mlv m - 1) (by omega)
      have aw := ado _ _ w1 w2
      refine CIt.go hsp (fun ha hb => ?_)
      exact lo_p hT he hlt hl (by decide) (fun z => absurd z (by decide)) (fun c => ha (by omega)) hs (fun d A hA => Or.inr ⟨_, _, _, l_16 (b := 0) hA (by omega) (by omega), hb (by omega)⟩)
end
