/-! RUN of the reference: one item -/
section
variable {N : Nat} {A B : zA} {Q : Pr} {inp : Nat → Int} {ic T s : Nat} {m : Ms}
theorem q93 {a j : Nat} (h : a = 226 ∧ j = 93) : qRn a j := Or.inl ⟨h.1, by omega⟩
theorem f93 {v : Int} : fr qRn A (zsi A 226 93 v) := fr_si (q93 ⟨rfl, rfl⟩)
/-- the last letter: what was found is written -/
theorem r_371 {k5 : Int} {v : Int} {kd : Int} (hQ : WO Q) (h : RMs Q inp ic A m s) (hT : T ≤ 2000) (hs : s ≤ T) (hl : mlv m ≤ 3) (h4 : kd ≠ 4) (h6 : kd ≠ 6) (h0 : 0 ≤ k5) (h1 : k5 < 60) (hv : zw v = v) : (T < s + 1 → ∃ B, z_M_doItem_371 N T kd k5 v A = some (3, B) ∧ RRs B T (mou m) ∧ fr qRn A B) ∧ (¬ T < s + 1 → ∃ B, z_M_doItem_371 N T kd k5 v A = some (-1, B) ∧ RMs Q inp ic B (mset m k5 v) (s + 1) ∧ fr qRn A B) := by
  unfold z_M_doItem_371
  have hb := r_burn (N := N) (c := 1) h.2.2.2.2.2.2.2.2 hs hT (by decide)
  have hb : z_M_burn N 1 T A = _ := hb
  rw [if_neg h4, if_neg h6, hb]
  refine ⟨fun c => ?_, fun c => ?_⟩
  · rw [if_pos c, zbI_s, if_pos rfl]
    exact ⟨_, rfl, h.rs (by omega), f93⟩
  · rw [if_neg c, zbI_s, if_neg (by decide)]
    obtain ⟨B, b1, b2, b3⟩ := rm_write (N := N) hQ (h.st hQ (show s ≤ s + 1 by omega) (by omega)) hl h0 h1 hv
    rw [b1, zbV_s]
    exact ⟨B, rfl, b2, f93.trans b3⟩
theorem rm_94 (hQ : WO Q) {d : Nat} (hd : d = 0 ∨ d = 1) (h : RMs Q inp ic A m s) (hs : mni m + d ≤ s) (hs2 : s ≤ 2000) : RMs Q inp ic (zsi A 226 94 (zi A 226 94 + (d : Int))) (mgl m, mfr m, mce m, mou m, mni m + d, mlv m, mrt m, mp m, mk m) s ∧ fr qRn A (zsi A 226 94 (zi A 226 94 + (d : Int))) := by
  obtain ⟨h1, h2, h3, h4, h5, h6, h7, h8, h9⟩ := h
  have f : fr (fun a j => a = 226 ∧ j = 94) A (zsi A 226 94 (zi A 226 94 + (d : Int))) := fr_si ⟨rfl, rfl⟩
  have fq : fr qRn A (zsi A 226 94 (zi A 226 94 + (d : Int))) := f.mono (fun a j z => Or.inl ⟨z.1, by omega⟩)
  refine ⟨⟨h1.fr hQ fq, fun r hr => by rw [f.e (fun z => by omega)]; exact h2 r hr, fun l r a b c => by rw [f.e (fun z => by omega)]; exact h3 l r a b c, fun j hj => by rw [f.e (fun z => by omega)]; exact h4 j hj, ⟨by rw [f.i (fun z => by omega)]; exact h5.1, fun i hi => by rw [f.e (fun z => by omega)]; exact h5.2 i hi⟩, ⟨?_, hs⟩, by rw [f.i (fun z => by omega)]; exact h7, fun l hl => by rw [f.e (fun z => by omega), f.e (fun z => by omega)]; exact h8 l hl, by rw [f.i (fun z => by omega)]; exact h9⟩, fq⟩
  rw [zi_si_s, h6.1, yb_w (by omega) (by omega)]
  show (mni m : Int) + (d : Int) = ((mni m + d : Nat) : Int)
  omega
/-- what doItem comes to -/
def RDo (Q : Pr) (inp : Nat → Int) (ic T : Nat) (A : zA) (m : Ms) (s : Nat) (x : Option (Int × zA)) : Prop :=
  (T < s + (isp Q inp ic m).1 → ∃ B, x = some (3, B) ∧ RRs B T (mou m) ∧ fr qRn A B) ∧
  (¬ T < s + (isp Q inp ic m).1 → (isp Q inp ic m).2.2.1 = -1 → mp (isp Q inp ic m).2.2.2 = mp m ∧ mk (isp Q inp ic m).2.2.2 = mk m + 1 ∧ ∃ B, x = some (-1, B) ∧ RMs Q inp ic B (isp Q inp ic m).2.2.2 (s + (isp Q inp ic m).2.1) ∧ fr qRn A B) ∧
  (¬ T < s + (isp Q inp ic m).1 → (isp Q inp ic m).2.2.1 ≠ -1 → ∃ B, x = some ((isp Q inp ic m).2.2.1, B) ∧ RRs B (s + (isp Q inp ic m).2.1) (mou m) ∧ fr qRn A B)
theorem RDo.go {x : Option (Int × zA)} {n : Nat} {m' : Ms} (hu : isp Q inp ic m = (n, n, -1, m')) (h1 : mp m' = mp m) (h2 : mk m' = mk m + 1) (h3 : T < s + n → ∃ B, x = some (3, B) ∧ RRs B T (mou m) ∧ fr qRn A B) (h4 : ¬ T < s + n → ∃ B, x = some (-1, B) ∧ RMs Q inp ic B m' (s + n) ∧ fr qRn A B) : RDo Q inp ic T A m s x := by
  unfold RDo
  rw [hu]
  exact ⟨h3, fun c _ => ⟨h1, h2, h4 c⟩, fun _ c => absurd rfl c⟩
theorem RDo.stop {x : Option (Int × zA)} {n a : Nat} {r : Int} {m' : Ms} (hu : isp Q inp ic m = (n, a, r, m')) (hr : r ≠ -1) (h3 : T < s + n → ∃ B, x = some (3, B) ∧ RRs B T (mou m) ∧ fr qRn A B) (h4 : ¬ T < s + n → ∃ B, x = some (r, B) ∧ RRs B (s + a) (mou m) ∧ fr qRn A B) : RDo Q inp ic T A m s x := by
  unfold RDo
  rw [hu]
  exact ⟨h3, fun _ c => absurd c hr, fun c _ => h4 c⟩
theorem r_doItem (hG : GQ Q) (hm : MV Q m) (hT : T ≤ 2000) (hs : s ≤ T) (h : RMs Q inp ic A m s) (hk : mk m < (Q.2.1 (mp m)).length) (h7 : (itm (Q.2.1 (mp m)) (mk m)).1 < 7) : RDo Q inp ic T A m s (z_M_doItem N (mp m) (mk m) T A) := by
  have hQ := hG.1
  obtain ⟨v1, v2, v3, v4, v5⟩ := hm
  have hp3 := exP3 hQ v1
  obtain ⟨q1, q2, q3, q4⟩ := hQ.2 _ v1
  obtain ⟨o1, o2, o3, o4, o5⟩ := q4 _ (itm_mem hk)
  have hx := (h.1.1 _ v1).1
  have kk : z_M_field N 0 (mp m) (mk m) 0 A = some (itm (Q.2.1 (mp m)) (mk m)).1 := rp_kind (z := 0) (by decide) (by omega) (by omega) hx hk (by omega)
  have kn : ∀ i : Nat, i < nbk (itm (Q.2.1 (mp m)) (mk m)).1 → z_M_field N 0 (mp m) (mk m) ((i : Int) + 1) A = some (ig (itm (Q.2.1 (mp m)) (mk m)) (i + 1)) := fun i hi => rp_num (z := 0) (by decide) (by omega) (by omega) hx hk (by omega) hi
  obtain ⟨f1, e1⟩ : ∃ v, z_M_field N 0 (mp m) (mk m) 1 A = some v := ⟨_, z_M_field_e (by omega) (by omega) (by omega) (by omega) (by decide) (by decide)⟩
  obtain ⟨f2, e2⟩ : ∃ v, z_M_field N 0 (mp m) (mk m) 2 A = some v := ⟨_, z_M_field_e (by omega) (by omega) (by omega) (by omega) (by decide) (by decide)⟩
  have n1 : 1 ≤ nbk (itm (Q.2.1 (mp m)) (mk m)).1 → f1 = ig (itm (Q.2.1 (mp m)) (mk m)) 1 := fun z => by
    have := kn 0 z
    have this : z_M_field N 0 (mp m) (mk m) 1 A = some (ig (itm (Q.2.1 (mp m)) (mk m)) 1) := this
    rw [e1] at this
    exact Option.some.inj this
  have n2 : 2 ≤ nbk (itm (Q.2.1 (mp m)) (mk m)).1 → f2 = ig (itm (Q.2.1 (mp m)) (mk m)) 2 := fun z => by
    have := kn 1 z
    have this : z_M_field N 0 (mp m) (mk m) 2 A = some (ig (itm (Q.2.1 (mp m)) (mk m)) 2) := this
    rw [e2] at this
    exact Option.some.inj this
  have rg : ∀ j : Nat, j < nbk (itm (Q.2.1 (mp m)) (mk m)).1 → isr (itm (Q.2.1 (mp m)) (mk m)).1 j → 0 ≤ ig (itm (Q.2.1 (mp m)) (mk m)) (j + 1) ∧ ig (itm (Q.2.1 (mp m)) (mk m)) (j + 1) < 60 := fun j hj hr => by
    have := (o3 j hj).2.2 hr
    omega
  have wz : ∀ j : Nat, j < nbk (itm (Q.2.1 (mp m)) (mk m)).1 → zw (ig (itm (Q.2.1 (mp m)) (mk m)) (j + 1)) = ig (itm (Q.2.1 (mp m)) (mk m)) (j + 1) := fun j hj => yb_w (o3 j hj).1 (o3 j hj).2.1
  have h93 := h.2.2.2.2.2.2.2.2
  unfold z_M_doItem
  rw [kk, zbP_s, e1, zbP_s, e2, zbP_s]
  have hsp : isp Q inp ic m = if mk m < (Q.2.1 (mp m)).length then _ else _ := rfl
  rw [if_pos hk] at hsp
  generalize hi : itm (Q.2.1 (mp m)) (mk m) = i at *
  -- one letter, then the last one
  have two : ∀ (k5 v : Int) (m' : Ms) (A1 : zA), 0 ≤ k5 → k5 < 60 → zw v = v → i.1 ≠ 4 → i.1 ≠ 6 → s + 1 ≤ T → RMs Q inp ic A1 m' (s + 1) → fr qRn A A1 → mlv m' ≤ 3 → mou m' = mou m → (T < s + 2 → ∃ B, z_M_doItem_371 N T i.1 k5 v A1 = some (3, B) ∧ RRs B T (mou m) ∧ fr qRn A B) ∧ (¬ T < s + 2 → ∃ B, z_M_doItem_371 N T i.1 k5 v A1 = some (-1, B) ∧ RMs Q inp ic B (mset m' k5 v) (s + 2) ∧ fr qRn A B) := fun k5 v m' A1 g0 g1 gv g4 g6 gs hA1 fA1 hl' ho' => by
    obtain ⟨a, b⟩ := r_371 (N := N) hQ hA1 hT gs hl' g4 g6 g0 g1 gv
    refine ⟨fun c => ?_, fun c => ?_⟩
    · obtain ⟨B, b1, b2, b3⟩ := a (by omega)
      rw [ho'] at b2
      exact ⟨B, b1, b2, fA1.trans b3⟩
    · obtain ⟨B, b1, b2, b3⟩ := b (by omega)
      exact ⟨B, b1, b2, fA1.trans b3⟩
  have hb1 := r_burn (N := N) (c := 1) h93 hs hT (by decide)
  have hb1 : z_M_burn N 1 T A = _ := hb1
  have s1 : s + 1 ≤ T → RMs Q inp ic (zsi A 226 93 ((s + 1 : Nat) : Int)) m (s + 1) := fun c => h.st hQ (by omega) (by omega)
  by_cases c0 : i.1 = 0
  · rw [if_pos c0] at hsp
    rw [if_neg (show ¬ i.1 = 2 by omega), if_neg (show ¬ i.1 = 3 by omega), if_neg (show ¬ i.1 = 4 by omega), if_neg (show ¬ i.1 = 6 by omega), hb1]
    have r1 := rg 0 (by rw [c0]; decide) (by unfold isr; omega)
    have hn2 := n2 (by rw [c0]; decide)
    have hn1 := n1 (by rw [c0]; decide)
    by_cases cb : T < s + 1
    · rw [if_pos cb, zbI_s, if_pos rfl]
      exact RDo.go hsp rfl rfl (fun _ => ⟨_, rfl, h.rs (by omega), f93⟩) (fun c => absurd (show T < s + 2 by omega) c)
    · rw [if_neg cb, zbI_s, if_neg (by decide), if_pos c0]
      unfold z_M_doItem_349
      rw [if_neg (show ¬ i.1 = 5 by omega), zlet_s, hn1, hn2]
      obtain ⟨g1, g2⟩ := rm_94 hQ (d := 0) (Or.inl rfl) (s1 (by omega)) (by have := h.2.2.2.2.2.1.2; omega) (by omega)
      obtain ⟨a, b⟩ := two (ig i 1) (ig i 2) m _ r1.1 r1.2 (wz 1 (by rw [c0]; decide)) (by omega) (by omega) (by omega) g1 (f93.trans g2) (by omega) rfl
      exact RDo.go hsp rfl rfl a b
  rw [if_neg c0] at hsp
  by_cases c1 : i.1 = 1
  · rw [if_pos c1] at hsp
    rw [if_neg (show ¬ i.1 = 2 by omega), if_neg (show ¬ i.1 = 3 by omega), if_neg (show ¬ i.1 = 4 by omega), if_neg (show ¬ i.1 = 6 by omega), hb1]
    have r1 := rg 0 (by rw [c1]; decide) (by unfold isr; omega)
    have r2 := rg 1 (by rw [c1]; decide) (by unfold isr; omega)
    have hn2 := n2 (by rw [c1]; decide)
    have hn1 := n1 (by rw [c1]; decide)
    by_cases cb : T < s + 1
    · rw [if_pos cb, zbI_s, if_pos rfl]
      exact RDo.go hsp rfl rfl (fun _ => ⟨_, rfl, h.rs (by omega), f93⟩) (fun c => absurd (show T < s + 2 by omega) c)
    · rw [if_neg cb, zbI_s, if_neg (by decide), if_neg c0, if_pos c1, hn2]
      have rr : z_M_read N (ig i 2) (zsi A 226 93 ((s + 1 : Nat) : Int)) = some (mget m (ig i 2)) := rm_read (s1 (by omega)) (by omega) r2.1 r2.2
      rw [rr, zbP_s]
      unfold z_M_doItem_349
      rw [if_neg (show ¬ i.1 = 5 by omega), zlet_s, hn1]
      obtain ⟨g1, g2⟩ := rm_94 hQ (d := 0) (Or.inl rfl) (s1 (by omega)) (by have := h.2.2.2.2.2.1.2; omega) (by omega)
      obtain ⟨a, b⟩ := two (ig i 1) (mget m (ig i 2)) m _ r1.1 r1.2 (rm_rg h (by omega) r2.1 r2.2) (by omega) (by omega) (by omega) g1 (f93.trans g2) (by omega) rfl
      exact RDo.go hsp rfl rfl a b
  rw [if_neg c1] at hsp
  by_cases c2 : i.1 = 2
  · rw [if_pos c2] at hsp
    rw [if_pos c2]
    have r1 := rg 0 (by rw [c2]; decide) (by unfold isr; omega)
    have r2 := rg 1 (by rw [c2]; decide) (by unfold isr; omega)
    have r3 := rg 2 (by rw [c2]; decide) (by unfold isr; omega)
    have o4 := o4 c2
    have hn2 := n2 (by rw [c2]; decide)
    have hn1 := n1 (by rw [c2]; decide)
    have k4 : z_M_field N 0 (mp m) (mk m) 4 A = some (ig i 4) := kn 3 (by rw [c2]; decide)
    have k3 : z_M_field N 0 (mp m) (mk m) 3 A = some (ig i 3) := kn 2 (by rw [c2]; decide)
    have hb3 := r_burn (N := N) (c := 3) h93 hs hT (by decide)
    have hb3 : z_M_burn N 3 T A = _ := hb3
    have rr : z_M_read N (ig i 3) A = some (mget m (ig i 3)) := rm_read h (by omega) r3.1 r3.2
    rw [k4, zbP_s, k3, zbP_s, rr, zbP_s, hb3]
    have hw3 : zw (mget m (ig i 3)) = mget m (ig i 3) := rm_rg h (show mlv m ≤ 3 by omega) r3.1 r3.2
    by_cases cb : T < s + 3
    · rw [if_pos cb, zbI_s, if_pos rfl]
      by_cases cz : ig i 4 = 3 ∧ mget m (ig i 3) = 0
      · rw [if_pos cz] at hsp
        exact RDo.stop hsp (by decide) (fun _ => ⟨_, rfl, h.rs (by omega), f93⟩) (fun c => absurd cb c)
      · rw [if_neg cz] at hsp
        exact RDo.go hsp rfl rfl (fun _ => ⟨_, rfl, h.rs (by omega), f93⟩) (fun c => absurd (show T < s + 4 by omega) c)
    · rw [if_neg cb, zbI_s, if_neg (by decide)]
      by_cases cz : ig i 4 = 3 ∧ mget m (ig i 3) = 0
      · rw [if_pos cz] at hsp
        rw [if_pos cz.1, if_pos cz.2]
        exact RDo.stop hsp (by decide) (fun c => absurd c cb) (fun _ => ⟨_, rfl, h.rs (by omega), f93⟩)
      · rw [if_neg cz] at hsp
        have s3 : RMs Q inp ic (zsi A 226 93 ((s + 3 : Nat) : Int)) m (s + 3) := h.st hQ (by omega) (by omega)
        have e87 : (if ig i 4 = 3 then (if mget m (ig i 3) = 0 then some ((1 : Int), zsi A 226 93 ((s + 3 : Nat) : Int)) else z_M_doItem_87 N T i.1 f1 f2 (ig i 4) (mget m (ig i 3)) (zsi A 226 93 ((s + 3 : Nat) : Int))) else z_M_doItem_87 N T i.1 f1 f2 (ig i 4) (mget m (ig i 3)) (zsi A 226 93 ((s + 3 : Nat) : Int))) = z_M_doItem_87 N T i.1 f1 f2 (ig i 4) (mget m (ig i 3)) (zsi A 226 93 ((s + 3 : Nat) : Int)) := by
          split
          · next c => rw [if_neg (fun z => cz ⟨c, z⟩)]
          · rfl
        rw [e87, hn1, hn2]
        unfold z_M_doItem_87
        have rr2 : z_M_read N (ig i 2) (zsi A 226 93 ((s + 3 : Nat) : Int)) = some (mget m (ig i 2)) := rm_read s3 (by omega) r2.1 r2.2
        rw [rr2, zbP_s, worked_e o4 cz hw3, zbP_s]
        have wr := wkO_rg (ig i 4) (mget m (ig i 2)) (mget m (ig i 3))
        obtain ⟨a, b⟩ := r_371 (N := N) (kd := i.1) (v := wkO (ig i 4) (mget m (ig i 2)) (mget m (ig i 3))) hQ s3 hT (by omega) (by omega) (by omega) (by omega) r1.1 r1.2 (yb_w wr.1 wr.2)
        refine RDo.go hsp rfl rfl (fun c => ?_) (fun c => ?_)
        · obtain ⟨B, b1, b2, b3⟩ := a (show T < s + 3 + 1 from c)
          exact ⟨B, b1, b2, f93.trans b3⟩
        · obtain ⟨B, b1, b2, b3⟩ := b (show ¬ T < s + 3 + 1 from c)
          exact ⟨B, b1, b2, f93.trans b3⟩
  rw [if_neg c2] at hsp
  by_cases c3 : i.1 = 3
  · rw [if_pos c3] at hsp
    rw [if_neg c2, if_pos c3]
    have r1 := rg 0 (by rw [c3]; decide) (by unfold isr; omega)
    have r2 := rg 1 (by rw [c3]; decide) (by unfold isr; omega)
    have hn2 := n2 (by rw [c3]; decide)
    have hn1 := n1 (by rw [c3]; decide)
    have hb2 := r_burn (N := N) (c := 2) h93 hs hT (by decide)
    have hb2 : z_M_burn N 2 T A = _ := hb2
    have rr : z_M_read N (ig i 2) A = some (mget m (ig i 2)) := rm_read h (by omega) r2.1 r2.2
    unfold z_M_doItem_117 z_M_doItem_138 z_M_doItem_152
    rw [if_pos c3, hn2, rr, zbP_s, if_pos c3, hb2, hn1]
    by_cases cb : T < s + 2
    · rw [if_pos cb, zbI_s, if_pos rfl]
      by_cases cz : mget m (ig i 2) < 0 ∨ 7 < mget m (ig i 2)
      · rw [if_pos cz] at hsp
        exact RDo.stop hsp (by decide) (fun _ => ⟨_, rfl, h.rs (by omega), f93⟩) (fun c => absurd cb c)
      · rw [if_neg cz] at hsp
        exact RDo.go hsp rfl rfl (fun _ => ⟨_, rfl, h.rs (by omega), f93⟩) (fun c => absurd (show T < s + 3 by omega) c)
    · rw [if_neg cb, zbI_s, if_neg (by decide)]
      by_cases cz : mget m (ig i 2) < 0 ∨ 7 < mget m (ig i 2)
      · rw [if_pos cz] at hsp
        have e : ∀ {x : Option (Int × zA)}, (if mget m (ig i 2) < 0 then some ((2 : Int), zsi A 226 93 ((s + 2 : Nat) : Int)) else (if 7 < mget m (ig i 2) then some ((2 : Int), zsi A 226 93 ((s + 2 : Nat) : Int)) else x)) = some (2, zsi A 226 93 ((s + 2 : Nat) : Int)) := by
          intro x
          split
          · rfl
          · rw [if_pos (by omega)]
        rw [e]
        exact RDo.stop hsp (by decide) (fun c => absurd c cb) (fun _ => ⟨_, rfl, h.rs (by omega), f93⟩)
      · rw [if_neg cz] at hsp
        rw [if_neg (show ¬ mget m (ig i 2) < 0 by omega), if_neg (show ¬ 7 < mget m (ig i 2) by omega), if_neg (show ¬ i.1 = 4 by omega)]
        have s2 : RMs Q inp ic (zsi A 226 93 ((s + 2 : Nat) : Int)) m (s + 2) := h.st hQ (by omega) (by omega)
        have ec := s2.2.2.2.1 (mget m (ig i 2)).toNat (by omega)
        rw [show (((mget m (ig i 2)).toNat : Nat) : Int) = mget m (ig i 2) by omega] at ec
        rw [zrd_ok (by omega) (by omega), ec]
        have hcr : zw (mce m (mget m (ig i 2)).toNat) = mce m (mget m (ig i 2)).toNat := by
          rw [← ec]
          have := ri_rg (zsi A 226 93 ((s + 2 : Nat) : Int)) 292 (mget m (ig i 2))
          exact yb_w this.1 this.2
        obtain ⟨a, b⟩ := r_371 (N := N) (kd := i.1) (v := mce m (mget m (ig i 2)).toNat) hQ s2 hT (by omega) (by omega) (by omega) (by omega) r1.1 r1.2 hcr
        refine RDo.go hsp rfl rfl (fun c => ?_) (fun c => ?_)
        · obtain ⟨B, b1, b2, b3⟩ := a (show T < s + 2 + 1 from c)
          exact ⟨B, b1, b2, f93.trans b3⟩
        · obtain ⟨B, b1, b2, b3⟩ := b (show ¬ T < s + 2 + 1 from c)
          exact ⟨B, b1, b2, f93.trans b3⟩
  rw [if_neg c3] at hsp
  by_cases c4 : i.1 = 4
  · rw [if_pos c4] at hsp
    rw [if_neg c2, if_neg c3, if_pos c4]
    have r1 := rg 0 (by rw [c4]; decide) (by unfold isr; omega)
    have r2 := rg 1 (by rw [c4]; decide) (by unfold isr; omega)
    have hn2 := n2 (by rw [c4]; decide)
    have hn1 := n1 (by rw [c4]; decide)
    have hb3 := r_burn (N := N) (c := 3) h93 hs hT (by decide)
    have hb3 : z_M_burn N 3 T A = _ := hb3
    have rr : z_M_read N (ig i 1) A = some (mget m (ig i 1)) := rm_read h (by omega) r1.1 r1.2
    unfold z_M_doItem_117 z_M_doItem_138 z_M_doItem_152
    rw [if_neg c3, hn1, rr, zbP_s, if_neg c3, hb3, hn2]
    by_cases cb : T < s + 3
    · rw [if_pos cb, zbI_s, if_pos rfl]
      by_cases cz : mget m (ig i 1) < 0 ∨ 7 < mget m (ig i 1)
      · rw [if_pos cz] at hsp
        exact RDo.stop hsp (by decide) (fun _ => ⟨_, rfl, h.rs (by omega), f93⟩) (fun c => absurd cb c)
      · rw [if_neg cz] at hsp
        exact RDo.go hsp rfl rfl (fun _ => ⟨_, rfl, h.rs (by omega), f93⟩) (fun c => absurd cb c)
    · rw [if_neg cb, zbI_s, if_neg (by decide)]
      by_cases cz : mget m (ig i 1) < 0 ∨ 7 < mget m (ig i 1)
      · rw [if_pos cz] at hsp
        have e : ∀ {x : Option (Int × zA)}, (if mget m (ig i 1) < 0 then some ((2 : Int), zsi A 226 93 ((s + 3 : Nat) : Int)) else (if 7 < mget m (ig i 1) then some ((2 : Int), zsi A 226 93 ((s + 3 : Nat) : Int)) else x)) = some (2, zsi A 226 93 ((s + 3 : Nat) : Int)) := by
          intro x
          split
          · rfl
          · rw [if_pos (by omega)]
        rw [e]
        exact RDo.stop hsp (by decide) (fun c => absurd c cb) (fun _ => ⟨_, rfl, h.rs (by omega), f93⟩)
      · rw [if_neg cz] at hsp
        rw [if_neg (show ¬ mget m (ig i 1) < 0 by omega), if_neg (show ¬ 7 < mget m (ig i 1) by omega), if_pos c4]
        have s3 : RMs Q inp ic (zsi A 226 93 ((s + 3 : Nat) : Int)) m (s + 3) := h.st hQ (by omega) (by omega)
        have rr2 : z_M_read N (ig i 2) (zsi A 226 93 ((s + 3 : Nat) : Int)) = some (mget m (ig i 2)) := rm_read s3 (by omega) r2.1 r2.2
        rw [rr2, zbP_s, zwr_ok (by omega) (by omega), zrd_ok (by omega) (by omega)]
        unfold z_M_doItem_371
        rw [if_pos c4]
        have hv : zw (mget m (ig i 2)) = mget m (ig i 2) := rm_rg h (show mlv m ≤ 3 by omega) r2.1 r2.2
        refine RDo.go hsp rfl rfl (fun c => absurd c cb) (fun c => ⟨_, rfl, ?_, f93.trans (fr_rs (Or.inr (Or.inr (Or.inr (by omega)))))⟩)
        obtain ⟨h1, h2, h3, h4, h5, h6, h7', h8, h9⟩ := s3
        have f : fr (fun a _ => a = 292) (zsi A 226 93 ((s + 3 : Nat) : Int)) (rs (zsi A 226 93 ((s + 3 : Nat) : Int)) 292 (mget m (ig i 1)) (mget m (ig i 2))) := fr_rs rfl
        refine ⟨h1.fr hQ (f.mono (fun a j z => by unfold qRn; omega)), fun r hr => by rw [f.e (fun z => by omega)]; exact h2 r hr, fun l r a b c => by rw [f.e (fun z => by omega)]; exact h3 l r a b c, fun j hj => ?_, ⟨by rw [f.i (fun z => by omega)]; exact h5.1, fun i hi => by rw [f.e (fun z => by omega)]; exact h5.2 i hi⟩, ⟨by rw [f.i (fun z => by omega)]; exact h6.1, h6.2⟩, by rw [f.i (fun z => by omega)]; exact h7', fun l hl => by rw [f.e (fun z => by omega), f.e (fun z => by omega)]; exact h8 l hl, by rw [f.i (fun z => by omega)]; exact h9⟩
        rw [ri_rs (by omega) (by omega)]
        show _ = if j = (mget m (ig i 1)).toNat then mget m (ig i 2) else mce m j
        by_cases e : j = (mget m (ig i 1)).toNat
        · rw [if_pos (show (j : Int) = mget m (ig i 1) by omega), if_pos e]; exact hv
        · rw [if_neg (show ¬ (j : Int) = mget m (ig i 1) by omega), if_neg e]; exact h4 j hj
  rw [if_neg c4] at hsp
  by_cases c5 : i.1 = 5
  · rw [if_pos c5] at hsp
    rw [if_neg c2, if_neg c3, if_neg c4, if_neg (show ¬ i.1 = 6 by omega), hb1]
    have r1 := rg 0 (by rw [c5]; decide) (by unfold isr; omega)
    have hn1 := n1 (by rw [c5]; decide)
    by_cases cb : T < s + 1
    · rw [if_pos cb, zbI_s, if_pos rfl]
      exact RDo.go hsp rfl rfl (fun _ => ⟨_, rfl, h.rs (by omega), f93⟩) (fun c => absurd (show T < s + 2 by omega) c)
    · rw [if_neg cb, zbI_s, if_neg (by decide), if_neg c0, if_neg c1]
      have hS1 := s1 (by omega)
      have h94 : zi (zsi A 226 93 ((s + 1 : Nat) : Int)) 226 94 = mni m := hS1.2.2.2.2.2.1.1
      have h10 := hS1.1.2.1
      have hic := hS1.1.2.2.1
      have hin := hS1.1.2.2.2
      obtain ⟨g1, g2⟩ := rm_94 hQ (d := 1) (Or.inr rfl) hS1 (by have := h.2.2.2.2.2.1.2; omega) (by omega)
      have run : ∀ v : Int, zw v = v → v = (if mni m < ic then inp (mni m) else 0) → RDo Q inp ic T A m s (z_M_doItem_349 N T i.1 f1 v (zsi A 226 93 ((s + 1 : Nat) : Int))) := fun v hv hve => by
        rw [← hve] at hsp
        unfold z_M_doItem_349
        rw [if_pos c5, zlet_s, hn1]
        obtain ⟨a, b⟩ := two (ig i 1) v (mns m) _ r1.1 r1.2 hv (by omega) (by omega) (by omega) g1 (f93.trans g2) (show mlv m ≤ 3 by omega) rfl
        exact RDo.go hsp rfl rfl a b
      rw [h94, h10]
      by_cases cin : mni m < ic
      · rw [if_pos (show (mni m : Int) < (ic : Int) by omega), zrd_ok (by omega) (by omega), hin _ cin]
        have := ri_rg (zsi A 226 93 ((s + 1 : Nat) : Int)) 232 (mni m : Int)
        rw [hin _ cin] at this
        exact run (inp (mni m)) (yb_w this.1 this.2) (by rw [if_pos cin])
      · rw [if_neg (show ¬ (mni m : Int) < (ic : Int) by omega)]
        exact run 0 (by decide) (by rw [if_neg cin])
  rw [if_neg c5] at hsp
  have c6 : i.1 = 6 := by omega
  rw [if_pos c6] at hsp
  rw [if_neg c2, if_neg c3, if_neg c4, if_pos c6]
  have r1 := rg 0 (by rw [c6]; decide) (by unfold isr; omega)
  have hn1 := n1 (by rw [c6]; decide)
  have h92 := h.2.2.2.2.1.1
  rw [h93, yb_w (by omega) (by omega), h92]
  by_cases cb : T < s + 2
  · rw [if_pos (show (T : Int) < (s : Int) + 2 by omega), zlet_s]
    by_cases cz : (mou m).length = 40
    · rw [if_pos cz] at hsp
      exact RDo.stop hsp (by decide) (fun _ => ⟨_, rfl, h.rs (by omega), f93⟩) (fun c => absurd cb c)
    · rw [if_neg cz] at hsp
      exact RDo.go hsp rfl rfl (fun _ => ⟨_, rfl, h.rs (by omega), f93⟩) (fun c => absurd cb c)
  · rw [if_neg (show ¬ (T : Int) < (s : Int) + 2 by omega)]
    by_cases cz : (mou m).length = 40
    · rw [if_pos cz] at hsp
      rw [if_pos (show ((mou m).length : Int) = 40 by omega), zlet_s]
      refine RDo.stop hsp (by decide) (fun c => absurd c cb) (fun _ => ⟨_, rfl, ?_, f93⟩)
      have := h.rs (t := s + 1) (by omega)
      rw [show ((s + 1 : Nat) : Int) = (s : Int) + 1 by omega] at this
      exact this
    · rw [if_neg cz] at hsp
      rw [if_neg (show ¬ ((mou m).length : Int) = 40 by omega), hn1]
      have rr : z_M_read N (ig i 1) A = some (mget m (ig i 1)) := rm_read h (by omega) r1.1 r1.2
      have hv : zw (mget m (ig i 1)) = mget m (ig i 1) := rm_rg h (show mlv m ≤ 3 by omega) r1.1 r1.2
      rw [rr, zbP_s, zwr_ok (by omega) (by omega), zlet_s, zlet_s, zi_rs_o (by decide), h92, zi_si_j (by decide), zi_rs_o (by decide), h93]
      unfold z_M_doItem_371
      rw [if_neg c4, if_pos c6]
      obtain ⟨h1, h2, h3, h4, h5, h6, h7', h8, h9⟩ := h
      have f : fr (fun a j => a = 291 ∨ (a = 226 ∧ (j = 92 ∨ j = 93))) A (zsi (zsi (rs A 291 ((mou m).length : Int) (mget m (ig i 1))) 226 92 (((mou m).length : Int) + 1)) 226 93 ((s : Int) + 2)) := ((fr_rs (Or.inl rfl)).trans (fr_si (Or.inr ⟨rfl, by omega⟩))).trans (fr_si (Or.inr ⟨rfl, by omega⟩))
      have fq : fr qRn A (zsi (zsi (rs A 291 ((mou m).length : Int) (mget m (ig i 1))) 226 92 (((mou m).length : Int) + 1)) 226 93 ((s : Int) + 2)) := f.mono (fun a j z => by unfold qRn; omega)
      refine RDo.go hsp rfl rfl (fun c => absurd c cb) (fun c => ⟨_, rfl, ⟨h1.fr hQ fq, fun r hr => by rw [f.e (fun z => by omega)]; exact h2 r hr, fun l r a b c => by rw [f.e (fun z => by omega)]; exact h3 l r a b c, fun j hj => by rw [f.e (fun z => by omega)]; exact h4 j hj, ⟨?_, fun j hj => ?_⟩, ⟨by rw [f.i (fun z => by omega)]; exact h6.1, ?_⟩, by rw [f.i (fun z => by omega)]; exact h7', fun l hl => by rw [f.e (fun z => by omega), f.e (fun z => by omega)]; exact h8 l hl, ?_⟩, fq⟩)
      · rw [zi_si_j (by decide), zi_si_s, yb_w (by omega) (by omega)]
        show ((mou m).length : Int) + 1 = ((mou m ++ [mget m (ig i 1)]).length : Int)
        rw [List.length_append]; rfl
      · have hj : j < (mou m ++ [mget m (ig i 1)]).length := hj
        rw [List.length_append] at hj
        have hj : j < (mou m).length + 1 := hj
        show ri _ 291 (j : Int) = (mou m ++ [mget m (ig i 1)]).getD j 0
        rw [ri_si_o (by decide), ri_si_o (by decide), ri_rs (by omega) (by omega), List.getD_eq_getElem?_getD]
        by_cases e : j < (mou m).length
        · rw [if_neg (by omega), List.getElem?_append_left e, ← List.getD_eq_getElem?_getD]
          exact h5.2 j e
        · have : j = (mou m).length := by omega
          rw [if_pos (by omega), this, List.getElem?_append_right (Nat.le_refl _), Nat.sub_self]
          exact hv
      · show mni m ≤ s + 2
        omega
      · rw [zi_si_s, yb_w (by omega) (by omega)]
        show (s : Int) + 2 = ((s + 2 : Nat) : Int)
        omega
end
