/-! RUN of the reference: calls, turns, the whole -/
section
variable {N : Nat} {A B : zA} {Q : Pr} {inp : Nat → Int} {ic T s : Nat} {m : Ms}
theorem RStp.go {x : Option (Int × zA)} {L : Int → Int → Int → zA → Option (Int × zA)} {n : Nat} {m' : Ms} (hu : isp Q inp ic m = (n, n, -1, m')) (h3 : T < s + n → ∃ p k B, x = L p k 3 B ∧ RRs B T (mou m) ∧ fr qRn A B) (h4 : ¬ T < s + n → ∃ B, x = L (mp m') (mk m') (-1) B ∧ RMs Q inp ic B m' (s + n) ∧ fr qRn A B) : RStp Q inp ic T A m s x L := by
  unfold RStp
  rw [hu]
  exact ⟨h3, fun c _ => h4 c, fun _ c => absurd rfl c⟩
theorem RStp.stop {x : Option (Int × zA)} {L : Int → Int → Int → zA → Option (Int × zA)} {n a : Nat} {r : Int} {m' : Ms} (hu : isp Q inp ic m = (n, a, r, m')) (hr : r ≠ -1) (h3 : T < s + n → ∃ p k B, x = L p k 3 B ∧ RRs B T (mou m) ∧ fr qRn A B) (h4 : ¬ T < s + n → ∃ p k B, x = L p k r B ∧ RRs B (s + a) (mou m) ∧ fr qRn A B) : RStp Q inp ic T A m s x L := by
  unfold RStp
  rw [hu]
  exact ⟨h3, fun _ c => absurd c hr, fun c _ => h4 c⟩
theorem RRs.fr {t : Nat} {ou : List Int} {F : Nat → Nat → Prop} (h : RRs A t ou) (f : fr F A B) (h1 : ¬ F 226 93) (h2 : ¬ F 226 92) (h3 : ∀ j, ¬ F 291 j) : RRs B t ou := ⟨by rw [f.i h1]; exact h.1, by rw [f.i h2]; exact h.2.1, fun i hi => by rw [f.e (h3 _)]; exact h.2.2 i hi⟩
/-- registers of a new level -/
theorem r_zero {r34 : Int → Int → Int → Int → zA → Option (Int × zA)} {p k x4 arg : Int} {lv : Nat} (hl : lv ≤ 3) : ∀ (r j f : Nat) (A : zA), j + r = 60 → r < f → zi A 226 62 = lv → ∃ B, z_M_run_237_l r34 N f T p k x4 arg j A = z_M_run_266 r34 N T p k x4 arg B ∧ (∀ i : Nat, j ≤ i → i < 60 → ri B 294 (60 * (lv : Int) + i) = 0) ∧ fr (fun a i => a = 294 ∧ 60 * lv + j ≤ i ∧ i < 60 * lv + 60) A B
  | 0, j, f + 1, A, h1, h2, h62 => by
    unfold z_M_run_237_l z_M_run_237_b
    rw [if_neg (by omega)]
    exact ⟨A, rfl, fun i a b => by omega, fr.refl _ _⟩
  | r + 1, j, f + 1, A, h1, h2, h62 => by
    unfold z_M_run_237_l z_M_run_237_b
    rw [if_pos (by omega), h62, zwr_ok (by omega) (by omega), show zw ((j : Int) + 1) = ((j + 1 : Nat) : Int) by rw [yb_w (by omega) (by omega)]; omega]
    obtain ⟨B, b1, b2, b3⟩ := r_zero (r34 := r34) (p := p) (k := k) (x4 := x4) (arg := arg) hl r (j + 1) f (rs A 294 (60 * (lv : Int) + (j : Int)) 0) (by omega) (by omega) (by rw [zi_rs_o (by decide)]; exact h62)
    refine ⟨B, b1, fun i a b => ?_, (fr_rs ⟨rfl, by omega, by omega⟩).trans (b3.mono (fun a i z => ⟨z.1, by omega, by omega⟩))⟩
    by_cases e : i = j
    · rw [b3.e (fun z => by omega), ri_rs (by omega) (by omega), if_pos (by omega)]
      decide
    · exact b2 i (by omega) b
theorem r_rstep {f : Nat} (hN : 300000 ≤ N) (hG : GQ Q) (hm : MV Q m) (hT : T ≤ 2000) (hs : s ≤ T) (h : RMs Q inp ic A m s) : RStp Q inp ic T A m s (z_M_run_34_l N (f + 1) T (mp m) (mk m) (-1) A) (z_M_run_34_l N f T) := by
  have hQ := hG.1
  have hmv := hm
  obtain ⟨v1, v2, v3, v4, v5⟩ := hm
  have hp3 := exP3 hQ v1
  obtain ⟨q1, q2, q3, q4⟩ := hQ.2 _ v1
  have hx := (h.1.1 _ v1).1
  have hmt := (h.1.1 _ v1).2
  have h93 := h.2.2.2.2.2.2.2.2
  have h62 := h.2.2.2.2.2.2.1
  have hn := hx.1
  have hb := fun (c : Nat) (hc : c ≤ 4) => r_burn (N := N) (c := c) h93 hs hT hc
  show RStp Q inp ic T A m s (z_M_run_34_b (z_M_run_34_l N f) N T (mp m) (mk m) (-1) A) (z_M_run_34_l N f T)
  unfold z_M_run_34_b
  rw [if_pos (by decide), z_M_row_e (by omega) (by omega), zbP_s, zrd_ok (by omega) (by omega), show (4 * 0 + (mp m : Int)) = (mp m : Int) by omega, hn]
  have hsp : isp Q inp ic m = if mk m < (Q.2.1 (mp m)).length then _ else _ := rfl
  by_cases ck : mk m < (Q.2.1 (mp m)).length
  · rw [if_pos ck] at hsp
    have kk : z_M_field N 0 (mp m) (mk m) 0 A = some (itm (Q.2.1 (mp m)) (mk m)).1 := rp_kind (z := 0) (by decide) (by omega) (by omega) hx ck (by omega)
    rw [if_pos (show (mk m : Int) < ((Q.2.1 (mp m)).length : Int) by omega), kk, zbP_s]
    obtain ⟨o1, o2, o3, o4, o5⟩ := q4 _ (itm_mem ck)
    have pt := mt_pt (hG.n.2.1 _ v1) ck
    have wk1 : zw ((mk m : Int) + 1) = ((mk m + 1 : Nat) : Int) := by rw [yb_w (by omega) (by omega)]; omega
    have kn : ∀ {C : zA}, fr qRn A C → ∀ i : Nat, i < nbk (itm (Q.2.1 (mp m)) (mk m)).1 → z_M_field N 0 (mp m) (mk m) ((i : Int) + 1) C = some (ig (itm (Q.2.1 (mp m)) (mk m)) (i + 1)) := fun {C} fC i hi => rp_num (z := 0) (by decide) (by omega) (by omega) ((h.1.fr hQ fC).1 _ v1).1 ck (by omega) hi
    unfold z_M_run_66
    by_cases c7 : (itm (Q.2.1 (mp m)) (mk m)).1 < 7
    · rw [if_pos c7]
      obtain ⟨d1, d2, d3⟩ := r_doItem (N := N) hG hmv hT hs h ck c7
      refine ⟨fun c => ?_, fun c e => ?_, fun c e => ?_⟩
      · obtain ⟨B, b1, b2, b3⟩ := d1 c
        rw [b1, zbI_s]
        exact ⟨_, _, B, rfl, b2, b3⟩
      · obtain ⟨e1, e2, B, b1, b2, b3⟩ := d2 c e
        rw [b1, zbI_s, wk1]
        rw [e1, e2]
        exact ⟨B, rfl, b2, b3⟩
      · obtain ⟨B, b1, b2, b3⟩ := d3 c e
        rw [b1, zbI_s]
        exact ⟨_, _, B, rfl, b2, b3⟩
    rw [if_neg c7, if_neg (show ¬ (itm (Q.2.1 (mp m)) (mk m)).1 = 99 by omega)]
    rw [if_neg (by omega), if_neg (by omega), if_neg (by omega), if_neg (by omega), if_neg (by omega), if_neg (by omega), if_neg (by omega)] at hsp
    by_cases e7 : (itm (Q.2.1 (mp m)) (mk m)).1 = 7
    · rw [if_pos e7] at hsp
      have o5 := o5 e7
      have r1 : 0 ≤ ig (itm (Q.2.1 (mp m)) (mk m)) 1 ∧ ig (itm (Q.2.1 (mp m)) (mk m)) 1 < Q.2.2 (mp m) := (o3 0 (by rw [e7]; decide)).2.2 (by unfold isr; omega)
      have k1 : z_M_field N 0 (mp m) (mk m) 1 A = some (ig (itm (Q.2.1 (mp m)) (mk m)) 1) := kn (fr.refl _ _) 0 (by rw [e7]; decide)
      have rr : z_M_read N (ig (itm (Q.2.1 (mp m)) (mk m)) 1) A = some (mget m (ig (itm (Q.2.1 (mp m)) (mk m)) 1)) := rm_read h (by omega) r1.1 (by omega)
      have hv : zw (mget m (ig (itm (Q.2.1 (mp m)) (mk m)) 1)) = mget m (ig (itm (Q.2.1 (mp m)) (mk m)) 1) := rm_rg h (by omega) r1.1 (by omega)
      have hb3 : z_M_burn N 3 T A = _ := hb 3 (by decide)
      rw [if_pos e7, k1, zbP_s, rr, zbP_s, hb3]
      -- entering, from a state with the count done
      have ent : ∀ (t : Nat) (x4 : Int), t ≤ 3000 → s ≤ t → ∃ B, z_M_run_199 (z_M_run_34_l N f) N T (mp m) (mk m) (mget m (ig (itm (Q.2.1 (mp m)) (mk m)) 1)) x4 (zsi A 226 93 (t : Int)) = z_M_run_34_l N f T (ig (itm (Q.2.1 (mp m)) (mk m)) 2) 0 x4 B ∧ RMs Q inp ic B (men m (ig (itm (Q.2.1 (mp m)) (mk m)) 2).toNat (mget m (ig (itm (Q.2.1 (mp m)) (mk m)) 1))) t ∧ RRs B t (mou m) ∧ fr qRn A B := fun t x4 ht hst => by
        have hS := h.st hQ hst ht
        have hR := h.rs ht
        generalize hA1 : zsi A 226 93 (t : Int) = A1 at *
        have fA1 : fr qRn A A1 := by rw [← hA1]; exact f93
        unfold z_M_run_199 z_M_run_237
        have l62 := hS.2.2.2.2.2.2.1
        rw [l62, zwr_ok (by omega) (by omega), zi_rs_o (by decide), l62, zwr_ok (by omega) (by omega), zlet_s, zi_rs_o (by decide), zi_rs_o (by decide), l62]
        have f2 : fr (fun a j => ((a = 269 ∨ a = 270) ∧ j = mlv m) ∨ (a = 226 ∧ j = 62)) A1 (zsi (rs (rs A1 269 (mlv m : Int) (mp m : Int)) 270 (mlv m : Int) ((mk m : Int) + 1)) 226 62 ((mlv m : Int) + 1)) := ((fr_rs (Or.inl ⟨Or.inl rfl, by omega⟩)).trans (fr_rs (Or.inl ⟨Or.inr rfl, by omega⟩))).trans (fr_si (Or.inr ⟨rfl, rfl⟩))
        have g62 : zi (zsi (rs (rs A1 269 (mlv m : Int) (mp m : Int)) 270 (mlv m : Int) ((mk m : Int) + 1)) 226 62 ((mlv m : Int) + 1)) 226 62 = ((mlv m + 1 : Nat) : Int) := by rw [zi_si_s, yb_w (by omega) (by omega)]; omega
        have g269 : ri (zsi (rs (rs A1 269 (mlv m : Int) (mp m : Int)) 270 (mlv m : Int) ((mk m : Int) + 1)) 226 62 ((mlv m : Int) + 1)) 269 (mlv m : Int) = mp m := by rw [ri_si_o (by decide), ri_rs_o (by decide), ri_rs_s, yb_w (by omega) (by omega)]
        have g270 : ri (zsi (rs (rs A1 269 (mlv m : Int) (mp m : Int)) 270 (mlv m : Int) ((mk m : Int) + 1)) 226 62 ((mlv m : Int) + 1)) 270 (mlv m : Int) = ((mk m + 1 : Nat) : Int) := by rw [ri_si_o (by decide), ri_rs_s, yb_w (by omega) (by omega)]; omega
        generalize zsi (rs (rs A1 269 (mlv m : Int) (mp m : Int)) 270 (mlv m : Int) ((mk m : Int) + 1)) 226 62 ((mlv m : Int) + 1) = A2 at *
        obtain ⟨C, c1, c2, c3⟩ := r_zero (N := N) (T := T) (r34 := z_M_run_34_l N f) (p := mp m) (k := mk m) (x4 := x4) (arg := mget m (ig (itm (Q.2.1 (mp m)) (mk m)) 1)) (lv := mlv m + 1) (by omega) 54 6 N A2 (by omega) (by omega) g62
        have c1 : z_M_run_237_l (z_M_run_34_l N f) N N T (mp m) (mk m) x4 (mget m (ig (itm (Q.2.1 (mp m)) (mk m)) 1)) 6 A2 = _ := c1
        rw [c1]
        unfold z_M_run_266
        have c62 : zi C 226 62 = ((mlv m + 1 : Nat) : Int) := by rw [c3.i (fun z => by omega)]; exact g62
        rw [c62, zwr_ok (by omega) (by omega)]
        have f4 : fr (fun a j => a = 294 ∧ j = 60 * (mlv m + 1) + 6) C (rs C 294 (60 * ((mlv m + 1 : Nat) : Int) + 6) (mget m (ig (itm (Q.2.1 (mp m)) (mk m)) 1))) := fr_rs ⟨rfl, by omega⟩
        have v6 : ∀ r : Nat, 6 ≤ r → r < 60 → ri (rs C 294 (60 * ((mlv m + 1 : Nat) : Int) + 6) (mget m (ig (itm (Q.2.1 (mp m)) (mk m)) 1))) 294 (60 * ((mlv m + 1 : Nat) : Int) + r) = if r = 6 then mget m (ig (itm (Q.2.1 (mp m)) (mk m)) 1) else 0 := fun r a b => by
          rw [ri_rs (by omega) (by omega)]
          by_cases e : r = 6
          · rw [if_pos (by omega), if_pos e]; exact hv
          · rw [if_neg (by omega), if_neg e]; exact c2 r a b
        have ff : fr (fun a j => ((a = 269 ∨ a = 270) ∧ j = mlv m) ∨ (a = 226 ∧ j = 62) ∨ (a = 294 ∧ 60 * (mlv m + 1) ≤ j)) A1 (rs C 294 (60 * ((mlv m + 1 : Nat) : Int) + 6) (mget m (ig (itm (Q.2.1 (mp m)) (mk m)) 1))) := ((f2.mono (fun a j z => by omega)).trans (c3.mono (fun a j z => by omega))).trans (f4.mono (fun a j z => by omega))
        have k269 : ri (rs C 294 (60 * ((mlv m + 1 : Nat) : Int) + 6) (mget m (ig (itm (Q.2.1 (mp m)) (mk m)) 1))) 269 (mlv m : Int) = mp m := by rw [ri_rs_o (by decide), c3.e (fun z => by omega)]; exact g269
        have k270 : ri (rs C 294 (60 * ((mlv m + 1 : Nat) : Int) + 6) (mget m (ig (itm (Q.2.1 (mp m)) (mk m)) 1))) 270 (mlv m : Int) = ((mk m + 1 : Nat) : Int) := by rw [ri_rs_o (by decide), c3.e (fun z => by omega)]; exact g270
        have k62 : zi (rs C 294 (60 * ((mlv m + 1 : Nat) : Int) + 6) (mget m (ig (itm (Q.2.1 (mp m)) (mk m)) 1))) 226 62 = ((mlv m + 1 : Nat) : Int) := by rw [zi_rs_o (by decide)]; exact c62
        generalize rs C 294 (60 * ((mlv m + 1 : Nat) : Int) + 6) (mget m (ig (itm (Q.2.1 (mp m)) (mk m)) 1)) = D at *
        have fq : fr qRn A1 D := ff.mono (fun a j z => by unfold qRn; omega)
        have k2 : z_M_field N 0 (mp m) (mk m) 2 D = some (ig (itm (Q.2.1 (mp m)) (mk m)) 2) := kn (fA1.trans fq) 1 (by rw [e7]; decide)
        rw [k2, zbP_s]
        obtain ⟨h1, h2, h3, h4, h5, h6, h7', h8, h9⟩ := hS
        refine ⟨D, rfl, ⟨h1.fr hQ fq, fun r hr => by rw [ff.e (fun z => by omega)]; exact h2 r hr, fun l r a b c => ?_, fun j hj => by rw [ff.e (fun z => by omega)]; exact h4 j hj, ⟨by rw [ff.i (fun z => by omega)]; exact h5.1, fun i hi => by rw [ff.e (fun z => by omega)]; exact h5.2 i hi⟩, ⟨by rw [ff.i (fun z => by omega)]; exact h6.1, h6.2⟩, k62, fun l hl => ?_, by rw [ff.i (fun z => by omega)]; exact h9⟩, hR.fr ff (fun z => by omega) (fun z => by omega) (fun j z => by omega), fA1.trans fq⟩
        · have a : l ≤ mlv m + 1 := a
          show ri D 294 (60 * (l : Int) + r) = (if l = mlv m + 1 then (fun r => if r = 6 then mget m (ig (itm (Q.2.1 (mp m)) (mk m)) 1) else 0) else mfr m l) r
          by_cases e : l = mlv m + 1
          · rw [if_pos e, e]; exact v6 r b c
          · rw [if_neg e, ff.e (fun z => by omega)]; exact h3 l r (by omega) b c
        · have hl : l < mlv m + 1 := hl
          show ri D 269 (l : Int) = ((if l = mlv m then (mp m, mk m + 1) else mrt m l).1 : Nat) ∧ ri D 270 (l : Int) = ((if l = mlv m then (mp m, mk m + 1) else mrt m l).2 : Nat)
          by_cases e : l = mlv m
          · rw [if_pos e, e]; exact ⟨k269, k270⟩
          · rw [if_neg e, ff.e (fun z => by omega), ff.e (fun z => by omega)]; exact h8 l (by omega)
      by_cases cb : T < s + 3
      · rw [if_pos cb, zbI_s, if_pos rfl]
        obtain ⟨B, b1, b2, b3, b4⟩ := ent T 3 (by omega) hs
        rw [b1]
        exact RStp.go hsp (fun _ => ⟨_, _, B, rfl, b3, b4⟩) (fun c => absurd cb c)
      · rw [if_neg cb, zbI_s, if_neg (by decide)]
        obtain ⟨B, b1, b2, b3, b4⟩ := ent (s + 3) (-1) (by omega) (by omega)
        rw [b1]
        refine RStp.go hsp (fun c => absurd c cb) (fun c => ⟨B, ?_, b2, b4⟩)
        show _ = z_M_run_34_l N f T (((ig (itm (Q.2.1 (mp m)) (mk m)) 2).toNat : Nat) : Int) ((0 : Nat) : Int) (-1) B
        rw [show (((ig (itm (Q.2.1 (mp m)) (mk m)) 2).toNat : Nat) : Int) = ig (itm (Q.2.1 (mp m)) (mk m)) 2 by omega]
        rfl
    rw [if_neg e7] at hsp
    rw [if_neg e7, zrd_ok (by omega) (by omega), hmt _ ck (by omega)]
    have sB : ∀ t : Nat, s ≤ t → t ≤ 3000 → RMs Q inp ic (zsi A 226 93 (t : Int)) m t := fun t a b => h.st hQ a b
    by_cases c8 : (itm (Q.2.1 (mp m)) (mk m)).1 = 8 ∨ (itm (Q.2.1 (mp m)) (mk m)).1 = 11
    · rw [if_pos c8] at hsp
      have hmlt : mtL (Q.2.1 (mp m)) (mk m) < (Q.2.1 (mp m)).length := by
        rcases c8 with c | c
        · have := pt.1 c; omega
        · have := pt.2.2.2.1 c; omega
      have r1 : 0 ≤ ig (itm (Q.2.1 (mp m)) (mk m)) 1 ∧ ig (itm (Q.2.1 (mp m)) (mk m)) 1 < Q.2.2 (mp m) := (o3 0 (by rcases c8 with c | c <;> rw [c] <;> decide)).2.2 (by unfold isr; omega)
      have e330 : (if (itm (Q.2.1 (mp m)) (mk m)).1 = 8 then z_M_run_330 (z_M_run_34_l N f) N T (mp m) (mk m) (itm (Q.2.1 (mp m)) (mk m)).1 (mtL (Q.2.1 (mp m)) (mk m) : Int) 1 A else (if (itm (Q.2.1 (mp m)) (mk m)).1 = 11 then z_M_run_330 (z_M_run_34_l N f) N T (mp m) (mk m) (itm (Q.2.1 (mp m)) (mk m)).1 (mtL (Q.2.1 (mp m)) (mk m) : Int) 1 A else z_M_run_330 (z_M_run_34_l N f) N T (mp m) (mk m) (itm (Q.2.1 (mp m)) (mk m)).1 (mtL (Q.2.1 (mp m)) (mk m) : Int) 0 A)) = z_M_run_330 (z_M_run_34_l N f) N T (mp m) (mk m) (itm (Q.2.1 (mp m)) (mk m)).1 (mtL (Q.2.1 (mp m)) (mk m) : Int) 1 A := by
        rcases c8 with c | c
        · rw [if_pos c]
        · rw [if_neg (by omega), if_pos c]
      rw [e330]
      unfold z_M_run_330 z_M_run_358 z_M_run_387
      have hb2 : z_M_burn N 2 T A = _ := hb 2 (by decide)
      rw [if_neg (show ¬ (itm (Q.2.1 (mp m)) (mk m)).1 = 12 by omega), if_neg (by decide), hb2]
      have tail : ∀ (t : Nat) (x4 : Int), s ≤ t → t ≤ 3000 → z_M_run_399 (z_M_run_34_l N f) N T (mp m) (mk m) (itm (Q.2.1 (mp m)) (mk m)).1 (mtL (Q.2.1 (mp m)) (mk m) : Int) 1 0 x4 (zsi A 226 93 (t : Int)) = z_M_run_34_l N f T (mp m) ((if mget m (ig (itm (Q.2.1 (mp m)) (mk m)) 1) = 0 then mtL (Q.2.1 (mp m)) (mk m) + 1 else mk m + 1 : Nat) : Int) x4 (zsi A 226 93 (t : Int)) := fun t x4 ht1 ht2 => by
        unfold z_M_run_399
        have k1 : z_M_field N 0 (mp m) (mk m) 1 (zsi A 226 93 (t : Int)) = some (ig (itm (Q.2.1 (mp m)) (mk m)) 1) := kn f93 0 (by rcases c8 with c | c <;> rw [c] <;> decide)
        have rr : z_M_read N (ig (itm (Q.2.1 (mp m)) (mk m)) 1) (zsi A 226 93 (t : Int)) = some (mget m (ig (itm (Q.2.1 (mp m)) (mk m)) 1)) := rm_read (sB t ht1 ht2) (by omega) r1.1 (by omega)
        rw [if_neg (by decide), k1, zbP_s, rr, zbP_s]
        by_cases c : mget m (ig (itm (Q.2.1 (mp m)) (mk m)) 1) = 0
        · rw [if_pos c, if_pos c, show zw ((mtL (Q.2.1 (mp m)) (mk m) : Int) + 1) = ((mtL (Q.2.1 (mp m)) (mk m) + 1 : Nat) : Int) by rw [yb_w (by omega) (by omega)]; omega]
        · rw [if_neg c, if_neg c, wk1]
      by_cases cb : T < s + 2
      · rw [if_pos cb, zbI_s, if_pos rfl, tail T 3 hs (by omega)]
        exact RStp.go hsp (fun _ => ⟨_, _, _, rfl, h.rs (by omega), f93⟩) (fun c => absurd cb c)
      · rw [if_neg cb, zbI_s, if_neg (by decide), tail (s + 2) (-1) (by omega) (by omega)]
        exact RStp.go hsp (fun c => absurd c cb) (fun _ => ⟨_, rfl, sB (s + 2) (by omega) (by omega), f93⟩)
    rw [if_neg c8] at hsp
    rw [if_neg (show ¬ (itm (Q.2.1 (mp m)) (mk m)).1 = 8 by omega), if_neg (show ¬ (itm (Q.2.1 (mp m)) (mk m)).1 = 11 by omega)]
    by_cases c9 : (itm (Q.2.1 (mp m)) (mk m)).1 = 9
    · rw [if_pos c9] at hsp
      unfold z_M_run_330 z_M_run_358 z_M_run_387
      have hb1 : z_M_burn N 1 T A = _ := hb 1 (by decide)
      rw [if_neg (show ¬ (itm (Q.2.1 (mp m)) (mk m)).1 = 12 by omega), if_pos rfl, if_pos c9, hb1]
      have tail : ∀ (x4 : Int) (C : zA), z_M_run_399 (z_M_run_34_l N f) N T (mp m) (mk m) (itm (Q.2.1 (mp m)) (mk m)).1 (mtL (Q.2.1 (mp m)) (mk m) : Int) 0 0 x4 C = z_M_run_34_l N f T (mp m) (mtL (Q.2.1 (mp m)) (mk m) : Int) x4 C := fun x4 C => by
        unfold z_M_run_399
        rw [if_pos rfl, if_pos c9]
      by_cases cb : T < s + 1
      · rw [if_pos cb, zbI_s, if_pos rfl, tail]
        exact RStp.go hsp (fun _ => ⟨_, _, _, rfl, h.rs (by omega), f93⟩) (fun c => absurd cb c)
      · rw [if_neg cb, zbI_s, if_neg (by decide), tail]
        exact RStp.go hsp (fun c => absurd c cb) (fun _ => ⟨_, rfl, sB (s + 1) (by omega) (by omega), f93⟩)
    rw [if_neg c9] at hsp
    have hb0 : z_M_burn N 0 T A = _ := hb 0 (by decide)
    have nob : ¬ T < s + 0 := by omega
    have z0 : z_M_run_387 (z_M_run_34_l N f) N T (mp m) (mk m) (itm (Q.2.1 (mp m)) (mk m)).1 (mtL (Q.2.1 (mp m)) (mk m) : Int) 0 0 0 A = z_M_run_34_l N f T (mp m) ((mk m + 1 : Nat) : Int) (-1) (zsi A 226 93 ((s + 0 : Nat) : Int)) := by
      unfold z_M_run_387 z_M_run_399
      rw [hb0, if_neg nob, zbI_s, if_neg (by decide), if_pos rfl, if_neg c9, if_pos rfl, wk1]
    by_cases c12 : (itm (Q.2.1 (mp m)) (mk m)).1 = 12
    · rw [if_pos c12] at hsp
      have t := pt.2.2.2.2 c12
      have km : z_M_field N 0 (mp m) (mtL (Q.2.1 (mp m)) (mk m) : Nat) 0 A = some (itm (Q.2.1 (mp m)) (mtL (Q.2.1 (mp m)) (mk m))).1 := rp_kind (z := 0) (by decide) (by omega) (by omega) hx (by omega) (by omega)
      unfold z_M_run_330
      rw [if_pos c12, km, zbP_s]
      unfold z_M_run_358
      rw [if_pos rfl, if_neg c9]
      by_cases cm : (itm (Q.2.1 (mp m)) (mtL (Q.2.1 (mp m)) (mk m))).1 = 10
      · rw [if_pos cm] at hsp
        rw [if_pos cm, if_neg (by decide)]
        unfold z_M_run_387
        have hb1 : z_M_burn N 1 T A = _ := hb 1 (by decide)
        rw [hb1]
        have tail : ∀ (x4 : Int) (C : zA), z_M_run_399 (z_M_run_34_l N f) N T (mp m) (mk m) (itm (Q.2.1 (mp m)) (mk m)).1 (mtL (Q.2.1 (mp m)) (mk m) : Int) 0 1 x4 C = z_M_run_34_l N f T (mp m) (mtL (Q.2.1 (mp m)) (mk m) : Int) x4 C := fun x4 C => by
          unfold z_M_run_399
          rw [if_pos rfl, if_neg c9, if_neg (by decide)]
        by_cases cb : T < s + 1
        · rw [if_pos cb, zbI_s, if_pos rfl, tail]
          exact RStp.go hsp (fun _ => ⟨_, _, _, rfl, h.rs (by omega), f93⟩) (fun c => absurd cb c)
        · rw [if_neg cb, zbI_s, if_neg (by decide), tail]
          exact RStp.go hsp (fun c => absurd c cb) (fun _ => ⟨_, rfl, sB (s + 1) (by omega) (by omega), f93⟩)
      · rw [if_neg cm] at hsp
        rw [if_neg cm, if_pos rfl, if_neg c9, if_pos rfl, z0]
        exact RStp.go hsp (fun c => absurd c nob) (fun _ => ⟨_, rfl, sB (s + 0) (by omega) (by omega), f93⟩)
    · rw [if_neg c12] at hsp
      unfold z_M_run_330 z_M_run_358
      rw [if_neg c12, if_pos rfl, if_neg c9, if_pos rfl, z0]
      exact RStp.go hsp (fun c => absurd c nob) (fun _ => ⟨_, rfl, sB (s + 0) (by omega) (by omega), f93⟩)
  · rw [if_neg ck] at hsp
    rw [if_neg (show ¬ (mk m : Int) < ((Q.2.1 (mp m)).length : Int) by omega)]
    unfold z_M_run_66
    have hb1 : z_M_burn N 1 T A = _ := hb 1 (by decide)
    rw [if_neg (by decide), if_pos rfl, hb1]
    have lf : ∀ (t : Nat) (x4 : Int), s ≤ t → t ≤ 3000 → ∃ p k B, z_M_run_122 (z_M_run_34_l N f) N T (mp m) (mk m) x4 (zsi A 226 93 (t : Int)) = z_M_run_34_l N f T p k x4 B ∧ RRs B t (mou m) ∧ fr qRn A B ∧ (mlv m ≠ 0 → RMs Q inp ic B (mlf m) t ∧ p = ((mrt m (mlv m - 1)).1 : Nat) ∧ k = ((mrt m (mlv m - 1)).2 : Nat)) := fun t x4 ht1 ht2 => by
      have hS := h.st hQ ht1 ht2
      have hR := h.rs ht2
      unfold z_M_run_122
      have l62 := hS.2.2.2.2.2.2.1
      generalize hA1 : zsi A 226 93 (t : Int) = A1 at *
      have fA1 : fr qRn A A1 := by rw [← hA1]; exact f93
      rw [l62]
      by_cases c0 : mlv m = 0
      · rw [if_neg (by omega)]
        exact ⟨_, _, A1, rfl, hR, fA1, fun z => absurd c0 z⟩
      · rw [if_pos (by omega), zlet_s]
        have f2 : fr (fun a j => a = 226 ∧ j = 62) A1 (zsi A1 226 62 ((mlv m : Int) - 1)) := fr_si ⟨rfl, rfl⟩
        have g62 : zi (zsi A1 226 62 ((mlv m : Int) - 1)) 226 62 = ((mlv m - 1 : Nat) : Int) := by rw [zi_si_s, yb_w (by omega) (by omega)]; omega
        have g8 := hS.2.2.2.2.2.2.2.1 (mlv m - 1) (by omega)
        rw [g62, zrd_ok (by omega) (by omega), zrd_ok (by omega) (by omega), f2.e (fun z => by omega), f2.e (fun z => by omega), g8.1, g8.2]
        have fq : fr qRn A1 (zsi A1 226 62 ((mlv m : Int) - 1)) := f2.mono (fun a j z => Or.inl ⟨z.1, by omega⟩)
        obtain ⟨h1, h2, h3, h4, h5, h6, h7', h8, h9⟩ := hS
        exact ⟨_, _, _, rfl, hR.fr f2 (fun z => by omega) (fun z => by omega) (fun j z => by omega), fA1.trans fq, fun _ => ⟨⟨h1.fr hQ fq, fun r hr => by rw [f2.e (fun z => by omega)]; exact h2 r hr, fun l r a b c => by rw [f2.e (fun z => by omega)]; exact h3 l r (by have a : l ≤ mlv m - 1 := a; omega) b c, fun j hj => by rw [f2.e (fun z => by omega)]; exact h4 j hj, ⟨by rw [f2.i (fun z => by omega)]; exact h5.1, fun i hi => by rw [f2.e (fun z => by omega)]; exact h5.2 i hi⟩, ⟨by rw [f2.i (fun z => by omega)]; exact h6.1, h6.2⟩, g62, fun l hl => by rw [f2.e (fun z => by omega), f2.e (fun z => by omega)]; exact h8 l (by have hl : l < mlv m - 1 := hl; omega), by rw [f2.i (fun z => by omega)]; exact h9⟩, rfl, rfl⟩⟩
    by_cases cb : T < s + 1
    · rw [if_pos cb, zbI_s, if_pos rfl]
      obtain ⟨p, k, B, b1, b2, b3, -⟩ := lf T 3 hs (by omega)
      rw [b1]
      by_cases c0 : mlv m = 0
      · rw [if_pos c0] at hsp
        exact RStp.stop hsp (by decide) (fun _ => ⟨p, k, B, rfl, b2, b3⟩) (fun c => absurd cb c)
      · rw [if_neg c0] at hsp
        exact RStp.go hsp (fun _ => ⟨p, k, B, rfl, b2, b3⟩) (fun c => absurd cb c)
    · rw [if_neg cb, zbI_s, if_neg (by decide)]
      have l62 : zi (zsi A 226 93 ((s + 1 : Nat) : Int)) 226 62 = mlv m := by rw [zi_si_j (by decide)]; exact h62
      rw [l62]
      by_cases c0 : mlv m = 0
      · rw [if_pos c0] at hsp
        rw [if_pos (show (mlv m : Int) = 0 by omega)]
        obtain ⟨p, k, B, b1, b2, b3, -⟩ := lf (s + 1) 0 (by omega) (by omega)
        rw [b1]
        exact RStp.stop hsp (by decide) (fun c => absurd c cb) (fun _ => ⟨p, k, B, rfl, b2, b3⟩)
      · rw [if_neg c0] at hsp
        rw [if_neg (show ¬ (mlv m : Int) = 0 by omega)]
        obtain ⟨p, k, B, b1, b2, b3, b4⟩ := lf (s + 1) (-1) (by omega) (by omega)
        obtain ⟨b5, rfl, rfl⟩ := b4 c0
        rw [b1]
        exact RStp.go hsp (fun c => absurd c cb) (fun _ => ⟨B, rfl, b5, b3⟩)
end
