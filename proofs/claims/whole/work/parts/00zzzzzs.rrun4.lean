/-! RUN of the reference: from beginning to end -/
section
variable {N : Nat} {A B : zA} {Q : Pr} {inp : Nat → Int} {ic T s : Nat} {m : Ms}
theorem isp_pos (h : (isp Q inp ic m).2.2.1 ≠ -1) : 0 ≤ (isp Q inp ic m).2.2.1 := by
  unfold isp at h ⊢
  by_cases ck : mk m < (Q.2.1 (mp m)).length
  · rw [if_pos ck] at h ⊢
    generalize itm (Q.2.1 (mp m)) (mk m) = i at *
    by_cases c0 : i.1 = 0
    · rw [if_pos c0] at h; exact absurd rfl h
    rw [if_neg c0] at h ⊢
    by_cases c1 : i.1 = 1
    · rw [if_pos c1] at h; exact absurd rfl h
    rw [if_neg c1] at h ⊢
    by_cases c2 : i.1 = 2
    · rw [if_pos c2] at h ⊢
      by_cases cz : ig i 4 = 3 ∧ mget m (ig i 3) = 0
      · rw [if_pos cz]; exact (by decide : (0 : Int) ≤ 1)
      · rw [if_neg cz] at h; exact absurd rfl h
    rw [if_neg c2] at h ⊢
    by_cases c3 : i.1 = 3
    · rw [if_pos c3] at h ⊢
      by_cases cz : mget m (ig i 2) < 0 ∨ 7 < mget m (ig i 2)
      · rw [if_pos cz]; exact (by decide : (0 : Int) ≤ 2)
      · rw [if_neg cz] at h; exact absurd rfl h
    rw [if_neg c3] at h ⊢
    by_cases c4 : i.1 = 4
    · rw [if_pos c4] at h ⊢
      by_cases cz : mget m (ig i 1) < 0 ∨ 7 < mget m (ig i 1)
      · rw [if_pos cz]; exact (by decide : (0 : Int) ≤ 2)
      · rw [if_neg cz] at h; exact absurd rfl h
    rw [if_neg c4] at h ⊢
    by_cases c5 : i.1 = 5
    · rw [if_pos c5] at h; exact absurd rfl h
    rw [if_neg c5] at h ⊢
    by_cases c6 : i.1 = 6
    · rw [if_pos c6] at h ⊢
      by_cases cz : (mou m).length = 40
      · rw [if_pos cz]; exact (by decide : (0 : Int) ≤ 4)
      · rw [if_neg cz] at h; exact absurd rfl h
    rw [if_neg c6] at h ⊢
    by_cases c7 : i.1 = 7
    · rw [if_pos c7] at h; exact absurd rfl h
    rw [if_neg c7] at h ⊢
    by_cases c8 : i.1 = 8 ∨ i.1 = 11
    · rw [if_pos c8] at h; exact absurd rfl h
    rw [if_neg c8] at h ⊢
    by_cases c9 : i.1 = 9
    · rw [if_pos c9] at h; exact absurd rfl h
    rw [if_neg c9] at h ⊢
    by_cases c12 : i.1 = 12
    · rw [if_pos c12] at h
      by_cases cz : (itm (Q.2.1 (mp m)) (mtL (Q.2.1 (mp m)) (mk m))).1 = 10
      · rw [if_pos cz] at h; exact absurd rfl h
      · rw [if_neg cz] at h; exact absurd rfl h
    · rw [if_neg c12] at h; exact absurd rfl h
  · rw [if_neg ck] at h ⊢
    by_cases cl : mlv m = 0
    · rw [if_pos cl]; exact (by decide : (0 : Int) ≤ 0)
    · rw [if_neg cl] at h; exact absurd rfl h
theorem r34_end {f : Nat} {p k c : Int} (hc : 0 ≤ c) (hf : 1 ≤ f) : z_M_run_34_l N f T p k c A = some (c, A) := by
  obtain ⟨g, rfl⟩ : ∃ g, f = g + 1 := ⟨f - 1, by omega⟩
  unfold z_M_run_34_l z_M_run_34_b
  rw [if_neg (by omega)]
theorem r_rloop (hN : 300000 ≤ N) (hG : GQ Q) (hT : T ≤ 2000) {c : Int} {t : Nat} {ou : List Int} : ∀ (n f s : Nat) (m : Ms) (A : zA), n < f → MV Q m → s ≤ T → RMs Q inp ic A m s → arun Q inp ic T n s m = some (c, t, ou) → ∃ B, z_M_run_34_l N f T (mp m) (mk m) (-1) A = some (c, B) ∧ RRs B t ou ∧ fr qRn A B
  | 0, f, s, m, A, hf, hm, hs, h, ha => by cases ha
  | n + 1, f + 1, s, m, A, hf, hm, hs, h, ha => by
    obtain ⟨k1, k2, k3⟩ := r_rstep (N := N) (f := f) hN hG hm hT hs h
    have ha : (if T < s + (isp Q inp ic m).1 then some (3, T, mou m) else if (isp Q inp ic m).2.2.1 = -1 then arun Q inp ic T n (s + (isp Q inp ic m).2.1) (isp Q inp ic m).2.2.2 else some ((isp Q inp ic m).2.2.1, s + (isp Q inp ic m).2.1, mou m)) = some (c, t, ou) := ha
    by_cases c1 : T < s + (isp Q inp ic m).1
    · rw [if_pos c1] at ha
      cases ha
      obtain ⟨p, k, B, b1, b2, b3⟩ := k1 c1
      rw [b1, r34_end (by decide) (by omega)]
      exact ⟨B, rfl, b2, b3⟩
    rw [if_neg c1] at ha
    by_cases c2 : (isp Q inp ic m).2.2.1 = -1
    · rw [if_pos c2] at ha
      obtain ⟨B, b1, b2, b3⟩ := k2 c1 c2
      obtain ⟨g1, g2, -⟩ := isp_ok hG hm c2
      obtain ⟨C, d1, d2, d3⟩ := r_rloop hN hG hT n f _ _ B (by omega) g1 (by omega) b2 ha
      rw [b1, d1]
      exact ⟨C, rfl, d2, b3.trans d3⟩
    · rw [if_neg c2] at ha
      obtain ⟨p, k, B, b1, b2, b3⟩ := k3 c1 c2
      cases ha
      rw [b1, r34_end (isp_pos c2) (by omega)]
      exact ⟨B, rfl, b2, b3⟩
/-- at the beginning -/
def m00 : Ms := (fun _ => 0, fun _ _ => 0, fun _ => 0, [], 0, 0, fun _ => (0, 0), 3, 0)
theorem MV_00 : MV Q m00 := ⟨Or.inr rfl, Nat.zero_le _, by decide, fun l hl => absurd hl (Nat.not_lt_zero l), by decide⟩
def qBg (a j : Nat) : Prop := qRn a j ∨ a = 231 ∨ a = 233
theorem r_bg_m (hN : 300000 ≤ N) (hG : GQ Q) : ∀ (r p f : Nat) (A : zA), p + r = 4 → r < f → RRw Q A → (∀ q, q < p → exP Q q → ∀ k : Nat, k < (Q.2.1 q).length → 8 ≤ (itm (Q.2.1 q) k).1 → ri A 231 (240 * q + k) = mtL (Q.2.1 q) k) → ∃ B, z_M_begin_85_l N f p A = some B ∧ RRw Q B ∧ (∀ q, exP Q q → ∀ k : Nat, k < (Q.2.1 q).length → 8 ≤ (itm (Q.2.1 q) k).1 → ri B 231 (240 * q + k) = mtL (Q.2.1 q) k) ∧ fr (fun a _ => a = 231 ∨ a = 233) A B
  | 0, p, f + 1, A, h1, h2, hR, hd => by
    unfold z_M_begin_85_l z_M_begin_85_b
    rw [if_neg (by omega)]
    exact ⟨A, rfl, hR, fun q hq => hd q (by have := exP3 hG.1 hq; omega) hq, fr.refl _ _⟩
  | r + 1, p, f + 1, A, h1, h2, hR, hd => by
    have wp : zw ((p : Int) + 1) = ((p + 1 : Nat) : Int) := by rw [yb_w (by omega) (by omega)]; omega
    unfold z_M_begin_85_l z_M_begin_85_b
    rw [if_pos (by omega), r_isThere (Q := Q) hR.2, zbP_s, wp]
    by_cases c : p < Q.1 ∨ p = 3
    · have hl := (hG.1.2 p c).2.2.1
      rw [if_pos c, if_neg (by decide)]
      obtain ⟨C, c1, c2, c3⟩ := r_matchL (N := N) (z := 0) (p := p) (r := p) hN (by decide) (by omega) (by omega) (hR.1 p c) (by omega) (hG.n.2.1 p c)
      have c1 : z_M_match N 0 p A = some C := c1
      rw [c1, zbV_s]
      have fq : fr qBd A C := c3.mono (fun a j z => by unfold qBd; omega)
      obtain ⟨B, b1, b2, b3, b4⟩ := r_bg_m hN hG r (p + 1) f C (by omega) (by omega) (hR.fr hG.1 fq) (fun q hq hq' k hk k8 => by
        have hlq := (hG.1.2 q hq').2.2.1
        by_cases e : q = p
        · rw [e] at hk k8 ⊢; exact c2 k hk k8
        · rw [c3.e (fun z => by omega)]; exact hd q (by omega) hq' k hk k8)
      exact ⟨B, b1, b2, b3, (c3.mono (fun a j z => by omega)).trans b4⟩
    · rw [if_neg c, if_pos rfl]
      exact r_bg_m hN hG r (p + 1) f A (by omega) (by omega) hR (fun q hq hq' => hd q (by
        rcases Nat.lt_or_ge q p with z | z
        · exact z
        · have : q = p := by omega
          rw [this] at hq'
          exact absurd hq' c) hq')
/-- three rows of zeros -/
theorem r_bg64 : ∀ (r j f : Nat) (A : zA), j + r = 8 → r < f → ∃ B, z_M_begin_64_l N f j A = z_M_begin_85 N 0 B ∧ (∀ i : Nat, j ≤ i → i < 8 → ri B 292 i = 0) ∧ fr (fun a i => a = 292 ∧ j ≤ i) A B
  | 0, j, f + 1, A, h1, h2 => by
    unfold z_M_begin_64_l z_M_begin_64_b
    rw [if_neg (by omega)]
    exact ⟨A, rfl, fun i a b => by omega, fr.refl _ _⟩
  | r + 1, j, f + 1, A, h1, h2 => by
    unfold z_M_begin_64_l z_M_begin_64_b
    rw [if_pos (by omega), zwr_ok (by omega) (by omega), show zw ((j : Int) + 1) = ((j + 1 : Nat) : Int) by rw [yb_w (by omega) (by omega)]; omega]
    obtain ⟨B, b1, b2, b3⟩ := r_bg64 r (j + 1) f (rs A 292 (j : Int) 0) (by omega) (by omega)
    refine ⟨B, b1, fun i a b => ?_, (fr_rs ⟨rfl, by omega⟩).trans (b3.mono (fun a i z => ⟨z.1, by omega⟩))⟩
    by_cases e : i = j
    · rw [b3.e (fun z => by omega), ri_rs (by omega) (by omega), if_pos (by omega)]
      decide
    · exact b2 i (by omega) b
theorem r_bg43 : ∀ (r j f : Nat) (A : zA), j + r = 60 → r < f → ∃ B, z_M_begin_43_l N f j A = z_M_begin_64 N 0 B ∧ (∀ i : Nat, j ≤ i → i < 60 → ri B 294 i = 0) ∧ fr (fun a i => a = 294 ∧ j ≤ i) A B
  | 0, j, f + 1, A, h1, h2 => by
    unfold z_M_begin_43_l z_M_begin_43_b
    rw [if_neg (by omega)]
    exact ⟨A, rfl, fun i a b => by omega, fr.refl _ _⟩
  | r + 1, j, f + 1, A, h1, h2 => by
    unfold z_M_begin_43_l z_M_begin_43_b
    rw [if_pos (by omega), zwr_ok (by omega) (by omega), show zw ((j : Int) + 1) = ((j + 1 : Nat) : Int) by rw [yb_w (by omega) (by omega)]; omega]
    obtain ⟨B, b1, b2, b3⟩ := r_bg43 r (j + 1) f (rs A 294 (j : Int) 0) (by omega) (by omega)
    refine ⟨B, b1, fun i a b => ?_, (fr_rs ⟨rfl, by omega⟩).trans (b3.mono (fun a i z => ⟨z.1, by omega⟩))⟩
    by_cases e : i = j
    · rw [b3.e (fun z => by omega), ri_rs (by omega) (by omega), if_pos (by omega)]
      decide
    · exact b2 i (by omega) b
theorem r_bg22 : ∀ (r j f : Nat) (A : zA), j + r = 6 → r < f → ∃ B, z_M_begin_22_l N f j A = z_M_begin_43 N 0 B ∧ (∀ i : Nat, j ≤ i → i < 6 → ri B 293 i = 0) ∧ fr (fun a i => a = 293 ∧ j ≤ i) A B
  | 0, j, f + 1, A, h1, h2 => by
    unfold z_M_begin_22_l z_M_begin_22_b
    rw [if_neg (by omega)]
    exact ⟨A, rfl, fun i a b => by omega, fr.refl _ _⟩
  | r + 1, j, f + 1, A, h1, h2 => by
    unfold z_M_begin_22_l z_M_begin_22_b
    rw [if_pos (by omega), zwr_ok (by omega) (by omega), show zw ((j : Int) + 1) = ((j + 1 : Nat) : Int) by rw [yb_w (by omega) (by omega)]; omega]
    obtain ⟨B, b1, b2, b3⟩ := r_bg22 r (j + 1) f (rs A 293 (j : Int) 0) (by omega) (by omega)
    refine ⟨B, b1, fun i a b => ?_, (fr_rs ⟨rfl, by omega⟩).trans (b3.mono (fun a i z => ⟨z.1, by omega⟩))⟩
    by_cases e : i = j
    · rw [b3.e (fun z => by omega), ri_rs (by omega) (by omega), if_pos (by omega)]
      decide
    · exact b2 i (by omega) b
theorem r_begin (hN : 300000 ≤ N) (hG : GQ Q) (hR : RRw Q A) (h10 : zi A 226 10 = ic) (hic : ic ≤ 20) (hin : ∀ i : Nat, i < ic → ri A 232 i = inp i) : ∃ B, z_M_begin N A = some B ∧ RMs Q inp ic B m00 0 ∧ fr qBg A B := by
  unfold z_M_begin
  rw [zlet_s, zlet_s, zlet_s, zlet_s]
  have f0 : fr (fun a j => a = 226 ∧ (j = 62 ∨ j = 92 ∨ j = 93 ∨ j = 94)) A (zsi (zsi (zsi (zsi A 226 92 0) 226 93 0) 226 94 0) 226 62 0) := (((fr_si ⟨rfl, by omega⟩).trans (fr_si ⟨rfl, by omega⟩)).trans (fr_si ⟨rfl, by omega⟩)).trans (fr_si ⟨rfl, by omega⟩)
  have e92 : zi (zsi (zsi (zsi (zsi A 226 92 0) 226 93 0) 226 94 0) 226 62 0) 226 92 = 0 := by rw [zi_si_j (by decide), zi_si_j (by decide), zi_si_j (by decide), zi_si_s]; decide
  have e93 : zi (zsi (zsi (zsi (zsi A 226 92 0) 226 93 0) 226 94 0) 226 62 0) 226 93 = 0 := by rw [zi_si_j (by decide), zi_si_j (by decide), zi_si_s]; decide
  have e94 : zi (zsi (zsi (zsi (zsi A 226 92 0) 226 93 0) 226 94 0) 226 62 0) 226 94 = 0 := by rw [zi_si_j (by decide), zi_si_s]; decide
  have e62 : zi (zsi (zsi (zsi (zsi A 226 92 0) 226 93 0) 226 94 0) 226 62 0) 226 62 = 0 := by rw [zi_si_s]; decide
  generalize zsi (zsi (zsi (zsi A 226 92 0) 226 93 0) 226 94 0) 226 62 0 = A1 at *
  obtain ⟨B, b1, b2, b3⟩ := r_bg22 (N := N) 6 0 N A1 (by omega) (by omega)
  have b1 : z_M_begin_22 N 0 A1 = z_M_begin_43 N 0 B := b1
  obtain ⟨C, c1, c2, c3⟩ := r_bg43 (N := N) 60 0 N B (by omega) (by omega)
  have c1 : z_M_begin_43 N 0 B = z_M_begin_64 N 0 C := c1
  obtain ⟨D, d1, d2, d3⟩ := r_bg64 (N := N) 8 0 N C (by omega) (by omega)
  have d1 : z_M_begin_64 N 0 C = z_M_begin_85 N 0 D := d1
  have fD : fr qRn A D := (((f0.mono (Q' := qRn) (fun a j z => Or.inl ⟨z.1, z.2⟩)).trans (b3.mono (Q' := qRn) (fun a j z => by unfold qRn; omega))).trans (c3.mono (Q' := qRn) (fun a j z => by unfold qRn; omega))).trans (d3.mono (Q' := qRn) (fun a j z => by unfold qRn; omega))
  have hRD : RRw Q D := ⟨fun p hp => (hR.1 p hp).fr (by have := (hG.1.2 p hp).2.2.1; omega) fD (fun a j z y => by unfold qRn at z; unfold qRo at y; omega), by rw [fD.i (fun z => by unfold qRn at z; omega)]; exact hR.2⟩
  obtain ⟨E, e1, e2, e3, e4⟩ := r_bg_m (N := N) hN hG 4 0 N D (by omega) (by omega) hRD (fun q hq => absurd hq (Nat.not_lt_zero q))
  have e1 : z_M_begin_85 N 0 D = some E := e1
  rw [b1, c1, d1, e1]
  have iE : ∀ j, zi E 226 j = zi A1 226 j := fun j => by rw [e4.i (fun z => by omega), d3.i (fun z => by omega), c3.i (fun z => by omega), b3.i (fun z => by omega)]
  refine ⟨E, rfl, ⟨⟨fun p hp => ⟨e2.1 p hp, e3 p hp⟩, ?_, hic, fun i hi => ?_⟩, fun r hr => ?_, fun l r a b c => ?_, fun j hj => ?_, ⟨by rw [iE]; exact e92, fun i hi => absurd hi (Nat.not_lt_zero i)⟩, ⟨by rw [iE]; exact e94, Nat.le_refl _⟩, by rw [iE]; exact e62, fun l hl => absurd hl (Nat.not_lt_zero l), by rw [iE]; exact e93⟩, (fD.mono (fun a j z => Or.inl z)).trans (e4.mono (fun a j z => Or.inr z))⟩
  · rw [iE, f0.i (fun z => by omega)]; exact h10
  · rw [e4.e (fun z => by omega), fD.e (fun z => by unfold qRn at z; omega)]; exact hin i hi
  · rw [e4.e (fun z => by omega), d3.e (fun z => by omega), c3.e (fun z => by omega)]
    exact b2 r (Nat.zero_le _) hr
  · have a : l ≤ 0 := a
    have : l = 0 := by omega
    subst this
    rw [e4.e (fun z => by omega), d3.e (fun z => by omega), show (60 * ((0 : Nat) : Int) + (r : Int)) = (r : Int) by omega]
    exact c2 r (Nat.zero_le _) c
  · rw [e4.e (fun z => by omega)]
    exact d2 j (Nat.zero_le _) hj
/-- what run answers -/
noncomputable def runA (Q : Pr) (inp : Nat → Int) (ic : Nat) (x : Int) : Int × Nat × List Int := (arun Q inp ic x.toNat 500000 0 m00).getD (0, 0, [])
def mayR (x : Int) : Prop := 1 ≤ x ∧ x ≤ 2000
theorem run_ex {x : Int} (hG : GQ Q) (hx : mayR x) : arun Q inp ic x.toNat 500000 0 m00 = some (runA Q inp ic x) := by
  have hl := (hG.1.2 3 (Or.inr rfl)).2.2.1
  unfold mayR at hx
  obtain ⟨r, hr⟩ := arun_ex (inp := inp) (ic := ic) (T := x.toNat) hG 500000 0 m00 MV_00 (Nat.zero_le _) (by
    show (x.toNat - 0) * 200 + ((Q.2.1 3).length - 0) + 1 ≤ 500000
    omega)
  unfold runA
  rw [hr]
  rfl
theorem r_run {x : Int} (hN : 600000 ≤ N) (hG : GQ Q) (h0 : RSt A 0 Q) (h6 : zi A 226 6 = Q.1) (h10 : zi A 226 10 = ic) (hic : ic ≤ 20) (hin : ∀ i : Nat, i < ic → ri A 232 i = inp i) : (¬ mayR x → ∃ B, z_M_run N x A = some (0, B) ∧ zi B 226 0 = 1 ∧ fr (fun a j => a = 226 ∧ j = 0) A B) ∧ (mayR x → ∃ B, z_M_run N x A = some ((runA Q inp ic x).1, B) ∧ zi B 226 0 = 0 ∧ RRs B (runA Q inp ic x).2.1 (runA Q inp ic x).2.2 ∧ fr (fun a j => qBg a j ∨ (a = 226 ∧ j = 0)) A B) := by
  unfold z_M_run
  rw [zlet_s]
  have f0 : fr (fun a j => a = 226 ∧ j = 0) A (zsi A 226 0 0) := fr_si ⟨rfl, rfl⟩
  have v0 : zi (zsi A 226 0 0) 226 0 = 0 := by rw [zi_si_s]; decide
  generalize zsi A 226 0 0 = A1 at *
  have bad : ∃ B, z_M_run_17 N A1 = some (0, B) ∧ zi B 226 0 = 1 ∧ fr (fun a j => a = 226 ∧ j = 0) A B := by
    unfold z_M_run_17 z_M_fail
    rw [zlet_s, zbI_s]
    exact ⟨_, rfl, by rw [zi_si_s]; decide, f0.trans (fr_si ⟨rfl, rfl⟩)⟩
  by_cases c1 : x < 1
  · rw [if_pos c1]
    exact ⟨fun _ => bad, fun z => absurd z.1 (by omega)⟩
  rw [if_neg c1]
  by_cases c2 : 2000 < x
  · rw [if_pos c2]
    exact ⟨fun _ => bad, fun z => absurd z.2 (by omega)⟩
  rw [if_neg c2]
  have hx : mayR x := ⟨by omega, by omega⟩
  refine ⟨fun z => absurd hx z, fun _ => ?_⟩
  have hR : RRw Q A1 := ⟨fun p hp => by
    have := rst_rp h0 hp
    rw [show 4 * 0 + p = p by omega] at this
    exact this.fr (by have := (hG.1.2 p hp).2.2.1; omega) f0 (fun a j z y => by rw [z.1] at y; exact nqRo226 y), by rw [f0.i (fun z => by omega)]; exact h6⟩
  obtain ⟨B, b1, b2, b3⟩ := r_begin (N := N) (inp := inp) (by omega) hG hR (by rw [f0.i (fun z => by omega)]; exact h10) hic (fun i hi => by rw [f0.e (fun z => by omega)]; exact hin i hi)
  rw [b1, zbV_s]
  have ex := run_ex (inp := inp) (ic := ic) hG hx
  obtain ⟨C, c1', c2', c3'⟩ := r_rloop (N := N) (T := x.toNat) (by omega) hG (by omega) 500000 N 0 m00 B (by omega) MV_00 (Nat.zero_le _) b2 ex
  have c1' : z_M_run_34_l N N (x.toNat : Int) 3 0 (-1) B = some ((runA Q inp ic x).1, C) := c1'
  rw [show ((x.toNat : Nat) : Int) = x by omega] at c1'
  have c1' : z_M_run_34 N x 3 0 (-1) B = some ((runA Q inp ic x).1, C) := c1'
  rw [c1']
  refine ⟨C, rfl, ?_, c2', ((f0.mono (fun a j z => Or.inr z)).trans (b3.mono (fun a j z => Or.inl z))).trans (c3'.mono (fun a j z => Or.inl (Or.inl z)))⟩
  rw [c3'.i (fun z => by unfold qRn at z; omega), b3.i (fun z => by unfold qBg qRn at z; omega)]
  exact v0
end
