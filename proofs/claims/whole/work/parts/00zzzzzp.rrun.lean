/-! RUN of the reference -/
def RSx (Q : Pr) (inp : Nat → Int) (ic : Nat) (A : zA) : Prop := (∀ p, exP Q p → RP A p (Q.2.1 p) (Q.2.2 p) ∧ (∀ k : Nat, k < (Q.2.1 p).length → 8 ≤ (itm (Q.2.1 p) k).1 → ri A 231 (240 * p + k) = mtL (Q.2.1 p) k)) ∧ zi A 226 10 = ic ∧ ic ≤ 20 ∧ ∀ i : Nat, i < ic → ri A 232 i = inp i
def ROu (A : zA) (ou : List Int) : Prop := zi A 226 92 = ou.length ∧ ∀ i : Nat, i < ou.length → ri A 291 i = ou.getD i 0
def RMs (Q : Pr) (inp : Nat → Int) (ic : Nat) (A : zA) (m : Ms) (s : Nat) : Prop :=
  RSx Q inp ic A ∧ (∀ r : Nat, r < 6 → ri A 293 r = mgl m r) ∧ (∀ l r : Nat, l ≤ mlv m → 6 ≤ r → r < 60 → ri A 294 (60 * l + r) = mfr m l r) ∧ (∀ j : Nat, j < 8 → ri A 292 j = mce m j) ∧ ROu A (mou m) ∧ (zi A 226 94 = mni m ∧ mni m ≤ s) ∧ zi A 226 62 = mlv m ∧ (∀ l : Nat, l < mlv m → ri A 269 l = (mrt m l).1 ∧ ri A 270 l = (mrt m l).2) ∧ zi A 226 93 = s
def qRn (a j : Nat) : Prop := (a = 226 ∧ (j = 62 ∨ j = 92 ∨ j = 93 ∨ j = 94)) ∨ a = 269 ∨ a = 270 ∨ (291 ≤ a ∧ a ≤ 294)
section
variable {N : Nat} {A B : zA} {Q : Pr} {inp : Nat → Int} {ic T s : Nat} {m : Ms}
theorem RSx.fr (hQ : WO Q) (h : RSx Q inp ic A) (f : fr qRn A B) : RSx Q inp ic B := by
  refine ⟨fun p hp => ⟨(h.1 p hp).1.fr (by have := (hQ.2 p hp).2.2.1; omega) f (fun a j z y => by unfold qRn at z; unfold qRo at y; omega), fun k hk k8 => by rw [f.e (fun z => by unfold qRn at z; omega)]; exact (h.1 p hp).2 k hk k8⟩, by rw [f.i (fun z => by unfold qRn at z; omega)]; exact h.2.1, h.2.2.1, fun i hi => by rw [f.e (fun z => by unfold qRn at z; omega)]; exact h.2.2.2 i hi⟩
/-- only the count of letters changes -/
theorem RMs.st {s' : Nat} (hQ : WO Q) (h : RMs Q inp ic A m s) (hs : s ≤ s') (hs' : s' ≤ 3000) : RMs Q inp ic (zsi A 226 93 (s' : Int)) m s' := by
  obtain ⟨h1, h2, h3, h4, h5, h6, h7, h8, h9⟩ := h
  have f : fr (fun a j => a = 226 ∧ j = 93) A (zsi A 226 93 (s' : Int)) := fr_si ⟨rfl, rfl⟩
  exact ⟨h1.fr hQ (f.mono (fun a j z => Or.inl ⟨z.1, by omega⟩)), fun r hr => by rw [f.e (fun z => by omega)]; exact h2 r hr, fun l r a b c => by rw [f.e (fun z => by omega)]; exact h3 l r a b c, fun j hj => by rw [f.e (fun z => by omega)]; exact h4 j hj, ⟨by rw [f.i (fun z => by omega)]; exact h5.1, fun i hi => by rw [f.e (fun z => by omega)]; exact h5.2 i hi⟩, ⟨by rw [f.i (fun z => by omega)]; exact h6.1, by omega⟩, by rw [f.i (fun z => by omega)]; exact h7, fun l hl => by rw [f.e (fun z => by omega), f.e (fun z => by omega)]; exact h8 l hl, by rw [zi_si_s, yb_w (by omega) (by omega)]⟩
theorem r_burn {c : Nat} (h : zi A 226 93 = s) (hs : s ≤ T) (hT : T ≤ 2000) (hc : c ≤ 4) : z_M_burn N c T A = if T < s + c then some (0, zsi A 226 93 (T : Int)) else some (1, zsi A 226 93 ((s + c : Nat) : Int)) := by
  unfold z_M_burn z_M_burn_15
  rw [h, yb_w (by omega) (by omega)]
  by_cases e : T < s + c
  · rw [if_pos e, if_pos (by omega), if_pos rfl, zlet_s, if_pos (Or.inl rfl)]
  · rw [if_neg e, if_neg (by omega), if_neg (by decide), zlet_s, if_pos (Or.inr rfl), show (s : Int) + (c : Int) = ((s + c : Nat) : Int) by omega]
theorem rm_read {r : Int} (h : RMs Q inp ic A m s) (hl : mlv m ≤ 3) (h0 : 0 ≤ r) (h1 : r < 60) : z_M_read N r A = some (mget m r) := by
  obtain ⟨-, h2, h3, -, -, -, h7, -, -⟩ := h
  unfold z_M_read mget
  by_cases c : r < 6
  · rw [if_pos c, if_pos c, zrd_ok h0 (by omega)]
    have := h2 r.toNat (by omega)
    rw [show ((r.toNat : Nat) : Int) = r by omega] at this
    rw [this]
  · rw [if_neg c, if_neg c, h7, zrd_ok (by omega) (by omega)]
    have := h3 (mlv m) r.toNat (Nat.le_refl _) (by omega) (by omega)
    rw [show ((r.toNat : Nat) : Int) = r by omega] at this
    rw [this]
theorem rm_rg {r : Int} (h : RMs Q inp ic A m s) (hl : mlv m ≤ 3) (h0 : 0 ≤ r) (h1 : r < 60) : zw (mget m r) = mget m r := by
  obtain ⟨-, h2, h3, -⟩ := h
  unfold mget
  split
  · have := h2 r.toNat (by omega)
    rw [← this]
    have := ri_rg A 293 (r.toNat : Int)
    exact yb_w this.1 this.2
  · have := h3 (mlv m) r.toNat (Nat.le_refl _) (by omega) (by omega)
    rw [← this]
    have := ri_rg A 294 (60 * (mlv m : Int) + (r.toNat : Int))
    exact yb_w this.1 this.2
theorem rm_write {r v : Int} (hQ : WO Q) (h : RMs Q inp ic A m s) (hl : mlv m ≤ 3) (h0 : 0 ≤ r) (h1 : r < 60) (hv : zw v = v) : ∃ B, z_M_write N r v A = some B ∧ RMs Q inp ic B (mset m r v) s ∧ fr qRn A B := by
  obtain ⟨h1', h2, h3, h4, h5, h6, h7, h8, h9⟩ := h
  unfold z_M_write mset
  by_cases c : r < 6
  · rw [if_pos c, if_pos c, zwr_ok h0 (by omega)]
    have f : fr (fun a _ => a = 293) A (rs A 293 r v) := fr_rs rfl
    have fq : fr qRn A (rs A 293 r v) := f.mono (fun a j z => by unfold qRn; omega)
    refine ⟨_, rfl, ⟨h1'.fr hQ fq, fun r' hr' => ?_, fun l r' a b c => by rw [f.e (fun z => by omega)]; exact h3 l r' a b c, fun j hj => by rw [f.e (fun z => by omega)]; exact h4 j hj, ⟨by rw [f.i (fun z => by omega)]; exact h5.1, fun i hi => by rw [f.e (fun z => by omega)]; exact h5.2 i hi⟩, ⟨by rw [f.i (fun z => by omega)]; exact h6.1, h6.2⟩, by rw [f.i (fun z => by omega)]; exact h7, fun l hl => by rw [f.e (fun z => by omega), f.e (fun z => by omega)]; exact h8 l hl, by rw [f.i (fun z => by omega)]; exact h9⟩, fq⟩
    rw [ri_rs h0 (by omega)]
    show _ = if r' = r.toNat then v else mgl m r'
    by_cases e : r' = r.toNat
    · rw [if_pos (by omega), if_pos e]; exact hv
    · rw [if_neg (by omega), if_neg e]; exact h2 r' hr'
  · rw [if_neg c, if_neg c, h7, zwr_ok (by omega) (by omega)]
    have f : fr (fun a _ => a = 294) A (rs A 294 (60 * (mlv m : Int) + r) v) := fr_rs rfl
    have fq : fr qRn A (rs A 294 (60 * (mlv m : Int) + r) v) := f.mono (fun a j z => by unfold qRn; omega)
    refine ⟨_, rfl, ⟨h1'.fr hQ fq, fun r' hr' => by rw [f.e (fun z => by omega)]; exact h2 r' hr', fun l r' a b c' => ?_, fun j hj => by rw [f.e (fun z => by omega)]; exact h4 j hj, ⟨by rw [f.i (fun z => by omega)]; exact h5.1, fun i hi => by rw [f.e (fun z => by omega)]; exact h5.2 i hi⟩, ⟨by rw [f.i (fun z => by omega)]; exact h6.1, h6.2⟩, by rw [f.i (fun z => by omega)]; exact h7, fun l hl => by rw [f.e (fun z => by omega), f.e (fun z => by omega)]; exact h8 l hl, by rw [f.i (fun z => by omega)]; exact h9⟩, fq⟩
    have a : l ≤ mlv m := a
    rw [ri_rs (by omega) (by omega)]
    show _ = (if l = mlv m then fU (mfr m l) r.toNat v else mfr m l) r'
    by_cases e : l = mlv m
    · rw [if_pos e]
      show _ = if r' = r.toNat then v else mfr m l r'
      by_cases e2 : r' = r.toNat
      · rw [if_pos (by omega), if_pos e2]; exact hv
      · rw [if_neg (by omega), if_neg e2]; exact h3 l r' a b c'
    · rw [if_neg e, if_neg (by omega)]; exact h3 l r' a b c'
theorem RMs.go {p k : Nat} (h : RMs Q inp ic A m s) : RMs Q inp ic A (mgo m p k) s := h
/-- how it ends -/
def RRs (A : zA) (t : Nat) (ou : List Int) : Prop := zi A 226 93 = t ∧ ROu A ou
theorem RMs.rs {t : Nat} (h : RMs Q inp ic A m s) (ht : t ≤ 3000) : RRs (zsi A 226 93 (t : Int)) t (mou m) := by
  have f : fr (fun a j => a = 226 ∧ j = 93) A (zsi A 226 93 (t : Int)) := fr_si ⟨rfl, rfl⟩
  exact ⟨by rw [zi_si_s, yb_w (by omega) (by omega)], by rw [f.i (fun z => by omega)]; exact h.2.2.2.2.1.1, fun i hi => by rw [f.e (fun z => by omega)]; exact h.2.2.2.2.1.2 i hi⟩
def r34 (N : Nat) (f : Nat) (T : Nat) (p k : Int) (x : Int) (A : zA) : Option (Int × zA) := z_M_run_34_l N f T p k x A
/-- what one item comes to -/
def RStp (Q : Pr) (inp : Nat → Int) (ic T : Nat) (A : zA) (m : Ms) (s : Nat) (x : Option (Int × zA)) (L : Int → Int → Int → zA → Option (Int × zA)) : Prop :=
  (T < s + (isp Q inp ic m).1 → ∃ p k B, x = L p k 3 B ∧ RRs B T (mou m) ∧ fr qRn A B) ∧
  (¬ T < s + (isp Q inp ic m).1 → (isp Q inp ic m).2.2.1 = -1 → ∃ B, x = L (mp (isp Q inp ic m).2.2.2) (mk (isp Q inp ic m).2.2.2) (-1) B ∧ RMs Q inp ic B (isp Q inp ic m).2.2.2 (s + (isp Q inp ic m).2.1) ∧ fr qRn A B) ∧
  (¬ T < s + (isp Q inp ic m).1 → (isp Q inp ic m).2.2.1 ≠ -1 → ∃ p k B, x = L p k (isp Q inp ic m).2.2.1 B ∧ RRs B (s + (isp Q inp ic m).2.1) (mou m) ∧ fr qRn A B)
end
