/-! a part is put in the place of another -/
def updG (Q : Pr) (p : Nat) (X : List It) (g : Nat) : Pr := (Q.1, fun q => if q = p then X else Q.2.1 q, fun q => if q = p then g else Q.2.2 q)
section
variable {N : Nat} {A B : zA} {R : Nat} {Q : Pr} {p g : Nat} {X : List It}
theorem updG_o {q : Nat} (h : q ≠ p) : (updG Q p X g).2.1 q = Q.2.1 q ∧ (updG Q p X g).2.2 q = Q.2.2 q := ⟨by show (if q = p then X else Q.2.1 q) = _; rw [if_neg h], by show (if q = p then g else Q.2.2 q) = _; rw [if_neg h]⟩
theorem updG_s : (updG Q p X g).2.1 p = X ∧ (updG Q p X g).2.2 p = g := ⟨by show (if p = p then X else Q.2.1 p) = _; rw [if_pos rfl], by show (if p = p then g else Q.2.2 p) = _; rw [if_pos rfl]⟩
theorem szL_len {sz : Nat → Nat} : ∀ X : List It, X.length ≤ szL sz X
  | [] => Nat.le_refl _
  | i :: X => by
    have := szL_len (sz := sz) X
    rw [szL_cons, List.length_cons]
    omega
theorem GQ.putG (hG : GQ Q) (hp : exP Q p) (h7 : 7 ≤ g) (h60 : g ≤ 60) (hb : ∀ nd sz n, WN Q nd sz → bal nd n (Q.2.1 p) → bal nd n X) (hz : ∀ nd sz, WN Q nd sz → szL sz X ≤ szL sz (Q.2.1 p)) (hi : okL Q.1 p g X) : GQ (updG Q p X g) := by
  obtain ⟨⟨o1, o2⟩, nd, sz, n1, n2, n3, n4⟩ := hG
  have hW : WN Q nd sz := ⟨n1, n2, n3, n4⟩
  have hl : X.length ≤ 150 := by
    have h1 := szL_len (sz := sz) X
    have h2 := hz nd sz hW
    rcases hp with z | z
    · have := n3 p z; omega
    · rw [z] at h2; omega
  refine ⟨⟨o1, fun q hq => ?_⟩, nd, sz, n1, fun q hq => ?_, fun q hq => ?_, ?_⟩
  · obtain ⟨a, b, c, d⟩ := o2 q hq
    by_cases e : q = p
    · rw [e, updG_s.1, updG_s.2]; exact ⟨h7, h60, hl, hi⟩
    · rw [(updG_o e).1, (updG_o e).2]; exact ⟨a, b, c, d⟩
  · by_cases e : q = p
    · rw [e, updG_s.1]; exact hb nd sz _ hW (n2 p hp)
    · rw [(updG_o e).1]; exact n2 q hq
  · by_cases e : q = p
    · rw [e, updG_s.1]; rw [e] at hq; exact ⟨Nat.le_trans (hz nd sz hW) (n3 p hq).1, (n3 p hq).2⟩
    · rw [(updG_o e).1]; exact n3 q hq
  · by_cases e : 3 = p
    · rw [e, updG_s.1]; rw [e] at n4; exact Nat.le_trans (hz nd sz hW) n4
    · rw [(updG_o e).1]; exact n4
theorem CSt.cp (h : CSt A R Q (mtC Q)) (hp : exP Q p) : CP A (R + 2 + 3 * p) (Q.2.1 p) (Q.2.2 p) := by
  obtain ⟨a1, a2, a3, a4, a5⟩ := h.2 p hp
  exact ⟨a2, a3, a4, fun k hk => ⟨(a5 k hk).1, (a5 k hk).2.1⟩⟩
theorem CSt.put {S : List Nat} {nd' : Int → Nat} {n' : Nat} {mt' : Nat → Nat} {nm : Nat → Int} (hG : GQ Q) (hG' : GQ (updG Q p X g)) (hR : okR R) (hp : exP Q p) (h : CSt A R Q (mtC Q)) (f : cF S A B) (hs : ∀ a, R ≤ a → a ≤ R + 13 → a ≠ R + 2 + 3 * p → S.contains a = false) (hx : CP B (R + 2 + 3 * p) X g) (hb : Bl nd' (fun k => (itm X k).1) nm mt' n' 0 X.length) (hm : ∀ k, k < X.length → 8 ≤ (itm X k).1 → yv B (R + 2 + 3 * p) 1 k = mt' k) : CSt B R (updG Q p X g) (mtC (updG Q p X g)) := by
  obtain ⟨x1, x2, x3⟩ := hR.fx
  have hp4 := exP3 hG.1 hp
  refine ⟨by rw [f.i x1 (hs _ (by omega) (by omega) (by omega))]; exact h.1, fun q hq => ?_⟩
  have hq' : exP Q q := hq
  have hq4 := exP3 hG.1 hq'
  obtain ⟨a1, a2, a3, a4, a5⟩ := h.2 q hq'
  by_cases e : q = p
  · subst e
    obtain ⟨c1, c2, c3, c4⟩ := hx
    have es := updG_s (Q := Q) (p := q) (X := X) (g := g)
    refine ⟨a1, c1, ?_, ?_, fun k hk' => ?_⟩
    · show _ = (((updG Q q X g).2.1 q).length : Int)
      rw [es.1]; exact c2
    · show _ = ((updG Q q X g).2.2 q : Int)
      rw [es.2]; exact c3
    · have hk0 : k < ((updG Q q X g).2.1 q).length := hk'
      have hms := mtC_eq (kd := fun k => (itm X k).1) (nm := nm) (mt' := mt') hG' hq (fun k hk => by rw [es.1]) (by rw [es.1]; exact hb) k hk0
      rw [es.1] at hk0
      show _ = (itm ((updG Q q X g).2.1 q) k).1 ∧ (∀ i : Nat, i < nbk (itm ((updG Q q X g).2.1 q) k).1 → _ = ig (itm ((updG Q q X g).2.1 q) k) (i + 1)) ∧ (8 ≤ (itm ((updG Q q X g).2.1 q) k).1 → _ = (mtC (updG Q q X g) q k : Int))
      rw [es.1]
      exact ⟨(c4 k hk0).1, (c4 k hk0).2, fun k8 => by rw [hm k hk0 k8, hms k8]⟩
  · have out := hs (R + 2 + 3 * q) (by omega) (by omega) (by omega)
    have fx := pto_fx a1
    have v : ∀ e f', f' < 2 → yv B (R + 2 + 3 * q) f' e = yv A (R + 2 + 3 * q) f' e := fun e f' hf2 => f.v (dy_of (pto_dy a1) hf2) out
    have hqq := updG_o (Q := Q) (X := X) (g := g) e
    refine ⟨a1, a2.fr a1 f out, ?_, ?_, fun k hk' => ?_⟩
    · show _ = (((updG Q p X g).2.1 q).length : Int)
      unfold cn
      rw [hqq.1, f.i fx out]; exact a3
    · show _ = ((updG Q p X g).2.2 q : Int)
      unfold cr
      rw [hqq.2, f.i fx out]; exact a4
    · have hk0 : k < ((updG Q p X g).2.1 q).length := hk'
      rw [hqq.1] at hk0
      obtain ⟨b1, b2, b3⟩ := a5 k hk0
      show _ = (itm ((updG Q p X g).2.1 q) k).1 ∧ (∀ i : Nat, i < nbk (itm ((updG Q p X g).2.1 q) k).1 → _ = ig (itm ((updG Q p X g).2.1 q) k) (i + 1)) ∧ (8 ≤ (itm ((updG Q p X g).2.1 q) k).1 → _ = (mtC (updG Q p X g) q k : Int))
      have hms := mtC_sk hG hG' hq' hq (by rw [hqq.1]) (fun k _ => by rw [hqq.1]) k hk0
      rw [hqq.1]
      unfold cw
      refine ⟨by rw [v _ 0 (by decide)]; exact b1, fun i hi' => by rw [v _ 0 (by decide)]; exact b2 i hi', fun k8 => ?_⟩
      rw [v _ 1 (by decide), ← hms k8]
      exact b3 k8
end
section
variable {A B : zA} {Q : Pr} {p g z : Nat} {X : List It}
theorem rst_rp (h : RSt A z Q) (hp : exP Q p) : RP A (4 * z + p) (Q.2.1 p) (Q.2.2 p) := by
  obtain ⟨h1, h2, h3⟩ := h p hp
  have e : ((4 * z + p : Nat) : Int) = 4 * (z : Int) + p := by omega
  exact ⟨by rw [e]; exact h1, by rw [e]; exact h2, fun k hk => ⟨by rw [e]; exact (h3 k hk).1, fun i hi => by rw [e]; exact (h3 k hk).2 i hi⟩⟩
theorem rp_rst (h : ∀ p, exP Q p → RP A (4 * z + p) (Q.2.1 p) (Q.2.2 p)) : RSt A z Q := fun p hp => by
  obtain ⟨h1, h2, h3⟩ := h p hp
  have e : ((4 * z + p : Nat) : Int) = 4 * (z : Int) + p := by omega
  rw [e] at h1 h2 h3
  exact ⟨h1, h2, h3⟩
theorem rst_put {F : Nat → Nat → Prop} (hQ : WO Q) (h : RSt A 1 Q) (f : fr F A B) (hq : ∀ q, q ≠ p → q < 4 → ∀ a j, F a j → ¬ qRo (4 + q) a j) (hx : RP B (4 + p) X g) : RSt B 1 (updG Q p X g) := rp_rst (fun q hq' => by
  have hq0 : exP Q q := hq'
  have hq3 := exP3 hQ hq0
  by_cases e : q = p
  · rw [e, updG_s.1, updG_s.2]; exact hx
  · rw [(updG_o e).1, (updG_o e).2]
    have hl := (hQ.2 q hq0).2.2.1
    exact (rst_rp h hq0).fr (by omega) f (hq q e (by omega)))
end
