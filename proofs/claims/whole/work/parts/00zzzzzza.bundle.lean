/-! what holds between two calls -/
def P95 (A : zA) : Prop := ∀ o, o = 197 ∨ o = 200 ∨ o = 203 ∨ o = 206 → yl A o 0 ≤ 80 ∧ yl A o 1 ≤ 16
def T3 (A : zA) : Prop := (∃ t, TT A 103 t ∧ t ≤ 300) ∧ P95 A
def CB (A : zA) (R R' : Nat) (Q QB : Pr) (Tx : Nat → Int) (L : Nat) (inp : Nat → Int) (ic : Nat) (ou : List Int) (s c1 c2 : Int) : Prop := CPG A R R' Q QB ∧ STA A ∧ T3 A ∧ CLt A Q ∧ TXc A Tx L ∧ CIp A inp ic ∧ COu A ou ∧ zi A 214 4 = s ∧ zi A 4 11 = c1 ∧ zi A 4 12 = c2
def RBn (A : zA) (Q QB : Pr) (Tx : Nat → Int) (L : Nat) (inp : Nat → Int) (ic : Nat) (ou : List Int) (s c1 c2 : Int) : Prop := RPG A Q QB ∧ TXr A Tx L ∧ RIp A inp ic ∧ ROu A ou ∧ zi A 226 93 = s ∧ zi A 226 7 = c1 ∧ zi A 226 8 = c2
def GB (Q QB : Pr) (Tx : Nat → Int) (L ic : Nat) (ou : List Int) : Prop := GQ Q ∧ GQ QB ∧ QB.1 = Q.1 ∧ TXT Tx L ∧ ic ≤ 20 ∧ ou.length ≤ 40
def IN (A : zA) : Prop := ∃ R R' Q QB Tx L inp ic ou s c1 c2, GB Q QB Tx L ic ou ∧ CB A R R' Q QB Tx L inp ic ou s c1 c2 ∧ RBn A Q QB Tx L inp ic ou s c1 c2
/-- room: what a call may add -/
def K0 (A B : zA) : Prop := sh0 A B ∧ ∀ j, zi B 0 j = zi A 0 j
def MR (A B : zA) : Prop := (Rm A B ∧ smc B ≤ smc A + 3) ∧ K0 A B
section
variable {A B C : zA} {R R' L ic : Nat} {Q QB Q' QB' : Pr} {Tx inp : Nat → Int} {ou : List Int} {s c1 c2 d1 d2 : Int} {S : List Nat} {F : Nat → Nat → Prop}
theorem CB.own (h : CB A R R' Q QB Tx L inp ic ou s c1 c2) : Own A := h.1.2.2.2.1.1
theorem CLt.fr (h : CLt A Q) (f : cF S A B) (hs : S.contains 209 = false) (h9 : zi B 4 9 = zi A 4 9) : CLt B Q := ⟨h.1.fr f hs, by rw [h9]; exact h.2.elim Or.inl (fun z => Or.inr ⟨z.1, z.2.fr f hs⟩)⟩
theorem CLt.z (h : CLt A Q) (f : cF S A B) (hs : S.contains 209 = false) (h9 : zi B 4 9 = 0) : CLt B Q' := ⟨h.1.fr f hs, Or.inl h9⟩
theorem TXc.fr (h : TXc A Tx L) (f : cF S A B) (h5 : S.contains 5 = false) (h6 : S.contains 6 = false) : TXc B Tx L := ⟨by rw [f.i (by decide) h5]; exact h.1, fun k hk => by rw [f.e (by decide) h6]; exact h.2 k hk⟩
theorem CIp.fr (h : CIp A inp ic) (f : cF S A B) (h5 : S.contains 214 = false) (h6 : S.contains 215 = false) : CIp B inp ic := ⟨by rw [f.i (by decide) h5]; exact h.1, fun k hk => by rw [f.e (by decide) h6]; exact h.2 k hk⟩
theorem COu.fr (h : COu A ou) (f : cF S A B) (h5 : S.contains 214 = false) (h6 : S.contains 216 = false) : COu B ou := ⟨by rw [f.i (by decide) h5]; exact h.1, fun k hk => by rw [f.e (by decide) h6]; exact h.2 k hk⟩
/-- a step of the class that leaves text and machine -/
theorem CB.st {P P' : Nat} (h : CB A R R' Q QB Tx L inp ic ou s c1 c2) (f : cF S A B) (hs : ∀ a, a = 1 ∨ a = 2 ∨ a = 3 ∨ a = 5 ∨ a = 6 ∨ a = 214 ∨ a = 215 ∨ a = 216 → S.contains a = false) (hP : CPG B P P' Q' QB') (hT : T3 B) (hL : CLt B Q') (h1 : zi B 4 11 = d1) (h2 : zi B 4 12 = d2) : CB B P P' Q' QB' Tx L inp ic ou s d1 d2 := by
  obtain ⟨k1, k2, k3, k4, k5, k6, k7, k8, k9, k10⟩ := h
  exact ⟨hP, k2.fr f (hs 1 (by omega)) (hs 2 (by omega)) (hs 3 (by omega)), hT, hL, k5.fr f (hs 5 (by omega)) (hs 6 (by omega)), k6.fr f (hs 214 (by omega)) (hs 215 (by omega)), k7.fr f (hs 214 (by omega)) (hs 216 (by omega)), by rw [f.i (by decide) (hs 214 (by omega))]; exact k8, h1, h2⟩
theorem P95.fr (h : P95 A) (f : cF S A B) (hs : ∀ a, a = 197 ∨ a = 200 ∨ a = 203 ∨ a = 206 → S.contains a = false) : P95 B := fun o ho => by
  have hd : dyo.contains o = true := by rcases ho with rfl | rfl | rfl | rfl <;> decide
  rw [f.n (dy_of hd (show 0 < 2 by decide)) (hs o ho), f.n (dy_of hd (show 1 < 2 by decide)) (hs o ho)]
  exact h o ho
theorem TT103.fr (h : T3 A) (f : cF S A B) (hs : ∀ a, a = 103 ∨ a = 197 ∨ a = 200 ∨ a = 203 ∨ a = 206 → S.contains a = false) : T3 B := by
  obtain ⟨⟨t, h1, h2⟩, h3⟩ := h
  exact ⟨⟨t, (h1.fr (by decide) f (hs 103 (by omega))).1, h2⟩, h3.fr f (fun a z => hs a (by omega))⟩
/-- a step that leaves the class -/
theorem CB.lv (hG : GQ Q) (hGB : GQ QB) (h : CB A R R' Q QB Tx L inp ic ou s c1 c2) (f : cF S A B) (hs : ∀ a, a ≤ 225 → S.contains a = false) : CB B R R' Q QB Tx L inp ic ou s c1 c2 := by
  have h0 := h
  obtain ⟨k1, k2, k3, k4, k5, k6, k7, k8, k9, k10⟩ := h
  exact h0.st f (fun a z => hs a (by omega)) (k1.cf hG.1 hGB.1 f (hs 4 (by omega)) (fun a _ z => hs a (by omega)) (hs 111 (by omega)) (hs 114 (by omega)) (hs 117 (by omega))) (TT103.fr k3 f (fun a z => hs a (by omega))) (k4.fr f (hs 209 (by omega)) (by rw [f.i (by decide) (hs 4 (by omega))])) (by rw [f.i (by decide) (hs 4 (by omega))]; exact k9) (by rw [f.i (by decide) (hs 4 (by omega))]; exact k10)
theorem CB.rf (hG : GQ Q) (hGB : GQ QB) (h : CB A R R' Q QB Tx L inp ic ou s c1 c2) (f : fr F A B) (hq : ∀ a j, F a j → 226 ≤ a ∧ a ≤ 295) : CB B R R' Q QB Tx L inp ic ou s c1 c2 := h.lv hG hGB (f.cF hq h.own) (fun a _ => rcs_n (by omega))
theorem n999 {a : Nat} (h : a ≠ 999) : ([999] : List Nat).contains a = false := cont2 h
theorem CB.nw {k : zK} (hk : k.2.2 ≤ 4) (hG : GQ Q) (hGB : GQ QB) (h : CB A R R' Q QB Tx L inp ic ou s c1 c2) : CB (znw A k) R R' Q QB Tx L inp ic ou s c1 c2 := h.lv hG hGB (znw_cF hk h.own).1 (fun a _ => n999 (by omega))
theorem RBn.cf (h : RBn A Q QB Tx L inp ic ou s c1 c2) (f : cF S A B) (hs : nr S) : RBn B Q QB Tx L inp ic ou s c1 c2 := by
  obtain ⟨k1, k2, k3, k4, k5, k6, k7⟩ := h
  exact ⟨k1.cF f hs, ⟨by rw [f.rz hs]; exact k2.1, fun k hk => by rw [f.re hs (by decide) (by decide)]; exact k2.2 k hk⟩, ⟨by rw [f.rz hs]; exact k3.1, fun k hk => by rw [f.re hs (by decide) (by decide)]; exact k3.2 k hk⟩, ⟨by rw [f.rz hs]; exact k4.1, fun k hk => by rw [f.re hs (by decide) (by decide)]; exact k4.2 k hk⟩, by rw [f.rz hs]; exact k5, by rw [f.rz hs]; exact k6, by rw [f.rz hs]; exact k7⟩
theorem RBn.nw {k : zK} (hk : k.2.2 ≤ 4) (hO : Own A) (h : RBn A Q QB Tx L inp ic ou s c1 c2) : RBn (znw A k) Q QB Tx L inp ic ou s c1 c2 := h.cf (znw_cF hk hO).1 (fun a _ _ => n999 (by omega))
theorem TXr.fr (h : TXr A Tx L) (f : fr F A B) (hF : ∀ a j, F a j → a ≠ 227 ∧ (a = 226 → j ≠ 1)) : TXr B Tx L := ⟨by rw [f.i (fun z => (hF _ _ z).2 rfl rfl)]; exact h.1, fun k hk => by rw [f.e (fun z => (hF _ _ z).1 rfl)]; exact h.2 k hk⟩
theorem RIp.fr (h : RIp A inp ic) (f : fr F A B) (hF : ∀ a j, F a j → a ≠ 232 ∧ (a = 226 → j ≠ 10)) : RIp B inp ic := ⟨by rw [f.i (fun z => (hF _ _ z).2 rfl rfl)]; exact h.1, fun k hk => by rw [f.e (fun z => (hF _ _ z).1 rfl)]; exact h.2 k hk⟩
theorem ROu.fr (h : ROu A ou) (f : fr F A B) (hF : ∀ a j, F a j → a ≠ 291 ∧ (a = 226 → j ≠ 92)) : ROu B ou := ⟨by rw [f.i (fun z => (hF _ _ z).2 rfl rfl)]; exact h.1, fun k hk => by rw [f.e (fun z => (hF _ _ z).1 rfl)]; exact h.2 k hk⟩
/-- a step of the reference that leaves text and machine -/
theorem RBn.st (h : RBn A Q QB Tx L inp ic ou s c1 c2) (f : fr F A B) (hF : ∀ a j, F a j → a ≠ 227 ∧ a ≠ 232 ∧ a ≠ 291 ∧ (a = 226 → j ≠ 1 ∧ j ≠ 10 ∧ j ≠ 92 ∧ j ≠ 93)) (hP : RPG B Q' QB') (h7 : zi B 226 7 = d1) (h8 : zi B 226 8 = d2) : RBn B Q' QB' Tx L inp ic ou s d1 d2 := by
  obtain ⟨k1, k2, k3, k4, k5, k6, k7⟩ := h
  exact ⟨hP, k2.fr f (fun a j z => by have := hF a j z; omega), k3.fr f (fun a j z => by have := hF a j z; omega), k4.fr f (fun a j z => by have := hF a j z; omega), by rw [f.i (fun z => by have := hF _ _ z; omega)]; exact k5, h7, h8⟩
/-- a step that leaves the reference -/
theorem RBn.lv (h : RBn A Q QB Tx L inp ic ou s c1 c2) (f : fr F A B) (hF : ∀ a j, F a j → a ≠ 227 ∧ a ≠ 228 ∧ a ≠ 229 ∧ a ≠ 230 ∧ a ≠ 232 ∧ a ≠ 291 ∧ (a = 226 → j ≠ 1 ∧ j ≠ 6 ∧ j ≠ 7 ∧ j ≠ 8 ∧ j ≠ 10 ∧ j ≠ 92 ∧ j ≠ 93)) : RBn B Q QB Tx L inp ic ou s c1 c2 := by
  have h0 := h
  obtain ⟨k1, k2, k3, k4, k5, k6, k7⟩ := h
  exact h0.st f (fun a j z => by have := hF a j z; omega) (k1.f0 f (fun a j z => by have := hF a j z; omega)) (by rw [f.i (fun z => by have := hF _ _ z; omega)]; exact k6) (by rw [f.i (fun z => by have := hF _ _ z; omega)]; exact k7)
theorem K0.of (f : cF S A B) (hs : S.contains 0 = false) : K0 A B := ⟨f.2.1.2.2, fun j => f.i (by decide) hs⟩
theorem K0.tr (h : K0 A B) (g : K0 B C) : K0 A C := ⟨fun s z => g.1 s (h.1 s z), fun j => (g.2 j).trans (h.2 j)⟩
theorem K0.w5 {x : Int64} (h : K0 A B) : K0 A (zsl B 295 0 x) := h
theorem MR.of {T : List Nat} (f : cF S A B) (hs : S.contains 999 = false) (hs0 : S.contains 0 = false) (g : cF T B C) (ht : T.contains 999 = false) (ht0 : T.contains 0 = false) : MR A C := ⟨⟨f.2.1.1.trans g.2.1.1, by rw [g.2.1.2.1 ht, f.2.1.2.1 hs]; omega⟩, (K0.of f hs0).tr (K0.of g ht0)⟩
theorem rcs999 : rcs.contains 999 = false := rcs_n (by omega)
theorem rcs0 : rcs.contains 0 = false := rcs_n (by omega)
/-- after a class's step and an exception, and a step of the reference -/
theorem K0.nw {k : zK} (hk : k.2.2 ≤ 4) (hO : Own B) (h : K0 A B) : K0 A (znw B k) := h.tr (K0.of (znw_cF hk hO).1 (n999 (by decide)))
theorem MR.nw {k : zK} (hk : k.2.2 ≤ 4) (f : cF S A B) (hs : S.contains 999 = false) (hs0 : S.contains 0 = false) (g : cF rcs (znw B k) C) : MR A C := by
  obtain ⟨w1, w2⟩ := znw_cF (A := B) (s := k) hk f.own
  exact ⟨⟨(f.2.1.1.trans w1.2.1.1).trans g.2.1.1, by rw [g.2.1.2.1 rcs999, w2, f.2.1.2.1 hs]; omega⟩, ((K0.of f hs0).nw hk f.own).tr (K0.of g rcs0)⟩
theorem f295 {x : Int64} : fr (fun a _ => a = 295) A (zsl A 295 0 x) := fr_sl rfl
theorem zwl5 {R : Type} {x : Int64} {K : zA → Option R} : zwl A 295 1 0 x K = K (zsl A 295 0 x) := if_pos (by decide)
theorem CB.w5 {x : Int64} (hG : GQ Q) (hGB : GQ QB) (h : CB A R R' Q QB Tx L inp ic ou s c1 c2) : CB (zsl A 295 0 x) R R' Q QB Tx L inp ic ou s c1 c2 := h.rf hG hGB f295 (fun a j z => by omega)
theorem RBn.w5 {x : Int64} (h : RBn A Q QB Tx L inp ic ou s c1 c2) : RBn (zsl A 295 0 x) Q QB Tx L inp ic ou s c1 c2 := h.lv f295 (fun a j z => by omega)
theorem v295 {x : Int64} (f : fr F (zsl A 295 0 x) B) (hF : ∀ a j, F a j → a ≠ 295) : zml B 295 0 = x := by
  rw [f.l (fun z => hF _ _ z rfl), zml_sl, if_pos ⟨rfl, rfl⟩]
theorem fr_z0 {v : Int} : fr (fun a j => a = 226 ∧ j = 0) A (zsi A 226 0 v) := fr_si ⟨rfl, rfl⟩
end
