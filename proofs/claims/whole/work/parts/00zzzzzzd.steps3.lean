/-! compile, both programs -/
section
variable {N : Nat} {A B C : zA} {R R' L ic : Nat} {Q QB Q' QB' : Pr} {Tx inp : Nat → Int} {ou : List Int} {s c1 c2 d1 d2 : Int} {F : Nat → Nat → Prop}
theorem sCo_n {a : Nat} (h : ¬ (a = 999 ∨ a = 4 ∨ a = 5 ∨ (7 ≤ a ∧ a ≤ 48))) : sCo.contains a = false := nc_of (fun q => h (by have := sCo_mem.mp q; omega))
theorem TXT0 : TXT (fun _ => 0) 0 := ⟨Nat.zero_le _, fun _ => ⟨Int.le_refl _, (by decide : (0 : Int) ≤ 65535)⟩, fun _ _ => rfl⟩
theorem qCm_i {a j : Nat} (h : qCm a j) : (226 ≤ a ∧ a ≤ 294) ∧ a ≠ 227 ∧ a ≠ 232 ∧ a ≠ 291 ∧ (a = 226 → j ≠ 10 ∧ j ≠ 92 ∧ j ≠ 93) := by
  unfold qCm at h
  omega
theorem CB.co {P P' : Nat} (h : CB A R R' Q QB Tx L inp ic ou s c1 c2) (f : cF sCo A B) (h5 : zi B 5 1 = 0) (hP : CPG B P P' Q' QB') (hL : CLt B Q') (h1 : zi B 4 11 = d1) (h2 : zi B 4 12 = d2) : CB B P P' Q' QB' (fun _ => 0) 0 inp ic ou s d1 d2 := by
  obtain ⟨k1, k2, k3, k4, k5, k6, k7, k8, k9, k10⟩ := h
  exact ⟨hP, k2.fr f (sCo_n (by omega)) (sCo_n (by omega)) (sCo_n (by omega)), TT103.fr k3 f (sCo_n (by omega)), hL, ⟨h5, fun k hk => absurd hk (Nat.not_lt_zero k)⟩, k6.fr f (sCo_n (by omega)) (sCo_n (by omega)), k7.fr f (sCo_n (by omega)) (sCo_n (by omega)), by rw [f.i (by decide) (sCo_n (by omega))]; exact k8, h1, h2⟩
end
