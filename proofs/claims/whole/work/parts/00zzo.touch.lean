/-! touch -/
def thr (Q : Pr) (x : Int) : Prop := x = 3 ∨ (0 ≤ x ∧ x < Q.1)
def mayN (Q : Pr) (p : Nat) (i : It) (x3 x4 : Int) : Prop := 0 ≤ x3 ∧ x3 < nbk i.1 ∧ ¬ (i.1 = 7 ∧ x3 = 1) ∧ ((i.1 = 0 ∧ x3 = 1) ∨ (i.1 = 2 ∧ x3 = 3 ∧ 0 ≤ x4 ∧ x4 ≤ 5) ∨ (¬ (i.1 = 0 ∧ x3 = 1) ∧ ¬ (i.1 = 2 ∧ x3 = 3) ∧ 0 ≤ x4 ∧ x4 < Q.2.2 p))
def mayT (Q : Pr) (x1 x2 x3 x4 : Int) : Prop := thr Q x1 ∧ 0 ≤ x2 ∧ x2 < (Q.2.1 x1.toNat).length ∧ mayN Q x1.toNat (itm (Q.2.1 x1.toNat) x2.toNat) x3 x4
def tchQ (Q : Pr) (x1 x2 x3 x4 : Int) : Pr := updP Q x1.toNat ((Q.2.1 x1.toNat).set x2.toNat (setN (itm (Q.2.1 x1.toNat) x2.toNat) x3.toNat x4))
def S1 : List Nat := 4 :: (rwl 7 ++ (rwl 21 ++ (rwl 35 ++ wal)))
theorem S1_mem {a : Nat} : S1.contains a = true ↔ a = 4 ∨ (7 ≤ a ∧ a ≤ 48) ∨ (110 ≤ a ∧ a ≤ 194) := by
  unfold S1
  have e : ∀ (X Y : List Nat), (X ++ Y).contains a = (X.contains a || Y.contains a) := fun X Y => by simp [List.contains_eq_any_beq]
  rw [List.contains_cons, e, e, e, Bool.or_eq_true, Bool.or_eq_true, Bool.or_eq_true, Bool.or_eq_true, rwl_mem, rwl_mem, rwl_mem, wal_mem, beq_iff_eq]
  omega
theorem S1_n {a : Nat} (h : ¬ (a = 4 ∨ (7 ≤ a ∧ a ≤ 48) ∨ (110 ≤ a ∧ a ≤ 194))) : S1.contains a = false := nc_of (fun q => h (S1_mem.mp q))
theorem nr_S1 : nr S1 := fun a h1 _ => S1_n (by omega)
theorem thr_n {Q : Pr} {x : Int} (hQ : WO Q) (h : thr Q x) : ∃ p : Nat, x = p ∧ p < 4 ∧ exP Q p := by
  have := hQ.1
  unfold thr at h
  refine ⟨x.toNat, by omega, by omega, ?_⟩
  unfold exP
  omega
theorem nbk_le' {i : It} : nbk i.1 ≤ 4 := nbk_le _
theorem tch_ok {Q : Pr} {x1 x2 x3 x4 : Int} (hG : GQ Q) (h4 : zw x4 = x4) (h : mayT Q x1 x2 x3 x4) : GQ (tchQ Q x1 x2 x3 x4) := by
  obtain ⟨h1, h2, h3, m1, m2, m3, m5⟩ := h
  obtain ⟨p, rfl, hp4, hp⟩ := thr_n hG.1 h1
  unfold tchQ
  rw [Int.toNat_natCast] at *
  have hb := nbk_le (itm (Q.2.1 p) x2.toNat).1
  have hk : x2.toNat < (Q.2.1 p).length := by omega
  have h4' := yb_wrg x4
  rw [h4] at h4'
  refine hG.upd hp (set_sk hk ?_) (fun i hi => ?_)
  · unfold sk
    rw [setN_1]
    by_cases c : (itm (Q.2.1 p) x2.toNat).1 = 7
    · rw [if_pos c, if_pos c]
      have := setN_g (itm (Q.2.1 p) x2.toNat) (w := x3.toNat) (j := 1) x4 (by omega) (by omega)
      rw [if_neg (by omega)] at this
      exact Prod.ext rfl this
    · rw [if_neg c, if_neg c]
  · have ok := (hG.1.2 p hp).2.2.2
    rcases List.mem_or_eq_of_mem_set hi with z | z
    · exact ok i z
    · obtain ⟨o1, o2, o3, o4, o5⟩ := ok _ (itm_mem hk)
      rw [z]
      refine ⟨by rw [setN_1]; exact o1, by rw [setN_1]; exact o2, fun j hj => ?_, fun q => ?_, fun q => ?_⟩
      · rw [setN_1] at hj ⊢
        rw [setN_g _ _ (by omega) (by omega)]
        by_cases c : j = x3.toNat
        · rw [if_pos c]
          refine ⟨h4'.1, h4'.2, fun hr => ?_⟩
          unfold isr at hr
          omega
        · rw [if_neg c]; exact o3 j hj
      · rw [setN_1] at q
        have := setN_g (itm (Q.2.1 p) x2.toNat) (w := x3.toNat) (j := 3) x4 (by omega) (by omega)
        show 0 ≤ ig _ (3 + 1) ∧ ig _ (3 + 1) ≤ 5
        rw [this]
        by_cases c : 3 = x3.toNat
        · rw [if_pos c]; omega
        · rw [if_neg c]; exact o4 q
      · rw [setN_1] at q
        have := setN_g (itm (Q.2.1 p) x2.toNat) (w := x3.toNat) (j := 1) x4 (by omega) (by omega)
        show 0 ≤ ig _ (1 + 1) ∧ ig _ (1 + 1) < _ ∧ ig _ (1 + 1) < _
        rw [this, if_neg (by omega)]
        exact o5 q
section
variable {N : Nat} {A : zA} {R R' : Nat} {Q QB : Pr} {x1 x2 x3 x4 : Int}
theorem c_thr (h : zi A R 1 = Q.1) : z_Ro_has N R x1 A = some (cif (thr Q x1) 1 0) := by
  unfold z_Ro_has thr
  rw [h]
  by_cases c : x1 = 3
  · rw [if_pos c, cif_pos (Or.inl c)]
  · rw [if_neg c]
    by_cases c1 : x1 < 0
    · rw [if_pos c1, cif_neg (by omega)]
    · rw [if_neg c1]
      by_cases c2 : x1 < Q.1
      · rw [if_pos c2, cif_pos (by omega)]
      · rw [if_neg c2, cif_neg (by omega)]
theorem c_pthas {o : Nat} {n : Nat} (h : cn A o = n) : z_Pt_has N o x2 A = some (cif (0 ≤ x2 ∧ x2 < n) 1 0) := by
  unfold z_Pt_has
  unfold cn at h
  rw [h]
  by_cases c1 : x2 < 0
  · rw [if_pos c1, cif_neg (by omega)]
  · rw [if_neg c1]
    by_cases c2 : x2 < n
    · rw [if_pos c2, cif_pos (by omega)]
    · rw [if_neg c2, cif_neg (by omega)]
theorem c_mayTouch (h : CPG A R R' Q QB) (hQ : WO Q) (hS : STA A) : z_PC_mayTouch N x1 x2 x3 x4 A = some (cif (mayT Q x1 x2 x3 x4) 1 0) := by
  obtain ⟨r, m2, m3, w, c7, cR, cR', s, sB⟩ := h
  obtain ⟨k1, k2, k3, k4, k5⟩ := r.ok
  have hO := w.1
  unfold z_PC_mayTouch
  obtain ⟨-, y2, -, -, -, -⟩ := rws_fr k1 (show 0 < 4 by decide)
  rw [zgr_s m2, zcs_s y2, c_thr s.1, zbP_s]
  by_cases t : thr Q x1
  · rw [cif_pos t, if_neg (by decide), zgr_s m2, zcs_s y2]
    obtain ⟨p, rfl, hp4, hp⟩ := thr_n hQ t
    obtain ⟨f1, f2, f3, f4, f5, f6⟩ := rws_fr k1 hp4
    have hP := s.2 p hp
    rw [zgf_s f1, zfe_p k1 hp4, zcs_s f5]
    unfold z_Pt_hasNumber
    rw [c_pthas hP.2.2.1]
    show zbP (zbP (some (cif (0 ≤ x2 ∧ x2 < ((Q.2.1 p).length : Int)) 1 0)) _) _ = _
    rw [zbP_s]
    have hmt : mayT Q p x2 x3 x4 ↔ (0 ≤ x2 ∧ x2 < ((Q.2.1 p).length : Int)) ∧ mayN Q p (itm (Q.2.1 p) x2.toNat) x3 x4 := by
      unfold mayT
      rw [Int.toNat_natCast]
      constructor
      · rintro ⟨-, a, b, c⟩; exact ⟨⟨a, b⟩, c⟩
      · rintro ⟨⟨a, b⟩, c⟩; exact ⟨t, a, b, c⟩
    by_cases t2 : 0 ≤ x2 ∧ x2 < ((Q.2.1 p).length : Int)
    · rw [cif_pos t2, if_neg (by decide)]
      obtain ⟨k, rfl⟩ : ∃ k : Nat, x2 = k := ⟨x2.toNat, by omega⟩
      have hk : k < (Q.2.1 p).length := by omega
      rw [Int.toNat_natCast] at hmt
      have hkd : z_Pt_kind N (R + 2 + 3 * p) k A = some (itm (Q.2.1 p) k).1 := pc_kind (N := N) hO s.2 hp hk
      obtain ⟨o1, o2, o3, o4, o5⟩ := (hQ.2 p hp).2.2.2 _ (itm_mem hk)
      have hst : ri A 3 (itm (Q.2.1 p) k).1 = nbk (itm (Q.2.1 p) k).1 := by
        have := (hS (itm (Q.2.1 p) k).1.toNat (by omega)).2.2
        rw [show (((itm (Q.2.1 p) k).1.toNat : Nat) : Int) = (itm (Q.2.1 p) k).1 by omega] at this
        exact this
      by_cases t3 : x3 < 0
      · rw [if_pos t3, zbP_s, if_pos rfl, cif_neg (fun z => by have := (hmt.mp z).2.1; omega)]
      · rw [if_neg t3, hkd, zbP_s, zrd_ok o1 (by omega), hst]
        by_cases t4 : x3 < (nbk (itm (Q.2.1 p) k).1 : Int)
        · rw [if_pos t4, zbP_s, if_neg (by decide), zgr_s m2, zcs_s y2, zgf_s f1, zfe_p k1 hp4, zcs_s f5, hkd, zbP_s]
          have h71 : z_PC_mayTouch_71 N p x3 x4 (itm (Q.2.1 p) k).1 A = some (cif (((itm (Q.2.1 p) k).1 = 2 ∧ x3 = 3 ∧ 0 ≤ x4 ∧ x4 ≤ 5) ∨ (¬ ((itm (Q.2.1 p) k).1 = 2 ∧ x3 = 3) ∧ 0 ≤ x4 ∧ x4 < Q.2.2 p)) 1 0) := by
            have h99 : z_PC_mayTouch_99 N p x4 A = some (cif (0 ≤ x4 ∧ x4 < (Q.2.2 p : Int)) 1 0) := by
              unfold z_PC_mayTouch_99
              have hr : zi A (R + 2 + 3 * p) 3 = Q.2.2 p := hP.2.2.2.1
              by_cases c1 : x4 < 0
              · rw [if_pos c1, cif_neg (by omega)]
              · rw [if_neg c1, zgr_s m2, zcs_s y2, zgf_s f1, zfe_p k1 hp4, zcs_s f5, hr]
                by_cases c2 : x4 < (Q.2.2 p : Int)
                · rw [if_pos c2, cif_pos (by omega)]
                · rw [if_neg c2, cif_neg (by omega)]
            unfold z_PC_mayTouch_71
            by_cases c1 : (itm (Q.2.1 p) k).1 = 2
            · rw [if_pos c1]
              by_cases c2 : x3 = 3
              · rw [if_pos c2]
                by_cases c3 : x4 < 0
                · rw [if_pos c3, cif_neg (by omega)]
                · rw [if_neg c3]
                  by_cases c4 : 5 < x4
                  · rw [if_pos c4, cif_neg (by omega)]
                  · rw [if_neg c4, cif_pos (by omega)]
              · rw [if_neg c2, h99]
                by_cases c3 : 0 ≤ x4 ∧ x4 < (Q.2.2 p : Int)
                · rw [cif_pos c3, cif_pos (by omega)]
                · rw [cif_neg c3, cif_neg (by omega)]
            · rw [if_neg c1, h99]
              by_cases c3 : 0 ≤ x4 ∧ x4 < (Q.2.2 p : Int)
              · rw [cif_pos c3, cif_pos (by omega)]
              · rw [cif_neg c3, cif_neg (by omega)]
          rw [h71]
          have fin : ∀ q : Prop, (q ↔ mayT Q p k x3 x4) → cif q (1 : Int) 0 = cif (mayT Q p k x3 x4) 1 0 := fun q hq => by
            by_cases z : q
            · rw [cif_pos z, cif_pos (hq.mp z)]
            · rw [cif_neg z, cif_neg (fun y => z (hq.mpr y))]
          unfold mayN at hmt
          generalize hkk : (itm (Q.2.1 p) k).1 = kk at *
          by_cases c7 : kk = 7
          · rw [if_pos c7]
            by_cases c1 : x3 = 1
            · rw [if_pos c1, cif_neg (fun z => (hmt.mp z).2.2.2.1 ⟨c7, c1⟩)]
            · rw [if_neg c1, if_neg (by omega), fin _ (by rw [hmt]; omega)]
          · rw [if_neg c7]
            by_cases c0 : kk = 0
            · rw [if_pos c0]
              by_cases c1 : x3 = 1
              · rw [if_pos c1, cif_pos (hmt.mpr (by omega))]
              · rw [if_neg c1, fin _ (by rw [hmt]; omega)]
            · rw [if_neg c0, fin _ (by rw [hmt]; omega)]
        · rw [if_neg t4, zbP_s, if_pos rfl, cif_neg (fun z => by have := (hmt.mp z).2.2.1; omega)]
    · rw [cif_neg t2, if_pos rfl, zbP_s, if_pos rfl, cif_neg (fun z => t2 (hmt.mp z).1)]
  · rw [cif_neg t, if_pos rfl, cif_neg (fun z => t z.1)]
end
