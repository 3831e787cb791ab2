theorem z_M_begin_43_lok{d w : Nat} (N : Nat) (hd : 3 ≤ d) (hw : 71 ≤ w) (n : Nat) : ∀ (x1 : Int) (hx1 : zrg x1) (A : zA), zG (z_M_begin_43_l N n x1 A) zPV d w 69 43 [some (.inr (.inr (some 226))), some (.inl x1)] [] A := by
  induction n with
  | zero => intros; exact zG_none
  | succ n ih =>
    intro x1 hx1 A
    exact z_M_begin_43_bok ih N hd hw x1 hx1 A
theorem z_M_begin_43_ok{d w : Nat} (N : Nat) (hd : 3 ≤ d) (hw : 71 ≤ w) (x1 : Int) (hx1 : zrg x1) (A : zA) : zG (z_M_begin_43 N x1 A) zPV d w 69 43 [some (.inr (.inr (some 226))), some (.inl x1)] [] A := z_M_begin_43_lok N hd hw N x1 hx1 A
theorem z_M_begin_22_bok{d w : Nat} {r22 : Int → zA → Option zA} (hr22 : ∀ (x1 : Int) (hx1 : zrg x1) (A : zA), zG (r22 x1 A) zPV d w 69 22 [some (.inr (.inr (some 226))), some (.inl x1)] [] A) (N : Nat) (hd : 3 ≤ d) (hw : 71 ≤ w) (x1 : Int) (hx1 : zrg x1) (A : zA) : zG (z_M_begin_22_b r22 N x1 A) zPV d w 69 22 [some (.inr (.inr (some 226))), some (.inl x1)] [] A := by
  unfold z_M_begin_22_b
  refine js_iload (pc1 := 23) rfl rfl rfl ?_
  refine js_iconst (pc1 := 25) rfl rfl ?_
  refine jt_ge (pc1 := 28) (t1 := 41) hx1 (zlit rfl) rfl rfl rfl (fun c1 => ?_) (fun c1 => ?_)
  · refine js_aload (pc1 := 29) rfl rfl rfl ?_
    refine js_gfr (pc1 := 32) (j := 97) (r := 293) rfl rfl rfl rfl rfl ?_
    refine js_iload (pc1 := 33) rfl rfl rfl ?_
    refine js_iconst (pc1 := 34) rfl rfl ?_
    refine jt_ias (pc1 := 35) rfl rfl rfl rfl (fun A2 => ?_)
    refine js_iinc (pc1 := 38) (L1 := [some (.inr (.inr (some 226))), some (.inl (x1 + 1))]) rfl rfl rfl rfl ?_
    refine js_goto (t1 := 22) rfl rfl ?_
    exact zG_to (L := [some (.inr (.inr (some 226))), some (.inl (zw (x1 + 1)))]) (S := []) ⟨rfl, ⟨zval_w (x1 + 1), trivial⟩⟩ (rfl) (hr22 (zw (x1 + 1)) (zw_rg (x1 + 1)) A2)
  · refine js_iconst (pc1 := 42) rfl rfl ?_
    refine js_istore (pc1 := 43) (L1 := [some (.inr (.inr (some 226))), some (.inl 0)]) rfl rfl rfl rfl ?_
    exact z_M_begin_43_ok N hd hw 0 (zlit rfl) A
theorem z_M_begin_22_lok{d w : Nat} (N : Nat) (hd : 3 ≤ d) (hw : 71 ≤ w) (n : Nat) : ∀ (x1 : Int) (hx1 : zrg x1) (A : zA), zG (z_M_begin_22_l N n x1 A) zPV d w 69 22 [some (.inr (.inr (some 226))), some (.inl x1)] [] A := by
  induction n with
  | zero => intros; exact zG_none
  | succ n ih =>
    intro x1 hx1 A
    exact z_M_begin_22_bok ih N hd hw x1 hx1 A
theorem z_M_begin_22_ok{d w : Nat} (N : Nat) (hd : 3 ≤ d) (hw : 71 ≤ w) (x1 : Int) (hx1 : zrg x1) (A : zA) : zG (z_M_begin_22 N x1 A) zPV d w 69 22 [some (.inr (.inr (some 226))), some (.inl x1)] [] A := z_M_begin_22_lok N hd hw N x1 hx1 A
theorem z_M_begin_ok{d w : Nat} (N : Nat) (hd : 3 ≤ d) (hw : 71 ≤ w) (A : zA) : zG (z_M_begin N A) zPV d w 69 0 [some (.inr (.inr (some 226))), none] [] A := by
  unfold z_M_begin
  refine js_aload (pc1 := 1) rfl rfl rfl ?_
  refine js_iconst (pc1 := 2) rfl rfl ?_
  refine jt_pi (pc1 := 5) (j := 92) rfl rfl rfl rfl rfl (fun A1 => ?_)
  refine js_aload (pc1 := 6) rfl rfl rfl ?_
  refine js_iconst (pc1 := 7) rfl rfl ?_
  refine jt_pi (pc1 := 10) (j := 93) rfl rfl rfl rfl rfl (fun A2 => ?_)
  refine js_aload (pc1 := 11) rfl rfl rfl ?_
  refine js_iconst (pc1 := 12) rfl rfl ?_
  refine jt_pi (pc1 := 15) (j := 94) rfl rfl rfl rfl rfl (fun A3 => ?_)
  refine js_aload (pc1 := 16) rfl rfl rfl ?_
  refine js_iconst (pc1 := 17) rfl rfl ?_
  refine jt_pi (pc1 := 20) (j := 62) rfl rfl rfl rfl rfl (fun A4 => ?_)
  refine js_iconst (pc1 := 21) rfl rfl ?_
  refine js_istore (pc1 := 22) (L1 := [some (.inr (.inr (some 226))), some (.inl 0)]) rfl rfl rfl rfl ?_
  exact z_M_begin_22_ok N hd hw 0 (zlit rfl) A4
theorem z_M_read_ok{d w : Nat} (N : Nat) (hd : 0 ≤ d) (hw : 0 ≤ w) (x1 : Int) (hx1 : zrg x1) (A : zA) : zG (z_M_read N x1 A) (zPp A) d w 72 0 [some (.inr (.inr (some 226))), some (.inl x1)] [] A := by
  unfold z_M_read
  refine js_iload (pc1 := 1) rfl rfl rfl ?_
  refine js_iconst (pc1 := 3) rfl rfl ?_
  refine jt_ge (pc1 := 6) (t1 := 15) hx1 (zlit rfl) rfl rfl rfl (fun c1 => ?_) (fun c1 => ?_)
  · refine js_aload (pc1 := 7) rfl rfl rfl ?_
    refine js_gfr (pc1 := 10) (j := 97) (r := 293) rfl rfl rfl rfl rfl ?_
    refine js_iload (pc1 := 11) rfl rfl rfl ?_
    refine jt_ald (pc1 := 12) rfl rfl rfl rfl rfl (fun v2 hv2 => ?_)
    refine js_goto (t1 := 29) rfl rfl ?_
    exact je_P rfl (zfit0 _ rfl) rfl hv2
  · refine js_aload (pc1 := 16) rfl rfl rfl ?_
    refine js_gfr (pc1 := 19) (j := 98) (r := 294) rfl rfl rfl rfl rfl ?_
    refine js_iconst (pc1 := 21) rfl rfl ?_
    refine js_aload (pc1 := 22) rfl rfl rfl ?_
    refine js_gi (pc1 := 25) (j := 62) rfl rfl rfl rfl ?_
    refine js_imul (pc1 := 26) rfl rfl ?_
    refine js_iload (pc1 := 27) rfl rfl rfl ?_
    refine js_iadd (pc1 := 28) rfl rfl ?_
    refine jt_ald (pc1 := 29) rfl rfl rfl rfl rfl (fun v3 hv3 => ?_)
    exact je_P rfl (zfit0 _ rfl) rfl hv3
theorem z_M_burn_15_ok{d w : Nat} (N : Nat) (hd : 0 ≤ d) (hw : 0 ≤ w) (x1 : Int) (hx1 : zrg x1) (x2 : Int) (hx2 : zrg x2) (s0 : Int) (hs0 : zrg s0) (A : zA) : zG (z_M_burn_15 N x1 x2 s0 A) zPI d w 71 15 [some (.inr (.inr (some 226))), some (.inl x1), some (.inl x2), none] [(.inl s0)] A := by
  unfold z_M_burn_15
  refine js_istore (pc1 := 16) (L1 := [some (.inr (.inr (some 226))), some (.inl x1), some (.inl x2), some (.inl s0)]) rfl rfl rfl rfl ?_
  refine js_aload (pc1 := 17) rfl rfl rfl ?_
  refine js_iload (pc1 := 18) rfl rfl rfl ?_
  refine ju_eq (pc1 := 21) (t1 := 30) hs0 rfl rfl rfl (fun c1 => ?_) (fun c1 => ?_)
  · refine js_iload (pc1 := 31) rfl rfl rfl ?_
    refine jt_pi (pc1 := 34) (j := 93) rfl rfl rfl rfl rfl (fun A2 => ?_)
    refine js_iload (pc1 := 35) rfl rfl rfl ?_
    exact zG_ite (fun h => je_I rfl (zfit3 rfl h) rfl hs0) (fun _ => zG_none)
  · refine js_aload (pc1 := 22) rfl rfl rfl ?_
    refine js_gi (pc1 := 25) (j := 93) rfl rfl rfl rfl ?_
    refine js_iload (pc1 := 26) rfl rfl rfl ?_
    refine js_iadd (pc1 := 27) rfl rfl ?_
    refine js_goto (t1 := 31) rfl rfl ?_
    refine jt_pi (pc1 := 34) (j := 93) rfl rfl rfl rfl rfl (fun A3 => ?_)
    refine js_iload (pc1 := 35) rfl rfl rfl ?_
    exact zG_ite (fun h => je_I rfl (zfit3 rfl h) rfl hs0) (fun _ => zG_none)
theorem z_M_burn_ok{d w : Nat} (N : Nat) (hd : 0 ≤ d) (hw : 0 ≤ w) (x1 : Int) (hx1 : zrg x1) (x2 : Int) (hx2 : zrg x2) (A : zA) : zG (z_M_burn N x1 x2 A) zPI d w 71 0 [some (.inr (.inr (some 226))), some (.inl x1), some (.inl x2), none] [] A := by
  unfold z_M_burn
  refine js_aload (pc1 := 1) rfl rfl rfl ?_
  refine js_gi (pc1 := 4) (j := 93) rfl rfl rfl rfl ?_
  refine js_iload (pc1 := 5) rfl rfl rfl ?_
  refine js_iadd (pc1 := 6) rfl rfl ?_
  refine js_iload (pc1 := 7) rfl rfl rfl ?_
  refine zG_w2 ?_
  refine jt_gt (pc1 := 10) (t1 := 14) (zw_rg ((zi A 226 93) + x1)) hx2 rfl rfl rfl (fun c1 => ?_) (fun c1 => ?_)
  · refine js_iconst (pc1 := 15) rfl rfl ?_
    exact z_M_burn_15_ok N hd hw x1 hx1 x2 hx2 0 (zlit rfl) A
  · refine js_iconst (pc1 := 11) rfl rfl ?_
    refine js_goto (t1 := 15) rfl rfl ?_
    exact z_M_burn_15_ok N hd hw x1 hx1 x2 hx2 1 (zlit rfl) A
theorem z_M_write_ok{d w : Nat} (N : Nat) (hd : 0 ≤ d) (hw : 0 ≤ w) (x1 : Int) (hx1 : zrg x1) (x2 : Int) (hx2 : zrg x2) (A : zA) : zG (z_M_write N x1 x2 A) zPV d w 125 0 [some (.inr (.inr (some 226))), some (.inl x1), some (.inl x2)] [] A := by
  unfold z_M_write
  refine js_iload (pc1 := 1) rfl rfl rfl ?_
  refine js_iconst (pc1 := 3) rfl rfl ?_
  refine jt_ge (pc1 := 6) (t1 := 16) hx1 (zlit rfl) rfl rfl rfl (fun c1 => ?_) (fun c1 => ?_)
  · refine js_aload (pc1 := 7) rfl rfl rfl ?_
    refine js_gfr (pc1 := 10) (j := 97) (r := 293) rfl rfl rfl rfl rfl ?_
    refine js_iload (pc1 := 11) rfl rfl rfl ?_
    refine js_iload (pc1 := 12) rfl rfl rfl ?_
    refine jt_ias (pc1 := 13) rfl rfl rfl rfl (fun A2 => ?_)
    refine js_goto (t1 := 31) rfl rfl ?_
    exact je_V rfl
  · refine js_aload (pc1 := 17) rfl rfl rfl ?_
    refine js_gfr (pc1 := 20) (j := 98) (r := 294) rfl rfl rfl rfl rfl ?_
    refine js_iconst (pc1 := 22) rfl rfl ?_
    refine js_aload (pc1 := 23) rfl rfl rfl ?_
    refine js_gi (pc1 := 26) (j := 62) rfl rfl rfl rfl ?_
    refine js_imul (pc1 := 27) rfl rfl ?_
    refine js_iload (pc1 := 28) rfl rfl rfl ?_
    refine js_iadd (pc1 := 29) rfl rfl ?_
    refine js_iload (pc1 := 30) rfl rfl rfl ?_
    refine jt_ias (pc1 := 31) rfl rfl rfl rfl (fun A3 => ?_)
    exact je_V rfl
theorem z_M_doItem_371_ok{d w : Nat} (N : Nat) (hd : 2 ≤ d) (hw : 46 ≤ w) (x3 : Int) (hx3 : zrg x3) (x4 : Int) (hx4 : zrg x4) (x5 : Int) (hx5 : zrg x5) (x7 : Int) (hx7 : zrg x7) (A : zA) : zG (z_M_doItem_371 N x3 x4 x5 x7 A) zPI d w 70 371 [some (.inr (.inr (some 226))), none, none, some (.inl x3), some (.inl x4), some (.inl x5), none, some (.inl x7), none, none] [] A := by
  unfold z_M_doItem_371
  refine js_iload (pc1 := 373) rfl rfl rfl ?_
  refine js_iconst (pc1 := 374) rfl rfl ?_
  refine jt_eq (pc1 := 377) (t1 := 384) hx4 (zlit rfl) rfl rfl rfl (fun c1 => ?_) (fun c1 => ?_)
  · refine js_iconst (pc1 := 385) rfl rfl ?_
    exact je_I rfl (zfit0 _ rfl) rfl (zlit rfl)
  · refine js_iload (pc1 := 379) rfl rfl rfl ?_
    refine js_iconst (pc1 := 381) rfl rfl ?_
    refine jt_ne (pc1 := 384) (t1 := 386) hx4 (zlit rfl) rfl rfl rfl (fun c2 => ?_) (fun c2 => ?_)
    · refine js_iconst (pc1 := 385) rfl rfl ?_
      exact je_I rfl (zfit0 _ rfl) rfl (zlit rfl)
    · refine js_aload (pc1 := 387) rfl rfl rfl ?_
      refine js_iconst (pc1 := 388) rfl rfl ?_
      refine js_iload (pc1 := 389) rfl rfl rfl ?_
      refine js_cI (pc1 := 392) (as := [(.inr (.inr (some 226))), (.inl 1), (.inl x3)]) (S0 := []) (m := 4) (L0 := [some (.inr (.inr (some 226))), some (.inl 1), some (.inl x3), none]) rfl rfl rfl rfl rfl rfl rfl rfl (zrc_o rfl rfl) (by omega) (by omega) (z_M_burn_ok N (by omega) (by omega) 1 (zlit rfl) x3 hx3 A) (fun v3 A4 _ hv3 => ?_)
      refine ju_ne (pc1 := 395) (t1 := 397) hv3 rfl rfl rfl (fun c5 => ?_) (fun c5 => ?_)
      · refine js_iconst (pc1 := 396) rfl rfl ?_
        exact je_I rfl (zfit0 _ rfl) rfl (zlit rfl)
      · refine js_aload (pc1 := 398) rfl rfl rfl ?_
        refine js_iload (pc1 := 400) rfl rfl rfl ?_
        refine js_iload (pc1 := 402) rfl rfl rfl ?_
        refine js_cV (pc1 := 405) (as := [(.inr (.inr (some 226))), (.inl x5), (.inl x7)]) (S0 := []) (m := 3) (L0 := [some (.inr (.inr (some 226))), some (.inl x5), some (.inl x7)]) rfl rfl rfl rfl rfl rfl rfl rfl (zrc_o rfl rfl) (by omega) (by omega) (z_M_write_ok N (by omega) (by omega) x5 hx5 x7 hx7 A4) (fun A6 _ => ?_)
        refine js_iconst (pc1 := 406) rfl rfl ?_
        exact je_I rfl (zfit0 _ rfl) rfl (zlit rfl)
theorem z_M_doItem_87_ok{d w : Nat} (N : Nat) (hd : 2 ≤ d) (hw : 46 ≤ w) (x3 : Int) (hx3 : zrg x3) (x4 : Int) (hx4 : zrg x4) (x5 : Int) (hx5 : zrg x5) (x6 : Int) (hx6 : zrg x6) (x8 : Int) (hx8 : zrg x8) (x9 : Int) (hx9 : zrg x9) (A : zA) : zG (z_M_doItem_87 N x3 x4 x5 x6 x8 x9 A) zPI d w 70 87 [some (.inr (.inr (some 226))), none, none, some (.inl x3), some (.inl x4), some (.inl x5), some (.inl x6), none, some (.inl x8), some (.inl x9)] [] A := by
  unfold z_M_doItem_87
  refine js_iload (pc1 := 89) rfl rfl rfl ?_
  refine js_aload (pc1 := 90) rfl rfl rfl ?_
  refine js_iload (pc1 := 92) rfl rfl rfl ?_
  refine js_cP (pc1 := 95) (as := [(.inr (.inr (some 226))), (.inl x6)]) (S0 := [(.inl x8)]) (m := 2) (L0 := [some (.inr (.inr (some 226))), some (.inl x6)]) rfl rfl rfl rfl rfl rfl rfl rfl (zrc_o rfl rfl) (by omega) (by omega) (z_M_read_ok N (by omega) (by omega) x6 hx6 A) (fun v1 _ hv1 => ?_)
  refine js_iload (pc1 := 97) rfl rfl rfl ?_
  refine js_cP (pc1 := 100) (as := [(.inl x8), (.inl v1), (.inl x9)]) (S0 := []) (m := 3) (L0 := [some (.inl x8), some (.inl v1), some (.inl x9)]) rfl rfl rfl rfl rfl rfl rfl rfl (zrc_s rfl) (by omega) (by omega) (z_M_worked_ok N (by omega) (by omega) x8 hx8 v1 hv1 x9 hx9 A) (fun v2 _ hv2 => ?_)
  refine js_istore (pc1 := 102) (L1 := [some (.inr (.inr (some 226))), none, none, some (.inl x3), some (.inl x4), some (.inl x5), some (.inl x6), some (.inl v2), some (.inl x8), some (.inl x9)]) rfl rfl rfl rfl ?_
  refine js_goto (t1 := 371) rfl rfl ?_
  exact zG_to (L := [some (.inr (.inr (some 226))), none, none, some (.inl x3), some (.inl x4), some (.inl x5), none, some (.inl v2), none, none]) (S := []) ⟨rfl, ⟨rfl, ⟨rfl, ⟨rfl, ⟨rfl, trivial⟩⟩⟩⟩⟩ (rfl) (z_M_doItem_371_ok N hd hw x3 hx3 x4 hx4 x5 hx5 v2 hv2 A)
theorem z_M_doItem_152_ok{d w : Nat} (N : Nat) (hd : 2 ≤ d) (hw : 46 ≤ w) (x3 : Int) (hx3 : zrg x3) (x4 : Int) (hx4 : zrg x4) (x5 : Int) (hx5 : zrg x5) (x6 : Int) (hx6 : zrg x6) (x8 : Int) (hx8 : zrg x8) (s1 : Int) (hs1 : zrg s1) (A : zA) : zG (z_M_doItem_152 N x3 x4 x5 x6 x8 s1 A) zPI d w 70 152 [some (.inr (.inr (some 226))), none, none, some (.inl x3), some (.inl x4), some (.inl x5), some (.inl x6), none, some (.inl x8), none] [(.inl s1), (.inr (.inr (some 226)))] A := by
  unfold z_M_doItem_152
  refine js_iload (pc1 := 153) rfl rfl rfl ?_
  refine js_cI (pc1 := 156) (as := [(.inr (.inr (some 226))), (.inl s1), (.inl x3)]) (S0 := []) (m := 4) (L0 := [some (.inr (.inr (some 226))), some (.inl s1), some (.inl x3), none]) rfl rfl rfl rfl rfl rfl rfl rfl (zrc_o rfl rfl) (by omega) (by omega) (z_M_burn_ok N (by omega) (by omega) s1 hs1 x3 hx3 A) (fun v1 A2 _ hv1 => ?_)
  refine ju_ne (pc1 := 159) (t1 := 161) hv1 rfl rfl rfl (fun c3 => ?_) (fun c3 => ?_)
  · refine js_iconst (pc1 := 160) rfl rfl ?_
    exact je_I rfl (zfit0 _ rfl) rfl (zlit rfl)
  · refine js_iload (pc1 := 163) rfl rfl rfl ?_
    refine ju_lt (pc1 := 166) (t1 := 173) hx8 rfl rfl rfl (fun c4 => ?_) (fun c4 => ?_)
    · refine js_iconst (pc1 := 174) rfl rfl ?_
      exact je_I rfl (zfit0 _ rfl) rfl (zlit rfl)
    · refine js_iload (pc1 := 168) rfl rfl rfl ?_
      refine js_iconst (pc1 := 170) rfl rfl ?_
      refine jt_le (pc1 := 173) (t1 := 175) hx8 (zlit rfl) rfl rfl rfl (fun c5 => ?_) (fun c5 => ?_)
      · refine js_iconst (pc1 := 174) rfl rfl ?_
        exact je_I rfl (zfit0 _ rfl) rfl (zlit rfl)
      · refine js_iload (pc1 := 177) rfl rfl rfl ?_
        refine js_iconst (pc1 := 178) rfl rfl ?_
        refine jt_ne (pc1 := 181) (t1 := 194) hx4 (zlit rfl) rfl rfl rfl (fun c6 => ?_) (fun c6 => ?_)
        · refine js_aload (pc1 := 182) rfl rfl rfl ?_
          refine js_gfr (pc1 := 185) (j := 96) (r := 292) rfl rfl rfl rfl rfl ?_
          refine js_iload (pc1 := 187) rfl rfl rfl ?_
          refine js_aload (pc1 := 188) rfl rfl rfl ?_
          refine js_iload (pc1 := 190) rfl rfl rfl ?_
          refine js_cP (pc1 := 193) (as := [(.inr (.inr (some 226))), (.inl x6)]) (S0 := [(.inl x8), (.inr (.inr (some 292)))]) (m := 2) (L0 := [some (.inr (.inr (some 226))), some (.inl x6)]) rfl rfl rfl rfl rfl rfl rfl rfl (zrc_o rfl rfl) (by omega) (by omega) (z_M_read_ok N (by omega) (by omega) x6 hx6 A2) (fun v7 _ hv7 => ?_)
          refine jt_ias (pc1 := 194) rfl rfl rfl rfl (fun A8 => ?_)
          refine js_aload (pc1 := 195) rfl rfl rfl ?_
          refine js_gfr (pc1 := 198) (j := 96) (r := 292) rfl rfl rfl rfl rfl ?_
          refine js_iload (pc1 := 200) rfl rfl rfl ?_
          refine jt_ald (pc1 := 201) rfl rfl rfl rfl rfl (fun v9 hv9 => ?_)
          refine js_istore (pc1 := 203) (L1 := [some (.inr (.inr (some 226))), none, none, some (.inl x3), some (.inl x4), some (.inl x5), some (.inl x6), some (.inl v9), some (.inl x8), none]) rfl rfl rfl rfl ?_
          refine js_goto (t1 := 371) rfl rfl ?_
          exact zG_to (L := [some (.inr (.inr (some 226))), none, none, some (.inl x3), some (.inl x4), some (.inl x5), none, some (.inl v9), none, none]) (S := []) ⟨rfl, ⟨rfl, ⟨rfl, ⟨rfl, ⟨rfl, trivial⟩⟩⟩⟩⟩ (rfl) (z_M_doItem_371_ok N hd hw x3 hx3 x4 hx4 x5 hx5 v9 hv9 A8)
        · refine js_aload (pc1 := 195) rfl rfl rfl ?_
          refine js_gfr (pc1 := 198) (j := 96) (r := 292) rfl rfl rfl rfl rfl ?_
          refine js_iload (pc1 := 200) rfl rfl rfl ?_
          refine jt_ald (pc1 := 201) rfl rfl rfl rfl rfl (fun v10 hv10 => ?_)
          refine js_istore (pc1 := 203) (L1 := [some (.inr (.inr (some 226))), none, none, some (.inl x3), some (.inl x4), some (.inl x5), some (.inl x6), some (.inl v10), some (.inl x8), none]) rfl rfl rfl rfl ?_
          refine js_goto (t1 := 371) rfl rfl ?_
          exact zG_to (L := [some (.inr (.inr (some 226))), none, none, some (.inl x3), some (.inl x4), some (.inl x5), none, some (.inl v10), none, none]) (S := []) ⟨rfl, ⟨rfl, ⟨rfl, ⟨rfl, ⟨rfl, trivial⟩⟩⟩⟩⟩ (rfl) (z_M_doItem_371_ok N hd hw x3 hx3 x4 hx4 x5 hx5 v10 hv10 A2)
theorem z_M_doItem_138_ok{d w : Nat} (N : Nat) (hd : 2 ≤ d) (hw : 46 ≤ w) (x3 : Int) (hx3 : zrg x3) (x4 : Int) (hx4 : zrg x4) (x5 : Int) (hx5 : zrg x5) (x6 : Int) (hx6 : zrg x6) (s0 : Int) (hs0 : zrg s0) (A : zA) : zG (z_M_doItem_138 N x3 x4 x5 x6 s0 A) zPI d w 70 138 [some (.inr (.inr (some 226))), none, none, some (.inl x3), some (.inl x4), some (.inl x5), some (.inl x6), none, none, none] [(.inl s0)] A := by
  unfold z_M_doItem_138
  refine js_istore (pc1 := 140) (L1 := [some (.inr (.inr (some 226))), none, none, some (.inl x3), some (.inl x4), some (.inl x5), some (.inl x6), none, some (.inl s0), none]) rfl rfl rfl rfl ?_
  refine js_aload (pc1 := 141) rfl rfl rfl ?_
  refine js_iload (pc1 := 143) rfl rfl rfl ?_
  refine js_iconst (pc1 := 144) rfl rfl ?_
  refine jt_ne (pc1 := 147) (t1 := 151) hx4 (zlit rfl) rfl rfl rfl (fun c1 => ?_) (fun c1 => ?_)
  · refine js_iconst (pc1 := 148) rfl rfl ?_
    refine js_goto (t1 := 152) rfl rfl ?_
    exact z_M_doItem_152_ok N hd hw x3 hx3 x4 hx4 x5 hx5 x6 hx6 s0 hs0 2 (zlit rfl) A
  · refine js_iconst (pc1 := 152) rfl rfl ?_
    exact z_M_doItem_152_ok N hd hw x3 hx3 x4 hx4 x5 hx5 x6 hx6 s0 hs0 3 (zlit rfl) A
theorem z_M_doItem_117_ok{d w : Nat} (N : Nat) (hd : 2 ≤ d) (hw : 46 ≤ w) (x3 : Int) (hx3 : zrg x3) (x4 : Int) (hx4 : zrg x4) (x5 : Int) (hx5 : zrg x5) (x6 : Int) (hx6 : zrg x6) (A : zA) : zG (z_M_doItem_117 N x3 x4 x5 x6 A) zPI d w 70 117 [some (.inr (.inr (some 226))), none, none, some (.inl x3), some (.inl x4), some (.inl x5), some (.inl x6), none, none, none] [] A := by
  unfold z_M_doItem_117
  refine js_iload (pc1 := 119) rfl rfl rfl ?_
  refine js_iconst (pc1 := 120) rfl rfl ?_
  refine jt_ne (pc1 := 123) (t1 := 132) hx4 (zlit rfl) rfl rfl rfl (fun c1 => ?_) (fun c1 => ?_)
  · refine js_aload (pc1 := 124) rfl rfl rfl ?_
    refine js_iload (pc1 := 126) rfl rfl rfl ?_
    refine js_cP (pc1 := 129) (as := [(.inr (.inr (some 226))), (.inl x6)]) (S0 := []) (m := 2) (L0 := [some (.inr (.inr (some 226))), some (.inl x6)]) rfl rfl rfl rfl rfl rfl rfl rfl (zrc_o rfl rfl) (by omega) (by omega) (z_M_read_ok N (by omega) (by omega) x6 hx6 A) (fun v2 _ hv2 => ?_)
    refine js_goto (t1 := 138) rfl rfl ?_
    exact z_M_doItem_138_ok N hd hw x3 hx3 x4 hx4 x5 hx5 x6 hx6 v2 hv2 A
  · refine js_aload (pc1 := 133) rfl rfl rfl ?_
    refine js_iload (pc1 := 135) rfl rfl rfl ?_
    refine js_cP (pc1 := 138) (as := [(.inr (.inr (some 226))), (.inl x5)]) (S0 := []) (m := 2) (L0 := [some (.inr (.inr (some 226))), some (.inl x5)]) rfl rfl rfl rfl rfl rfl rfl rfl (zrc_o rfl rfl) (by omega) (by omega) (z_M_read_ok N (by omega) (by omega) x5 hx5 A) (fun v3 _ hv3 => ?_)
    exact z_M_doItem_138_ok N hd hw x3 hx3 x4 hx4 x5 hx5 x6 hx6 v3 hv3 A
theorem z_M_doItem_349_ok{d w : Nat} (N : Nat) (hd : 2 ≤ d) (hw : 46 ≤ w) (x3 : Int) (hx3 : zrg x3) (x4 : Int) (hx4 : zrg x4) (x5 : Int) (hx5 : zrg x5) (s0 : Int) (hs0 : zrg s0) (A : zA) : zG (z_M_doItem_349 N x3 x4 x5 s0 A) zPI d w 70 349 [some (.inr (.inr (some 226))), none, none, some (.inl x3), some (.inl x4), some (.inl x5), none, none, none, none] [(.inl s0)] A := by
  unfold z_M_doItem_349
  refine js_istore (pc1 := 351) (L1 := [some (.inr (.inr (some 226))), none, none, some (.inl x3), some (.inl x4), some (.inl x5), none, some (.inl s0), none, none]) rfl rfl rfl rfl ?_
  refine js_aload (pc1 := 352) rfl rfl rfl ?_
  refine js_dupR (pc1 := 353) rfl rfl ?_
  refine js_gi (pc1 := 356) (j := 94) rfl rfl rfl rfl ?_
  refine js_iload (pc1 := 358) rfl rfl rfl ?_
  refine js_iconst (pc1 := 359) rfl rfl ?_
  refine jt_ne (pc1 := 362) (t1 := 366) hx4 (zlit rfl) rfl rfl rfl (fun c1 => ?_) (fun c1 => ?_)
  · refine js_iconst (pc1 := 363) rfl rfl ?_
    refine js_goto (t1 := 367) rfl rfl ?_
    refine js_iadd (pc1 := 368) rfl rfl ?_
    refine jt_pi (pc1 := 371) (j := 94) rfl rfl rfl rfl rfl (fun A2 => ?_)
    exact z_M_doItem_371_ok N hd hw x3 hx3 x4 hx4 x5 hx5 s0 hs0 A2
  · refine js_iconst (pc1 := 367) rfl rfl ?_
    refine js_iadd (pc1 := 368) rfl rfl ?_
    refine jt_pi (pc1 := 371) (j := 94) rfl rfl rfl rfl rfl (fun A3 => ?_)
    exact z_M_doItem_371_ok N hd hw x3 hx3 x4 hx4 x5 hx5 s0 hs0 A3
theorem z_M_doItem_ok{d w : Nat} (N : Nat) (hd : 2 ≤ d) (hw : 46 ≤ w) (x1 : Int) (hx1 : zrg x1) (x2 : Int) (hx2 : zrg x2) (x3 : Int) (hx3 : zrg x3) (A : zA) : zG (z_M_doItem N x1 x2 x3 A) zPI d w 70 0 [some (.inr (.inr (some 226))), some (.inl x1), some (.inl x2), some (.inl x3), none, none, none, none, none, none] [] A := by
  unfold z_M_doItem
  refine js_aload (pc1 := 1) rfl rfl rfl ?_
  refine js_iconst (pc1 := 2) rfl rfl ?_
  refine js_iload (pc1 := 3) rfl rfl rfl ?_
  refine js_iload (pc1 := 4) rfl rfl rfl ?_
  refine js_iconst (pc1 := 5) rfl rfl ?_
  refine js_cP (pc1 := 8) (as := [(.inr (.inr (some 226))), (.inl 0), (.inl x1), (.inl x2), (.inl 0)]) (S0 := []) (m := 5) (L0 := [some (.inr (.inr (some 226))), some (.inl 0), some (.inl x1), some (.inl x2), some (.inl 0)]) rfl rfl rfl rfl rfl rfl rfl rfl (zrc_o rfl rfl) (by omega) (by omega) (z_M_field_ok N (by omega) (by omega) 0 (zlit rfl) x1 hx1 x2 hx2 0 (zlit rfl) A) (fun v1 _ hv1 => ?_)
  refine js_istore (pc1 := 10) (L1 := [some (.inr (.inr (some 226))), some (.inl x1), some (.inl x2), some (.inl x3), some (.inl v1), none, none, none, none, none]) rfl rfl rfl rfl ?_
  refine js_aload (pc1 := 11) rfl rfl rfl ?_
  refine js_iconst (pc1 := 12) rfl rfl ?_
  refine js_iload (pc1 := 13) rfl rfl rfl ?_
  refine js_iload (pc1 := 14) rfl rfl rfl ?_
  refine js_iconst (pc1 := 15) rfl rfl ?_
  refine js_cP (pc1 := 18) (as := [(.inr (.inr (some 226))), (.inl 0), (.inl x1), (.inl x2), (.inl 1)]) (S0 := []) (m := 5) (L0 := [some (.inr (.inr (some 226))), some (.inl 0), some (.inl x1), some (.inl x2), some (.inl 1)]) rfl rfl rfl rfl rfl rfl rfl rfl (zrc_o rfl rfl) (by omega) (by omega) (z_M_field_ok N (by omega) (by omega) 0 (zlit rfl) x1 hx1 x2 hx2 1 (zlit rfl) A) (fun v2 _ hv2 => ?_)
  refine js_istore (pc1 := 20) (L1 := [some (.inr (.inr (some 226))), some (.inl x1), some (.inl x2), some (.inl x3), some (.inl v1), some (.inl v2), none, none, none, none]) rfl rfl rfl rfl ?_
  refine js_aload (pc1 := 21) rfl rfl rfl ?_
  refine js_iconst (pc1 := 22) rfl rfl ?_
  refine js_iload (pc1 := 23) rfl rfl rfl ?_
  refine js_iload (pc1 := 24) rfl rfl rfl ?_
  refine js_iconst (pc1 := 25) rfl rfl ?_
  refine js_cP (pc1 := 28) (as := [(.inr (.inr (some 226))), (.inl 0), (.inl x1), (.inl x2), (.inl 2)]) (S0 := []) (m := 5) (L0 := [some (.inr (.inr (some 226))), some (.inl 0), some (.inl x1), some (.inl x2), some (.inl 2)]) rfl rfl rfl rfl rfl rfl rfl rfl (zrc_o rfl rfl) (by omega) (by omega) (z_M_field_ok N (by omega) (by omega) 0 (zlit rfl) x1 hx1 x2 hx2 2 (zlit rfl) A) (fun v3 _ hv3 => ?_)
  refine js_istore (pc1 := 30) (L1 := [some (.inr (.inr (some 226))), some (.inl x1), some (.inl x2), some (.inl x3), some (.inl v1), some (.inl v2), some (.inl v3), none, none, none]) rfl rfl rfl rfl ?_
  refine js_iconst (pc1 := 31) rfl rfl ?_
  refine js_istore (pc1 := 33) (L1 := [some (.inr (.inr (some 226))), some (.inl x1), some (.inl x2), some (.inl x3), some (.inl v1), some (.inl v2), some (.inl v3), some (.inl 0), none, none]) rfl rfl rfl rfl ?_
  refine js_iload (pc1 := 35) rfl rfl rfl ?_
  refine js_iconst (pc1 := 36) rfl rfl ?_
  refine jt_ne (pc1 := 39) (t1 := 105) hv1 (zlit rfl) rfl rfl rfl (fun c4 => ?_) (fun c4 => ?_)
  · refine js_aload (pc1 := 40) rfl rfl rfl ?_
    refine js_iconst (pc1 := 41) rfl rfl ?_
    refine js_iload (pc1 := 42) rfl rfl rfl ?_
    refine js_iload (pc1 := 43) rfl rfl rfl ?_
    refine js_iconst (pc1 := 44) rfl rfl ?_
    refine js_cP (pc1 := 47) (as := [(.inr (.inr (some 226))), (.inl 0), (.inl x1), (.inl x2), (.inl 4)]) (S0 := []) (m := 5) (L0 := [some (.inr (.inr (some 226))), some (.inl 0), some (.inl x1), some (.inl x2), some (.inl 4)]) rfl rfl rfl rfl rfl rfl rfl rfl (zrc_o rfl rfl) (by omega) (by omega) (z_M_field_ok N (by omega) (by omega) 0 (zlit rfl) x1 hx1 x2 hx2 4 (zlit rfl) A) (fun v5 _ hv5 => ?_)
    refine js_istore (pc1 := 49) (L1 := [some (.inr (.inr (some 226))), some (.inl x1), some (.inl x2), some (.inl x3), some (.inl v1), some (.inl v2), some (.inl v3), some (.inl 0), some (.inl v5), none]) rfl rfl rfl rfl ?_
    refine js_aload (pc1 := 50) rfl rfl rfl ?_
    refine js_aload (pc1 := 51) rfl rfl rfl ?_
    refine js_iconst (pc1 := 52) rfl rfl ?_
    refine js_iload (pc1 := 53) rfl rfl rfl ?_
    refine js_iload (pc1 := 54) rfl rfl rfl ?_
    refine js_iconst (pc1 := 55) rfl rfl ?_
    refine js_cP (pc1 := 58) (as := [(.inr (.inr (some 226))), (.inl 0), (.inl x1), (.inl x2), (.inl 3)]) (S0 := [(.inr (.inr (some 226)))]) (m := 5) (L0 := [some (.inr (.inr (some 226))), some (.inl 0), some (.inl x1), some (.inl x2), some (.inl 3)]) rfl rfl rfl rfl rfl rfl rfl rfl (zrc_o rfl rfl) (by omega) (by omega) (z_M_field_ok N (by omega) (by omega) 0 (zlit rfl) x1 hx1 x2 hx2 3 (zlit rfl) A) (fun v6 _ hv6 => ?_)
    refine js_cP (pc1 := 61) (as := [(.inr (.inr (some 226))), (.inl v6)]) (S0 := []) (m := 2) (L0 := [some (.inr (.inr (some 226))), some (.inl v6)]) rfl rfl rfl rfl rfl rfl rfl rfl (zrc_o rfl rfl) (by omega) (by omega) (z_M_read_ok N (by omega) (by omega) v6 hv6 A) (fun v7 _ hv7 => ?_)
    refine js_istore (pc1 := 63) (L1 := [some (.inr (.inr (some 226))), some (.inl x1), some (.inl x2), some (.inl x3), some (.inl v1), some (.inl v2), some (.inl v3), some (.inl 0), some (.inl v5), some (.inl v7)]) rfl rfl rfl rfl ?_
    refine js_aload (pc1 := 64) rfl rfl rfl ?_
    refine js_iconst (pc1 := 65) rfl rfl ?_
    refine js_iload (pc1 := 66) rfl rfl rfl ?_
    refine js_cI (pc1 := 69) (as := [(.inr (.inr (some 226))), (.inl 3), (.inl x3)]) (S0 := []) (m := 4) (L0 := [some (.inr (.inr (some 226))), some (.inl 3), some (.inl x3), none]) rfl rfl rfl rfl rfl rfl rfl rfl (zrc_o rfl rfl) (by omega) (by omega) (z_M_burn_ok N (by omega) (by omega) 3 (zlit rfl) x3 hx3 A) (fun v8 A9 _ hv8 => ?_)
    refine ju_ne (pc1 := 72) (t1 := 74) hv8 rfl rfl rfl (fun c10 => ?_) (fun c10 => ?_)
    · refine js_iconst (pc1 := 73) rfl rfl ?_
      exact je_I rfl (zfit0 _ rfl) rfl (zlit rfl)
    · refine js_iload (pc1 := 76) rfl rfl rfl ?_
      refine js_iconst (pc1 := 77) rfl rfl ?_
      refine jt_ne (pc1 := 80) (t1 := 87) hv5 (zlit rfl) rfl rfl rfl (fun c11 => ?_) (fun c11 => ?_)
      · refine js_iload (pc1 := 82) rfl rfl rfl ?_
        refine ju_ne (pc1 := 85) (t1 := 87) hv7 rfl rfl rfl (fun c12 => ?_) (fun c12 => ?_)
        · refine js_iconst (pc1 := 86) rfl rfl ?_
          exact je_I rfl (zfit0 _ rfl) rfl (zlit rfl)
        · exact zG_to (L := [some (.inr (.inr (some 226))), none, none, some (.inl x3), some (.inl v1), some (.inl v2), some (.inl v3), none, some (.inl v5), some (.inl v7)]) (S := []) ⟨rfl, ⟨rfl, ⟨rfl, ⟨rfl, ⟨rfl, ⟨rfl, ⟨rfl, trivial⟩⟩⟩⟩⟩⟩⟩ (rfl) (z_M_doItem_87_ok N hd hw x3 hx3 v1 hv1 v2 hv2 v3 hv3 v5 hv5 v7 hv7 A9)
      · exact zG_to (L := [some (.inr (.inr (some 226))), none, none, some (.inl x3), some (.inl v1), some (.inl v2), some (.inl v3), none, some (.inl v5), some (.inl v7)]) (S := []) ⟨rfl, ⟨rfl, ⟨rfl, ⟨rfl, ⟨rfl, ⟨rfl, ⟨rfl, trivial⟩⟩⟩⟩⟩⟩⟩ (rfl) (z_M_doItem_87_ok N hd hw x3 hx3 v1 hv1 v2 hv2 v3 hv3 v5 hv5 v7 hv7 A9)
  · refine js_iload (pc1 := 107) rfl rfl rfl ?_
    refine js_iconst (pc1 := 108) rfl rfl ?_
    refine jt_eq (pc1 := 111) (t1 := 117) hv1 (zlit rfl) rfl rfl rfl (fun c13 => ?_) (fun c13 => ?_)
    · exact zG_to (L := [some (.inr (.inr (some 226))), none, none, some (.inl x3), some (.inl v1), some (.inl v2), some (.inl v3), none, none, none]) (S := []) ⟨rfl, ⟨rfl, ⟨rfl, ⟨rfl, ⟨rfl, trivial⟩⟩⟩⟩⟩ (rfl) (z_M_doItem_117_ok N hd hw x3 hx3 v1 hv1 v2 hv2 v3 hv3 A)
    · refine js_iload (pc1 := 113) rfl rfl rfl ?_
      refine js_iconst (pc1 := 114) rfl rfl ?_
      refine jt_ne (pc1 := 117) (t1 := 206) hv1 (zlit rfl) rfl rfl rfl (fun c14 => ?_) (fun c14 => ?_)
      · exact zG_to (L := [some (.inr (.inr (some 226))), none, none, some (.inl x3), some (.inl v1), some (.inl v2), some (.inl v3), none, none, none]) (S := []) ⟨rfl, ⟨rfl, ⟨rfl, ⟨rfl, ⟨rfl, trivial⟩⟩⟩⟩⟩ (rfl) (z_M_doItem_117_ok N hd hw x3 hx3 v1 hv1 v2 hv2 v3 hv3 A)
      · refine js_iload (pc1 := 208) rfl rfl rfl ?_
        refine js_iconst (pc1 := 210) rfl rfl ?_
        refine jt_ne (pc1 := 213) (t1 := 289) hv1 (zlit rfl) rfl rfl rfl (fun c15 => ?_) (fun c15 => ?_)
        · refine js_aload (pc1 := 214) rfl rfl rfl ?_
          refine js_gi (pc1 := 217) (j := 93) rfl rfl rfl rfl ?_
          refine js_iconst (pc1 := 218) rfl rfl ?_
          refine js_iadd (pc1 := 219) rfl rfl ?_
          refine js_iload (pc1 := 220) rfl rfl rfl ?_
          refine zG_w2 ?_
          refine jt_le (pc1 := 223) (t1 := 230) (zw_rg ((zi A 226 93) + 2)) hx3 rfl rfl rfl (fun c16 => ?_) (fun c16 => ?_)
          · refine js_aload (pc1 := 224) rfl rfl rfl ?_
            refine js_iload (pc1 := 225) rfl rfl rfl ?_
            refine jt_pi (pc1 := 228) (j := 93) rfl rfl rfl rfl rfl (fun A17 => ?_)
            refine js_iconst (pc1 := 229) rfl rfl ?_
            exact je_I rfl (zfit0 _ rfl) rfl (zlit rfl)
          · refine js_aload (pc1 := 231) rfl rfl rfl ?_
            refine js_gi (pc1 := 234) (j := 92) rfl rfl rfl rfl ?_
            refine js_iconst (pc1 := 236) rfl rfl ?_
            refine jt_ne (pc1 := 239) (t1 := 251) (zi_rg _ _ _) (zlit rfl) rfl rfl rfl (fun c18 => ?_) (fun c18 => ?_)
            · refine js_aload (pc1 := 240) rfl rfl rfl ?_
              refine js_dupR (pc1 := 241) rfl rfl ?_
              refine js_gi (pc1 := 244) (j := 93) rfl rfl rfl rfl ?_
              refine js_iconst (pc1 := 245) rfl rfl ?_
              refine js_iadd (pc1 := 246) rfl rfl ?_
              refine jt_pi (pc1 := 249) (j := 93) rfl rfl rfl rfl rfl (fun A19 => ?_)
              refine js_iconst (pc1 := 250) rfl rfl ?_
              exact je_I rfl (zfit0 _ rfl) rfl (zlit rfl)
            · refine js_aload (pc1 := 252) rfl rfl rfl ?_
              refine js_gfr (pc1 := 255) (j := 95) (r := 291) rfl rfl rfl rfl rfl ?_
              refine js_aload (pc1 := 256) rfl rfl rfl ?_
              refine js_gi (pc1 := 259) (j := 92) rfl rfl rfl rfl ?_
              refine js_aload (pc1 := 260) rfl rfl rfl ?_
              refine js_iload (pc1 := 262) rfl rfl rfl ?_
              refine js_cP (pc1 := 265) (as := [(.inr (.inr (some 226))), (.inl v2)]) (S0 := [(.inl (zi A 226 92)), (.inr (.inr (some 291)))]) (m := 2) (L0 := [some (.inr (.inr (some 226))), some (.inl v2)]) rfl rfl rfl rfl rfl rfl rfl rfl (zrc_o rfl rfl) (by omega) (by omega) (z_M_read_ok N (by omega) (by omega) v2 hv2 A) (fun v20 _ hv20 => ?_)
              refine jt_ias (pc1 := 266) rfl rfl rfl rfl (fun A21 => ?_)
              refine js_aload (pc1 := 267) rfl rfl rfl ?_
              refine js_dupR (pc1 := 268) rfl rfl ?_
              refine js_gi (pc1 := 271) (j := 92) rfl rfl rfl rfl ?_
              refine js_iconst (pc1 := 272) rfl rfl ?_
              refine js_iadd (pc1 := 273) rfl rfl ?_
              refine jt_pi (pc1 := 276) (j := 92) rfl rfl rfl rfl rfl (fun A22 => ?_)
              refine js_aload (pc1 := 277) rfl rfl rfl ?_
              refine js_dupR (pc1 := 278) rfl rfl ?_
              refine js_gi (pc1 := 281) (j := 93) rfl rfl rfl rfl ?_
              refine js_iconst (pc1 := 282) rfl rfl ?_
              refine js_iadd (pc1 := 283) rfl rfl ?_
              refine jt_pi (pc1 := 286) (j := 93) rfl rfl rfl rfl rfl (fun A23 => ?_)
              refine js_goto (t1 := 371) rfl rfl ?_
              exact zG_to (L := [some (.inr (.inr (some 226))), none, none, some (.inl x3), some (.inl v1), some (.inl v2), none, some (.inl 0), none, none]) (S := []) ⟨rfl, ⟨rfl, ⟨rfl, ⟨rfl, ⟨rfl, trivial⟩⟩⟩⟩⟩ (rfl) (z_M_doItem_371_ok N hd hw x3 hx3 v1 hv1 v2 hv2 0 (zlit rfl) A23)
        · refine js_aload (pc1 := 290) rfl rfl rfl ?_
          refine js_iconst (pc1 := 291) rfl rfl ?_
          refine js_iload (pc1 := 292) rfl rfl rfl ?_
          refine js_cI (pc1 := 295) (as := [(.inr (.inr (some 226))), (.inl 1), (.inl x3)]) (S0 := []) (m := 4) (L0 := [some (.inr (.inr (some 226))), some (.inl 1), some (.inl x3), none]) rfl rfl rfl rfl rfl rfl rfl rfl (zrc_o rfl rfl) (by omega) (by omega) (z_M_burn_ok N (by omega) (by omega) 1 (zlit rfl) x3 hx3 A) (fun v24 A25 _ hv24 => ?_)
          refine ju_ne (pc1 := 298) (t1 := 300) hv24 rfl rfl rfl (fun c26 => ?_) (fun c26 => ?_)
          · refine js_iconst (pc1 := 299) rfl rfl ?_
            exact je_I rfl (zfit0 _ rfl) rfl (zlit rfl)
          · refine js_iload (pc1 := 302) rfl rfl rfl ?_
            refine ju_ne (pc1 := 305) (t1 := 310) hv1 rfl rfl rfl (fun c27 => ?_) (fun c27 => ?_)
            · refine js_iload (pc1 := 307) rfl rfl rfl ?_
              refine js_goto (t1 := 349) rfl rfl ?_
              exact zG_to (L := [some (.inr (.inr (some 226))), none, none, some (.inl x3), some (.inl v1), some (.inl v2), none, none, none, none]) (S := [(.inl v3)]) ⟨rfl, ⟨rfl, ⟨rfl, ⟨rfl, trivial⟩⟩⟩⟩ (rfl) (z_M_doItem_349_ok N hd hw x3 hx3 v1 hv1 v2 hv2 v3 hv3 A25)
            · refine js_iload (pc1 := 312) rfl rfl rfl ?_
              refine js_iconst (pc1 := 313) rfl rfl ?_
              refine jt_ne (pc1 := 316) (t1 := 325) hv1 (zlit rfl) rfl rfl rfl (fun c28 => ?_) (fun c28 => ?_)
              · refine js_aload (pc1 := 317) rfl rfl rfl ?_
                refine js_iload (pc1 := 319) rfl rfl rfl ?_
                refine js_cP (pc1 := 322) (as := [(.inr (.inr (some 226))), (.inl v3)]) (S0 := []) (m := 2) (L0 := [some (.inr (.inr (some 226))), some (.inl v3)]) rfl rfl rfl rfl rfl rfl rfl rfl (zrc_o rfl rfl) (by omega) (by omega) (z_M_read_ok N (by omega) (by omega) v3 hv3 A25) (fun v29 _ hv29 => ?_)
                refine js_goto (t1 := 349) rfl rfl ?_
                exact zG_to (L := [some (.inr (.inr (some 226))), none, none, some (.inl x3), some (.inl v1), some (.inl v2), none, none, none, none]) (S := [(.inl v29)]) ⟨rfl, ⟨rfl, ⟨rfl, ⟨rfl, trivial⟩⟩⟩⟩ (rfl) (z_M_doItem_349_ok N hd hw x3 hx3 v1 hv1 v2 hv2 v29 hv29 A25)
              · refine js_aload (pc1 := 326) rfl rfl rfl ?_
                refine js_gi (pc1 := 329) (j := 94) rfl rfl rfl rfl ?_
                refine js_aload (pc1 := 330) rfl rfl rfl ?_
                refine js_gi (pc1 := 333) (j := 10) rfl rfl rfl rfl ?_
                refine jt_ge (pc1 := 336) (t1 := 348) (zi_rg _ _ _) (zi_rg _ _ _) rfl rfl rfl (fun c30 => ?_) (fun c30 => ?_)
                · refine js_aload (pc1 := 337) rfl rfl rfl ?_
                  refine js_gfr (pc1 := 340) (j := 11) (r := 232) rfl rfl rfl rfl rfl ?_
                  refine js_aload (pc1 := 341) rfl rfl rfl ?_
                  refine js_gi (pc1 := 344) (j := 94) rfl rfl rfl rfl ?_
                  refine jt_ald (pc1 := 345) rfl rfl rfl rfl rfl (fun v31 hv31 => ?_)
                  refine js_goto (t1 := 349) rfl rfl ?_
                  exact zG_to (L := [some (.inr (.inr (some 226))), none, none, some (.inl x3), some (.inl v1), some (.inl v2), none, none, none, none]) (S := [(.inl v31)]) ⟨rfl, ⟨rfl, ⟨rfl, ⟨rfl, trivial⟩⟩⟩⟩ (rfl) (z_M_doItem_349_ok N hd hw x3 hx3 v1 hv1 v2 hv2 v31 hv31 A25)
                · refine js_iconst (pc1 := 349) rfl rfl ?_
                  exact zG_to (L := [some (.inr (.inr (some 226))), none, none, some (.inl x3), some (.inl v1), some (.inl v2), none, none, none, none]) (S := [(.inl 0)]) ⟨rfl, ⟨rfl, ⟨rfl, ⟨rfl, trivial⟩⟩⟩⟩ (rfl) (z_M_doItem_349_ok N hd hw x3 hx3 v1 hv1 v2 hv2 0 (zlit rfl) A25)
theorem z_M_run_17_ok{d w : Nat} (N : Nat) (hd : 4 ≤ d) (hw : 92 ≤ w) (A : zA) : zG (z_M_run_17 N A) zPI d w 27 17 [some (.inr (.inr (some 226))), none, none, none, none, none, none, none, none] [] A := by
  unfold z_M_run_17
  refine js_aload (pc1 := 18) rfl rfl rfl ?_
  refine js_iconst (pc1 := 19) rfl rfl ?_
  refine js_cI (pc1 := 22) (as := [(.inr (.inr (some 226))), (.inl 1)]) (S0 := []) (m := 2) (L0 := [some (.inr (.inr (some 226))), some (.inl 1)]) rfl rfl rfl rfl rfl rfl rfl rfl (zrc_o rfl rfl) (by omega) (by omega) (z_M_fail_ok N (by omega) (by omega) 1 (zlit rfl) A) (fun v1 A2 _ hv1 => ?_)
  exact je_I rfl (zfit0 _ rfl) rfl hv1
theorem z_M_run_122_ok{d w : Nat} {r34 : Int → Int → Int → Int → zA → Option (Int × zA)} (hr34 : ∀ (x1 : Int) (hx1 : zrg x1) (x2 : Int) (hx2 : zrg x2) (x3 : Int) (hx3 : zrg x3) (x4 : Int) (hx4 : zrg x4) (A : zA), zG (r34 x1 x2 x3 x4 A) zPI d w 27 34 [some (.inr (.inr (some 226))), some (.inl x1), some (.inl x2), some (.inl x3), some (.inl x4), none, none, none, none] [] A) (N : Nat) (hd : 4 ≤ d) (hw : 92 ≤ w) (x1 : Int) (hx1 : zrg x1) (x2 : Int) (hx2 : zrg x2) (x3 : Int) (hx3 : zrg x3) (s0 : Int) (hs0 : zrg s0) (A : zA) : zG (z_M_run_122 r34 N x1 x2 x3 s0 A) zPI d w 27 122 [some (.inr (.inr (some 226))), some (.inl x1), some (.inl x2), some (.inl x3), none, none, none, none, none] [(.inl s0)] A := by
  unfold z_M_run_122
  refine js_istore (pc1 := 124) (L1 := [some (.inr (.inr (some 226))), some (.inl x1), some (.inl x2), some (.inl x3), some (.inl s0), none, none, none, none]) rfl rfl rfl rfl ?_
  refine js_aload (pc1 := 125) rfl rfl rfl ?_
  refine js_gi (pc1 := 128) (j := 62) rfl rfl rfl rfl ?_
  refine ju_le (pc1 := 131) (t1 := 456) (zi_rg _ _ _) rfl rfl rfl (fun c1 => ?_) (fun c1 => ?_)
  · refine js_aload (pc1 := 132) rfl rfl rfl ?_
    refine js_dupR (pc1 := 133) rfl rfl ?_
    refine js_gi (pc1 := 136) (j := 62) rfl rfl rfl rfl ?_
    refine js_iconst (pc1 := 137) rfl rfl ?_
    refine js_isub (pc1 := 138) rfl rfl ?_
    refine jt_pi (pc1 := 141) (j := 62) rfl rfl rfl rfl rfl (fun A2 => ?_)
    refine js_aload (pc1 := 142) rfl rfl rfl ?_
    refine js_gfr (pc1 := 145) (j := 60) (r := 269) rfl rfl rfl rfl rfl ?_
    refine js_aload (pc1 := 146) rfl rfl rfl ?_
    refine js_gi (pc1 := 149) (j := 62) rfl rfl rfl rfl ?_
    refine jt_ald (pc1 := 150) rfl rfl rfl rfl rfl (fun v3 hv3 => ?_)
    refine js_istore (pc1 := 151) (L1 := [some (.inr (.inr (some 226))), some (.inl x1), some (.inl v3), some (.inl x3), some (.inl s0), none, none, none, none]) rfl rfl rfl rfl ?_
    refine js_aload (pc1 := 152) rfl rfl rfl ?_
    refine js_gfr (pc1 := 155) (j := 61) (r := 270) rfl rfl rfl rfl rfl ?_
    refine js_aload (pc1 := 156) rfl rfl rfl ?_
    refine js_gi (pc1 := 159) (j := 62) rfl rfl rfl rfl ?_
    refine jt_ald (pc1 := 160) rfl rfl rfl rfl rfl (fun v4 hv4 => ?_)
    refine js_istore (pc1 := 161) (L1 := [some (.inr (.inr (some 226))), some (.inl x1), some (.inl v3), some (.inl v4), some (.inl s0), none, none, none, none]) rfl rfl rfl rfl ?_
    refine js_goto (t1 := 456) rfl rfl ?_
    refine js_goto (t1 := 34) rfl rfl ?_
    exact hr34 x1 hx1 v3 hv3 v4 hv4 s0 hs0 A2
  · refine js_goto (t1 := 34) rfl rfl ?_
    exact hr34 x1 hx1 x2 hx2 x3 hx3 s0 hs0 A
theorem z_M_run_266_ok{d w : Nat} {r34 : Int → Int → Int → Int → zA → Option (Int × zA)} (hr34 : ∀ (x1 : Int) (hx1 : zrg x1) (x2 : Int) (hx2 : zrg x2) (x3 : Int) (hx3 : zrg x3) (x4 : Int) (hx4 : zrg x4) (A : zA), zG (r34 x1 x2 x3 x4 A) zPI d w 27 34 [some (.inr (.inr (some 226))), some (.inl x1), some (.inl x2), some (.inl x3), some (.inl x4), none, none, none, none] [] A) (N : Nat) (hd : 4 ≤ d) (hw : 92 ≤ w) (x1 : Int) (hx1 : zrg x1) (x2 : Int) (hx2 : zrg x2) (x3 : Int) (hx3 : zrg x3) (x4 : Int) (hx4 : zrg x4) (x6 : Int) (hx6 : zrg x6) (A : zA) : zG (z_M_run_266 r34 N x1 x2 x3 x4 x6 A) zPI d w 27 266 [some (.inr (.inr (some 226))), some (.inl x1), some (.inl x2), some (.inl x3), some (.inl x4), none, some (.inl x6), none, none] [] A := by
  unfold z_M_run_266
  refine js_aload (pc1 := 267) rfl rfl rfl ?_
  refine js_gfr (pc1 := 270) (j := 98) (r := 294) rfl rfl rfl rfl rfl ?_
  refine js_iconst (pc1 := 272) rfl rfl ?_
  refine js_aload (pc1 := 273) rfl rfl rfl ?_
  refine js_gi (pc1 := 276) (j := 62) rfl rfl rfl rfl ?_
  refine js_imul (pc1 := 277) rfl rfl ?_
  refine js_iconst (pc1 := 279) rfl rfl ?_
  refine js_iadd (pc1 := 280) rfl rfl ?_
  refine js_iload (pc1 := 282) rfl rfl rfl ?_
  refine jt_ias (pc1 := 283) rfl rfl rfl rfl (fun A1 => ?_)
  refine js_aload (pc1 := 284) rfl rfl rfl ?_
  refine js_iconst (pc1 := 285) rfl rfl ?_
  refine js_iload (pc1 := 286) rfl rfl rfl ?_
  refine js_iload (pc1 := 287) rfl rfl rfl ?_
  refine js_iconst (pc1 := 288) rfl rfl ?_
  refine js_cP (pc1 := 291) (as := [(.inr (.inr (some 226))), (.inl 0), (.inl x2), (.inl x3), (.inl 2)]) (S0 := []) (m := 5) (L0 := [some (.inr (.inr (some 226))), some (.inl 0), some (.inl x2), some (.inl x3), some (.inl 2)]) rfl rfl rfl rfl rfl rfl rfl rfl (zrc_o rfl rfl) (by omega) (by omega) (z_M_field_ok N (by omega) (by omega) 0 (zlit rfl) x2 hx2 x3 hx3 2 (zlit rfl) A1) (fun v2 _ hv2 => ?_)
  refine js_istore (pc1 := 292) (L1 := [some (.inr (.inr (some 226))), some (.inl x1), some (.inl v2), some (.inl x3), some (.inl x4), none, some (.inl x6), none, none]) rfl rfl rfl rfl ?_
  refine js_iconst (pc1 := 293) rfl rfl ?_
  refine js_istore (pc1 := 294) (L1 := [some (.inr (.inr (some 226))), some (.inl x1), some (.inl v2), some (.inl 0), some (.inl x4), none, some (.inl x6), none, none]) rfl rfl rfl rfl ?_
  refine js_goto (t1 := 456) rfl rfl ?_
  refine js_goto (t1 := 34) rfl rfl ?_
  exact zG_to (L := [some (.inr (.inr (some 226))), some (.inl x1), some (.inl v2), some (.inl 0), some (.inl x4), none, none, none, none]) (S := []) ⟨rfl, ⟨rfl, ⟨rfl, ⟨rfl, ⟨rfl, trivial⟩⟩⟩⟩⟩ (rfl) (hr34 x1 hx1 v2 hv2 0 (zlit rfl) x4 hx4 A1)
theorem z_M_run_237_bok{d w : Nat} {r34 : Int → Int → Int → Int → zA → Option (Int × zA)} (hr34 : ∀ (x1 : Int) (hx1 : zrg x1) (x2 : Int) (hx2 : zrg x2) (x3 : Int) (hx3 : zrg x3) (x4 : Int) (hx4 : zrg x4) (A : zA), zG (r34 x1 x2 x3 x4 A) zPI d w 27 34 [some (.inr (.inr (some 226))), some (.inl x1), some (.inl x2), some (.inl x3), some (.inl x4), none, none, none, none] [] A) {r237 : Int → Int → Int → Int → Int → Int → zA → Option (Int × zA)} (hr237 : ∀ (x1 : Int) (hx1 : zrg x1) (x2 : Int) (hx2 : zrg x2) (x3 : Int) (hx3 : zrg x3) (x4 : Int) (hx4 : zrg x4) (x6 : Int) (hx6 : zrg x6) (x7 : Int) (hx7 : zrg x7) (A : zA), zG (r237 x1 x2 x3 x4 x6 x7 A) zPI d w 27 237 [some (.inr (.inr (some 226))), some (.inl x1), some (.inl x2), some (.inl x3), some (.inl x4), none, some (.inl x6), some (.inl x7), none] [] A) (N : Nat) (hd : 4 ≤ d) (hw : 92 ≤ w) (x1 : Int) (hx1 : zrg x1) (x2 : Int) (hx2 : zrg x2) (x3 : Int) (hx3 : zrg x3) (x4 : Int) (hx4 : zrg x4) (x6 : Int) (hx6 : zrg x6) (x7 : Int) (hx7 : zrg x7) (A : zA) : zG (z_M_run_237_b r34 r237 N x1 x2 x3 x4 x6 x7 A) zPI d w 27 237 [some (.inr (.inr (some 226))), some (.inl x1), some (.inl x2), some (.inl x3), some (.inl x4), none, some (.inl x6), some (.inl x7), none] [] A := by
  unfold z_M_run_237_b
  refine js_iload (pc1 := 239) rfl rfl rfl ?_
  refine js_iconst (pc1 := 241) rfl rfl ?_
  refine jt_ge (pc1 := 244) (t1 := 266) hx7 (zlit rfl) rfl rfl rfl (fun c1 => ?_) (fun c1 => ?_)
  · refine js_aload (pc1 := 245) rfl rfl rfl ?_
    refine js_gfr (pc1 := 248) (j := 98) (r := 294) rfl rfl rfl rfl rfl ?_
    refine js_iconst (pc1 := 250) rfl rfl ?_
    refine js_aload (pc1 := 251) rfl rfl rfl ?_
    refine js_gi (pc1 := 254) (j := 62) rfl rfl rfl rfl ?_
    refine js_imul (pc1 := 255) rfl rfl ?_
    refine js_iload (pc1 := 257) rfl rfl rfl ?_
    refine js_iadd (pc1 := 258) rfl rfl ?_
    refine js_iconst (pc1 := 259) rfl rfl ?_
    refine jt_ias (pc1 := 260) rfl rfl rfl rfl (fun A2 => ?_)
    refine js_iinc (pc1 := 263) (L1 := [some (.inr (.inr (some 226))), some (.inl x1), some (.inl x2), some (.inl x3), some (.inl x4), none, some (.inl x6), some (.inl (x7 + 1)), none]) rfl rfl rfl rfl ?_
    refine js_goto (t1 := 237) rfl rfl ?_
    exact zG_to (L := [some (.inr (.inr (some 226))), some (.inl x1), some (.inl x2), some (.inl x3), some (.inl x4), none, some (.inl x6), some (.inl (zw (x7 + 1))), none]) (S := []) ⟨rfl, ⟨rfl, ⟨rfl, ⟨rfl, ⟨rfl, ⟨rfl, ⟨zval_w (x7 + 1), trivial⟩⟩⟩⟩⟩⟩⟩ (rfl) (hr237 x1 hx1 x2 hx2 x3 hx3 x4 hx4 x6 hx6 (zw (x7 + 1)) (zw_rg (x7 + 1)) A2)
  · exact zG_to (L := [some (.inr (.inr (some 226))), some (.inl x1), some (.inl x2), some (.inl x3), some (.inl x4), none, some (.inl x6), none, none]) (S := []) ⟨rfl, ⟨rfl, ⟨rfl, ⟨rfl, ⟨rfl, ⟨rfl, trivial⟩⟩⟩⟩⟩⟩ (rfl) (z_M_run_266_ok hr34 N hd hw x1 hx1 x2 hx2 x3 hx3 x4 hx4 x6 hx6 A)
theorem z_M_run_237_lok{d w : Nat} {r34 : Int → Int → Int → Int → zA → Option (Int × zA)} (hr34 : ∀ (x1 : Int) (hx1 : zrg x1) (x2 : Int) (hx2 : zrg x2) (x3 : Int) (hx3 : zrg x3) (x4 : Int) (hx4 : zrg x4) (A : zA), zG (r34 x1 x2 x3 x4 A) zPI d w 27 34 [some (.inr (.inr (some 226))), some (.inl x1), some (.inl x2), some (.inl x3), some (.inl x4), none, none, none, none] [] A) (N : Nat) (hd : 4 ≤ d) (hw : 92 ≤ w) (n : Nat) : ∀ (x1 : Int) (hx1 : zrg x1) (x2 : Int) (hx2 : zrg x2) (x3 : Int) (hx3 : zrg x3) (x4 : Int) (hx4 : zrg x4) (x6 : Int) (hx6 : zrg x6) (x7 : Int) (hx7 : zrg x7) (A : zA), zG (z_M_run_237_l r34 N n x1 x2 x3 x4 x6 x7 A) zPI d w 27 237 [some (.inr (.inr (some 226))), some (.inl x1), some (.inl x2), some (.inl x3), some (.inl x4), none, some (.inl x6), some (.inl x7), none] [] A := by
  induction n with
  | zero => intros; exact zG_none
  | succ n ih =>
    intro x1 hx1 x2 hx2 x3 hx3 x4 hx4 x6 hx6 x7 hx7 A
    exact z_M_run_237_bok hr34 ih N hd hw x1 hx1 x2 hx2 x3 hx3 x4 hx4 x6 hx6 x7 hx7 A
theorem z_M_run_237_ok{d w : Nat} {r34 : Int → Int → Int → Int → zA → Option (Int × zA)} (hr34 : ∀ (x1 : Int) (hx1 : zrg x1) (x2 : Int) (hx2 : zrg x2) (x3 : Int) (hx3 : zrg x3) (x4 : Int) (hx4 : zrg x4) (A : zA), zG (r34 x1 x2 x3 x4 A) zPI d w 27 34 [some (.inr (.inr (some 226))), some (.inl x1), some (.inl x2), some (.inl x3), some (.inl x4), none, none, none, none] [] A) (N : Nat) (hd : 4 ≤ d) (hw : 92 ≤ w) (x1 : Int) (hx1 : zrg x1) (x2 : Int) (hx2 : zrg x2) (x3 : Int) (hx3 : zrg x3) (x4 : Int) (hx4 : zrg x4) (x6 : Int) (hx6 : zrg x6) (x7 : Int) (hx7 : zrg x7) (A : zA) : zG (z_M_run_237 r34 N x1 x2 x3 x4 x6 x7 A) zPI d w 27 237 [some (.inr (.inr (some 226))), some (.inl x1), some (.inl x2), some (.inl x3), some (.inl x4), none, some (.inl x6), some (.inl x7), none] [] A := z_M_run_237_lok hr34 N hd hw N x1 hx1 x2 hx2 x3 hx3 x4 hx4 x6 hx6 x7 hx7 A
theorem z_M_run_199_ok{d w : Nat} {r34 : Int → Int → Int → Int → zA → Option (Int × zA)} (hr34 : ∀ (x1 : Int) (hx1 : zrg x1) (x2 : Int) (hx2 : zrg x2) (x3 : Int) (hx3 : zrg x3) (x4 : Int) (hx4 : zrg x4) (A : zA), zG (r34 x1 x2 x3 x4 A) zPI d w 27 34 [some (.inr (.inr (some 226))), some (.inl x1), some (.inl x2), some (.inl x3), some (.inl x4), none, none, none, none] [] A) (N : Nat) (hd : 4 ≤ d) (hw : 92 ≤ w) (x1 : Int) (hx1 : zrg x1) (x2 : Int) (hx2 : zrg x2) (x3 : Int) (hx3 : zrg x3) (x6 : Int) (hx6 : zrg x6) (s0 : Int) (hs0 : zrg s0) (A : zA) : zG (z_M_run_199 r34 N x1 x2 x3 x6 s0 A) zPI d w 27 199 [some (.inr (.inr (some 226))), some (.inl x1), some (.inl x2), some (.inl x3), none, none, some (.inl x6), none, none] [(.inl s0)] A := by
  unfold z_M_run_199
  refine js_istore (pc1 := 201) (L1 := [some (.inr (.inr (some 226))), some (.inl x1), some (.inl x2), some (.inl x3), some (.inl s0), none, some (.inl x6), none, none]) rfl rfl rfl rfl ?_
  refine js_aload (pc1 := 202) rfl rfl rfl ?_
  refine js_gfr (pc1 := 205) (j := 60) (r := 269) rfl rfl rfl rfl rfl ?_
  refine js_aload (pc1 := 206) rfl rfl rfl ?_
  refine js_gi (pc1 := 209) (j := 62) rfl rfl rfl rfl ?_
  refine js_iload (pc1 := 210) rfl rfl rfl ?_
  refine jt_ias (pc1 := 211) rfl rfl rfl rfl (fun A1 => ?_)
  refine js_aload (pc1 := 212) rfl rfl rfl ?_
  refine js_gfr (pc1 := 215) (j := 61) (r := 270) rfl rfl rfl rfl rfl ?_
  refine js_aload (pc1 := 216) rfl rfl rfl ?_
  refine js_gi (pc1 := 219) (j := 62) rfl rfl rfl rfl ?_
  refine js_iload (pc1 := 220) rfl rfl rfl ?_
  refine js_iconst (pc1 := 221) rfl rfl ?_
  refine js_iadd (pc1 := 222) rfl rfl ?_
  refine jt_ias (pc1 := 223) rfl rfl rfl rfl (fun A2 => ?_)
  refine js_aload (pc1 := 224) rfl rfl rfl ?_
  refine js_dupR (pc1 := 225) rfl rfl ?_
  refine js_gi (pc1 := 228) (j := 62) rfl rfl rfl rfl ?_
  refine js_iconst (pc1 := 229) rfl rfl ?_
  refine js_iadd (pc1 := 230) rfl rfl ?_
  refine jt_pi (pc1 := 233) (j := 62) rfl rfl rfl rfl rfl (fun A3 => ?_)
  refine js_iconst (pc1 := 235) rfl rfl ?_
  refine js_istore (pc1 := 237) (L1 := [some (.inr (.inr (some 226))), some (.inl x1), some (.inl x2), some (.inl x3), some (.inl s0), none, some (.inl x6), some (.inl 6), none]) rfl rfl rfl rfl ?_
  exact z_M_run_237_ok hr34 N hd hw x1 hx1 x2 hx2 x3 hx3 s0 hs0 x6 hx6 6 (zlit rfl) A3
theorem z_M_run_399_ok{d w : Nat} {r34 : Int → Int → Int → Int → zA → Option (Int × zA)} (hr34 : ∀ (x1 : Int) (hx1 : zrg x1) (x2 : Int) (hx2 : zrg x2) (x3 : Int) (hx3 : zrg x3) (x4 : Int) (hx4 : zrg x4) (A : zA), zG (r34 x1 x2 x3 x4 A) zPI d w 27 34 [some (.inr (.inr (some 226))), some (.inl x1), some (.inl x2), some (.inl x3), some (.inl x4), none, none, none, none] [] A) (N : Nat) (hd : 4 ≤ d) (hw : 92 ≤ w) (x1 : Int) (hx1 : zrg x1) (x2 : Int) (hx2 : zrg x2) (x3 : Int) (hx3 : zrg x3) (x5 : Int) (hx5 : zrg x5) (x6 : Int) (hx6 : zrg x6) (x7 : Int) (hx7 : zrg x7) (x8 : Int) (hx8 : zrg x8) (s0 : Int) (hs0 : zrg s0) (A : zA) : zG (z_M_run_399 r34 N x1 x2 x3 x5 x6 x7 x8 s0 A) zPI d w 27 399 [some (.inr (.inr (some 226))), some (.inl x1), some (.inl x2), some (.inl x3), none, some (.inl x5), some (.inl x6), some (.inl x7), some (.inl x8)] [(.inl s0)] A := by
  unfold z_M_run_399
  refine js_istore (pc1 := 401) (L1 := [some (.inr (.inr (some 226))), some (.inl x1), some (.inl x2), some (.inl x3), some (.inl s0), some (.inl x5), some (.inl x6), some (.inl x7), some (.inl x8)]) rfl rfl rfl rfl ?_
  refine js_iload (pc1 := 403) rfl rfl rfl ?_
  refine ju_eq (pc1 := 406) (t1 := 435) hx7 rfl rfl rfl (fun c1 => ?_) (fun c1 => ?_)
  · refine js_iload (pc1 := 437) rfl rfl rfl ?_
    refine js_iconst (pc1 := 439) rfl rfl ?_
    refine jt_eq (pc1 := 442) (t1 := 447) hx5 (zlit rfl) rfl rfl rfl (fun c2 => ?_) (fun c2 => ?_)
    · refine js_iload (pc1 := 449) rfl rfl rfl ?_
      refine js_goto (t1 := 455) rfl rfl ?_
      refine js_istore (pc1 := 456) (L1 := [some (.inr (.inr (some 226))), some (.inl x1), some (.inl x2), some (.inl x6), some (.inl s0), some (.inl x5), some (.inl x6), some (.inl x7), some (.inl x8)]) rfl rfl rfl rfl ?_
      refine js_goto (t1 := 34) rfl rfl ?_
      exact zG_to (L := [some (.inr (.inr (some 226))), some (.inl x1), some (.inl x2), some (.inl x6), some (.inl s0), none, none, none, none]) (S := []) ⟨rfl, ⟨rfl, ⟨rfl, ⟨rfl, ⟨rfl, trivial⟩⟩⟩⟩⟩ (rfl) (hr34 x1 hx1 x2 hx2 x6 hx6 s0 hs0 A)
    · refine js_iload (pc1 := 444) rfl rfl rfl ?_
      refine ju_eq (pc1 := 447) (t1 := 452) hx8 rfl rfl rfl (fun c3 => ?_) (fun c3 => ?_)
      · refine js_iload (pc1 := 453) rfl rfl rfl ?_
        refine js_iconst (pc1 := 454) rfl rfl ?_
        refine js_iadd (pc1 := 455) rfl rfl ?_
        refine zG_w1 ?_
        refine js_istore (pc1 := 456) (L1 := [some (.inr (.inr (some 226))), some (.inl x1), some (.inl x2), some (.inl (zw (x3 + 1))), some (.inl s0), some (.inl x5), some (.inl x6), some (.inl x7), some (.inl x8)]) rfl rfl rfl rfl ?_
        refine js_goto (t1 := 34) rfl rfl ?_
        exact zG_to (L := [some (.inr (.inr (some 226))), some (.inl x1), some (.inl x2), some (.inl (zw (x3 + 1))), some (.inl s0), none, none, none, none]) (S := []) ⟨rfl, ⟨rfl, ⟨rfl, ⟨rfl, ⟨rfl, trivial⟩⟩⟩⟩⟩ (rfl) (hr34 x1 hx1 x2 hx2 (zw (x3 + 1)) (zw_rg (x3 + 1)) s0 hs0 A)
      · refine js_iload (pc1 := 449) rfl rfl rfl ?_
        refine js_goto (t1 := 455) rfl rfl ?_
        refine js_istore (pc1 := 456) (L1 := [some (.inr (.inr (some 226))), some (.inl x1), some (.inl x2), some (.inl x6), some (.inl s0), some (.inl x5), some (.inl x6), some (.inl x7), some (.inl x8)]) rfl rfl rfl rfl ?_
        refine js_goto (t1 := 34) rfl rfl ?_
        exact zG_to (L := [some (.inr (.inr (some 226))), some (.inl x1), some (.inl x2), some (.inl x6), some (.inl s0), none, none, none, none]) (S := []) ⟨rfl, ⟨rfl, ⟨rfl, ⟨rfl, ⟨rfl, trivial⟩⟩⟩⟩⟩ (rfl) (hr34 x1 hx1 x2 hx2 x6 hx6 s0 hs0 A)
  · refine js_aload (pc1 := 407) rfl rfl rfl ?_
    refine js_aload (pc1 := 408) rfl rfl rfl ?_
    refine js_iconst (pc1 := 409) rfl rfl ?_
    refine js_iload (pc1 := 410) rfl rfl rfl ?_
    refine js_iload (pc1 := 411) rfl rfl rfl ?_
    refine js_iconst (pc1 := 412) rfl rfl ?_
    refine js_cP (pc1 := 415) (as := [(.inr (.inr (some 226))), (.inl 0), (.inl x2), (.inl x3), (.inl 1)]) (S0 := [(.inr (.inr (some 226)))]) (m := 5) (L0 := [some (.inr (.inr (some 226))), some (.inl 0), some (.inl x2), some (.inl x3), some (.inl 1)]) rfl rfl rfl rfl rfl rfl rfl rfl (zrc_o rfl rfl) (by omega) (by omega) (z_M_field_ok N (by omega) (by omega) 0 (zlit rfl) x2 hx2 x3 hx3 1 (zlit rfl) A) (fun v4 _ hv4 => ?_)
    refine js_cP (pc1 := 418) (as := [(.inr (.inr (some 226))), (.inl v4)]) (S0 := []) (m := 2) (L0 := [some (.inr (.inr (some 226))), some (.inl v4)]) rfl rfl rfl rfl rfl rfl rfl rfl (zrc_o rfl rfl) (by omega) (by omega) (z_M_read_ok N (by omega) (by omega) v4 hv4 A) (fun v5 _ hv5 => ?_)
    refine ju_ne (pc1 := 421) (t1 := 428) hv5 rfl rfl rfl (fun c6 => ?_) (fun c6 => ?_)
    · refine js_iload (pc1 := 423) rfl rfl rfl ?_
      refine js_iconst (pc1 := 424) rfl rfl ?_
      refine js_iadd (pc1 := 425) rfl rfl ?_
      refine js_goto (t1 := 431) rfl rfl ?_
      refine zG_w1 ?_
      refine js_istore (pc1 := 432) (L1 := [some (.inr (.inr (some 226))), some (.inl x1), some (.inl x2), some (.inl (zw (x6 + 1))), some (.inl s0), some (.inl x5), some (.inl x6), some (.inl x7), some (.inl x8)]) rfl rfl rfl rfl ?_
      refine js_goto (t1 := 456) rfl rfl ?_
      refine js_goto (t1 := 34) rfl rfl ?_
      exact zG_to (L := [some (.inr (.inr (some 226))), some (.inl x1), some (.inl x2), some (.inl (zw (x6 + 1))), some (.inl s0), none, none, none, none]) (S := []) ⟨rfl, ⟨rfl, ⟨rfl, ⟨rfl, ⟨rfl, trivial⟩⟩⟩⟩⟩ (rfl) (hr34 x1 hx1 x2 hx2 (zw (x6 + 1)) (zw_rg (x6 + 1)) s0 hs0 A)
    · refine js_iload (pc1 := 429) rfl rfl rfl ?_
      refine js_iconst (pc1 := 430) rfl rfl ?_
      refine js_iadd (pc1 := 431) rfl rfl ?_
      refine zG_w1 ?_
      refine js_istore (pc1 := 432) (L1 := [some (.inr (.inr (some 226))), some (.inl x1), some (.inl x2), some (.inl (zw (x3 + 1))), some (.inl s0), some (.inl x5), some (.inl x6), some (.inl x7), some (.inl x8)]) rfl rfl rfl rfl ?_
      refine js_goto (t1 := 456) rfl rfl ?_
      refine js_goto (t1 := 34) rfl rfl ?_
      exact zG_to (L := [some (.inr (.inr (some 226))), some (.inl x1), some (.inl x2), some (.inl (zw (x3 + 1))), some (.inl s0), none, none, none, none]) (S := []) ⟨rfl, ⟨rfl, ⟨rfl, ⟨rfl, ⟨rfl, trivial⟩⟩⟩⟩⟩ (rfl) (hr34 x1 hx1 x2 hx2 (zw (x3 + 1)) (zw_rg (x3 + 1)) s0 hs0 A)
theorem z_M_run_387_ok{d w : Nat} {r34 : Int → Int → Int → Int → zA → Option (Int × zA)} (hr34 : ∀ (x1 : Int) (hx1 : zrg x1) (x2 : Int) (hx2 : zrg x2) (x3 : Int) (hx3 : zrg x3) (x4 : Int) (hx4 : zrg x4) (A : zA), zG (r34 x1 x2 x3 x4 A) zPI d w 27 34 [some (.inr (.inr (some 226))), some (.inl x1), some (.inl x2), some (.inl x3), some (.inl x4), none, none, none, none] [] A) (N : Nat) (hd : 4 ≤ d) (hw : 92 ≤ w) (x1 : Int) (hx1 : zrg x1) (x2 : Int) (hx2 : zrg x2) (x3 : Int) (hx3 : zrg x3) (x5 : Int) (hx5 : zrg x5) (x6 : Int) (hx6 : zrg x6) (x7 : Int) (hx7 : zrg x7) (x8 : Int) (hx8 : zrg x8) (s1 : Int) (hs1 : zrg s1) (A : zA) : zG (z_M_run_387 r34 N x1 x2 x3 x5 x6 x7 x8 s1 A) zPI d w 27 387 [some (.inr (.inr (some 226))), some (.inl x1), some (.inl x2), some (.inl x3), none, some (.inl x5), some (.inl x6), some (.inl x7), some (.inl x8)] [(.inl s1), (.inr (.inr (some 226)))] A := by
  unfold z_M_run_387
  refine js_iload (pc1 := 388) rfl rfl rfl ?_
  refine js_cI (pc1 := 391) (as := [(.inr (.inr (some 226))), (.inl s1), (.inl x1)]) (S0 := []) (m := 4) (L0 := [some (.inr (.inr (some 226))), some (.inl s1), some (.inl x1), none]) rfl rfl rfl rfl rfl rfl rfl rfl (zrc_o rfl rfl) (by omega) (by omega) (z_M_burn_ok N (by omega) (by omega) s1 hs1 x1 hx1 A) (fun v1 A2 _ hv1 => ?_)
  refine ju_eq (pc1 := 394) (t1 := 398) hv1 rfl rfl rfl (fun c3 => ?_) (fun c3 => ?_)
  · refine js_iconst (pc1 := 399) rfl rfl ?_
    exact z_M_run_399_ok hr34 N hd hw x1 hx1 x2 hx2 x3 hx3 x5 hx5 x6 hx6 x7 hx7 x8 hx8 3 (zlit rfl) A2
  · refine js_iconst (pc1 := 395) rfl rfl ?_
    refine js_goto (t1 := 399) rfl rfl ?_
    exact z_M_run_399_ok hr34 N hd hw x1 hx1 x2 hx2 x3 hx3 x5 hx5 x6 hx6 x7 hx7 x8 hx8 (-1) (zlit rfl) A2
theorem z_M_run_358_ok{d w : Nat} {r34 : Int → Int → Int → Int → zA → Option (Int × zA)} (hr34 : ∀ (x1 : Int) (hx1 : zrg x1) (x2 : Int) (hx2 : zrg x2) (x3 : Int) (hx3 : zrg x3) (x4 : Int) (hx4 : zrg x4) (A : zA), zG (r34 x1 x2 x3 x4 A) zPI d w 27 34 [some (.inr (.inr (some 226))), some (.inl x1), some (.inl x2), some (.inl x3), some (.inl x4), none, none, none, none] [] A) (N : Nat) (hd : 4 ≤ d) (hw : 92 ≤ w) (x1 : Int) (hx1 : zrg x1) (x2 : Int) (hx2 : zrg x2) (x3 : Int) (hx3 : zrg x3) (x5 : Int) (hx5 : zrg x5) (x6 : Int) (hx6 : zrg x6) (x7 : Int) (hx7 : zrg x7) (s0 : Int) (hs0 : zrg s0) (A : zA) : zG (z_M_run_358 r34 N x1 x2 x3 x5 x6 x7 s0 A) zPI d w 27 358 [some (.inr (.inr (some 226))), some (.inl x1), some (.inl x2), some (.inl x3), none, some (.inl x5), some (.inl x6), some (.inl x7), none] [(.inl s0)] A := by
  unfold z_M_run_358
  refine js_istore (pc1 := 360) (L1 := [some (.inr (.inr (some 226))), some (.inl x1), some (.inl x2), some (.inl x3), none, some (.inl x5), some (.inl x6), some (.inl x7), some (.inl s0)]) rfl rfl rfl rfl ?_
  refine js_aload (pc1 := 361) rfl rfl rfl ?_
  refine js_iload (pc1 := 363) rfl rfl rfl ?_
  refine ju_eq (pc1 := 366) (t1 := 370) hx7 rfl rfl rfl (fun c1 => ?_) (fun c1 => ?_)
  · refine js_iload (pc1 := 372) rfl rfl rfl ?_
    refine js_iconst (pc1 := 374) rfl rfl ?_
    refine jt_eq (pc1 := 377) (t1 := 382) hx5 (zlit rfl) rfl rfl rfl (fun c2 => ?_) (fun c2 => ?_)
    · refine js_iconst (pc1 := 383) rfl rfl ?_
      refine js_goto (t1 := 387) rfl rfl ?_
      exact z_M_run_387_ok hr34 N hd hw x1 hx1 x2 hx2 x3 hx3 x5 hx5 x6 hx6 x7 hx7 s0 hs0 1 (zlit rfl) A
    · refine js_iload (pc1 := 379) rfl rfl rfl ?_
      refine ju_eq (pc1 := 382) (t1 := 386) hs0 rfl rfl rfl (fun c3 => ?_) (fun c3 => ?_)
      · refine js_iconst (pc1 := 387) rfl rfl ?_
        exact z_M_run_387_ok hr34 N hd hw x1 hx1 x2 hx2 x3 hx3 x5 hx5 x6 hx6 x7 hx7 s0 hs0 0 (zlit rfl) A
      · refine js_iconst (pc1 := 383) rfl rfl ?_
        refine js_goto (t1 := 387) rfl rfl ?_
        exact z_M_run_387_ok hr34 N hd hw x1 hx1 x2 hx2 x3 hx3 x5 hx5 x6 hx6 x7 hx7 s0 hs0 1 (zlit rfl) A
  · refine js_iconst (pc1 := 367) rfl rfl ?_
    refine js_goto (t1 := 387) rfl rfl ?_
    exact z_M_run_387_ok hr34 N hd hw x1 hx1 x2 hx2 x3 hx3 x5 hx5 x6 hx6 x7 hx7 s0 hs0 2 (zlit rfl) A
theorem z_M_run_330_ok{d w : Nat} {r34 : Int → Int → Int → Int → zA → Option (Int × zA)} (hr34 : ∀ (x1 : Int) (hx1 : zrg x1) (x2 : Int) (hx2 : zrg x2) (x3 : Int) (hx3 : zrg x3) (x4 : Int) (hx4 : zrg x4) (A : zA), zG (r34 x1 x2 x3 x4 A) zPI d w 27 34 [some (.inr (.inr (some 226))), some (.inl x1), some (.inl x2), some (.inl x3), some (.inl x4), none, none, none, none] [] A) (N : Nat) (hd : 4 ≤ d) (hw : 92 ≤ w) (x1 : Int) (hx1 : zrg x1) (x2 : Int) (hx2 : zrg x2) (x3 : Int) (hx3 : zrg x3) (x5 : Int) (hx5 : zrg x5) (x6 : Int) (hx6 : zrg x6) (s0 : Int) (hs0 : zrg s0) (A : zA) : zG (z_M_run_330 r34 N x1 x2 x3 x5 x6 s0 A) zPI d w 27 330 [some (.inr (.inr (some 226))), some (.inl x1), some (.inl x2), some (.inl x3), none, some (.inl x5), some (.inl x6), none, none] [(.inl s0)] A := by
  unfold z_M_run_330
  refine js_istore (pc1 := 332) (L1 := [some (.inr (.inr (some 226))), some (.inl x1), some (.inl x2), some (.inl x3), none, some (.inl x5), some (.inl x6), some (.inl s0), none]) rfl rfl rfl rfl ?_
  refine js_iload (pc1 := 334) rfl rfl rfl ?_
  refine js_iconst (pc1 := 336) rfl rfl ?_
  refine jt_ne (pc1 := 339) (t1 := 357) hx5 (zlit rfl) rfl rfl rfl (fun c1 => ?_) (fun c1 => ?_)
  · refine js_aload (pc1 := 340) rfl rfl rfl ?_
    refine js_iconst (pc1 := 341) rfl rfl ?_
    refine js_iload (pc1 := 342) rfl rfl rfl ?_
    refine js_iload (pc1 := 344) rfl rfl rfl ?_
    refine js_iconst (pc1 := 345) rfl rfl ?_
    refine js_cP (pc1 := 348) (as := [(.inr (.inr (some 226))), (.inl 0), (.inl x2), (.inl x6), (.inl 0)]) (S0 := []) (m := 5) (L0 := [some (.inr (.inr (some 226))), some (.inl 0), some (.inl x2), some (.inl x6), some (.inl 0)]) rfl rfl rfl rfl rfl rfl rfl rfl (zrc_o rfl rfl) (by omega) (by omega) (z_M_field_ok N (by omega) (by omega) 0 (zlit rfl) x2 hx2 x6 hx6 0 (zlit rfl) A) (fun v2 _ hv2 => ?_)
    refine js_iconst (pc1 := 350) rfl rfl ?_
    refine jt_ne (pc1 := 353) (t1 := 357) hv2 (zlit rfl) rfl rfl rfl (fun c3 => ?_) (fun c3 => ?_)
    · refine js_iconst (pc1 := 354) rfl rfl ?_
      refine js_goto (t1 := 358) rfl rfl ?_
      exact z_M_run_358_ok hr34 N hd hw x1 hx1 x2 hx2 x3 hx3 x5 hx5 x6 hx6 s0 hs0 1 (zlit rfl) A
    · refine js_iconst (pc1 := 358) rfl rfl ?_
      exact z_M_run_358_ok hr34 N hd hw x1 hx1 x2 hx2 x3 hx3 x5 hx5 x6 hx6 s0 hs0 0 (zlit rfl) A
  · refine js_iconst (pc1 := 358) rfl rfl ?_
    exact z_M_run_358_ok hr34 N hd hw x1 hx1 x2 hx2 x3 hx3 x5 hx5 x6 hx6 s0 hs0 0 (zlit rfl) A
theorem z_M_run_66_ok{d w : Nat} {r34 : Int → Int → Int → Int → zA → Option (Int × zA)} (hr34 : ∀ (x1 : Int) (hx1 : zrg x1) (x2 : Int) (hx2 : zrg x2) (x3 : Int) (hx3 : zrg x3) (x4 : Int) (hx4 : zrg x4) (A : zA), zG (r34 x1 x2 x3 x4 A) zPI d w 27 34 [some (.inr (.inr (some 226))), some (.inl x1), some (.inl x2), some (.inl x3), some (.inl x4), none, none, none, none] [] A) (N : Nat) (hd : 4 ≤ d) (hw : 92 ≤ w) (x1 : Int) (hx1 : zrg x1) (x2 : Int) (hx2 : zrg x2) (x3 : Int) (hx3 : zrg x3) (s0 : Int) (hs0 : zrg s0) (A : zA) : zG (z_M_run_66 r34 N x1 x2 x3 s0 A) zPI d w 27 66 [some (.inr (.inr (some 226))), some (.inl x1), some (.inl x2), some (.inl x3), none, none, none, none, none] [(.inl s0)] A := by
  unfold z_M_run_66
  refine js_istore (pc1 := 68) (L1 := [some (.inr (.inr (some 226))), some (.inl x1), some (.inl x2), some (.inl x3), none, some (.inl s0), none, none, none]) rfl rfl rfl rfl ?_
  refine js_iload (pc1 := 70) rfl rfl rfl ?_
  refine js_iconst (pc1 := 72) rfl rfl ?_
  refine jt_ge (pc1 := 75) (t1 := 90) hs0 (zlit rfl) rfl rfl rfl (fun c1 => ?_) (fun c1 => ?_)
  · refine js_aload (pc1 := 76) rfl rfl rfl ?_
    refine js_iload (pc1 := 77) rfl rfl rfl ?_
    refine js_iload (pc1 := 78) rfl rfl rfl ?_
    refine js_iload (pc1 := 79) rfl rfl rfl ?_
    refine js_cI (pc1 := 82) (as := [(.inr (.inr (some 226))), (.inl x2), (.inl x3), (.inl x1)]) (S0 := []) (m := 10) (L0 := [some (.inr (.inr (some 226))), some (.inl x2), some (.inl x3), some (.inl x1), none, none, none, none, none, none]) rfl rfl rfl rfl rfl rfl rfl rfl (zrc_o rfl rfl) (by omega) (by omega) (z_M_doItem_ok N (by omega) (by omega) x2 hx2 x3 hx3 x1 hx1 A) (fun v2 A3 _ hv2 => ?_)
    refine js_istore (pc1 := 84) (L1 := [some (.inr (.inr (some 226))), some (.inl x1), some (.inl x2), some (.inl x3), some (.inl v2), some (.inl s0), none, none, none]) rfl rfl rfl rfl ?_
    refine js_iinc (pc1 := 87) (L1 := [some (.inr (.inr (some 226))), some (.inl x1), some (.inl x2), some (.inl (x3 + 1)), some (.inl v2), some (.inl s0), none, none, none]) rfl rfl rfl rfl ?_
    refine js_goto (t1 := 456) rfl rfl ?_
    refine js_goto (t1 := 34) rfl rfl ?_
    exact zG_to (L := [some (.inr (.inr (some 226))), some (.inl x1), some (.inl x2), some (.inl (zw (x3 + 1))), some (.inl v2), none, none, none, none]) (S := []) ⟨rfl, ⟨rfl, ⟨rfl, ⟨zval_w (x3 + 1), ⟨rfl, trivial⟩⟩⟩⟩⟩ (rfl) (hr34 x1 hx1 x2 hx2 (zw (x3 + 1)) (zw_rg (x3 + 1)) v2 hv2 A3)
  · refine js_iload (pc1 := 92) rfl rfl rfl ?_
    refine js_iconst (pc1 := 94) rfl rfl ?_
    refine jt_ne (pc1 := 97) (t1 := 164) hs0 (zlit rfl) rfl rfl rfl (fun c4 => ?_) (fun c4 => ?_)
    · refine js_aload (pc1 := 98) rfl rfl rfl ?_
      refine js_iconst (pc1 := 99) rfl rfl ?_
      refine js_iload (pc1 := 100) rfl rfl rfl ?_
      refine js_cI (pc1 := 103) (as := [(.inr (.inr (some 226))), (.inl 1), (.inl x1)]) (S0 := []) (m := 4) (L0 := [some (.inr (.inr (some 226))), some (.inl 1), some (.inl x1), none]) rfl rfl rfl rfl rfl rfl rfl rfl (zrc_o rfl rfl) (by omega) (by omega) (z_M_burn_ok N (by omega) (by omega) 1 (zlit rfl) x1 hx1 A) (fun v5 A6 _ hv5 => ?_)
      refine ju_ne (pc1 := 106) (t1 := 110) hv5 rfl rfl rfl (fun c7 => ?_) (fun c7 => ?_)
      · refine js_iconst (pc1 := 107) rfl rfl ?_
        refine js_goto (t1 := 122) rfl rfl ?_
        exact zG_to (L := [some (.inr (.inr (some 226))), some (.inl x1), some (.inl x2), some (.inl x3), none, none, none, none, none]) (S := [(.inl 3)]) ⟨rfl, ⟨rfl, ⟨rfl, ⟨rfl, trivial⟩⟩⟩⟩ (rfl) (z_M_run_122_ok hr34 N hd hw x1 hx1 x2 hx2 x3 hx3 3 (zlit rfl) A6)
      · refine js_aload (pc1 := 111) rfl rfl rfl ?_
        refine js_gi (pc1 := 114) (j := 62) rfl rfl rfl rfl ?_
        refine ju_ne (pc1 := 117) (t1 := 121) (zi_rg _ _ _) rfl rfl rfl (fun c8 => ?_) (fun c8 => ?_)
        · refine js_iconst (pc1 := 118) rfl rfl ?_
          refine js_goto (t1 := 122) rfl rfl ?_
          exact zG_to (L := [some (.inr (.inr (some 226))), some (.inl x1), some (.inl x2), some (.inl x3), none, none, none, none, none]) (S := [(.inl 0)]) ⟨rfl, ⟨rfl, ⟨rfl, ⟨rfl, trivial⟩⟩⟩⟩ (rfl) (z_M_run_122_ok hr34 N hd hw x1 hx1 x2 hx2 x3 hx3 0 (zlit rfl) A6)
        · refine js_iconst (pc1 := 122) rfl rfl ?_
          exact zG_to (L := [some (.inr (.inr (some 226))), some (.inl x1), some (.inl x2), some (.inl x3), none, none, none, none, none]) (S := [(.inl (-1))]) ⟨rfl, ⟨rfl, ⟨rfl, ⟨rfl, trivial⟩⟩⟩⟩ (rfl) (z_M_run_122_ok hr34 N hd hw x1 hx1 x2 hx2 x3 hx3 (-1) (zlit rfl) A6)
    · refine js_iload (pc1 := 166) rfl rfl rfl ?_
      refine js_iconst (pc1 := 168) rfl rfl ?_
      refine jt_ne (pc1 := 171) (t1 := 297) hs0 (zlit rfl) rfl rfl rfl (fun c9 => ?_) (fun c9 => ?_)
      · refine js_aload (pc1 := 172) rfl rfl rfl ?_
        refine js_aload (pc1 := 173) rfl rfl rfl ?_
        refine js_iconst (pc1 := 174) rfl rfl ?_
        refine js_iload (pc1 := 175) rfl rfl rfl ?_
        refine js_iload (pc1 := 176) rfl rfl rfl ?_
        refine js_iconst (pc1 := 177) rfl rfl ?_
        refine js_cP (pc1 := 180) (as := [(.inr (.inr (some 226))), (.inl 0), (.inl x2), (.inl x3), (.inl 1)]) (S0 := [(.inr (.inr (some 226)))]) (m := 5) (L0 := [some (.inr (.inr (some 226))), some (.inl 0), some (.inl x2), some (.inl x3), some (.inl 1)]) rfl rfl rfl rfl rfl rfl rfl rfl (zrc_o rfl rfl) (by omega) (by omega) (z_M_field_ok N (by omega) (by omega) 0 (zlit rfl) x2 hx2 x3 hx3 1 (zlit rfl) A) (fun v10 _ hv10 => ?_)
        refine js_cP (pc1 := 183) (as := [(.inr (.inr (some 226))), (.inl v10)]) (S0 := []) (m := 2) (L0 := [some (.inr (.inr (some 226))), some (.inl v10)]) rfl rfl rfl rfl rfl rfl rfl rfl (zrc_o rfl rfl) (by omega) (by omega) (z_M_read_ok N (by omega) (by omega) v10 hv10 A) (fun v11 _ hv11 => ?_)
        refine js_istore (pc1 := 185) (L1 := [some (.inr (.inr (some 226))), some (.inl x1), some (.inl x2), some (.inl x3), none, some (.inl s0), some (.inl v11), none, none]) rfl rfl rfl rfl ?_
        refine js_aload (pc1 := 186) rfl rfl rfl ?_
        refine js_iconst (pc1 := 187) rfl rfl ?_
        refine js_iload (pc1 := 188) rfl rfl rfl ?_
        refine js_cI (pc1 := 191) (as := [(.inr (.inr (some 226))), (.inl 3), (.inl x1)]) (S0 := []) (m := 4) (L0 := [some (.inr (.inr (some 226))), some (.inl 3), some (.inl x1), none]) rfl rfl rfl rfl rfl rfl rfl rfl (zrc_o rfl rfl) (by omega) (by omega) (z_M_burn_ok N (by omega) (by omega) 3 (zlit rfl) x1 hx1 A) (fun v12 A13 _ hv12 => ?_)
        refine ju_eq (pc1 := 194) (t1 := 198) hv12 rfl rfl rfl (fun c14 => ?_) (fun c14 => ?_)
        · refine js_iconst (pc1 := 199) rfl rfl ?_
          exact zG_to (L := [some (.inr (.inr (some 226))), some (.inl x1), some (.inl x2), some (.inl x3), none, none, some (.inl v11), none, none]) (S := [(.inl 3)]) ⟨rfl, ⟨rfl, ⟨rfl, ⟨rfl, ⟨rfl, trivial⟩⟩⟩⟩⟩ (rfl) (z_M_run_199_ok hr34 N hd hw x1 hx1 x2 hx2 x3 hx3 v11 hv11 3 (zlit rfl) A13)
        · refine js_iconst (pc1 := 195) rfl rfl ?_
          refine js_goto (t1 := 199) rfl rfl ?_
          exact zG_to (L := [some (.inr (.inr (some 226))), some (.inl x1), some (.inl x2), some (.inl x3), none, none, some (.inl v11), none, none]) (S := [(.inl (-1))]) ⟨rfl, ⟨rfl, ⟨rfl, ⟨rfl, ⟨rfl, trivial⟩⟩⟩⟩⟩ (rfl) (z_M_run_199_ok hr34 N hd hw x1 hx1 x2 hx2 x3 hx3 v11 hv11 (-1) (zlit rfl) A13)
      · refine js_aload (pc1 := 298) rfl rfl rfl ?_
        refine js_gfr (pc1 := 301) (j := 9) (r := 231) rfl rfl rfl rfl rfl ?_
        refine js_iconst (pc1 := 304) rfl rfl ?_
        refine js_iload (pc1 := 305) rfl rfl rfl ?_
        refine js_imul (pc1 := 306) rfl rfl ?_
        refine js_iload (pc1 := 307) rfl rfl rfl ?_
        refine js_iadd (pc1 := 308) rfl rfl ?_
        refine jt_ald (pc1 := 309) rfl rfl rfl rfl rfl (fun v15 hv15 => ?_)
        refine js_istore (pc1 := 311) (L1 := [some (.inr (.inr (some 226))), some (.inl x1), some (.inl x2), some (.inl x3), none, some (.inl s0), some (.inl v15), none, none]) rfl rfl rfl rfl ?_
        refine js_iload (pc1 := 313) rfl rfl rfl ?_
        refine js_iconst (pc1 := 315) rfl rfl ?_
        refine jt_eq (pc1 := 318) (t1 := 325) hs0 (zlit rfl) rfl rfl rfl (fun c16 => ?_) (fun c16 => ?_)
        · refine js_iconst (pc1 := 326) rfl rfl ?_
          refine js_goto (t1 := 330) rfl rfl ?_
          exact z_M_run_330_ok hr34 N hd hw x1 hx1 x2 hx2 x3 hx3 s0 hs0 v15 hv15 1 (zlit rfl) A
        · refine js_iload (pc1 := 320) rfl rfl rfl ?_
          refine js_iconst (pc1 := 322) rfl rfl ?_
          refine jt_ne (pc1 := 325) (t1 := 329) hs0 (zlit rfl) rfl rfl rfl (fun c17 => ?_) (fun c17 => ?_)
          · refine js_iconst (pc1 := 326) rfl rfl ?_
            refine js_goto (t1 := 330) rfl rfl ?_
            exact z_M_run_330_ok hr34 N hd hw x1 hx1 x2 hx2 x3 hx3 s0 hs0 v15 hv15 1 (zlit rfl) A
          · refine js_iconst (pc1 := 330) rfl rfl ?_
            exact z_M_run_330_ok hr34 N hd hw x1 hx1 x2 hx2 x3 hx3 s0 hs0 v15 hv15 0 (zlit rfl) A
theorem z_M_run_34_bok{d w : Nat} {r34 : Int → Int → Int → Int → zA → Option (Int × zA)} (hr34 : ∀ (x1 : Int) (hx1 : zrg x1) (x2 : Int) (hx2 : zrg x2) (x3 : Int) (hx3 : zrg x3) (x4 : Int) (hx4 : zrg x4) (A : zA), zG (r34 x1 x2 x3 x4 A) zPI d w 27 34 [some (.inr (.inr (some 226))), some (.inl x1), some (.inl x2), some (.inl x3), some (.inl x4), none, none, none, none] [] A) (N : Nat) (hd : 4 ≤ d) (hw : 92 ≤ w) (x1 : Int) (hx1 : zrg x1) (x2 : Int) (hx2 : zrg x2) (x3 : Int) (hx3 : zrg x3) (x4 : Int) (hx4 : zrg x4) (A : zA) : zG (z_M_run_34_b r34 N x1 x2 x3 x4 A) zPI d w 27 34 [some (.inr (.inr (some 226))), some (.inl x1), some (.inl x2), some (.inl x3), some (.inl x4), none, none, none, none] [] A := by
  unfold z_M_run_34_b
  refine js_iload (pc1 := 36) rfl rfl rfl ?_
  refine ju_ge (pc1 := 39) (t1 := 459) hx4 rfl rfl rfl (fun c1 => ?_) (fun c1 => ?_)
  · refine js_iload (pc1 := 40) rfl rfl rfl ?_
    refine js_aload (pc1 := 41) rfl rfl rfl ?_
    refine js_gfr (pc1 := 44) (j := 4) (r := 229) rfl rfl rfl rfl rfl ?_
    refine js_iconst (pc1 := 45) rfl rfl ?_
    refine js_iload (pc1 := 46) rfl rfl rfl ?_
    refine js_cP (pc1 := 49) (as := [(.inl 0), (.inl x2)]) (S0 := [(.inr (.inr (some 229))), (.inl x3)]) (m := 2) (L0 := [some (.inl 0), some (.inl x2)]) rfl rfl rfl rfl rfl rfl rfl rfl (zrc_s rfl) (by omega) (by omega) (z_M_row_ok N (by omega) (by omega) 0 (zlit rfl) x2 hx2 A) (fun v2 _ hv2 => ?_)
    refine jt_ald (pc1 := 50) rfl rfl rfl rfl rfl (fun v3 hv3 => ?_)
    refine jt_ge (pc1 := 53) (t1 := 64) hx3 hv3 rfl rfl rfl (fun c4 => ?_) (fun c4 => ?_)
    · refine js_aload (pc1 := 54) rfl rfl rfl ?_
      refine js_iconst (pc1 := 55) rfl rfl ?_
      refine js_iload (pc1 := 56) rfl rfl rfl ?_
      refine js_iload (pc1 := 57) rfl rfl rfl ?_
      refine js_iconst (pc1 := 58) rfl rfl ?_
      refine js_cP (pc1 := 61) (as := [(.inr (.inr (some 226))), (.inl 0), (.inl x2), (.inl x3), (.inl 0)]) (S0 := []) (m := 5) (L0 := [some (.inr (.inr (some 226))), some (.inl 0), some (.inl x2), some (.inl x3), some (.inl 0)]) rfl rfl rfl rfl rfl rfl rfl rfl (zrc_o rfl rfl) (by omega) (by omega) (z_M_field_ok N (by omega) (by omega) 0 (zlit rfl) x2 hx2 x3 hx3 0 (zlit rfl) A) (fun v5 _ hv5 => ?_)
      refine js_goto (t1 := 66) rfl rfl ?_
      exact zG_to (L := [some (.inr (.inr (some 226))), some (.inl x1), some (.inl x2), some (.inl x3), none, none, none, none, none]) (S := [(.inl v5)]) ⟨rfl, ⟨rfl, ⟨rfl, ⟨rfl, trivial⟩⟩⟩⟩ (rfl) (z_M_run_66_ok hr34 N hd hw x1 hx1 x2 hx2 x3 hx3 v5 hv5 A)
    · refine js_iconst (pc1 := 66) rfl rfl ?_
      exact zG_to (L := [some (.inr (.inr (some 226))), some (.inl x1), some (.inl x2), some (.inl x3), none, none, none, none, none]) (S := [(.inl 99)]) ⟨rfl, ⟨rfl, ⟨rfl, ⟨rfl, trivial⟩⟩⟩⟩ (rfl) (z_M_run_66_ok hr34 N hd hw x1 hx1 x2 hx2 x3 hx3 99 (zlit rfl) A)
  · refine js_iload (pc1 := 461) rfl rfl rfl ?_
    exact je_I rfl (zfit0 _ rfl) rfl hx4
theorem z_M_run_34_lok{d w : Nat} (N : Nat) (hd : 4 ≤ d) (hw : 92 ≤ w) (n : Nat) : ∀ (x1 : Int) (hx1 : zrg x1) (x2 : Int) (hx2 : zrg x2) (x3 : Int) (hx3 : zrg x3) (x4 : Int) (hx4 : zrg x4) (A : zA), zG (z_M_run_34_l N n x1 x2 x3 x4 A) zPI d w 27 34 [some (.inr (.inr (some 226))), some (.inl x1), some (.inl x2), some (.inl x3), some (.inl x4), none, none, none, none] [] A := by
  induction n with
  | zero => intros; exact zG_none
  | succ n ih =>
    intro x1 hx1 x2 hx2 x3 hx3 x4 hx4 A
    exact z_M_run_34_bok ih N hd hw x1 hx1 x2 hx2 x3 hx3 x4 hx4 A
theorem z_M_run_34_ok{d w : Nat} (N : Nat) (hd : 4 ≤ d) (hw : 92 ≤ w) (x1 : Int) (hx1 : zrg x1) (x2 : Int) (hx2 : zrg x2) (x3 : Int) (hx3 : zrg x3) (x4 : Int) (hx4 : zrg x4) (A : zA) : zG (z_M_run_34 N x1 x2 x3 x4 A) zPI d w 27 34 [some (.inr (.inr (some 226))), some (.inl x1), some (.inl x2), some (.inl x3), some (.inl x4), none, none, none, none] [] A := z_M_run_34_lok N hd hw N x1 hx1 x2 hx2 x3 hx3 x4 hx4 A
theorem z_M_run_ok{d w : Nat} (N : Nat) (hd : 4 ≤ d) (hw : 92 ≤ w) (x1 : Int) (hx1 : zrg x1) (A : zA) : zG (z_M_run N x1 A) zPI d w 27 0 [some (.inr (.inr (some 226))), some (.inl x1), none, none, none, none, none, none, none] [] A := by
  unfold z_M_run
  refine js_aload (pc1 := 1) rfl rfl rfl ?_
  refine js_iconst (pc1 := 2) rfl rfl ?_
  refine jt_pi (pc1 := 5) (j := 0) rfl rfl rfl rfl rfl (fun A1 => ?_)
  refine js_iload (pc1 := 6) rfl rfl rfl ?_
  refine js_iconst (pc1 := 7) rfl rfl ?_
  refine jt_lt (pc1 := 10) (t1 := 17) hx1 (zlit rfl) rfl rfl rfl (fun c2 => ?_) (fun c2 => ?_)
  · exact zG_to (L := [some (.inr (.inr (some 226))), none, none, none, none, none, none, none, none]) (S := []) ⟨rfl, trivial⟩ (rfl) (z_M_run_17_ok N hd hw A1)
  · refine js_iload (pc1 := 11) rfl rfl rfl ?_
    refine js_iconst (pc1 := 14) rfl rfl ?_
    refine jt_le (pc1 := 17) (t1 := 23) hx1 (zlit rfl) rfl rfl rfl (fun c3 => ?_) (fun c3 => ?_)
    · exact zG_to (L := [some (.inr (.inr (some 226))), none, none, none, none, none, none, none, none]) (S := []) ⟨rfl, trivial⟩ (rfl) (z_M_run_17_ok N hd hw A1)
    · refine js_aload (pc1 := 24) rfl rfl rfl ?_
      refine js_cV (pc1 := 27) (as := [(.inr (.inr (some 226)))]) (S0 := []) (m := 2) (L0 := [some (.inr (.inr (some 226))), none]) rfl rfl rfl rfl rfl rfl rfl rfl (zrc_o rfl rfl) (by omega) (by omega) (z_M_begin_ok N (by omega) (by omega) A1) (fun A4 _ => ?_)
      refine js_iconst (pc1 := 28) rfl rfl ?_
      refine js_istore (pc1 := 29) (L1 := [some (.inr (.inr (some 226))), some (.inl x1), some (.inl 3), none, none, none, none, none, none]) rfl rfl rfl rfl ?_
      refine js_iconst (pc1 := 30) rfl rfl ?_
      refine js_istore (pc1 := 31) (L1 := [some (.inr (.inr (some 226))), some (.inl x1), some (.inl 3), some (.inl 0), none, none, none, none, none]) rfl rfl rfl rfl ?_
      refine js_iconst (pc1 := 32) rfl rfl ?_
      refine js_istore (pc1 := 34) (L1 := [some (.inr (.inr (some 226))), some (.inl x1), some (.inl 3), some (.inl 0), some (.inl (-1)), none, none, none, none]) rfl rfl rfl rfl ?_
      exact z_M_run_34_ok N hd hw x1 hx1 3 (zlit rfl) 0 (zlit rfl) (-1) (zlit rfl) A4
theorem z_PC_out_ok{d w : Nat} (N : Nat) (hd : 8 ≤ d) (hw : 10300 ≤ w) (x1 : Int) (hx1 : zrg x1) (A : zA) : zG (z_PC_out N x1 A) zPX d w 73 0 [some (.inr (.inr (some 4))), some (.inl x1)] [] A := by
  unfold z_PC_out
  refine js_iload (pc1 := 1) rfl rfl rfl ?_
  refine ju_lt (pc1 := 4) (t1 := 15) hx1 rfl rfl rfl (fun c1 => ?_) (fun c1 => ?_)
  · exact je_T rfl rfl (by omega) (by omega)
  · refine js_iload (pc1 := 5) rfl rfl rfl ?_
    refine js_aload (pc1 := 6) rfl rfl rfl ?_
    refine js_gfr (pc1 := 9) (j := 10) (r := 214) rfl rfl rfl rfl rfl ?_
    refine js_gi (pc1 := 12) (j := 3) rfl rfl rfl rfl ?_
    refine jt_lt (pc1 := 15) (t1 := 25) hx1 (zi_rg _ _ _) rfl rfl rfl (fun c2 => ?_) (fun c2 => ?_)
    · refine js_aload (pc1 := 26) rfl rfl rfl ?_
      refine js_gfr (pc1 := 29) (j := 10) (r := 214) rfl rfl rfl rfl rfl ?_
      refine js_gfr (pc1 := 32) (j := 2) (r := 216) rfl rfl rfl rfl rfl ?_
      refine js_iload (pc1 := 33) rfl rfl rfl ?_
      refine jt_ald (pc1 := 34) rfl rfl rfl rfl rfl (fun v3 hv3 => ?_)
      exact je_X rfl (zfit0 _ rfl) rfl hv3
    · exact je_T rfl rfl (by omega) (by omega)
theorem z_Lw_out_ok{d w : Nat} (N : Nat) (hd : 9 ≤ d) (hw : 10321 ≤ w) (x1 : Int) (hx1 : zrg x1) (A : zA) : zG (z_Lw_out N x1 A) zPI d w 28 0 [some (.inr (.inr (some 4))), some (.inl x1), some (.inr (.inr (some 295))), none] [] A := by
  unfold z_Lw_out
  refine js_aload (pc1 := 1) rfl rfl rfl ?_
  refine js_iconst (pc1 := 2) rfl rfl ?_
  refine js_aload (pc1 := 3) rfl rfl rfl ?_
  refine js_iload (pc1 := 4) rfl rfl rfl ?_
  refine js_cX (pc1 := 7) (as := [(.inr (.inr (some 4))), (.inl x1)]) (S0 := [(.inl 0), (.inr (.inr (some 295)))]) (m := 2) (L0 := [some (.inr (.inr (some 4))), some (.inl x1)]) rfl rfl rfl rfl rfl rfl rfl rfl (zrc_o rfl rfl) (by omega) (by omega) (z_PC_out_ok N (by omega) (by omega) x1 hx1 A) (fun v1 A2 hv1 => ?_) (fun n5 A4 => ?_)
  · refine js_i2l (pc1 := 8) rfl rfl ?_
    refine jt_las (pc1 := 9) rfl rfl rfl rfl (fun A6 => ?_)
    refine js_goto (t1 := 15) rfl rfl ?_
    refine js_iconst (pc1 := 16) rfl rfl ?_
    exact je_I rfl (zfit0 _ rfl) rfl (zlit rfl)
  · rcases Decidable.em (n5 = 2) with c7 | c7
    · subst c7
      refine Or.inr ⟨12, by decide, fun e3 => ?_⟩
      rw [if_pos rfl]
      refine js_astore (pc1 := 13) (L1 := [some (.inr (.inr (some 4))), some (.inl x1), some (.inr (.inr (some 295))), some (.inr (.inr (some e3)))]) rfl rfl rfl rfl ?_
      refine js_iconst (pc1 := 14) rfl rfl ?_
      exact je_I rfl (zfit0 _ rfl) rfl (zlit rfl)
    exact Or.inl (by simp only [if_neg c7])
theorem z_M_out_17_ok{d w : Nat} (N : Nat) (hd : 1 ≤ d) (hw : 21 ≤ w) (A : zA) : zG (z_M_out_17 N A) zPI d w 29 17 [some (.inr (.inr (some 226))), none] [] A := by
  unfold z_M_out_17
  refine js_aload (pc1 := 18) rfl rfl rfl ?_
  refine js_iconst (pc1 := 19) rfl rfl ?_
  refine js_cI (pc1 := 22) (as := [(.inr (.inr (some 226))), (.inl 1)]) (S0 := []) (m := 2) (L0 := [some (.inr (.inr (some 226))), some (.inl 1)]) rfl rfl rfl rfl rfl rfl rfl rfl (zrc_o rfl rfl) (by omega) (by omega) (z_M_fail_ok N (by omega) (by omega) 1 (zlit rfl) A) (fun v1 A2 _ hv1 => ?_)
  refine js_goto (t1 := 31) rfl rfl ?_
  exact je_I rfl (zfit0 _ rfl) rfl hv1
theorem z_M_out_ok{d w : Nat} (N : Nat) (hd : 1 ≤ d) (hw : 21 ≤ w) (x1 : Int) (hx1 : zrg x1) (A : zA) : zG (z_M_out N x1 A) zPI d w 29 0 [some (.inr (.inr (some 226))), some (.inl x1)] [] A := by
  unfold z_M_out
  refine js_aload (pc1 := 1) rfl rfl rfl ?_
  refine js_iconst (pc1 := 2) rfl rfl ?_
  refine jt_pi (pc1 := 5) (j := 0) rfl rfl rfl rfl rfl (fun A1 => ?_)
  refine js_iload (pc1 := 6) rfl rfl rfl ?_
  refine ju_lt (pc1 := 9) (t1 := 17) hx1 rfl rfl rfl (fun c2 => ?_) (fun c2 => ?_)
  · exact zG_to (L := [some (.inr (.inr (some 226))), none]) (S := []) ⟨rfl, trivial⟩ (rfl) (z_M_out_17_ok N hd hw A1)
  · refine js_iload (pc1 := 10) rfl rfl rfl ?_
    refine js_aload (pc1 := 11) rfl rfl rfl ?_
    refine js_gi (pc1 := 14) (j := 92) rfl rfl rfl rfl ?_
    refine jt_lt (pc1 := 17) (t1 := 25) hx1 (zi_rg _ _ _) rfl rfl rfl (fun c3 => ?_) (fun c3 => ?_)
    · refine js_aload (pc1 := 26) rfl rfl rfl ?_
      refine js_gfr (pc1 := 29) (j := 95) (r := 291) rfl rfl rfl rfl rfl ?_
      refine js_iload (pc1 := 30) rfl rfl rfl ?_
      refine jt_ald (pc1 := 31) rfl rfl rfl rfl rfl (fun v4 hv4 => ?_)
      exact je_I rfl (zfit0 _ rfl) rfl hv4
    · exact zG_to (L := [some (.inr (.inr (some 226))), none]) (S := []) ⟨rfl, trivial⟩ (rfl) (z_M_out_17_ok N hd hw A1)
theorem z_PC_count_ok{d w : Nat} (N : Nat) (hd : 7 ≤ d) (hw : 197 ≤ w) (x1 : Int) (hx1 : zrg x1) (A : zA) : zG (z_PC_count N x1 A) zPI d w 30 0 [some (.inr (.inr (some 4))), some (.inl x1)] [] A := by
  unfold z_PC_count
  refine js_iload (pc1 := 1) rfl rfl rfl ?_
  refine zG_ite (fun c1 => ?_) (fun c1 => ?_)
  · refine js_tsw (t1 := 48) rfl c1 (zlit rfl) (by decide) ?_
    refine js_aload (pc1 := 49) rfl rfl rfl ?_
    refine js_gfr (pc1 := 52) (j := 0) (r := 5) rfl rfl rfl rfl rfl ?_
    refine js_gi (pc1 := 55) (j := 1) rfl rfl rfl rfl ?_
    exact je_I rfl (zfit0 _ rfl) rfl (zi_rg _ _ _)
  refine zG_ite (fun c3 => ?_) (fun c3 => ?_)
  · refine js_tsw (t1 := 56) rfl c3 (zlit rfl) (by decide) ?_
    refine js_aload (pc1 := 57) rfl rfl rfl ?_
    refine jt_gr (pc1 := 60) (j := 2) rfl rfl rfl rfl (fun p2 => ?_)
    refine zG_cs (fun hp2 => ?_)
    refine js_gi (pc1 := 63) (j := 1) rfl rfl hp2 rfl ?_
    exact je_I rfl (zfit0 _ rfl) rfl (zi_rg _ _ _)
  refine zG_ite (fun c5 => ?_) (fun c5 => ?_)
  · refine js_tsw (t1 := 64) rfl c5 (zlit rfl) (by decide) ?_
    refine js_aload (pc1 := 65) rfl rfl rfl ?_
    refine js_cV (pc1 := 68) (as := [(.inr (.inr (some 4)))]) (S0 := []) (m := 1) (L0 := [some (.inr (.inr (some 4)))]) rfl rfl rfl rfl rfl rfl rfl rfl (zrc_o rfl rfl) (by omega) (by omega) (z_PC_makeLetters_ok N (by omega) (by omega) A) (fun A4 _ => ?_)
    refine js_aload (pc1 := 69) rfl rfl rfl ?_
    refine js_gfr (pc1 := 72) (j := 8) (r := 209) rfl rfl rfl rfl rfl ?_
    refine js_gi (pc1 := 75) (j := 2) rfl rfl rfl rfl ?_
    exact je_I rfl (zfit0 _ rfl) rfl (zi_rg _ _ _)
  refine zG_ite (fun c6 => ?_) (fun c6 => ?_)
  · refine js_tsw (t1 := 76) rfl c6 (zlit rfl) (by decide) ?_
    refine js_aload (pc1 := 77) rfl rfl rfl ?_
    refine js_gfr (pc1 := 80) (j := 10) (r := 214) rfl rfl rfl rfl rfl ?_
    refine js_gi (pc1 := 83) (j := 1) rfl rfl rfl rfl ?_
    exact je_I rfl (zfit0 _ rfl) rfl (zi_rg _ _ _)
  refine zG_ite (fun c7 => ?_) (fun c7 => ?_)
  · refine js_tsw (t1 := 84) rfl c7 (zlit rfl) (by decide) ?_
    refine js_aload (pc1 := 85) rfl rfl rfl ?_
    refine js_gfr (pc1 := 88) (j := 10) (r := 214) rfl rfl rfl rfl rfl ?_
    refine js_gi (pc1 := 91) (j := 3) rfl rfl rfl rfl ?_
    exact je_I rfl (zfit0 _ rfl) rfl (zi_rg _ _ _)
  refine zG_ite (fun c8 => ?_) (fun c8 => ?_)
  · refine js_tsw (t1 := 92) rfl c8 (zlit rfl) (by decide) ?_
    refine js_aload (pc1 := 93) rfl rfl rfl ?_
    refine js_gfr (pc1 := 96) (j := 10) (r := 214) rfl rfl rfl rfl rfl ?_
    refine js_gi (pc1 := 99) (j := 4) rfl rfl rfl rfl ?_
    exact je_I rfl (zfit0 _ rfl) rfl (zi_rg _ _ _)
  refine zG_ite (fun c9 => ?_) (fun c9 => ?_)
  · refine js_tsw (t1 := 100) rfl c9 (zlit rfl) (by decide) ?_
    refine js_aload (pc1 := 101) rfl rfl rfl ?_
    refine js_gi (pc1 := 104) (j := 11) rfl rfl rfl rfl ?_
    exact je_I rfl (zfit0 _ rfl) rfl (zi_rg _ _ _)
  refine zG_ite (fun c10 => ?_) (fun c10 => ?_)
  · refine js_tsw (t1 := 105) rfl c10 (zlit rfl) (by decide) ?_
    refine js_aload (pc1 := 106) rfl rfl rfl ?_
    refine js_gi (pc1 := 109) (j := 12) rfl rfl rfl rfl ?_
    exact je_I rfl (zfit0 _ rfl) rfl (zi_rg _ _ _)
  refine js_tswd (t1 := 110) rfl hx1 (by omega) rfl ?_
  refine js_iconst (pc1 := 111) rfl rfl ?_
  exact je_I rfl (zfit0 _ rfl) rfl (zlit rfl)
theorem z_M_count_ok{d w : Nat} (N : Nat) (hd : 5 ≤ d) (hw : 115 ≤ w) (x1 : Int) (hx1 : zrg x1) (A : zA) : zG (z_M_count N x1 A) zPI d w 31 0 [some (.inr (.inr (some 226))), some (.inl x1)] [] A := by
  unfold z_M_count
  refine js_aload (pc1 := 1) rfl rfl rfl ?_
  refine js_iconst (pc1 := 2) rfl rfl ?_
  refine jt_pi (pc1 := 5) (j := 0) rfl rfl rfl rfl rfl (fun A1 => ?_)
  refine js_aload (pc1 := 6) rfl rfl rfl ?_
  refine js_cV (pc1 := 9) (as := [(.inr (.inr (some 226)))]) (S0 := []) (m := 4) (L0 := [some (.inr (.inr (some 226))), none, none, none]) rfl rfl rfl rfl rfl rfl rfl rfl (zrc_o rfl rfl) (by omega) (by omega) (z_M_build_ok N (by omega) (by omega) A1) (fun A2 _ => ?_)
  refine js_iload (pc1 := 10) rfl rfl rfl ?_
  refine zG_ite (fun c3 => ?_) (fun c3 => ?_)
  · refine js_tsw (t1 := 56) rfl c3 (zlit rfl) (by decide) ?_
    refine js_aload (pc1 := 57) rfl rfl rfl ?_
    refine js_gi (pc1 := 60) (j := 1) rfl rfl rfl rfl ?_
    exact je_I rfl (zfit0 _ rfl) rfl (zi_rg _ _ _)
  refine zG_ite (fun c4 => ?_) (fun c4 => ?_)
  · refine js_tsw (t1 := 61) rfl c4 (zlit rfl) (by decide) ?_
    refine js_aload (pc1 := 62) rfl rfl rfl ?_
    refine js_gi (pc1 := 65) (j := 6) rfl rfl rfl rfl ?_
    exact je_I rfl (zfit0 _ rfl) rfl (zi_rg _ _ _)
  refine zG_ite (fun c5 => ?_) (fun c5 => ?_)
  · refine js_tsw (t1 := 66) rfl c5 (zlit rfl) (by decide) ?_
    refine js_aload (pc1 := 67) rfl rfl rfl ?_
    refine js_gi (pc1 := 70) (j := 86) rfl rfl rfl rfl ?_
    exact je_I rfl (zfit0 _ rfl) rfl (zi_rg _ _ _)
  refine zG_ite (fun c6 => ?_) (fun c6 => ?_)
  · refine js_tsw (t1 := 71) rfl c6 (zlit rfl) (by decide) ?_
    refine js_aload (pc1 := 72) rfl rfl rfl ?_
    refine js_gi (pc1 := 75) (j := 10) rfl rfl rfl rfl ?_
    exact je_I rfl (zfit0 _ rfl) rfl (zi_rg _ _ _)
  refine zG_ite (fun c7 => ?_) (fun c7 => ?_)
  · refine js_tsw (t1 := 76) rfl c7 (zlit rfl) (by decide) ?_
    refine js_aload (pc1 := 77) rfl rfl rfl ?_
    refine js_gi (pc1 := 80) (j := 92) rfl rfl rfl rfl ?_
    exact je_I rfl (zfit0 _ rfl) rfl (zi_rg _ _ _)
  refine zG_ite (fun c8 => ?_) (fun c8 => ?_)
  · refine js_tsw (t1 := 81) rfl c8 (zlit rfl) (by decide) ?_
    refine js_aload (pc1 := 82) rfl rfl rfl ?_
    refine js_gi (pc1 := 85) (j := 93) rfl rfl rfl rfl ?_
    exact je_I rfl (zfit0 _ rfl) rfl (zi_rg _ _ _)
  refine zG_ite (fun c9 => ?_) (fun c9 => ?_)
  · refine js_tsw (t1 := 86) rfl c9 (zlit rfl) (by decide) ?_
    refine js_aload (pc1 := 87) rfl rfl rfl ?_
    refine js_gi (pc1 := 90) (j := 7) rfl rfl rfl rfl ?_
    exact je_I rfl (zfit0 _ rfl) rfl (zi_rg _ _ _)
  refine zG_ite (fun c10 => ?_) (fun c10 => ?_)
  · refine js_tsw (t1 := 91) rfl c10 (zlit rfl) (by decide) ?_
    refine js_aload (pc1 := 92) rfl rfl rfl ?_
    refine js_gi (pc1 := 95) (j := 8) rfl rfl rfl rfl ?_
    exact je_I rfl (zfit0 _ rfl) rfl (zi_rg _ _ _)
  refine js_tswd (t1 := 96) rfl hx1 (by omega) rfl ?_
  refine js_iconst (pc1 := 97) rfl rfl ?_
  exact je_I rfl (zfit0 _ rfl) rfl (zlit rfl)
