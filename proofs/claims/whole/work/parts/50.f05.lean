theorem z_Co_goOver_146_ok{d w : Nat} (N : Nat) (hd : 5 ≤ d) (hw : 158 ≤ w) (x1 : Nat) (hx1 : zsh x1 = some (false, 3, 4)) (x2 : Int) (hx2 : zrg x2) (x3 : Nat) (hx3 : zsh x3 = some (false, 3, 4)) (A : zA) : zG (z_Co_goOver_146 N x1 x2 x3 A) zPI d w 166 146 [none, some (.inr (.inr (some x1))), some (.inl x2), some (.inr (.inr (some x3)))] [] A := by
  unfold z_Co_goOver_146
  refine js_aload (pc1 := 147) rfl rfl rfl ?_
  refine js_aload (pc1 := 148) rfl rfl rfl ?_
  refine js_iload (pc1 := 149) rfl rfl rfl ?_
  refine js_cV (pc1 := 152) (as := [(.inr (.inr (some x3))), (.inr (.inr (some x1))), (.inl x2)]) (S0 := []) (m := 3) (L0 := [some (.inr (.inr (some x3))), some (.inr (.inr (some x1))), some (.inl x2)]) rfl rfl rfl rfl rfl rfl rfl rfl (zrc_o rfl hx3) (by omega) (by omega) (z_Pt_addCopy_ok N (by omega) (by omega) x3 hx3 x1 hx1 x2 hx2 A) (fun A1 _ => ?_)
  refine js_iload (pc1 := 153) rfl rfl rfl ?_
  exact je_I rfl (zfit0 _ rfl) rfl hx2
theorem z_Co_goOver_131_ok{d w : Nat} (N : Nat) (hd : 5 ≤ d) (hw : 158 ≤ w) (x1 : Nat) (hx1 : zsh x1 = some (false, 3, 4)) (x2 : Int) (hx2 : zrg x2) (x3 : Nat) (hx3 : zsh x3 = some (false, 3, 4)) (s1 : Int) (hs1 : zrg s1) (A : zA) : zG (z_Co_goOver_131 N x1 x2 x3 s1 A) zPI d w 166 131 [none, some (.inr (.inr (some x1))), some (.inl x2), some (.inr (.inr (some x3)))] [(.inl s1), (.inr (.inr (some 49)))] A := by
  unfold z_Co_goOver_131
  refine js_cV (pc1 := 134) (as := [(.inr (.inr (some 49))), (.inl s1)]) (S0 := []) (m := 3) (L0 := [some (.inr (.inr (some 49))), some (.inl s1), none]) rfl rfl rfl rfl rfl rfl rfl rfl (zrc_o rfl rfl) (by omega) (by omega) (z_Co_close_ok N (by omega) (by omega) s1 hs1 A) (fun A1 _ => ?_)
  refine js_goto (t1 := 146) rfl rfl ?_
  exact z_Co_goOver_146_ok N hd hw x1 hx1 x2 hx2 x3 hx3 A1
theorem z_Co_goOver_ok{d w : Nat} (N : Nat) (hd : 5 ≤ d) (hw : 158 ≤ w) (x1 : Nat) (hx1 : zsh x1 = some (false, 3, 4)) (x2 : Int) (hx2 : zrg x2) (x3 : Nat) (hx3 : zsh x3 = some (false, 3, 4)) (A : zA) : zG (z_Co_goOver N x1 x2 x3 A) zPI d w 166 0 [some (.inr (.inr (some 49))), some (.inr (.inr (some x1))), some (.inl x2), some (.inr (.inr (some x3)))] [] A := by
  unfold z_Co_goOver
  refine js_aload (pc1 := 1) rfl rfl rfl ?_
  refine js_iload (pc1 := 2) rfl rfl rfl ?_
  refine js_cP (pc1 := 5) (as := [(.inr (.inr (some x1))), (.inl x2)]) (S0 := []) (m := 2) (L0 := [some (.inr (.inr (some x1))), some (.inl x2)]) rfl rfl rfl rfl rfl rfl rfl rfl (zrc_o rfl hx1) (by omega) (by omega) (z_Pt_kind_ok N (by omega) (by omega) x1 hx1 x2 hx2 A) (fun v1 _ hv1 => ?_)
  refine zG_ite (fun c4 => ?_) (fun c4 => ?_)
  · refine js_tsw (t1 := 40) rfl c4 (zlit rfl) (by decide) ?_
    refine js_aload (pc1 := 41) rfl rfl rfl ?_
    refine js_aload (pc1 := 42) rfl rfl rfl ?_
    refine js_iload (pc1 := 43) rfl rfl rfl ?_
    refine js_aload (pc1 := 44) rfl rfl rfl ?_
    refine js_cI (pc1 := 47) (as := [(.inr (.inr (some 49))), (.inr (.inr (some x1))), (.inl x2), (.inr (.inr (some x3)))]) (S0 := []) (m := 8) (L0 := [some (.inr (.inr (some 49))), some (.inr (.inr (some x1))), some (.inl x2), some (.inr (.inr (some x3))), none, none, none, none]) rfl rfl rfl rfl rfl rfl rfl rfl (zrc_o rfl rfl) (by omega) (by omega) (z_Co_goOverIf_ok N (by omega) (by omega) x1 hx1 x2 hx2 x3 hx3 A) (fun v2 A3 _ hv2 => ?_)
    exact je_I rfl (zfit0 _ rfl) rfl hv2
  refine zG_ite (fun c9 => ?_) (fun c9 => ?_)
  · refine js_tsw (t1 := 48) rfl c9 (zlit rfl) (by decide) ?_
    refine js_aload (pc1 := 49) rfl rfl rfl ?_
    refine js_gfr (pc1 := 52) (j := 3) (r := 101) rfl rfl rfl rfl rfl ?_
    refine js_iload (pc1 := 53) rfl rfl rfl ?_
    refine jt_ald (pc1 := 54) rfl rfl rfl rfl rfl (fun v5 hv5 => ?_)
    refine ju_eq (pc1 := 57) (t1 := 63) hv5 rfl rfl rfl (fun c6 => ?_) (fun c6 => ?_)
    · refine js_aload (pc1 := 64) rfl rfl rfl ?_
      refine js_cV (pc1 := 67) (as := [(.inr (.inr (some 49)))]) (S0 := []) (m := 1) (L0 := [some (.inr (.inr (some 49)))]) rfl rfl rfl rfl rfl rfl rfl rfl (zrc_o rfl rfl) (by omega) (by omega) (z_Co_turnToLatter_ok N (by omega) (by omega) A) (fun A7 _ => ?_)
      refine js_goto (t1 := 146) rfl rfl ?_
      exact zG_to (L := [none, some (.inr (.inr (some x1))), some (.inl x2), some (.inr (.inr (some x3)))]) (S := []) ⟨rfl, ⟨rfl, ⟨rfl, trivial⟩⟩⟩ (rfl) (z_Co_goOver_146_ok N hd hw x1 hx1 x2 hx2 x3 hx3 A7)
    · refine js_aload (pc1 := 58) rfl rfl rfl ?_
      refine js_iload (pc1 := 59) rfl rfl rfl ?_
      refine js_cP (pc1 := 62) (as := [(.inr (.inr (some x1))), (.inl x2)]) (S0 := []) (m := 2) (L0 := [some (.inr (.inr (some x1))), some (.inl x2)]) rfl rfl rfl rfl rfl rfl rfl rfl (zrc_o rfl hx1) (by omega) (by omega) (z_Pt_mate_ok N (by omega) (by omega) x1 hx1 x2 hx2 A) (fun v8 _ hv8 => ?_)
      exact je_I rfl (zfit0 _ rfl) rfl hv8
  refine zG_ite (fun c12 => ?_) (fun c12 => ?_)
  · refine js_tsw (t1 := 70) rfl c12 (zlit rfl) (by decide) ?_
    refine js_aload (pc1 := 71) rfl rfl rfl ?_
    refine js_aload (pc1 := 72) rfl rfl rfl ?_
    refine js_iload (pc1 := 73) rfl rfl rfl ?_
    refine js_cV (pc1 := 76) (as := [(.inr (.inr (some 49))), (.inr (.inr (some x1))), (.inl x2)]) (S0 := []) (m := 6) (L0 := [some (.inr (.inr (some 49))), some (.inr (.inr (some x1))), some (.inl x2), none, none, none]) rfl rfl rfl rfl rfl rfl rfl rfl (zrc_o rfl rfl) (by omega) (by omega) (z_Co_forgetWritten_ok N (by omega) (by omega) x1 hx1 x2 hx2 A) (fun A10 _ => ?_)
    refine js_aload (pc1 := 77) rfl rfl rfl ?_
    refine js_dupR (pc1 := 78) rfl rfl ?_
    refine js_gi (pc1 := 81) (j := 4) rfl rfl rfl rfl ?_
    refine js_iconst (pc1 := 82) rfl rfl ?_
    refine js_iadd (pc1 := 83) rfl rfl ?_
    refine jt_pi (pc1 := 86) (j := 4) rfl rfl rfl rfl rfl (fun A11 => ?_)
    refine js_goto (t1 := 146) rfl rfl ?_
    exact zG_to (L := [none, some (.inr (.inr (some x1))), some (.inl x2), some (.inr (.inr (some x3)))]) (S := []) ⟨rfl, ⟨rfl, ⟨rfl, trivial⟩⟩⟩ (rfl) (z_Co_goOver_146_ok N hd hw x1 hx1 x2 hx2 x3 hx3 A11)
  refine zG_ite (fun c14 => ?_) (fun c14 => ?_)
  · refine js_tsw (t1 := 89) rfl c14 (zlit rfl) (by decide) ?_
    refine js_aload (pc1 := 90) rfl rfl rfl ?_
    refine js_aload (pc1 := 91) rfl rfl rfl ?_
    refine js_gfr (pc1 := 94) (j := 1) (r := 51) rfl rfl rfl rfl rfl ?_
    refine js_cV (pc1 := 97) (as := [(.inr (.inr (some 49))), (.inr (.inr (some 51)))]) (S0 := []) (m := 2) (L0 := [some (.inr (.inr (some 49))), some (.inr (.inr (some 51)))]) rfl rfl rfl rfl rfl rfl rfl rfl (zrc_o rfl rfl) (by omega) (by omega) (z_Co_keep_ok N (by omega) (by omega) 51 A) (fun A13 _ => ?_)
    refine js_goto (t1 := 146) rfl rfl ?_
    exact zG_to (L := [none, some (.inr (.inr (some x1))), some (.inl x2), some (.inr (.inr (some x3)))]) (S := []) ⟨rfl, ⟨rfl, ⟨rfl, trivial⟩⟩⟩ (rfl) (z_Co_goOver_146_ok N hd hw x1 hx1 x2 hx2 x3 hx3 A13)
  refine zG_ite (fun c20 => ?_) (fun c20 => ?_)
  · refine js_tsw (t1 := 100) rfl c20 (zlit rfl) (by decide) ?_
    refine js_aload (pc1 := 101) rfl rfl rfl ?_
    refine js_gfr (pc1 := 104) (j := 3) (r := 101) rfl rfl rfl rfl rfl ?_
    refine js_iload (pc1 := 105) rfl rfl rfl ?_
    refine jt_ald (pc1 := 106) rfl rfl rfl rfl rfl (fun v15 hv15 => ?_)
    refine ju_eq (pc1 := 109) (t1 := 111) hv15 rfl rfl rfl (fun c16 => ?_) (fun c16 => ?_)
    · refine js_aload (pc1 := 112) rfl rfl rfl ?_
      refine js_aload (pc1 := 113) rfl rfl rfl ?_
      refine js_aload (pc1 := 114) rfl rfl rfl ?_
      refine js_iload (pc1 := 115) rfl rfl rfl ?_
      refine js_cP (pc1 := 118) (as := [(.inr (.inr (some x1))), (.inl x2)]) (S0 := [(.inr (.inr (some x1))), (.inr (.inr (some 49)))]) (m := 2) (L0 := [some (.inr (.inr (some x1))), some (.inl x2)]) rfl rfl rfl rfl rfl rfl rfl rfl (zrc_o rfl hx1) (by omega) (by omega) (z_Pt_mate_ok N (by omega) (by omega) x1 hx1 x2 hx2 A) (fun v17 _ hv17 => ?_)
      refine js_cP (pc1 := 121) (as := [(.inr (.inr (some x1))), (.inl v17)]) (S0 := [(.inr (.inr (some 49)))]) (m := 2) (L0 := [some (.inr (.inr (some x1))), some (.inl v17)]) rfl rfl rfl rfl rfl rfl rfl rfl (zrc_o rfl hx1) (by omega) (by omega) (z_Pt_kind_ok N (by omega) (by omega) x1 hx1 v17 hv17 A) (fun v18 _ hv18 => ?_)
      refine js_iconst (pc1 := 123) rfl rfl ?_
      refine jt_ne (pc1 := 126) (t1 := 130) hv18 (zlit rfl) rfl rfl rfl (fun c19 => ?_) (fun c19 => ?_)
      · refine js_iconst (pc1 := 127) rfl rfl ?_
        refine js_goto (t1 := 131) rfl rfl ?_
        exact zG_to (L := [none, some (.inr (.inr (some x1))), some (.inl x2), some (.inr (.inr (some x3)))]) (S := [(.inl 1), (.inr (.inr (some 49)))]) ⟨rfl, ⟨rfl, ⟨rfl, trivial⟩⟩⟩ (rfl) (z_Co_goOver_131_ok N hd hw x1 hx1 x2 hx2 x3 hx3 1 (zlit rfl) A)
      · refine js_iconst (pc1 := 131) rfl rfl ?_
        exact zG_to (L := [none, some (.inr (.inr (some x1))), some (.inl x2), some (.inr (.inr (some x3)))]) (S := [(.inl 0), (.inr (.inr (some 49)))]) ⟨rfl, ⟨rfl, ⟨rfl, trivial⟩⟩⟩ (rfl) (z_Co_goOver_131_ok N hd hw x1 hx1 x2 hx2 x3 hx3 0 (zlit rfl) A)
    · refine js_iload (pc1 := 110) rfl rfl rfl ?_
      exact je_I rfl (zfit0 _ rfl) rfl hx2
  refine js_tswd (t1 := 137) rfl hv1 (by omega) rfl ?_
  refine js_aload (pc1 := 138) rfl rfl rfl ?_
  refine js_aload (pc1 := 139) rfl rfl rfl ?_
  refine js_iload (pc1 := 140) rfl rfl rfl ?_
  refine js_aload (pc1 := 141) rfl rfl rfl ?_
  refine js_cV (pc1 := 144) (as := [(.inr (.inr (some 49))), (.inr (.inr (some x1))), (.inl x2), (.inr (.inr (some x3)))]) (S0 := []) (m := 7) (L0 := [some (.inr (.inr (some 49))), some (.inr (.inr (some x1))), some (.inl x2), some (.inr (.inr (some x3))), none, none, none]) rfl rfl rfl rfl rfl rfl rfl rfl (zrc_o rfl rfl) (by omega) (by omega) (z_Co_goOverPlain_ok N (by omega) (by omega) x1 hx1 x2 hx2 x3 hx3 A) (fun A21 _ => ?_)
  refine js_iload (pc1 := 145) rfl rfl rfl ?_
  exact je_I rfl (zfit0 _ rfl) rfl hx2
theorem z_Co_fold_94_ok{d w : Nat} (N : Nat) (hd : 6 ≤ d) (hw : 181 ≤ w) (x2 : Nat) (hx2 : zsh x2 = some (false, 3, 4)) (A : zA) : zG (z_Co_fold_94 N x2 A) zPI d w 138 94 [some (.inr (.inr (some 49))), none, some (.inr (.inr (some x2))), none, none] [] A := by
  unfold z_Co_fold_94
  refine js_aload (pc1 := 95) rfl rfl rfl ?_
  refine js_cV (pc1 := 98) (as := [(.inr (.inr (some x2)))]) (S0 := []) (m := 6) (L0 := [some (.inr (.inr (some x2))), none, none, none, none, none]) rfl rfl rfl rfl rfl rfl rfl rfl (zrc_o rfl hx2) (by omega) (by omega) (z_Pt_link_ok N (by omega) (by omega) x2 hx2 A) (fun A1 _ => ?_)
  refine js_aload (pc1 := 99) rfl rfl rfl ?_
  refine js_gi (pc1 := 102) (j := 5) rfl rfl rfl rfl ?_
  exact je_I rfl (zfit0 _ rfl) rfl (zi_rg _ _ _)
theorem z_Co_fold_64_bok{d w : Nat} {r64 : Nat → Nat → Int → zA → Option (Int × zA)} (hr64 : ∀ (x1 : Nat) (hx1 : zsh x1 = some (false, 3, 4)) (x2 : Nat) (hx2 : zsh x2 = some (false, 3, 4)) (x4 : Int) (hx4 : zrg x4) (A : zA), zG (r64 x1 x2 x4 A) zPI d w 138 64 [some (.inr (.inr (some 49))), some (.inr (.inr (some x1))), some (.inr (.inr (some x2))), none, some (.inl x4)] [] A) (N : Nat) (hd : 6 ≤ d) (hw : 181 ≤ w) (x1 : Nat) (hx1 : zsh x1 = some (false, 3, 4)) (x2 : Nat) (hx2 : zsh x2 = some (false, 3, 4)) (x4 : Int) (hx4 : zrg x4) (A : zA) : zG (z_Co_fold_64_b r64 N x1 x2 x4 A) zPI d w 138 64 [some (.inr (.inr (some 49))), some (.inr (.inr (some x1))), some (.inr (.inr (some x2))), none, some (.inl x4)] [] A := by
  unfold z_Co_fold_64_b
  refine js_iload (pc1 := 66) rfl rfl rfl ?_
  refine js_aload (pc1 := 67) rfl rfl rfl ?_
  refine js_gi (pc1 := 70) (j := 2) rfl rfl hx1 rfl ?_
  refine jt_ge (pc1 := 73) (t1 := 94) hx4 (zi_rg _ _ _) rfl rfl rfl (fun c1 => ?_) (fun c1 => ?_)
  · refine js_iload (pc1 := 75) rfl rfl rfl ?_
    refine js_aload (pc1 := 76) rfl rfl rfl ?_
    refine js_aload (pc1 := 77) rfl rfl rfl ?_
    refine js_iload (pc1 := 79) rfl rfl rfl ?_
    refine js_aload (pc1 := 80) rfl rfl rfl ?_
    refine js_cI (pc1 := 83) (as := [(.inr (.inr (some 49))), (.inr (.inr (some x1))), (.inl x4), (.inr (.inr (some x2)))]) (S0 := [(.inl x4)]) (m := 4) (L0 := [some (.inr (.inr (some 49))), some (.inr (.inr (some x1))), some (.inl x4), some (.inr (.inr (some x2)))]) rfl rfl rfl rfl rfl rfl rfl rfl (zrc_o rfl rfl) (by omega) (by omega) (z_Co_goOver_ok N (by omega) (by omega) x1 hx1 x4 hx4 x2 hx2 A) (fun v2 A3 _ hv2 => ?_)
    refine jt_max (pc1 := 86) rfl rfl hx4 hv2 (by omega) (by omega) rfl ?_
    refine js_istore (pc1 := 88) (L1 := [some (.inr (.inr (some 49))), some (.inr (.inr (some x1))), some (.inr (.inr (some x2))), none, some (.inl (zmx x4 v2))]) rfl rfl rfl rfl ?_
    refine js_iinc (pc1 := 91) (L1 := [some (.inr (.inr (some 49))), some (.inr (.inr (some x1))), some (.inr (.inr (some x2))), none, some (.inl ((zmx x4 v2) + 1))]) rfl rfl rfl rfl ?_
    refine js_goto (t1 := 64) rfl rfl ?_
    exact zG_to (L := [some (.inr (.inr (some 49))), some (.inr (.inr (some x1))), some (.inr (.inr (some x2))), none, some (.inl (zw ((zmx x4 v2) + 1)))]) (S := []) ⟨rfl, ⟨rfl, ⟨rfl, ⟨zval_w ((zmx x4 v2) + 1), trivial⟩⟩⟩⟩ (rfl) (hr64 x1 hx1 x2 hx2 (zw ((zmx x4 v2) + 1)) (zw_rg ((zmx x4 v2) + 1)) A3)
  · exact zG_to (L := [some (.inr (.inr (some 49))), none, some (.inr (.inr (some x2))), none, none]) (S := []) ⟨rfl, ⟨rfl, trivial⟩⟩ (rfl) (z_Co_fold_94_ok N hd hw x2 hx2 A)
theorem z_Co_fold_64_lok{d w : Nat} (N : Nat) (hd : 6 ≤ d) (hw : 181 ≤ w) (n : Nat) : ∀ (x1 : Nat) (hx1 : zsh x1 = some (false, 3, 4)) (x2 : Nat) (hx2 : zsh x2 = some (false, 3, 4)) (x4 : Int) (hx4 : zrg x4) (A : zA), zG (z_Co_fold_64_l N n x1 x2 x4 A) zPI d w 138 64 [some (.inr (.inr (some 49))), some (.inr (.inr (some x1))), some (.inr (.inr (some x2))), none, some (.inl x4)] [] A := by
  induction n with
  | zero => intros; exact zG_none
  | succ n ih =>
    intro x1 hx1 x2 hx2 x4 hx4 A
    exact z_Co_fold_64_bok ih N hd hw x1 hx1 x2 hx2 x4 hx4 A
theorem z_Co_fold_64_ok{d w : Nat} (N : Nat) (hd : 6 ≤ d) (hw : 181 ≤ w) (x1 : Nat) (hx1 : zsh x1 = some (false, 3, 4)) (x2 : Nat) (hx2 : zsh x2 = some (false, 3, 4)) (x4 : Int) (hx4 : zrg x4) (A : zA) : zG (z_Co_fold_64 N x1 x2 x4 A) zPI d w 138 64 [some (.inr (.inr (some 49))), some (.inr (.inr (some x1))), some (.inr (.inr (some x2))), none, some (.inl x4)] [] A := z_Co_fold_64_lok N hd hw N x1 hx1 x2 hx2 x4 hx4 A
theorem z_Co_fold_29_bok{d w : Nat} {r29 : Nat → Nat → Int → zA → Option (Int × zA)} (hr29 : ∀ (x1 : Nat) (hx1 : zsh x1 = some (false, 3, 4)) (x2 : Nat) (hx2 : zsh x2 = some (false, 3, 4)) (x4 : Int) (hx4 : zrg x4) (A : zA), zG (r29 x1 x2 x4 A) zPI d w 138 29 [some (.inr (.inr (some 49))), some (.inr (.inr (some x1))), some (.inr (.inr (some x2))), none, some (.inl x4)] [] A) (N : Nat) (hd : 6 ≤ d) (hw : 181 ≤ w) (x1 : Nat) (hx1 : zsh x1 = some (false, 3, 4)) (x2 : Nat) (hx2 : zsh x2 = some (false, 3, 4)) (x4 : Int) (hx4 : zrg x4) (A : zA) : zG (z_Co_fold_29_b r29 N x1 x2 x4 A) zPI d w 138 29 [some (.inr (.inr (some 49))), some (.inr (.inr (some x1))), some (.inr (.inr (some x2))), none, some (.inl x4)] [] A := by
  unfold z_Co_fold_29_b
  refine js_iload (pc1 := 31) rfl rfl rfl ?_
  refine js_iconst (pc1 := 34) rfl rfl ?_
  refine jt_ge (pc1 := 37) (t1 := 51) hx4 (zlit rfl) rfl rfl rfl (fun c1 => ?_) (fun c1 => ?_)
  · refine js_aload (pc1 := 38) rfl rfl rfl ?_
    refine js_gfr (pc1 := 41) (j := 3) (r := 101) rfl rfl rfl rfl rfl ?_
    refine js_iload (pc1 := 43) rfl rfl rfl ?_
    refine js_iconst (pc1 := 44) rfl rfl ?_
    refine jt_basl (pc1 := 45) rfl rfl rfl rfl (Or.inl rfl) (fun A2 => ?_)
    refine js_iinc (pc1 := 48) (L1 := [some (.inr (.inr (some 49))), some (.inr (.inr (some x1))), some (.inr (.inr (some x2))), none, some (.inl (x4 + 1))]) rfl rfl rfl rfl ?_
    refine js_goto (t1 := 29) rfl rfl ?_
    exact zG_to (L := [some (.inr (.inr (some 49))), some (.inr (.inr (some x1))), some (.inr (.inr (some x2))), none, some (.inl (zw (x4 + 1)))]) (S := []) ⟨rfl, ⟨rfl, ⟨rfl, ⟨zval_w (x4 + 1), trivial⟩⟩⟩⟩ (rfl) (hr29 x1 hx1 x2 hx2 (zw (x4 + 1)) (zw_rg (x4 + 1)) A2)
  · refine js_aload (pc1 := 52) rfl rfl rfl ?_
    refine js_iconst (pc1 := 53) rfl rfl ?_
    refine jt_pi (pc1 := 56) (j := 4) rfl rfl rfl rfl rfl (fun A3 => ?_)
    refine js_aload (pc1 := 57) rfl rfl rfl ?_
    refine js_iconst (pc1 := 58) rfl rfl ?_
    refine jt_pi (pc1 := 61) (j := 5) rfl rfl rfl rfl rfl (fun A4 => ?_)
    refine js_iconst (pc1 := 62) rfl rfl ?_
    refine js_istore (pc1 := 64) (L1 := [some (.inr (.inr (some 49))), some (.inr (.inr (some x1))), some (.inr (.inr (some x2))), none, some (.inl 0)]) rfl rfl rfl rfl ?_
    exact z_Co_fold_64_ok N hd hw x1 hx1 x2 hx2 0 (zlit rfl) A4
theorem z_Co_fold_29_lok{d w : Nat} (N : Nat) (hd : 6 ≤ d) (hw : 181 ≤ w) (n : Nat) : ∀ (x1 : Nat) (hx1 : zsh x1 = some (false, 3, 4)) (x2 : Nat) (hx2 : zsh x2 = some (false, 3, 4)) (x4 : Int) (hx4 : zrg x4) (A : zA), zG (z_Co_fold_29_l N n x1 x2 x4 A) zPI d w 138 29 [some (.inr (.inr (some 49))), some (.inr (.inr (some x1))), some (.inr (.inr (some x2))), none, some (.inl x4)] [] A := by
  induction n with
  | zero => intros; exact zG_none
  | succ n ih =>
    intro x1 hx1 x2 hx2 x4 hx4 A
    exact z_Co_fold_29_bok ih N hd hw x1 hx1 x2 hx2 x4 hx4 A
theorem z_Co_fold_29_ok{d w : Nat} (N : Nat) (hd : 6 ≤ d) (hw : 181 ≤ w) (x1 : Nat) (hx1 : zsh x1 = some (false, 3, 4)) (x2 : Nat) (hx2 : zsh x2 = some (false, 3, 4)) (x4 : Int) (hx4 : zrg x4) (A : zA) : zG (z_Co_fold_29 N x1 x2 x4 A) zPI d w 138 29 [some (.inr (.inr (some 49))), some (.inr (.inr (some x1))), some (.inr (.inr (some x2))), none, some (.inl x4)] [] A := z_Co_fold_29_lok N hd hw N x1 hx1 x2 hx2 x4 hx4 A
theorem z_Co_fold_23_ok{d w : Nat} (N : Nat) (hd : 6 ≤ d) (hw : 181 ≤ w) (x1 : Nat) (hx1 : zsh x1 = some (false, 3, 4)) (x2 : Nat) (hx2 : zsh x2 = some (false, 3, 4)) (s1 : Int64) (A : zA) : zG (z_Co_fold_23 N x1 x2 s1 A) zPI d w 138 23 [some (.inr (.inr (some 49))), some (.inr (.inr (some x1))), some (.inr (.inr (some x2))), none, none] [(.inr (.inl s1)), (.inr (.inr (some 50)))] A := by
  unfold z_Co_fold_23
  refine js_cV (pc1 := 26) (as := [(.inr (.inr (some 50))), (.inr (.inl s1))]) (S0 := []) (m := 5) (L0 := [some (.inr (.inr (some 50))), some (.inr (.inl s1)), none, none, none]) rfl rfl rfl rfl rfl rfl rfl rfl (zrc_s rfl) (by omega) (by omega) (z_Ar_fill2_ok N (by omega) (by omega) 50 s1 A) (fun A1 _ => ?_)
  refine js_iconst (pc1 := 27) rfl rfl ?_
  refine js_istore (pc1 := 29) (L1 := [some (.inr (.inr (some 49))), some (.inr (.inr (some x1))), some (.inr (.inr (some x2))), none, some (.inl 0)]) rfl rfl rfl rfl ?_
  exact z_Co_fold_29_ok N hd hw x1 hx1 x2 hx2 0 (zlit rfl) A1
theorem z_Co_fold_ok{d w : Nat} (N : Nat) (hd : 6 ≤ d) (hw : 181 ≤ w) (x1 : Nat) (hx1 : zsh x1 = some (false, 3, 4)) (x2 : Nat) (hx2 : zsh x2 = some (false, 3, 4)) (x3 : Int) (hx3 : zrg x3) (A : zA) : zG (z_Co_fold N x1 x2 x3 A) zPI d w 138 0 [some (.inr (.inr (some 49))), some (.inr (.inr (some x1))), some (.inr (.inr (some x2))), some (.inl x3), none] [] A := by
  unfold z_Co_fold
  refine js_aload (pc1 := 1) rfl rfl rfl ?_
  refine js_aload (pc1 := 2) rfl rfl rfl ?_
  refine js_gi (pc1 := 5) (j := 3) rfl rfl hx1 rfl ?_
  refine js_cV (pc1 := 8) (as := [(.inr (.inr (some x2))), (.inl (zi A x1 3))]) (S0 := []) (m := 2) (L0 := [some (.inr (.inr (some x2))), some (.inl (zi A x1 3))]) rfl rfl rfl rfl rfl rfl rfl rfl (zrc_o rfl hx2) (by omega) (by omega) (z_Pt_clear_ok N (by omega) (by omega) x2 hx2 (zi A x1 3) (zi_rg _ _ _) A) (fun A1 _ => ?_)
  refine js_aload (pc1 := 9) rfl rfl rfl ?_
  refine js_gfr (pc1 := 12) (j := 0) (r := 50) rfl rfl rfl rfl rfl ?_
  refine js_iload (pc1 := 13) rfl rfl rfl ?_
  refine ju_eq (pc1 := 16) (t1 := 20) hx3 rfl rfl rfl (fun c2 => ?_) (fun c2 => ?_)
  · refine js_ldc2 (pc1 := 23) rfl rfl ?_
    exact zG_to (L := [some (.inr (.inr (some 49))), some (.inr (.inr (some x1))), some (.inr (.inr (some x2))), none, none]) (S := [(.inr (.inl (Int64.ofNat 4294967296))), (.inr (.inr (some 50)))]) ⟨rfl, ⟨rfl, ⟨rfl, trivial⟩⟩⟩ (rfl) (z_Co_fold_23_ok N hd hw x1 hx1 x2 hx2 (Int64.ofNat 4294967296) A1)
  · refine js_ldc2 (pc1 := 17) rfl rfl ?_
    refine js_goto (t1 := 23) rfl rfl ?_
    exact zG_to (L := [some (.inr (.inr (some 49))), some (.inr (.inr (some x1))), some (.inr (.inr (some x2))), none, none]) (S := [(.inr (.inl (Int64.ofNat 0))), (.inr (.inr (some 50)))]) ⟨rfl, ⟨rfl, ⟨rfl, trivial⟩⟩⟩ (rfl) (z_Co_fold_23_ok N hd hw x1 hx1 x2 hx2 (Int64.ofNat 0) A1)
theorem z_Th_dropTo_7_bok{d w : Nat} {r7 : Nat → Int → Int → zA → Option zA} (hr7 : ∀ (x0 : Nat) (hx0 : zsh x0 = some (false, 6, 5)) (x1 : Int) (hx1 : zrg x1) (x2 : Int) (hx2 : zrg x2) (A : zA), zG (r7 x0 x1 x2 A) zPV d w 179 7 [some (.inr (.inr (some x0))), some (.inl x1), some (.inl x2)] [] A) (N : Nat) (hd : 0 ≤ d) (hw : 0 ≤ w) (x0 : Nat) (hx0 : zsh x0 = some (false, 6, 5)) (x1 : Int) (hx1 : zrg x1) (x2 : Int) (hx2 : zrg x2) (A : zA) : zG (z_Th_dropTo_7_b r7 N x0 x1 x2 A) zPV d w 179 7 [some (.inr (.inr (some x0))), some (.inl x1), some (.inl x2)] [] A := by
  unfold z_Th_dropTo_7_b
  refine js_iload (pc1 := 8) rfl rfl rfl ?_
  refine js_iload (pc1 := 9) rfl rfl rfl ?_
  refine jt_lt (pc1 := 12) (t1 := 49) hx2 hx1 rfl rfl rfl (fun c1 => ?_) (fun c1 => ?_)
  · exact je_V rfl
  · refine js_iload (pc1 := 13) rfl rfl rfl ?_
    refine ju_lt (pc1 := 16) (t1 := 49) hx2 rfl rfl rfl (fun c2 => ?_) (fun c2 => ?_)
    · exact je_V rfl
    · refine js_aload (pc1 := 17) rfl rfl rfl ?_
      refine jt_gr (pc1 := 20) (j := 1) rfl rfl hx0 rfl (fun p3 => ?_)
      refine js_aload (pc1 := 21) rfl rfl rfl ?_
      refine jt_gr (pc1 := 24) (j := 0) rfl rfl hx0 rfl (fun p4 => ?_)
      refine js_iload (pc1 := 25) rfl rfl rfl ?_
      refine js_iconst (pc1 := 27) rfl rfl ?_
      refine js_imul (pc1 := 28) rfl rfl ?_
      refine js_iconst (pc1 := 29) rfl rfl ?_
      refine js_iadd (pc1 := 30) rfl rfl ?_
      refine jt_aldD (pc1 := 31) rfl rfl (fun v5 hv5 => ?_)
      refine js_iconst (pc1 := 32) rfl rfl ?_
      refine jt_iasD (pc1 := 33) rfl rfl (fun A6 => ?_)
      refine js_aload (pc1 := 34) rfl rfl rfl ?_
      refine js_dupR (pc1 := 35) rfl rfl ?_
      refine js_gi (pc1 := 38) (j := 2) rfl rfl hx0 rfl ?_
      refine js_iconst (pc1 := 39) rfl rfl ?_
      refine js_isub (pc1 := 40) rfl rfl ?_
      refine jt_pi (pc1 := 43) (j := 2) rfl rfl hx0 rfl rfl (fun A7 => ?_)
      refine js_iinc (pc1 := 46) (L1 := [some (.inr (.inr (some x0))), some (.inl x1), some (.inl (x2 + (-1)))]) rfl rfl rfl rfl ?_
      refine js_goto (t1 := 7) rfl rfl ?_
      exact zG_to (L := [some (.inr (.inr (some x0))), some (.inl x1), some (.inl (zw (x2 + (-1))))]) (S := []) ⟨rfl, ⟨rfl, ⟨zval_w (x2 + (-1)), trivial⟩⟩⟩ (rfl) (hr7 x0 hx0 x1 hx1 (zw (x2 + (-1))) (zw_rg (x2 + (-1))) A7)
theorem z_Th_dropTo_7_lok{d w : Nat} (N : Nat) (hd : 0 ≤ d) (hw : 0 ≤ w) (n : Nat) : ∀ (x0 : Nat) (hx0 : zsh x0 = some (false, 6, 5)) (x1 : Int) (hx1 : zrg x1) (x2 : Int) (hx2 : zrg x2) (A : zA), zG (z_Th_dropTo_7_l N n x0 x1 x2 A) zPV d w 179 7 [some (.inr (.inr (some x0))), some (.inl x1), some (.inl x2)] [] A := by
  induction n with
  | zero => intros; exact zG_none
  | succ n ih =>
    intro x0 hx0 x1 hx1 x2 hx2 A
    exact z_Th_dropTo_7_bok ih N hd hw x0 hx0 x1 hx1 x2 hx2 A
theorem z_Th_dropTo_7_ok{d w : Nat} (N : Nat) (hd : 0 ≤ d) (hw : 0 ≤ w) (x0 : Nat) (hx0 : zsh x0 = some (false, 6, 5)) (x1 : Int) (hx1 : zrg x1) (x2 : Int) (hx2 : zrg x2) (A : zA) : zG (z_Th_dropTo_7 N x0 x1 x2 A) zPV d w 179 7 [some (.inr (.inr (some x0))), some (.inl x1), some (.inl x2)] [] A := z_Th_dropTo_7_lok N hd hw N x0 hx0 x1 hx1 x2 hx2 A
theorem z_Th_dropTo_ok{d w : Nat} (N : Nat) (hd : 0 ≤ d) (hw : 0 ≤ w) (x0 : Nat) (hx0 : zsh x0 = some (false, 6, 5)) (x1 : Int) (hx1 : zrg x1) (A : zA) : zG (z_Th_dropTo N x0 x1 A) zPV d w 179 0 [some (.inr (.inr (some x0))), some (.inl x1), none] [] A := by
  unfold z_Th_dropTo
  refine js_aload (pc1 := 1) rfl rfl rfl ?_
  refine js_gi (pc1 := 4) (j := 2) rfl rfl hx0 rfl ?_
  refine js_iconst (pc1 := 5) rfl rfl ?_
  refine js_isub (pc1 := 6) rfl rfl ?_
  refine zG_w1 ?_
  refine js_istore (pc1 := 7) (L1 := [some (.inr (.inr (some x0))), some (.inl x1), some (.inl (zw ((zi A x0 2) - 1)))]) rfl rfl rfl rfl ?_
  exact z_Th_dropTo_7_ok N hd hw x0 hx0 x1 hx1 (zw ((zi A x0 2) - 1)) (zw_rg ((zi A x0 2) - 1)) A
theorem z_Th_slotFor_18_bok{d w : Nat} {r18 : Nat → Int → Int → Int → Int → Int → Int → Int → zA → Option Int} (hr18 : ∀ (x0 : Nat) (hx0 : zsh x0 = some (false, 6, 5)) (x2 : Int) (hx2 : zrg x2) (x3 : Int) (hx3 : zrg x3) (x4 : Int) (hx4 : zrg x4) (x5 : Int) (hx5 : zrg x5) (x6 : Int) (hx6 : zrg x6) (x7 : Int) (hx7 : zrg x7) (x8 : Int) (hx8 : zrg x8) (A : zA), zG (r18 x0 x2 x3 x4 x5 x6 x7 x8 A) (zPp A) d w 249 18 [some (.inr (.inr (some x0))), none, some (.inl x2), some (.inl x3), some (.inl x4), some (.inl x5), some (.inl x6), some (.inl x7), some (.inl x8), none] [] A) (N : Nat) (hd : 0 ≤ d) (hw : 0 ≤ w) (x0 : Nat) (hx0 : zsh x0 = some (false, 6, 5)) (x2 : Int) (hx2 : zrg x2) (x3 : Int) (hx3 : zrg x3) (x4 : Int) (hx4 : zrg x4) (x5 : Int) (hx5 : zrg x5) (x6 : Int) (hx6 : zrg x6) (x7 : Int) (hx7 : zrg x7) (x8 : Int) (hx8 : zrg x8) (A : zA) : zG (z_Th_slotFor_18_b r18 N x0 x2 x3 x4 x5 x6 x7 x8 A) (zPp A) d w 249 18 [some (.inr (.inr (some x0))), none, some (.inl x2), some (.inl x3), some (.inl x4), some (.inl x5), some (.inl x6), some (.inl x7), some (.inl x8), none] [] A := by
  unfold z_Th_slotFor_18_b
  refine js_iload (pc1 := 20) rfl rfl rfl ?_
  refine js_iload (pc1 := 22) rfl rfl rfl ?_
  refine jt_ge (pc1 := 25) (t1 := 119) hx8 hx6 rfl rfl rfl (fun c1 => ?_) (fun c1 => ?_)
  · refine js_aload (pc1 := 26) rfl rfl rfl ?_
    refine jt_gr (pc1 := 29) (j := 1) rfl rfl hx0 rfl (fun p2 => ?_)
    refine js_iload (pc1 := 31) rfl rfl rfl ?_
    refine jt_aldD (pc1 := 32) rfl rfl (fun v3 hv3 => ?_)
    refine ju_eq (pc1 := 35) (t1 := 119) hv3 rfl rfl rfl (fun c4 => ?_) (fun c4 => ?_)
    · refine js_iload (pc1 := 121) rfl rfl rfl ?_
      exact je_P rfl (zfit0 _ rfl) rfl hx7
    · refine js_aload (pc1 := 36) rfl rfl rfl ?_
      refine jt_gr (pc1 := 39) (j := 1) rfl rfl hx0 rfl (fun p5 => ?_)
      refine js_iload (pc1 := 41) rfl rfl rfl ?_
      refine jt_aldD (pc1 := 42) rfl rfl (fun v6 hv6 => ?_)
      refine js_iconst (pc1 := 43) rfl rfl ?_
      refine js_isub (pc1 := 44) rfl rfl ?_
      refine js_iconst (pc1 := 46) rfl rfl ?_
      refine js_imul (pc1 := 47) rfl rfl ?_
      refine zG_w1 ?_
      refine js_istore (pc1 := 49) (L1 := [some (.inr (.inr (some x0))), none, some (.inl x2), some (.inl x3), some (.inl x4), some (.inl x5), some (.inl x6), some (.inl x7), some (.inl x8), some (.inl (zw ((v6 - 1) * 7)))]) rfl rfl rfl rfl ?_
      refine js_aload (pc1 := 50) rfl rfl rfl ?_
      refine jt_gr (pc1 := 53) (j := 0) rfl rfl hx0 rfl (fun p7 => ?_)
      refine js_iload (pc1 := 55) rfl rfl rfl ?_
      refine jt_aldD (pc1 := 56) rfl rfl (fun v8 hv8 => ?_)
      refine js_iload (pc1 := 57) rfl rfl rfl ?_
      refine jt_ne (pc1 := 60) (t1 := 104) hv8 hx2 rfl rfl rfl (fun c9 => ?_) (fun c9 => ?_)
      · refine js_aload (pc1 := 61) rfl rfl rfl ?_
        refine jt_gr (pc1 := 64) (j := 0) rfl rfl hx0 rfl (fun p10 => ?_)
        refine js_iload (pc1 := 66) rfl rfl rfl ?_
        refine js_iconst (pc1 := 67) rfl rfl ?_
        refine js_iadd (pc1 := 68) rfl rfl ?_
        refine jt_aldD (pc1 := 69) rfl rfl (fun v11 hv11 => ?_)
        refine js_iload (pc1 := 70) rfl rfl rfl ?_
        refine jt_ne (pc1 := 73) (t1 := 104) hv11 hx3 rfl rfl rfl (fun c12 => ?_) (fun c12 => ?_)
        · refine js_aload (pc1 := 74) rfl rfl rfl ?_
          refine jt_gr (pc1 := 77) (j := 0) rfl rfl hx0 rfl (fun p13 => ?_)
          refine js_iload (pc1 := 79) rfl rfl rfl ?_
          refine js_iconst (pc1 := 80) rfl rfl ?_
          refine js_iadd (pc1 := 81) rfl rfl ?_
          refine jt_aldD (pc1 := 82) rfl rfl (fun v14 hv14 => ?_)
          refine js_iload (pc1 := 84) rfl rfl rfl ?_
          refine jt_ne (pc1 := 87) (t1 := 104) hv14 hx4 rfl rfl rfl (fun c15 => ?_) (fun c15 => ?_)
          · refine js_aload (pc1 := 88) rfl rfl rfl ?_
            refine jt_gr (pc1 := 91) (j := 0) rfl rfl hx0 rfl (fun p16 => ?_)
            refine js_iload (pc1 := 93) rfl rfl rfl ?_
            refine js_iconst (pc1 := 94) rfl rfl ?_
            refine js_iadd (pc1 := 95) rfl rfl ?_
            refine jt_aldD (pc1 := 96) rfl rfl (fun v17 hv17 => ?_)
            refine js_iload (pc1 := 98) rfl rfl rfl ?_
            refine jt_ne (pc1 := 101) (t1 := 104) hv17 hx5 rfl rfl rfl (fun c18 => ?_) (fun c18 => ?_)
            · refine js_iload (pc1 := 103) rfl rfl rfl ?_
              exact je_P rfl (zfit0 _ rfl) rfl hx7
            · refine js_iload (pc1 := 106) rfl rfl rfl ?_
              refine js_iconst (pc1 := 107) rfl rfl ?_
              refine js_iadd (pc1 := 108) rfl rfl ?_
              refine js_iload (pc1 := 110) rfl rfl rfl ?_
              refine js_iand (pc1 := 111) rfl rfl ?_
              refine js_istore (pc1 := 113) (L1 := [some (.inr (.inr (some x0))), none, some (.inl x2), some (.inl x3), some (.inl x4), some (.inl x5), some (.inl x6), some (.inl (zan (x7 + 1) x6)), some (.inl x8), some (.inl (zw ((v6 - 1) * 7)))]) rfl rfl rfl rfl ?_
              refine js_iinc (pc1 := 116) (L1 := [some (.inr (.inr (some x0))), none, some (.inl x2), some (.inl x3), some (.inl x4), some (.inl x5), some (.inl x6), some (.inl (zan (x7 + 1) x6)), some (.inl (x8 + 1)), some (.inl (zw ((v6 - 1) * 7)))]) rfl rfl rfl rfl ?_
              refine js_goto (t1 := 18) rfl rfl ?_
              exact zG_to (L := [some (.inr (.inr (some x0))), none, some (.inl x2), some (.inl x3), some (.inl x4), some (.inl x5), some (.inl x6), some (.inl (zan (x7 + 1) x6)), some (.inl (zw (x8 + 1))), none]) (S := []) ⟨rfl, ⟨rfl, ⟨rfl, ⟨rfl, ⟨rfl, ⟨rfl, ⟨rfl, ⟨zval_w (x8 + 1), trivial⟩⟩⟩⟩⟩⟩⟩⟩ (rfl) (hr18 x0 hx0 x2 hx2 x3 hx3 x4 hx4 x5 hx5 x6 hx6 (zan (x7 + 1) x6) (zt_rg _) (zw (x8 + 1)) (zw_rg (x8 + 1)) A)
          · refine js_iload (pc1 := 106) rfl rfl rfl ?_
            refine js_iconst (pc1 := 107) rfl rfl ?_
            refine js_iadd (pc1 := 108) rfl rfl ?_
            refine js_iload (pc1 := 110) rfl rfl rfl ?_
            refine js_iand (pc1 := 111) rfl rfl ?_
            refine js_istore (pc1 := 113) (L1 := [some (.inr (.inr (some x0))), none, some (.inl x2), some (.inl x3), some (.inl x4), some (.inl x5), some (.inl x6), some (.inl (zan (x7 + 1) x6)), some (.inl x8), some (.inl (zw ((v6 - 1) * 7)))]) rfl rfl rfl rfl ?_
            refine js_iinc (pc1 := 116) (L1 := [some (.inr (.inr (some x0))), none, some (.inl x2), some (.inl x3), some (.inl x4), some (.inl x5), some (.inl x6), some (.inl (zan (x7 + 1) x6)), some (.inl (x8 + 1)), some (.inl (zw ((v6 - 1) * 7)))]) rfl rfl rfl rfl ?_
            refine js_goto (t1 := 18) rfl rfl ?_
            exact zG_to (L := [some (.inr (.inr (some x0))), none, some (.inl x2), some (.inl x3), some (.inl x4), some (.inl x5), some (.inl x6), some (.inl (zan (x7 + 1) x6)), some (.inl (zw (x8 + 1))), none]) (S := []) ⟨rfl, ⟨rfl, ⟨rfl, ⟨rfl, ⟨rfl, ⟨rfl, ⟨rfl, ⟨zval_w (x8 + 1), trivial⟩⟩⟩⟩⟩⟩⟩⟩ (rfl) (hr18 x0 hx0 x2 hx2 x3 hx3 x4 hx4 x5 hx5 x6 hx6 (zan (x7 + 1) x6) (zt_rg _) (zw (x8 + 1)) (zw_rg (x8 + 1)) A)
        · refine js_iload (pc1 := 106) rfl rfl rfl ?_
          refine js_iconst (pc1 := 107) rfl rfl ?_
          refine js_iadd (pc1 := 108) rfl rfl ?_
          refine js_iload (pc1 := 110) rfl rfl rfl ?_
          refine js_iand (pc1 := 111) rfl rfl ?_
          refine js_istore (pc1 := 113) (L1 := [some (.inr (.inr (some x0))), none, some (.inl x2), some (.inl x3), some (.inl x4), some (.inl x5), some (.inl x6), some (.inl (zan (x7 + 1) x6)), some (.inl x8), some (.inl (zw ((v6 - 1) * 7)))]) rfl rfl rfl rfl ?_
          refine js_iinc (pc1 := 116) (L1 := [some (.inr (.inr (some x0))), none, some (.inl x2), some (.inl x3), some (.inl x4), some (.inl x5), some (.inl x6), some (.inl (zan (x7 + 1) x6)), some (.inl (x8 + 1)), some (.inl (zw ((v6 - 1) * 7)))]) rfl rfl rfl rfl ?_
          refine js_goto (t1 := 18) rfl rfl ?_
          exact zG_to (L := [some (.inr (.inr (some x0))), none, some (.inl x2), some (.inl x3), some (.inl x4), some (.inl x5), some (.inl x6), some (.inl (zan (x7 + 1) x6)), some (.inl (zw (x8 + 1))), none]) (S := []) ⟨rfl, ⟨rfl, ⟨rfl, ⟨rfl, ⟨rfl, ⟨rfl, ⟨rfl, ⟨zval_w (x8 + 1), trivial⟩⟩⟩⟩⟩⟩⟩⟩ (rfl) (hr18 x0 hx0 x2 hx2 x3 hx3 x4 hx4 x5 hx5 x6 hx6 (zan (x7 + 1) x6) (zt_rg _) (zw (x8 + 1)) (zw_rg (x8 + 1)) A)
      · refine js_iload (pc1 := 106) rfl rfl rfl ?_
        refine js_iconst (pc1 := 107) rfl rfl ?_
        refine js_iadd (pc1 := 108) rfl rfl ?_
        refine js_iload (pc1 := 110) rfl rfl rfl ?_
        refine js_iand (pc1 := 111) rfl rfl ?_
        refine js_istore (pc1 := 113) (L1 := [some (.inr (.inr (some x0))), none, some (.inl x2), some (.inl x3), some (.inl x4), some (.inl x5), some (.inl x6), some (.inl (zan (x7 + 1) x6)), some (.inl x8), some (.inl (zw ((v6 - 1) * 7)))]) rfl rfl rfl rfl ?_
        refine js_iinc (pc1 := 116) (L1 := [some (.inr (.inr (some x0))), none, some (.inl x2), some (.inl x3), some (.inl x4), some (.inl x5), some (.inl x6), some (.inl (zan (x7 + 1) x6)), some (.inl (x8 + 1)), some (.inl (zw ((v6 - 1) * 7)))]) rfl rfl rfl rfl ?_
        refine js_goto (t1 := 18) rfl rfl ?_
        exact zG_to (L := [some (.inr (.inr (some x0))), none, some (.inl x2), some (.inl x3), some (.inl x4), some (.inl x5), some (.inl x6), some (.inl (zan (x7 + 1) x6)), some (.inl (zw (x8 + 1))), none]) (S := []) ⟨rfl, ⟨rfl, ⟨rfl, ⟨rfl, ⟨rfl, ⟨rfl, ⟨rfl, ⟨zval_w (x8 + 1), trivial⟩⟩⟩⟩⟩⟩⟩⟩ (rfl) (hr18 x0 hx0 x2 hx2 x3 hx3 x4 hx4 x5 hx5 x6 hx6 (zan (x7 + 1) x6) (zt_rg _) (zw (x8 + 1)) (zw_rg (x8 + 1)) A)
  · refine js_iload (pc1 := 121) rfl rfl rfl ?_
    exact je_P rfl (zfit0 _ rfl) rfl hx7
theorem z_Th_slotFor_18_lok{d w : Nat} (N : Nat) (hd : 0 ≤ d) (hw : 0 ≤ w) (n : Nat) : ∀ (x0 : Nat) (hx0 : zsh x0 = some (false, 6, 5)) (x2 : Int) (hx2 : zrg x2) (x3 : Int) (hx3 : zrg x3) (x4 : Int) (hx4 : zrg x4) (x5 : Int) (hx5 : zrg x5) (x6 : Int) (hx6 : zrg x6) (x7 : Int) (hx7 : zrg x7) (x8 : Int) (hx8 : zrg x8) (A : zA), zG (z_Th_slotFor_18_l N n x0 x2 x3 x4 x5 x6 x7 x8 A) (zPp A) d w 249 18 [some (.inr (.inr (some x0))), none, some (.inl x2), some (.inl x3), some (.inl x4), some (.inl x5), some (.inl x6), some (.inl x7), some (.inl x8), none] [] A := by
  induction n with
  | zero => intros; exact zG_none
  | succ n ih =>
    intro x0 hx0 x2 hx2 x3 hx3 x4 hx4 x5 hx5 x6 hx6 x7 hx7 x8 hx8 A
    exact z_Th_slotFor_18_bok ih N hd hw x0 hx0 x2 hx2 x3 hx3 x4 hx4 x5 hx5 x6 hx6 x7 hx7 x8 hx8 A
theorem z_Th_slotFor_18_ok{d w : Nat} (N : Nat) (hd : 0 ≤ d) (hw : 0 ≤ w) (x0 : Nat) (hx0 : zsh x0 = some (false, 6, 5)) (x2 : Int) (hx2 : zrg x2) (x3 : Int) (hx3 : zrg x3) (x4 : Int) (hx4 : zrg x4) (x5 : Int) (hx5 : zrg x5) (x6 : Int) (hx6 : zrg x6) (x7 : Int) (hx7 : zrg x7) (x8 : Int) (hx8 : zrg x8) (A : zA) : zG (z_Th_slotFor_18 N x0 x2 x3 x4 x5 x6 x7 x8 A) (zPp A) d w 249 18 [some (.inr (.inr (some x0))), none, some (.inl x2), some (.inl x3), some (.inl x4), some (.inl x5), some (.inl x6), some (.inl x7), some (.inl x8), none] [] A := z_Th_slotFor_18_lok N hd hw N x0 hx0 x2 hx2 x3 hx3 x4 hx4 x5 hx5 x6 hx6 x7 hx7 x8 hx8 A
theorem z_Th_slotFor_ok{d w : Nat} (N : Nat) (hd : 0 ≤ d) (hw : 0 ≤ w) (x0 : Nat) (hx0 : zsh x0 = some (false, 6, 5)) (x1 : Int) (hx1 : zrg x1) (x2 : Int) (hx2 : zrg x2) (x3 : Int) (hx3 : zrg x3) (x4 : Int) (hx4 : zrg x4) (x5 : Int) (hx5 : zrg x5) (A : zA) : zG (z_Th_slotFor N x0 x1 x2 x3 x4 x5 A) (zPp A) d w 249 0 [some (.inr (.inr (some x0))), some (.inl x1), some (.inl x2), some (.inl x3), some (.inl x4), some (.inl x5), none, none, none, none] [] A := by
  unfold z_Th_slotFor
  refine js_aload (pc1 := 1) rfl rfl rfl ?_
  refine jt_gr (pc1 := 4) (j := 1) rfl rfl hx0 rfl (fun p1 => ?_)
  refine js_lenD (pc1 := 5) rfl rfl (fun v2 hv2 => ?_)
  refine js_iconst (pc1 := 6) rfl rfl ?_
  refine js_isub (pc1 := 7) rfl rfl ?_
  refine zG_w1 ?_
  refine js_istore (pc1 := 9) (L1 := [some (.inr (.inr (some x0))), some (.inl x1), some (.inl x2), some (.inl x3), some (.inl x4), some (.inl x5), some (.inl (zw (v2 - 1))), none, none, none]) rfl rfl rfl rfl ?_
  refine js_iload (pc1 := 10) rfl rfl rfl ?_
  refine js_iload (pc1 := 12) rfl rfl rfl ?_
  refine js_iand (pc1 := 13) rfl rfl ?_
  refine js_istore (pc1 := 15) (L1 := [some (.inr (.inr (some x0))), some (.inl x1), some (.inl x2), some (.inl x3), some (.inl x4), some (.inl x5), some (.inl (zw (v2 - 1))), some (.inl (zan x1 (zw (v2 - 1)))), none, none]) rfl rfl rfl rfl ?_
  refine js_iconst (pc1 := 16) rfl rfl ?_
  refine js_istore (pc1 := 18) (L1 := [some (.inr (.inr (some x0))), some (.inl x1), some (.inl x2), some (.inl x3), some (.inl x4), some (.inl x5), some (.inl (zw (v2 - 1))), some (.inl (zan x1 (zw (v2 - 1)))), some (.inl 0), none]) rfl rfl rfl rfl ?_
  exact zG_to (L := [some (.inr (.inr (some x0))), none, some (.inl x2), some (.inl x3), some (.inl x4), some (.inl x5), some (.inl (zw (v2 - 1))), some (.inl (zan x1 (zw (v2 - 1)))), some (.inl 0), none]) (S := []) ⟨rfl, ⟨rfl, ⟨rfl, ⟨rfl, ⟨rfl, ⟨rfl, ⟨rfl, ⟨rfl, trivial⟩⟩⟩⟩⟩⟩⟩⟩ (rfl) (z_Th_slotFor_18_ok N hd hw x0 hx0 x2 hx2 x3 hx3 x4 hx4 x5 hx5 (zw (v2 - 1)) (zw_rg (v2 - 1)) (zan x1 (zw (v2 - 1))) (zt_rg _) 0 (zlit rfl) A)
theorem z_Th_grow_93_ok{d w : Nat} {r41 : Nat → Int → Int → zA → Option zA} (hr41 : ∀ (x0 : Nat) (hx0 : zsh x0 = some (false, 6, 5)) (x1 : Int) (hx1 : zrg x1) (x2 : Int) (hx2 : zrg x2) (A : zA), zG (r41 x0 x1 x2 A) zPV d w 250 41 [some (.inr (.inr (some x0))), some (.inl x1), some (.inl x2), none, none] [] A) (N : Nat) (hd : 2 ≤ d) (hw : 86 ≤ w) (x0 : Nat) (hx0 : zsh x0 = some (false, 6, 5)) (x1 : Int) (hx1 : zrg x1) (x2 : Int) (hx2 : zrg x2) (x3 : Int) (hx3 : zrg x3) (A : zA) : zG (z_Th_grow_93 r41 N x0 x1 x2 x3 A) zPV d w 250 93 [some (.inr (.inr (some x0))), some (.inl x1), some (.inl x2), some (.inl x3), none] [] A := by
  unfold z_Th_grow_93
  refine js_aload (pc1 := 94) rfl rfl rfl ?_
  refine jt_gr (pc1 := 97) (j := 1) rfl rfl hx0 rfl (fun p1 => ?_)
  refine js_iload (pc1 := 98) rfl rfl rfl ?_
  refine js_iload (pc1 := 99) rfl rfl rfl ?_
  refine js_iconst (pc1 := 100) rfl rfl ?_
  refine js_iadd (pc1 := 101) rfl rfl ?_
  refine jt_iasD (pc1 := 102) rfl rfl (fun A2 => ?_)
  refine js_aload (pc1 := 103) rfl rfl rfl ?_
  refine jt_gr (pc1 := 106) (j := 0) rfl rfl hx0 rfl (fun p3 => ?_)
  refine js_iload (pc1 := 107) rfl rfl rfl ?_
  refine js_iconst (pc1 := 109) rfl rfl ?_
  refine js_imul (pc1 := 110) rfl rfl ?_
  refine js_iconst (pc1 := 111) rfl rfl ?_
  refine js_iadd (pc1 := 112) rfl rfl ?_
  refine js_iload (pc1 := 113) rfl rfl rfl ?_
  refine jt_iasD (pc1 := 114) rfl rfl (fun A4 => ?_)
  refine js_iinc (pc1 := 117) (L1 := [some (.inr (.inr (some x0))), some (.inl x1), some (.inl (x2 + 1)), some (.inl x3), none]) rfl rfl rfl rfl ?_
  refine js_goto (t1 := 41) rfl rfl ?_
  exact zG_to (L := [some (.inr (.inr (some x0))), some (.inl x1), some (.inl (zw (x2 + 1))), none, none]) (S := []) ⟨rfl, ⟨rfl, ⟨zval_w (x2 + 1), trivial⟩⟩⟩ (rfl) (hr41 x0 hx0 x1 hx1 (zw (x2 + 1)) (zw_rg (x2 + 1)) A4)
theorem z_Th_grow_66_bok{d w : Nat} {r41 : Nat → Int → Int → zA → Option zA} (hr41 : ∀ (x0 : Nat) (hx0 : zsh x0 = some (false, 6, 5)) (x1 : Int) (hx1 : zrg x1) (x2 : Int) (hx2 : zrg x2) (A : zA), zG (r41 x0 x1 x2 A) zPV d w 250 41 [some (.inr (.inr (some x0))), some (.inl x1), some (.inl x2), none, none] [] A) {r66 : Nat → Int → Int → Int → Int → zA → Option zA} (hr66 : ∀ (x0 : Nat) (hx0 : zsh x0 = some (false, 6, 5)) (x1 : Int) (hx1 : zrg x1) (x2 : Int) (hx2 : zrg x2) (x3 : Int) (hx3 : zrg x3) (x4 : Int) (hx4 : zrg x4) (A : zA), zG (r66 x0 x1 x2 x3 x4 A) zPV d w 250 66 [some (.inr (.inr (some x0))), some (.inl x1), some (.inl x2), some (.inl x3), some (.inl x4)] [] A) (N : Nat) (hd : 2 ≤ d) (hw : 86 ≤ w) (x0 : Nat) (hx0 : zsh x0 = some (false, 6, 5)) (x1 : Int) (hx1 : zrg x1) (x2 : Int) (hx2 : zrg x2) (x3 : Int) (hx3 : zrg x3) (x4 : Int) (hx4 : zrg x4) (A : zA) : zG (z_Th_grow_66_b r41 r66 N x0 x1 x2 x3 x4 A) zPV d w 250 66 [some (.inr (.inr (some x0))), some (.inl x1), some (.inl x2), some (.inl x3), some (.inl x4)] [] A := by
  unfold z_Th_grow_66_b
  refine js_iload (pc1 := 68) rfl rfl rfl ?_
  refine js_iload (pc1 := 69) rfl rfl rfl ?_
  refine jt_ge (pc1 := 72) (t1 := 93) hx4 hx1 rfl rfl rfl (fun c1 => ?_) (fun c1 => ?_)
  · refine js_aload (pc1 := 73) rfl rfl rfl ?_
    refine jt_gr (pc1 := 76) (j := 1) rfl rfl hx0 rfl (fun p2 => ?_)
    refine js_iload (pc1 := 77) rfl rfl rfl ?_
    refine jt_aldD (pc1 := 78) rfl rfl (fun v3 hv3 => ?_)
    refine ju_eq (pc1 := 81) (t1 := 93) hv3 rfl rfl rfl (fun c4 => ?_) (fun c4 => ?_)
    · exact zG_to (L := [some (.inr (.inr (some x0))), some (.inl x1), some (.inl x2), some (.inl x3), none]) (S := []) ⟨rfl, ⟨rfl, ⟨rfl, ⟨rfl, trivial⟩⟩⟩⟩ (rfl) (z_Th_grow_93_ok hr41 N hd hw x0 hx0 x1 hx1 x2 hx2 x3 hx3 A)
    · refine js_iload (pc1 := 82) rfl rfl rfl ?_
      refine js_iconst (pc1 := 83) rfl rfl ?_
      refine js_iadd (pc1 := 84) rfl rfl ?_
      refine js_iload (pc1 := 85) rfl rfl rfl ?_
      refine js_iand (pc1 := 86) rfl rfl ?_
      refine js_istore (pc1 := 87) (L1 := [some (.inr (.inr (some x0))), some (.inl x1), some (.inl x2), some (.inl (zan (x3 + 1) x1)), some (.inl x4)]) rfl rfl rfl rfl ?_
      refine js_iinc (pc1 := 90) (L1 := [some (.inr (.inr (some x0))), some (.inl x1), some (.inl x2), some (.inl (zan (x3 + 1) x1)), some (.inl (x4 + 1))]) rfl rfl rfl rfl ?_
      refine js_goto (t1 := 66) rfl rfl ?_
      exact zG_to (L := [some (.inr (.inr (some x0))), some (.inl x1), some (.inl x2), some (.inl (zan (x3 + 1) x1)), some (.inl (zw (x4 + 1)))]) (S := []) ⟨rfl, ⟨rfl, ⟨rfl, ⟨rfl, ⟨zval_w (x4 + 1), trivial⟩⟩⟩⟩⟩ (rfl) (hr66 x0 hx0 x1 hx1 x2 hx2 (zan (x3 + 1) x1) (zt_rg _) (zw (x4 + 1)) (zw_rg (x4 + 1)) A)
  · exact zG_to (L := [some (.inr (.inr (some x0))), some (.inl x1), some (.inl x2), some (.inl x3), none]) (S := []) ⟨rfl, ⟨rfl, ⟨rfl, ⟨rfl, trivial⟩⟩⟩⟩ (rfl) (z_Th_grow_93_ok hr41 N hd hw x0 hx0 x1 hx1 x2 hx2 x3 hx3 A)
theorem z_Th_grow_66_lok{d w : Nat} {r41 : Nat → Int → Int → zA → Option zA} (hr41 : ∀ (x0 : Nat) (hx0 : zsh x0 = some (false, 6, 5)) (x1 : Int) (hx1 : zrg x1) (x2 : Int) (hx2 : zrg x2) (A : zA), zG (r41 x0 x1 x2 A) zPV d w 250 41 [some (.inr (.inr (some x0))), some (.inl x1), some (.inl x2), none, none] [] A) (N : Nat) (hd : 2 ≤ d) (hw : 86 ≤ w) (n : Nat) : ∀ (x0 : Nat) (hx0 : zsh x0 = some (false, 6, 5)) (x1 : Int) (hx1 : zrg x1) (x2 : Int) (hx2 : zrg x2) (x3 : Int) (hx3 : zrg x3) (x4 : Int) (hx4 : zrg x4) (A : zA), zG (z_Th_grow_66_l r41 N n x0 x1 x2 x3 x4 A) zPV d w 250 66 [some (.inr (.inr (some x0))), some (.inl x1), some (.inl x2), some (.inl x3), some (.inl x4)] [] A := by
  induction n with
  | zero => intros; exact zG_none
  | succ n ih =>
    intro x0 hx0 x1 hx1 x2 hx2 x3 hx3 x4 hx4 A
    exact z_Th_grow_66_bok hr41 ih N hd hw x0 hx0 x1 hx1 x2 hx2 x3 hx3 x4 hx4 A
theorem z_Th_grow_66_ok{d w : Nat} {r41 : Nat → Int → Int → zA → Option zA} (hr41 : ∀ (x0 : Nat) (hx0 : zsh x0 = some (false, 6, 5)) (x1 : Int) (hx1 : zrg x1) (x2 : Int) (hx2 : zrg x2) (A : zA), zG (r41 x0 x1 x2 A) zPV d w 250 41 [some (.inr (.inr (some x0))), some (.inl x1), some (.inl x2), none, none] [] A) (N : Nat) (hd : 2 ≤ d) (hw : 86 ≤ w) (x0 : Nat) (hx0 : zsh x0 = some (false, 6, 5)) (x1 : Int) (hx1 : zrg x1) (x2 : Int) (hx2 : zrg x2) (x3 : Int) (hx3 : zrg x3) (x4 : Int) (hx4 : zrg x4) (A : zA) : zG (z_Th_grow_66 r41 N x0 x1 x2 x3 x4 A) zPV d w 250 66 [some (.inr (.inr (some x0))), some (.inl x1), some (.inl x2), some (.inl x3), some (.inl x4)] [] A := z_Th_grow_66_lok hr41 N hd hw N x0 hx0 x1 hx1 x2 hx2 x3 hx3 x4 hx4 A
theorem z_Th_grow_41_bok{d w : Nat} {r41 : Nat → Int → Int → zA → Option zA} (hr41 : ∀ (x0 : Nat) (hx0 : zsh x0 = some (false, 6, 5)) (x1 : Int) (hx1 : zrg x1) (x2 : Int) (hx2 : zrg x2) (A : zA), zG (r41 x0 x1 x2 A) zPV d w 250 41 [some (.inr (.inr (some x0))), some (.inl x1), some (.inl x2), none, none] [] A) (N : Nat) (hd : 2 ≤ d) (hw : 86 ≤ w) (x0 : Nat) (hx0 : zsh x0 = some (false, 6, 5)) (x1 : Int) (hx1 : zrg x1) (x2 : Int) (hx2 : zrg x2) (A : zA) : zG (z_Th_grow_41_b r41 N x0 x1 x2 A) zPV d w 250 41 [some (.inr (.inr (some x0))), some (.inl x1), some (.inl x2), none, none] [] A := by
  unfold z_Th_grow_41_b
  refine js_iload (pc1 := 42) rfl rfl rfl ?_
  refine js_aload (pc1 := 43) rfl rfl rfl ?_
  refine js_gi (pc1 := 46) (j := 2) rfl rfl hx0 rfl ?_
  refine jt_ge (pc1 := 49) (t1 := 120) hx2 (zi_rg _ _ _) rfl rfl rfl (fun c1 => ?_) (fun c1 => ?_)
  · refine js_aload (pc1 := 50) rfl rfl rfl ?_
    refine jt_gr (pc1 := 53) (j := 0) rfl rfl hx0 rfl (fun p2 => ?_)
    refine js_iload (pc1 := 54) rfl rfl rfl ?_
    refine js_iconst (pc1 := 56) rfl rfl ?_
    refine js_imul (pc1 := 57) rfl rfl ?_
    refine js_iconst (pc1 := 58) rfl rfl ?_
    refine js_iadd (pc1 := 59) rfl rfl ?_
    refine jt_aldD (pc1 := 60) rfl rfl (fun v3 hv3 => ?_)
    refine js_iload (pc1 := 61) rfl rfl rfl ?_
    refine js_iand (pc1 := 62) rfl rfl ?_
    refine js_istore (pc1 := 63) (L1 := [some (.inr (.inr (some x0))), some (.inl x1), some (.inl x2), some (.inl (zan v3 x1)), none]) rfl rfl rfl rfl ?_
    refine js_iconst (pc1 := 64) rfl rfl ?_
    refine js_istore (pc1 := 66) (L1 := [some (.inr (.inr (some x0))), some (.inl x1), some (.inl x2), some (.inl (zan v3 x1)), some (.inl 0)]) rfl rfl rfl rfl ?_
    exact z_Th_grow_66_ok hr41 N hd hw x0 hx0 x1 hx1 x2 hx2 (zan v3 x1) (zt_rg _) 0 (zlit rfl) A
  · exact je_V rfl
theorem z_Th_grow_41_lok{d w : Nat} (N : Nat) (hd : 2 ≤ d) (hw : 86 ≤ w) (n : Nat) : ∀ (x0 : Nat) (hx0 : zsh x0 = some (false, 6, 5)) (x1 : Int) (hx1 : zrg x1) (x2 : Int) (hx2 : zrg x2) (A : zA), zG (z_Th_grow_41_l N n x0 x1 x2 A) zPV d w 250 41 [some (.inr (.inr (some x0))), some (.inl x1), some (.inl x2), none, none] [] A := by
  induction n with
  | zero => intros; exact zG_none
  | succ n ih =>
    intro x0 hx0 x1 hx1 x2 hx2 A
    exact z_Th_grow_41_bok ih N hd hw x0 hx0 x1 hx1 x2 hx2 A
theorem z_Th_grow_41_ok{d w : Nat} (N : Nat) (hd : 2 ≤ d) (hw : 86 ≤ w) (x0 : Nat) (hx0 : zsh x0 = some (false, 6, 5)) (x1 : Int) (hx1 : zrg x1) (x2 : Int) (hx2 : zrg x2) (A : zA) : zG (z_Th_grow_41 N x0 x1 x2 A) zPV d w 250 41 [some (.inr (.inr (some x0))), some (.inl x1), some (.inl x2), none, none] [] A := z_Th_grow_41_lok N hd hw N x0 hx0 x1 hx1 x2 hx2 A
theorem z_Th_grow_ok{d w : Nat} (N : Nat) (hd : 2 ≤ d) (hw : 86 ≤ w) (x0 : Nat) (hx0 : zsh x0 = some (false, 6, 5)) (A : zA) : zG (z_Th_grow N x0 A) zPV d w 250 0 [some (.inr (.inr (some x0))), none, none, none, none] [] A := by
  unfold z_Th_grow
  refine js_aload (pc1 := 1) rfl rfl rfl ?_
  refine js_aload (pc1 := 2) rfl rfl rfl ?_
  refine jt_gr (pc1 := 5) (j := 0) rfl rfl hx0 rfl (fun p1 => ?_)
  refine js_aload (pc1 := 6) rfl rfl rfl ?_
  refine jt_gr (pc1 := 9) (j := 0) rfl rfl hx0 rfl (fun p2 => ?_)
  refine js_lenD (pc1 := 10) rfl rfl (fun v3 hv3 => ?_)
  refine js_iconst (pc1 := 11) rfl rfl ?_
  refine js_imul (pc1 := 12) rfl rfl ?_
  refine js_cR (pc1 := 15) (as := [(.inr (.inr (some p1))), (.inl (v3 * 2))]) (S0 := [(.inr (.inr (some x0)))]) (m := 3) (L0 := [some (.inr (.inr (some p1))), some (.inl (v3 * 2)), none]) rfl rfl rfl rfl rfl rfl rfl rfl (zrc_s rfl) (by omega) (by omega) (zG_to (L := [some (.inr (.inr (some p1))), some (.inl (zw (v3 * 2))), none]) (S := []) ⟨rfl, ⟨zval_w (v3 * 2), trivial⟩⟩ rfl (z_Ar_copyOf_ok N (by omega) (by omega) p1 (zw (v3 * 2)) (zw_rg (v3 * 2)) A)) (fun p4 A5 _ => ?_)
  refine jt_pr (pc1 := 18) (j := 0) rfl rfl hx0 rfl rfl (zfr_c hx0 rfl) (fun A6 => ?_)
  refine js_aload (pc1 := 19) rfl rfl rfl ?_
  refine js_aload (pc1 := 20) rfl rfl rfl ?_
  refine jt_gr (pc1 := 23) (j := 1) rfl rfl hx0 rfl (fun p7 => ?_)
  refine js_lenD (pc1 := 24) rfl rfl (fun v8 hv8 => ?_)
  refine js_iconst (pc1 := 25) rfl rfl ?_
  refine js_imul (pc1 := 26) rfl rfl ?_
  refine jt_new (pc1 := 28) rfl rfl (fun p9 A10 => ?_)
  refine jt_pr (pc1 := 31) (j := 1) rfl rfl hx0 rfl rfl (zfr_c hx0 rfl) (fun A11 => ?_)
  refine js_aload (pc1 := 32) rfl rfl rfl ?_
  refine jt_gr (pc1 := 35) (j := 1) rfl rfl hx0 rfl (fun p12 => ?_)
  refine js_lenD (pc1 := 36) rfl rfl (fun v13 hv13 => ?_)
  refine js_iconst (pc1 := 37) rfl rfl ?_
  refine js_isub (pc1 := 38) rfl rfl ?_
  refine zG_w1 ?_
  refine js_istore (pc1 := 39) (L1 := [some (.inr (.inr (some x0))), some (.inl (zw (v13 - 1))), none, none, none]) rfl rfl rfl rfl ?_
  refine js_iconst (pc1 := 40) rfl rfl ?_
  refine js_istore (pc1 := 41) (L1 := [some (.inr (.inr (some x0))), some (.inl (zw (v13 - 1))), some (.inl 0), none, none]) rfl rfl rfl rfl ?_
  exact z_Th_grow_41_ok N hd hw x0 hx0 (zw (v13 - 1)) (zw_rg (v13 - 1)) 0 (zlit rfl) A11
theorem z_Th_make_110_ok{d w : Nat} (N : Nat) (hd : 3 ≤ d) (hw : 110 ≤ w) (x0 : Nat) (hx0 : zsh x0 = some (false, 6, 5)) (x1 : Int) (hx1 : zrg x1) (x2 : Int) (hx2 : zrg x2) (x3 : Int) (hx3 : zrg x3) (x4 : Int) (hx4 : zrg x4) (x5 : Int) (hx5 : zrg x5) (x6 : Int) (hx6 : zrg x6) (A : zA) : zG (z_Th_make_110 N x0 x1 x2 x3 x4 x5 x6 A) zPI d w 181 110 [some (.inr (.inr (some x0))), some (.inl x1), some (.inl x2), some (.inl x3), some (.inl x4), some (.inl x5), some (.inl x6), none] [] A := by
  unfold z_Th_make_110
  refine js_aload (pc1 := 111) rfl rfl rfl ?_
  refine js_gi (pc1 := 114) (j := 2) rfl rfl hx0 rfl ?_
  refine js_iconst (pc1 := 116) rfl rfl ?_
  refine js_imul (pc1 := 117) rfl rfl ?_
  refine zG_w1 ?_
  refine js_istore (pc1 := 119) (L1 := [some (.inr (.inr (some x0))), some (.inl x1), some (.inl x2), some (.inl x3), some (.inl x4), some (.inl x5), some (.inl x6), some (.inl (zw ((zi A x0 2) * 7)))]) rfl rfl rfl rfl ?_
  refine js_aload (pc1 := 120) rfl rfl rfl ?_
  refine jt_gr (pc1 := 123) (j := 0) rfl rfl hx0 rfl (fun p1 => ?_)
  refine js_iload (pc1 := 125) rfl rfl rfl ?_
  refine js_iload (pc1 := 126) rfl rfl rfl ?_
  refine jt_iasD (pc1 := 127) rfl rfl (fun A2 => ?_)
  refine js_aload (pc1 := 128) rfl rfl rfl ?_
  refine jt_gr (pc1 := 131) (j := 0) rfl rfl hx0 rfl (fun p3 => ?_)
  refine js_iload (pc1 := 133) rfl rfl rfl ?_
  refine js_iconst (pc1 := 134) rfl rfl ?_
  refine js_iadd (pc1 := 135) rfl rfl ?_
  refine js_iload (pc1 := 136) rfl rfl rfl ?_
  refine jt_iasD (pc1 := 137) rfl rfl (fun A4 => ?_)
  refine js_aload (pc1 := 138) rfl rfl rfl ?_
  refine jt_gr (pc1 := 141) (j := 0) rfl rfl hx0 rfl (fun p5 => ?_)
  refine js_iload (pc1 := 143) rfl rfl rfl ?_
  refine js_iconst (pc1 := 144) rfl rfl ?_
  refine js_iadd (pc1 := 145) rfl rfl ?_
  refine js_iload (pc1 := 146) rfl rfl rfl ?_
  refine jt_iasD (pc1 := 147) rfl rfl (fun A6 => ?_)
  refine js_aload (pc1 := 148) rfl rfl rfl ?_
  refine jt_gr (pc1 := 151) (j := 0) rfl rfl hx0 rfl (fun p7 => ?_)
  refine js_iload (pc1 := 153) rfl rfl rfl ?_
  refine js_iconst (pc1 := 154) rfl rfl ?_
  refine js_iadd (pc1 := 155) rfl rfl ?_
  refine js_iload (pc1 := 157) rfl rfl rfl ?_
  refine jt_iasD (pc1 := 158) rfl rfl (fun A8 => ?_)
  refine js_aload (pc1 := 159) rfl rfl rfl ?_
  refine jt_gr (pc1 := 162) (j := 0) rfl rfl hx0 rfl (fun p9 => ?_)
  refine js_iload (pc1 := 164) rfl rfl rfl ?_
  refine js_iconst (pc1 := 165) rfl rfl ?_
  refine js_iadd (pc1 := 166) rfl rfl ?_
  refine js_iload (pc1 := 168) rfl rfl rfl ?_
  refine jt_iasD (pc1 := 169) rfl rfl (fun A10 => ?_)
  refine js_aload (pc1 := 170) rfl rfl rfl ?_
  refine jt_gr (pc1 := 173) (j := 0) rfl rfl hx0 rfl (fun p11 => ?_)
  refine js_iload (pc1 := 175) rfl rfl rfl ?_
  refine js_iconst (pc1 := 176) rfl rfl ?_
  refine js_iadd (pc1 := 177) rfl rfl ?_
  refine js_iload (pc1 := 179) rfl rfl rfl ?_
  refine jt_iasD (pc1 := 180) rfl rfl (fun A12 => ?_)
  refine js_aload (pc1 := 181) rfl rfl rfl ?_
  refine jt_gr (pc1 := 184) (j := 0) rfl rfl hx0 rfl (fun p13 => ?_)
  refine js_iload (pc1 := 186) rfl rfl rfl ?_
  refine js_iconst (pc1 := 188) rfl rfl ?_
  refine js_iadd (pc1 := 189) rfl rfl ?_
  refine js_iconst (pc1 := 191) rfl rfl ?_
  refine jt_iasD (pc1 := 192) rfl rfl (fun A14 => ?_)
  refine js_aload (pc1 := 193) rfl rfl rfl ?_
  refine js_dupR (pc1 := 194) rfl rfl ?_
  refine js_gi (pc1 := 197) (j := 2) rfl rfl hx0 rfl ?_
  refine js_iconst (pc1 := 198) rfl rfl ?_
  refine js_iadd (pc1 := 199) rfl rfl ?_
  refine jt_pi (pc1 := 202) (j := 2) rfl rfl hx0 rfl rfl (fun A15 => ?_)
  refine js_aload (pc1 := 203) rfl rfl rfl ?_
  refine jt_gr (pc1 := 206) (j := 1) rfl rfl hx0 rfl (fun p16 => ?_)
  refine js_iload (pc1 := 208) rfl rfl rfl ?_
  refine js_aload (pc1 := 209) rfl rfl rfl ?_
  refine js_gi (pc1 := 212) (j := 2) rfl rfl hx0 rfl ?_
  refine jt_iasD (pc1 := 213) rfl rfl (fun A17 => ?_)
  refine js_aload (pc1 := 214) rfl rfl rfl ?_
  refine js_gi (pc1 := 217) (j := 2) rfl rfl hx0 rfl ?_
  refine js_iconst (pc1 := 218) rfl rfl ?_
  refine js_isub (pc1 := 219) rfl rfl ?_
  exact je_I rfl (zfit0 _ rfl) (zval_w ((zi A17 x0 2) - 1)) (zw_rg ((zi A17 x0 2) - 1))
theorem z_Th_make_ok{d w : Nat} (N : Nat) (hd : 3 ≤ d) (hw : 110 ≤ w) (x0 : Nat) (hx0 : zsh x0 = some (false, 6, 5)) (x1 : Int) (hx1 : zrg x1) (x2 : Int) (hx2 : zrg x2) (x3 : Int) (hx3 : zrg x3) (x4 : Int) (hx4 : zrg x4) (A : zA) : zG (z_Th_make N x0 x1 x2 x3 x4 A) zPI d w 181 0 [some (.inr (.inr (some x0))), some (.inl x1), some (.inl x2), some (.inl x3), some (.inl x4), none, none, none] [] A := by
  unfold z_Th_make
  refine js_iload (pc1 := 1) rfl rfl rfl ?_
  refine js_iconst (pc1 := 3) rfl rfl ?_
  refine js_imul (pc1 := 4) rfl rfl ?_
  refine js_iload (pc1 := 5) rfl rfl rfl ?_
  refine js_iadd (pc1 := 6) rfl rfl ?_
  refine js_iconst (pc1 := 8) rfl rfl ?_
  refine js_imul (pc1 := 9) rfl rfl ?_
  refine js_iload (pc1 := 10) rfl rfl rfl ?_
  refine js_iadd (pc1 := 11) rfl rfl ?_
  refine js_iconst (pc1 := 13) rfl rfl ?_
  refine js_imul (pc1 := 14) rfl rfl ?_
  refine js_iload (pc1 := 16) rfl rfl rfl ?_
  refine js_iconst (pc1 := 18) rfl rfl ?_
  refine js_imul (pc1 := 19) rfl rfl ?_
  refine js_iadd (pc1 := 20) rfl rfl ?_
  refine zG_w1 ?_
  refine js_istore (pc1 := 22) (L1 := [some (.inr (.inr (some x0))), some (.inl x1), some (.inl x2), some (.inl x3), some (.inl x4), some (.inl (zw ((((((x1 * 31) + x2) * (-1640531535)) + x3) * (-2048144789)) + (x4 * (-1028477387))))), none, none]) rfl rfl rfl rfl ?_
  refine js_iload (pc1 := 24) rfl rfl rfl ?_
  refine js_iload (pc1 := 26) rfl rfl rfl ?_
  refine js_iconst (pc1 := 28) rfl rfl ?_
  refine js_iushr (pc1 := 29) rfl rfl ?_
  refine js_ixor (pc1 := 30) rfl rfl ?_
  refine js_istore (pc1 := 32) (L1 := [some (.inr (.inr (some x0))), some (.inl x1), some (.inl x2), some (.inl x3), some (.inl x4), some (.inl (zxr (zw ((((((x1 * 31) + x2) * (-1640531535)) + x3) * (-2048144789)) + (x4 * (-1028477387)))) (zuh (zw ((((((x1 * 31) + x2) * (-1640531535)) + x3) * (-2048144789)) + (x4 * (-1028477387)))) 15))), none, none]) rfl rfl rfl rfl ?_
  refine js_aload (pc1 := 33) rfl rfl rfl ?_
  refine js_iload (pc1 := 35) rfl rfl rfl ?_
  refine js_iload (pc1 := 36) rfl rfl rfl ?_
  refine js_iload (pc1 := 37) rfl rfl rfl ?_
  refine js_iload (pc1 := 38) rfl rfl rfl ?_
  refine js_iload (pc1 := 40) rfl rfl rfl ?_
  refine js_cP (pc1 := 43) (as := [(.inr (.inr (some x0))), (.inl (zxr (zw ((((((x1 * 31) + x2) * (-1640531535)) + x3) * (-2048144789)) + (x4 * (-1028477387)))) (zuh (zw ((((((x1 * 31) + x2) * (-1640531535)) + x3) * (-2048144789)) + (x4 * (-1028477387)))) 15))), (.inl x1), (.inl x2), (.inl x3), (.inl x4)]) (S0 := []) (m := 10) (L0 := [some (.inr (.inr (some x0))), some (.inl (zxr (zw ((((((x1 * 31) + x2) * (-1640531535)) + x3) * (-2048144789)) + (x4 * (-1028477387)))) (zuh (zw ((((((x1 * 31) + x2) * (-1640531535)) + x3) * (-2048144789)) + (x4 * (-1028477387)))) 15))), some (.inl x1), some (.inl x2), some (.inl x3), some (.inl x4), none, none, none, none]) rfl rfl rfl rfl rfl rfl rfl rfl (zrc_o rfl hx0) (by omega) (by omega) (z_Th_slotFor_ok N (by omega) (by omega) x0 hx0 (zxr (zw ((((((x1 * 31) + x2) * (-1640531535)) + x3) * (-2048144789)) + (x4 * (-1028477387)))) (zuh (zw ((((((x1 * 31) + x2) * (-1640531535)) + x3) * (-2048144789)) + (x4 * (-1028477387)))) 15)) (zt_rg _) x1 hx1 x2 hx2 x3 hx3 x4 hx4 A) (fun v1 _ hv1 => ?_)
  refine js_istore (pc1 := 45) (L1 := [some (.inr (.inr (some x0))), some (.inl x1), some (.inl x2), some (.inl x3), some (.inl x4), some (.inl (zxr (zw ((((((x1 * 31) + x2) * (-1640531535)) + x3) * (-2048144789)) + (x4 * (-1028477387)))) (zuh (zw ((((((x1 * 31) + x2) * (-1640531535)) + x3) * (-2048144789)) + (x4 * (-1028477387)))) 15))), some (.inl v1), none]) rfl rfl rfl rfl ?_
  refine js_aload (pc1 := 46) rfl rfl rfl ?_
  refine jt_gr (pc1 := 49) (j := 1) rfl rfl hx0 rfl (fun p2 => ?_)
  refine js_iload (pc1 := 51) rfl rfl rfl ?_
  refine jt_aldD (pc1 := 52) rfl rfl (fun v3 hv3 => ?_)
  refine ju_eq (pc1 := 55) (t1 := 65) hv3 rfl rfl rfl (fun c4 => ?_) (fun c4 => ?_)
  · refine js_aload (pc1 := 66) rfl rfl rfl ?_
    refine js_gi (pc1 := 69) (j := 2) rfl rfl hx0 rfl ?_
    refine js_iconst (pc1 := 71) rfl rfl ?_
    refine jt_lt (pc1 := 74) (t1 := 76) (zi_rg _ _ _) (zlit rfl) rfl rfl rfl (fun c5 => ?_) (fun c5 => ?_)
    · refine js_aload (pc1 := 77) rfl rfl rfl ?_
      refine js_gi (pc1 := 80) (j := 2) rfl rfl hx0 rfl ?_
      refine js_iconst (pc1 := 81) rfl rfl ?_
      refine js_iadd (pc1 := 82) rfl rfl ?_
      refine js_iconst (pc1 := 84) rfl rfl ?_
      refine js_imul (pc1 := 85) rfl rfl ?_
      refine js_aload (pc1 := 86) rfl rfl rfl ?_
      refine jt_gr (pc1 := 89) (j := 0) rfl rfl hx0 rfl (fun p6 => ?_)
      refine js_lenD (pc1 := 90) rfl rfl (fun v7 hv7 => ?_)
      refine zG_w2 ?_
      refine jt_le (pc1 := 93) (t1 := 110) (zw_rg (((zi A x0 2) + 1) * 7)) hv7 rfl rfl rfl (fun c8 => ?_) (fun c8 => ?_)
      · refine js_aload (pc1 := 94) rfl rfl rfl ?_
        refine js_cV (pc1 := 97) (as := [(.inr (.inr (some x0)))]) (S0 := []) (m := 5) (L0 := [some (.inr (.inr (some x0))), none, none, none, none]) rfl rfl rfl rfl rfl rfl rfl rfl (zrc_o rfl hx0) (by omega) (by omega) (z_Th_grow_ok N (by omega) (by omega) x0 hx0 A) (fun A9 _ => ?_)
        refine js_aload (pc1 := 98) rfl rfl rfl ?_
        refine js_iload (pc1 := 100) rfl rfl rfl ?_
        refine js_iload (pc1 := 101) rfl rfl rfl ?_
        refine js_iload (pc1 := 102) rfl rfl rfl ?_
        refine js_iload (pc1 := 103) rfl rfl rfl ?_
        refine js_iload (pc1 := 105) rfl rfl rfl ?_
        refine js_cP (pc1 := 108) (as := [(.inr (.inr (some x0))), (.inl (zxr (zw ((((((x1 * 31) + x2) * (-1640531535)) + x3) * (-2048144789)) + (x4 * (-1028477387)))) (zuh (zw ((((((x1 * 31) + x2) * (-1640531535)) + x3) * (-2048144789)) + (x4 * (-1028477387)))) 15))), (.inl x1), (.inl x2), (.inl x3), (.inl x4)]) (S0 := []) (m := 10) (L0 := [some (.inr (.inr (some x0))), some (.inl (zxr (zw ((((((x1 * 31) + x2) * (-1640531535)) + x3) * (-2048144789)) + (x4 * (-1028477387)))) (zuh (zw ((((((x1 * 31) + x2) * (-1640531535)) + x3) * (-2048144789)) + (x4 * (-1028477387)))) 15))), some (.inl x1), some (.inl x2), some (.inl x3), some (.inl x4), none, none, none, none]) rfl rfl rfl rfl rfl rfl rfl rfl (zrc_o rfl hx0) (by omega) (by omega) (z_Th_slotFor_ok N (by omega) (by omega) x0 hx0 (zxr (zw ((((((x1 * 31) + x2) * (-1640531535)) + x3) * (-2048144789)) + (x4 * (-1028477387)))) (zuh (zw ((((((x1 * 31) + x2) * (-1640531535)) + x3) * (-2048144789)) + (x4 * (-1028477387)))) 15)) (zt_rg _) x1 hx1 x2 hx2 x3 hx3 x4 hx4 A9) (fun v10 _ hv10 => ?_)
        refine js_istore (pc1 := 110) (L1 := [some (.inr (.inr (some x0))), some (.inl x1), some (.inl x2), some (.inl x3), some (.inl x4), some (.inl (zxr (zw ((((((x1 * 31) + x2) * (-1640531535)) + x3) * (-2048144789)) + (x4 * (-1028477387)))) (zuh (zw ((((((x1 * 31) + x2) * (-1640531535)) + x3) * (-2048144789)) + (x4 * (-1028477387)))) 15))), some (.inl v10), none]) rfl rfl rfl rfl ?_
        exact z_Th_make_110_ok N hd hw x0 hx0 x1 hx1 x2 hx2 x3 hx3 x4 hx4 (zxr (zw ((((((x1 * 31) + x2) * (-1640531535)) + x3) * (-2048144789)) + (x4 * (-1028477387)))) (zuh (zw ((((((x1 * 31) + x2) * (-1640531535)) + x3) * (-2048144789)) + (x4 * (-1028477387)))) 15)) (zt_rg _) v10 hv10 A9
      · exact z_Th_make_110_ok N hd hw x0 hx0 x1 hx1 x2 hx2 x3 hx3 x4 hx4 (zxr (zw ((((((x1 * 31) + x2) * (-1640531535)) + x3) * (-2048144789)) + (x4 * (-1028477387)))) (zuh (zw ((((((x1 * 31) + x2) * (-1640531535)) + x3) * (-2048144789)) + (x4 * (-1028477387)))) 15)) (zt_rg _) v1 hv1 A
    · refine js_iconst (pc1 := 75) rfl rfl ?_
      exact je_I rfl (zfit0 _ rfl) rfl (zlit rfl)
  · refine js_aload (pc1 := 56) rfl rfl rfl ?_
    refine jt_gr (pc1 := 59) (j := 1) rfl rfl hx0 rfl (fun p11 => ?_)
    refine js_iload (pc1 := 61) rfl rfl rfl ?_
    refine jt_aldD (pc1 := 62) rfl rfl (fun v12 hv12 => ?_)
    refine js_iconst (pc1 := 63) rfl rfl ?_
    refine js_isub (pc1 := 64) rfl rfl ?_
    exact je_I rfl (zfit0 _ rfl) (zval_w (v12 - 1)) (zw_rg (v12 - 1))
theorem z_Na_beginAnew_20_bok{d w : Nat} {r20 : Int → zA → Option zA} (hr20 : ∀ (x1 : Int) (hx1 : zrg x1) (A : zA), zG (r20 x1 A) zPV d w 167 20 [some (.inr (.inr (some 102))), some (.inl x1)] [] A) (N : Nat) (hd : 4 ≤ d) (hw : 137 ≤ w) (x1 : Int) (hx1 : zrg x1) (A : zA) : zG (z_Na_beginAnew_20_b r20 N x1 A) zPV d w 167 20 [some (.inr (.inr (some 102))), some (.inl x1)] [] A := by
  unfold z_Na_beginAnew_20_b
  refine js_iload (pc1 := 21) rfl rfl rfl ?_
  refine js_aload (pc1 := 22) rfl rfl rfl ?_
  refine js_gi (pc1 := 25) (j := 2) rfl rfl rfl rfl ?_
  refine jt_ge (pc1 := 28) (t1 := 52) hx1 (zi_rg _ _ _) rfl rfl rfl (fun c1 => ?_) (fun c1 => ?_)
  · refine js_aload (pc1 := 29) rfl rfl rfl ?_
    refine js_gfr (pc1 := 32) (j := 1) (r := 106) rfl rfl rfl rfl rfl ?_
    refine js_iload (pc1 := 33) rfl rfl rfl ?_
    refine js_aload (pc1 := 34) rfl rfl rfl ?_
    refine js_gfr (pc1 := 37) (j := 0) (r := 103) rfl rfl rfl rfl rfl ?_
    refine js_iconst (pc1 := 39) rfl rfl ?_
    refine js_iload (pc1 := 40) rfl rfl rfl ?_
    refine js_iconst (pc1 := 41) rfl rfl ?_
    refine js_iconst (pc1 := 42) rfl rfl ?_
    refine js_cI (pc1 := 45) (as := [(.inr (.inr (some 103))), (.inl 8), (.inl x1), (.inl 0), (.inl 0)]) (S0 := [(.inl x1), (.inr (.inr (some 106)))]) (m := 8) (L0 := [some (.inr (.inr (some 103))), some (.inl 8), some (.inl x1), some (.inl 0), some (.inl 0), none, none, none]) rfl rfl rfl rfl rfl rfl rfl rfl (zrc_o rfl rfl) (by omega) (by omega) (z_Th_make_ok N (by omega) (by omega) 103 rfl 8 (zlit rfl) x1 hx1 0 (zlit rfl) 0 (zlit rfl) A) (fun v2 A3 _ hv2 => ?_)
    refine jt_ias (pc1 := 46) rfl rfl rfl rfl (fun A4 => ?_)
    refine js_iinc (pc1 := 49) (L1 := [some (.inr (.inr (some 102))), some (.inl (x1 + 1))]) rfl rfl rfl rfl ?_
    refine js_goto (t1 := 20) rfl rfl ?_
    exact zG_to (L := [some (.inr (.inr (some 102))), some (.inl (zw (x1 + 1)))]) (S := []) ⟨rfl, ⟨zval_w (x1 + 1), trivial⟩⟩ (rfl) (hr20 (zw (x1 + 1)) (zw_rg (x1 + 1)) A4)
  · exact je_V rfl
theorem z_Na_beginAnew_20_lok{d w : Nat} (N : Nat) (hd : 4 ≤ d) (hw : 137 ≤ w) (n : Nat) : ∀ (x1 : Int) (hx1 : zrg x1) (A : zA), zG (z_Na_beginAnew_20_l N n x1 A) zPV d w 167 20 [some (.inr (.inr (some 102))), some (.inl x1)] [] A := by
  induction n with
  | zero => intros; exact zG_none
  | succ n ih =>
    intro x1 hx1 A
    exact z_Na_beginAnew_20_bok ih N hd hw x1 hx1 A
theorem z_Na_beginAnew_20_ok{d w : Nat} (N : Nat) (hd : 4 ≤ d) (hw : 137 ≤ w) (x1 : Int) (hx1 : zrg x1) (A : zA) : zG (z_Na_beginAnew_20 N x1 A) zPV d w 167 20 [some (.inr (.inr (some 102))), some (.inl x1)] [] A := z_Na_beginAnew_20_lok N hd hw N x1 hx1 A
theorem z_Na_beginAnew_ok{d w : Nat} (N : Nat) (hd : 4 ≤ d) (hw : 137 ≤ w) (A : zA) : zG (z_Na_beginAnew N A) zPV d w 167 0 [some (.inr (.inr (some 102))), none] [] A := by
  unfold z_Na_beginAnew
  refine js_aload (pc1 := 1) rfl rfl rfl ?_
  refine js_gfr (pc1 := 4) (j := 0) (r := 103) rfl rfl rfl rfl rfl ?_
  refine js_iconst (pc1 := 5) rfl rfl ?_
  refine js_cV (pc1 := 8) (as := [(.inr (.inr (some 103))), (.inl 0)]) (S0 := []) (m := 3) (L0 := [some (.inr (.inr (some 103))), some (.inl 0), none]) rfl rfl rfl rfl rfl rfl rfl rfl (zrc_o rfl rfl) (by omega) (by omega) (z_Th_dropTo_ok N (by omega) (by omega) 103 rfl 0 (zlit rfl) A) (fun A1 _ => ?_)
  refine js_aload (pc1 := 9) rfl rfl rfl ?_
  refine js_iconst (pc1 := 10) rfl rfl ?_
  refine jt_pi (pc1 := 13) (j := 3) rfl rfl rfl rfl rfl (fun A2 => ?_)
  refine js_aload (pc1 := 14) rfl rfl rfl ?_
  refine js_iconst (pc1 := 15) rfl rfl ?_
  refine jt_pi (pc1 := 18) (j := 4) rfl rfl rfl rfl rfl (fun A3 => ?_)
  refine js_iconst (pc1 := 19) rfl rfl ?_
  refine js_istore (pc1 := 20) (L1 := [some (.inr (.inr (some 102))), some (.inl 0)]) rfl rfl rfl rfl ?_
  exact z_Na_beginAnew_20_ok N hd hw 0 (zlit rfl) A3
theorem z_Pt_reads_ok{d w : Nat} (N : Nat) (hd : 1 ≤ d) (hw : 21 ≤ w) (x0 : Nat) (hx0 : zsh x0 = some (false, 3, 4)) (x1 : Int) (hx1 : zrg x1) (A : zA) : zG (z_Pt_reads N x0 x1 A) (zPp A) d w 238 0 [some (.inr (.inr (some x0))), some (.inl x1)] [] A := by
  unfold z_Pt_reads
  refine js_getstatic (pc1 := 3) rfl rfl (by decide) ?_
  refine js_aload (pc1 := 4) rfl rfl rfl ?_
  refine js_iload (pc1 := 5) rfl rfl rfl ?_
  refine js_cP (pc1 := 8) (as := [(.inr (.inr (some x0))), (.inl x1)]) (S0 := [(.inr (.inr (some 1)))]) (m := 2) (L0 := [some (.inr (.inr (some x0))), some (.inl x1)]) rfl rfl rfl rfl rfl rfl rfl rfl (zrc_o rfl hx0) (by omega) (by omega) (z_Pt_kind_ok N (by omega) (by omega) x0 hx0 x1 hx1 A) (fun v1 _ hv1 => ?_)
  refine jt_ald (pc1 := 9) rfl rfl rfl rfl rfl (fun v2 hv2 => ?_)
  exact je_P rfl (zfit0 _ rfl) rfl hv2
theorem z_Pt_readNumber_ok{d w : Nat} (N : Nat) (hd : 1 ≤ d) (hw : 21 ≤ w) (x0 : Nat) (hx0 : zsh x0 = some (false, 3, 4)) (x1 : Int) (hx1 : zrg x1) (x2 : Int) (hx2 : zrg x2) (A : zA) : zG (z_Pt_readNumber N x0 x1 x2 A) (zPp A) d w 239 0 [some (.inr (.inr (some x0))), some (.inl x1), some (.inl x2)] [] A := by
  unfold z_Pt_readNumber
  refine js_getstatic (pc1 := 3) rfl rfl (by decide) ?_
  refine js_aload (pc1 := 4) rfl rfl rfl ?_
  refine js_iload (pc1 := 5) rfl rfl rfl ?_
  refine js_cP (pc1 := 8) (as := [(.inr (.inr (some x0))), (.inl x1)]) (S0 := [(.inr (.inr (some 2)))]) (m := 2) (L0 := [some (.inr (.inr (some x0))), some (.inl x1)]) rfl rfl rfl rfl rfl rfl rfl rfl (zrc_o rfl hx0) (by omega) (by omega) (z_Pt_kind_ok N (by omega) (by omega) x0 hx0 x1 hx1 A) (fun v1 _ hv1 => ?_)
  refine jt_ald (pc1 := 9) rfl rfl rfl rfl rfl (fun v2 hv2 => ?_)
  refine js_iload (pc1 := 10) rfl rfl rfl ?_
  refine js_iadd (pc1 := 11) rfl rfl ?_
  exact je_P rfl (zfit0 _ rfl) (zval_w (v2 + x2)) (zw_rg (v2 + x2))
theorem z_Na_leastWith_2_bok{d w : Nat} {r2 : Int → Int → zA → Option Int} (hr2 : ∀ (x1 : Int) (hx1 : zrg x1) (x2 : Int) (hx2 : zrg x2) (A : zA), zG (r2 x1 x2 A) (zPp A) d w 241 2 [some (.inr (.inr (some 102))), some (.inl x1), some (.inl x2)] [] A) (N : Nat) (hd : 0 ≤ d) (hw : 0 ≤ w) (x1 : Int) (hx1 : zrg x1) (x2 : Int) (hx2 : zrg x2) (A : zA) : zG (z_Na_leastWith_2_b r2 N x1 x2 A) (zPp A) d w 241 2 [some (.inr (.inr (some 102))), some (.inl x1), some (.inl x2)] [] A := by
  unfold z_Na_leastWith_2_b
  refine js_iload (pc1 := 3) rfl rfl rfl ?_
  refine js_aload (pc1 := 4) rfl rfl rfl ?_
  refine js_gi (pc1 := 7) (j := 2) rfl rfl rfl rfl ?_
  refine jt_ge (pc1 := 10) (t1 := 28) hx2 (zi_rg _ _ _) rfl rfl rfl (fun c1 => ?_) (fun c1 => ?_)
  · refine js_aload (pc1 := 11) rfl rfl rfl ?_
    refine js_gfr (pc1 := 14) (j := 1) (r := 106) rfl rfl rfl rfl rfl ?_
    refine js_iload (pc1 := 15) rfl rfl rfl ?_
    refine jt_ald (pc1 := 16) rfl rfl rfl rfl rfl (fun v2 hv2 => ?_)
    refine js_iload (pc1 := 17) rfl rfl rfl ?_
    refine jt_ne (pc1 := 20) (t1 := 22) hv2 hx1 rfl rfl rfl (fun c3 => ?_) (fun c3 => ?_)
    · refine js_iload (pc1 := 21) rfl rfl rfl ?_
      exact je_P rfl (zfit0 _ rfl) rfl hx2
    · refine js_iinc (pc1 := 25) (L1 := [some (.inr (.inr (some 102))), some (.inl x1), some (.inl (x2 + 1))]) rfl rfl rfl rfl ?_
      refine js_goto (t1 := 2) rfl rfl ?_
      exact zG_to (L := [some (.inr (.inr (some 102))), some (.inl x1), some (.inl (zw (x2 + 1)))]) (S := []) ⟨rfl, ⟨rfl, ⟨zval_w (x2 + 1), trivial⟩⟩⟩ (rfl) (hr2 x1 hx1 (zw (x2 + 1)) (zw_rg (x2 + 1)) A)
  · refine js_iconst (pc1 := 29) rfl rfl ?_
    exact je_P rfl (zfit0 _ rfl) rfl (zlit rfl)
theorem z_Na_leastWith_2_lok{d w : Nat} (N : Nat) (hd : 0 ≤ d) (hw : 0 ≤ w) (n : Nat) : ∀ (x1 : Int) (hx1 : zrg x1) (x2 : Int) (hx2 : zrg x2) (A : zA), zG (z_Na_leastWith_2_l N n x1 x2 A) (zPp A) d w 241 2 [some (.inr (.inr (some 102))), some (.inl x1), some (.inl x2)] [] A := by
  induction n with
  | zero => intros; exact zG_none
  | succ n ih =>
    intro x1 hx1 x2 hx2 A
    exact z_Na_leastWith_2_bok ih N hd hw x1 hx1 x2 hx2 A
theorem z_Na_leastWith_2_ok{d w : Nat} (N : Nat) (hd : 0 ≤ d) (hw : 0 ≤ w) (x1 : Int) (hx1 : zrg x1) (x2 : Int) (hx2 : zrg x2) (A : zA) : zG (z_Na_leastWith_2 N x1 x2 A) (zPp A) d w 241 2 [some (.inr (.inr (some 102))), some (.inl x1), some (.inl x2)] [] A := z_Na_leastWith_2_lok N hd hw N x1 hx1 x2 hx2 A
theorem z_Na_leastWith_ok{d w : Nat} (N : Nat) (hd : 0 ≤ d) (hw : 0 ≤ w) (x1 : Int) (hx1 : zrg x1) (A : zA) : zG (z_Na_leastWith N x1 A) (zPp A) d w 241 0 [some (.inr (.inr (some 102))), some (.inl x1), none] [] A := by
  unfold z_Na_leastWith
  refine js_iconst (pc1 := 1) rfl rfl ?_
  refine js_istore (pc1 := 2) (L1 := [some (.inr (.inr (some 102))), some (.inl x1), some (.inl 0)]) rfl rfl rfl rfl ?_
  exact z_Na_leastWith_2_ok N hd hw x1 hx1 0 (zlit rfl) A
theorem z_Na_readLeast_5_bok{d w : Nat} {r5 : Nat → Int → Int → Int → zA → Option (Int × zA)} (hr5 : ∀ (x1 : Nat) (hx1 : zsh x1 = some (false, 3, 4)) (x2 : Int) (hx2 : zrg x2) (x3 : Int) (hx3 : zrg x3) (x4 : Int) (hx4 : zrg x4) (A : zA), zG (r5 x1 x2 x3 x4 A) zPI d w 168 5 [some (.inr (.inr (some 102))), some (.inr (.inr (some x1))), some (.inl x2), some (.inl x3), some (.inl x4), none, none, none] [] A) (N : Nat) (hd : 2 ≤ d) (hw : 43 ≤ w) (x1 : Nat) (hx1 : zsh x1 = some (false, 3, 4)) (x2 : Int) (hx2 : zrg x2) (x3 : Int) (hx3 : zrg x3) (x4 : Int) (hx4 : zrg x4) (A : zA) : zG (z_Na_readLeast_5_b r5 N x1 x2 x3 x4 A) zPI d w 168 5 [some (.inr (.inr (some 102))), some (.inr (.inr (some x1))), some (.inl x2), some (.inl x3), some (.inl x4), none, none, none] [] A := by
  unfold z_Na_readLeast_5_b
  refine js_iload (pc1 := 7) rfl rfl rfl ?_
  refine js_aload (pc1 := 8) rfl rfl rfl ?_
  refine js_iload (pc1 := 9) rfl rfl rfl ?_
  refine js_cP (pc1 := 12) (as := [(.inr (.inr (some x1))), (.inl x2)]) (S0 := [(.inl x4)]) (m := 2) (L0 := [some (.inr (.inr (some x1))), some (.inl x2)]) rfl rfl rfl rfl rfl rfl rfl rfl (zrc_o rfl hx1) (by omega) (by omega) (z_Pt_reads_ok N (by omega) (by omega) x1 hx1 x2 hx2 A) (fun v1 _ hv1 => ?_)
  refine jt_ge (pc1 := 15) (t1 := 75) hx4 hv1 rfl rfl rfl (fun c2 => ?_) (fun c2 => ?_)
  · refine js_aload (pc1 := 16) rfl rfl rfl ?_
    refine js_iload (pc1 := 17) rfl rfl rfl ?_
    refine js_iload (pc1 := 19) rfl rfl rfl ?_
    refine js_cP (pc1 := 22) (as := [(.inr (.inr (some x1))), (.inl x2), (.inl x4)]) (S0 := []) (m := 3) (L0 := [some (.inr (.inr (some x1))), some (.inl x2), some (.inl x4)]) rfl rfl rfl rfl rfl rfl rfl rfl (zrc_o rfl hx1) (by omega) (by omega) (z_Pt_readNumber_ok N (by omega) (by omega) x1 hx1 x2 hx2 x4 hx4 A) (fun v3 _ hv3 => ?_)
    refine js_istore (pc1 := 24) (L1 := [some (.inr (.inr (some 102))), some (.inr (.inr (some x1))), some (.inl x2), some (.inl x3), some (.inl x4), some (.inl v3), none, none]) rfl rfl rfl rfl ?_
    refine js_aload (pc1 := 25) rfl rfl rfl ?_
    refine js_iload (pc1 := 26) rfl rfl rfl ?_
    refine js_iload (pc1 := 28) rfl rfl rfl ?_
    refine js_cP (pc1 := 31) (as := [(.inr (.inr (some x1))), (.inl x2), (.inl v3)]) (S0 := []) (m := 5) (L0 := [some (.inr (.inr (some x1))), some (.inl x2), some (.inl v3), none, none]) rfl rfl rfl rfl rfl rfl rfl rfl (zrc_o rfl hx1) (by omega) (by omega) (z_Pt_register_ok N (by omega) (by omega) x1 hx1 x2 hx2 v3 hv3 A) (fun v4 _ hv4 => ?_)
    refine js_istore (pc1 := 33) (L1 := [some (.inr (.inr (some 102))), some (.inr (.inr (some x1))), some (.inl x2), some (.inl x3), some (.inl x4), some (.inl v3), some (.inl v4), none]) rfl rfl rfl rfl ?_
    refine js_aload (pc1 := 34) rfl rfl rfl ?_
    refine js_aload (pc1 := 35) rfl rfl rfl ?_
    refine js_gfr (pc1 := 38) (j := 1) (r := 106) rfl rfl rfl rfl rfl ?_
    refine js_iload (pc1 := 40) rfl rfl rfl ?_
    refine jt_ald (pc1 := 41) rfl rfl rfl rfl rfl (fun v5 hv5 => ?_)
    refine js_cP (pc1 := 44) (as := [(.inr (.inr (some 102))), (.inl v5)]) (S0 := []) (m := 3) (L0 := [some (.inr (.inr (some 102))), some (.inl v5), none]) rfl rfl rfl rfl rfl rfl rfl rfl (zrc_o rfl rfl) (by omega) (by omega) (z_Na_leastWith_ok N (by omega) (by omega) v5 hv5 A) (fun v6 _ hv6 => ?_)
    refine js_istore (pc1 := 46) (L1 := [some (.inr (.inr (some 102))), some (.inr (.inr (some x1))), some (.inl x2), some (.inl x3), some (.inl x4), some (.inl v3), some (.inl v4), some (.inl v6)]) rfl rfl rfl rfl ?_
    refine js_iload (pc1 := 48) rfl rfl rfl ?_
    refine ju_lt (pc1 := 51) (t1 := 69) hv6 rfl rfl rfl (fun c7 => ?_) (fun c7 => ?_)
    · refine js_iinc (pc1 := 72) (L1 := [some (.inr (.inr (some 102))), some (.inr (.inr (some x1))), some (.inl x2), some (.inl x3), some (.inl (x4 + 1)), some (.inl v3), some (.inl v4), some (.inl v6)]) rfl rfl rfl rfl ?_
      refine js_goto (t1 := 5) rfl rfl ?_
      exact zG_to (L := [some (.inr (.inr (some 102))), some (.inr (.inr (some x1))), some (.inl x2), some (.inl x3), some (.inl (zw (x4 + 1))), none, none, none]) (S := []) ⟨rfl, ⟨rfl, ⟨rfl, ⟨rfl, ⟨zval_w (x4 + 1), trivial⟩⟩⟩⟩⟩ (rfl) (hr5 x1 hx1 x2 hx2 x3 hx3 (zw (x4 + 1)) (zw_rg (x4 + 1)) A)
    · refine js_iload (pc1 := 53) rfl rfl rfl ?_
      refine js_iload (pc1 := 55) rfl rfl rfl ?_
      refine jt_eq (pc1 := 58) (t1 := 69) hv6 hv4 rfl rfl rfl (fun c8 => ?_) (fun c8 => ?_)
      · refine js_iinc (pc1 := 72) (L1 := [some (.inr (.inr (some 102))), some (.inr (.inr (some x1))), some (.inl x2), some (.inl x3), some (.inl (x4 + 1)), some (.inl v3), some (.inl v4), some (.inl v6)]) rfl rfl rfl rfl ?_
        refine js_goto (t1 := 5) rfl rfl ?_
        exact zG_to (L := [some (.inr (.inr (some 102))), some (.inr (.inr (some x1))), some (.inl x2), some (.inl x3), some (.inl (zw (x4 + 1))), none, none, none]) (S := []) ⟨rfl, ⟨rfl, ⟨rfl, ⟨rfl, ⟨zval_w (x4 + 1), trivial⟩⟩⟩⟩⟩ (rfl) (hr5 x1 hx1 x2 hx2 x3 hx3 (zw (x4 + 1)) (zw_rg (x4 + 1)) A)
      · refine js_aload (pc1 := 59) rfl rfl rfl ?_
        refine js_iload (pc1 := 60) rfl rfl rfl ?_
        refine js_iload (pc1 := 62) rfl rfl rfl ?_
        refine js_iload (pc1 := 64) rfl rfl rfl ?_
        refine js_cV (pc1 := 67) (as := [(.inr (.inr (some x1))), (.inl x2), (.inl v3), (.inl v6)]) (S0 := []) (m := 4) (L0 := [some (.inr (.inr (some x1))), some (.inl x2), some (.inl v3), some (.inl v6)]) rfl rfl rfl rfl rfl rfl rfl rfl (zrc_o rfl hx1) (by omega) (by omega) (z_Pt_setNumber_ok N (by omega) (by omega) x1 hx1 x2 hx2 v3 hv3 v6 hv6 A) (fun A9 _ => ?_)
        refine js_iconst (pc1 := 68) rfl rfl ?_
        refine js_istore (pc1 := 69) (L1 := [some (.inr (.inr (some 102))), some (.inr (.inr (some x1))), some (.inl x2), some (.inl 1), some (.inl x4), some (.inl v3), some (.inl v4), some (.inl v6)]) rfl rfl rfl rfl ?_
        refine js_iinc (pc1 := 72) (L1 := [some (.inr (.inr (some 102))), some (.inr (.inr (some x1))), some (.inl x2), some (.inl 1), some (.inl (x4 + 1)), some (.inl v3), some (.inl v4), some (.inl v6)]) rfl rfl rfl rfl ?_
        refine js_goto (t1 := 5) rfl rfl ?_
        exact zG_to (L := [some (.inr (.inr (some 102))), some (.inr (.inr (some x1))), some (.inl x2), some (.inl 1), some (.inl (zw (x4 + 1))), none, none, none]) (S := []) ⟨rfl, ⟨rfl, ⟨rfl, ⟨rfl, ⟨zval_w (x4 + 1), trivial⟩⟩⟩⟩⟩ (rfl) (hr5 x1 hx1 x2 hx2 1 (zlit rfl) (zw (x4 + 1)) (zw_rg (x4 + 1)) A9)
  · refine js_iload (pc1 := 76) rfl rfl rfl ?_
    exact zG_ite (fun h => je_I rfl (zfit3 rfl h) rfl hx3) (fun _ => zG_none)
theorem z_Na_readLeast_5_lok{d w : Nat} (N : Nat) (hd : 2 ≤ d) (hw : 43 ≤ w) (n : Nat) : ∀ (x1 : Nat) (hx1 : zsh x1 = some (false, 3, 4)) (x2 : Int) (hx2 : zrg x2) (x3 : Int) (hx3 : zrg x3) (x4 : Int) (hx4 : zrg x4) (A : zA), zG (z_Na_readLeast_5_l N n x1 x2 x3 x4 A) zPI d w 168 5 [some (.inr (.inr (some 102))), some (.inr (.inr (some x1))), some (.inl x2), some (.inl x3), some (.inl x4), none, none, none] [] A := by
  induction n with
  | zero => intros; exact zG_none
  | succ n ih =>
    intro x1 hx1 x2 hx2 x3 hx3 x4 hx4 A
    exact z_Na_readLeast_5_bok ih N hd hw x1 hx1 x2 hx2 x3 hx3 x4 hx4 A
theorem z_Na_readLeast_5_ok{d w : Nat} (N : Nat) (hd : 2 ≤ d) (hw : 43 ≤ w) (x1 : Nat) (hx1 : zsh x1 = some (false, 3, 4)) (x2 : Int) (hx2 : zrg x2) (x3 : Int) (hx3 : zrg x3) (x4 : Int) (hx4 : zrg x4) (A : zA) : zG (z_Na_readLeast_5 N x1 x2 x3 x4 A) zPI d w 168 5 [some (.inr (.inr (some 102))), some (.inr (.inr (some x1))), some (.inl x2), some (.inl x3), some (.inl x4), none, none, none] [] A := z_Na_readLeast_5_lok N hd hw N x1 hx1 x2 hx2 x3 hx3 x4 hx4 A
theorem z_Na_readLeast_ok{d w : Nat} (N : Nat) (hd : 2 ≤ d) (hw : 43 ≤ w) (x1 : Nat) (hx1 : zsh x1 = some (false, 3, 4)) (x2 : Int) (hx2 : zrg x2) (A : zA) : zG (z_Na_readLeast N x1 x2 A) zPI d w 168 0 [some (.inr (.inr (some 102))), some (.inr (.inr (some x1))), some (.inl x2), none, none, none, none, none] [] A := by
  unfold z_Na_readLeast
  refine js_iconst (pc1 := 1) rfl rfl ?_
  refine js_istore (pc1 := 2) (L1 := [some (.inr (.inr (some 102))), some (.inr (.inr (some x1))), some (.inl x2), some (.inl 0), none, none, none, none]) rfl rfl rfl rfl ?_
  refine js_iconst (pc1 := 3) rfl rfl ?_
  refine js_istore (pc1 := 5) (L1 := [some (.inr (.inr (some 102))), some (.inr (.inr (some x1))), some (.inl x2), some (.inl 0), some (.inl 0), none, none, none]) rfl rfl rfl rfl ?_
  exact z_Na_readLeast_5_ok N hd hw x1 hx1 x2 hx2 0 (zlit rfl) 0 (zlit rfl) A
theorem z_Pt_becomeMove_ok{d w : Nat} (N : Nat) (hd : 1 ≤ d) (hw : 23 ≤ w) (x0 : Nat) (hx0 : zsh x0 = some (false, 3, 4)) (x1 : Int) (hx1 : zrg x1) (x2 : Int) (hx2 : zrg x2) (x3 : Int) (hx3 : zrg x3) (A : zA) : zG (z_Pt_becomeMove N x0 x1 x2 x3 A) zPV d w 280 0 [some (.inr (.inr (some x0))), some (.inl x1), some (.inl x2), some (.inl x3)] [] A := by
  unfold z_Pt_becomeMove
  refine js_aload (pc1 := 1) rfl rfl rfl ?_
  refine js_iload (pc1 := 2) rfl rfl rfl ?_
  refine js_cP (pc1 := 5) (as := [(.inr (.inr (some x0))), (.inl x1)]) (S0 := []) (m := 2) (L0 := [some (.inr (.inr (some x0))), some (.inl x1)]) rfl rfl rfl rfl rfl rfl rfl rfl (zrc_o rfl hx0) (by omega) (by omega) (z_Pt_has_ok N (by omega) (by omega) x0 hx0 x1 hx1 A) (fun v1 _ hv1 => ?_)
  refine ju_eq (pc1 := 8) (t1 := 31) hv1 rfl rfl rfl (fun c2 => ?_) (fun c2 => ?_)
  · exact je_V rfl
  · refine js_aload (pc1 := 9) rfl rfl rfl ?_
    refine jt_gr (pc1 := 12) (j := 0) rfl rfl hx0 rfl (fun p3 => ?_)
    refine js_iload (pc1 := 13) rfl rfl rfl ?_
    refine js_iconst (pc1 := 14) rfl rfl ?_
    refine js_imul (pc1 := 15) rfl rfl ?_
    refine js_iconst (pc1 := 16) rfl rfl ?_
    refine jt_iasD (pc1 := 17) rfl rfl (fun A4 => ?_)
    refine js_aload (pc1 := 18) rfl rfl rfl ?_
    refine js_iload (pc1 := 19) rfl rfl rfl ?_
    refine js_iconst (pc1 := 20) rfl rfl ?_
    refine js_iload (pc1 := 21) rfl rfl rfl ?_
    refine js_cV (pc1 := 24) (as := [(.inr (.inr (some x0))), (.inl x1), (.inl 0), (.inl x2)]) (S0 := []) (m := 4) (L0 := [some (.inr (.inr (some x0))), some (.inl x1), some (.inl 0), some (.inl x2)]) rfl rfl rfl rfl rfl rfl rfl rfl (zrc_o rfl hx0) (by omega) (by omega) (z_Pt_setNumber_ok N (by omega) (by omega) x0 hx0 x1 hx1 0 (zlit rfl) x2 hx2 A4) (fun A5 _ => ?_)
    refine js_aload (pc1 := 25) rfl rfl rfl ?_
    refine js_iload (pc1 := 26) rfl rfl rfl ?_
    refine js_iconst (pc1 := 27) rfl rfl ?_
    refine js_iload (pc1 := 28) rfl rfl rfl ?_
    refine js_cV (pc1 := 31) (as := [(.inr (.inr (some x0))), (.inl x1), (.inl 1), (.inl x3)]) (S0 := []) (m := 4) (L0 := [some (.inr (.inr (some x0))), some (.inl x1), some (.inl 1), some (.inl x3)]) rfl rfl rfl rfl rfl rfl rfl rfl (zrc_o rfl hx0) (by omega) (by omega) (z_Pt_setNumber_ok N (by omega) (by omega) x0 hx0 x1 hx1 1 (zlit rfl) x3 hx3 A5) (fun A6 _ => ?_)
    exact je_V rfl
theorem z_Na_becomesMove_ok{d w : Nat} (N : Nat) (hd : 2 ≤ d) (hw : 46 ≤ w) (x1 : Nat) (hx1 : zsh x1 = some (false, 3, 4)) (x2 : Int) (hx2 : zrg x2) (x3 : Int) (hx3 : zrg x3) (A : zA) : zG (z_Na_becomesMove N x1 x2 x3 A) zPI d w 242 0 [some (.inr (.inr (some 102))), some (.inr (.inr (some x1))), some (.inl x2), some (.inl x3), none, none] [] A := by
  unfold z_Na_becomesMove
  refine js_aload (pc1 := 1) rfl rfl rfl ?_
  refine js_iload (pc1 := 2) rfl rfl rfl ?_
  refine js_iconst (pc1 := 3) rfl rfl ?_
  refine js_cP (pc1 := 6) (as := [(.inr (.inr (some x1))), (.inl x2), (.inl 0)]) (S0 := []) (m := 5) (L0 := [some (.inr (.inr (some x1))), some (.inl x2), some (.inl 0), none, none]) rfl rfl rfl rfl rfl rfl rfl rfl (zrc_o rfl hx1) (by omega) (by omega) (z_Pt_register_ok N (by omega) (by omega) x1 hx1 x2 hx2 0 (zlit rfl) A) (fun v1 _ hv1 => ?_)
  refine js_istore (pc1 := 8) (L1 := [some (.inr (.inr (some 102))), some (.inr (.inr (some x1))), some (.inl x2), some (.inl x3), some (.inl v1), none]) rfl rfl rfl rfl ?_
  refine js_aload (pc1 := 9) rfl rfl rfl ?_
  refine js_iload (pc1 := 10) rfl rfl rfl ?_
  refine js_cP (pc1 := 13) (as := [(.inr (.inr (some 102))), (.inl x3)]) (S0 := []) (m := 3) (L0 := [some (.inr (.inr (some 102))), some (.inl x3), none]) rfl rfl rfl rfl rfl rfl rfl rfl (zrc_o rfl rfl) (by omega) (by omega) (z_Na_leastWith_ok N (by omega) (by omega) x3 hx3 A) (fun v2 _ hv2 => ?_)
  refine js_istore (pc1 := 15) (L1 := [some (.inr (.inr (some 102))), some (.inr (.inr (some x1))), some (.inl x2), some (.inl x3), some (.inl v1), some (.inl v2)]) rfl rfl rfl rfl ?_
  refine js_aload (pc1 := 16) rfl rfl rfl ?_
  refine js_gfr (pc1 := 19) (j := 1) (r := 106) rfl rfl rfl rfl rfl ?_
  refine js_iload (pc1 := 21) rfl rfl rfl ?_
  refine js_iload (pc1 := 22) rfl rfl rfl ?_
  refine jt_ias (pc1 := 23) rfl rfl rfl rfl (fun A3 => ?_)
  refine js_iload (pc1 := 25) rfl rfl rfl ?_
  refine ju_ge (pc1 := 28) (t1 := 30) hv2 rfl rfl rfl (fun c4 => ?_) (fun c4 => ?_)
  · refine js_iconst (pc1 := 29) rfl rfl ?_
    exact je_I rfl (zfit3 rfl (Or.inl rfl)) rfl (zlit rfl)
  · refine js_aload (pc1 := 31) rfl rfl rfl ?_
    refine js_iload (pc1 := 32) rfl rfl rfl ?_
    refine js_iload (pc1 := 34) rfl rfl rfl ?_
    refine js_iload (pc1 := 36) rfl rfl rfl ?_
    refine js_cV (pc1 := 39) (as := [(.inr (.inr (some x1))), (.inl x2), (.inl v1), (.inl v2)]) (S0 := []) (m := 4) (L0 := [some (.inr (.inr (some x1))), some (.inl x2), some (.inl v1), some (.inl v2)]) rfl rfl rfl rfl rfl rfl rfl rfl (zrc_o rfl hx1) (by omega) (by omega) (z_Pt_becomeMove_ok N (by omega) (by omega) x1 hx1 x2 hx2 v1 hv1 v2 hv2 A3) (fun A5 _ => ?_)
    refine js_iconst (pc1 := 40) rfl rfl ?_
    exact je_I rfl (zfit3 rfl (Or.inr rfl)) rfl (zlit rfl)
theorem z_Na_goOver_ok{d w : Nat} (N : Nat) (hd : 5 ≤ d) (hw : 158 ≤ w) (x1 : Nat) (hx1 : zsh x1 = some (false, 3, 4)) (x2 : Int) (hx2 : zrg x2) (A : zA) : zG (z_Na_goOver N x1 x2 A) zPI d w 169 0 [some (.inr (.inr (some 102))), some (.inr (.inr (some x1))), some (.inl x2), none, none, none] [] A := by
  unfold z_Na_goOver
  refine js_aload (pc1 := 1) rfl rfl rfl ?_
  refine js_iload (pc1 := 2) rfl rfl rfl ?_
  refine js_iconst (pc1 := 3) rfl rfl ?_
  refine js_cP (pc1 := 6) (as := [(.inr (.inr (some x1))), (.inl x2), (.inl 0)]) (S0 := []) (m := 5) (L0 := [some (.inr (.inr (some x1))), some (.inl x2), some (.inl 0), none, none]) rfl rfl rfl rfl rfl rfl rfl rfl (zrc_o rfl hx1) (by omega) (by omega) (z_Pt_register_ok N (by omega) (by omega) x1 hx1 x2 hx2 0 (zlit rfl) A) (fun v1 _ hv1 => ?_)
  refine js_istore (pc1 := 7) (L1 := [some (.inr (.inr (some 102))), some (.inr (.inr (some x1))), some (.inl x2), some (.inl v1), none, none]) rfl rfl rfl rfl ?_
  refine js_aload (pc1 := 8) rfl rfl rfl ?_
  refine js_gfr (pc1 := 11) (j := 1) (r := 106) rfl rfl rfl rfl rfl ?_
  refine js_aload (pc1 := 12) rfl rfl rfl ?_
  refine js_iload (pc1 := 13) rfl rfl rfl ?_
  refine js_iconst (pc1 := 14) rfl rfl ?_
  refine js_cP (pc1 := 17) (as := [(.inr (.inr (some x1))), (.inl x2), (.inl 1)]) (S0 := [(.inr (.inr (some 106)))]) (m := 5) (L0 := [some (.inr (.inr (some x1))), some (.inl x2), some (.inl 1), none, none]) rfl rfl rfl rfl rfl rfl rfl rfl (zrc_o rfl hx1) (by omega) (by omega) (z_Pt_register_ok N (by omega) (by omega) x1 hx1 x2 hx2 1 (zlit rfl) A) (fun v2 _ hv2 => ?_)
  refine jt_ald (pc1 := 18) rfl rfl rfl rfl rfl (fun v3 hv3 => ?_)
  refine js_istore (pc1 := 20) (L1 := [some (.inr (.inr (some 102))), some (.inr (.inr (some x1))), some (.inl x2), some (.inl v1), some (.inl v3), none]) rfl rfl rfl rfl ?_
  refine js_aload (pc1 := 21) rfl rfl rfl ?_
  refine js_iload (pc1 := 22) rfl rfl rfl ?_
  refine js_cP (pc1 := 25) (as := [(.inr (.inr (some x1))), (.inl x2)]) (S0 := []) (m := 2) (L0 := [some (.inr (.inr (some x1))), some (.inl x2)]) rfl rfl rfl rfl rfl rfl rfl rfl (zrc_o rfl hx1) (by omega) (by omega) (z_Pt_kind_ok N (by omega) (by omega) x1 hx1 x2 hx2 A) (fun v4 _ hv4 => ?_)
  refine zG_ite (fun c9 => ?_) (fun c9 => ?_)
  · refine js_tsw (t1 := 68) rfl c9 (zlit rfl) (by decide) ?_
    refine js_aload (pc1 := 69) rfl rfl rfl ?_
    refine js_gfr (pc1 := 72) (j := 1) (r := 106) rfl rfl rfl rfl rfl ?_
    refine js_iload (pc1 := 73) rfl rfl rfl ?_
    refine js_aload (pc1 := 74) rfl rfl rfl ?_
    refine js_gfr (pc1 := 77) (j := 0) (r := 103) rfl rfl rfl rfl rfl ?_
    refine js_iconst (pc1 := 78) rfl rfl ?_
    refine js_aload (pc1 := 79) rfl rfl rfl ?_
    refine js_iload (pc1 := 80) rfl rfl rfl ?_
    refine js_iconst (pc1 := 81) rfl rfl ?_
    refine js_cP (pc1 := 84) (as := [(.inr (.inr (some x1))), (.inl x2), (.inl 1)]) (S0 := [(.inl 0), (.inr (.inr (some 103))), (.inl v1), (.inr (.inr (some 106)))]) (m := 4) (L0 := [some (.inr (.inr (some x1))), some (.inl x2), some (.inl 1), none]) rfl rfl rfl rfl rfl rfl rfl rfl (zrc_o rfl hx1) (by omega) (by omega) (z_Pt_number_ok N (by omega) (by omega) x1 hx1 x2 hx2 1 (zlit rfl) A) (fun v5 _ hv5 => ?_)
    refine js_iconst (pc1 := 85) rfl rfl ?_
    refine js_iconst (pc1 := 86) rfl rfl ?_
    refine js_cI (pc1 := 89) (as := [(.inr (.inr (some 103))), (.inl 0), (.inl v5), (.inl 0), (.inl 0)]) (S0 := [(.inl v1), (.inr (.inr (some 106)))]) (m := 8) (L0 := [some (.inr (.inr (some 103))), some (.inl 0), some (.inl v5), some (.inl 0), some (.inl 0), none, none, none]) rfl rfl rfl rfl rfl rfl rfl rfl (zrc_o rfl rfl) (by omega) (by omega) (z_Th_make_ok N (by omega) (by omega) 103 rfl 0 (zlit rfl) v5 hv5 0 (zlit rfl) 0 (zlit rfl) A) (fun v6 A7 _ hv6 => ?_)
    refine jt_ias (pc1 := 90) rfl rfl rfl rfl (fun A8 => ?_)
    refine js_iconst (pc1 := 91) rfl rfl ?_
    exact je_I rfl (zfit3 rfl (Or.inl rfl)) rfl (zlit rfl)
  refine zG_ite (fun c11 => ?_) (fun c11 => ?_)
  · refine js_tsw (t1 := 92) rfl c11 (zlit rfl) (by decide) ?_
    refine js_aload (pc1 := 93) rfl rfl rfl ?_
    refine js_gfr (pc1 := 96) (j := 1) (r := 106) rfl rfl rfl rfl rfl ?_
    refine js_iload (pc1 := 97) rfl rfl rfl ?_
    refine js_iload (pc1 := 99) rfl rfl rfl ?_
    refine jt_ias (pc1 := 100) rfl rfl rfl rfl (fun A10 => ?_)
    refine js_iconst (pc1 := 101) rfl rfl ?_
    exact je_I rfl (zfit3 rfl (Or.inl rfl)) rfl (zlit rfl)
  refine zG_ite (fun c19 => ?_) (fun c19 => ?_)
  · refine js_tsw (t1 := 102) rfl c19 (zlit rfl) (by decide) ?_
    refine js_aload (pc1 := 103) rfl rfl rfl ?_
    refine js_gfr (pc1 := 106) (j := 1) (r := 106) rfl rfl rfl rfl rfl ?_
    refine js_aload (pc1 := 107) rfl rfl rfl ?_
    refine js_iload (pc1 := 108) rfl rfl rfl ?_
    refine js_iconst (pc1 := 109) rfl rfl ?_
    refine js_cP (pc1 := 112) (as := [(.inr (.inr (some x1))), (.inl x2), (.inl 2)]) (S0 := [(.inr (.inr (some 106)))]) (m := 5) (L0 := [some (.inr (.inr (some x1))), some (.inl x2), some (.inl 2), none, none]) rfl rfl rfl rfl rfl rfl rfl rfl (zrc_o rfl hx1) (by omega) (by omega) (z_Pt_register_ok N (by omega) (by omega) x1 hx1 x2 hx2 2 (zlit rfl) A) (fun v12 _ hv12 => ?_)
    refine jt_ald (pc1 := 113) rfl rfl rfl rfl rfl (fun v13 hv13 => ?_)
    refine js_istore (pc1 := 115) (L1 := [some (.inr (.inr (some 102))), some (.inr (.inr (some x1))), some (.inl x2), some (.inl v1), some (.inl v3), some (.inl v13)]) rfl rfl rfl rfl ?_
    refine js_aload (pc1 := 116) rfl rfl rfl ?_
    refine js_aload (pc1 := 117) rfl rfl rfl ?_
    refine js_iload (pc1 := 118) rfl rfl rfl ?_
    refine js_aload (pc1 := 119) rfl rfl rfl ?_
    refine js_gfr (pc1 := 122) (j := 0) (r := 103) rfl rfl rfl rfl rfl ?_
    refine js_iconst (pc1 := 123) rfl rfl ?_
    refine js_aload (pc1 := 124) rfl rfl rfl ?_
    refine js_iload (pc1 := 125) rfl rfl rfl ?_
    refine js_iconst (pc1 := 126) rfl rfl ?_
    refine js_cP (pc1 := 129) (as := [(.inr (.inr (some x1))), (.inl x2), (.inl 3)]) (S0 := [(.inl 1), (.inr (.inr (some 103))), (.inl x2), (.inr (.inr (some x1))), (.inr (.inr (some 102)))]) (m := 4) (L0 := [some (.inr (.inr (some x1))), some (.inl x2), some (.inl 3), none]) rfl rfl rfl rfl rfl rfl rfl rfl (zrc_o rfl hx1) (by omega) (by omega) (z_Pt_number_ok N (by omega) (by omega) x1 hx1 x2 hx2 3 (zlit rfl) A) (fun v14 _ hv14 => ?_)
    refine js_iload (pc1 := 131) rfl rfl rfl ?_
    refine js_iload (pc1 := 133) rfl rfl rfl ?_
    refine js_cI (pc1 := 136) (as := [(.inr (.inr (some 103))), (.inl 1), (.inl v14), (.inl v3), (.inl v13)]) (S0 := [(.inl x2), (.inr (.inr (some x1))), (.inr (.inr (some 102)))]) (m := 8) (L0 := [some (.inr (.inr (some 103))), some (.inl 1), some (.inl v14), some (.inl v3), some (.inl v13), none, none, none]) rfl rfl rfl rfl rfl rfl rfl rfl (zrc_o rfl rfl) (by omega) (by omega) (z_Th_make_ok N (by omega) (by omega) 103 rfl 1 (zlit rfl) v14 hv14 v3 hv3 v13 hv13 A) (fun v15 A16 _ hv15 => ?_)
    refine js_cI (pc1 := 139) (as := [(.inr (.inr (some 102))), (.inr (.inr (some x1))), (.inl x2), (.inl v15)]) (S0 := []) (m := 6) (L0 := [some (.inr (.inr (some 102))), some (.inr (.inr (some x1))), some (.inl x2), some (.inl v15), none, none]) rfl rfl rfl rfl rfl rfl rfl rfl (zrc_o rfl rfl) (by omega) (by omega) (z_Na_becomesMove_ok N (by omega) (by omega) x1 hx1 x2 hx2 v15 hv15 A16) (fun v17 A18 _ hv17 => ?_)
    exact zG_ite (fun h => je_I rfl (zfit3 rfl h) rfl hv17) (fun _ => zG_none)
  refine zG_ite (fun c24 => ?_) (fun c24 => ?_)
  · refine js_tsw (t1 := 140) rfl c24 (zlit rfl) (by decide) ?_
    refine js_aload (pc1 := 141) rfl rfl rfl ?_
    refine js_aload (pc1 := 142) rfl rfl rfl ?_
    refine js_iload (pc1 := 143) rfl rfl rfl ?_
    refine js_aload (pc1 := 144) rfl rfl rfl ?_
    refine js_gfr (pc1 := 147) (j := 0) (r := 103) rfl rfl rfl rfl rfl ?_
    refine js_iconst (pc1 := 148) rfl rfl ?_
    refine js_iload (pc1 := 150) rfl rfl rfl ?_
    refine js_aload (pc1 := 151) rfl rfl rfl ?_
    refine js_gi (pc1 := 154) (j := 3) rfl rfl rfl rfl ?_
    refine js_iconst (pc1 := 155) rfl rfl ?_
    refine js_cI (pc1 := 158) (as := [(.inr (.inr (some 103))), (.inl 2), (.inl v3), (.inl (zi A 102 3)), (.inl 0)]) (S0 := [(.inl x2), (.inr (.inr (some x1))), (.inr (.inr (some 102)))]) (m := 8) (L0 := [some (.inr (.inr (some 103))), some (.inl 2), some (.inl v3), some (.inl (zi A 102 3)), some (.inl 0), none, none, none]) rfl rfl rfl rfl rfl rfl rfl rfl (zrc_o rfl rfl) (by omega) (by omega) (z_Th_make_ok N (by omega) (by omega) 103 rfl 2 (zlit rfl) v3 hv3 (zi A 102 3) (zi_rg _ _ _) 0 (zlit rfl) A) (fun v20 A21 _ hv20 => ?_)
    refine js_cI (pc1 := 161) (as := [(.inr (.inr (some 102))), (.inr (.inr (some x1))), (.inl x2), (.inl v20)]) (S0 := []) (m := 6) (L0 := [some (.inr (.inr (some 102))), some (.inr (.inr (some x1))), some (.inl x2), some (.inl v20), none, none]) rfl rfl rfl rfl rfl rfl rfl rfl (zrc_o rfl rfl) (by omega) (by omega) (z_Na_becomesMove_ok N (by omega) (by omega) x1 hx1 x2 hx2 v20 hv20 A21) (fun v22 A23 _ hv22 => ?_)
    exact zG_ite (fun h => je_I rfl (zfit3 rfl h) rfl hv22) (fun _ => zG_none)
  refine zG_ite (fun c26 => ?_) (fun c26 => ?_)
  · refine js_tsw (t1 := 162) rfl c26 (zlit rfl) (by decide) ?_
    refine js_aload (pc1 := 163) rfl rfl rfl ?_
    refine js_dupR (pc1 := 164) rfl rfl ?_
    refine js_gi (pc1 := 167) (j := 3) rfl rfl rfl rfl ?_
    refine js_iconst (pc1 := 168) rfl rfl ?_
    refine js_iadd (pc1 := 169) rfl rfl ?_
    refine jt_pi (pc1 := 172) (j := 3) rfl rfl rfl rfl rfl (fun A25 => ?_)
    refine js_iconst (pc1 := 173) rfl rfl ?_
    exact je_I rfl (zfit3 rfl (Or.inl rfl)) rfl (zlit rfl)
  refine zG_ite (fun c31 => ?_) (fun c31 => ?_)
  · refine js_tsw (t1 := 174) rfl c31 (zlit rfl) (by decide) ?_
    refine js_aload (pc1 := 175) rfl rfl rfl ?_
    refine js_gfr (pc1 := 178) (j := 1) (r := 106) rfl rfl rfl rfl rfl ?_
    refine js_iload (pc1 := 179) rfl rfl rfl ?_
    refine js_aload (pc1 := 180) rfl rfl rfl ?_
    refine js_gfr (pc1 := 183) (j := 0) (r := 103) rfl rfl rfl rfl rfl ?_
    refine js_iconst (pc1 := 184) rfl rfl ?_
    refine js_aload (pc1 := 185) rfl rfl rfl ?_
    refine js_gi (pc1 := 188) (j := 4) rfl rfl rfl rfl ?_
    refine js_iconst (pc1 := 189) rfl rfl ?_
    refine js_iconst (pc1 := 190) rfl rfl ?_
    refine js_cI (pc1 := 193) (as := [(.inr (.inr (some 103))), (.inl 5), (.inl (zi A 102 4)), (.inl 0), (.inl 0)]) (S0 := [(.inl v1), (.inr (.inr (some 106)))]) (m := 8) (L0 := [some (.inr (.inr (some 103))), some (.inl 5), some (.inl (zi A 102 4)), some (.inl 0), some (.inl 0), none, none, none]) rfl rfl rfl rfl rfl rfl rfl rfl (zrc_o rfl rfl) (by omega) (by omega) (z_Th_make_ok N (by omega) (by omega) 103 rfl 5 (zlit rfl) (zi A 102 4) (zi_rg _ _ _) 0 (zlit rfl) 0 (zlit rfl) A) (fun v27 A28 _ hv27 => ?_)
    refine jt_ias (pc1 := 194) rfl rfl rfl rfl (fun A29 => ?_)
    refine js_aload (pc1 := 195) rfl rfl rfl ?_
    refine js_dupR (pc1 := 196) rfl rfl ?_
    refine js_gi (pc1 := 199) (j := 4) rfl rfl rfl rfl ?_
    refine js_iconst (pc1 := 200) rfl rfl ?_
    refine js_iadd (pc1 := 201) rfl rfl ?_
    refine jt_pi (pc1 := 204) (j := 4) rfl rfl rfl rfl rfl (fun A30 => ?_)
    refine js_iconst (pc1 := 205) rfl rfl ?_
    exact je_I rfl (zfit3 rfl (Or.inl rfl)) rfl (zlit rfl)
  refine zG_ite (fun c32 => ?_) (fun c32 => ?_)
  · refine js_tsw (t1 := 206) rfl c32 (zlit rfl) (by decide) ?_
    refine js_iconst (pc1 := 207) rfl rfl ?_
    exact je_I rfl (zfit3 rfl (Or.inl rfl)) rfl (zlit rfl)
  refine js_tswd (t1 := 208) rfl hv4 (by omega) rfl ?_
  refine js_aload (pc1 := 209) rfl rfl rfl ?_
  refine js_cV (pc1 := 212) (as := [(.inr (.inr (some 102)))]) (S0 := []) (m := 2) (L0 := [some (.inr (.inr (some 102))), none]) rfl rfl rfl rfl rfl rfl rfl rfl (zrc_o rfl rfl) (by omega) (by omega) (z_Na_beginAnew_ok N (by omega) (by omega) A) (fun A33 _ => ?_)
  refine js_iconst (pc1 := 213) rfl rfl ?_
  exact je_I rfl (zfit3 rfl (Or.inl rfl)) rfl (zlit rfl)
