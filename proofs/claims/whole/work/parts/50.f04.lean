theorem z_M_copyPart_43_lok{d w : Nat} (N : Nat) (hd : 1 ≤ d) (hw : 23 ≤ w) (n : Nat) : ∀ (x1 : Int) (hx1 : zrg x1) (x2 : Int) (hx2 : zrg x2) (x3 : Int) (hx3 : zrg x3) (x4 : Int) (hx4 : zrg x4) (A : zA), zG (z_M_copyPart_43_l N n x1 x2 x3 x4 A) zPV d w 84 43 [some (.inr (.inr (some 226))), some (.inl x1), some (.inl x2), some (.inl x3), some (.inl x4)] [] A := by
  induction n with
  | zero => intros; exact zG_none
  | succ n ih =>
    intro x1 hx1 x2 hx2 x3 hx3 x4 hx4 A
    exact z_M_copyPart_43_bok ih N hd hw x1 hx1 x2 hx2 x3 hx3 x4 hx4 A
theorem z_M_copyPart_43_ok{d w : Nat} (N : Nat) (hd : 1 ≤ d) (hw : 23 ≤ w) (x1 : Int) (hx1 : zrg x1) (x2 : Int) (hx2 : zrg x2) (x3 : Int) (hx3 : zrg x3) (x4 : Int) (hx4 : zrg x4) (A : zA) : zG (z_M_copyPart_43 N x1 x2 x3 x4 A) zPV d w 84 43 [some (.inr (.inr (some 226))), some (.inl x1), some (.inl x2), some (.inl x3), some (.inl x4)] [] A := z_M_copyPart_43_lok N hd hw N x1 hx1 x2 hx2 x3 hx3 x4 hx4 A
theorem z_M_copyPart_ok{d w : Nat} (N : Nat) (hd : 1 ≤ d) (hw : 23 ≤ w) (x1 : Int) (hx1 : zrg x1) (x2 : Int) (hx2 : zrg x2) (x3 : Int) (hx3 : zrg x3) (A : zA) : zG (z_M_copyPart N x1 x2 x3 A) zPV d w 84 0 [some (.inr (.inr (some 226))), some (.inl x1), some (.inl x2), some (.inl x3), none] [] A := by
  unfold z_M_copyPart
  refine js_aload (pc1 := 1) rfl rfl rfl ?_
  refine js_gfr (pc1 := 4) (j := 4) (r := 229) rfl rfl rfl rfl rfl ?_
  refine js_iload (pc1 := 5) rfl rfl rfl ?_
  refine js_iload (pc1 := 6) rfl rfl rfl ?_
  refine js_cP (pc1 := 9) (as := [(.inl x2), (.inl x3)]) (S0 := [(.inr (.inr (some 229)))]) (m := 2) (L0 := [some (.inl x2), some (.inl x3)]) rfl rfl rfl rfl rfl rfl rfl rfl (zrc_s rfl) (by omega) (by omega) (z_M_row_ok N (by omega) (by omega) x2 hx2 x3 hx3 A) (fun v1 _ hv1 => ?_)
  refine js_aload (pc1 := 10) rfl rfl rfl ?_
  refine js_gfr (pc1 := 13) (j := 4) (r := 229) rfl rfl rfl rfl rfl ?_
  refine js_iload (pc1 := 14) rfl rfl rfl ?_
  refine js_iload (pc1 := 15) rfl rfl rfl ?_
  refine js_cP (pc1 := 18) (as := [(.inl x1), (.inl x3)]) (S0 := [(.inr (.inr (some 229))), (.inl v1), (.inr (.inr (some 229)))]) (m := 2) (L0 := [some (.inl x1), some (.inl x3)]) rfl rfl rfl rfl rfl rfl rfl rfl (zrc_s rfl) (by omega) (by omega) (z_M_row_ok N (by omega) (by omega) x1 hx1 x3 hx3 A) (fun v2 _ hv2 => ?_)
  refine jt_ald (pc1 := 19) rfl rfl rfl rfl rfl (fun v3 hv3 => ?_)
  refine jt_ias (pc1 := 20) rfl rfl rfl rfl (fun A4 => ?_)
  refine js_aload (pc1 := 21) rfl rfl rfl ?_
  refine js_gfr (pc1 := 24) (j := 5) (r := 230) rfl rfl rfl rfl rfl ?_
  refine js_iload (pc1 := 25) rfl rfl rfl ?_
  refine js_iload (pc1 := 26) rfl rfl rfl ?_
  refine js_cP (pc1 := 29) (as := [(.inl x2), (.inl x3)]) (S0 := [(.inr (.inr (some 230)))]) (m := 2) (L0 := [some (.inl x2), some (.inl x3)]) rfl rfl rfl rfl rfl rfl rfl rfl (zrc_s rfl) (by omega) (by omega) (z_M_row_ok N (by omega) (by omega) x2 hx2 x3 hx3 A4) (fun v5 _ hv5 => ?_)
  refine js_aload (pc1 := 30) rfl rfl rfl ?_
  refine js_gfr (pc1 := 33) (j := 5) (r := 230) rfl rfl rfl rfl rfl ?_
  refine js_iload (pc1 := 34) rfl rfl rfl ?_
  refine js_iload (pc1 := 35) rfl rfl rfl ?_
  refine js_cP (pc1 := 38) (as := [(.inl x1), (.inl x3)]) (S0 := [(.inr (.inr (some 230))), (.inl v5), (.inr (.inr (some 230)))]) (m := 2) (L0 := [some (.inl x1), some (.inl x3)]) rfl rfl rfl rfl rfl rfl rfl rfl (zrc_s rfl) (by omega) (by omega) (z_M_row_ok N (by omega) (by omega) x1 hx1 x3 hx3 A4) (fun v6 _ hv6 => ?_)
  refine jt_ald (pc1 := 39) rfl rfl rfl rfl rfl (fun v7 hv7 => ?_)
  refine jt_ias (pc1 := 40) rfl rfl rfl rfl (fun A8 => ?_)
  refine js_iconst (pc1 := 41) rfl rfl ?_
  refine js_istore (pc1 := 43) (L1 := [some (.inr (.inr (some 226))), some (.inl x1), some (.inl x2), some (.inl x3), some (.inl 0)]) rfl rfl rfl rfl ?_
  exact z_M_copyPart_43_ok N hd hw x1 hx1 x2 hx2 x3 hx3 0 (zlit rfl) A8
theorem z_M_copyState_2_bok{d w : Nat} {r2 : Int → Int → Int → zA → Option zA} (hr2 : ∀ (x1 : Int) (hx1 : zrg x1) (x2 : Int) (hx2 : zrg x2) (x3 : Int) (hx3 : zrg x3) (A : zA), zG (r2 x1 x2 x3 A) zPV d w 48 2 [some (.inr (.inr (some 226))), some (.inl x1), some (.inl x2), some (.inl x3)] [] A) (N : Nat) (hd : 2 ≤ d) (hw : 47 ≤ w) (x1 : Int) (hx1 : zrg x1) (x2 : Int) (hx2 : zrg x2) (x3 : Int) (hx3 : zrg x3) (A : zA) : zG (z_M_copyState_2_b r2 N x1 x2 x3 A) zPV d w 48 2 [some (.inr (.inr (some 226))), some (.inl x1), some (.inl x2), some (.inl x3)] [] A := by
  unfold z_M_copyState_2_b
  refine js_iload (pc1 := 3) rfl rfl rfl ?_
  refine js_iconst (pc1 := 4) rfl rfl ?_
  refine jt_ge (pc1 := 7) (t1 := 20) hx3 (zlit rfl) rfl rfl rfl (fun c1 => ?_) (fun c1 => ?_)
  · refine js_aload (pc1 := 8) rfl rfl rfl ?_
    refine js_iload (pc1 := 9) rfl rfl rfl ?_
    refine js_iload (pc1 := 10) rfl rfl rfl ?_
    refine js_iload (pc1 := 11) rfl rfl rfl ?_
    refine js_cV (pc1 := 14) (as := [(.inr (.inr (some 226))), (.inl x1), (.inl x2), (.inl x3)]) (S0 := []) (m := 5) (L0 := [some (.inr (.inr (some 226))), some (.inl x1), some (.inl x2), some (.inl x3), none]) rfl rfl rfl rfl rfl rfl rfl rfl (zrc_o rfl rfl) (by omega) (by omega) (z_M_copyPart_ok N (by omega) (by omega) x1 hx1 x2 hx2 x3 hx3 A) (fun A2 _ => ?_)
    refine js_iinc (pc1 := 17) (L1 := [some (.inr (.inr (some 226))), some (.inl x1), some (.inl x2), some (.inl (x3 + 1))]) rfl rfl rfl rfl ?_
    refine js_goto (t1 := 2) rfl rfl ?_
    exact zG_to (L := [some (.inr (.inr (some 226))), some (.inl x1), some (.inl x2), some (.inl (zw (x3 + 1)))]) (S := []) ⟨rfl, ⟨rfl, ⟨rfl, ⟨zval_w (x3 + 1), trivial⟩⟩⟩⟩ (rfl) (hr2 x1 hx1 x2 hx2 (zw (x3 + 1)) (zw_rg (x3 + 1)) A2)
  · exact je_V rfl
theorem z_M_copyState_2_lok{d w : Nat} (N : Nat) (hd : 2 ≤ d) (hw : 47 ≤ w) (n : Nat) : ∀ (x1 : Int) (hx1 : zrg x1) (x2 : Int) (hx2 : zrg x2) (x3 : Int) (hx3 : zrg x3) (A : zA), zG (z_M_copyState_2_l N n x1 x2 x3 A) zPV d w 48 2 [some (.inr (.inr (some 226))), some (.inl x1), some (.inl x2), some (.inl x3)] [] A := by
  induction n with
  | zero => intros; exact zG_none
  | succ n ih =>
    intro x1 hx1 x2 hx2 x3 hx3 A
    exact z_M_copyState_2_bok ih N hd hw x1 hx1 x2 hx2 x3 hx3 A
theorem z_M_copyState_2_ok{d w : Nat} (N : Nat) (hd : 2 ≤ d) (hw : 47 ≤ w) (x1 : Int) (hx1 : zrg x1) (x2 : Int) (hx2 : zrg x2) (x3 : Int) (hx3 : zrg x3) (A : zA) : zG (z_M_copyState_2 N x1 x2 x3 A) zPV d w 48 2 [some (.inr (.inr (some 226))), some (.inl x1), some (.inl x2), some (.inl x3)] [] A := z_M_copyState_2_lok N hd hw N x1 hx1 x2 hx2 x3 hx3 A
theorem z_M_copyState_ok{d w : Nat} (N : Nat) (hd : 2 ≤ d) (hw : 47 ≤ w) (x1 : Int) (hx1 : zrg x1) (x2 : Int) (hx2 : zrg x2) (A : zA) : zG (z_M_copyState N x1 x2 A) zPV d w 48 0 [some (.inr (.inr (some 226))), some (.inl x1), some (.inl x2), none] [] A := by
  unfold z_M_copyState
  refine js_iconst (pc1 := 1) rfl rfl ?_
  refine js_istore (pc1 := 2) (L1 := [some (.inr (.inr (some 226))), some (.inl x1), some (.inl x2), some (.inl 0)]) rfl rfl rfl rfl ?_
  exact z_M_copyState_2_ok N hd hw x1 hx1 x2 hx2 0 (zlit rfl) A
theorem z_M_compile_95_ok{d w : Nat} {r31 : Int → Int → zA → Option (Int × zA)} (hr31 : ∀ (x1 : Int) (hx1 : zrg x1) (x2 : Int) (hx2 : zrg x2) (A : zA), zG (r31 x1 x2 A) zPI d w 6 31 [some (.inr (.inr (some 226))), some (.inl x1), some (.inl x2)] [] A) (N : Nat) (hd : 9 ≤ d) (hw : 206 ≤ w) (x1 : Int) (hx1 : zrg x1) (x2 : Int) (hx2 : zrg x2) (s1 : Int) (hs1 : zrg s1) (s2 : Int) (hs2 : zrg s2) (A : zA) : zG (z_M_compile_95 r31 N x1 x2 s1 s2 A) zPI d w 6 95 [some (.inr (.inr (some 226))), some (.inl x1), some (.inl x2)] [(.inl s2), (.inl s1), (.inr (.inr (some 238)))] A := by
  unfold z_M_compile_95
  refine jt_ias (pc1 := 96) rfl rfl rfl rfl (fun A1 => ?_)
  refine js_iload (pc1 := 97) rfl rfl rfl ?_
  refine ju_eq (pc1 := 100) (t1 := 141) hx1 rfl rfl rfl (fun c2 => ?_) (fun c2 => ?_)
  · refine js_iconst (pc1 := 142) rfl rfl ?_
    refine js_istore (pc1 := 143) (L1 := [some (.inr (.inr (some 226))), some (.inl 0), some (.inl x2)]) rfl rfl rfl rfl ?_
    refine js_iinc (pc1 := 146) (L1 := [some (.inr (.inr (some 226))), some (.inl 0), some (.inl (x2 + 1))]) rfl rfl rfl rfl ?_
    refine js_goto (t1 := 31) rfl rfl ?_
    exact zG_to (L := [some (.inr (.inr (some 226))), some (.inl 0), some (.inl (zw (x2 + 1)))]) (S := []) ⟨rfl, ⟨rfl, ⟨zval_w (x2 + 1), trivial⟩⟩⟩ (rfl) (hr31 0 (zlit rfl) (zw (x2 + 1)) (zw_rg (x2 + 1)) A1)
  · refine js_aload (pc1 := 101) rfl rfl rfl ?_
    refine js_gfr (pc1 := 104) (j := 25) (r := 238) rfl rfl rfl rfl rfl ?_
    refine js_iload (pc1 := 105) rfl rfl rfl ?_
    refine jt_ald (pc1 := 106) rfl rfl rfl rfl rfl (fun v3 hv3 => ?_)
    refine js_iconst (pc1 := 107) rfl rfl ?_
    refine jt_gt (pc1 := 110) (t1 := 141) hv3 (zlit rfl) rfl rfl rfl (fun c4 => ?_) (fun c4 => ?_)
    · refine js_iconst (pc1 := 142) rfl rfl ?_
      refine js_istore (pc1 := 143) (L1 := [some (.inr (.inr (some 226))), some (.inl 0), some (.inl x2)]) rfl rfl rfl rfl ?_
      refine js_iinc (pc1 := 146) (L1 := [some (.inr (.inr (some 226))), some (.inl 0), some (.inl (x2 + 1))]) rfl rfl rfl rfl ?_
      refine js_goto (t1 := 31) rfl rfl ?_
      exact zG_to (L := [some (.inr (.inr (some 226))), some (.inl 0), some (.inl (zw (x2 + 1)))]) (S := []) ⟨rfl, ⟨rfl, ⟨zval_w (x2 + 1), trivial⟩⟩⟩ (rfl) (hr31 0 (zlit rfl) (zw (x2 + 1)) (zw_rg (x2 + 1)) A1)
    · refine js_aload (pc1 := 111) rfl rfl rfl ?_
      refine js_gfr (pc1 := 114) (j := 24) (r := 237) rfl rfl rfl rfl rfl ?_
      refine js_iload (pc1 := 115) rfl rfl rfl ?_
      refine jt_ald (pc1 := 116) rfl rfl rfl rfl rfl (fun v5 hv5 => ?_)
      refine js_iconst (pc1 := 119) rfl rfl ?_
      refine jt_gt (pc1 := 122) (t1 := 141) hv5 (zlit rfl) rfl rfl rfl (fun c6 => ?_) (fun c6 => ?_)
      · refine js_iconst (pc1 := 142) rfl rfl ?_
        refine js_istore (pc1 := 143) (L1 := [some (.inr (.inr (some 226))), some (.inl 0), some (.inl x2)]) rfl rfl rfl rfl ?_
        refine js_iinc (pc1 := 146) (L1 := [some (.inr (.inr (some 226))), some (.inl 0), some (.inl (x2 + 1))]) rfl rfl rfl rfl ?_
        refine js_goto (t1 := 31) rfl rfl ?_
        exact zG_to (L := [some (.inr (.inr (some 226))), some (.inl 0), some (.inl (zw (x2 + 1)))]) (S := []) ⟨rfl, ⟨rfl, ⟨zval_w (x2 + 1), trivial⟩⟩⟩ (rfl) (hr31 0 (zlit rfl) (zw (x2 + 1)) (zw_rg (x2 + 1)) A1)
      · refine js_aload (pc1 := 123) rfl rfl rfl ?_
        refine js_gfr (pc1 := 126) (j := 5) (r := 230) rfl rfl rfl rfl rfl ?_
        refine js_iconst (pc1 := 127) rfl rfl ?_
        refine js_iload (pc1 := 128) rfl rfl rfl ?_
        refine js_cP (pc1 := 131) (as := [(.inl 1), (.inl x2)]) (S0 := [(.inr (.inr (some 230)))]) (m := 2) (L0 := [some (.inl 1), some (.inl x2)]) rfl rfl rfl rfl rfl rfl rfl rfl (zrc_s rfl) (by omega) (by omega) (z_M_row_ok N (by omega) (by omega) 1 (zlit rfl) x2 hx2 A1) (fun v7 _ hv7 => ?_)
        refine jt_ald (pc1 := 132) rfl rfl rfl rfl rfl (fun v8 hv8 => ?_)
        refine js_iconst (pc1 := 134) rfl rfl ?_
        refine jt_gt (pc1 := 137) (t1 := 141) hv8 (zlit rfl) rfl rfl rfl (fun c9 => ?_) (fun c9 => ?_)
        · refine js_iconst (pc1 := 142) rfl rfl ?_
          refine js_istore (pc1 := 143) (L1 := [some (.inr (.inr (some 226))), some (.inl 0), some (.inl x2)]) rfl rfl rfl rfl ?_
          refine js_iinc (pc1 := 146) (L1 := [some (.inr (.inr (some 226))), some (.inl 0), some (.inl (x2 + 1))]) rfl rfl rfl rfl ?_
          refine js_goto (t1 := 31) rfl rfl ?_
          exact zG_to (L := [some (.inr (.inr (some 226))), some (.inl 0), some (.inl (zw (x2 + 1)))]) (S := []) ⟨rfl, ⟨rfl, ⟨zval_w (x2 + 1), trivial⟩⟩⟩ (rfl) (hr31 0 (zlit rfl) (zw (x2 + 1)) (zw_rg (x2 + 1)) A1)
        · refine js_iconst (pc1 := 138) rfl rfl ?_
          refine js_goto (t1 := 142) rfl rfl ?_
          refine js_istore (pc1 := 143) (L1 := [some (.inr (.inr (some 226))), some (.inl 1), some (.inl x2)]) rfl rfl rfl rfl ?_
          refine js_iinc (pc1 := 146) (L1 := [some (.inr (.inr (some 226))), some (.inl 1), some (.inl (x2 + 1))]) rfl rfl rfl rfl ?_
          refine js_goto (t1 := 31) rfl rfl ?_
          exact zG_to (L := [some (.inr (.inr (some 226))), some (.inl 1), some (.inl (zw (x2 + 1)))]) (S := []) ⟨rfl, ⟨rfl, ⟨zval_w (x2 + 1), trivial⟩⟩⟩ (rfl) (hr31 1 (zlit rfl) (zw (x2 + 1)) (zw_rg (x2 + 1)) A1)
theorem z_M_compile_86_ok{d w : Nat} {r31 : Int → Int → zA → Option (Int × zA)} (hr31 : ∀ (x1 : Int) (hx1 : zrg x1) (x2 : Int) (hx2 : zrg x2) (A : zA), zG (r31 x1 x2 A) zPI d w 6 31 [some (.inr (.inr (some 226))), some (.inl x1), some (.inl x2)] [] A) (N : Nat) (hd : 9 ≤ d) (hw : 206 ≤ w) (x1 : Int) (hx1 : zrg x1) (x2 : Int) (hx2 : zrg x2) (s1 : Int) (hs1 : zrg s1) (A : zA) : zG (z_M_compile_86 r31 N x1 x2 s1 A) zPI d w 6 86 [some (.inr (.inr (some 226))), some (.inl x1), some (.inl x2)] [(.inl s1), (.inr (.inr (some 238)))] A := by
  unfold z_M_compile_86
  refine js_aload (pc1 := 87) rfl rfl rfl ?_
  refine js_iload (pc1 := 88) rfl rfl rfl ?_
  refine js_cI (pc1 := 91) (as := [(.inr (.inr (some 226))), (.inl x2)]) (S0 := [(.inl s1), (.inr (.inr (some 238)))]) (m := 8) (L0 := [some (.inr (.inr (some 226))), some (.inl x2), none, none, none, none, none, none]) rfl rfl rfl rfl rfl rfl rfl rfl (zrc_o rfl rfl) (by omega) (by omega) (z_M_nest_ok N (by omega) (by omega) x2 hx2 A) (fun v1 A2 _ hv1 => ?_)
  refine js_goto (t1 := 95) rfl rfl ?_
  exact z_M_compile_95_ok hr31 N hd hw x1 hx1 x2 hx2 s1 hs1 v1 hv1 A2
theorem z_M_compile_67_ok{d w : Nat} {r31 : Int → Int → zA → Option (Int × zA)} (hr31 : ∀ (x1 : Int) (hx1 : zrg x1) (x2 : Int) (hx2 : zrg x2) (A : zA), zG (r31 x1 x2 A) zPI d w 6 31 [some (.inr (.inr (some 226))), some (.inl x1), some (.inl x2)] [] A) (N : Nat) (hd : 9 ≤ d) (hw : 206 ≤ w) (x1 : Int) (hx1 : zrg x1) (x2 : Int) (hx2 : zrg x2) (s1 : Int) (hs1 : zrg s1) (s2 : Int) (hs2 : zrg s2) (A : zA) : zG (z_M_compile_67 r31 N x1 x2 s1 s2 A) zPI d w 6 67 [some (.inr (.inr (some 226))), some (.inl x1), some (.inl x2)] [(.inl s2), (.inl s1), (.inr (.inr (some 237)))] A := by
  unfold z_M_compile_67
  refine jt_ias (pc1 := 68) rfl rfl rfl rfl (fun A1 => ?_)
  refine js_aload (pc1 := 69) rfl rfl rfl ?_
  refine js_gfr (pc1 := 72) (j := 25) (r := 238) rfl rfl rfl rfl rfl ?_
  refine js_iload (pc1 := 73) rfl rfl rfl ?_
  refine js_iload (pc1 := 74) rfl rfl rfl ?_
  refine js_aload (pc1 := 75) rfl rfl rfl ?_
  refine js_gi (pc1 := 78) (j := 15) rfl rfl rfl rfl ?_
  refine jt_lt (pc1 := 81) (t1 := 86) hx2 (zi_rg _ _ _) rfl rfl rfl (fun c2 => ?_) (fun c2 => ?_)
  · exact z_M_compile_86_ok hr31 N hd hw x1 hx1 x2 hx2 x2 hx2 A1
  · refine js_iload (pc1 := 82) rfl rfl rfl ?_
    refine js_iconst (pc1 := 83) rfl rfl ?_
    refine jt_ne (pc1 := 86) (t1 := 94) hx2 (zlit rfl) rfl rfl rfl (fun c3 => ?_) (fun c3 => ?_)
    · exact z_M_compile_86_ok hr31 N hd hw x1 hx1 x2 hx2 x2 hx2 A1
    · refine js_iconst (pc1 := 95) rfl rfl ?_
      exact z_M_compile_95_ok hr31 N hd hw x1 hx1 x2 hx2 x2 hx2 0 (zlit rfl) A1
theorem z_M_compile_54_ok{d w : Nat} {r31 : Int → Int → zA → Option (Int × zA)} (hr31 : ∀ (x1 : Int) (hx1 : zrg x1) (x2 : Int) (hx2 : zrg x2) (A : zA), zG (r31 x1 x2 A) zPI d w 6 31 [some (.inr (.inr (some 226))), some (.inl x1), some (.inl x2)] [] A) (N : Nat) (hd : 9 ≤ d) (hw : 206 ≤ w) (x1 : Int) (hx1 : zrg x1) (x2 : Int) (hx2 : zrg x2) (s1 : Int) (hs1 : zrg s1) (A : zA) : zG (z_M_compile_54 r31 N x1 x2 s1 A) zPI d w 6 54 [some (.inr (.inr (some 226))), some (.inl x1), some (.inl x2)] [(.inl s1), (.inr (.inr (some 237)))] A := by
  unfold z_M_compile_54
  refine js_aload (pc1 := 55) rfl rfl rfl ?_
  refine js_iload (pc1 := 56) rfl rfl rfl ?_
  refine js_aload (pc1 := 57) rfl rfl rfl ?_
  refine js_gfr (pc1 := 60) (j := 24) (r := 237) rfl rfl rfl rfl rfl ?_
  refine js_cP (pc1 := 63) (as := [(.inr (.inr (some 226))), (.inl x2), (.inr (.inr (some 237)))]) (S0 := [(.inl s1), (.inr (.inr (some 237)))]) (m := 5) (L0 := [some (.inr (.inr (some 226))), some (.inl x2), some (.inr (.inr (some 237))), none, none]) rfl rfl rfl rfl rfl rfl rfl rfl (zrc_o rfl rfl) (by omega) (by omega) (z_M_total_237_ok N (by omega) (by omega) x2 hx2 A) (fun v1 _ hv1 => ?_)
  refine js_goto (t1 := 67) rfl rfl ?_
  exact z_M_compile_67_ok hr31 N hd hw x1 hx1 x2 hx2 s1 hs1 v1 hv1 A
theorem z_M_compile_149_ok{d w : Nat} (N : Nat) (hd : 9 ≤ d) (hw : 206 ≤ w) (x1 : Int) (hx1 : zrg x1) (A : zA) : zG (z_M_compile_149 N x1 A) zPI d w 6 149 [some (.inr (.inr (some 226))), some (.inl x1), none] [] A := by
  unfold z_M_compile_149
  refine js_iload (pc1 := 150) rfl rfl rfl ?_
  refine ju_ne (pc1 := 153) (t1 := 159) hx1 rfl rfl rfl (fun c1 => ?_) (fun c1 => ?_)
  · refine js_aload (pc1 := 154) rfl rfl rfl ?_
    refine js_iconst (pc1 := 155) rfl rfl ?_
    refine js_cI (pc1 := 158) (as := [(.inr (.inr (some 226))), (.inl 2)]) (S0 := []) (m := 2) (L0 := [some (.inr (.inr (some 226))), some (.inl 2)]) rfl rfl rfl rfl rfl rfl rfl rfl (zrc_o rfl rfl) (by omega) (by omega) (z_M_fail_ok N (by omega) (by omega) 2 (zlit rfl) A) (fun v2 A3 _ hv2 => ?_)
    exact je_I rfl (zfit0 _ rfl) rfl hv2
  · refine js_aload (pc1 := 160) rfl rfl rfl ?_
    refine js_aload (pc1 := 161) rfl rfl rfl ?_
    refine js_gi (pc1 := 164) (j := 15) rfl rfl rfl rfl ?_
    refine jt_pi (pc1 := 167) (j := 6) rfl rfl rfl rfl rfl (fun A4 => ?_)
    refine js_aload (pc1 := 168) rfl rfl rfl ?_
    refine js_iconst (pc1 := 169) rfl rfl ?_
    refine jt_pi (pc1 := 172) (j := 7) rfl rfl rfl rfl rfl (fun A5 => ?_)
    refine js_aload (pc1 := 173) rfl rfl rfl ?_
    refine js_iconst (pc1 := 174) rfl rfl ?_
    refine jt_pi (pc1 := 177) (j := 8) rfl rfl rfl rfl rfl (fun A6 => ?_)
    refine js_aload (pc1 := 178) rfl rfl rfl ?_
    refine js_iconst (pc1 := 179) rfl rfl ?_
    refine js_iconst (pc1 := 180) rfl rfl ?_
    refine js_cV (pc1 := 183) (as := [(.inr (.inr (some 226))), (.inl 1), (.inl 0)]) (S0 := []) (m := 4) (L0 := [some (.inr (.inr (some 226))), some (.inl 1), some (.inl 0), none]) rfl rfl rfl rfl rfl rfl rfl rfl (zrc_o rfl rfl) (by omega) (by omega) (z_M_copyState_ok N (by omega) (by omega) 1 (zlit rfl) 0 (zlit rfl) A6) (fun A7 _ => ?_)
    refine js_aload (pc1 := 184) rfl rfl rfl ?_
    refine js_iconst (pc1 := 185) rfl rfl ?_
    refine js_iconst (pc1 := 186) rfl rfl ?_
    refine js_cV (pc1 := 189) (as := [(.inr (.inr (some 226))), (.inl 1), (.inl 2)]) (S0 := []) (m := 4) (L0 := [some (.inr (.inr (some 226))), some (.inl 1), some (.inl 2), none]) rfl rfl rfl rfl rfl rfl rfl rfl (zrc_o rfl rfl) (by omega) (by omega) (z_M_copyState_ok N (by omega) (by omega) 1 (zlit rfl) 2 (zlit rfl) A7) (fun A8 _ => ?_)
    refine js_aload (pc1 := 190) rfl rfl rfl ?_
    refine js_gfr (pc1 := 193) (j := 4) (r := 229) rfl rfl rfl rfl rfl ?_
    refine js_iconst (pc1 := 194) rfl rfl ?_
    refine js_iconst (pc1 := 195) rfl rfl ?_
    refine js_cP (pc1 := 198) (as := [(.inl 0), (.inl 3)]) (S0 := [(.inr (.inr (some 229)))]) (m := 2) (L0 := [some (.inl 0), some (.inl 3)]) rfl rfl rfl rfl rfl rfl rfl rfl (zrc_s rfl) (by omega) (by omega) (z_M_row_ok N (by omega) (by omega) 0 (zlit rfl) 3 (zlit rfl) A8) (fun v9 _ hv9 => ?_)
    refine jt_ald (pc1 := 199) rfl rfl rfl rfl rfl (fun v10 hv10 => ?_)
    exact je_I rfl (zfit0 _ rfl) rfl hv10
theorem z_M_compile_31_bok{d w : Nat} {r31 : Int → Int → zA → Option (Int × zA)} (hr31 : ∀ (x1 : Int) (hx1 : zrg x1) (x2 : Int) (hx2 : zrg x2) (A : zA), zG (r31 x1 x2 A) zPI d w 6 31 [some (.inr (.inr (some 226))), some (.inl x1), some (.inl x2)] [] A) (N : Nat) (hd : 9 ≤ d) (hw : 206 ≤ w) (x1 : Int) (hx1 : zrg x1) (x2 : Int) (hx2 : zrg x2) (A : zA) : zG (z_M_compile_31_b r31 N x1 x2 A) zPI d w 6 31 [some (.inr (.inr (some 226))), some (.inl x1), some (.inl x2)] [] A := by
  unfold z_M_compile_31_b
  refine js_iload (pc1 := 32) rfl rfl rfl ?_
  refine js_iconst (pc1 := 33) rfl rfl ?_
  refine jt_ge (pc1 := 36) (t1 := 149) hx2 (zlit rfl) rfl rfl rfl (fun c1 => ?_) (fun c1 => ?_)
  · refine js_aload (pc1 := 37) rfl rfl rfl ?_
    refine js_gfr (pc1 := 40) (j := 24) (r := 237) rfl rfl rfl rfl rfl ?_
    refine js_iload (pc1 := 41) rfl rfl rfl ?_
    refine js_iload (pc1 := 42) rfl rfl rfl ?_
    refine js_aload (pc1 := 43) rfl rfl rfl ?_
    refine js_gi (pc1 := 46) (j := 15) rfl rfl rfl rfl ?_
    refine jt_lt (pc1 := 49) (t1 := 54) hx2 (zi_rg _ _ _) rfl rfl rfl (fun c2 => ?_) (fun c2 => ?_)
    · exact z_M_compile_54_ok hr31 N hd hw x1 hx1 x2 hx2 x2 hx2 A
    · refine js_iload (pc1 := 50) rfl rfl rfl ?_
      refine js_iconst (pc1 := 51) rfl rfl ?_
      refine jt_ne (pc1 := 54) (t1 := 66) hx2 (zlit rfl) rfl rfl rfl (fun c3 => ?_) (fun c3 => ?_)
      · exact z_M_compile_54_ok hr31 N hd hw x1 hx1 x2 hx2 x2 hx2 A
      · refine js_iconst (pc1 := 67) rfl rfl ?_
        exact z_M_compile_67_ok hr31 N hd hw x1 hx1 x2 hx2 x2 hx2 0 (zlit rfl) A
  · exact zG_to (L := [some (.inr (.inr (some 226))), some (.inl x1), none]) (S := []) ⟨rfl, ⟨rfl, trivial⟩⟩ (rfl) (z_M_compile_149_ok N hd hw x1 hx1 A)
theorem z_M_compile_31_lok{d w : Nat} (N : Nat) (hd : 9 ≤ d) (hw : 206 ≤ w) (n : Nat) : ∀ (x1 : Int) (hx1 : zrg x1) (x2 : Int) (hx2 : zrg x2) (A : zA), zG (z_M_compile_31_l N n x1 x2 A) zPI d w 6 31 [some (.inr (.inr (some 226))), some (.inl x1), some (.inl x2)] [] A := by
  induction n with
  | zero => intros; exact zG_none
  | succ n ih =>
    intro x1 hx1 x2 hx2 A
    exact z_M_compile_31_bok ih N hd hw x1 hx1 x2 hx2 A
theorem z_M_compile_31_ok{d w : Nat} (N : Nat) (hd : 9 ≤ d) (hw : 206 ≤ w) (x1 : Int) (hx1 : zrg x1) (x2 : Int) (hx2 : zrg x2) (A : zA) : zG (z_M_compile_31 N x1 x2 A) zPI d w 6 31 [some (.inr (.inr (some 226))), some (.inl x1), some (.inl x2)] [] A := z_M_compile_31_lok N hd hw N x1 hx1 x2 hx2 A
theorem z_M_compile_ok{d w : Nat} (N : Nat) (hd : 9 ≤ d) (hw : 206 ≤ w) (A : zA) : zG (z_M_compile N A) zPI d w 6 0 [some (.inr (.inr (some 226))), none, none] [] A := by
  unfold z_M_compile
  refine js_aload (pc1 := 1) rfl rfl rfl ?_
  refine js_iconst (pc1 := 2) rfl rfl ?_
  refine jt_pi (pc1 := 5) (j := 0) rfl rfl rfl rfl rfl (fun A1 => ?_)
  refine js_aload (pc1 := 6) rfl rfl rfl ?_
  refine js_cV (pc1 := 9) (as := [(.inr (.inr (some 226)))]) (S0 := []) (m := 2) (L0 := [some (.inr (.inr (some 226))), none]) rfl rfl rfl rfl rfl rfl rfl rfl (zrc_o rfl rfl) (by omega) (by omega) (z_M_parse_ok N (by omega) (by omega) A1) (fun A2 _ => ?_)
  refine js_aload (pc1 := 10) rfl rfl rfl ?_
  refine js_iconst (pc1 := 11) rfl rfl ?_
  refine jt_pi (pc1 := 14) (j := 1) rfl rfl rfl rfl rfl (fun A3 => ?_)
  refine js_aload (pc1 := 15) rfl rfl rfl ?_
  refine js_gi (pc1 := 18) (j := 16) rfl rfl rfl rfl ?_
  refine ju_eq (pc1 := 21) (t1 := 27) (zi_rg _ _ _) rfl rfl rfl (fun c4 => ?_) (fun c4 => ?_)
  · refine js_iconst (pc1 := 28) rfl rfl ?_
    refine js_istore (pc1 := 29) (L1 := [some (.inr (.inr (some 226))), some (.inl 1), none]) rfl rfl rfl rfl ?_
    refine js_iconst (pc1 := 30) rfl rfl ?_
    refine js_istore (pc1 := 31) (L1 := [some (.inr (.inr (some 226))), some (.inl 1), some (.inl 0)]) rfl rfl rfl rfl ?_
    exact z_M_compile_31_ok N hd hw 1 (zlit rfl) 0 (zlit rfl) A3
  · refine js_aload (pc1 := 22) rfl rfl rfl ?_
    refine js_iconst (pc1 := 23) rfl rfl ?_
    refine js_cI (pc1 := 26) (as := [(.inr (.inr (some 226))), (.inl 1)]) (S0 := []) (m := 2) (L0 := [some (.inr (.inr (some 226))), some (.inl 1)]) rfl rfl rfl rfl rfl rfl rfl rfl (zrc_o rfl rfl) (by omega) (by omega) (z_M_fail_ok N (by omega) (by omega) 1 (zlit rfl) A3) (fun v5 A6 _ hv5 => ?_)
    exact je_I rfl (zfit0 _ rfl) rfl hv5
theorem z_M_thrown_ok{d w : Nat} (N : Nat) (hd : 0 ≤ d) (hw : 0 ≤ w) (A : zA) : zG (z_M_thrown N A) (zPp A) d w 7 0 [some (.inr (.inr (some 226)))] [] A := by
  unfold z_M_thrown
  refine js_aload (pc1 := 1) rfl rfl rfl ?_
  refine js_gi (pc1 := 4) (j := 0) rfl rfl rfl rfl ?_
  exact je_P rfl (zfit0 _ rfl) rfl (zi_rg _ _ _)
theorem z_Ar_fill2_6_bok{d w : Nat} {r6 : Nat → Int64 → Int → Int → zA → Option zA} (hr6 : ∀ (x0 : Nat) (x1 : Int64) (x3 : Int) (hx3 : zrg x3) (x4 : Int) (hx4 : zrg x4) (A : zA), zG (r6 x0 x1 x3 x4 A) zPV d w 165 6 [some (.inr (.inr (some x0))), some (.inr (.inl x1)), none, some (.inl x3), some (.inl x4)] [] A) (N : Nat) (hd : 0 ≤ d) (hw : 0 ≤ w) (x0 : Nat) (x1 : Int64) (x3 : Int) (hx3 : zrg x3) (x4 : Int) (hx4 : zrg x4) (A : zA) : zG (z_Ar_fill2_6_b r6 N x0 x1 x3 x4 A) zPV d w 165 6 [some (.inr (.inr (some x0))), some (.inr (.inl x1)), none, some (.inl x3), some (.inl x4)] [] A := by
  unfold z_Ar_fill2_6_b
  refine js_iload (pc1 := 7) rfl rfl rfl ?_
  refine js_iload (pc1 := 9) rfl rfl rfl ?_
  refine jt_ge (pc1 := 12) (t1 := 22) hx3 hx4 rfl rfl rfl (fun c1 => ?_) (fun c1 => ?_)
  · refine js_aload (pc1 := 13) rfl rfl rfl ?_
    refine js_iload (pc1 := 14) rfl rfl rfl ?_
    refine js_lload (pc1 := 15) rfl rfl rfl ?_
    refine jt_lasD (pc1 := 16) rfl rfl (fun A2 => ?_)
    refine js_iinc (pc1 := 19) (L1 := [some (.inr (.inr (some x0))), some (.inr (.inl x1)), none, some (.inl (x3 + 1)), some (.inl x4)]) rfl rfl rfl rfl ?_
    refine js_goto (t1 := 6) rfl rfl ?_
    exact zG_to (L := [some (.inr (.inr (some x0))), some (.inr (.inl x1)), none, some (.inl (zw (x3 + 1))), some (.inl x4)]) (S := []) ⟨rfl, ⟨rfl, ⟨zval_w (x3 + 1), ⟨rfl, trivial⟩⟩⟩⟩ (rfl) (hr6 x0 x1 (zw (x3 + 1)) (zw_rg (x3 + 1)) x4 hx4 A2)
  · exact je_V rfl
theorem z_Ar_fill2_6_lok{d w : Nat} (N : Nat) (hd : 0 ≤ d) (hw : 0 ≤ w) (n : Nat) : ∀ (x0 : Nat) (x1 : Int64) (x3 : Int) (hx3 : zrg x3) (x4 : Int) (hx4 : zrg x4) (A : zA), zG (z_Ar_fill2_6_l N n x0 x1 x3 x4 A) zPV d w 165 6 [some (.inr (.inr (some x0))), some (.inr (.inl x1)), none, some (.inl x3), some (.inl x4)] [] A := by
  induction n with
  | zero => intros; exact zG_none
  | succ n ih =>
    intro x0 x1 x3 hx3 x4 hx4 A
    exact z_Ar_fill2_6_bok ih N hd hw x0 x1 x3 hx3 x4 hx4 A
theorem z_Ar_fill2_6_ok{d w : Nat} (N : Nat) (hd : 0 ≤ d) (hw : 0 ≤ w) (x0 : Nat) (x1 : Int64) (x3 : Int) (hx3 : zrg x3) (x4 : Int) (hx4 : zrg x4) (A : zA) : zG (z_Ar_fill2_6 N x0 x1 x3 x4 A) zPV d w 165 6 [some (.inr (.inr (some x0))), some (.inr (.inl x1)), none, some (.inl x3), some (.inl x4)] [] A := z_Ar_fill2_6_lok N hd hw N x0 x1 x3 hx3 x4 hx4 A
theorem z_Ar_fill2_ok{d w : Nat} (N : Nat) (hd : 0 ≤ d) (hw : 0 ≤ w) (x0 : Nat) (x1 : Int64) (A : zA) : zG (z_Ar_fill2 N x0 x1 A) zPV d w 165 0 [some (.inr (.inr (some x0))), some (.inr (.inl x1)), none, none, none] [] A := by
  unfold z_Ar_fill2
  refine js_iconst (pc1 := 1) rfl rfl ?_
  refine js_istore (pc1 := 2) (L1 := [some (.inr (.inr (some x0))), some (.inr (.inl x1)), none, some (.inl 0), none]) rfl rfl rfl rfl ?_
  refine js_aload (pc1 := 3) rfl rfl rfl ?_
  refine js_lenD (pc1 := 4) rfl rfl (fun v1 hv1 => ?_)
  refine js_istore (pc1 := 6) (L1 := [some (.inr (.inr (some x0))), some (.inr (.inl x1)), none, some (.inl 0), some (.inl v1)]) rfl rfl rfl rfl ?_
  exact z_Ar_fill2_6_ok N hd hw x0 x1 0 (zlit rfl) v1 hv1 A
theorem z_Pt_register_47_ok{d w : Nat} (N : Nat) (hd : 0 ≤ d) (hw : 0 ≤ w) (s0 : Int) (hs0 : zrg s0) (A : zA) : zG (z_Pt_register_47 N s0 A) (zPp A) d w 240 47 [none, none, none, none, none] [(.inl s0)] A := by
  unfold z_Pt_register_47
  refine js_istore (pc1 := 49) (L1 := [none, none, none, none, some (.inl s0)]) rfl rfl rfl rfl ?_
  refine js_iload (pc1 := 51) rfl rfl rfl ?_
  refine ju_lt (pc1 := 54) (t1 := 66) hs0 rfl rfl rfl (fun c1 => ?_) (fun c1 => ?_)
  · refine js_iconst (pc1 := 67) rfl rfl ?_
    exact je_P rfl (zfit0 _ rfl) rfl (zlit rfl)
  · refine js_iload (pc1 := 56) rfl rfl rfl ?_
    refine js_iconst (pc1 := 58) rfl rfl ?_
    refine jt_ge (pc1 := 61) (t1 := 66) hs0 (zlit rfl) rfl rfl rfl (fun c2 => ?_) (fun c2 => ?_)
    · refine js_iload (pc1 := 63) rfl rfl rfl ?_
      refine js_goto (t1 := 67) rfl rfl ?_
      exact je_P rfl (zfit0 _ rfl) rfl hs0
    · refine js_iconst (pc1 := 67) rfl rfl ?_
      exact je_P rfl (zfit0 _ rfl) rfl (zlit rfl)
theorem z_Pt_register_26_ok{d w : Nat} (N : Nat) (hd : 0 ≤ d) (hw : 0 ≤ w) (x0 : Nat) (hx0 : zsh x0 = some (false, 3, 4)) (x1 : Int) (hx1 : zrg x1) (x2 : Int) (hx2 : zrg x2) (s0 : Int) (hs0 : zrg s0) (A : zA) : zG (z_Pt_register_26 N x0 x1 x2 s0 A) (zPp A) d w 240 26 [some (.inr (.inr (some x0))), some (.inl x1), some (.inl x2), none, none] [(.inl s0)] A := by
  unfold z_Pt_register_26
  refine js_istore (pc1 := 27) (L1 := [some (.inr (.inr (some x0))), some (.inl x1), some (.inl x2), some (.inl s0), none]) rfl rfl rfl rfl ?_
  refine js_iload (pc1 := 28) rfl rfl rfl ?_
  refine ju_eq (pc1 := 31) (t1 := 46) hs0 rfl rfl rfl (fun c1 => ?_) (fun c1 => ?_)
  · refine js_iconst (pc1 := 47) rfl rfl ?_
    exact zG_to (L := [none, none, none, none, none]) (S := [(.inl 0)]) trivial (rfl) (z_Pt_register_47_ok N hd hw 0 (zlit rfl) A)
  · refine js_aload (pc1 := 32) rfl rfl rfl ?_
    refine jt_gr (pc1 := 35) (j := 0) rfl rfl hx0 rfl (fun p2 => ?_)
    refine js_iload (pc1 := 36) rfl rfl rfl ?_
    refine js_iconst (pc1 := 37) rfl rfl ?_
    refine js_imul (pc1 := 38) rfl rfl ?_
    refine js_iconst (pc1 := 39) rfl rfl ?_
    refine js_iadd (pc1 := 40) rfl rfl ?_
    refine js_iload (pc1 := 41) rfl rfl rfl ?_
    refine js_iadd (pc1 := 42) rfl rfl ?_
    refine jt_aldD (pc1 := 43) rfl rfl (fun v3 hv3 => ?_)
    refine js_goto (t1 := 47) rfl rfl ?_
    exact zG_to (L := [none, none, none, none, none]) (S := [(.inl v3)]) trivial (rfl) (z_Pt_register_47_ok N hd hw v3 hv3 A)
theorem z_Pt_register_ok{d w : Nat} (N : Nat) (hd : 0 ≤ d) (hw : 0 ≤ w) (x0 : Nat) (hx0 : zsh x0 = some (false, 3, 4)) (x1 : Int) (hx1 : zrg x1) (x2 : Int) (hx2 : zrg x2) (A : zA) : zG (z_Pt_register N x0 x1 x2 A) (zPp A) d w 240 0 [some (.inr (.inr (some x0))), some (.inl x1), some (.inl x2), none, none] [] A := by
  unfold z_Pt_register
  refine js_iload (pc1 := 1) rfl rfl rfl ?_
  refine ju_lt (pc1 := 4) (t1 := 25) hx1 rfl rfl rfl (fun c1 => ?_) (fun c1 => ?_)
  · refine js_iconst (pc1 := 26) rfl rfl ?_
    exact z_Pt_register_26_ok N hd hw x0 hx0 x1 hx1 x2 hx2 0 (zlit rfl) A
  · refine js_iload (pc1 := 5) rfl rfl rfl ?_
    refine js_aload (pc1 := 6) rfl rfl rfl ?_
    refine js_gi (pc1 := 9) (j := 2) rfl rfl hx0 rfl ?_
    refine jt_ge (pc1 := 12) (t1 := 25) hx1 (zi_rg _ _ _) rfl rfl rfl (fun c2 => ?_) (fun c2 => ?_)
    · refine js_iload (pc1 := 13) rfl rfl rfl ?_
      refine ju_lt (pc1 := 16) (t1 := 25) hx2 rfl rfl rfl (fun c3 => ?_) (fun c3 => ?_)
      · refine js_iconst (pc1 := 26) rfl rfl ?_
        exact z_Pt_register_26_ok N hd hw x0 hx0 x1 hx1 x2 hx2 0 (zlit rfl) A
      · refine js_iload (pc1 := 17) rfl rfl rfl ?_
        refine js_iconst (pc1 := 18) rfl rfl ?_
        refine jt_ge (pc1 := 21) (t1 := 25) hx2 (zlit rfl) rfl rfl rfl (fun c4 => ?_) (fun c4 => ?_)
        · refine js_iconst (pc1 := 22) rfl rfl ?_
          refine js_goto (t1 := 26) rfl rfl ?_
          exact z_Pt_register_26_ok N hd hw x0 hx0 x1 hx1 x2 hx2 1 (zlit rfl) A
        · refine js_iconst (pc1 := 26) rfl rfl ?_
          exact z_Pt_register_26_ok N hd hw x0 hx0 x1 hx1 x2 hx2 0 (zlit rfl) A
    · refine js_iconst (pc1 := 26) rfl rfl ?_
      exact z_Pt_register_26_ok N hd hw x0 hx0 x1 hx1 x2 hx2 0 (zlit rfl) A
theorem z_Pt_addCopy_ok{d w : Nat} (N : Nat) (hd : 3 ≤ d) (hw : 108 ≤ w) (x0 : Nat) (hx0 : zsh x0 = some (false, 3, 4)) (x1 : Nat) (hx1 : zsh x1 = some (false, 3, 4)) (x2 : Int) (hx2 : zrg x2) (A : zA) : zG (z_Pt_addCopy N x0 x1 x2 A) zPV d w 175 0 [some (.inr (.inr (some x0))), some (.inr (.inr (some x1))), some (.inl x2)] [] A := by
  unfold z_Pt_addCopy
  refine js_aload (pc1 := 1) rfl rfl rfl ?_
  refine js_iload (pc1 := 2) rfl rfl rfl ?_
  refine js_cP (pc1 := 5) (as := [(.inr (.inr (some x1))), (.inl x2)]) (S0 := []) (m := 2) (L0 := [some (.inr (.inr (some x1))), some (.inl x2)]) rfl rfl rfl rfl rfl rfl rfl rfl (zrc_o rfl hx1) (by omega) (by omega) (z_Pt_has_ok N (by omega) (by omega) x1 hx1 x2 hx2 A) (fun v1 _ hv1 => ?_)
  refine ju_eq (pc1 := 8) (t1 := 59) hv1 rfl rfl rfl (fun c2 => ?_) (fun c2 => ?_)
  · exact je_V rfl
  · refine js_aload (pc1 := 9) rfl rfl rfl ?_
    refine js_gi (pc1 := 12) (j := 2) rfl rfl hx0 rfl ?_
    refine js_iconst (pc1 := 15) rfl rfl ?_
    refine jt_ge (pc1 := 18) (t1 := 59) (zi_rg _ _ _) (zlit rfl) rfl rfl rfl (fun c3 => ?_) (fun c3 => ?_)
    · refine js_aload (pc1 := 19) rfl rfl rfl ?_
      refine js_aload (pc1 := 20) rfl rfl rfl ?_
      refine js_gi (pc1 := 23) (j := 2) rfl rfl hx0 rfl ?_
      refine js_iconst (pc1 := 24) rfl rfl ?_
      refine js_iadd (pc1 := 25) rfl rfl ?_
      refine js_cV (pc1 := 28) (as := [(.inr (.inr (some x0))), (.inl ((zi A x0 2) + 1))]) (S0 := []) (m := 3) (L0 := [some (.inr (.inr (some x0))), some (.inl ((zi A x0 2) + 1)), none]) rfl rfl rfl rfl rfl rfl rfl rfl (zrc_o rfl hx0) (by omega) (by omega) (zG_to (L := [some (.inr (.inr (some x0))), some (.inl (zw ((zi A x0 2) + 1))), none]) (S := []) ⟨rfl, ⟨zval_w ((zi A x0 2) + 1), trivial⟩⟩ rfl (z_Pt_makeRoom_ok N (by omega) (by omega) x0 hx0 (zw ((zi A x0 2) + 1)) (zw_rg ((zi A x0 2) + 1)) A)) (fun A4 _ => ?_)
      refine js_aload (pc1 := 29) rfl rfl rfl ?_
      refine jt_gr (pc1 := 32) (j := 0) rfl rfl hx1 rfl (fun p5 => ?_)
      refine js_iload (pc1 := 33) rfl rfl rfl ?_
      refine js_iconst (pc1 := 34) rfl rfl ?_
      refine js_imul (pc1 := 35) rfl rfl ?_
      refine js_aload (pc1 := 36) rfl rfl rfl ?_
      refine jt_gr (pc1 := 39) (j := 0) rfl rfl hx0 rfl (fun p6 => ?_)
      refine js_aload (pc1 := 40) rfl rfl rfl ?_
      refine js_gi (pc1 := 43) (j := 2) rfl rfl hx0 rfl ?_
      refine js_iconst (pc1 := 44) rfl rfl ?_
      refine js_imul (pc1 := 45) rfl rfl ?_
      refine js_iconst (pc1 := 46) rfl rfl ?_
      refine jt_copy (pc1 := 49) rfl rfl (by omega) (by omega) rfl (fun A7 => ?_)
      refine js_aload (pc1 := 50) rfl rfl rfl ?_
      refine js_dupR (pc1 := 51) rfl rfl ?_
      refine js_gi (pc1 := 54) (j := 2) rfl rfl hx0 rfl ?_
      refine js_iconst (pc1 := 55) rfl rfl ?_
      refine js_iadd (pc1 := 56) rfl rfl ?_
      refine jt_pi (pc1 := 59) (j := 2) rfl rfl hx0 rfl rfl (fun A8 => ?_)
      exact je_V rfl
    · exact je_V rfl
theorem z_Co_levelIsThere_ok{d w : Nat} (N : Nat) (hd : 0 ≤ d) (hw : 0 ≤ w) (A : zA) : zG (z_Co_levelIsThere N A) (zPp A) d w 278 0 [some (.inr (.inr (some 49)))] [] A := by
  unfold z_Co_levelIsThere
  refine js_aload (pc1 := 1) rfl rfl rfl ?_
  refine js_gi (pc1 := 4) (j := 4) rfl rfl rfl rfl ?_
  refine js_iconst (pc1 := 5) rfl rfl ?_
  refine jt_lt (pc1 := 8) (t1 := 21) (zi_rg _ _ _) (zlit rfl) rfl rfl rfl (fun c1 => ?_) (fun c1 => ?_)
  · refine js_iconst (pc1 := 22) rfl rfl ?_
    exact je_P rfl (zfit3 rfl (Or.inl rfl)) rfl (zlit rfl)
  · refine js_aload (pc1 := 9) rfl rfl rfl ?_
    refine js_gi (pc1 := 12) (j := 4) rfl rfl rfl rfl ?_
    refine js_iconst (pc1 := 14) rfl rfl ?_
    refine jt_gt (pc1 := 17) (t1 := 21) (zi_rg _ _ _) (zlit rfl) rfl rfl rfl (fun c2 => ?_) (fun c2 => ?_)
    · refine js_iconst (pc1 := 22) rfl rfl ?_
      exact je_P rfl (zfit3 rfl (Or.inl rfl)) rfl (zlit rfl)
    · refine js_iconst (pc1 := 18) rfl rfl ?_
      refine js_goto (t1 := 22) rfl rfl ?_
      exact je_P rfl (zfit3 rfl (Or.inr rfl)) rfl (zlit rfl)
theorem z_Co_keep_ok{d w : Nat} (N : Nat) (hd : 1 ≤ d) (hw : 64 ≤ w) (x1 : Nat) (A : zA) : zG (z_Co_keep N x1 A) zPV d w 235 0 [some (.inr (.inr (some 49))), some (.inr (.inr (some x1)))] [] A := by
  unfold z_Co_keep
  refine js_aload (pc1 := 1) rfl rfl rfl ?_
  refine js_cP (pc1 := 4) (as := [(.inr (.inr (some 49)))]) (S0 := []) (m := 1) (L0 := [some (.inr (.inr (some 49)))]) rfl rfl rfl rfl rfl rfl rfl rfl (zrc_o rfl rfl) (by omega) (by omega) (z_Co_levelIsThere_ok N (by omega) (by omega) A) (fun v1 _ hv1 => ?_)
  refine ju_eq (pc1 := 7) (t1 := 26) hv1 rfl rfl rfl (fun c2 => ?_) (fun c2 => ?_)
  · exact je_V rfl
  · refine js_aload (pc1 := 8) rfl rfl rfl ?_
    refine js_gfr (pc1 := 11) (j := 0) (r := 50) rfl rfl rfl rfl rfl ?_
    refine js_iconst (pc1 := 12) rfl rfl ?_
    refine js_aload (pc1 := 13) rfl rfl rfl ?_
    refine js_aload (pc1 := 14) rfl rfl rfl ?_
    refine js_gi (pc1 := 17) (j := 4) rfl rfl rfl rfl ?_
    refine js_iconst (pc1 := 18) rfl rfl ?_
    refine js_isub (pc1 := 19) rfl rfl ?_
    refine jt_aald (pc1 := 20) rfl rfl (fun p3 => ?_)
    refine js_iconst (pc1 := 21) rfl rfl ?_
    refine js_iconst (pc1 := 23) rfl rfl ?_
    refine jt_copy (pc1 := 26) rfl rfl (by omega) (by omega) rfl (fun A4 => ?_)
    exact je_V rfl
theorem z_Co_goOverIf_ok{d w : Nat} (N : Nat) (hd : 4 ≤ d) (hw : 130 ≤ w) (x1 : Nat) (hx1 : zsh x1 = some (false, 3, 4)) (x2 : Int) (hx2 : zrg x2) (x3 : Nat) (hx3 : zsh x3 = some (false, 3, 4)) (A : zA) : zG (z_Co_goOverIf N x1 x2 x3 A) zPI d w 232 0 [some (.inr (.inr (some 49))), some (.inr (.inr (some x1))), some (.inl x2), some (.inr (.inr (some x3))), none, none, none, none] [] A := by
  unfold z_Co_goOverIf
  refine js_aload (pc1 := 1) rfl rfl rfl ?_
  refine js_gfr (pc1 := 4) (j := 0) (r := 50) rfl rfl rfl rfl rfl ?_
  refine js_aload (pc1 := 5) rfl rfl rfl ?_
  refine js_iload (pc1 := 6) rfl rfl rfl ?_
  refine js_iconst (pc1 := 7) rfl rfl ?_
  refine js_cP (pc1 := 10) (as := [(.inr (.inr (some x1))), (.inl x2), (.inl 0)]) (S0 := [(.inr (.inr (some 50)))]) (m := 5) (L0 := [some (.inr (.inr (some x1))), some (.inl x2), some (.inl 0), none, none]) rfl rfl rfl rfl rfl rfl rfl rfl (zrc_o rfl hx1) (by omega) (by omega) (z_Pt_register_ok N (by omega) (by omega) x1 hx1 x2 hx2 0 (zlit rfl) A) (fun v1 _ hv1 => ?_)
  refine jt_lald (pc1 := 11) rfl rfl rfl (fun v2 => ?_)
  refine js_lstore (pc1 := 13) (L1 := [some (.inr (.inr (some 49))), some (.inr (.inr (some x1))), some (.inl x2), some (.inr (.inr (some x3))), some (.inr (.inl v2)), none, none, none]) rfl rfl rfl rfl ?_
  refine js_lload (pc1 := 15) rfl rfl rfl ?_
  refine js_ldc2 (pc1 := 18) rfl rfl ?_
  refine js_lcmp (pc1 := 19) rfl rfl ?_
  refine ju_ne (pc1 := 22) (t1 := 48) (zt_rg _) rfl rfl rfl (fun c3 => ?_) (fun c3 => ?_)
  · refine js_aload (pc1 := 23) rfl rfl rfl ?_
    refine js_aload (pc1 := 24) rfl rfl rfl ?_
    refine js_iload (pc1 := 25) rfl rfl rfl ?_
    refine js_cV (pc1 := 28) (as := [(.inr (.inr (some x3))), (.inr (.inr (some x1))), (.inl x2)]) (S0 := []) (m := 3) (L0 := [some (.inr (.inr (some x3))), some (.inr (.inr (some x1))), some (.inl x2)]) rfl rfl rfl rfl rfl rfl rfl rfl (zrc_o rfl hx3) (by omega) (by omega) (z_Pt_addCopy_ok N (by omega) (by omega) x3 hx3 x1 hx1 x2 hx2 A) (fun A4 _ => ?_)
    refine js_aload (pc1 := 29) rfl rfl rfl ?_
    refine js_dupR (pc1 := 30) rfl rfl ?_
    refine js_gi (pc1 := 33) (j := 4) rfl rfl rfl rfl ?_
    refine js_iconst (pc1 := 34) rfl rfl ?_
    refine js_iadd (pc1 := 35) rfl rfl ?_
    refine jt_pi (pc1 := 38) (j := 4) rfl rfl rfl rfl rfl (fun A5 => ?_)
    refine js_aload (pc1 := 39) rfl rfl rfl ?_
    refine js_aload (pc1 := 40) rfl rfl rfl ?_
    refine js_gfr (pc1 := 43) (j := 1) (r := 51) rfl rfl rfl rfl rfl ?_
    refine js_cV (pc1 := 46) (as := [(.inr (.inr (some 49))), (.inr (.inr (some 51)))]) (S0 := []) (m := 2) (L0 := [some (.inr (.inr (some 49))), some (.inr (.inr (some 51)))]) rfl rfl rfl rfl rfl rfl rfl rfl (zrc_o rfl rfl) (by omega) (by omega) (z_Co_keep_ok N (by omega) (by omega) 51 A5) (fun A6 _ => ?_)
    refine js_iload (pc1 := 47) rfl rfl rfl ?_
    exact je_I rfl (zfit0 _ rfl) rfl hx2
  · refine js_aload (pc1 := 49) rfl rfl rfl ?_
    refine js_dupR (pc1 := 50) rfl rfl ?_
    refine js_gi (pc1 := 53) (j := 5) rfl rfl rfl rfl ?_
    refine js_iconst (pc1 := 54) rfl rfl ?_
    refine js_iadd (pc1 := 55) rfl rfl ?_
    refine jt_pi (pc1 := 58) (j := 5) rfl rfl rfl rfl rfl (fun A7 => ?_)
    refine js_aload (pc1 := 59) rfl rfl rfl ?_
    refine js_iload (pc1 := 60) rfl rfl rfl ?_
    refine js_cP (pc1 := 63) (as := [(.inr (.inr (some x1))), (.inl x2)]) (S0 := []) (m := 2) (L0 := [some (.inr (.inr (some x1))), some (.inl x2)]) rfl rfl rfl rfl rfl rfl rfl rfl (zrc_o rfl hx1) (by omega) (by omega) (z_Pt_mate_ok N (by omega) (by omega) x1 hx1 x2 hx2 A7) (fun v8 _ hv8 => ?_)
    refine js_istore (pc1 := 65) (L1 := [some (.inr (.inr (some 49))), some (.inr (.inr (some x1))), some (.inl x2), some (.inr (.inr (some x3))), some (.inr (.inl v2)), none, some (.inl v8), none]) rfl rfl rfl rfl ?_
    refine js_aload (pc1 := 66) rfl rfl rfl ?_
    refine js_iload (pc1 := 68) rfl rfl rfl ?_
    refine js_cP (pc1 := 71) (as := [(.inr (.inr (some x1))), (.inl v8)]) (S0 := []) (m := 2) (L0 := [some (.inr (.inr (some x1))), some (.inl v8)]) rfl rfl rfl rfl rfl rfl rfl rfl (zrc_o rfl hx1) (by omega) (by omega) (z_Pt_mate_ok N (by omega) (by omega) x1 hx1 v8 hv8 A7) (fun v9 _ hv9 => ?_)
    refine js_istore (pc1 := 73) (L1 := [some (.inr (.inr (some 49))), some (.inr (.inr (some x1))), some (.inl x2), some (.inr (.inr (some x3))), some (.inr (.inl v2)), none, some (.inl v8), some (.inl v9)]) rfl rfl rfl rfl ?_
    refine js_aload (pc1 := 74) rfl rfl rfl ?_
    refine js_iload (pc1 := 76) rfl rfl rfl ?_
    refine js_cP (pc1 := 79) (as := [(.inr (.inr (some x1))), (.inl v8)]) (S0 := []) (m := 2) (L0 := [some (.inr (.inr (some x1))), some (.inl v8)]) rfl rfl rfl rfl rfl rfl rfl rfl (zrc_o rfl hx1) (by omega) (by omega) (z_Pt_has_ok N (by omega) (by omega) x1 hx1 v8 hv8 A7) (fun v10 _ hv10 => ?_)
    refine ju_eq (pc1 := 82) (t1 := 107) hv10 rfl rfl rfl (fun c11 => ?_) (fun c11 => ?_)
    · refine js_lload (pc1 := 109) rfl rfl rfl ?_
      refine js_ldc2 (pc1 := 110) rfl rfl ?_
      refine js_lcmp (pc1 := 111) rfl rfl ?_
      refine ju_ne (pc1 := 114) (t1 := 119) (zt_rg _) rfl rfl rfl (fun c12 => ?_) (fun c12 => ?_)
      · refine js_iload (pc1 := 116) rfl rfl rfl ?_
        refine js_goto (t1 := 120) rfl rfl ?_
        exact je_I rfl (zfit0 _ rfl) rfl hv8
      · refine js_iload (pc1 := 120) rfl rfl rfl ?_
        exact je_I rfl (zfit0 _ rfl) rfl hx2
    · refine js_aload (pc1 := 83) rfl rfl rfl ?_
      refine js_iload (pc1 := 85) rfl rfl rfl ?_
      refine js_cP (pc1 := 88) (as := [(.inr (.inr (some x1))), (.inl v9)]) (S0 := []) (m := 2) (L0 := [some (.inr (.inr (some x1))), some (.inl v9)]) rfl rfl rfl rfl rfl rfl rfl rfl (zrc_o rfl hx1) (by omega) (by omega) (z_Pt_has_ok N (by omega) (by omega) x1 hx1 v9 hv9 A7) (fun v13 _ hv13 => ?_)
      refine ju_eq (pc1 := 91) (t1 := 107) hv13 rfl rfl rfl (fun c14 => ?_) (fun c14 => ?_)
      · refine js_lload (pc1 := 109) rfl rfl rfl ?_
        refine js_ldc2 (pc1 := 110) rfl rfl ?_
        refine js_lcmp (pc1 := 111) rfl rfl ?_
        refine ju_ne (pc1 := 114) (t1 := 119) (zt_rg _) rfl rfl rfl (fun c15 => ?_) (fun c15 => ?_)
        · refine js_iload (pc1 := 116) rfl rfl rfl ?_
          refine js_goto (t1 := 120) rfl rfl ?_
          exact je_I rfl (zfit0 _ rfl) rfl hv8
        · refine js_iload (pc1 := 120) rfl rfl rfl ?_
          exact je_I rfl (zfit0 _ rfl) rfl hx2
      · refine js_aload (pc1 := 92) rfl rfl rfl ?_
        refine js_gfr (pc1 := 95) (j := 3) (r := 101) rfl rfl rfl rfl rfl ?_
        refine js_iload (pc1 := 97) rfl rfl rfl ?_
        refine js_iconst (pc1 := 98) rfl rfl ?_
        refine jt_basl (pc1 := 99) rfl rfl rfl rfl (Or.inr rfl) (fun A16 => ?_)
        refine js_aload (pc1 := 100) rfl rfl rfl ?_
        refine js_gfr (pc1 := 103) (j := 3) (r := 101) rfl rfl rfl rfl rfl ?_
        refine js_iload (pc1 := 105) rfl rfl rfl ?_
        refine js_iconst (pc1 := 106) rfl rfl ?_
        refine jt_basl (pc1 := 107) rfl rfl rfl rfl (Or.inr rfl) (fun A17 => ?_)
        refine js_lload (pc1 := 109) rfl rfl rfl ?_
        refine js_ldc2 (pc1 := 110) rfl rfl ?_
        refine js_lcmp (pc1 := 111) rfl rfl ?_
        refine ju_ne (pc1 := 114) (t1 := 119) (zt_rg _) rfl rfl rfl (fun c18 => ?_) (fun c18 => ?_)
        · refine js_iload (pc1 := 116) rfl rfl rfl ?_
          refine js_goto (t1 := 120) rfl rfl ?_
          exact je_I rfl (zfit0 _ rfl) rfl hv8
        · refine js_iload (pc1 := 120) rfl rfl rfl ?_
          exact je_I rfl (zfit0 _ rfl) rfl hx2
theorem z_Co_recall_ok{d w : Nat} (N : Nat) (hd : 1 ≤ d) (hw : 64 ≤ w) (x1 : Nat) (A : zA) : zG (z_Co_recall N x1 A) zPV d w 276 0 [some (.inr (.inr (some 49))), some (.inr (.inr (some x1)))] [] A := by
  unfold z_Co_recall
  refine js_aload (pc1 := 1) rfl rfl rfl ?_
  refine js_cP (pc1 := 4) (as := [(.inr (.inr (some 49)))]) (S0 := []) (m := 1) (L0 := [some (.inr (.inr (some 49)))]) rfl rfl rfl rfl rfl rfl rfl rfl (zrc_o rfl rfl) (by omega) (by omega) (z_Co_levelIsThere_ok N (by omega) (by omega) A) (fun v1 _ hv1 => ?_)
  refine ju_eq (pc1 := 7) (t1 := 26) hv1 rfl rfl rfl (fun c2 => ?_) (fun c2 => ?_)
  · exact je_V rfl
  · refine js_aload (pc1 := 8) rfl rfl rfl ?_
    refine js_aload (pc1 := 9) rfl rfl rfl ?_
    refine js_gi (pc1 := 12) (j := 4) rfl rfl rfl rfl ?_
    refine js_iconst (pc1 := 13) rfl rfl ?_
    refine js_isub (pc1 := 14) rfl rfl ?_
    refine jt_aald (pc1 := 15) rfl rfl (fun p3 => ?_)
    refine js_iconst (pc1 := 16) rfl rfl ?_
    refine js_aload (pc1 := 17) rfl rfl rfl ?_
    refine js_gfr (pc1 := 20) (j := 0) (r := 50) rfl rfl rfl rfl rfl ?_
    refine js_iconst (pc1 := 21) rfl rfl ?_
    refine js_iconst (pc1 := 23) rfl rfl ?_
    refine jt_copy (pc1 := 26) rfl rfl (by omega) (by omega) rfl (fun A4 => ?_)
    exact je_V rfl
theorem z_Co_turnToLatter_ok{d w : Nat} (N : Nat) (hd : 2 ≤ d) (hw : 85 ≤ w) (A : zA) : zG (z_Co_turnToLatter N A) zPV d w 233 0 [some (.inr (.inr (some 49)))] [] A := by
  unfold z_Co_turnToLatter
  refine js_aload (pc1 := 1) rfl rfl rfl ?_
  refine js_aload (pc1 := 2) rfl rfl rfl ?_
  refine js_gfr (pc1 := 5) (j := 2) (r := 76) rfl rfl rfl rfl rfl ?_
  refine js_cV (pc1 := 8) (as := [(.inr (.inr (some 49))), (.inr (.inr (some 76)))]) (S0 := []) (m := 2) (L0 := [some (.inr (.inr (some 49))), some (.inr (.inr (some 76)))]) rfl rfl rfl rfl rfl rfl rfl rfl (zrc_o rfl rfl) (by omega) (by omega) (z_Co_keep_ok N (by omega) (by omega) 76 A) (fun A1 _ => ?_)
  refine js_aload (pc1 := 9) rfl rfl rfl ?_
  refine js_aload (pc1 := 10) rfl rfl rfl ?_
  refine js_gfr (pc1 := 13) (j := 1) (r := 51) rfl rfl rfl rfl rfl ?_
  refine js_cV (pc1 := 16) (as := [(.inr (.inr (some 49))), (.inr (.inr (some 51)))]) (S0 := []) (m := 2) (L0 := [some (.inr (.inr (some 49))), some (.inr (.inr (some 51)))]) rfl rfl rfl rfl rfl rfl rfl rfl (zrc_o rfl rfl) (by omega) (by omega) (z_Co_recall_ok N (by omega) (by omega) 51 A1) (fun A2 _ => ?_)
  exact je_V rfl
theorem z_Pt_endOf_ok{d w : Nat} (N : Nat) (hd : 1 ≤ d) (hw : 21 ≤ w) (x0 : Nat) (hx0 : zsh x0 = some (false, 3, 4)) (x1 : Int) (hx1 : zrg x1) (A : zA) : zG (z_Pt_endOf N x0 x1 A) (zPp A) d w 245 0 [some (.inr (.inr (some x0))), some (.inl x1)] [] A := by
  unfold z_Pt_endOf
  refine js_aload (pc1 := 1) rfl rfl rfl ?_
  refine js_aload (pc1 := 2) rfl rfl rfl ?_
  refine js_iload (pc1 := 3) rfl rfl rfl ?_
  refine js_cP (pc1 := 6) (as := [(.inr (.inr (some x0))), (.inl x1)]) (S0 := [(.inr (.inr (some x0)))]) (m := 2) (L0 := [some (.inr (.inr (some x0))), some (.inl x1)]) rfl rfl rfl rfl rfl rfl rfl rfl (zrc_o rfl hx0) (by omega) (by omega) (z_Pt_mate_ok N (by omega) (by omega) x0 hx0 x1 hx1 A) (fun v1 _ hv1 => ?_)
  refine js_cP (pc1 := 9) (as := [(.inr (.inr (some x0))), (.inl v1)]) (S0 := []) (m := 2) (L0 := [some (.inr (.inr (some x0))), some (.inl v1)]) rfl rfl rfl rfl rfl rfl rfl rfl (zrc_o rfl hx0) (by omega) (by omega) (z_Pt_mate_ok N (by omega) (by omega) x0 hx0 v1 hv1 A) (fun v2 _ hv2 => ?_)
  exact je_P rfl (zfit0 _ rfl) rfl hv2
theorem z_Pt_written_16_ok{d w : Nat} (N : Nat) (hd : 1 ≤ d) (hw : 24 ≤ w) (x0 : Nat) (hx0 : zsh x0 = some (false, 3, 4)) (x1 : Int) (hx1 : zrg x1) (A : zA) : zG (z_Pt_written_16 N x0 x1 A) (zPp A) d w 172 16 [some (.inr (.inr (some x0))), some (.inl x1), none] [] A := by
  unfold z_Pt_written_16
  refine js_aload (pc1 := 17) rfl rfl rfl ?_
  refine js_iload (pc1 := 18) rfl rfl rfl ?_
  refine js_iconst (pc1 := 19) rfl rfl ?_
  refine js_cP (pc1 := 22) (as := [(.inr (.inr (some x0))), (.inl x1), (.inl 0)]) (S0 := []) (m := 5) (L0 := [some (.inr (.inr (some x0))), some (.inl x1), some (.inl 0), none, none]) rfl rfl rfl rfl rfl rfl rfl rfl (zrc_o rfl hx0) (by omega) (by omega) (z_Pt_register_ok N (by omega) (by omega) x0 hx0 x1 hx1 0 (zlit rfl) A) (fun v1 _ hv1 => ?_)
  refine js_goto (t1 := 26) rfl rfl ?_
  exact je_P rfl (zfit0 _ rfl) rfl hv1
theorem z_Pt_written_ok{d w : Nat} (N : Nat) (hd : 1 ≤ d) (hw : 24 ≤ w) (x0 : Nat) (hx0 : zsh x0 = some (false, 3, 4)) (x1 : Int) (hx1 : zrg x1) (A : zA) : zG (z_Pt_written N x0 x1 A) (zPp A) d w 172 0 [some (.inr (.inr (some x0))), some (.inl x1), none] [] A := by
  unfold z_Pt_written
  refine js_aload (pc1 := 1) rfl rfl rfl ?_
  refine js_iload (pc1 := 2) rfl rfl rfl ?_
  refine js_cP (pc1 := 5) (as := [(.inr (.inr (some x0))), (.inl x1)]) (S0 := []) (m := 2) (L0 := [some (.inr (.inr (some x0))), some (.inl x1)]) rfl rfl rfl rfl rfl rfl rfl rfl (zrc_o rfl hx0) (by omega) (by omega) (z_Pt_kind_ok N (by omega) (by omega) x0 hx0 x1 hx1 A) (fun v1 _ hv1 => ?_)
  refine js_istore (pc1 := 6) (L1 := [some (.inr (.inr (some x0))), some (.inl x1), some (.inl v1)]) rfl rfl rfl rfl ?_
  refine js_iload (pc1 := 7) rfl rfl rfl ?_
  refine js_iconst (pc1 := 8) rfl rfl ?_
  refine jt_le (pc1 := 11) (t1 := 16) hv1 (zlit rfl) rfl rfl rfl (fun c2 => ?_) (fun c2 => ?_)
  · refine js_iload (pc1 := 12) rfl rfl rfl ?_
    refine js_iconst (pc1 := 13) rfl rfl ?_
    refine jt_ne (pc1 := 16) (t1 := 25) hv1 (zlit rfl) rfl rfl rfl (fun c3 => ?_) (fun c3 => ?_)
    · exact zG_to (L := [some (.inr (.inr (some x0))), some (.inl x1), none]) (S := []) ⟨rfl, ⟨rfl, trivial⟩⟩ (rfl) (z_Pt_written_16_ok N hd hw x0 hx0 x1 hx1 A)
    · refine js_iconst (pc1 := 26) rfl rfl ?_
      exact je_P rfl (zfit0 _ rfl) rfl (zlit rfl)
  · exact zG_to (L := [some (.inr (.inr (some x0))), some (.inl x1), none]) (S := []) ⟨rfl, ⟨rfl, trivial⟩⟩ (rfl) (z_Pt_written_16_ok N hd hw x0 hx0 x1 hx1 A)
theorem z_Ar_rangeCheck_ok{d w : Nat} (N : Nat) (hd : 0 ≤ d) (hw : 0 ≤ w) (x0 : Int) (hx0 : zrg x0) (x1 : Int) (hx1 : zrg x1) (x2 : Int) (hx2 : zrg x2) (A : zA) : zG (z_Ar_rangeCheck N x0 x1 x2 A) zPV d w 281 0 [some (.inl x0), some (.inl x1), some (.inl x2)] [] A := by
  unfold z_Ar_rangeCheck
  refine js_iload (pc1 := 1) rfl rfl rfl ?_
  refine js_iload (pc1 := 2) rfl rfl rfl ?_
  refine jt_le (pc1 := 5) (t1 := 46) hx1 hx2 rfl rfl rfl (fun c1 => ?_) (fun c1 => ?_)
  · exact zG_none
  · refine js_iload (pc1 := 47) rfl rfl rfl ?_
    refine ju_ge (pc1 := 50) (t1 := 59) hx1 rfl rfl rfl (fun c2 => ?_) (fun c2 => ?_)
    · exact zG_none
    · refine js_iload (pc1 := 60) rfl rfl rfl ?_
      refine js_iload (pc1 := 61) rfl rfl rfl ?_
      refine jt_le (pc1 := 64) (t1 := 73) hx2 hx0 rfl rfl rfl (fun c3 => ?_) (fun c3 => ?_)
      · exact zG_none
      · exact je_V rfl
theorem z_Ar_fill3_10_bok{d w : Nat} {r10 : Nat → Int → Int64 → Int → zA → Option zA} (hr10 : ∀ (x0 : Nat) (x2 : Int) (hx2 : zrg x2) (x3 : Int64) (x5 : Int) (hx5 : zrg x5) (A : zA), zG (r10 x0 x2 x3 x5 A) zPV d w 243 10 [some (.inr (.inr (some x0))), none, some (.inl x2), some (.inr (.inl x3)), none, some (.inl x5)] [] A) (N : Nat) (hd : 1 ≤ d) (hw : 22 ≤ w) (x0 : Nat) (x2 : Int) (hx2 : zrg x2) (x3 : Int64) (x5 : Int) (hx5 : zrg x5) (A : zA) : zG (z_Ar_fill3_10_b r10 N x0 x2 x3 x5 A) zPV d w 243 10 [some (.inr (.inr (some x0))), none, some (.inl x2), some (.inr (.inl x3)), none, some (.inl x5)] [] A := by
  unfold z_Ar_fill3_10_b
  refine js_iload (pc1 := 12) rfl rfl rfl ?_
  refine js_iload (pc1 := 13) rfl rfl rfl ?_
  refine jt_ge (pc1 := 16) (t1 := 27) hx5 hx2 rfl rfl rfl (fun c1 => ?_) (fun c1 => ?_)
  · refine js_aload (pc1 := 17) rfl rfl rfl ?_
    refine js_iload (pc1 := 19) rfl rfl rfl ?_
    refine js_lload (pc1 := 20) rfl rfl rfl ?_
    refine jt_lasD (pc1 := 21) rfl rfl (fun A2 => ?_)
    refine js_iinc (pc1 := 24) (L1 := [some (.inr (.inr (some x0))), none, some (.inl x2), some (.inr (.inl x3)), none, some (.inl (x5 + 1))]) rfl rfl rfl rfl ?_
    refine js_goto (t1 := 10) rfl rfl ?_
    exact zG_to (L := [some (.inr (.inr (some x0))), none, some (.inl x2), some (.inr (.inl x3)), none, some (.inl (zw (x5 + 1)))]) (S := []) ⟨rfl, ⟨rfl, ⟨rfl, ⟨zval_w (x5 + 1), trivial⟩⟩⟩⟩ (rfl) (hr10 x0 x2 hx2 x3 (zw (x5 + 1)) (zw_rg (x5 + 1)) A2)
  · exact je_V rfl
theorem z_Ar_fill3_10_lok{d w : Nat} (N : Nat) (hd : 1 ≤ d) (hw : 22 ≤ w) (n : Nat) : ∀ (x0 : Nat) (x2 : Int) (hx2 : zrg x2) (x3 : Int64) (x5 : Int) (hx5 : zrg x5) (A : zA), zG (z_Ar_fill3_10_l N n x0 x2 x3 x5 A) zPV d w 243 10 [some (.inr (.inr (some x0))), none, some (.inl x2), some (.inr (.inl x3)), none, some (.inl x5)] [] A := by
  induction n with
  | zero => intros; exact zG_none
  | succ n ih =>
    intro x0 x2 hx2 x3 x5 hx5 A
    exact z_Ar_fill3_10_bok ih N hd hw x0 x2 hx2 x3 x5 hx5 A
theorem z_Ar_fill3_10_ok{d w : Nat} (N : Nat) (hd : 1 ≤ d) (hw : 22 ≤ w) (x0 : Nat) (x2 : Int) (hx2 : zrg x2) (x3 : Int64) (x5 : Int) (hx5 : zrg x5) (A : zA) : zG (z_Ar_fill3_10 N x0 x2 x3 x5 A) zPV d w 243 10 [some (.inr (.inr (some x0))), none, some (.inl x2), some (.inr (.inl x3)), none, some (.inl x5)] [] A := z_Ar_fill3_10_lok N hd hw N x0 x2 hx2 x3 x5 hx5 A
theorem z_Ar_fill3_ok{d w : Nat} (N : Nat) (hd : 1 ≤ d) (hw : 22 ≤ w) (x0 : Nat) (x1 : Int) (hx1 : zrg x1) (x2 : Int) (hx2 : zrg x2) (x3 : Int64) (A : zA) : zG (z_Ar_fill3 N x0 x1 x2 x3 A) zPV d w 243 0 [some (.inr (.inr (some x0))), some (.inl x1), some (.inl x2), some (.inr (.inl x3)), none, none] [] A := by
  unfold z_Ar_fill3
  refine js_aload (pc1 := 1) rfl rfl rfl ?_
  refine js_lenD (pc1 := 2) rfl rfl (fun v1 hv1 => ?_)
  refine js_iload (pc1 := 3) rfl rfl rfl ?_
  refine js_iload (pc1 := 4) rfl rfl rfl ?_
  refine js_cV (pc1 := 7) (as := [(.inl v1), (.inl x1), (.inl x2)]) (S0 := []) (m := 3) (L0 := [some (.inl v1), some (.inl x1), some (.inl x2)]) rfl rfl rfl rfl rfl rfl rfl rfl (zrc_s rfl) (by omega) (by omega) (z_Ar_rangeCheck_ok N (by omega) (by omega) v1 hv1 x1 hx1 x2 hx2 A) (fun A2 _ => ?_)
  refine js_iload (pc1 := 8) rfl rfl rfl ?_
  refine js_istore (pc1 := 10) (L1 := [some (.inr (.inr (some x0))), some (.inl x1), some (.inl x2), some (.inr (.inl x3)), none, some (.inl x1)]) rfl rfl rfl rfl ?_
  exact zG_to (L := [some (.inr (.inr (some x0))), none, some (.inl x2), some (.inr (.inl x3)), none, some (.inl x1)]) (S := []) ⟨rfl, ⟨rfl, ⟨rfl, ⟨rfl, trivial⟩⟩⟩⟩ (rfl) (z_Ar_fill3_10_ok N hd hw x0 x2 hx2 x3 x1 hx1 A2)
theorem z_Co_forgetCommon_ok{d w : Nat} (N : Nat) (hd : 2 ≤ d) (hw : 47 ≤ w) (A : zA) : zG (z_Co_forgetCommon N A) zPV d w 277 0 [some (.inr (.inr (some 49)))] [] A := by
  unfold z_Co_forgetCommon
  refine js_aload (pc1 := 1) rfl rfl rfl ?_
  refine js_gfr (pc1 := 4) (j := 0) (r := 50) rfl rfl rfl rfl rfl ?_
  refine js_iconst (pc1 := 5) rfl rfl ?_
  refine js_iconst (pc1 := 7) rfl rfl ?_
  refine js_ldc2 (pc1 := 10) rfl rfl ?_
  refine js_cV (pc1 := 13) (as := [(.inr (.inr (some 50))), (.inl 0), (.inl 6), (.inr (.inl (Int64.ofNat 4294967296)))]) (S0 := []) (m := 6) (L0 := [some (.inr (.inr (some 50))), some (.inl 0), some (.inl 6), some (.inr (.inl (Int64.ofNat 4294967296))), none, none]) rfl rfl rfl rfl rfl rfl rfl rfl (zrc_s rfl) (by omega) (by omega) (z_Ar_fill3_ok N (by omega) (by omega) 50 0 (zlit rfl) 6 (zlit rfl) (Int64.ofNat 4294967296) A) (fun A1 _ => ?_)
  exact je_V rfl
theorem z_Co_forgetWritten_11_bok{d w : Nat} {r11 : Nat → Int → Int → zA → Option zA} (hr11 : ∀ (x1 : Nat) (hx1 : zsh x1 = some (false, 3, 4)) (x3 : Int) (hx3 : zrg x3) (x4 : Int) (hx4 : zrg x4) (A : zA), zG (r11 x1 x3 x4 A) zPV d w 234 11 [some (.inr (.inr (some 49))), some (.inr (.inr (some x1))), none, some (.inl x3), some (.inl x4), none] [] A) (N : Nat) (hd : 3 ≤ d) (hw : 67 ≤ w) (x1 : Nat) (hx1 : zsh x1 = some (false, 3, 4)) (x3 : Int) (hx3 : zrg x3) (x4 : Int) (hx4 : zrg x4) (A : zA) : zG (z_Co_forgetWritten_11_b r11 N x1 x3 x4 A) zPV d w 234 11 [some (.inr (.inr (some 49))), some (.inr (.inr (some x1))), none, some (.inl x3), some (.inl x4), none] [] A := by
  unfold z_Co_forgetWritten_11_b
  refine js_iload (pc1 := 13) rfl rfl rfl ?_
  refine js_iload (pc1 := 14) rfl rfl rfl ?_
  refine jt_ge (pc1 := 17) (t1 := 64) hx4 hx3 rfl rfl rfl (fun c1 => ?_) (fun c1 => ?_)
  · refine js_aload (pc1 := 18) rfl rfl rfl ?_
    refine js_iload (pc1 := 20) rfl rfl rfl ?_
    refine js_cP (pc1 := 23) (as := [(.inr (.inr (some x1))), (.inl x4)]) (S0 := []) (m := 3) (L0 := [some (.inr (.inr (some x1))), some (.inl x4), none]) rfl rfl rfl rfl rfl rfl rfl rfl (zrc_o rfl hx1) (by omega) (by omega) (z_Pt_written_ok N (by omega) (by omega) x1 hx1 x4 hx4 A) (fun v2 _ hv2 => ?_)
    refine js_istore (pc1 := 25) (L1 := [some (.inr (.inr (some 49))), some (.inr (.inr (some x1))), none, some (.inl x3), some (.inl x4), some (.inl v2)]) rfl rfl rfl rfl ?_
    refine js_iload (pc1 := 27) rfl rfl rfl ?_
    refine ju_lt (pc1 := 30) (t1 := 43) hv2 rfl rfl rfl (fun c3 => ?_) (fun c3 => ?_)
    · refine js_aload (pc1 := 44) rfl rfl rfl ?_
      refine js_iload (pc1 := 46) rfl rfl rfl ?_
      refine js_cP (pc1 := 49) (as := [(.inr (.inr (some x1))), (.inl x4)]) (S0 := []) (m := 2) (L0 := [some (.inr (.inr (some x1))), some (.inl x4)]) rfl rfl rfl rfl rfl rfl rfl rfl (zrc_o rfl hx1) (by omega) (by omega) (z_Pt_kind_ok N (by omega) (by omega) x1 hx1 x4 hx4 A) (fun v4 _ hv4 => ?_)
      refine js_iconst (pc1 := 51) rfl rfl ?_
      refine jt_ne (pc1 := 54) (t1 := 58) hv4 (zlit rfl) rfl rfl rfl (fun c5 => ?_) (fun c5 => ?_)
      · refine js_aload (pc1 := 55) rfl rfl rfl ?_
        refine js_cV (pc1 := 58) (as := [(.inr (.inr (some 49)))]) (S0 := []) (m := 1) (L0 := [some (.inr (.inr (some 49)))]) rfl rfl rfl rfl rfl rfl rfl rfl (zrc_o rfl rfl) (by omega) (by omega) (z_Co_forgetCommon_ok N (by omega) (by omega) A) (fun A6 _ => ?_)
        refine js_iinc (pc1 := 61) (L1 := [some (.inr (.inr (some 49))), some (.inr (.inr (some x1))), none, some (.inl x3), some (.inl (x4 + 1)), some (.inl v2)]) rfl rfl rfl rfl ?_
        refine js_goto (t1 := 11) rfl rfl ?_
        exact zG_to (L := [some (.inr (.inr (some 49))), some (.inr (.inr (some x1))), none, some (.inl x3), some (.inl (zw (x4 + 1))), none]) (S := []) ⟨rfl, ⟨rfl, ⟨rfl, ⟨zval_w (x4 + 1), trivial⟩⟩⟩⟩ (rfl) (hr11 x1 hx1 x3 hx3 (zw (x4 + 1)) (zw_rg (x4 + 1)) A6)
      · refine js_iinc (pc1 := 61) (L1 := [some (.inr (.inr (some 49))), some (.inr (.inr (some x1))), none, some (.inl x3), some (.inl (x4 + 1)), some (.inl v2)]) rfl rfl rfl rfl ?_
        refine js_goto (t1 := 11) rfl rfl ?_
        exact zG_to (L := [some (.inr (.inr (some 49))), some (.inr (.inr (some x1))), none, some (.inl x3), some (.inl (zw (x4 + 1))), none]) (S := []) ⟨rfl, ⟨rfl, ⟨rfl, ⟨zval_w (x4 + 1), trivial⟩⟩⟩⟩ (rfl) (hr11 x1 hx1 x3 hx3 (zw (x4 + 1)) (zw_rg (x4 + 1)) A)
    · refine js_aload (pc1 := 31) rfl rfl rfl ?_
      refine js_gfr (pc1 := 34) (j := 0) (r := 50) rfl rfl rfl rfl rfl ?_
      refine js_iload (pc1 := 36) rfl rfl rfl ?_
      refine js_ldc2 (pc1 := 39) rfl rfl ?_
      refine jt_las (pc1 := 40) rfl rfl rfl rfl (fun A7 => ?_)
      refine js_goto (t1 := 58) rfl rfl ?_
      refine js_iinc (pc1 := 61) (L1 := [some (.inr (.inr (some 49))), some (.inr (.inr (some x1))), none, some (.inl x3), some (.inl (x4 + 1)), some (.inl v2)]) rfl rfl rfl rfl ?_
      refine js_goto (t1 := 11) rfl rfl ?_
      exact zG_to (L := [some (.inr (.inr (some 49))), some (.inr (.inr (some x1))), none, some (.inl x3), some (.inl (zw (x4 + 1))), none]) (S := []) ⟨rfl, ⟨rfl, ⟨rfl, ⟨zval_w (x4 + 1), trivial⟩⟩⟩⟩ (rfl) (hr11 x1 hx1 x3 hx3 (zw (x4 + 1)) (zw_rg (x4 + 1)) A7)
  · exact je_V rfl
theorem z_Co_forgetWritten_11_lok{d w : Nat} (N : Nat) (hd : 3 ≤ d) (hw : 67 ≤ w) (n : Nat) : ∀ (x1 : Nat) (hx1 : zsh x1 = some (false, 3, 4)) (x3 : Int) (hx3 : zrg x3) (x4 : Int) (hx4 : zrg x4) (A : zA), zG (z_Co_forgetWritten_11_l N n x1 x3 x4 A) zPV d w 234 11 [some (.inr (.inr (some 49))), some (.inr (.inr (some x1))), none, some (.inl x3), some (.inl x4), none] [] A := by
  induction n with
  | zero => intros; exact zG_none
  | succ n ih =>
    intro x1 hx1 x3 hx3 x4 hx4 A
    exact z_Co_forgetWritten_11_bok ih N hd hw x1 hx1 x3 hx3 x4 hx4 A
theorem z_Co_forgetWritten_11_ok{d w : Nat} (N : Nat) (hd : 3 ≤ d) (hw : 67 ≤ w) (x1 : Nat) (hx1 : zsh x1 = some (false, 3, 4)) (x3 : Int) (hx3 : zrg x3) (x4 : Int) (hx4 : zrg x4) (A : zA) : zG (z_Co_forgetWritten_11 N x1 x3 x4 A) zPV d w 234 11 [some (.inr (.inr (some 49))), some (.inr (.inr (some x1))), none, some (.inl x3), some (.inl x4), none] [] A := z_Co_forgetWritten_11_lok N hd hw N x1 hx1 x3 hx3 x4 hx4 A
theorem z_Co_forgetWritten_ok{d w : Nat} (N : Nat) (hd : 3 ≤ d) (hw : 67 ≤ w) (x1 : Nat) (hx1 : zsh x1 = some (false, 3, 4)) (x2 : Int) (hx2 : zrg x2) (A : zA) : zG (z_Co_forgetWritten N x1 x2 A) zPV d w 234 0 [some (.inr (.inr (some 49))), some (.inr (.inr (some x1))), some (.inl x2), none, none, none] [] A := by
  unfold z_Co_forgetWritten
  refine js_aload (pc1 := 1) rfl rfl rfl ?_
  refine js_iload (pc1 := 2) rfl rfl rfl ?_
  refine js_cP (pc1 := 5) (as := [(.inr (.inr (some x1))), (.inl x2)]) (S0 := []) (m := 2) (L0 := [some (.inr (.inr (some x1))), some (.inl x2)]) rfl rfl rfl rfl rfl rfl rfl rfl (zrc_o rfl hx1) (by omega) (by omega) (z_Pt_endOf_ok N (by omega) (by omega) x1 hx1 x2 hx2 A) (fun v1 _ hv1 => ?_)
  refine js_istore (pc1 := 6) (L1 := [some (.inr (.inr (some 49))), some (.inr (.inr (some x1))), some (.inl x2), some (.inl v1), none, none]) rfl rfl rfl rfl ?_
  refine js_iload (pc1 := 7) rfl rfl rfl ?_
  refine js_iconst (pc1 := 8) rfl rfl ?_
  refine js_iadd (pc1 := 9) rfl rfl ?_
  refine zG_w1 ?_
  refine js_istore (pc1 := 11) (L1 := [some (.inr (.inr (some 49))), some (.inr (.inr (some x1))), some (.inl x2), some (.inl v1), some (.inl (zw (x2 + 1))), none]) rfl rfl rfl rfl ?_
  exact zG_to (L := [some (.inr (.inr (some 49))), some (.inr (.inr (some x1))), none, some (.inl v1), some (.inl (zw (x2 + 1))), none]) (S := []) ⟨rfl, ⟨rfl, ⟨rfl, ⟨rfl, trivial⟩⟩⟩⟩ (rfl) (z_Co_forgetWritten_11_ok N hd hw x1 hx1 v1 hv1 (zw (x2 + 1)) (zw_rg (x2 + 1)) A)
theorem z_Co_close_24_bok{d w : Nat} {r24 : Int → zA → Option zA} (hr24 : ∀ (x2 : Int) (hx2 : zrg x2) (A : zA), zG (r24 x2 A) zPV d w 236 24 [some (.inr (.inr (some 49))), none, some (.inl x2)] [] A) (N : Nat) (hd : 2 ≤ d) (hw : 85 ≤ w) (x2 : Int) (hx2 : zrg x2) (A : zA) : zG (z_Co_close_24_b r24 N x2 A) zPV d w 236 24 [some (.inr (.inr (some 49))), none, some (.inl x2)] [] A := by
  unfold z_Co_close_24_b
  refine js_iload (pc1 := 25) rfl rfl rfl ?_
  refine js_iconst (pc1 := 27) rfl rfl ?_
  refine jt_ge (pc1 := 30) (t1 := 68) hx2 (zlit rfl) rfl rfl rfl (fun c1 => ?_) (fun c1 => ?_)
  · refine js_aload (pc1 := 31) rfl rfl rfl ?_
    refine js_gfr (pc1 := 34) (j := 0) (r := 50) rfl rfl rfl rfl rfl ?_
    refine js_iload (pc1 := 35) rfl rfl rfl ?_
    refine jt_lald (pc1 := 36) rfl rfl rfl (fun v2 => ?_)
    refine js_aload (pc1 := 37) rfl rfl rfl ?_
    refine js_gfr (pc1 := 40) (j := 2) (r := 76) rfl rfl rfl rfl rfl ?_
    refine js_aload (pc1 := 41) rfl rfl rfl ?_
    refine js_gi (pc1 := 44) (j := 4) rfl rfl rfl rfl ?_
    refine js_iconst (pc1 := 45) rfl rfl ?_
    refine js_isub (pc1 := 46) rfl rfl ?_
    refine jt_aald (pc1 := 47) rfl rfl (fun p3 => ?_)
    refine js_iload (pc1 := 48) rfl rfl rfl ?_
    refine jt_laldD (pc1 := 49) rfl rfl (fun v4 => ?_)
    refine js_lcmp (pc1 := 50) rfl rfl ?_
    refine ju_eq (pc1 := 53) (t1 := 62) (zt_rg _) rfl rfl rfl (fun c5 => ?_) (fun c5 => ?_)
    · refine js_iinc (pc1 := 65) (L1 := [some (.inr (.inr (some 49))), none, some (.inl (x2 + 1))]) rfl rfl rfl rfl ?_
      refine js_goto (t1 := 24) rfl rfl ?_
      exact zG_to (L := [some (.inr (.inr (some 49))), none, some (.inl (zw (x2 + 1)))]) (S := []) ⟨rfl, ⟨zval_w (x2 + 1), trivial⟩⟩ (rfl) (hr24 (zw (x2 + 1)) (zw_rg (x2 + 1)) A)
    · refine js_aload (pc1 := 54) rfl rfl rfl ?_
      refine js_gfr (pc1 := 57) (j := 0) (r := 50) rfl rfl rfl rfl rfl ?_
      refine js_iload (pc1 := 58) rfl rfl rfl ?_
      refine js_ldc2 (pc1 := 61) rfl rfl ?_
      refine jt_las (pc1 := 62) rfl rfl rfl rfl (fun A6 => ?_)
      refine js_iinc (pc1 := 65) (L1 := [some (.inr (.inr (some 49))), none, some (.inl (x2 + 1))]) rfl rfl rfl rfl ?_
      refine js_goto (t1 := 24) rfl rfl ?_
      exact zG_to (L := [some (.inr (.inr (some 49))), none, some (.inl (zw (x2 + 1)))]) (S := []) ⟨rfl, ⟨zval_w (x2 + 1), trivial⟩⟩ (rfl) (hr24 (zw (x2 + 1)) (zw_rg (x2 + 1)) A6)
  · refine js_aload (pc1 := 69) rfl rfl rfl ?_
    refine js_dupR (pc1 := 70) rfl rfl ?_
    refine js_gi (pc1 := 73) (j := 4) rfl rfl rfl rfl ?_
    refine js_iconst (pc1 := 74) rfl rfl ?_
    refine js_isub (pc1 := 75) rfl rfl ?_
    refine jt_pi (pc1 := 78) (j := 4) rfl rfl rfl rfl rfl (fun A7 => ?_)
    exact je_V rfl
theorem z_Co_close_24_lok{d w : Nat} (N : Nat) (hd : 2 ≤ d) (hw : 85 ≤ w) (n : Nat) : ∀ (x2 : Int) (hx2 : zrg x2) (A : zA), zG (z_Co_close_24_l N n x2 A) zPV d w 236 24 [some (.inr (.inr (some 49))), none, some (.inl x2)] [] A := by
  induction n with
  | zero => intros; exact zG_none
  | succ n ih =>
    intro x2 hx2 A
    exact z_Co_close_24_bok ih N hd hw x2 hx2 A
theorem z_Co_close_24_ok{d w : Nat} (N : Nat) (hd : 2 ≤ d) (hw : 85 ≤ w) (x2 : Int) (hx2 : zrg x2) (A : zA) : zG (z_Co_close_24 N x2 A) zPV d w 236 24 [some (.inr (.inr (some 49))), none, some (.inl x2)] [] A := z_Co_close_24_lok N hd hw N x2 hx2 A
theorem z_Co_close_ok{d w : Nat} (N : Nat) (hd : 2 ≤ d) (hw : 85 ≤ w) (x1 : Int) (hx1 : zrg x1) (A : zA) : zG (z_Co_close N x1 A) zPV d w 236 0 [some (.inr (.inr (some 49))), some (.inl x1), none] [] A := by
  unfold z_Co_close
  refine js_iload (pc1 := 1) rfl rfl rfl ?_
  refine ju_ne (pc1 := 4) (t1 := 15) hx1 rfl rfl rfl (fun c1 => ?_) (fun c1 => ?_)
  · refine js_aload (pc1 := 5) rfl rfl rfl ?_
    refine js_aload (pc1 := 6) rfl rfl rfl ?_
    refine js_gfr (pc1 := 9) (j := 1) (r := 51) rfl rfl rfl rfl rfl ?_
    refine js_cV (pc1 := 12) (as := [(.inr (.inr (some 49))), (.inr (.inr (some 51)))]) (S0 := []) (m := 2) (L0 := [some (.inr (.inr (some 49))), some (.inr (.inr (some 51)))]) rfl rfl rfl rfl rfl rfl rfl rfl (zrc_o rfl rfl) (by omega) (by omega) (z_Co_recall_ok N (by omega) (by omega) 51 A) (fun A2 _ => ?_)
    refine js_goto (t1 := 68) rfl rfl ?_
    refine js_aload (pc1 := 69) rfl rfl rfl ?_
    refine js_dupR (pc1 := 70) rfl rfl ?_
    refine js_gi (pc1 := 73) (j := 4) rfl rfl rfl rfl ?_
    refine js_iconst (pc1 := 74) rfl rfl ?_
    refine js_isub (pc1 := 75) rfl rfl ?_
    refine jt_pi (pc1 := 78) (j := 4) rfl rfl rfl rfl rfl (fun A3 => ?_)
    exact je_V rfl
  · refine js_aload (pc1 := 16) rfl rfl rfl ?_
    refine js_cP (pc1 := 19) (as := [(.inr (.inr (some 49)))]) (S0 := []) (m := 1) (L0 := [some (.inr (.inr (some 49)))]) rfl rfl rfl rfl rfl rfl rfl rfl (zrc_o rfl rfl) (by omega) (by omega) (z_Co_levelIsThere_ok N (by omega) (by omega) A) (fun v4 _ hv4 => ?_)
    refine ju_eq (pc1 := 22) (t1 := 68) hv4 rfl rfl rfl (fun c5 => ?_) (fun c5 => ?_)
    · refine js_aload (pc1 := 69) rfl rfl rfl ?_
      refine js_dupR (pc1 := 70) rfl rfl ?_
      refine js_gi (pc1 := 73) (j := 4) rfl rfl rfl rfl ?_
      refine js_iconst (pc1 := 74) rfl rfl ?_
      refine js_isub (pc1 := 75) rfl rfl ?_
      refine jt_pi (pc1 := 78) (j := 4) rfl rfl rfl rfl rfl (fun A6 => ?_)
      exact je_V rfl
    · refine js_iconst (pc1 := 23) rfl rfl ?_
      refine js_istore (pc1 := 24) (L1 := [some (.inr (.inr (some 49))), some (.inl x1), some (.inl 0)]) rfl rfl rfl rfl ?_
      exact zG_to (L := [some (.inr (.inr (some 49))), none, some (.inl 0)]) (S := []) ⟨rfl, ⟨rfl, trivial⟩⟩ (rfl) (z_Co_close_24_ok N hd hw 0 (zlit rfl) A)
theorem z_PC_workOf_ok{d w : Nat} (N : Nat) (hd : 0 ≤ d) (hw : 0 ≤ w) (x0 : Int) (hx0 : zrg x0) (x1 : Int) (hx1 : zrg x1) (x2 : Int) (hx2 : zrg x2) (A : zA) : zG (z_PC_workOf N x0 x1 x2 A) (zPp A) d w 267 0 [some (.inl x0), some (.inl x1), some (.inl x2)] [] A := by
  unfold z_PC_workOf
  refine js_iload (pc1 := 1) rfl rfl rfl ?_
  refine zG_ite (fun c1 => ?_) (fun c1 => ?_)
  · refine js_tsw (t1 := 36) rfl c1 (zlit rfl) (by decide) ?_
    refine js_iload (pc1 := 37) rfl rfl rfl ?_
    refine js_iload (pc1 := 38) rfl rfl rfl ?_
    refine js_iadd (pc1 := 39) rfl rfl ?_
    exact je_P rfl (zfit0 _ rfl) (zval_w (x1 + x2)) (zw_rg (x1 + x2))
  refine zG_ite (fun c2 => ?_) (fun c2 => ?_)
  · refine js_tsw (t1 := 40) rfl c2 (zlit rfl) (by decide) ?_
    refine js_iload (pc1 := 41) rfl rfl rfl ?_
    refine js_iload (pc1 := 42) rfl rfl rfl ?_
    refine js_isub (pc1 := 43) rfl rfl ?_
    exact je_P rfl (zfit0 _ rfl) (zval_w (x1 - x2)) (zw_rg (x1 - x2))
  refine zG_ite (fun c3 => ?_) (fun c3 => ?_)
  · refine js_tsw (t1 := 44) rfl c3 (zlit rfl) (by decide) ?_
    refine js_iload (pc1 := 45) rfl rfl rfl ?_
    refine js_iload (pc1 := 46) rfl rfl rfl ?_
    refine js_imul (pc1 := 47) rfl rfl ?_
    exact je_P rfl (zfit0 _ rfl) (zval_w (x1 * x2)) (zw_rg (x1 * x2))
  refine zG_ite (fun c5 => ?_) (fun c5 => ?_)
  · refine js_tsw (t1 := 48) rfl c5 (zlit rfl) (by decide) ?_
    refine js_iload (pc1 := 49) rfl rfl rfl ?_
    refine ju_ne (pc1 := 52) (t1 := 56) hx2 rfl rfl rfl (fun c4 => ?_) (fun c4 => ?_)
    · refine js_iconst (pc1 := 53) rfl rfl ?_
      refine js_goto (t1 := 59) rfl rfl ?_
      exact je_P rfl (zfit0 _ rfl) rfl (zlit rfl)
    · refine js_iload (pc1 := 57) rfl rfl rfl ?_
      refine js_iload (pc1 := 58) rfl rfl rfl ?_
      refine js_idiv (pc1 := 59) rfl rfl ?_
      exact je_P rfl (zfit0 _ rfl) rfl (zt_rg _)
  refine zG_ite (fun c7 => ?_) (fun c7 => ?_)
  · refine js_tsw (t1 := 60) rfl c7 (zlit rfl) (by decide) ?_
    refine js_iload (pc1 := 61) rfl rfl rfl ?_
    refine js_iload (pc1 := 62) rfl rfl rfl ?_
    refine jt_ge (pc1 := 65) (t1 := 69) hx1 hx2 rfl rfl rfl (fun c6 => ?_) (fun c6 => ?_)
    · refine js_iconst (pc1 := 66) rfl rfl ?_
      refine js_goto (t1 := 70) rfl rfl ?_
      exact je_P rfl (zfit0 _ rfl) rfl (zlit rfl)
    · refine js_iconst (pc1 := 70) rfl rfl ?_
      exact je_P rfl (zfit0 _ rfl) rfl (zlit rfl)
  refine js_tswd (t1 := 71) rfl hx0 (by omega) rfl ?_
  refine js_iload (pc1 := 72) rfl rfl rfl ?_
  refine js_iload (pc1 := 73) rfl rfl rfl ?_
  refine jt_ne (pc1 := 76) (t1 := 80) hx1 hx2 rfl rfl rfl (fun c8 => ?_) (fun c8 => ?_)
  · refine js_iconst (pc1 := 77) rfl rfl ?_
    refine js_goto (t1 := 81) rfl rfl ?_
    exact je_P rfl (zfit0 _ rfl) rfl (zlit rfl)
  · refine js_iconst (pc1 := 81) rfl rfl ?_
    exact je_P rfl (zfit0 _ rfl) rfl (zlit rfl)
theorem z_Co_worked_31_ok{d w : Nat} (N : Nat) (hd : 1 ≤ d) (hw : 22 ≤ w) (x0 : Int) (hx0 : zrg x0) (x1 : Int64) (x3 : Int64) (A : zA) : zG (z_Co_worked_31 N x0 x1 x3 A) (zPJ A) d w 300 31 [some (.inl x0), some (.inr (.inl x1)), none, some (.inr (.inl x3)), none] [] A := by
  unfold z_Co_worked_31
  refine js_iload (pc1 := 32) rfl rfl rfl ?_
  refine js_lload (pc1 := 33) rfl rfl rfl ?_
  refine js_l2i (pc1 := 34) rfl rfl ?_
  refine js_lload (pc1 := 35) rfl rfl rfl ?_
  refine js_l2i (pc1 := 36) rfl rfl ?_
  refine js_cP (pc1 := 39) (as := [(.inl x0), (.inl (x1.toInt32.toInt)), (.inl (x3.toInt32.toInt))]) (S0 := []) (m := 3) (L0 := [some (.inl x0), some (.inl (x1.toInt32.toInt)), some (.inl (x3.toInt32.toInt))]) rfl rfl rfl rfl rfl rfl rfl rfl (zrc_s rfl) (by omega) (by omega) (z_PC_workOf_ok N (by omega) (by omega) x0 hx0 (x1.toInt32.toInt) (zt_rg _) (x3.toInt32.toInt) (zt_rg _) A) (fun v1 _ hv1 => ?_)
  refine js_i2l (pc1 := 40) rfl rfl ?_
  exact je_J rfl
theorem z_Co_worked_ok{d w : Nat} (N : Nat) (hd : 1 ≤ d) (hw : 22 ≤ w) (x0 : Int) (hx0 : zrg x0) (x1 : Int64) (x3 : Int64) (A : zA) : zG (z_Co_worked N x0 x1 x3 A) (zPJ A) d w 300 0 [some (.inl x0), some (.inr (.inl x1)), none, some (.inr (.inl x3)), none] [] A := by
  unfold z_Co_worked
  refine js_lload (pc1 := 1) rfl rfl rfl ?_
  refine js_ldc2 (pc1 := 4) rfl rfl ?_
  refine js_lcmp (pc1 := 5) rfl rfl ?_
  refine ju_eq (pc1 := 8) (t1 := 27) (zt_rg _) rfl rfl rfl (fun c1 => ?_) (fun c1 => ?_)
  · refine js_ldc2 (pc1 := 30) rfl rfl ?_
    exact je_J rfl
  · refine js_lload (pc1 := 9) rfl rfl rfl ?_
    refine js_ldc2 (pc1 := 12) rfl rfl ?_
    refine js_lcmp (pc1 := 13) rfl rfl ?_
    refine ju_eq (pc1 := 16) (t1 := 27) (zt_rg _) rfl rfl rfl (fun c2 => ?_) (fun c2 => ?_)
    · refine js_ldc2 (pc1 := 30) rfl rfl ?_
      exact je_J rfl
    · refine js_iload (pc1 := 17) rfl rfl rfl ?_
      refine js_iconst (pc1 := 18) rfl rfl ?_
      refine jt_ne (pc1 := 21) (t1 := 31) hx0 (zlit rfl) rfl rfl rfl (fun c3 => ?_) (fun c3 => ?_)
      · refine js_lload (pc1 := 22) rfl rfl rfl ?_
        refine js_ldc2 (pc1 := 23) rfl rfl ?_
        refine js_lcmp (pc1 := 24) rfl rfl ?_
        refine ju_ne (pc1 := 27) (t1 := 31) (zt_rg _) rfl rfl rfl (fun c4 => ?_) (fun c4 => ?_)
        · refine js_ldc2 (pc1 := 30) rfl rfl ?_
          exact je_J rfl
        · exact z_Co_worked_31_ok N hd hw x0 hx0 x1 x3 A
      · exact z_Co_worked_31_ok N hd hw x0 hx0 x1 x3 A
theorem z_Co_valueWritten_ok{d w : Nat} (N : Nat) (hd : 2 ≤ d) (hw : 46 ≤ w) (x1 : Nat) (hx1 : zsh x1 = some (false, 3, 4)) (x2 : Int) (hx2 : zrg x2) (A : zA) : zG (z_Co_valueWritten N x1 x2 A) (zPJ A) d w 279 0 [some (.inr (.inr (some 49))), some (.inr (.inr (some x1))), some (.inl x2)] [] A := by
  unfold z_Co_valueWritten
  refine js_aload (pc1 := 1) rfl rfl rfl ?_
  refine js_iload (pc1 := 2) rfl rfl rfl ?_
  refine js_cP (pc1 := 5) (as := [(.inr (.inr (some x1))), (.inl x2)]) (S0 := []) (m := 2) (L0 := [some (.inr (.inr (some x1))), some (.inl x2)]) rfl rfl rfl rfl rfl rfl rfl rfl (zrc_o rfl hx1) (by omega) (by omega) (z_Pt_kind_ok N (by omega) (by omega) x1 hx1 x2 hx2 A) (fun v1 _ hv1 => ?_)
  refine zG_ite (fun c3 => ?_) (fun c3 => ?_)
  · refine js_tsw (t1 := 32) rfl c3 (zlit rfl) (by decide) ?_
    refine js_aload (pc1 := 33) rfl rfl rfl ?_
    refine js_iload (pc1 := 34) rfl rfl rfl ?_
    refine js_iconst (pc1 := 35) rfl rfl ?_
    refine js_cP (pc1 := 38) (as := [(.inr (.inr (some x1))), (.inl x2), (.inl 1)]) (S0 := []) (m := 4) (L0 := [some (.inr (.inr (some x1))), some (.inl x2), some (.inl 1), none]) rfl rfl rfl rfl rfl rfl rfl rfl (zrc_o rfl hx1) (by omega) (by omega) (z_Pt_number_ok N (by omega) (by omega) x1 hx1 x2 hx2 1 (zlit rfl) A) (fun v2 _ hv2 => ?_)
    refine js_i2l (pc1 := 39) rfl rfl ?_
    exact je_J rfl
  refine zG_ite (fun c6 => ?_) (fun c6 => ?_)
  · refine js_tsw (t1 := 40) rfl c6 (zlit rfl) (by decide) ?_
    refine js_aload (pc1 := 41) rfl rfl rfl ?_
    refine js_gfr (pc1 := 44) (j := 0) (r := 50) rfl rfl rfl rfl rfl ?_
    refine js_aload (pc1 := 45) rfl rfl rfl ?_
    refine js_iload (pc1 := 46) rfl rfl rfl ?_
    refine js_iconst (pc1 := 47) rfl rfl ?_
    refine js_cP (pc1 := 50) (as := [(.inr (.inr (some x1))), (.inl x2), (.inl 1)]) (S0 := [(.inr (.inr (some 50)))]) (m := 5) (L0 := [some (.inr (.inr (some x1))), some (.inl x2), some (.inl 1), none, none]) rfl rfl rfl rfl rfl rfl rfl rfl (zrc_o rfl hx1) (by omega) (by omega) (z_Pt_register_ok N (by omega) (by omega) x1 hx1 x2 hx2 1 (zlit rfl) A) (fun v4 _ hv4 => ?_)
    refine jt_lald (pc1 := 51) rfl rfl rfl (fun v5 => ?_)
    exact je_J rfl
  refine zG_ite (fun c13 => ?_) (fun c13 => ?_)
  · refine js_tsw (t1 := 52) rfl c13 (zlit rfl) (by decide) ?_
    refine js_aload (pc1 := 53) rfl rfl rfl ?_
    refine js_iload (pc1 := 54) rfl rfl rfl ?_
    refine js_iconst (pc1 := 55) rfl rfl ?_
    refine js_cP (pc1 := 58) (as := [(.inr (.inr (some x1))), (.inl x2), (.inl 3)]) (S0 := []) (m := 4) (L0 := [some (.inr (.inr (some x1))), some (.inl x2), some (.inl 3), none]) rfl rfl rfl rfl rfl rfl rfl rfl (zrc_o rfl hx1) (by omega) (by omega) (z_Pt_number_ok N (by omega) (by omega) x1 hx1 x2 hx2 3 (zlit rfl) A) (fun v7 _ hv7 => ?_)
    refine js_aload (pc1 := 59) rfl rfl rfl ?_
    refine js_gfr (pc1 := 62) (j := 0) (r := 50) rfl rfl rfl rfl rfl ?_
    refine js_aload (pc1 := 63) rfl rfl rfl ?_
    refine js_iload (pc1 := 64) rfl rfl rfl ?_
    refine js_iconst (pc1 := 65) rfl rfl ?_
    refine js_cP (pc1 := 68) (as := [(.inr (.inr (some x1))), (.inl x2), (.inl 1)]) (S0 := [(.inr (.inr (some 50))), (.inl v7)]) (m := 5) (L0 := [some (.inr (.inr (some x1))), some (.inl x2), some (.inl 1), none, none]) rfl rfl rfl rfl rfl rfl rfl rfl (zrc_o rfl hx1) (by omega) (by omega) (z_Pt_register_ok N (by omega) (by omega) x1 hx1 x2 hx2 1 (zlit rfl) A) (fun v8 _ hv8 => ?_)
    refine jt_lald (pc1 := 69) rfl rfl rfl (fun v9 => ?_)
    refine js_aload (pc1 := 70) rfl rfl rfl ?_
    refine js_gfr (pc1 := 73) (j := 0) (r := 50) rfl rfl rfl rfl rfl ?_
    refine js_aload (pc1 := 74) rfl rfl rfl ?_
    refine js_iload (pc1 := 75) rfl rfl rfl ?_
    refine js_iconst (pc1 := 76) rfl rfl ?_
    refine js_cP (pc1 := 79) (as := [(.inr (.inr (some x1))), (.inl x2), (.inl 2)]) (S0 := [(.inr (.inr (some 50))), (.inr (.inl v9)), (.inl v7)]) (m := 5) (L0 := [some (.inr (.inr (some x1))), some (.inl x2), some (.inl 2), none, none]) rfl rfl rfl rfl rfl rfl rfl rfl (zrc_o rfl hx1) (by omega) (by omega) (z_Pt_register_ok N (by omega) (by omega) x1 hx1 x2 hx2 2 (zlit rfl) A) (fun v10 _ hv10 => ?_)
    refine jt_lald (pc1 := 80) rfl rfl rfl (fun v11 => ?_)
    refine js_cJ (pc1 := 83) (as := [(.inl v7), (.inr (.inl v9)), (.inr (.inl v11))]) (S0 := []) (m := 5) (L0 := [some (.inl v7), some (.inr (.inl v9)), none, some (.inr (.inl v11)), none]) rfl rfl rfl rfl rfl rfl rfl rfl (zrc_s rfl) (by omega) (by omega) (z_Co_worked_ok N (by omega) (by omega) v7 hv7 v9 v11 A) (fun v12 _ => ?_)
    exact je_J rfl
  refine js_tswd (t1 := 84) rfl hv1 (by omega) rfl ?_
  refine js_ldc2 (pc1 := 87) rfl rfl ?_
  exact je_J rfl
theorem z_Co_goOverPlain_66_ok{d w : Nat} (N : Nat) (hd : 4 ≤ d) (hw : 132 ≤ w) (x1 : Nat) (hx1 : zsh x1 = some (false, 3, 4)) (x2 : Int) (hx2 : zrg x2) (x4 : Int64) (x6 : Int) (hx6 : zrg x6) (A : zA) : zG (z_Co_goOverPlain_66 N x1 x2 x4 x6 A) zPV d w 237 66 [some (.inr (.inr (some 49))), some (.inr (.inr (some x1))), some (.inl x2), none, some (.inr (.inl x4)), none, some (.inl x6)] [] A := by
  unfold z_Co_goOverPlain_66
  refine js_iload (pc1 := 68) rfl rfl rfl ?_
  refine ju_lt (pc1 := 71) (t1 := 83) hx6 rfl rfl rfl (fun c1 => ?_) (fun c1 => ?_)
  · refine js_aload (pc1 := 84) rfl rfl rfl ?_
    refine js_iload (pc1 := 85) rfl rfl rfl ?_
    refine js_cP (pc1 := 88) (as := [(.inr (.inr (some x1))), (.inl x2)]) (S0 := []) (m := 2) (L0 := [some (.inr (.inr (some x1))), some (.inl x2)]) rfl rfl rfl rfl rfl rfl rfl rfl (zrc_o rfl hx1) (by omega) (by omega) (z_Pt_kind_ok N (by omega) (by omega) x1 hx1 x2 hx2 A) (fun v2 _ hv2 => ?_)
    refine js_iconst (pc1 := 90) rfl rfl ?_
    refine jt_ne (pc1 := 93) (t1 := 97) hv2 (zlit rfl) rfl rfl rfl (fun c3 => ?_) (fun c3 => ?_)
    · refine js_aload (pc1 := 94) rfl rfl rfl ?_
      refine js_cV (pc1 := 97) (as := [(.inr (.inr (some 49)))]) (S0 := []) (m := 1) (L0 := [some (.inr (.inr (some 49)))]) rfl rfl rfl rfl rfl rfl rfl rfl (zrc_o rfl rfl) (by omega) (by omega) (z_Co_forgetCommon_ok N (by omega) (by omega) A) (fun A4 _ => ?_)
      exact je_V rfl
    · exact je_V rfl
  · refine js_aload (pc1 := 72) rfl rfl rfl ?_
    refine js_gfr (pc1 := 75) (j := 0) (r := 50) rfl rfl rfl rfl rfl ?_
    refine js_iload (pc1 := 77) rfl rfl rfl ?_
    refine js_lload (pc1 := 79) rfl rfl rfl ?_
    refine jt_las (pc1 := 80) rfl rfl rfl rfl (fun A5 => ?_)
    refine js_goto (t1 := 97) rfl rfl ?_
    exact je_V rfl
theorem z_Co_goOverPlain_60_ok{d w : Nat} (N : Nat) (hd : 4 ≤ d) (hw : 132 ≤ w) (x1 : Nat) (hx1 : zsh x1 = some (false, 3, 4)) (x2 : Int) (hx2 : zrg x2) (x3 : Nat) (hx3 : zsh x3 = some (false, 3, 4)) (x4 : Int64) (x6 : Int) (hx6 : zrg x6) (A : zA) : zG (z_Co_goOverPlain_60 N x1 x2 x3 x4 x6 A) zPV d w 237 60 [some (.inr (.inr (some 49))), some (.inr (.inr (some x1))), some (.inl x2), some (.inr (.inr (some x3))), some (.inr (.inl x4)), none, some (.inl x6)] [] A := by
  unfold z_Co_goOverPlain_60
  refine js_aload (pc1 := 61) rfl rfl rfl ?_
  refine js_aload (pc1 := 62) rfl rfl rfl ?_
  refine js_iload (pc1 := 63) rfl rfl rfl ?_
  refine js_cV (pc1 := 66) (as := [(.inr (.inr (some x3))), (.inr (.inr (some x1))), (.inl x2)]) (S0 := []) (m := 3) (L0 := [some (.inr (.inr (some x3))), some (.inr (.inr (some x1))), some (.inl x2)]) rfl rfl rfl rfl rfl rfl rfl rfl (zrc_o rfl hx3) (by omega) (by omega) (z_Pt_addCopy_ok N (by omega) (by omega) x3 hx3 x1 hx1 x2 hx2 A) (fun A1 _ => ?_)
  exact zG_to (L := [some (.inr (.inr (some 49))), some (.inr (.inr (some x1))), some (.inl x2), none, some (.inr (.inl x4)), none, some (.inl x6)]) (S := []) ⟨rfl, ⟨rfl, ⟨rfl, ⟨rfl, ⟨rfl, trivial⟩⟩⟩⟩⟩ (rfl) (z_Co_goOverPlain_66_ok N hd hw x1 hx1 x2 hx2 x4 x6 hx6 A1)
theorem z_Co_goOverPlain_ok{d w : Nat} (N : Nat) (hd : 4 ≤ d) (hw : 132 ≤ w) (x1 : Nat) (hx1 : zsh x1 = some (false, 3, 4)) (x2 : Int) (hx2 : zrg x2) (x3 : Nat) (hx3 : zsh x3 = some (false, 3, 4)) (A : zA) : zG (z_Co_goOverPlain N x1 x2 x3 A) zPV d w 237 0 [some (.inr (.inr (some 49))), some (.inr (.inr (some x1))), some (.inl x2), some (.inr (.inr (some x3))), none, none, none] [] A := by
  unfold z_Co_goOverPlain
  refine js_aload (pc1 := 1) rfl rfl rfl ?_
  refine js_aload (pc1 := 2) rfl rfl rfl ?_
  refine js_iload (pc1 := 3) rfl rfl rfl ?_
  refine js_cJ (pc1 := 6) (as := [(.inr (.inr (some 49))), (.inr (.inr (some x1))), (.inl x2)]) (S0 := []) (m := 3) (L0 := [some (.inr (.inr (some 49))), some (.inr (.inr (some x1))), some (.inl x2)]) rfl rfl rfl rfl rfl rfl rfl rfl (zrc_o rfl rfl) (by omega) (by omega) (z_Co_valueWritten_ok N (by omega) (by omega) x1 hx1 x2 hx2 A) (fun v1 _ => ?_)
  refine js_lstore (pc1 := 8) (L1 := [some (.inr (.inr (some 49))), some (.inr (.inr (some x1))), some (.inl x2), some (.inr (.inr (some x3))), some (.inr (.inl v1)), none, none]) rfl rfl rfl rfl ?_
  refine js_aload (pc1 := 9) rfl rfl rfl ?_
  refine js_iload (pc1 := 10) rfl rfl rfl ?_
  refine js_cP (pc1 := 13) (as := [(.inr (.inr (some x1))), (.inl x2)]) (S0 := []) (m := 3) (L0 := [some (.inr (.inr (some x1))), some (.inl x2), none]) rfl rfl rfl rfl rfl rfl rfl rfl (zrc_o rfl hx1) (by omega) (by omega) (z_Pt_written_ok N (by omega) (by omega) x1 hx1 x2 hx2 A) (fun v2 _ hv2 => ?_)
  refine js_istore (pc1 := 15) (L1 := [some (.inr (.inr (some 49))), some (.inr (.inr (some x1))), some (.inl x2), some (.inr (.inr (some x3))), some (.inr (.inl v1)), none, some (.inl v2)]) rfl rfl rfl rfl ?_
  refine js_iload (pc1 := 17) rfl rfl rfl ?_
  refine ju_lt (pc1 := 20) (t1 := 60) hv2 rfl rfl rfl (fun c3 => ?_) (fun c3 => ?_)
  · exact z_Co_goOverPlain_60_ok N hd hw x1 hx1 x2 hx2 x3 hx3 v1 v2 hv2 A
  · refine js_lload (pc1 := 22) rfl rfl rfl ?_
    refine js_ldc2 (pc1 := 25) rfl rfl ?_
    refine js_lcmp (pc1 := 26) rfl rfl ?_
    refine ju_eq (pc1 := 29) (t1 := 60) (zt_rg _) rfl rfl rfl (fun c4 => ?_) (fun c4 => ?_)
    · exact z_Co_goOverPlain_60_ok N hd hw x1 hx1 x2 hx2 x3 hx3 v1 v2 hv2 A
    · refine js_aload (pc1 := 30) rfl rfl rfl ?_
      refine js_iload (pc1 := 31) rfl rfl rfl ?_
      refine js_cP (pc1 := 34) (as := [(.inr (.inr (some x1))), (.inl x2)]) (S0 := []) (m := 2) (L0 := [some (.inr (.inr (some x1))), some (.inl x2)]) rfl rfl rfl rfl rfl rfl rfl rfl (zrc_o rfl hx1) (by omega) (by omega) (z_Pt_kind_ok N (by omega) (by omega) x1 hx1 x2 hx2 A) (fun v5 _ hv5 => ?_)
      refine ju_eq (pc1 := 37) (t1 := 60) hv5 rfl rfl rfl (fun c6 => ?_) (fun c6 => ?_)
      · exact z_Co_goOverPlain_60_ok N hd hw x1 hx1 x2 hx2 x3 hx3 v1 v2 hv2 A
      · refine js_aload (pc1 := 38) rfl rfl rfl ?_
        refine js_iconst (pc1 := 39) rfl rfl ?_
        refine js_iload (pc1 := 41) rfl rfl rfl ?_
        refine js_lload (pc1 := 43) rfl rfl rfl ?_
        refine js_l2i (pc1 := 44) rfl rfl ?_
        refine js_cV (pc1 := 47) (as := [(.inr (.inr (some x3))), (.inl 0), (.inl v2), (.inl (v1.toInt32.toInt))]) (S0 := []) (m := 5) (L0 := [some (.inr (.inr (some x3))), some (.inl 0), some (.inl v2), some (.inl (v1.toInt32.toInt)), none]) rfl rfl rfl rfl rfl rfl rfl rfl (zrc_o rfl hx3) (by omega) (by omega) (z_Pt_add_ok N (by omega) (by omega) x3 hx3 0 (zlit rfl) v2 hv2 (v1.toInt32.toInt) (zt_rg _) A) (fun A7 _ => ?_)
        refine js_aload (pc1 := 48) rfl rfl rfl ?_
        refine js_dupR (pc1 := 49) rfl rfl ?_
        refine js_gi (pc1 := 52) (j := 5) rfl rfl rfl rfl ?_
        refine js_iconst (pc1 := 53) rfl rfl ?_
        refine js_iadd (pc1 := 54) rfl rfl ?_
        refine jt_pi (pc1 := 57) (j := 5) rfl rfl rfl rfl rfl (fun A8 => ?_)
        refine js_goto (t1 := 66) rfl rfl ?_
        exact zG_to (L := [some (.inr (.inr (some 49))), some (.inr (.inr (some x1))), some (.inl x2), none, some (.inr (.inl v1)), none, some (.inl v2)]) (S := []) ⟨rfl, ⟨rfl, ⟨rfl, ⟨rfl, ⟨rfl, trivial⟩⟩⟩⟩⟩ (rfl) (z_Co_goOverPlain_66_ok N hd hw x1 hx1 x2 hx2 v1 v2 hv2 A8)
