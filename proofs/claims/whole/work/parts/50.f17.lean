theorem z_M_build_28_ok{d w : Nat} {r12 : Int → zA → Option zA} (hr12 : ∀ (x1 : Int) (hx1 : zrg x1) (A : zA), zG (r12 x1 A) zPV d w 67 12 [some (.inr (.inr (some 226))), some (.inl x1), none, none] [] A) (N : Nat) (hd : 4 ≤ d) (hw : 92 ≤ w) (x1 : Int) (hx1 : zrg x1) (s0 : Int) (hs0 : zrg s0) (A : zA) : zG (z_M_build_28 r12 N x1 s0 A) zPV d w 67 28 [some (.inr (.inr (some 226))), some (.inl x1), none, none] [(.inl s0)] A := by
  unfold z_M_build_28
  refine js_istore (pc1 := 29) (L1 := [some (.inr (.inr (some 226))), some (.inl x1), some (.inl s0), none]) rfl rfl rfl rfl ?_
  refine js_aload (pc1 := 30) rfl rfl rfl ?_
  refine js_iload (pc1 := 31) rfl rfl rfl ?_
  refine js_cP (pc1 := 34) (as := [(.inr (.inr (some 226))), (.inl s0)]) (S0 := []) (m := 2) (L0 := [some (.inr (.inr (some 226))), some (.inl s0)]) rfl rfl rfl rfl rfl rfl rfl rfl (zrc_o rfl rfl) (by omega) (by omega) (z_M_isThere_ok N (by omega) (by omega) s0 hs0 A) (fun v1 _ hv1 => ?_)
  refine ju_ne (pc1 := 37) (t1 := 40) hv1 rfl rfl rfl (fun c2 => ?_) (fun c2 => ?_)
  · refine js_goto (t1 := 61) rfl rfl ?_
    refine js_iinc (pc1 := 64) (L1 := [some (.inr (.inr (some 226))), some (.inl (x1 + 1)), some (.inl s0), none]) rfl rfl rfl rfl ?_
    refine js_goto (t1 := 12) rfl rfl ?_
    exact zG_to (L := [some (.inr (.inr (some 226))), some (.inl (zw (x1 + 1))), none, none]) (S := []) ⟨rfl, ⟨zval_w (x1 + 1), trivial⟩⟩ (rfl) (hr12 (zw (x1 + 1)) (zw_rg (x1 + 1)) A)
  · refine js_aload (pc1 := 41) rfl rfl rfl ?_
    refine js_iconst (pc1 := 42) rfl rfl ?_
    refine js_iload (pc1 := 43) rfl rfl rfl ?_
    refine js_cV (pc1 := 46) (as := [(.inr (.inr (some 226))), (.inl 0), (.inl s0)]) (S0 := []) (m := 6) (L0 := [some (.inr (.inr (some 226))), some (.inl 0), some (.inl s0), none, none, none]) rfl rfl rfl rfl rfl rfl rfl rfl (zrc_o rfl rfl) (by omega) (by omega) (z_M_match_ok N (by omega) (by omega) 0 (zlit rfl) s0 hs0 A) (fun A3 _ => ?_)
    refine js_aload (pc1 := 47) rfl rfl rfl ?_
    refine js_gfr (pc1 := 50) (j := 90) (r := 290) rfl rfl rfl rfl rfl ?_
    refine js_iload (pc1 := 51) rfl rfl rfl ?_
    refine js_aload (pc1 := 52) rfl rfl rfl ?_
    refine js_gi (pc1 := 55) (j := 91) rfl rfl rfl rfl ?_
    refine jt_ias (pc1 := 56) rfl rfl rfl rfl (fun A4 => ?_)
    refine js_aload (pc1 := 57) rfl rfl rfl ?_
    refine js_iload (pc1 := 58) rfl rfl rfl ?_
    refine js_cV (pc1 := 61) (as := [(.inr (.inr (some 226))), (.inl s0)]) (S0 := []) (m := 4) (L0 := [some (.inr (.inr (some 226))), some (.inl s0), none, none]) rfl rfl rfl rfl rfl rfl rfl rfl (zrc_o rfl rfl) (by omega) (by omega) (z_M_layPart_ok N (by omega) (by omega) s0 hs0 A4) (fun A5 _ => ?_)
    refine js_iinc (pc1 := 64) (L1 := [some (.inr (.inr (some 226))), some (.inl (x1 + 1)), some (.inl s0), none]) rfl rfl rfl rfl ?_
    refine js_goto (t1 := 12) rfl rfl ?_
    exact zG_to (L := [some (.inr (.inr (some 226))), some (.inl (zw (x1 + 1))), none, none]) (S := []) ⟨rfl, ⟨zval_w (x1 + 1), trivial⟩⟩ (rfl) (hr12 (zw (x1 + 1)) (zw_rg (x1 + 1)) A5)
theorem z_M_build_150_ok{d w : Nat} {r69 : Int → zA → Option zA} (hr69 : ∀ (x1 : Int) (hx1 : zrg x1) (A : zA), zG (r69 x1 A) zPV d w 67 69 [some (.inr (.inr (some 226))), some (.inl x1), none, none] [] A) (N : Nat) (hd : 4 ≤ d) (hw : 92 ≤ w) (x1 : Int) (hx1 : zrg x1) (s1 : Int) (hs1 : zrg s1) (A : zA) : zG (z_M_build_150 r69 N x1 s1 A) zPV d w 67 150 [some (.inr (.inr (some 226))), some (.inl x1), none, none] [(.inl s1), (.inr (.inr (some 226)))] A := by
  unfold z_M_build_150
  refine js_iconst (pc1 := 151) rfl rfl ?_
  refine js_cV (pc1 := 154) (as := [(.inr (.inr (some 226))), (.inl s1), (.inl 0)]) (S0 := []) (m := 3) (L0 := [some (.inr (.inr (some 226))), some (.inl s1), some (.inl 0)]) rfl rfl rfl rfl rfl rfl rfl rfl (zrc_o rfl rfl) (by omega) (by omega) (z_M_tell_ok N (by omega) (by omega) s1 hs1 0 (zlit rfl) A) (fun A1 _ => ?_)
  refine js_iinc (pc1 := 157) (L1 := [some (.inr (.inr (some 226))), some (.inl (x1 + 1)), none, none]) rfl rfl rfl rfl ?_
  refine js_goto (t1 := 69) rfl rfl ?_
  exact zG_to (L := [some (.inr (.inr (some 226))), some (.inl (zw (x1 + 1))), none, none]) (S := []) ⟨rfl, ⟨zval_w (x1 + 1), trivial⟩⟩ (rfl) (hr69 (zw (x1 + 1)) (zw_rg (x1 + 1)) A1)
theorem z_M_build_111_bok{d w : Nat} {r69 : Int → zA → Option zA} (hr69 : ∀ (x1 : Int) (hx1 : zrg x1) (A : zA), zG (r69 x1 A) zPV d w 67 69 [some (.inr (.inr (some 226))), some (.inl x1), none, none] [] A) {r111 : Int → Int → Int → zA → Option zA} (hr111 : ∀ (x1 : Int) (hx1 : zrg x1) (x2 : Int) (hx2 : zrg x2) (x3 : Int) (hx3 : zrg x3) (A : zA), zG (r111 x1 x2 x3 A) zPV d w 67 111 [some (.inr (.inr (some 226))), some (.inl x1), some (.inl x2), some (.inl x3)] [] A) (N : Nat) (hd : 4 ≤ d) (hw : 92 ≤ w) (x1 : Int) (hx1 : zrg x1) (x2 : Int) (hx2 : zrg x2) (x3 : Int) (hx3 : zrg x3) (A : zA) : zG (z_M_build_111_b r69 r111 N x1 x2 x3 A) zPV d w 67 111 [some (.inr (.inr (some 226))), some (.inl x1), some (.inl x2), some (.inl x3)] [] A := by
  unfold z_M_build_111_b
  refine js_iload (pc1 := 112) rfl rfl rfl ?_
  refine js_aload (pc1 := 113) rfl rfl rfl ?_
  refine js_gfr (pc1 := 116) (j := 4) (r := 229) rfl rfl rfl rfl rfl ?_
  refine js_iconst (pc1 := 117) rfl rfl ?_
  refine js_iload (pc1 := 118) rfl rfl rfl ?_
  refine js_cP (pc1 := 121) (as := [(.inl 0), (.inl x2)]) (S0 := [(.inr (.inr (some 229))), (.inl x3)]) (m := 2) (L0 := [some (.inl 0), some (.inl x2)]) rfl rfl rfl rfl rfl rfl rfl rfl (zrc_s rfl) (by omega) (by omega) (z_M_row_ok N (by omega) (by omega) 0 (zlit rfl) x2 hx2 A) (fun v1 _ hv1 => ?_)
  refine jt_ald (pc1 := 122) rfl rfl rfl rfl rfl (fun v2 hv2 => ?_)
  refine jt_ge (pc1 := 125) (t1 := 137) hx3 hv2 rfl rfl rfl (fun c3 => ?_) (fun c3 => ?_)
  · refine js_aload (pc1 := 126) rfl rfl rfl ?_
    refine js_iload (pc1 := 127) rfl rfl rfl ?_
    refine js_iload (pc1 := 128) rfl rfl rfl ?_
    refine js_cV (pc1 := 131) (as := [(.inr (.inr (some 226))), (.inl x2), (.inl x3)]) (S0 := []) (m := 7) (L0 := [some (.inr (.inr (some 226))), some (.inl x2), some (.inl x3), none, none, none, none]) rfl rfl rfl rfl rfl rfl rfl rfl (zrc_o rfl rfl) (by omega) (by omega) (z_M_itemCode_ok N (by omega) (by omega) x2 hx2 x3 hx3 A) (fun A4 _ => ?_)
    refine js_iinc (pc1 := 134) (L1 := [some (.inr (.inr (some 226))), some (.inl x1), some (.inl x2), some (.inl (x3 + 1))]) rfl rfl rfl rfl ?_
    refine js_goto (t1 := 111) rfl rfl ?_
    exact zG_to (L := [some (.inr (.inr (some 226))), some (.inl x1), some (.inl x2), some (.inl (zw (x3 + 1)))]) (S := []) ⟨rfl, ⟨rfl, ⟨rfl, ⟨zval_w (x3 + 1), trivial⟩⟩⟩⟩ (rfl) (hr111 x1 hx1 x2 hx2 (zw (x3 + 1)) (zw_rg (x3 + 1)) A4)
  · refine js_aload (pc1 := 138) rfl rfl rfl ?_
    refine js_iload (pc1 := 139) rfl rfl rfl ?_
    refine js_iconst (pc1 := 140) rfl rfl ?_
    refine jt_ne (pc1 := 143) (t1 := 148) hx2 (zlit rfl) rfl rfl rfl (fun c5 => ?_) (fun c5 => ?_)
    · refine js_iconst (pc1 := 145) rfl rfl ?_
      refine js_goto (t1 := 150) rfl rfl ?_
      exact zG_to (L := [some (.inr (.inr (some 226))), some (.inl x1), none, none]) (S := [(.inl 17), (.inr (.inr (some 226)))]) ⟨rfl, ⟨rfl, trivial⟩⟩ (rfl) (z_M_build_150_ok hr69 N hd hw x1 hx1 17 (zlit rfl) A)
    · refine js_iconst (pc1 := 150) rfl rfl ?_
      exact zG_to (L := [some (.inr (.inr (some 226))), some (.inl x1), none, none]) (S := [(.inl 16), (.inr (.inr (some 226)))]) ⟨rfl, ⟨rfl, trivial⟩⟩ (rfl) (z_M_build_150_ok hr69 N hd hw x1 hx1 16 (zlit rfl) A)
theorem z_M_build_111_lok{d w : Nat} {r69 : Int → zA → Option zA} (hr69 : ∀ (x1 : Int) (hx1 : zrg x1) (A : zA), zG (r69 x1 A) zPV d w 67 69 [some (.inr (.inr (some 226))), some (.inl x1), none, none] [] A) (N : Nat) (hd : 4 ≤ d) (hw : 92 ≤ w) (n : Nat) : ∀ (x1 : Int) (hx1 : zrg x1) (x2 : Int) (hx2 : zrg x2) (x3 : Int) (hx3 : zrg x3) (A : zA), zG (z_M_build_111_l r69 N n x1 x2 x3 A) zPV d w 67 111 [some (.inr (.inr (some 226))), some (.inl x1), some (.inl x2), some (.inl x3)] [] A := by
  induction n with
  | zero => intros; exact zG_none
  | succ n ih =>
    intro x1 hx1 x2 hx2 x3 hx3 A
    exact z_M_build_111_bok hr69 ih N hd hw x1 hx1 x2 hx2 x3 hx3 A
theorem z_M_build_111_ok{d w : Nat} {r69 : Int → zA → Option zA} (hr69 : ∀ (x1 : Int) (hx1 : zrg x1) (A : zA), zG (r69 x1 A) zPV d w 67 69 [some (.inr (.inr (some 226))), some (.inl x1), none, none] [] A) (N : Nat) (hd : 4 ≤ d) (hw : 92 ≤ w) (x1 : Int) (hx1 : zrg x1) (x2 : Int) (hx2 : zrg x2) (x3 : Int) (hx3 : zrg x3) (A : zA) : zG (z_M_build_111 r69 N x1 x2 x3 A) zPV d w 67 111 [some (.inr (.inr (some 226))), some (.inl x1), some (.inl x2), some (.inl x3)] [] A := z_M_build_111_lok hr69 N hd hw N x1 hx1 x2 hx2 x3 hx3 A
theorem z_M_build_85_ok{d w : Nat} {r69 : Int → zA → Option zA} (hr69 : ∀ (x1 : Int) (hx1 : zrg x1) (A : zA), zG (r69 x1 A) zPV d w 67 69 [some (.inr (.inr (some 226))), some (.inl x1), none, none] [] A) (N : Nat) (hd : 4 ≤ d) (hw : 92 ≤ w) (x1 : Int) (hx1 : zrg x1) (s0 : Int) (hs0 : zrg s0) (A : zA) : zG (z_M_build_85 r69 N x1 s0 A) zPV d w 67 85 [some (.inr (.inr (some 226))), some (.inl x1), none, none] [(.inl s0)] A := by
  unfold z_M_build_85
  refine js_istore (pc1 := 86) (L1 := [some (.inr (.inr (some 226))), some (.inl x1), some (.inl s0), none]) rfl rfl rfl rfl ?_
  refine js_aload (pc1 := 87) rfl rfl rfl ?_
  refine js_iload (pc1 := 88) rfl rfl rfl ?_
  refine js_cP (pc1 := 91) (as := [(.inr (.inr (some 226))), (.inl s0)]) (S0 := []) (m := 2) (L0 := [some (.inr (.inr (some 226))), some (.inl s0)]) rfl rfl rfl rfl rfl rfl rfl rfl (zrc_o rfl rfl) (by omega) (by omega) (z_M_isThere_ok N (by omega) (by omega) s0 hs0 A) (fun v1 _ hv1 => ?_)
  refine ju_ne (pc1 := 94) (t1 := 97) hv1 rfl rfl rfl (fun c2 => ?_) (fun c2 => ?_)
  · refine js_goto (t1 := 154) rfl rfl ?_
    refine js_iinc (pc1 := 157) (L1 := [some (.inr (.inr (some 226))), some (.inl (x1 + 1)), some (.inl s0), none]) rfl rfl rfl rfl ?_
    refine js_goto (t1 := 69) rfl rfl ?_
    exact zG_to (L := [some (.inr (.inr (some 226))), some (.inl (zw (x1 + 1))), none, none]) (S := []) ⟨rfl, ⟨zval_w (x1 + 1), trivial⟩⟩ (rfl) (hr69 (zw (x1 + 1)) (zw_rg (x1 + 1)) A)
  · refine js_iload (pc1 := 98) rfl rfl rfl ?_
    refine js_iconst (pc1 := 99) rfl rfl ?_
    refine jt_eq (pc1 := 102) (t1 := 109) hs0 (zlit rfl) rfl rfl rfl (fun c3 => ?_) (fun c3 => ?_)
    · refine js_iconst (pc1 := 110) rfl rfl ?_
      refine js_istore (pc1 := 111) (L1 := [some (.inr (.inr (some 226))), some (.inl x1), some (.inl s0), some (.inl 0)]) rfl rfl rfl rfl ?_
      exact z_M_build_111_ok hr69 N hd hw x1 hx1 s0 hs0 0 (zlit rfl) A
    · refine js_aload (pc1 := 103) rfl rfl rfl ?_
      refine js_iconst (pc1 := 104) rfl rfl ?_
      refine js_iconst (pc1 := 106) rfl rfl ?_
      refine js_cV (pc1 := 109) (as := [(.inr (.inr (some 226))), (.inl 2), (.inl 6)]) (S0 := []) (m := 3) (L0 := [some (.inr (.inr (some 226))), some (.inl 2), some (.inl 6)]) rfl rfl rfl rfl rfl rfl rfl rfl (zrc_o rfl rfl) (by omega) (by omega) (z_M_tell_ok N (by omega) (by omega) 2 (zlit rfl) 6 (zlit rfl) A) (fun A4 _ => ?_)
      refine js_iconst (pc1 := 110) rfl rfl ?_
      refine js_istore (pc1 := 111) (L1 := [some (.inr (.inr (some 226))), some (.inl x1), some (.inl s0), some (.inl 0)]) rfl rfl rfl rfl ?_
      exact z_M_build_111_ok hr69 N hd hw x1 hx1 s0 hs0 0 (zlit rfl) A4
theorem z_M_build_69_bok{d w : Nat} {r69 : Int → zA → Option zA} (hr69 : ∀ (x1 : Int) (hx1 : zrg x1) (A : zA), zG (r69 x1 A) zPV d w 67 69 [some (.inr (.inr (some 226))), some (.inl x1), none, none] [] A) (N : Nat) (hd : 4 ≤ d) (hw : 92 ≤ w) (x1 : Int) (hx1 : zrg x1) (A : zA) : zG (z_M_build_69_b r69 N x1 A) zPV d w 67 69 [some (.inr (.inr (some 226))), some (.inl x1), none, none] [] A := by
  unfold z_M_build_69_b
  refine js_iload (pc1 := 70) rfl rfl rfl ?_
  refine js_iconst (pc1 := 71) rfl rfl ?_
  refine jt_ge (pc1 := 74) (t1 := 160) hx1 (zlit rfl) rfl rfl rfl (fun c1 => ?_) (fun c1 => ?_)
  · refine js_iload (pc1 := 75) rfl rfl rfl ?_
    refine ju_ne (pc1 := 78) (t1 := 82) hx1 rfl rfl rfl (fun c2 => ?_) (fun c2 => ?_)
    · refine js_iconst (pc1 := 79) rfl rfl ?_
      refine js_goto (t1 := 85) rfl rfl ?_
      exact z_M_build_85_ok hr69 N hd hw x1 hx1 3 (zlit rfl) A
    · refine js_iload (pc1 := 83) rfl rfl rfl ?_
      refine js_iconst (pc1 := 84) rfl rfl ?_
      refine js_isub (pc1 := 85) rfl rfl ?_
      exact zG_to (L := [some (.inr (.inr (some 226))), some (.inl x1), none, none]) (S := [(.inl (zw (x1 - 1)))]) ⟨rfl, ⟨rfl, trivial⟩⟩ (by simp only [zS, List.map_cons, List.map_nil, zval_w]) (z_M_build_85_ok hr69 N hd hw x1 hx1 (zw (x1 - 1)) (zw_rg (x1 - 1)) A)
  · exact je_V rfl
theorem z_M_build_69_lok{d w : Nat} (N : Nat) (hd : 4 ≤ d) (hw : 92 ≤ w) (n : Nat) : ∀ (x1 : Int) (hx1 : zrg x1) (A : zA), zG (z_M_build_69_l N n x1 A) zPV d w 67 69 [some (.inr (.inr (some 226))), some (.inl x1), none, none] [] A := by
  induction n with
  | zero => intros; exact zG_none
  | succ n ih =>
    intro x1 hx1 A
    exact z_M_build_69_bok ih N hd hw x1 hx1 A
theorem z_M_build_69_ok{d w : Nat} (N : Nat) (hd : 4 ≤ d) (hw : 92 ≤ w) (x1 : Int) (hx1 : zrg x1) (A : zA) : zG (z_M_build_69 N x1 A) zPV d w 67 69 [some (.inr (.inr (some 226))), some (.inl x1), none, none] [] A := z_M_build_69_lok N hd hw N x1 hx1 A
theorem z_M_build_12_bok{d w : Nat} {r12 : Int → zA → Option zA} (hr12 : ∀ (x1 : Int) (hx1 : zrg x1) (A : zA), zG (r12 x1 A) zPV d w 67 12 [some (.inr (.inr (some 226))), some (.inl x1), none, none] [] A) (N : Nat) (hd : 4 ≤ d) (hw : 92 ≤ w) (x1 : Int) (hx1 : zrg x1) (A : zA) : zG (z_M_build_12_b r12 N x1 A) zPV d w 67 12 [some (.inr (.inr (some 226))), some (.inl x1), none, none] [] A := by
  unfold z_M_build_12_b
  refine js_iload (pc1 := 13) rfl rfl rfl ?_
  refine js_iconst (pc1 := 14) rfl rfl ?_
  refine jt_ge (pc1 := 17) (t1 := 67) hx1 (zlit rfl) rfl rfl rfl (fun c1 => ?_) (fun c1 => ?_)
  · refine js_iload (pc1 := 18) rfl rfl rfl ?_
    refine ju_ne (pc1 := 21) (t1 := 25) hx1 rfl rfl rfl (fun c2 => ?_) (fun c2 => ?_)
    · refine js_iconst (pc1 := 22) rfl rfl ?_
      refine js_goto (t1 := 28) rfl rfl ?_
      exact z_M_build_28_ok hr12 N hd hw x1 hx1 3 (zlit rfl) A
    · refine js_iload (pc1 := 26) rfl rfl rfl ?_
      refine js_iconst (pc1 := 27) rfl rfl ?_
      refine js_isub (pc1 := 28) rfl rfl ?_
      exact zG_to (L := [some (.inr (.inr (some 226))), some (.inl x1), none, none]) (S := [(.inl (zw (x1 - 1)))]) ⟨rfl, ⟨rfl, trivial⟩⟩ (by simp only [zS, List.map_cons, List.map_nil, zval_w]) (z_M_build_28_ok hr12 N hd hw x1 hx1 (zw (x1 - 1)) (zw_rg (x1 - 1)) A)
  · refine js_iconst (pc1 := 68) rfl rfl ?_
    refine js_istore (pc1 := 69) (L1 := [some (.inr (.inr (some 226))), some (.inl 0), none, none]) rfl rfl rfl rfl ?_
    exact z_M_build_69_ok N hd hw 0 (zlit rfl) A
theorem z_M_build_12_lok{d w : Nat} (N : Nat) (hd : 4 ≤ d) (hw : 92 ≤ w) (n : Nat) : ∀ (x1 : Int) (hx1 : zrg x1) (A : zA), zG (z_M_build_12_l N n x1 A) zPV d w 67 12 [some (.inr (.inr (some 226))), some (.inl x1), none, none] [] A := by
  induction n with
  | zero => intros; exact zG_none
  | succ n ih =>
    intro x1 hx1 A
    exact z_M_build_12_bok ih N hd hw x1 hx1 A
theorem z_M_build_12_ok{d w : Nat} (N : Nat) (hd : 4 ≤ d) (hw : 92 ≤ w) (x1 : Int) (hx1 : zrg x1) (A : zA) : zG (z_M_build_12 N x1 A) zPV d w 67 12 [some (.inr (.inr (some 226))), some (.inl x1), none, none] [] A := z_M_build_12_lok N hd hw N x1 hx1 A
theorem z_M_build_ok{d w : Nat} (N : Nat) (hd : 4 ≤ d) (hw : 92 ≤ w) (A : zA) : zG (z_M_build N A) zPV d w 67 0 [some (.inr (.inr (some 226))), none, none, none] [] A := by
  unfold z_M_build
  refine js_aload (pc1 := 1) rfl rfl rfl ?_
  refine js_iconst (pc1 := 2) rfl rfl ?_
  refine jt_pi (pc1 := 5) (j := 86) rfl rfl rfl rfl rfl (fun A1 => ?_)
  refine js_aload (pc1 := 6) rfl rfl rfl ?_
  refine js_iconst (pc1 := 7) rfl rfl ?_
  refine jt_pi (pc1 := 10) (j := 91) rfl rfl rfl rfl rfl (fun A2 => ?_)
  refine js_iconst (pc1 := 11) rfl rfl ?_
  refine js_istore (pc1 := 12) (L1 := [some (.inr (.inr (some 226))), some (.inl 0), none, none]) rfl rfl rfl rfl ?_
  exact z_M_build_12_ok N hd hw 0 (zlit rfl) A2
theorem z_M_code_30_ok{d w : Nat} (N : Nat) (hd : 5 ≤ d) (hw : 115 ≤ w) (A : zA) : zG (z_M_code_30 N A) zPI d w 21 30 [some (.inr (.inr (some 226))), none, none] [] A := by
  unfold z_M_code_30
  refine js_aload (pc1 := 31) rfl rfl rfl ?_
  refine js_iconst (pc1 := 32) rfl rfl ?_
  refine js_cI (pc1 := 35) (as := [(.inr (.inr (some 226))), (.inl 1)]) (S0 := []) (m := 2) (L0 := [some (.inr (.inr (some 226))), some (.inl 1)]) rfl rfl rfl rfl rfl rfl rfl rfl (zrc_o rfl rfl) (by omega) (by omega) (z_M_fail_ok N (by omega) (by omega) 1 (zlit rfl) A) (fun v1 A2 _ hv1 => ?_)
  exact je_I rfl (zfit0 _ rfl) rfl hv1
theorem z_M_code_ok{d w : Nat} (N : Nat) (hd : 5 ≤ d) (hw : 115 ≤ w) (x1 : Int) (hx1 : zrg x1) (x2 : Int) (hx2 : zrg x2) (A : zA) : zG (z_M_code N x1 x2 A) zPI d w 21 0 [some (.inr (.inr (some 226))), some (.inl x1), some (.inl x2)] [] A := by
  unfold z_M_code
  refine js_aload (pc1 := 1) rfl rfl rfl ?_
  refine js_iconst (pc1 := 2) rfl rfl ?_
  refine jt_pi (pc1 := 5) (j := 0) rfl rfl rfl rfl rfl (fun A1 => ?_)
  refine js_aload (pc1 := 6) rfl rfl rfl ?_
  refine js_cV (pc1 := 9) (as := [(.inr (.inr (some 226)))]) (S0 := []) (m := 4) (L0 := [some (.inr (.inr (some 226))), none, none, none]) rfl rfl rfl rfl rfl rfl rfl rfl (zrc_o rfl rfl) (by omega) (by omega) (z_M_build_ok N (by omega) (by omega) A1) (fun A2 _ => ?_)
  refine js_iload (pc1 := 10) rfl rfl rfl ?_
  refine ju_lt (pc1 := 13) (t1 := 30) hx1 rfl rfl rfl (fun c3 => ?_) (fun c3 => ?_)
  · exact zG_to (L := [some (.inr (.inr (some 226))), none, none]) (S := []) ⟨rfl, trivial⟩ (rfl) (z_M_code_30_ok N hd hw A2)
  · refine js_iload (pc1 := 14) rfl rfl rfl ?_
    refine js_aload (pc1 := 15) rfl rfl rfl ?_
    refine js_gi (pc1 := 18) (j := 86) rfl rfl rfl rfl ?_
    refine jt_ge (pc1 := 21) (t1 := 30) hx1 (zi_rg _ _ _) rfl rfl rfl (fun c4 => ?_) (fun c4 => ?_)
    · refine js_iload (pc1 := 22) rfl rfl rfl ?_
      refine ju_lt (pc1 := 25) (t1 := 30) hx2 rfl rfl rfl (fun c5 => ?_) (fun c5 => ?_)
      · exact zG_to (L := [some (.inr (.inr (some 226))), none, none]) (S := []) ⟨rfl, trivial⟩ (rfl) (z_M_code_30_ok N hd hw A2)
      · refine js_iload (pc1 := 26) rfl rfl rfl ?_
        refine js_iconst (pc1 := 27) rfl rfl ?_
        refine jt_le (pc1 := 30) (t1 := 36) hx2 (zlit rfl) rfl rfl rfl (fun c6 => ?_) (fun c6 => ?_)
        · exact zG_to (L := [some (.inr (.inr (some 226))), none, none]) (S := []) ⟨rfl, trivial⟩ (rfl) (z_M_code_30_ok N hd hw A2)
        · refine js_iload (pc1 := 37) rfl rfl rfl ?_
          refine ju_ne (pc1 := 40) (t1 := 49) hx2 rfl rfl rfl (fun c7 => ?_) (fun c7 => ?_)
          · refine js_aload (pc1 := 41) rfl rfl rfl ?_
            refine js_gfr (pc1 := 44) (j := 87) (r := 287) rfl rfl rfl rfl rfl ?_
            refine js_iload (pc1 := 45) rfl rfl rfl ?_
            refine jt_ald (pc1 := 46) rfl rfl rfl rfl rfl (fun v8 hv8 => ?_)
            refine js_goto (t1 := 55) rfl rfl ?_
            exact je_I rfl (zfit0 _ rfl) rfl hv8
          · refine js_aload (pc1 := 50) rfl rfl rfl ?_
            refine js_gfr (pc1 := 53) (j := 88) (r := 288) rfl rfl rfl rfl rfl ?_
            refine js_iload (pc1 := 54) rfl rfl rfl ?_
            refine jt_ald (pc1 := 55) rfl rfl rfl rfl rfl (fun v9 hv9 => ?_)
            exact je_I rfl (zfit0 _ rfl) rfl hv9
    · exact zG_to (L := [some (.inr (.inr (some 226))), none, none]) (S := []) ⟨rfl, trivial⟩ (rfl) (z_M_code_30_ok N hd hw A2)
theorem z_PC_feed_ok{d w : Nat} (N : Nat) (hd : 0 ≤ d) (hw : 0 ≤ w) (x1 : Int) (hx1 : zrg x1) (A : zA) : zG (z_PC_feed N x1 A) zPI d w 22 0 [some (.inr (.inr (some 4))), some (.inl x1)] [] A := by
  unfold z_PC_feed
  refine js_aload (pc1 := 1) rfl rfl rfl ?_
  refine js_gfr (pc1 := 4) (j := 10) (r := 214) rfl rfl rfl rfl rfl ?_
  refine js_gi (pc1 := 7) (j := 1) rfl rfl rfl rfl ?_
  refine js_iconst (pc1 := 9) rfl rfl ?_
  refine jt_lt (pc1 := 12) (t1 := 14) (zi_rg _ _ _) (zlit rfl) rfl rfl rfl (fun c1 => ?_) (fun c1 => ?_)
  · refine js_aload (pc1 := 15) rfl rfl rfl ?_
    refine js_gfr (pc1 := 18) (j := 10) (r := 214) rfl rfl rfl rfl rfl ?_
    refine js_gfr (pc1 := 21) (j := 0) (r := 215) rfl rfl rfl rfl rfl ?_
    refine js_aload (pc1 := 22) rfl rfl rfl ?_
    refine js_gfr (pc1 := 25) (j := 10) (r := 214) rfl rfl rfl rfl rfl ?_
    refine js_gi (pc1 := 28) (j := 1) rfl rfl rfl rfl ?_
    refine js_iload (pc1 := 29) rfl rfl rfl ?_
    refine jt_ias (pc1 := 30) rfl rfl rfl rfl (fun A2 => ?_)
    refine js_aload (pc1 := 31) rfl rfl rfl ?_
    refine js_gfr (pc1 := 34) (j := 10) (r := 214) rfl rfl rfl rfl rfl ?_
    refine js_dupR (pc1 := 35) rfl rfl ?_
    refine js_gi (pc1 := 38) (j := 1) rfl rfl rfl rfl ?_
    refine js_iconst (pc1 := 39) rfl rfl ?_
    refine js_iadd (pc1 := 40) rfl rfl ?_
    refine jt_pi (pc1 := 43) (j := 1) rfl rfl rfl rfl rfl (fun A3 => ?_)
    refine js_iconst (pc1 := 44) rfl rfl ?_
    exact je_I rfl (zfit3 rfl (Or.inr rfl)) rfl (zlit rfl)
  · refine js_iconst (pc1 := 13) rfl rfl ?_
    exact je_I rfl (zfit3 rfl (Or.inl rfl)) rfl (zlit rfl)
theorem z_M_feed_ok{d w : Nat} (N : Nat) (hd : 0 ≤ d) (hw : 0 ≤ w) (x1 : Int) (hx1 : zrg x1) (A : zA) : zG (z_M_feed N x1 A) zPI d w 23 0 [some (.inr (.inr (some 226))), some (.inl x1)] [] A := by
  unfold z_M_feed
  refine js_aload (pc1 := 1) rfl rfl rfl ?_
  refine js_iconst (pc1 := 2) rfl rfl ?_
  refine jt_pi (pc1 := 5) (j := 0) rfl rfl rfl rfl rfl (fun A1 => ?_)
  refine js_aload (pc1 := 6) rfl rfl rfl ?_
  refine js_gi (pc1 := 9) (j := 10) rfl rfl rfl rfl ?_
  refine js_iconst (pc1 := 11) rfl rfl ?_
  refine jt_ne (pc1 := 14) (t1 := 16) (zi_rg _ _ _) (zlit rfl) rfl rfl rfl (fun c2 => ?_) (fun c2 => ?_)
  · refine js_iconst (pc1 := 15) rfl rfl ?_
    exact je_I rfl (zfit3 rfl (Or.inl rfl)) rfl (zlit rfl)
  · refine js_aload (pc1 := 17) rfl rfl rfl ?_
    refine js_gfr (pc1 := 20) (j := 11) (r := 232) rfl rfl rfl rfl rfl ?_
    refine js_aload (pc1 := 21) rfl rfl rfl ?_
    refine js_gi (pc1 := 24) (j := 10) rfl rfl rfl rfl ?_
    refine js_iload (pc1 := 25) rfl rfl rfl ?_
    refine jt_ias (pc1 := 26) rfl rfl rfl rfl (fun A3 => ?_)
    refine js_aload (pc1 := 27) rfl rfl rfl ?_
    refine js_dupR (pc1 := 28) rfl rfl ?_
    refine js_gi (pc1 := 31) (j := 10) rfl rfl rfl rfl ?_
    refine js_iconst (pc1 := 32) rfl rfl ?_
    refine js_iadd (pc1 := 33) rfl rfl ?_
    refine jt_pi (pc1 := 36) (j := 10) rfl rfl rfl rfl rfl (fun A4 => ?_)
    refine js_iconst (pc1 := 37) rfl rfl ?_
    exact je_I rfl (zfit3 rfl (Or.inr rfl)) rfl (zlit rfl)
theorem z_PC_dry_ok{d w : Nat} (N : Nat) (hd : 0 ≤ d) (hw : 0 ≤ w) (A : zA) : zG (z_PC_dry N A) zPV d w 24 0 [some (.inr (.inr (some 4)))] [] A := by
  unfold z_PC_dry
  refine js_aload (pc1 := 1) rfl rfl rfl ?_
  refine js_gfr (pc1 := 4) (j := 10) (r := 214) rfl rfl rfl rfl rfl ?_
  refine js_iconst (pc1 := 5) rfl rfl ?_
  refine jt_pi (pc1 := 8) (j := 1) rfl rfl rfl rfl rfl (fun A1 => ?_)
  exact je_V rfl
theorem z_M_dry_ok{d w : Nat} (N : Nat) (hd : 0 ≤ d) (hw : 0 ≤ w) (A : zA) : zG (z_M_dry N A) zPV d w 25 0 [some (.inr (.inr (some 226)))] [] A := by
  unfold z_M_dry
  refine js_aload (pc1 := 1) rfl rfl rfl ?_
  refine js_iconst (pc1 := 2) rfl rfl ?_
  refine jt_pi (pc1 := 5) (j := 0) rfl rfl rfl rfl rfl (fun A1 => ?_)
  refine js_aload (pc1 := 6) rfl rfl rfl ?_
  refine js_iconst (pc1 := 7) rfl rfl ?_
  refine jt_pi (pc1 := 10) (j := 10) rfl rfl rfl rfl rfl (fun A2 => ?_)
  exact je_V rfl
theorem z_Mc_pop_ok{d w : Nat} (N : Nat) (hd : 0 ≤ d) (hw : 0 ≤ w) (A : zA) : zG (z_Mc_pop N A) zPI d w 208 0 [some (.inr (.inr (some 214)))] [] A := by
  unfold z_Mc_pop
  refine js_aload (pc1 := 1) rfl rfl rfl ?_
  refine js_gi (pc1 := 4) (j := 12) rfl rfl rfl rfl ?_
  refine ju_gt (pc1 := 7) (t1 := 9) (zi_rg _ _ _) rfl rfl rfl (fun c1 => ?_) (fun c1 => ?_)
  · refine js_aload (pc1 := 10) rfl rfl rfl ?_
    refine js_dupR (pc1 := 11) rfl rfl ?_
    refine js_gi (pc1 := 14) (j := 12) rfl rfl rfl rfl ?_
    refine js_iconst (pc1 := 15) rfl rfl ?_
    refine js_isub (pc1 := 16) rfl rfl ?_
    refine jt_pi (pc1 := 19) (j := 12) rfl rfl rfl rfl rfl (fun A2 => ?_)
    refine js_aload (pc1 := 20) rfl rfl rfl ?_
    refine js_gfr (pc1 := 23) (j := 11) (r := 225) rfl rfl rfl rfl rfl ?_
    refine js_aload (pc1 := 24) rfl rfl rfl ?_
    refine js_gi (pc1 := 27) (j := 12) rfl rfl rfl rfl ?_
    refine jt_ald (pc1 := 28) rfl rfl rfl rfl rfl (fun v3 hv3 => ?_)
    exact je_I rfl (zfit0 _ rfl) rfl hv3
  · refine js_iconst (pc1 := 8) rfl rfl ?_
    exact je_I rfl (zfit0 _ rfl) rfl (zlit rfl)
theorem z_Mc_push_ok{d w : Nat} (N : Nat) (hd : 0 ≤ d) (hw : 0 ≤ w) (x1 : Int) (hx1 : zrg x1) (A : zA) : zG (z_Mc_push N x1 A) zPV d w 206 0 [some (.inr (.inr (some 214))), some (.inl x1)] [] A := by
  unfold z_Mc_push
  refine js_aload (pc1 := 1) rfl rfl rfl ?_
  refine js_gi (pc1 := 4) (j := 12) rfl rfl rfl rfl ?_
  refine js_iconst (pc1 := 5) rfl rfl ?_
  refine jt_ge (pc1 := 8) (t1 := 28) (zi_rg _ _ _) (zlit rfl) rfl rfl rfl (fun c1 => ?_) (fun c1 => ?_)
  · refine js_aload (pc1 := 9) rfl rfl rfl ?_
    refine js_gfr (pc1 := 12) (j := 11) (r := 225) rfl rfl rfl rfl rfl ?_
    refine js_aload (pc1 := 13) rfl rfl rfl ?_
    refine js_gi (pc1 := 16) (j := 12) rfl rfl rfl rfl ?_
    refine js_iload (pc1 := 17) rfl rfl rfl ?_
    refine jt_ias (pc1 := 18) rfl rfl rfl rfl (fun A2 => ?_)
    refine js_aload (pc1 := 19) rfl rfl rfl ?_
    refine js_dupR (pc1 := 20) rfl rfl ?_
    refine js_gi (pc1 := 23) (j := 12) rfl rfl rfl rfl ?_
    refine js_iconst (pc1 := 24) rfl rfl ?_
    refine js_iadd (pc1 := 25) rfl rfl ?_
    refine jt_pi (pc1 := 28) (j := 12) rfl rfl rfl rfl rfl (fun A3 => ?_)
    exact je_V rfl
  · exact je_V rfl
theorem z_Mc_doWork_21_ok{d w : Nat} (N : Nat) (hd : 1 ≤ d) (hw : 22 ≤ w) (x1 : Int) (hx1 : zrg x1) (x2 : Int) (hx2 : zrg x2) (x3 : Int) (hx3 : zrg x3) (A : zA) : zG (z_Mc_doWork_21 N x1 x2 x3 A) zPI d w 204 21 [some (.inr (.inr (some 214))), some (.inl x1), some (.inl x2), some (.inl x3)] [] A := by
  unfold z_Mc_doWork_21
  refine js_aload (pc1 := 22) rfl rfl rfl ?_
  refine js_iload (pc1 := 23) rfl rfl rfl ?_
  refine js_iload (pc1 := 24) rfl rfl rfl ?_
  refine js_iload (pc1 := 25) rfl rfl rfl ?_
  refine js_cP (pc1 := 28) (as := [(.inl x1), (.inl x3), (.inl x2)]) (S0 := [(.inr (.inr (some 214)))]) (m := 3) (L0 := [some (.inl x1), some (.inl x3), some (.inl x2)]) rfl rfl rfl rfl rfl rfl rfl rfl (zrc_s rfl) (by omega) (by omega) (z_PC_workOf_ok N (by omega) (by omega) x1 hx1 x3 hx3 x2 hx2 A) (fun v1 _ hv1 => ?_)
  refine js_cV (pc1 := 31) (as := [(.inr (.inr (some 214))), (.inl v1)]) (S0 := []) (m := 2) (L0 := [some (.inr (.inr (some 214))), some (.inl v1)]) rfl rfl rfl rfl rfl rfl rfl rfl (zrc_o rfl rfl) (by omega) (by omega) (z_Mc_push_ok N (by omega) (by omega) v1 hv1 A) (fun A2 _ => ?_)
  refine js_iconst (pc1 := 32) rfl rfl ?_
  exact je_I rfl (zfit0 _ rfl) rfl (zlit rfl)
theorem z_Mc_doWork_ok{d w : Nat} (N : Nat) (hd : 1 ≤ d) (hw : 22 ≤ w) (x1 : Int) (hx1 : zrg x1) (A : zA) : zG (z_Mc_doWork N x1 A) zPI d w 204 0 [some (.inr (.inr (some 214))), some (.inl x1), none, none] [] A := by
  unfold z_Mc_doWork
  refine js_aload (pc1 := 1) rfl rfl rfl ?_
  refine js_cI (pc1 := 4) (as := [(.inr (.inr (some 214)))]) (S0 := []) (m := 1) (L0 := [some (.inr (.inr (some 214)))]) rfl rfl rfl rfl rfl rfl rfl rfl (zrc_o rfl rfl) (by omega) (by omega) (z_Mc_pop_ok N (by omega) (by omega) A) (fun v1 A2 _ hv1 => ?_)
  refine js_istore (pc1 := 5) (L1 := [some (.inr (.inr (some 214))), some (.inl x1), some (.inl v1), none]) rfl rfl rfl rfl ?_
  refine js_aload (pc1 := 6) rfl rfl rfl ?_
  refine js_cI (pc1 := 9) (as := [(.inr (.inr (some 214)))]) (S0 := []) (m := 1) (L0 := [some (.inr (.inr (some 214)))]) rfl rfl rfl rfl rfl rfl rfl rfl (zrc_o rfl rfl) (by omega) (by omega) (z_Mc_pop_ok N (by omega) (by omega) A2) (fun v3 A4 _ hv3 => ?_)
  refine js_istore (pc1 := 10) (L1 := [some (.inr (.inr (some 214))), some (.inl x1), some (.inl v1), some (.inl v3)]) rfl rfl rfl rfl ?_
  refine js_iload (pc1 := 11) rfl rfl rfl ?_
  refine js_iconst (pc1 := 12) rfl rfl ?_
  refine jt_ne (pc1 := 15) (t1 := 21) hx1 (zlit rfl) rfl rfl rfl (fun c5 => ?_) (fun c5 => ?_)
  · refine js_iload (pc1 := 16) rfl rfl rfl ?_
    refine ju_ne (pc1 := 19) (t1 := 21) hv1 rfl rfl rfl (fun c6 => ?_) (fun c6 => ?_)
    · refine js_iconst (pc1 := 20) rfl rfl ?_
      exact je_I rfl (zfit0 _ rfl) rfl (zlit rfl)
    · exact z_Mc_doWork_21_ok N hd hw x1 hx1 v1 hv1 v3 hv3 A4
  · exact z_Mc_doWork_21_ok N hd hw x1 hx1 v1 hv1 v3 hv3 A4
theorem z_Mc_enter_ok{d w : Nat} (N : Nat) (hd : 1 ≤ d) (hw : 23 ≤ w) (x1 : Int) (hx1 : zrg x1) (A : zA) : zG (z_Mc_enter N x1 A) zPV d w 268 0 [some (.inr (.inr (some 214))), some (.inl x1)] [] A := by
  unfold z_Mc_enter
  refine js_aload (pc1 := 1) rfl rfl rfl ?_
  refine js_gi (pc1 := 4) (j := 10) rfl rfl rfl rfl ?_
  refine js_iconst (pc1 := 5) rfl rfl ?_
  refine js_iadd (pc1 := 6) rfl rfl ?_
  refine js_iconst (pc1 := 7) rfl rfl ?_
  refine zG_w2 ?_
  refine jt_ge (pc1 := 10) (t1 := 51) (zw_rg ((zi A 214 10) + 1)) (zlit rfl) rfl rfl rfl (fun c1 => ?_) (fun c1 => ?_)
  · refine js_aload (pc1 := 11) rfl rfl rfl ?_
    refine js_gfr (pc1 := 14) (j := 9) (r := 224) rfl rfl rfl rfl rfl ?_
    refine js_aload (pc1 := 15) rfl rfl rfl ?_
    refine js_gi (pc1 := 18) (j := 10) rfl rfl rfl rfl ?_
    refine js_aload (pc1 := 19) rfl rfl rfl ?_
    refine js_gi (pc1 := 22) (j := 13) rfl rfl rfl rfl ?_
    refine jt_ias (pc1 := 23) rfl rfl rfl rfl (fun A2 => ?_)
    refine js_aload (pc1 := 24) rfl rfl rfl ?_
    refine js_dupR (pc1 := 25) rfl rfl ?_
    refine js_gi (pc1 := 28) (j := 10) rfl rfl rfl rfl ?_
    refine js_iconst (pc1 := 29) rfl rfl ?_
    refine js_iadd (pc1 := 30) rfl rfl ?_
    refine jt_pi (pc1 := 33) (j := 10) rfl rfl rfl rfl rfl (fun A3 => ?_)
    refine js_aload (pc1 := 34) rfl rfl rfl ?_
    refine js_gfr (pc1 := 37) (j := 8) (r := 219) rfl rfl rfl rfl rfl ?_
    refine js_aload (pc1 := 38) rfl rfl rfl ?_
    refine js_gi (pc1 := 41) (j := 10) rfl rfl rfl rfl ?_
    refine jt_aald (pc1 := 42) rfl rfl (fun p4 => ?_)
    refine js_iconst (pc1 := 43) rfl rfl ?_
    refine js_cV (pc1 := 46) (as := [(.inr (.inr (some p4))), (.inl 0)]) (S0 := []) (m := 4) (L0 := [some (.inr (.inr (some p4))), some (.inl 0), none, none]) rfl rfl rfl rfl rfl rfl rfl rfl (zrc_s rfl) (by omega) (by omega) (z_Ar_fill_ok N (by omega) (by omega) p4 0 (zlit rfl) A3) (fun A5 _ => ?_)
    refine js_aload (pc1 := 47) rfl rfl rfl ?_
    refine js_iload (pc1 := 48) rfl rfl rfl ?_
    refine jt_pi (pc1 := 51) (j := 13) rfl rfl rfl rfl rfl (fun A6 => ?_)
    exact je_V rfl
  · exact je_V rfl
theorem z_Mc_leave_ok{d w : Nat} (N : Nat) (hd : 0 ≤ d) (hw : 0 ≤ w) (A : zA) : zG (z_Mc_leave N A) zPV d w 269 0 [some (.inr (.inr (some 214)))] [] A := by
  unfold z_Mc_leave
  refine js_aload (pc1 := 1) rfl rfl rfl ?_
  refine js_gi (pc1 := 4) (j := 10) rfl rfl rfl rfl ?_
  refine ju_le (pc1 := 7) (t1 := 30) (zi_rg _ _ _) rfl rfl rfl (fun c1 => ?_) (fun c1 => ?_)
  · refine js_aload (pc1 := 8) rfl rfl rfl ?_
    refine js_dupR (pc1 := 9) rfl rfl ?_
    refine js_gi (pc1 := 12) (j := 10) rfl rfl rfl rfl ?_
    refine js_iconst (pc1 := 13) rfl rfl ?_
    refine js_isub (pc1 := 14) rfl rfl ?_
    refine jt_pi (pc1 := 17) (j := 10) rfl rfl rfl rfl rfl (fun A2 => ?_)
    refine js_aload (pc1 := 18) rfl rfl rfl ?_
    refine js_aload (pc1 := 19) rfl rfl rfl ?_
    refine js_gfr (pc1 := 22) (j := 9) (r := 224) rfl rfl rfl rfl rfl ?_
    refine js_aload (pc1 := 23) rfl rfl rfl ?_
    refine js_gi (pc1 := 26) (j := 10) rfl rfl rfl rfl ?_
    refine jt_ald (pc1 := 27) rfl rfl rfl rfl rfl (fun v3 hv3 => ?_)
    refine jt_pi (pc1 := 30) (j := 13) rfl rfl rfl rfl rfl (fun A4 => ?_)
    exact je_V rfl
  · exact je_V rfl
theorem z_Mc_turn_ok{d w : Nat} (N : Nat) (hd : 2 ≤ d) (hw : 44 ≤ w) (x1 : Int) (hx1 : zrg x1) (x2 : Int) (hx2 : zrg x2) (A : zA) : zG (z_Mc_turn N x1 x2 A) zPI d w 205 0 [some (.inr (.inr (some 214))), some (.inl x1), some (.inl x2)] [] A := by
  unfold z_Mc_turn
  refine js_iload (pc1 := 1) rfl rfl rfl ?_
  refine zG_ite (fun c5 => ?_) (fun c5 => ?_)
  · refine js_tsw (t1 := 32) rfl c5 (zlit rfl) (by decide) ?_
    refine js_aload (pc1 := 33) rfl rfl rfl ?_
    refine js_cI (pc1 := 36) (as := [(.inr (.inr (some 214)))]) (S0 := []) (m := 1) (L0 := [some (.inr (.inr (some 214)))]) rfl rfl rfl rfl rfl rfl rfl rfl (zrc_o rfl rfl) (by omega) (by omega) (z_Mc_pop_ok N (by omega) (by omega) A) (fun v1 A2 _ hv1 => ?_)
    refine ju_ne (pc1 := 39) (t1 := 44) hv1 rfl rfl rfl (fun c3 => ?_) (fun c3 => ?_)
    · refine js_aload (pc1 := 40) rfl rfl rfl ?_
      refine js_iload (pc1 := 41) rfl rfl rfl ?_
      refine jt_pi (pc1 := 44) (j := 13) rfl rfl rfl rfl rfl (fun A4 => ?_)
      refine js_iconst (pc1 := 45) rfl rfl ?_
      exact je_I rfl (zfit0 _ rfl) rfl (zlit rfl)
    · refine js_iconst (pc1 := 45) rfl rfl ?_
      exact je_I rfl (zfit0 _ rfl) rfl (zlit rfl)
  refine zG_ite (fun c7 => ?_) (fun c7 => ?_)
  · refine js_tsw (t1 := 46) rfl c7 (zlit rfl) (by decide) ?_
    refine js_aload (pc1 := 47) rfl rfl rfl ?_
    refine js_iload (pc1 := 48) rfl rfl rfl ?_
    refine jt_pi (pc1 := 51) (j := 13) rfl rfl rfl rfl rfl (fun A6 => ?_)
    refine js_iconst (pc1 := 52) rfl rfl ?_
    exact je_I rfl (zfit0 _ rfl) rfl (zlit rfl)
  refine zG_ite (fun c9 => ?_) (fun c9 => ?_)
  · refine js_tsw (t1 := 53) rfl c9 (zlit rfl) (by decide) ?_
    refine js_aload (pc1 := 54) rfl rfl rfl ?_
    refine js_iload (pc1 := 55) rfl rfl rfl ?_
    refine js_cV (pc1 := 58) (as := [(.inr (.inr (some 214))), (.inl x2)]) (S0 := []) (m := 2) (L0 := [some (.inr (.inr (some 214))), some (.inl x2)]) rfl rfl rfl rfl rfl rfl rfl rfl (zrc_o rfl rfl) (by omega) (by omega) (z_Mc_enter_ok N (by omega) (by omega) x2 hx2 A) (fun A8 _ => ?_)
    refine js_iconst (pc1 := 59) rfl rfl ?_
    exact je_I rfl (zfit0 _ rfl) rfl (zlit rfl)
  refine zG_ite (fun c11 => ?_) (fun c11 => ?_)
  · refine js_tsw (t1 := 60) rfl c11 (zlit rfl) (by decide) ?_
    refine js_aload (pc1 := 61) rfl rfl rfl ?_
    refine js_cV (pc1 := 64) (as := [(.inr (.inr (some 214)))]) (S0 := []) (m := 1) (L0 := [some (.inr (.inr (some 214)))]) rfl rfl rfl rfl rfl rfl rfl rfl (zrc_o rfl rfl) (by omega) (by omega) (z_Mc_leave_ok N (by omega) (by omega) A) (fun A10 _ => ?_)
    refine js_iconst (pc1 := 65) rfl rfl ?_
    exact je_I rfl (zfit0 _ rfl) rfl (zlit rfl)
  refine js_tswd (t1 := 66) rfl hx1 (by omega) rfl ?_
  refine js_iconst (pc1 := 67) rfl rfl ?_
  exact je_I rfl (zfit0 _ rfl) rfl (zlit rfl)
theorem z_Mc_get_ok{d w : Nat} (N : Nat) (hd : 0 ≤ d) (hw : 0 ≤ w) (x1 : Int) (hx1 : zrg x1) (A : zA) : zG (z_Mc_get N x1 A) (zPp A) d w 207 0 [some (.inr (.inr (some 214))), some (.inl x1)] [] A := by
  unfold z_Mc_get
  refine js_iload (pc1 := 1) rfl rfl rfl ?_
  refine ju_lt (pc1 := 4) (t1 := 10) hx1 rfl rfl rfl (fun c1 => ?_) (fun c1 => ?_)
  · refine js_iconst (pc1 := 11) rfl rfl ?_
    exact je_P rfl (zfit0 _ rfl) rfl (zlit rfl)
  · refine js_iload (pc1 := 5) rfl rfl rfl ?_
    refine js_iconst (pc1 := 7) rfl rfl ?_
    refine jt_lt (pc1 := 10) (t1 := 12) hx1 (zlit rfl) rfl rfl rfl (fun c2 => ?_) (fun c2 => ?_)
    · refine js_iload (pc1 := 13) rfl rfl rfl ?_
      refine js_iconst (pc1 := 15) rfl rfl ?_
      refine jt_ge (pc1 := 18) (t1 := 27) hx1 (zlit rfl) rfl rfl rfl (fun c3 => ?_) (fun c3 => ?_)
      · refine js_aload (pc1 := 19) rfl rfl rfl ?_
        refine js_gfr (pc1 := 22) (j := 7) (r := 218) rfl rfl rfl rfl rfl ?_
        refine js_iload (pc1 := 23) rfl rfl rfl ?_
        refine jt_ald (pc1 := 24) rfl rfl rfl rfl rfl (fun v4 hv4 => ?_)
        refine js_goto (t1 := 38) rfl rfl ?_
        exact je_P rfl (zfit0 _ rfl) rfl hv4
      · refine js_aload (pc1 := 28) rfl rfl rfl ?_
        refine js_gfr (pc1 := 31) (j := 8) (r := 219) rfl rfl rfl rfl rfl ?_
        refine js_aload (pc1 := 32) rfl rfl rfl ?_
        refine js_gi (pc1 := 35) (j := 10) rfl rfl rfl rfl ?_
        refine jt_aald (pc1 := 36) rfl rfl (fun p5 => ?_)
        refine js_iload (pc1 := 37) rfl rfl rfl ?_
        refine jt_aldD (pc1 := 38) rfl rfl (fun v6 hv6 => ?_)
        exact je_P rfl (zfit0 _ rfl) rfl hv6
    · refine js_iconst (pc1 := 11) rfl rfl ?_
      exact je_P rfl (zfit0 _ rfl) rfl (zlit rfl)
theorem z_Mc_set_20_ok{d w : Nat} (N : Nat) (hd : 0 ≤ d) (hw : 0 ≤ w) (x1 : Int) (hx1 : zrg x1) (x2 : Int) (hx2 : zrg x2) (A : zA) : zG (z_Mc_set_20 N x1 x2 A) zPV d w 209 20 [some (.inr (.inr (some 214))), some (.inl x1), some (.inl x2)] [] A := by
  unfold z_Mc_set_20
  refine js_iload (pc1 := 21) rfl rfl rfl ?_
  refine js_iconst (pc1 := 23) rfl rfl ?_
  refine jt_lt (pc1 := 26) (t1 := 44) hx1 (zlit rfl) rfl rfl rfl (fun c1 => ?_) (fun c1 => ?_)
  · exact je_V rfl
  · refine js_iload (pc1 := 27) rfl rfl rfl ?_
    refine js_iconst (pc1 := 29) rfl rfl ?_
    refine jt_ge (pc1 := 32) (t1 := 44) hx1 (zlit rfl) rfl rfl rfl (fun c2 => ?_) (fun c2 => ?_)
    · refine js_aload (pc1 := 33) rfl rfl rfl ?_
      refine js_gfr (pc1 := 36) (j := 8) (r := 219) rfl rfl rfl rfl rfl ?_
      refine js_aload (pc1 := 37) rfl rfl rfl ?_
      refine js_gi (pc1 := 40) (j := 10) rfl rfl rfl rfl ?_
      refine jt_aald (pc1 := 41) rfl rfl (fun p3 => ?_)
      refine js_iload (pc1 := 42) rfl rfl rfl ?_
      refine js_iload (pc1 := 43) rfl rfl rfl ?_
      refine jt_iasD (pc1 := 44) rfl rfl (fun A4 => ?_)
      exact je_V rfl
    · exact je_V rfl
theorem z_Mc_set_ok{d w : Nat} (N : Nat) (hd : 0 ≤ d) (hw : 0 ≤ w) (x1 : Int) (hx1 : zrg x1) (x2 : Int) (hx2 : zrg x2) (A : zA) : zG (z_Mc_set N x1 x2 A) zPV d w 209 0 [some (.inr (.inr (some 214))), some (.inl x1), some (.inl x2)] [] A := by
  unfold z_Mc_set
  refine js_iload (pc1 := 1) rfl rfl rfl ?_
  refine ju_lt (pc1 := 4) (t1 := 20) hx1 rfl rfl rfl (fun c1 => ?_) (fun c1 => ?_)
  · exact z_Mc_set_20_ok N hd hw x1 hx1 x2 hx2 A
  · refine js_iload (pc1 := 5) rfl rfl rfl ?_
    refine js_iconst (pc1 := 7) rfl rfl ?_
    refine jt_ge (pc1 := 10) (t1 := 20) hx1 (zlit rfl) rfl rfl rfl (fun c2 => ?_) (fun c2 => ?_)
    · refine js_aload (pc1 := 11) rfl rfl rfl ?_
      refine js_gfr (pc1 := 14) (j := 7) (r := 218) rfl rfl rfl rfl rfl ?_
      refine js_iload (pc1 := 15) rfl rfl rfl ?_
      refine js_iload (pc1 := 16) rfl rfl rfl ?_
      refine jt_ias (pc1 := 17) rfl rfl rfl rfl (fun A3 => ?_)
      refine js_goto (t1 := 44) rfl rfl ?_
      exact je_V rfl
    · exact z_Mc_set_20_ok N hd hw x1 hx1 x2 hx2 A
theorem z_Mc_loadCell_ok{d w : Nat} (N : Nat) (hd : 1 ≤ d) (hw : 21 ≤ w) (x1 : Int) (hx1 : zrg x1) (A : zA) : zG (z_Mc_loadCell N x1 A) zPI d w 210 0 [some (.inr (.inr (some 214))), some (.inl x1)] [] A := by
  unfold z_Mc_loadCell
  refine js_iload (pc1 := 1) rfl rfl rfl ?_
  refine ju_lt (pc1 := 4) (t1 := 10) hx1 rfl rfl rfl (fun c1 => ?_) (fun c1 => ?_)
  · refine js_iconst (pc1 := 11) rfl rfl ?_
    exact je_I rfl (zfit0 _ rfl) rfl (zlit rfl)
  · refine js_iload (pc1 := 5) rfl rfl rfl ?_
    refine js_iconst (pc1 := 7) rfl rfl ?_
    refine jt_lt (pc1 := 10) (t1 := 12) hx1 (zlit rfl) rfl rfl rfl (fun c2 => ?_) (fun c2 => ?_)
    · refine js_aload (pc1 := 13) rfl rfl rfl ?_
      refine js_aload (pc1 := 14) rfl rfl rfl ?_
      refine js_gfr (pc1 := 17) (j := 6) (r := 217) rfl rfl rfl rfl rfl ?_
      refine js_iload (pc1 := 18) rfl rfl rfl ?_
      refine jt_ald (pc1 := 19) rfl rfl rfl rfl rfl (fun v3 hv3 => ?_)
      refine js_cV (pc1 := 22) (as := [(.inr (.inr (some 214))), (.inl v3)]) (S0 := []) (m := 2) (L0 := [some (.inr (.inr (some 214))), some (.inl v3)]) rfl rfl rfl rfl rfl rfl rfl rfl (zrc_o rfl rfl) (by omega) (by omega) (z_Mc_push_ok N (by omega) (by omega) v3 hv3 A) (fun A4 _ => ?_)
      refine js_iconst (pc1 := 23) rfl rfl ?_
      exact je_I rfl (zfit0 _ rfl) rfl (zlit rfl)
    · refine js_iconst (pc1 := 11) rfl rfl ?_
      exact je_I rfl (zfit0 _ rfl) rfl (zlit rfl)
theorem z_Mc_storeCell_ok{d w : Nat} (N : Nat) (hd : 0 ≤ d) (hw : 0 ≤ w) (x1 : Int) (hx1 : zrg x1) (x2 : Int) (hx2 : zrg x2) (A : zA) : zG (z_Mc_storeCell N x1 x2 A) zPI d w 211 0 [some (.inr (.inr (some 214))), some (.inl x1), some (.inl x2)] [] A := by
  unfold z_Mc_storeCell
  refine js_iload (pc1 := 1) rfl rfl rfl ?_
  refine ju_lt (pc1 := 4) (t1 := 10) hx1 rfl rfl rfl (fun c1 => ?_) (fun c1 => ?_)
  · refine js_iconst (pc1 := 11) rfl rfl ?_
    exact je_I rfl (zfit0 _ rfl) rfl (zlit rfl)
  · refine js_iload (pc1 := 5) rfl rfl rfl ?_
    refine js_iconst (pc1 := 7) rfl rfl ?_
    refine jt_lt (pc1 := 10) (t1 := 12) hx1 (zlit rfl) rfl rfl rfl (fun c2 => ?_) (fun c2 => ?_)
    · refine js_aload (pc1 := 13) rfl rfl rfl ?_
      refine js_gfr (pc1 := 16) (j := 6) (r := 217) rfl rfl rfl rfl rfl ?_
      refine js_iload (pc1 := 17) rfl rfl rfl ?_
      refine js_iload (pc1 := 18) rfl rfl rfl ?_
      refine jt_ias (pc1 := 19) rfl rfl rfl rfl (fun A3 => ?_)
      refine js_iconst (pc1 := 20) rfl rfl ?_
      exact je_I rfl (zfit0 _ rfl) rfl (zlit rfl)
    · refine js_iconst (pc1 := 11) rfl rfl ?_
      exact je_I rfl (zfit0 _ rfl) rfl (zlit rfl)
theorem z_Mc_nextInput_ok{d w : Nat} (N : Nat) (hd : 0 ≤ d) (hw : 0 ≤ w) (A : zA) : zG (z_Mc_nextInput N A) zPI d w 212 0 [some (.inr (.inr (some 214)))] [] A := by
  unfold z_Mc_nextInput
  refine js_aload (pc1 := 1) rfl rfl rfl ?_
  refine js_gi (pc1 := 4) (j := 5) rfl rfl rfl rfl ?_
  refine js_aload (pc1 := 5) rfl rfl rfl ?_
  refine js_gi (pc1 := 8) (j := 1) rfl rfl rfl rfl ?_
  refine jt_ge (pc1 := 11) (t1 := 20) (zi_rg _ _ _) (zi_rg _ _ _) rfl rfl rfl (fun c1 => ?_) (fun c1 => ?_)
  · refine js_aload (pc1 := 12) rfl rfl rfl ?_
    refine js_gi (pc1 := 15) (j := 5) rfl rfl rfl rfl ?_
    refine js_iconst (pc1 := 17) rfl rfl ?_
    refine jt_lt (pc1 := 20) (t1 := 22) (zi_rg _ _ _) (zlit rfl) rfl rfl rfl (fun c2 => ?_) (fun c2 => ?_)
    · refine js_aload (pc1 := 23) rfl rfl rfl ?_
      refine js_dupR (pc1 := 24) rfl rfl ?_
      refine js_gi (pc1 := 27) (j := 5) rfl rfl rfl rfl ?_
      refine js_iconst (pc1 := 28) rfl rfl ?_
      refine js_iadd (pc1 := 29) rfl rfl ?_
      refine jt_pi (pc1 := 32) (j := 5) rfl rfl rfl rfl rfl (fun A3 => ?_)
      refine js_aload (pc1 := 33) rfl rfl rfl ?_
      refine js_gfr (pc1 := 36) (j := 0) (r := 215) rfl rfl rfl rfl rfl ?_
      refine js_aload (pc1 := 37) rfl rfl rfl ?_
      refine js_gi (pc1 := 40) (j := 5) rfl rfl rfl rfl ?_
      refine js_iconst (pc1 := 41) rfl rfl ?_
      refine js_isub (pc1 := 42) rfl rfl ?_
      refine jt_ald (pc1 := 43) rfl rfl rfl rfl rfl (fun v4 hv4 => ?_)
      exact je_I rfl (zfit0 _ rfl) rfl hv4
    · refine js_iconst (pc1 := 21) rfl rfl ?_
      exact je_I rfl (zfit0 _ rfl) rfl (zlit rfl)
  · refine js_iconst (pc1 := 21) rfl rfl ?_
    exact je_I rfl (zfit0 _ rfl) rfl (zlit rfl)
theorem z_Mc_show_ok{d w : Nat} (N : Nat) (hd : 0 ≤ d) (hw : 0 ≤ w) (x1 : Int) (hx1 : zrg x1) (A : zA) : zG (z_Mc_show N x1 A) zPV d w 213 0 [some (.inr (.inr (some 214))), some (.inl x1)] [] A := by
  unfold z_Mc_show
  refine js_aload (pc1 := 1) rfl rfl rfl ?_
  refine js_gi (pc1 := 4) (j := 3) rfl rfl rfl rfl ?_
  refine js_iconst (pc1 := 6) rfl rfl ?_
  refine jt_ge (pc1 := 9) (t1 := 29) (zi_rg _ _ _) (zlit rfl) rfl rfl rfl (fun c1 => ?_) (fun c1 => ?_)
  · refine js_aload (pc1 := 10) rfl rfl rfl ?_
    refine js_gfr (pc1 := 13) (j := 2) (r := 216) rfl rfl rfl rfl rfl ?_
    refine js_aload (pc1 := 14) rfl rfl rfl ?_
    refine js_gi (pc1 := 17) (j := 3) rfl rfl rfl rfl ?_
    refine js_iload (pc1 := 18) rfl rfl rfl ?_
    refine jt_ias (pc1 := 19) rfl rfl rfl rfl (fun A2 => ?_)
    refine js_aload (pc1 := 20) rfl rfl rfl ?_
    refine js_dupR (pc1 := 21) rfl rfl ?_
    refine js_gi (pc1 := 24) (j := 3) rfl rfl rfl rfl ?_
    refine js_iconst (pc1 := 25) rfl rfl ?_
    refine js_iadd (pc1 := 26) rfl rfl ?_
    refine jt_pi (pc1 := 29) (j := 3) rfl rfl rfl rfl rfl (fun A3 => ?_)
    exact je_V rfl
  · exact je_V rfl
theorem z_Mc_step_56_ok{d w : Nat} (N : Nat) (hd : 3 ≤ d) (hw : 66 ≤ w) (x1 : Int) (hx1 : zrg x1) (x2 : Int) (hx2 : zrg x2) (A : zA) : zG (z_Mc_step_56 N x1 x2 A) zPI d w 154 56 [some (.inr (.inr (some 214))), some (.inl x1), some (.inl x2), none] [] A := by
  unfold z_Mc_step_56
  refine js_iload (pc1 := 57) rfl rfl rfl ?_
  refine js_iconst (pc1 := 59) rfl rfl ?_
  refine jt_lt (pc1 := 62) (t1 := 69) hx1 (zlit rfl) rfl rfl rfl (fun c1 => ?_) (fun c1 => ?_)
  · refine js_iload (pc1 := 70) rfl rfl rfl ?_
    refine zG_ite (fun c3 => ?_) (fun c3 => ?_)
    · refine js_tsw (t1 := 132) rfl c3 (zlit rfl) (by decide) ?_
      refine js_aload (pc1 := 133) rfl rfl rfl ?_
      refine js_iload (pc1 := 134) rfl rfl rfl ?_
      refine js_cV (pc1 := 137) (as := [(.inr (.inr (some 214))), (.inl x2)]) (S0 := []) (m := 2) (L0 := [some (.inr (.inr (some 214))), some (.inl x2)]) rfl rfl rfl rfl rfl rfl rfl rfl (zrc_o rfl rfl) (by omega) (by omega) (z_Mc_push_ok N (by omega) (by omega) x2 hx2 A) (fun A2 _ => ?_)
      refine js_goto (t1 := 207) rfl rfl ?_
      refine js_iconst (pc1 := 208) rfl rfl ?_
      exact je_I rfl (zfit0 _ rfl) rfl (zlit rfl)
    refine zG_ite (fun c6 => ?_) (fun c6 => ?_)
    · refine js_tsw (t1 := 140) rfl c6 (zlit rfl) (by decide) ?_
      refine js_aload (pc1 := 141) rfl rfl rfl ?_
      refine js_aload (pc1 := 142) rfl rfl rfl ?_
      refine js_iload (pc1 := 143) rfl rfl rfl ?_
      refine js_cP (pc1 := 146) (as := [(.inr (.inr (some 214))), (.inl x2)]) (S0 := [(.inr (.inr (some 214)))]) (m := 2) (L0 := [some (.inr (.inr (some 214))), some (.inl x2)]) rfl rfl rfl rfl rfl rfl rfl rfl (zrc_o rfl rfl) (by omega) (by omega) (z_Mc_get_ok N (by omega) (by omega) x2 hx2 A) (fun v4 _ hv4 => ?_)
      refine js_cV (pc1 := 149) (as := [(.inr (.inr (some 214))), (.inl v4)]) (S0 := []) (m := 2) (L0 := [some (.inr (.inr (some 214))), some (.inl v4)]) rfl rfl rfl rfl rfl rfl rfl rfl (zrc_o rfl rfl) (by omega) (by omega) (z_Mc_push_ok N (by omega) (by omega) v4 hv4 A) (fun A5 _ => ?_)
      refine js_goto (t1 := 207) rfl rfl ?_
      refine js_iconst (pc1 := 208) rfl rfl ?_
      exact je_I rfl (zfit0 _ rfl) rfl (zlit rfl)
    refine zG_ite (fun c10 => ?_) (fun c10 => ?_)
    · refine js_tsw (t1 := 152) rfl c10 (zlit rfl) (by decide) ?_
      refine js_aload (pc1 := 153) rfl rfl rfl ?_
      refine js_iload (pc1 := 154) rfl rfl rfl ?_
      refine js_aload (pc1 := 155) rfl rfl rfl ?_
      refine js_cI (pc1 := 158) (as := [(.inr (.inr (some 214)))]) (S0 := [(.inl x2), (.inr (.inr (some 214)))]) (m := 1) (L0 := [some (.inr (.inr (some 214)))]) rfl rfl rfl rfl rfl rfl rfl rfl (zrc_o rfl rfl) (by omega) (by omega) (z_Mc_pop_ok N (by omega) (by omega) A) (fun v7 A8 _ hv7 => ?_)
      refine js_cV (pc1 := 161) (as := [(.inr (.inr (some 214))), (.inl x2), (.inl v7)]) (S0 := []) (m := 3) (L0 := [some (.inr (.inr (some 214))), some (.inl x2), some (.inl v7)]) rfl rfl rfl rfl rfl rfl rfl rfl (zrc_o rfl rfl) (by omega) (by omega) (z_Mc_set_ok N (by omega) (by omega) x2 hx2 v7 hv7 A8) (fun A9 _ => ?_)
      refine js_goto (t1 := 207) rfl rfl ?_
      refine js_iconst (pc1 := 208) rfl rfl ?_
      exact je_I rfl (zfit0 _ rfl) rfl (zlit rfl)
    refine zG_ite (fun c15 => ?_) (fun c15 => ?_)
    · refine js_tsw (t1 := 164) rfl c15 (zlit rfl) (by decide) ?_
      refine js_aload (pc1 := 165) rfl rfl rfl ?_
      refine js_aload (pc1 := 166) rfl rfl rfl ?_
      refine js_cI (pc1 := 169) (as := [(.inr (.inr (some 214)))]) (S0 := [(.inr (.inr (some 214)))]) (m := 1) (L0 := [some (.inr (.inr (some 214)))]) rfl rfl rfl rfl rfl rfl rfl rfl (zrc_o rfl rfl) (by omega) (by omega) (z_Mc_pop_ok N (by omega) (by omega) A) (fun v11 A12 _ hv11 => ?_)
      refine js_cI (pc1 := 172) (as := [(.inr (.inr (some 214))), (.inl v11)]) (S0 := []) (m := 2) (L0 := [some (.inr (.inr (some 214))), some (.inl v11)]) rfl rfl rfl rfl rfl rfl rfl rfl (zrc_o rfl rfl) (by omega) (by omega) (z_Mc_loadCell_ok N (by omega) (by omega) v11 hv11 A12) (fun v13 A14 _ hv13 => ?_)
      exact je_I rfl (zfit0 _ rfl) rfl hv13
    refine zG_ite (fun c22 => ?_) (fun c22 => ?_)
    · refine js_tsw (t1 := 173) rfl c22 (zlit rfl) (by decide) ?_
      refine js_aload (pc1 := 174) rfl rfl rfl ?_
      refine js_cI (pc1 := 177) (as := [(.inr (.inr (some 214)))]) (S0 := []) (m := 1) (L0 := [some (.inr (.inr (some 214)))]) rfl rfl rfl rfl rfl rfl rfl rfl (zrc_o rfl rfl) (by omega) (by omega) (z_Mc_pop_ok N (by omega) (by omega) A) (fun v16 A17 _ hv16 => ?_)
      refine js_istore (pc1 := 178) (L1 := [some (.inr (.inr (some 214))), some (.inl x1), some (.inl x2), some (.inl v16)]) rfl rfl rfl rfl ?_
      refine js_aload (pc1 := 179) rfl rfl rfl ?_
      refine js_aload (pc1 := 180) rfl rfl rfl ?_
      refine js_cI (pc1 := 183) (as := [(.inr (.inr (some 214)))]) (S0 := [(.inr (.inr (some 214)))]) (m := 1) (L0 := [some (.inr (.inr (some 214)))]) rfl rfl rfl rfl rfl rfl rfl rfl (zrc_o rfl rfl) (by omega) (by omega) (z_Mc_pop_ok N (by omega) (by omega) A17) (fun v18 A19 _ hv18 => ?_)
      refine js_iload (pc1 := 184) rfl rfl rfl ?_
      refine js_cI (pc1 := 187) (as := [(.inr (.inr (some 214))), (.inl v18), (.inl v16)]) (S0 := []) (m := 3) (L0 := [some (.inr (.inr (some 214))), some (.inl v18), some (.inl v16)]) rfl rfl rfl rfl rfl rfl rfl rfl (zrc_o rfl rfl) (by omega) (by omega) (z_Mc_storeCell_ok N (by omega) (by omega) v18 hv18 v16 hv16 A19) (fun v20 A21 _ hv20 => ?_)
      exact je_I rfl (zfit0 _ rfl) rfl hv20
    refine zG_ite (fun c26 => ?_) (fun c26 => ?_)
    · refine js_tsw (t1 := 188) rfl c26 (zlit rfl) (by decide) ?_
      refine js_aload (pc1 := 189) rfl rfl rfl ?_
      refine js_aload (pc1 := 190) rfl rfl rfl ?_
      refine js_cI (pc1 := 193) (as := [(.inr (.inr (some 214)))]) (S0 := [(.inr (.inr (some 214)))]) (m := 1) (L0 := [some (.inr (.inr (some 214)))]) rfl rfl rfl rfl rfl rfl rfl rfl (zrc_o rfl rfl) (by omega) (by omega) (z_Mc_nextInput_ok N (by omega) (by omega) A) (fun v23 A24 _ hv23 => ?_)
      refine js_cV (pc1 := 196) (as := [(.inr (.inr (some 214))), (.inl v23)]) (S0 := []) (m := 2) (L0 := [some (.inr (.inr (some 214))), some (.inl v23)]) rfl rfl rfl rfl rfl rfl rfl rfl (zrc_o rfl rfl) (by omega) (by omega) (z_Mc_push_ok N (by omega) (by omega) v23 hv23 A24) (fun A25 _ => ?_)
      refine js_goto (t1 := 207) rfl rfl ?_
      refine js_iconst (pc1 := 208) rfl rfl ?_
      exact je_I rfl (zfit0 _ rfl) rfl (zlit rfl)
    rcases Decidable.em (x1 = 3) with c30 | c30
    · refine js_tsw (t1 := 199) rfl c30 (zlit rfl) (by decide) ?_
      refine js_aload (pc1 := 200) rfl rfl rfl ?_
      refine js_aload (pc1 := 201) rfl rfl rfl ?_
      refine js_cI (pc1 := 204) (as := [(.inr (.inr (some 214)))]) (S0 := [(.inr (.inr (some 214)))]) (m := 1) (L0 := [some (.inr (.inr (some 214)))]) rfl rfl rfl rfl rfl rfl rfl rfl (zrc_o rfl rfl) (by omega) (by omega) (z_Mc_pop_ok N (by omega) (by omega) A) (fun v27 A28 _ hv27 => ?_)
      refine js_cV (pc1 := 207) (as := [(.inr (.inr (some 214))), (.inl v27)]) (S0 := []) (m := 2) (L0 := [some (.inr (.inr (some 214))), some (.inl v27)]) rfl rfl rfl rfl rfl rfl rfl rfl (zrc_o rfl rfl) (by omega) (by omega) (z_Mc_show_ok N (by omega) (by omega) v27 hv27 A28) (fun A29 _ => ?_)
      refine js_iconst (pc1 := 208) rfl rfl ?_
      exact je_I rfl (zfit0 _ rfl) rfl (zlit rfl)
    rcases Decidable.em (x1 = 4) with c31 | c31
    · refine js_tsw (t1 := 199) rfl c31 (zlit rfl) (by decide) ?_
      refine js_aload (pc1 := 200) rfl rfl rfl ?_
      refine js_aload (pc1 := 201) rfl rfl rfl ?_
      refine js_cI (pc1 := 204) (as := [(.inr (.inr (some 214)))]) (S0 := [(.inr (.inr (some 214)))]) (m := 1) (L0 := [some (.inr (.inr (some 214)))]) rfl rfl rfl rfl rfl rfl rfl rfl (zrc_o rfl rfl) (by omega) (by omega) (z_Mc_pop_ok N (by omega) (by omega) A) (fun v27 A28 _ hv27 => ?_)
      refine js_cV (pc1 := 207) (as := [(.inr (.inr (some 214))), (.inl v27)]) (S0 := []) (m := 2) (L0 := [some (.inr (.inr (some 214))), some (.inl v27)]) rfl rfl rfl rfl rfl rfl rfl rfl (zrc_o rfl rfl) (by omega) (by omega) (z_Mc_show_ok N (by omega) (by omega) v27 hv27 A28) (fun A29 _ => ?_)
      refine js_iconst (pc1 := 208) rfl rfl ?_
      exact je_I rfl (zfit0 _ rfl) rfl (zlit rfl)
    rcases Decidable.em (x1 = 5) with c32 | c32
    · refine js_tsw (t1 := 199) rfl c32 (zlit rfl) (by decide) ?_
      refine js_aload (pc1 := 200) rfl rfl rfl ?_
      refine js_aload (pc1 := 201) rfl rfl rfl ?_
      refine js_cI (pc1 := 204) (as := [(.inr (.inr (some 214)))]) (S0 := [(.inr (.inr (some 214)))]) (m := 1) (L0 := [some (.inr (.inr (some 214)))]) rfl rfl rfl rfl rfl rfl rfl rfl (zrc_o rfl rfl) (by omega) (by omega) (z_Mc_pop_ok N (by omega) (by omega) A) (fun v27 A28 _ hv27 => ?_)
      refine js_cV (pc1 := 207) (as := [(.inr (.inr (some 214))), (.inl v27)]) (S0 := []) (m := 2) (L0 := [some (.inr (.inr (some 214))), some (.inl v27)]) rfl rfl rfl rfl rfl rfl rfl rfl (zrc_o rfl rfl) (by omega) (by omega) (z_Mc_show_ok N (by omega) (by omega) v27 hv27 A28) (fun A29 _ => ?_)
      refine js_iconst (pc1 := 208) rfl rfl ?_
      exact je_I rfl (zfit0 _ rfl) rfl (zlit rfl)
    rcases Decidable.em (x1 = 6) with c33 | c33
    · refine js_tsw (t1 := 199) rfl c33 (zlit rfl) (by decide) ?_
      refine js_aload (pc1 := 200) rfl rfl rfl ?_
      refine js_aload (pc1 := 201) rfl rfl rfl ?_
      refine js_cI (pc1 := 204) (as := [(.inr (.inr (some 214)))]) (S0 := [(.inr (.inr (some 214)))]) (m := 1) (L0 := [some (.inr (.inr (some 214)))]) rfl rfl rfl rfl rfl rfl rfl rfl (zrc_o rfl rfl) (by omega) (by omega) (z_Mc_pop_ok N (by omega) (by omega) A) (fun v27 A28 _ hv27 => ?_)
      refine js_cV (pc1 := 207) (as := [(.inr (.inr (some 214))), (.inl v27)]) (S0 := []) (m := 2) (L0 := [some (.inr (.inr (some 214))), some (.inl v27)]) rfl rfl rfl rfl rfl rfl rfl rfl (zrc_o rfl rfl) (by omega) (by omega) (z_Mc_show_ok N (by omega) (by omega) v27 hv27 A28) (fun A29 _ => ?_)
      refine js_iconst (pc1 := 208) rfl rfl ?_
      exact je_I rfl (zfit0 _ rfl) rfl (zlit rfl)
    rcases Decidable.em (x1 = 7) with c34 | c34
    · refine js_tsw (t1 := 199) rfl c34 (zlit rfl) (by decide) ?_
      refine js_aload (pc1 := 200) rfl rfl rfl ?_
      refine js_aload (pc1 := 201) rfl rfl rfl ?_
      refine js_cI (pc1 := 204) (as := [(.inr (.inr (some 214)))]) (S0 := [(.inr (.inr (some 214)))]) (m := 1) (L0 := [some (.inr (.inr (some 214)))]) rfl rfl rfl rfl rfl rfl rfl rfl (zrc_o rfl rfl) (by omega) (by omega) (z_Mc_pop_ok N (by omega) (by omega) A) (fun v27 A28 _ hv27 => ?_)
      refine js_cV (pc1 := 207) (as := [(.inr (.inr (some 214))), (.inl v27)]) (S0 := []) (m := 2) (L0 := [some (.inr (.inr (some 214))), some (.inl v27)]) rfl rfl rfl rfl rfl rfl rfl rfl (zrc_o rfl rfl) (by omega) (by omega) (z_Mc_show_ok N (by omega) (by omega) v27 hv27 A28) (fun A29 _ => ?_)
      refine js_iconst (pc1 := 208) rfl rfl ?_
      exact je_I rfl (zfit0 _ rfl) rfl (zlit rfl)
    rcases Decidable.em (x1 = 8) with c35 | c35
    · refine js_tsw (t1 := 199) rfl c35 (zlit rfl) (by decide) ?_
      refine js_aload (pc1 := 200) rfl rfl rfl ?_
      refine js_aload (pc1 := 201) rfl rfl rfl ?_
      refine js_cI (pc1 := 204) (as := [(.inr (.inr (some 214)))]) (S0 := [(.inr (.inr (some 214)))]) (m := 1) (L0 := [some (.inr (.inr (some 214)))]) rfl rfl rfl rfl rfl rfl rfl rfl (zrc_o rfl rfl) (by omega) (by omega) (z_Mc_pop_ok N (by omega) (by omega) A) (fun v27 A28 _ hv27 => ?_)
      refine js_cV (pc1 := 207) (as := [(.inr (.inr (some 214))), (.inl v27)]) (S0 := []) (m := 2) (L0 := [some (.inr (.inr (some 214))), some (.inl v27)]) rfl rfl rfl rfl rfl rfl rfl rfl (zrc_o rfl rfl) (by omega) (by omega) (z_Mc_show_ok N (by omega) (by omega) v27 hv27 A28) (fun A29 _ => ?_)
      refine js_iconst (pc1 := 208) rfl rfl ?_
      exact je_I rfl (zfit0 _ rfl) rfl (zlit rfl)
    refine js_tswd (t1 := 199) rfl hx1 (by omega) rfl ?_
    refine js_aload (pc1 := 200) rfl rfl rfl ?_
    refine js_aload (pc1 := 201) rfl rfl rfl ?_
    refine js_cI (pc1 := 204) (as := [(.inr (.inr (some 214)))]) (S0 := [(.inr (.inr (some 214)))]) (m := 1) (L0 := [some (.inr (.inr (some 214)))]) rfl rfl rfl rfl rfl rfl rfl rfl (zrc_o rfl rfl) (by omega) (by omega) (z_Mc_pop_ok N (by omega) (by omega) A) (fun v27 A28 _ hv27 => ?_)
    refine js_cV (pc1 := 207) (as := [(.inr (.inr (some 214))), (.inl v27)]) (S0 := []) (m := 2) (L0 := [some (.inr (.inr (some 214))), some (.inl v27)]) rfl rfl rfl rfl rfl rfl rfl rfl (zrc_o rfl rfl) (by omega) (by omega) (z_Mc_show_ok N (by omega) (by omega) v27 hv27 A28) (fun A29 _ => ?_)
    refine js_iconst (pc1 := 208) rfl rfl ?_
    exact je_I rfl (zfit0 _ rfl) rfl (zlit rfl)
  · refine js_aload (pc1 := 63) rfl rfl rfl ?_
    refine js_iload (pc1 := 64) rfl rfl rfl ?_
    refine js_iload (pc1 := 65) rfl rfl rfl ?_
    refine js_cI (pc1 := 68) (as := [(.inr (.inr (some 214))), (.inl x1), (.inl x2)]) (S0 := []) (m := 3) (L0 := [some (.inr (.inr (some 214))), some (.inl x1), some (.inl x2)]) rfl rfl rfl rfl rfl rfl rfl rfl (zrc_o rfl rfl) (by omega) (by omega) (z_Mc_turn_ok N (by omega) (by omega) x1 hx1 x2 hx2 A) (fun v36 A37 _ hv36 => ?_)
    exact je_I rfl (zfit0 _ rfl) rfl hv36
theorem z_Mc_step_17_ok{d w : Nat} (N : Nat) (hd : 3 ≤ d) (hw : 66 ≤ w) (x1 : Int) (hx1 : zrg x1) (x2 : Int) (hx2 : zrg x2) (A : zA) : zG (z_Mc_step_17 N x1 x2 A) zPI d w 154 17 [some (.inr (.inr (some 214))), some (.inl x1), some (.inl x2), none] [] A := by
  unfold z_Mc_step_17
  refine js_aload (pc1 := 18) rfl rfl rfl ?_
  refine js_dupR (pc1 := 19) rfl rfl ?_
  refine js_gi (pc1 := 22) (j := 4) rfl rfl rfl rfl ?_
  refine js_iconst (pc1 := 23) rfl rfl ?_
  refine js_iadd (pc1 := 24) rfl rfl ?_
  refine jt_pi (pc1 := 27) (j := 4) rfl rfl rfl rfl rfl (fun A1 => ?_)
  refine js_aload (pc1 := 28) rfl rfl rfl ?_
  refine js_dupR (pc1 := 29) rfl rfl ?_
  refine js_gi (pc1 := 32) (j := 13) rfl rfl rfl rfl ?_
  refine js_iconst (pc1 := 33) rfl rfl ?_
  refine js_iadd (pc1 := 34) rfl rfl ?_
  refine jt_pi (pc1 := 37) (j := 13) rfl rfl rfl rfl rfl (fun A2 => ?_)
  refine js_iload (pc1 := 38) rfl rfl rfl ?_
  refine js_iconst (pc1 := 39) rfl rfl ?_
  refine jt_lt (pc1 := 42) (t1 := 56) hx1 (zlit rfl) rfl rfl rfl (fun c3 => ?_) (fun c3 => ?_)
  · exact z_Mc_step_56_ok N hd hw x1 hx1 x2 hx2 A2
  · refine js_iload (pc1 := 43) rfl rfl rfl ?_
    refine js_iconst (pc1 := 45) rfl rfl ?_
    refine jt_ge (pc1 := 48) (t1 := 56) hx1 (zlit rfl) rfl rfl rfl (fun c4 => ?_) (fun c4 => ?_)
    · refine js_aload (pc1 := 49) rfl rfl rfl ?_
      refine js_iload (pc1 := 50) rfl rfl rfl ?_
      refine js_iconst (pc1 := 51) rfl rfl ?_
      refine js_isub (pc1 := 52) rfl rfl ?_
      refine js_cI (pc1 := 55) (as := [(.inr (.inr (some 214))), (.inl (x1 - 3))]) (S0 := []) (m := 4) (L0 := [some (.inr (.inr (some 214))), some (.inl (x1 - 3)), none, none]) rfl rfl rfl rfl rfl rfl rfl rfl (zrc_o rfl rfl) (by omega) (by omega) (zG_to (L := [some (.inr (.inr (some 214))), some (.inl (zw (x1 - 3))), none, none]) (S := []) ⟨rfl, ⟨zval_w (x1 - 3), trivial⟩⟩ rfl (z_Mc_doWork_ok N (by omega) (by omega) (zw (x1 - 3)) (zw_rg (x1 - 3)) A2)) (fun v5 A6 _ hv5 => ?_)
      exact je_I rfl (zfit0 _ rfl) rfl hv5
    · exact z_Mc_step_56_ok N hd hw x1 hx1 x2 hx2 A2
theorem z_Mc_step_ok{d w : Nat} (N : Nat) (hd : 3 ≤ d) (hw : 66 ≤ w) (x1 : Int) (hx1 : zrg x1) (x2 : Int) (hx2 : zrg x2) (A : zA) : zG (z_Mc_step N x1 x2 A) zPI d w 154 0 [some (.inr (.inr (some 214))), some (.inl x1), some (.inl x2), none] [] A := by
  unfold z_Mc_step
  refine js_iload (pc1 := 1) rfl rfl rfl ?_
  refine js_iconst (pc1 := 3) rfl rfl ?_
  refine jt_ne (pc1 := 6) (t1 := 17) hx1 (zlit rfl) rfl rfl rfl (fun c1 => ?_) (fun c1 => ?_)
  · refine js_aload (pc1 := 7) rfl rfl rfl ?_
    refine js_gi (pc1 := 10) (j := 3) rfl rfl rfl rfl ?_
    refine js_iconst (pc1 := 12) rfl rfl ?_
    refine jt_lt (pc1 := 15) (t1 := 17) (zi_rg _ _ _) (zlit rfl) rfl rfl rfl (fun c2 => ?_) (fun c2 => ?_)
    · exact z_Mc_step_17_ok N hd hw x1 hx1 x2 hx2 A
    · refine js_iconst (pc1 := 16) rfl rfl ?_
      exact je_I rfl (zfit0 _ rfl) rfl (zlit rfl)
  · exact z_Mc_step_17_ok N hd hw x1 hx1 x2 hx2 A
theorem z_Mc_start_61_bok{d w : Nat} {r61 : Int → Int → Int → zA → Option (Int × zA)} (hr61 : ∀ (x2 : Int) (hx2 : zrg x2) (x3 : Int) (hx3 : zrg x3) (x4 : Int) (hx4 : zrg x4) (A : zA), zG (r61 x2 x3 x4 A) zPI d w 123 61 [some (.inr (.inr (some 214))), some (.inr (.inr (some 209))), some (.inl x2), some (.inl x3), some (.inl x4)] [] A) (N : Nat) (hd : 4 ≤ d) (hw : 89 ≤ w) (x2 : Int) (hx2 : zrg x2) (x3 : Int) (hx3 : zrg x3) (x4 : Int) (hx4 : zrg x4) (A : zA) : zG (z_Mc_start_61_b r61 N x2 x3 x4 A) zPI d w 123 61 [some (.inr (.inr (some 214))), some (.inr (.inr (some 209))), some (.inl x2), some (.inl x3), some (.inl x4)] [] A := by
  unfold z_Mc_start_61_b
  refine js_iload (pc1 := 63) rfl rfl rfl ?_
  refine js_iload (pc1 := 64) rfl rfl rfl ?_
  refine jt_ge (pc1 := 67) (t1 := 99) hx4 hx2 rfl rfl rfl (fun c1 => ?_) (fun c1 => ?_)
  · refine js_iload (pc1 := 68) rfl rfl rfl ?_
    refine js_iconst (pc1 := 69) rfl rfl ?_
    refine jt_ne (pc1 := 72) (t1 := 99) hx3 (zlit rfl) rfl rfl rfl (fun c2 => ?_) (fun c2 => ?_)
    · refine js_aload (pc1 := 73) rfl rfl rfl ?_
      refine js_aload (pc1 := 74) rfl rfl rfl ?_
      refine js_aload (pc1 := 75) rfl rfl rfl ?_
      refine js_gi (pc1 := 78) (j := 13) rfl rfl rfl rfl ?_
      refine js_cP (pc1 := 81) (as := [(.inr (.inr (some 209))), (.inl (zi A 214 13))]) (S0 := [(.inr (.inr (some 214)))]) (m := 2) (L0 := [some (.inr (.inr (some 209))), some (.inl (zi A 214 13))]) rfl rfl rfl rfl rfl rfl rfl rfl (zrc_o rfl rfl) (by omega) (by omega) (z_Cd_letterAt_ok N (by omega) (by omega) (zi A 214 13) (zi_rg _ _ _) A) (fun v3 _ hv3 => ?_)
      refine js_aload (pc1 := 82) rfl rfl rfl ?_
      refine js_aload (pc1 := 83) rfl rfl rfl ?_
      refine js_gi (pc1 := 86) (j := 13) rfl rfl rfl rfl ?_
      refine js_cP (pc1 := 89) (as := [(.inr (.inr (some 209))), (.inl (zi A 214 13))]) (S0 := [(.inl v3), (.inr (.inr (some 214)))]) (m := 2) (L0 := [some (.inr (.inr (some 209))), some (.inl (zi A 214 13))]) rfl rfl rfl rfl rfl rfl rfl rfl (zrc_o rfl rfl) (by omega) (by omega) (z_Cd_numberAt_ok N (by omega) (by omega) (zi A 214 13) (zi_rg _ _ _) A) (fun v4 _ hv4 => ?_)
      refine js_cI (pc1 := 92) (as := [(.inr (.inr (some 214))), (.inl v3), (.inl v4)]) (S0 := []) (m := 4) (L0 := [some (.inr (.inr (some 214))), some (.inl v3), some (.inl v4), none]) rfl rfl rfl rfl rfl rfl rfl rfl (zrc_o rfl rfl) (by omega) (by omega) (z_Mc_step_ok N (by omega) (by omega) v3 hv3 v4 hv4 A) (fun v5 A6 _ hv5 => ?_)
      refine js_istore (pc1 := 93) (L1 := [some (.inr (.inr (some 214))), some (.inr (.inr (some 209))), some (.inl x2), some (.inl v5), some (.inl x4)]) rfl rfl rfl rfl ?_
      refine js_iinc (pc1 := 96) (L1 := [some (.inr (.inr (some 214))), some (.inr (.inr (some 209))), some (.inl x2), some (.inl v5), some (.inl (x4 + 1))]) rfl rfl rfl rfl ?_
      refine js_goto (t1 := 61) rfl rfl ?_
      exact zG_to (L := [some (.inr (.inr (some 214))), some (.inr (.inr (some 209))), some (.inl x2), some (.inl v5), some (.inl (zw (x4 + 1)))]) (S := []) ⟨rfl, ⟨rfl, ⟨rfl, ⟨rfl, ⟨zval_w (x4 + 1), trivial⟩⟩⟩⟩⟩ (rfl) (hr61 x2 hx2 v5 hv5 (zw (x4 + 1)) (zw_rg (x4 + 1)) A6)
    · refine js_iload (pc1 := 100) rfl rfl rfl ?_
      refine js_iconst (pc1 := 101) rfl rfl ?_
      refine jt_ne (pc1 := 104) (t1 := 108) hx3 (zlit rfl) rfl rfl rfl (fun c7 => ?_) (fun c7 => ?_)
      · refine js_iconst (pc1 := 105) rfl rfl ?_
        refine js_goto (t1 := 109) rfl rfl ?_
        exact je_I rfl (zfit0 _ rfl) rfl (zlit rfl)
      · refine js_iload (pc1 := 109) rfl rfl rfl ?_
        exact je_I rfl (zfit0 _ rfl) rfl hx3
  · refine js_iload (pc1 := 100) rfl rfl rfl ?_
    refine js_iconst (pc1 := 101) rfl rfl ?_
    refine jt_ne (pc1 := 104) (t1 := 108) hx3 (zlit rfl) rfl rfl rfl (fun c8 => ?_) (fun c8 => ?_)
    · refine js_iconst (pc1 := 105) rfl rfl ?_
      refine js_goto (t1 := 109) rfl rfl ?_
      exact je_I rfl (zfit0 _ rfl) rfl (zlit rfl)
    · refine js_iload (pc1 := 109) rfl rfl rfl ?_
      exact je_I rfl (zfit0 _ rfl) rfl hx3
theorem z_Mc_start_61_lok{d w : Nat} (N : Nat) (hd : 4 ≤ d) (hw : 89 ≤ w) (n : Nat) : ∀ (x2 : Int) (hx2 : zrg x2) (x3 : Int) (hx3 : zrg x3) (x4 : Int) (hx4 : zrg x4) (A : zA), zG (z_Mc_start_61_l N n x2 x3 x4 A) zPI d w 123 61 [some (.inr (.inr (some 214))), some (.inr (.inr (some 209))), some (.inl x2), some (.inl x3), some (.inl x4)] [] A := by
  induction n with
  | zero => intros; exact zG_none
  | succ n ih =>
    intro x2 hx2 x3 hx3 x4 hx4 A
    exact z_Mc_start_61_bok ih N hd hw x2 hx2 x3 hx3 x4 hx4 A
theorem z_Mc_start_61_ok{d w : Nat} (N : Nat) (hd : 4 ≤ d) (hw : 89 ≤ w) (x2 : Int) (hx2 : zrg x2) (x3 : Int) (hx3 : zrg x3) (x4 : Int) (hx4 : zrg x4) (A : zA) : zG (z_Mc_start_61 N x2 x3 x4 A) zPI d w 123 61 [some (.inr (.inr (some 214))), some (.inr (.inr (some 209))), some (.inl x2), some (.inl x3), some (.inl x4)] [] A := z_Mc_start_61_lok N hd hw N x2 hx2 x3 hx3 x4 hx4 A
theorem z_Mc_start_ok{d w : Nat} (N : Nat) (hd : 4 ≤ d) (hw : 89 ≤ w) (x2 : Int) (hx2 : zrg x2) (A : zA) : zG (z_Mc_start N x2 A) zPI d w 123 0 [some (.inr (.inr (some 214))), some (.inr (.inr (some 209))), some (.inl x2), none, none] [] A := by
  unfold z_Mc_start
  refine js_aload (pc1 := 1) rfl rfl rfl ?_
  refine js_gfr (pc1 := 4) (j := 6) (r := 217) rfl rfl rfl rfl rfl ?_
  refine js_iconst (pc1 := 5) rfl rfl ?_
  refine js_cV (pc1 := 8) (as := [(.inr (.inr (some 217))), (.inl 0)]) (S0 := []) (m := 4) (L0 := [some (.inr (.inr (some 217))), some (.inl 0), none, none]) rfl rfl rfl rfl rfl rfl rfl rfl (zrc_s rfl) (by omega) (by omega) (z_Ar_fill_ok N (by omega) (by omega) 217 0 (zlit rfl) A) (fun A1 _ => ?_)
  refine js_aload (pc1 := 9) rfl rfl rfl ?_
  refine js_gfr (pc1 := 12) (j := 7) (r := 218) rfl rfl rfl rfl rfl ?_
  refine js_iconst (pc1 := 13) rfl rfl ?_
  refine js_cV (pc1 := 16) (as := [(.inr (.inr (some 218))), (.inl 0)]) (S0 := []) (m := 4) (L0 := [some (.inr (.inr (some 218))), some (.inl 0), none, none]) rfl rfl rfl rfl rfl rfl rfl rfl (zrc_s rfl) (by omega) (by omega) (z_Ar_fill_ok N (by omega) (by omega) 218 0 (zlit rfl) A1) (fun A2 _ => ?_)
  refine js_aload (pc1 := 17) rfl rfl rfl ?_
  refine js_gfr (pc1 := 20) (j := 8) (r := 219) rfl rfl rfl rfl rfl ?_
  refine js_iconst (pc1 := 21) rfl rfl ?_
  refine jt_aald (pc1 := 22) rfl rfl (fun p3 => ?_)
  refine js_iconst (pc1 := 23) rfl rfl ?_
  refine js_cV (pc1 := 26) (as := [(.inr (.inr (some p3))), (.inl 0)]) (S0 := []) (m := 4) (L0 := [some (.inr (.inr (some p3))), some (.inl 0), none, none]) rfl rfl rfl rfl rfl rfl rfl rfl (zrc_s rfl) (by omega) (by omega) (z_Ar_fill_ok N (by omega) (by omega) p3 0 (zlit rfl) A2) (fun A4 _ => ?_)
  refine js_aload (pc1 := 27) rfl rfl rfl ?_
  refine js_iconst (pc1 := 28) rfl rfl ?_
  refine jt_pi (pc1 := 31) (j := 10) rfl rfl rfl rfl rfl (fun A5 => ?_)
  refine js_aload (pc1 := 32) rfl rfl rfl ?_
  refine js_iconst (pc1 := 33) rfl rfl ?_
  refine jt_pi (pc1 := 36) (j := 12) rfl rfl rfl rfl rfl (fun A6 => ?_)
  refine js_aload (pc1 := 37) rfl rfl rfl ?_
  refine js_iconst (pc1 := 38) rfl rfl ?_
  refine jt_pi (pc1 := 41) (j := 13) rfl rfl rfl rfl rfl (fun A7 => ?_)
  refine js_aload (pc1 := 42) rfl rfl rfl ?_
  refine js_iconst (pc1 := 43) rfl rfl ?_
  refine jt_pi (pc1 := 46) (j := 3) rfl rfl rfl rfl rfl (fun A8 => ?_)
  refine js_aload (pc1 := 47) rfl rfl rfl ?_
  refine js_iconst (pc1 := 48) rfl rfl ?_
  refine jt_pi (pc1 := 51) (j := 4) rfl rfl rfl rfl rfl (fun A9 => ?_)
  refine js_aload (pc1 := 52) rfl rfl rfl ?_
  refine js_iconst (pc1 := 53) rfl rfl ?_
  refine jt_pi (pc1 := 56) (j := 5) rfl rfl rfl rfl rfl (fun A10 => ?_)
  refine js_iconst (pc1 := 57) rfl rfl ?_
  refine js_istore (pc1 := 58) (L1 := [some (.inr (.inr (some 214))), some (.inr (.inr (some 209))), some (.inl x2), some (.inl (-1)), none]) rfl rfl rfl rfl ?_
  refine js_iconst (pc1 := 59) rfl rfl ?_
  refine js_istore (pc1 := 61) (L1 := [some (.inr (.inr (some 214))), some (.inr (.inr (some 209))), some (.inl x2), some (.inl (-1)), some (.inl 0)]) rfl rfl rfl rfl ?_
  exact z_Mc_start_61_ok N hd hw x2 hx2 (-1) (zlit rfl) 0 (zlit rfl) A10
theorem z_PC_run_ok{d w : Nat} (N : Nat) (hd : 8 ≤ d) (hw : 10300 ≤ w) (x1 : Int) (hx1 : zrg x1) (A : zA) : zG (z_PC_run N x1 A) zPX d w 68 0 [some (.inr (.inr (some 4))), some (.inl x1)] [] A := by
  unfold z_PC_run
  refine js_iload (pc1 := 1) rfl rfl rfl ?_
  refine js_iconst (pc1 := 2) rfl rfl ?_
  refine jt_lt (pc1 := 5) (t1 := 12) hx1 (zlit rfl) rfl rfl rfl (fun c1 => ?_) (fun c1 => ?_)
  · exact je_T rfl rfl (by omega) (by omega)
  · refine js_iload (pc1 := 6) rfl rfl rfl ?_
    refine js_iconst (pc1 := 9) rfl rfl ?_
    refine jt_le (pc1 := 12) (t1 := 22) hx1 (zlit rfl) rfl rfl rfl (fun c2 => ?_) (fun c2 => ?_)
    · exact je_T rfl rfl (by omega) (by omega)
    · refine js_aload (pc1 := 23) rfl rfl rfl ?_
      refine js_cV (pc1 := 26) (as := [(.inr (.inr (some 4)))]) (S0 := []) (m := 1) (L0 := [some (.inr (.inr (some 4)))]) rfl rfl rfl rfl rfl rfl rfl rfl (zrc_o rfl rfl) (by omega) (by omega) (z_PC_makeLetters_ok N (by omega) (by omega) A) (fun A3 _ => ?_)
      refine js_aload (pc1 := 27) rfl rfl rfl ?_
      refine js_gfr (pc1 := 30) (j := 10) (r := 214) rfl rfl rfl rfl rfl ?_
      refine js_aload (pc1 := 31) rfl rfl rfl ?_
      refine js_gfr (pc1 := 34) (j := 8) (r := 209) rfl rfl rfl rfl rfl ?_
      refine js_iload (pc1 := 35) rfl rfl rfl ?_
      refine js_cI (pc1 := 38) (as := [(.inr (.inr (some 214))), (.inr (.inr (some 209))), (.inl x1)]) (S0 := []) (m := 5) (L0 := [some (.inr (.inr (some 214))), some (.inr (.inr (some 209))), some (.inl x1), none, none]) rfl rfl rfl rfl rfl rfl rfl rfl (zrc_o rfl rfl) (by omega) (by omega) (z_Mc_start_ok N (by omega) (by omega) x1 hx1 A3) (fun v4 A5 _ hv4 => ?_)
      exact je_X rfl (zfit0 _ rfl) rfl hv4
theorem z_Lw_run_ok{d w : Nat} (N : Nat) (hd : 9 ≤ d) (hw : 10321 ≤ w) (x1 : Int) (hx1 : zrg x1) (A : zA) : zG (z_Lw_run N x1 A) zPI d w 26 0 [some (.inr (.inr (some 4))), some (.inl x1), some (.inr (.inr (some 295))), none] [] A := by
  unfold z_Lw_run
  refine js_aload (pc1 := 1) rfl rfl rfl ?_
  refine js_iconst (pc1 := 2) rfl rfl ?_
  refine js_aload (pc1 := 3) rfl rfl rfl ?_
  refine js_iload (pc1 := 4) rfl rfl rfl ?_
  refine js_cX (pc1 := 7) (as := [(.inr (.inr (some 4))), (.inl x1)]) (S0 := [(.inl 0), (.inr (.inr (some 295)))]) (m := 2) (L0 := [some (.inr (.inr (some 4))), some (.inl x1)]) rfl rfl rfl rfl rfl rfl rfl rfl (zrc_o rfl rfl) (by omega) (by omega) (z_PC_run_ok N (by omega) (by omega) x1 hx1 A) (fun v1 A2 hv1 => ?_) (fun n5 A4 => ?_)
  · refine js_i2l (pc1 := 8) rfl rfl ?_
    refine jt_las (pc1 := 9) rfl rfl rfl rfl (fun A6 => ?_)
    refine js_goto (t1 := 15) rfl rfl ?_
    refine js_iconst (pc1 := 16) rfl rfl ?_
    exact je_I rfl (zfit0 _ rfl) rfl (zlit rfl)
  · rcases Decidable.em (n5 = 0) with c7 | c7
    · subst c7
      refine Or.inr ⟨12, by decide, fun e3 => ?_⟩
      rw [if_pos rfl]
      refine js_astore (pc1 := 13) (L1 := [some (.inr (.inr (some 4))), some (.inl x1), some (.inr (.inr (some 295))), some (.inr (.inr (some e3)))]) rfl rfl rfl rfl ?_
      refine js_iconst (pc1 := 14) rfl rfl ?_
      exact je_I rfl (zfit0 _ rfl) rfl (zlit rfl)
    exact Or.inl (by simp only [if_neg c7])
theorem z_M_begin_85_bok{d w : Nat} {r85 : Int → zA → Option zA} (hr85 : ∀ (x1 : Int) (hx1 : zrg x1) (A : zA), zG (r85 x1 A) zPV d w 69 85 [some (.inr (.inr (some 226))), some (.inl x1)] [] A) (N : Nat) (hd : 3 ≤ d) (hw : 71 ≤ w) (x1 : Int) (hx1 : zrg x1) (A : zA) : zG (z_M_begin_85_b r85 N x1 A) zPV d w 69 85 [some (.inr (.inr (some 226))), some (.inl x1)] [] A := by
  unfold z_M_begin_85_b
  refine js_iload (pc1 := 86) rfl rfl rfl ?_
  refine js_iconst (pc1 := 87) rfl rfl ?_
  refine jt_ge (pc1 := 90) (t1 := 110) hx1 (zlit rfl) rfl rfl rfl (fun c1 => ?_) (fun c1 => ?_)
  · refine js_aload (pc1 := 91) rfl rfl rfl ?_
    refine js_iload (pc1 := 92) rfl rfl rfl ?_
    refine js_cP (pc1 := 95) (as := [(.inr (.inr (some 226))), (.inl x1)]) (S0 := []) (m := 2) (L0 := [some (.inr (.inr (some 226))), some (.inl x1)]) rfl rfl rfl rfl rfl rfl rfl rfl (zrc_o rfl rfl) (by omega) (by omega) (z_M_isThere_ok N (by omega) (by omega) x1 hx1 A) (fun v2 _ hv2 => ?_)
    refine ju_eq (pc1 := 98) (t1 := 104) hv2 rfl rfl rfl (fun c3 => ?_) (fun c3 => ?_)
    · refine js_iinc (pc1 := 107) (L1 := [some (.inr (.inr (some 226))), some (.inl (x1 + 1))]) rfl rfl rfl rfl ?_
      refine js_goto (t1 := 85) rfl rfl ?_
      exact zG_to (L := [some (.inr (.inr (some 226))), some (.inl (zw (x1 + 1)))]) (S := []) ⟨rfl, ⟨zval_w (x1 + 1), trivial⟩⟩ (rfl) (hr85 (zw (x1 + 1)) (zw_rg (x1 + 1)) A)
    · refine js_aload (pc1 := 99) rfl rfl rfl ?_
      refine js_iconst (pc1 := 100) rfl rfl ?_
      refine js_iload (pc1 := 101) rfl rfl rfl ?_
      refine js_cV (pc1 := 104) (as := [(.inr (.inr (some 226))), (.inl 0), (.inl x1)]) (S0 := []) (m := 6) (L0 := [some (.inr (.inr (some 226))), some (.inl 0), some (.inl x1), none, none, none]) rfl rfl rfl rfl rfl rfl rfl rfl (zrc_o rfl rfl) (by omega) (by omega) (z_M_match_ok N (by omega) (by omega) 0 (zlit rfl) x1 hx1 A) (fun A4 _ => ?_)
      refine js_iinc (pc1 := 107) (L1 := [some (.inr (.inr (some 226))), some (.inl (x1 + 1))]) rfl rfl rfl rfl ?_
      refine js_goto (t1 := 85) rfl rfl ?_
      exact zG_to (L := [some (.inr (.inr (some 226))), some (.inl (zw (x1 + 1)))]) (S := []) ⟨rfl, ⟨zval_w (x1 + 1), trivial⟩⟩ (rfl) (hr85 (zw (x1 + 1)) (zw_rg (x1 + 1)) A4)
  · exact je_V rfl
theorem z_M_begin_85_lok{d w : Nat} (N : Nat) (hd : 3 ≤ d) (hw : 71 ≤ w) (n : Nat) : ∀ (x1 : Int) (hx1 : zrg x1) (A : zA), zG (z_M_begin_85_l N n x1 A) zPV d w 69 85 [some (.inr (.inr (some 226))), some (.inl x1)] [] A := by
  induction n with
  | zero => intros; exact zG_none
  | succ n ih =>
    intro x1 hx1 A
    exact z_M_begin_85_bok ih N hd hw x1 hx1 A
theorem z_M_begin_85_ok{d w : Nat} (N : Nat) (hd : 3 ≤ d) (hw : 71 ≤ w) (x1 : Int) (hx1 : zrg x1) (A : zA) : zG (z_M_begin_85 N x1 A) zPV d w 69 85 [some (.inr (.inr (some 226))), some (.inl x1)] [] A := z_M_begin_85_lok N hd hw N x1 hx1 A
theorem z_M_begin_64_bok{d w : Nat} {r64 : Int → zA → Option zA} (hr64 : ∀ (x1 : Int) (hx1 : zrg x1) (A : zA), zG (r64 x1 A) zPV d w 69 64 [some (.inr (.inr (some 226))), some (.inl x1)] [] A) (N : Nat) (hd : 3 ≤ d) (hw : 71 ≤ w) (x1 : Int) (hx1 : zrg x1) (A : zA) : zG (z_M_begin_64_b r64 N x1 A) zPV d w 69 64 [some (.inr (.inr (some 226))), some (.inl x1)] [] A := by
  unfold z_M_begin_64_b
  refine js_iload (pc1 := 65) rfl rfl rfl ?_
  refine js_iconst (pc1 := 67) rfl rfl ?_
  refine jt_ge (pc1 := 70) (t1 := 83) hx1 (zlit rfl) rfl rfl rfl (fun c1 => ?_) (fun c1 => ?_)
  · refine js_aload (pc1 := 71) rfl rfl rfl ?_
    refine js_gfr (pc1 := 74) (j := 96) (r := 292) rfl rfl rfl rfl rfl ?_
    refine js_iload (pc1 := 75) rfl rfl rfl ?_
    refine js_iconst (pc1 := 76) rfl rfl ?_
    refine jt_ias (pc1 := 77) rfl rfl rfl rfl (fun A2 => ?_)
    refine js_iinc (pc1 := 80) (L1 := [some (.inr (.inr (some 226))), some (.inl (x1 + 1))]) rfl rfl rfl rfl ?_
    refine js_goto (t1 := 64) rfl rfl ?_
    exact zG_to (L := [some (.inr (.inr (some 226))), some (.inl (zw (x1 + 1)))]) (S := []) ⟨rfl, ⟨zval_w (x1 + 1), trivial⟩⟩ (rfl) (hr64 (zw (x1 + 1)) (zw_rg (x1 + 1)) A2)
  · refine js_iconst (pc1 := 84) rfl rfl ?_
    refine js_istore (pc1 := 85) (L1 := [some (.inr (.inr (some 226))), some (.inl 0)]) rfl rfl rfl rfl ?_
    exact z_M_begin_85_ok N hd hw 0 (zlit rfl) A
theorem z_M_begin_64_lok{d w : Nat} (N : Nat) (hd : 3 ≤ d) (hw : 71 ≤ w) (n : Nat) : ∀ (x1 : Int) (hx1 : zrg x1) (A : zA), zG (z_M_begin_64_l N n x1 A) zPV d w 69 64 [some (.inr (.inr (some 226))), some (.inl x1)] [] A := by
  induction n with
  | zero => intros; exact zG_none
  | succ n ih =>
    intro x1 hx1 A
    exact z_M_begin_64_bok ih N hd hw x1 hx1 A
theorem z_M_begin_64_ok{d w : Nat} (N : Nat) (hd : 3 ≤ d) (hw : 71 ≤ w) (x1 : Int) (hx1 : zrg x1) (A : zA) : zG (z_M_begin_64 N x1 A) zPV d w 69 64 [some (.inr (.inr (some 226))), some (.inl x1)] [] A := z_M_begin_64_lok N hd hw N x1 hx1 A
theorem z_M_begin_43_bok{d w : Nat} {r43 : Int → zA → Option zA} (hr43 : ∀ (x1 : Int) (hx1 : zrg x1) (A : zA), zG (r43 x1 A) zPV d w 69 43 [some (.inr (.inr (some 226))), some (.inl x1)] [] A) (N : Nat) (hd : 3 ≤ d) (hw : 71 ≤ w) (x1 : Int) (hx1 : zrg x1) (A : zA) : zG (z_M_begin_43_b r43 N x1 A) zPV d w 69 43 [some (.inr (.inr (some 226))), some (.inl x1)] [] A := by
  unfold z_M_begin_43_b
  refine js_iload (pc1 := 44) rfl rfl rfl ?_
  refine js_iconst (pc1 := 46) rfl rfl ?_
  refine jt_ge (pc1 := 49) (t1 := 62) hx1 (zlit rfl) rfl rfl rfl (fun c1 => ?_) (fun c1 => ?_)
  · refine js_aload (pc1 := 50) rfl rfl rfl ?_
    refine js_gfr (pc1 := 53) (j := 98) (r := 294) rfl rfl rfl rfl rfl ?_
    refine js_iload (pc1 := 54) rfl rfl rfl ?_
    refine js_iconst (pc1 := 55) rfl rfl ?_
    refine jt_ias (pc1 := 56) rfl rfl rfl rfl (fun A2 => ?_)
    refine js_iinc (pc1 := 59) (L1 := [some (.inr (.inr (some 226))), some (.inl (x1 + 1))]) rfl rfl rfl rfl ?_
    refine js_goto (t1 := 43) rfl rfl ?_
    exact zG_to (L := [some (.inr (.inr (some 226))), some (.inl (zw (x1 + 1)))]) (S := []) ⟨rfl, ⟨zval_w (x1 + 1), trivial⟩⟩ (rfl) (hr43 (zw (x1 + 1)) (zw_rg (x1 + 1)) A2)
  · refine js_iconst (pc1 := 63) rfl rfl ?_
    refine js_istore (pc1 := 64) (L1 := [some (.inr (.inr (some 226))), some (.inl 0)]) rfl rfl rfl rfl ?_
    exact z_M_begin_64_ok N hd hw 0 (zlit rfl) A
