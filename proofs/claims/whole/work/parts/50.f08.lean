theorem z_Wk_goOverIf_88_ok{d w : Nat} {rec : Nat → Int → Int → Int → zA → Option zA} {Dr Wr : Nat} (hrec : ∀ (d w : Nat), Dr ≤ d → Wr ≤ w → ∀ (x1 : Nat) (hx1 : zsh x1 = some (false, 3, 4)) (x2 : Int) (hx2 : zrg x2) (x3 : Int) (hx3 : zrg x3) (x4 : Int) (hx4 : zrg x4) (A : zA), zG (rec x1 x2 x3 x4 A) zPV d w 182 0 [some (.inr (.inr (some 110))), some (.inr (.inr (some x1))), some (.inl x2), some (.inl x3), some (.inl x4), none] [] A) (N : Nat) (hd : Dr + 4 ≤ d) (hw : Wr + 137 ≤ w) (x3 : Int) (hx3 : zrg x3) (s1 : Nat) (hs1 : zsh s1 = some (false, 3, 4)) (s2 : Int) (hs2 : zrg s2) (s3 : Int) (hs3 : zrg s3) (A : zA) : zG (z_Wk_goOverIf_88 rec N x3 s1 s2 s3 A) zPV d w 251 88 [none, none, none, some (.inl x3), none, none, none, none, none, none, none] [(.inl s3), (.inl s2), (.inr (.inr (some s1))), (.inr (.inr (some 110)))] A := by
  unfold z_Wk_goOverIf_88
  refine js_iload (pc1 := 89) rfl rfl rfl ?_
  refine js_iconst (pc1 := 90) rfl rfl ?_
  refine js_iadd (pc1 := 91) rfl rfl ?_
  refine js_cV (pc1 := 94) (as := [(.inr (.inr (some 110))), (.inr (.inr (some s1))), (.inl s2), (.inl s3), (.inl (x3 + 1))]) (S0 := []) (m := 6) (L0 := [some (.inr (.inr (some 110))), some (.inr (.inr (some s1))), some (.inl s2), some (.inl s3), some (.inl (x3 + 1)), none]) rfl rfl rfl rfl rfl rfl rfl rfl (zrc_o rfl rfl) (by omega) (by omega) (zG_to (L := [some (.inr (.inr (some 110))), some (.inr (.inr (some s1))), some (.inl s2), some (.inl s3), some (.inl (zw (x3 + 1))), none]) (S := []) ⟨rfl, ⟨rfl, ⟨rfl, ⟨rfl, ⟨zval_w (x3 + 1), trivial⟩⟩⟩⟩⟩ rfl (hrec _ _ (by omega) (by omega) s1 hs1 s2 hs2 s3 hs3 (zw (x3 + 1)) (zw_rg (x3 + 1)) A)) (fun A1 _ => ?_)
  exact je_V rfl
theorem z_Wk_goOverIf_57_ok{d w : Nat} {rec : Nat → Int → Int → Int → zA → Option zA} {Dr Wr : Nat} (hrec : ∀ (d w : Nat), Dr ≤ d → Wr ≤ w → ∀ (x1 : Nat) (hx1 : zsh x1 = some (false, 3, 4)) (x2 : Int) (hx2 : zrg x2) (x3 : Int) (hx3 : zrg x3) (x4 : Int) (hx4 : zrg x4) (A : zA), zG (rec x1 x2 x3 x4 A) zPV d w 182 0 [some (.inr (.inr (some 110))), some (.inr (.inr (some x1))), some (.inl x2), some (.inl x3), some (.inl x4), none] [] A) (N : Nat) (hd : Dr + 4 ≤ d) (hw : Wr + 137 ≤ w) (x1 : Nat) (hx1 : zsh x1 = some (false, 3, 4)) (x2 : Int) (hx2 : zrg x2) (x3 : Int) (hx3 : zrg x3) (x5 : Int) (hx5 : zrg x5) (x6 : Int) (hx6 : zrg x6) (s0 : Int) (hs0 : zrg s0) (A : zA) : zG (z_Wk_goOverIf_57 rec N x1 x2 x3 x5 x6 s0 A) zPV d w 251 57 [some (.inr (.inr (some 110))), some (.inr (.inr (some x1))), some (.inl x2), some (.inl x3), none, some (.inl x5), some (.inl x6), none, none, none, none] [(.inl s0)] A := by
  unfold z_Wk_goOverIf_57
  refine js_istore (pc1 := 59) (L1 := [some (.inr (.inr (some 110))), some (.inr (.inr (some x1))), some (.inl x2), some (.inl x3), none, some (.inl x5), some (.inl x6), some (.inl s0), none, none, none]) rfl rfl rfl rfl ?_
  refine js_aload (pc1 := 60) rfl rfl rfl ?_
  refine js_aload (pc1 := 61) rfl rfl rfl ?_
  refine js_iload (pc1 := 63) rfl rfl rfl ?_
  refine ju_eq (pc1 := 66) (t1 := 72) hs0 rfl rfl rfl (fun c1 => ?_) (fun c1 => ?_)
  · refine js_iload (pc1 := 74) rfl rfl rfl ?_
    refine js_iconst (pc1 := 75) rfl rfl ?_
    refine js_iadd (pc1 := 76) rfl rfl ?_
    refine js_iload (pc1 := 78) rfl rfl rfl ?_
    refine ju_eq (pc1 := 81) (t1 := 86) hs0 rfl rfl rfl (fun c2 => ?_) (fun c2 => ?_)
    · refine js_iload (pc1 := 88) rfl rfl rfl ?_
      exact zG_to (L := [none, none, none, some (.inl x3), none, none, none, none, none, none, none]) (S := [(.inl x6), (.inl (zw (x5 + 1))), (.inr (.inr (some x1))), (.inr (.inr (some 110)))]) ⟨rfl, trivial⟩ (by simp only [zS, List.map_cons, List.map_nil, zval_w]) (z_Wk_goOverIf_88_ok hrec N hd hw x3 hx3 x1 hx1 (zw (x5 + 1)) (zw_rg (x5 + 1)) x6 hx6 A)
    · refine js_iload (pc1 := 83) rfl rfl rfl ?_
      refine js_goto (t1 := 88) rfl rfl ?_
      exact zG_to (L := [none, none, none, some (.inl x3), none, none, none, none, none, none, none]) (S := [(.inl x5), (.inl (zw (x5 + 1))), (.inr (.inr (some x1))), (.inr (.inr (some 110)))]) ⟨rfl, trivial⟩ (by simp only [zS, List.map_cons, List.map_nil, zval_w]) (z_Wk_goOverIf_88_ok hrec N hd hw x3 hx3 x1 hx1 (zw (x5 + 1)) (zw_rg (x5 + 1)) x5 hx5 A)
  · refine js_iload (pc1 := 67) rfl rfl rfl ?_
    refine js_iconst (pc1 := 68) rfl rfl ?_
    refine js_iadd (pc1 := 69) rfl rfl ?_
    refine js_goto (t1 := 76) rfl rfl ?_
    refine js_iload (pc1 := 78) rfl rfl rfl ?_
    refine ju_eq (pc1 := 81) (t1 := 86) hs0 rfl rfl rfl (fun c3 => ?_) (fun c3 => ?_)
    · refine js_iload (pc1 := 88) rfl rfl rfl ?_
      exact zG_to (L := [none, none, none, some (.inl x3), none, none, none, none, none, none, none]) (S := [(.inl x6), (.inl (zw (x2 + 1))), (.inr (.inr (some x1))), (.inr (.inr (some 110)))]) ⟨rfl, trivial⟩ (by simp only [zS, List.map_cons, List.map_nil, zval_w]) (z_Wk_goOverIf_88_ok hrec N hd hw x3 hx3 x1 hx1 (zw (x2 + 1)) (zw_rg (x2 + 1)) x6 hx6 A)
    · refine js_iload (pc1 := 83) rfl rfl rfl ?_
      refine js_goto (t1 := 88) rfl rfl ?_
      exact zG_to (L := [none, none, none, some (.inl x3), none, none, none, none, none, none, none]) (S := [(.inl x5), (.inl (zw (x2 + 1))), (.inr (.inr (some x1))), (.inr (.inr (some 110)))]) ⟨rfl, trivial⟩ (by simp only [zS, List.map_cons, List.map_nil, zval_w]) (z_Wk_goOverIf_88_ok hrec N hd hw x3 hx3 x1 hx1 (zw (x2 + 1)) (zw_rg (x2 + 1)) x5 hx5 A)
theorem z_Wk_goOverIf_212_bok{d w : Nat} {rec : Nat → Int → Int → Int → zA → Option zA} {Dr Wr : Nat} (hrec : ∀ (d w : Nat), Dr ≤ d → Wr ≤ w → ∀ (x1 : Nat) (hx1 : zsh x1 = some (false, 3, 4)) (x2 : Int) (hx2 : zrg x2) (x3 : Int) (hx3 : zrg x3) (x4 : Int) (hx4 : zrg x4) (A : zA), zG (rec x1 x2 x3 x4 A) zPV d w 182 0 [some (.inr (.inr (some 110))), some (.inr (.inr (some x1))), some (.inl x2), some (.inl x3), some (.inl x4), none] [] A) {r212 : Int → Nat → Int → zA → Option zA} (hr212 : ∀ (x4 : Int) (hx4 : zrg x4) (x8 : Nat) (x10 : Int) (hx10 : zrg x10) (A : zA), zG (r212 x4 x8 x10 A) zPV d w 251 212 [some (.inr (.inr (some 110))), none, none, none, some (.inl x4), none, none, none, some (.inr (.inr (some x8))), none, some (.inl x10)] [] A) (N : Nat) (hd : Dr + 4 ≤ d) (hw : Wr + 137 ≤ w) (x4 : Int) (hx4 : zrg x4) (x8 : Nat) (x10 : Int) (hx10 : zrg x10) (A : zA) : zG (z_Wk_goOverIf_212_b rec r212 N x4 x8 x10 A) zPV d w 251 212 [some (.inr (.inr (some 110))), none, none, none, some (.inl x4), none, none, none, some (.inr (.inr (some x8))), none, some (.inl x10)] [] A := by
  unfold z_Wk_goOverIf_212_b
  refine js_iload (pc1 := 214) rfl rfl rfl ?_
  refine js_iconst (pc1 := 216) rfl rfl ?_
  refine jt_ge (pc1 := 219) (t1 := 270) hx10 (zlit rfl) rfl rfl rfl (fun c1 => ?_) (fun c1 => ?_)
  · refine js_aload (pc1 := 221) rfl rfl rfl ?_
    refine js_iload (pc1 := 223) rfl rfl rfl ?_
    refine jt_aldD (pc1 := 224) rfl rfl (fun v2 hv2 => ?_)
    refine js_aload (pc1 := 225) rfl rfl rfl ?_
    refine jt_gr (pc1 := 228) (j := 5) rfl rfl rfl rfl (fun p3 => ?_)
    refine js_iload (pc1 := 230) rfl rfl rfl ?_
    refine jt_aldD (pc1 := 231) rfl rfl (fun v4 hv4 => ?_)
    refine jt_eq (pc1 := 234) (t1 := 264) hv2 hv4 rfl rfl rfl (fun c5 => ?_) (fun c5 => ?_)
    · refine js_iinc (pc1 := 267) (L1 := [some (.inr (.inr (some 110))), none, none, none, some (.inl x4), none, none, none, some (.inr (.inr (some x8))), none, some (.inl (x10 + 1))]) rfl rfl rfl rfl ?_
      refine js_goto (t1 := 212) rfl rfl ?_
      exact zG_to (L := [some (.inr (.inr (some 110))), none, none, none, some (.inl x4), none, none, none, some (.inr (.inr (some x8))), none, some (.inl (zw (x10 + 1)))]) (S := []) ⟨rfl, ⟨rfl, ⟨rfl, ⟨zval_w (x10 + 1), trivial⟩⟩⟩⟩ (rfl) (hr212 x4 hx4 x8 (zw (x10 + 1)) (zw_rg (x10 + 1)) A)
    · refine js_aload (pc1 := 235) rfl rfl rfl ?_
      refine jt_gr (pc1 := 238) (j := 5) rfl rfl rfl rfl (fun p6 => ?_)
      refine js_iload (pc1 := 240) rfl rfl rfl ?_
      refine js_aload (pc1 := 241) rfl rfl rfl ?_
      refine js_gfr (pc1 := 244) (j := 0) (r := 111) rfl rfl rfl rfl rfl ?_
      refine js_iconst (pc1 := 246) rfl rfl ?_
      refine js_iload (pc1 := 248) rfl rfl rfl ?_
      refine js_aload (pc1 := 250) rfl rfl rfl ?_
      refine js_iload (pc1 := 252) rfl rfl rfl ?_
      refine jt_aldD (pc1 := 253) rfl rfl (fun v7 hv7 => ?_)
      refine js_aload (pc1 := 254) rfl rfl rfl ?_
      refine jt_gr (pc1 := 257) (j := 5) rfl rfl rfl rfl (fun p8 => ?_)
      refine js_iload (pc1 := 259) rfl rfl rfl ?_
      refine jt_aldD (pc1 := 260) rfl rfl (fun v9 hv9 => ?_)
      refine js_cI (pc1 := 263) (as := [(.inr (.inr (some 111))), (.inl 6), (.inl x4), (.inl v7), (.inl v9)]) (S0 := [(.inl x10), (.inr (.inr (some p6)))]) (m := 8) (L0 := [some (.inr (.inr (some 111))), some (.inl 6), some (.inl x4), some (.inl v7), some (.inl v9), none, none, none]) rfl rfl rfl rfl rfl rfl rfl rfl (zrc_o rfl rfl) (by omega) (by omega) (z_Th_make_ok N (by omega) (by omega) 111 rfl 6 (zlit rfl) x4 hx4 v7 hv7 v9 hv9 A) (fun v10 A11 _ hv10 => ?_)
      refine jt_iasD (pc1 := 264) rfl rfl (fun A12 => ?_)
      refine js_iinc (pc1 := 267) (L1 := [some (.inr (.inr (some 110))), none, none, none, some (.inl x4), none, none, none, some (.inr (.inr (some x8))), none, some (.inl (x10 + 1))]) rfl rfl rfl rfl ?_
      refine js_goto (t1 := 212) rfl rfl ?_
      exact zG_to (L := [some (.inr (.inr (some 110))), none, none, none, some (.inl x4), none, none, none, some (.inr (.inr (some x8))), none, some (.inl (zw (x10 + 1)))]) (S := []) ⟨rfl, ⟨rfl, ⟨rfl, ⟨zval_w (x10 + 1), trivial⟩⟩⟩⟩ (rfl) (hr212 x4 hx4 x8 (zw (x10 + 1)) (zw_rg (x10 + 1)) A12)
  · exact je_V rfl
theorem z_Wk_goOverIf_212_lok{d w : Nat} {rec : Nat → Int → Int → Int → zA → Option zA} {Dr Wr : Nat} (hrec : ∀ (d w : Nat), Dr ≤ d → Wr ≤ w → ∀ (x1 : Nat) (hx1 : zsh x1 = some (false, 3, 4)) (x2 : Int) (hx2 : zrg x2) (x3 : Int) (hx3 : zrg x3) (x4 : Int) (hx4 : zrg x4) (A : zA), zG (rec x1 x2 x3 x4 A) zPV d w 182 0 [some (.inr (.inr (some 110))), some (.inr (.inr (some x1))), some (.inl x2), some (.inl x3), some (.inl x4), none] [] A) (N : Nat) (hd : Dr + 4 ≤ d) (hw : Wr + 137 ≤ w) (n : Nat) : ∀ (x4 : Int) (hx4 : zrg x4) (x8 : Nat) (x10 : Int) (hx10 : zrg x10) (A : zA), zG (z_Wk_goOverIf_212_l rec N n x4 x8 x10 A) zPV d w 251 212 [some (.inr (.inr (some 110))), none, none, none, some (.inl x4), none, none, none, some (.inr (.inr (some x8))), none, some (.inl x10)] [] A := by
  induction n with
  | zero => intros; exact zG_none
  | succ n ih =>
    intro x4 hx4 x8 x10 hx10 A
    exact z_Wk_goOverIf_212_bok hrec ih N hd hw x4 hx4 x8 x10 hx10 A
theorem z_Wk_goOverIf_212_ok{d w : Nat} {rec : Nat → Int → Int → Int → zA → Option zA} {Dr Wr : Nat} (hrec : ∀ (d w : Nat), Dr ≤ d → Wr ≤ w → ∀ (x1 : Nat) (hx1 : zsh x1 = some (false, 3, 4)) (x2 : Int) (hx2 : zrg x2) (x3 : Int) (hx3 : zrg x3) (x4 : Int) (hx4 : zrg x4) (A : zA), zG (rec x1 x2 x3 x4 A) zPV d w 182 0 [some (.inr (.inr (some 110))), some (.inr (.inr (some x1))), some (.inl x2), some (.inl x3), some (.inl x4), none] [] A) (N : Nat) (hd : Dr + 4 ≤ d) (hw : Wr + 137 ≤ w) (x4 : Int) (hx4 : zrg x4) (x8 : Nat) (x10 : Int) (hx10 : zrg x10) (A : zA) : zG (z_Wk_goOverIf_212 rec N x4 x8 x10 A) zPV d w 251 212 [some (.inr (.inr (some 110))), none, none, none, some (.inl x4), none, none, none, some (.inr (.inr (some x8))), none, some (.inl x10)] [] A := z_Wk_goOverIf_212_lok hrec N hd hw N x4 hx4 x8 x10 hx10 A
theorem z_Wk_goOverIf_ok{d w : Nat} {rec : Nat → Int → Int → Int → zA → Option zA} {Dr Wr : Nat} (hrec : ∀ (d w : Nat), Dr ≤ d → Wr ≤ w → ∀ (x1 : Nat) (hx1 : zsh x1 = some (false, 3, 4)) (x2 : Int) (hx2 : zrg x2) (x3 : Int) (hx3 : zrg x3) (x4 : Int) (hx4 : zrg x4) (A : zA), zG (rec x1 x2 x3 x4 A) zPV d w 182 0 [some (.inr (.inr (some 110))), some (.inr (.inr (some x1))), some (.inl x2), some (.inl x3), some (.inl x4), none] [] A) (N : Nat) (hd : Dr + 4 ≤ d) (hw : Wr + 137 ≤ w) (x1 : Nat) (hx1 : zsh x1 = some (false, 3, 4)) (x2 : Int) (hx2 : zrg x2) (x3 : Int) (hx3 : zrg x3) (A : zA) : zG (z_Wk_goOverIf rec N x1 x2 x3 A) zPV d w 251 0 [some (.inr (.inr (some 110))), some (.inr (.inr (some x1))), some (.inl x2), some (.inl x3), none, none, none, none, none, none, none] [] A := by
  unfold z_Wk_goOverIf
  refine js_aload (pc1 := 1) rfl rfl rfl ?_
  refine jt_gr (pc1 := 4) (j := 5) rfl rfl rfl rfl (fun p1 => ?_)
  refine js_aload (pc1 := 5) rfl rfl rfl ?_
  refine js_iload (pc1 := 6) rfl rfl rfl ?_
  refine js_iconst (pc1 := 7) rfl rfl ?_
  refine js_cP (pc1 := 10) (as := [(.inr (.inr (some x1))), (.inl x2), (.inl 0)]) (S0 := [(.inr (.inr (some p1)))]) (m := 5) (L0 := [some (.inr (.inr (some x1))), some (.inl x2), some (.inl 0), none, none]) rfl rfl rfl rfl rfl rfl rfl rfl (zrc_o rfl hx1) (by omega) (by omega) (z_Pt_register_ok N (by omega) (by omega) x1 hx1 x2 hx2 0 (zlit rfl) A) (fun v2 _ hv2 => ?_)
  refine jt_aldD (pc1 := 11) rfl rfl (fun v3 hv3 => ?_)
  refine js_istore (pc1 := 13) (L1 := [some (.inr (.inr (some 110))), some (.inr (.inr (some x1))), some (.inl x2), some (.inl x3), some (.inl v3), none, none, none, none, none, none]) rfl rfl rfl rfl ?_
  refine js_aload (pc1 := 14) rfl rfl rfl ?_
  refine js_iload (pc1 := 15) rfl rfl rfl ?_
  refine js_cP (pc1 := 18) (as := [(.inr (.inr (some x1))), (.inl x2)]) (S0 := []) (m := 2) (L0 := [some (.inr (.inr (some x1))), some (.inl x2)]) rfl rfl rfl rfl rfl rfl rfl rfl (zrc_o rfl hx1) (by omega) (by omega) (z_Pt_mate_ok N (by omega) (by omega) x1 hx1 x2 hx2 A) (fun v4 _ hv4 => ?_)
  refine js_istore (pc1 := 20) (L1 := [some (.inr (.inr (some 110))), some (.inr (.inr (some x1))), some (.inl x2), some (.inl x3), some (.inl v3), some (.inl v4), none, none, none, none, none]) rfl rfl rfl rfl ?_
  refine js_aload (pc1 := 21) rfl rfl rfl ?_
  refine js_iload (pc1 := 23) rfl rfl rfl ?_
  refine js_cP (pc1 := 26) (as := [(.inr (.inr (some x1))), (.inl v4)]) (S0 := []) (m := 2) (L0 := [some (.inr (.inr (some x1))), some (.inl v4)]) rfl rfl rfl rfl rfl rfl rfl rfl (zrc_o rfl hx1) (by omega) (by omega) (z_Pt_mate_ok N (by omega) (by omega) x1 hx1 v4 hv4 A) (fun v5 _ hv5 => ?_)
  refine js_istore (pc1 := 28) (L1 := [some (.inr (.inr (some 110))), some (.inr (.inr (some x1))), some (.inl x2), some (.inl x3), some (.inl v3), some (.inl v4), some (.inl v5), none, none, none, none]) rfl rfl rfl rfl ?_
  refine js_aload (pc1 := 29) rfl rfl rfl ?_
  refine js_gfr (pc1 := 32) (j := 0) (r := 111) rfl rfl rfl rfl rfl ?_
  refine js_iload (pc1 := 34) rfl rfl rfl ?_
  refine js_cP (pc1 := 37) (as := [(.inr (.inr (some 111))), (.inl v3)]) (S0 := []) (m := 2) (L0 := [some (.inr (.inr (some 111))), some (.inl v3)]) rfl rfl rfl rfl rfl rfl rfl rfl (zrc_o rfl rfl) (by omega) (by omega) (z_Th_isNumber_ok N (by omega) (by omega) 111 rfl v3 hv3 A) (fun v6 _ hv6 => ?_)
  refine ju_eq (pc1 := 40) (t1 := 95) hv6 rfl rfl rfl (fun c7 => ?_) (fun c7 => ?_)
  · refine js_aload (pc1 := 96) rfl rfl rfl ?_
    refine js_gfr (pc1 := 99) (j := 3) (r := 120) rfl rfl rfl rfl rfl ?_
    refine js_iload (pc1 := 100) rfl rfl rfl ?_
    refine js_iconst (pc1 := 101) rfl rfl ?_
    refine js_imul (pc1 := 102) rfl rfl ?_
    refine jt_aald (pc1 := 103) rfl rfl (fun p8 => ?_)
    refine js_astore (pc1 := 105) (L1 := [some (.inr (.inr (some 110))), some (.inr (.inr (some x1))), some (.inl x2), some (.inl x3), some (.inl v3), some (.inl v4), some (.inl v5), some (.inr (.inr (some p8))), none, none, none]) rfl rfl rfl rfl ?_
    refine js_aload (pc1 := 106) rfl rfl rfl ?_
    refine js_gfr (pc1 := 109) (j := 3) (r := 120) rfl rfl rfl rfl rfl ?_
    refine js_iload (pc1 := 110) rfl rfl rfl ?_
    refine js_iconst (pc1 := 111) rfl rfl ?_
    refine js_imul (pc1 := 112) rfl rfl ?_
    refine js_iconst (pc1 := 113) rfl rfl ?_
    refine js_iadd (pc1 := 114) rfl rfl ?_
    refine jt_aald (pc1 := 115) rfl rfl (fun p9 => ?_)
    refine js_astore (pc1 := 117) (L1 := [some (.inr (.inr (some 110))), some (.inr (.inr (some x1))), some (.inl x2), some (.inl x3), some (.inl v3), some (.inl v4), some (.inl v5), some (.inr (.inr (some p8))), some (.inr (.inr (some p9))), none, none]) rfl rfl rfl rfl ?_
    refine js_aload (pc1 := 118) rfl rfl rfl ?_
    refine js_gi (pc1 := 121) (j := 7) rfl rfl rfl rfl ?_
    refine js_istore (pc1 := 123) (L1 := [some (.inr (.inr (some 110))), some (.inr (.inr (some x1))), some (.inl x2), some (.inl x3), some (.inl v3), some (.inl v4), some (.inl v5), some (.inr (.inr (some p8))), some (.inr (.inr (some p9))), some (.inl (zi A 110 7)), none]) rfl rfl rfl rfl ?_
    refine js_aload (pc1 := 124) rfl rfl rfl ?_
    refine jt_gr (pc1 := 127) (j := 5) rfl rfl rfl rfl (fun p10 => ?_)
    refine js_aload (pc1 := 129) rfl rfl rfl ?_
    refine js_cV (pc1 := 132) (as := [(.inr (.inr (some p10))), (.inr (.inr (some p8)))]) (S0 := []) (m := 2) (L0 := [some (.inr (.inr (some p10))), some (.inr (.inr (some p8)))]) rfl rfl rfl rfl rfl rfl rfl rfl (zrc_s rfl) (by omega) (by omega) (z_Wk_copyAll_ok N (by omega) (by omega) p10 p8 A) (fun A11 _ => ?_)
    refine js_aload (pc1 := 133) rfl rfl rfl ?_
    refine js_iconst (pc1 := 134) rfl rfl ?_
    refine js_iload (pc1 := 136) rfl rfl rfl ?_
    refine js_cV (pc1 := 139) (as := [(.inr (.inr (some 110))), (.inl 4), (.inl v3)]) (S0 := []) (m := 3) (L0 := [some (.inr (.inr (some 110))), some (.inl 4), some (.inl v3)]) rfl rfl rfl rfl rfl rfl rfl rfl (zrc_o rfl rfl) (by omega) (by omega) (z_Wk_say_ok N (by omega) (by omega) 4 (zlit rfl) v3 hv3 A11) (fun A12 _ => ?_)
    refine js_aload (pc1 := 140) rfl rfl rfl ?_
    refine js_aload (pc1 := 141) rfl rfl rfl ?_
    refine js_iload (pc1 := 142) rfl rfl rfl ?_
    refine js_iconst (pc1 := 143) rfl rfl ?_
    refine js_iadd (pc1 := 144) rfl rfl ?_
    refine js_iload (pc1 := 146) rfl rfl rfl ?_
    refine js_iload (pc1 := 147) rfl rfl rfl ?_
    refine js_iconst (pc1 := 148) rfl rfl ?_
    refine js_iadd (pc1 := 149) rfl rfl ?_
    refine js_cV (pc1 := 152) (as := [(.inr (.inr (some 110))), (.inr (.inr (some x1))), (.inl (x2 + 1)), (.inl v4), (.inl (x3 + 1))]) (S0 := []) (m := 6) (L0 := [some (.inr (.inr (some 110))), some (.inr (.inr (some x1))), some (.inl (x2 + 1)), some (.inl v4), some (.inl (x3 + 1)), none]) rfl rfl rfl rfl rfl rfl rfl rfl (zrc_o rfl rfl) (by omega) (by omega) (zG_to (L := [some (.inr (.inr (some 110))), some (.inr (.inr (some x1))), some (.inl (zw (x2 + 1))), some (.inl v4), some (.inl (zw (x3 + 1))), none]) (S := []) ⟨rfl, ⟨rfl, ⟨zval_w (x2 + 1), ⟨rfl, ⟨zval_w (x3 + 1), trivial⟩⟩⟩⟩⟩ rfl (hrec _ _ (by omega) (by omega) x1 hx1 (zw (x2 + 1)) (zw_rg (x2 + 1)) v4 hv4 (zw (x3 + 1)) (zw_rg (x3 + 1)) A12)) (fun A13 _ => ?_)
    refine js_aload (pc1 := 153) rfl rfl rfl ?_
    refine jt_gr (pc1 := 156) (j := 5) rfl rfl rfl rfl (fun p14 => ?_)
    refine js_aload (pc1 := 158) rfl rfl rfl ?_
    refine js_cV (pc1 := 161) (as := [(.inr (.inr (some p14))), (.inr (.inr (some p9)))]) (S0 := []) (m := 2) (L0 := [some (.inr (.inr (some p14))), some (.inr (.inr (some p9)))]) rfl rfl rfl rfl rfl rfl rfl rfl (zrc_s rfl) (by omega) (by omega) (z_Wk_copyAll_ok N (by omega) (by omega) p14 p9 A13) (fun A15 _ => ?_)
    refine js_aload (pc1 := 163) rfl rfl rfl ?_
    refine js_aload (pc1 := 164) rfl rfl rfl ?_
    refine jt_gr (pc1 := 167) (j := 5) rfl rfl rfl rfl (fun p16 => ?_)
    refine js_cV (pc1 := 170) (as := [(.inr (.inr (some p8))), (.inr (.inr (some p16)))]) (S0 := []) (m := 2) (L0 := [some (.inr (.inr (some p8))), some (.inr (.inr (some p16)))]) rfl rfl rfl rfl rfl rfl rfl rfl (zrc_s rfl) (by omega) (by omega) (z_Wk_copyAll_ok N (by omega) (by omega) p8 p16 A15) (fun A17 _ => ?_)
    refine js_aload (pc1 := 171) rfl rfl rfl ?_
    refine js_iload (pc1 := 173) rfl rfl rfl ?_
    refine jt_pi (pc1 := 176) (j := 7) rfl rfl rfl rfl rfl (fun A18 => ?_)
    refine js_aload (pc1 := 177) rfl rfl rfl ?_
    refine js_iconst (pc1 := 178) rfl rfl ?_
    refine js_iconst (pc1 := 179) rfl rfl ?_
    refine js_cV (pc1 := 182) (as := [(.inr (.inr (some 110))), (.inl 5), (.inl (-1))]) (S0 := []) (m := 3) (L0 := [some (.inr (.inr (some 110))), some (.inl 5), some (.inl (-1))]) rfl rfl rfl rfl rfl rfl rfl rfl (zrc_o rfl rfl) (by omega) (by omega) (z_Wk_say_ok N (by omega) (by omega) 5 (zlit rfl) (-1) (zlit rfl) A18) (fun A19 _ => ?_)
    refine js_aload (pc1 := 183) rfl rfl rfl ?_
    refine js_aload (pc1 := 184) rfl rfl rfl ?_
    refine js_iload (pc1 := 186) rfl rfl rfl ?_
    refine js_iconst (pc1 := 187) rfl rfl ?_
    refine js_iadd (pc1 := 188) rfl rfl ?_
    refine js_iload (pc1 := 190) rfl rfl rfl ?_
    refine js_iload (pc1 := 191) rfl rfl rfl ?_
    refine js_iconst (pc1 := 192) rfl rfl ?_
    refine js_iadd (pc1 := 193) rfl rfl ?_
    refine js_cV (pc1 := 196) (as := [(.inr (.inr (some 110))), (.inr (.inr (some x1))), (.inl (v4 + 1)), (.inl v5), (.inl (x3 + 1))]) (S0 := []) (m := 6) (L0 := [some (.inr (.inr (some 110))), some (.inr (.inr (some x1))), some (.inl (v4 + 1)), some (.inl v5), some (.inl (x3 + 1)), none]) rfl rfl rfl rfl rfl rfl rfl rfl (zrc_o rfl rfl) (by omega) (by omega) (zG_to (L := [some (.inr (.inr (some 110))), some (.inr (.inr (some x1))), some (.inl (zw (v4 + 1))), some (.inl v5), some (.inl (zw (x3 + 1))), none]) (S := []) ⟨rfl, ⟨rfl, ⟨zval_w (v4 + 1), ⟨rfl, ⟨zval_w (x3 + 1), trivial⟩⟩⟩⟩⟩ rfl (hrec _ _ (by omega) (by omega) x1 hx1 (zw (v4 + 1)) (zw_rg (v4 + 1)) v5 hv5 (zw (x3 + 1)) (zw_rg (x3 + 1)) A19)) (fun A20 _ => ?_)
    refine js_aload (pc1 := 197) rfl rfl rfl ?_
    refine js_iload (pc1 := 199) rfl rfl rfl ?_
    refine jt_pi (pc1 := 202) (j := 7) rfl rfl rfl rfl rfl (fun A21 => ?_)
    refine js_aload (pc1 := 203) rfl rfl rfl ?_
    refine js_iconst (pc1 := 205) rfl rfl ?_
    refine js_iconst (pc1 := 206) rfl rfl ?_
    refine js_cV (pc1 := 209) (as := [(.inr (.inr (some 110))), (.inl 8), (.inl (-1))]) (S0 := []) (m := 3) (L0 := [some (.inr (.inr (some 110))), some (.inl 8), some (.inl (-1))]) rfl rfl rfl rfl rfl rfl rfl rfl (zrc_o rfl rfl) (by omega) (by omega) (z_Wk_say_ok N (by omega) (by omega) 8 (zlit rfl) (-1) (zlit rfl) A21) (fun A22 _ => ?_)
    refine js_iconst (pc1 := 210) rfl rfl ?_
    refine js_istore (pc1 := 212) (L1 := [some (.inr (.inr (some 110))), some (.inr (.inr (some x1))), some (.inl x2), some (.inl x3), some (.inl v3), some (.inl v4), some (.inl v5), some (.inr (.inr (some p8))), some (.inr (.inr (some p9))), some (.inl (zi A 110 7)), some (.inl 0)]) rfl rfl rfl rfl ?_
    exact zG_to (L := [some (.inr (.inr (some 110))), none, none, none, some (.inl v3), none, none, none, some (.inr (.inr (some p9))), none, some (.inl 0)]) (S := []) ⟨rfl, ⟨rfl, ⟨rfl, ⟨rfl, trivial⟩⟩⟩⟩ (rfl) (z_Wk_goOverIf_212_ok hrec N hd hw v3 hv3 p9 0 (zlit rfl) A22)
  · refine js_aload (pc1 := 41) rfl rfl rfl ?_
    refine js_gfr (pc1 := 44) (j := 0) (r := 111) rfl rfl rfl rfl rfl ?_
    refine js_iload (pc1 := 46) rfl rfl rfl ?_
    refine js_cP (pc1 := 49) (as := [(.inr (.inr (some 111))), (.inl v3)]) (S0 := []) (m := 2) (L0 := [some (.inr (.inr (some 111))), some (.inl v3)]) rfl rfl rfl rfl rfl rfl rfl rfl (zrc_o rfl rfl) (by omega) (by omega) (z_Th_value_ok N (by omega) (by omega) 111 rfl v3 hv3 A) (fun v23 _ hv23 => ?_)
    refine ju_eq (pc1 := 52) (t1 := 56) hv23 rfl rfl rfl (fun c24 => ?_) (fun c24 => ?_)
    · refine js_iconst (pc1 := 57) rfl rfl ?_
      exact zG_to (L := [some (.inr (.inr (some 110))), some (.inr (.inr (some x1))), some (.inl x2), some (.inl x3), none, some (.inl v4), some (.inl v5), none, none, none, none]) (S := [(.inl 0)]) ⟨rfl, ⟨rfl, ⟨rfl, ⟨rfl, ⟨rfl, ⟨rfl, trivial⟩⟩⟩⟩⟩⟩ (rfl) (z_Wk_goOverIf_57_ok hrec N hd hw x1 hx1 x2 hx2 x3 hx3 v4 hv4 v5 hv5 0 (zlit rfl) A)
    · refine js_iconst (pc1 := 53) rfl rfl ?_
      refine js_goto (t1 := 57) rfl rfl ?_
      exact zG_to (L := [some (.inr (.inr (some 110))), some (.inr (.inr (some x1))), some (.inl x2), some (.inl x3), none, some (.inl v4), some (.inl v5), none, none, none, none]) (S := [(.inl 1)]) ⟨rfl, ⟨rfl, ⟨rfl, ⟨rfl, ⟨rfl, ⟨rfl, trivial⟩⟩⟩⟩⟩⟩ (rfl) (z_Wk_goOverIf_57_ok hrec N hd hw x1 hx1 x2 hx2 x3 hx3 v4 hv4 v5 hv5 1 (zlit rfl) A)
theorem z_Wk_findCircling_79_ok{d w : Nat} {rec : Nat → Int → Int → Int → zA → Option zA} {Dr Wr : Nat} (hrec : ∀ (d w : Nat), Dr ≤ d → Wr ≤ w → ∀ (x1 : Nat) (hx1 : zsh x1 = some (false, 3, 4)) (x2 : Int) (hx2 : zrg x2) (x3 : Int) (hx3 : zrg x3) (x4 : Int) (hx4 : zrg x4) (A : zA), zG (rec x1 x2 x3 x4 A) zPV d w 182 0 [some (.inr (.inr (some 110))), some (.inr (.inr (some x1))), some (.inl x2), some (.inl x3), some (.inl x4), none] [] A) {r56 : Nat → Int → Int → Nat → Nat → Int → Int → Int → Int → Int → zA → Option zA} (hr56 : ∀ (x1 : Nat) (hx1 : zsh x1 = some (false, 3, 4)) (x2 : Int) (hx2 : zrg x2) (x3 : Int) (hx3 : zrg x3) (x4 : Nat) (x5 : Nat) (x6 : Int) (hx6 : zrg x6) (x7 : Int) (hx7 : zrg x7) (x8 : Int) (hx8 : zrg x8) (x9 : Int) (hx9 : zrg x9) (x10 : Int) (hx10 : zrg x10) (A : zA), zG (r56 x1 x2 x3 x4 x5 x6 x7 x8 x9 x10 A) zPV d w 288 56 [some (.inr (.inr (some 110))), some (.inr (.inr (some x1))), some (.inl x2), some (.inl x3), some (.inr (.inr (some x4))), some (.inr (.inr (some x5))), some (.inl x6), some (.inl x7), some (.inl x8), some (.inl x9), some (.inl x10), none, none] [] A) (N : Nat) (hd : Dr + 4 ≤ d) (hw : Wr + 137 ≤ w) (x1 : Nat) (hx1 : zsh x1 = some (false, 3, 4)) (x2 : Int) (hx2 : zrg x2) (x3 : Int) (hx3 : zrg x3) (x4 : Nat) (x5 : Nat) (x6 : Int) (hx6 : zrg x6) (x7 : Int) (hx7 : zrg x7) (x8 : Int) (hx8 : zrg x8) (x9 : Int) (hx9 : zrg x9) (x10 : Int) (hx10 : zrg x10) (A : zA) : zG (z_Wk_findCircling_79 rec r56 N x1 x2 x3 x4 x5 x6 x7 x8 x9 x10 A) zPV d w 288 79 [some (.inr (.inr (some 110))), some (.inr (.inr (some x1))), some (.inl x2), some (.inl x3), some (.inr (.inr (some x4))), some (.inr (.inr (some x5))), some (.inl x6), some (.inl x7), some (.inl x8), some (.inl x9), some (.inl x10), none, none] [] A := by
  unfold z_Wk_findCircling_79
  refine js_aload (pc1 := 81) rfl rfl rfl ?_
  refine js_iload (pc1 := 83) rfl rfl rfl ?_
  refine js_aload (pc1 := 84) rfl rfl rfl ?_
  refine js_gfr (pc1 := 87) (j := 0) (r := 111) rfl rfl rfl rfl rfl ?_
  refine js_iconst (pc1 := 89) rfl rfl ?_
  refine js_iload (pc1 := 91) rfl rfl rfl ?_
  refine js_iconst (pc1 := 92) rfl rfl ?_
  refine js_isub (pc1 := 93) rfl rfl ?_
  refine js_iload (pc1 := 95) rfl rfl rfl ?_
  refine js_iconst (pc1 := 96) rfl rfl ?_
  refine js_cI (pc1 := 99) (as := [(.inr (.inr (some 111))), (.inl 7), (.inl (x7 - 1)), (.inl x10), (.inl 0)]) (S0 := [(.inl x10), (.inr (.inr (some x5)))]) (m := 8) (L0 := [some (.inr (.inr (some 111))), some (.inl 7), some (.inl (x7 - 1)), some (.inl x10), some (.inl 0), none, none, none]) rfl rfl rfl rfl rfl rfl rfl rfl (zrc_o rfl rfl) (by omega) (by omega) (zG_to (L := [some (.inr (.inr (some 111))), some (.inl 7), some (.inl (zw (x7 - 1))), some (.inl x10), some (.inl 0), none, none, none]) (S := []) ⟨rfl, ⟨rfl, ⟨zval_w (x7 - 1), ⟨rfl, ⟨rfl, trivial⟩⟩⟩⟩⟩ rfl (z_Th_make_ok N (by omega) (by omega) 111 rfl 7 (zlit rfl) (zw (x7 - 1)) (zw_rg (x7 - 1)) x10 hx10 0 (zlit rfl) A)) (fun v1 A2 _ hv1 => ?_)
  refine jt_iasD (pc1 := 100) rfl rfl (fun A3 => ?_)
  refine js_iinc (pc1 := 103) (L1 := [some (.inr (.inr (some 110))), some (.inr (.inr (some x1))), some (.inl x2), some (.inl x3), some (.inr (.inr (some x4))), some (.inr (.inr (some x5))), some (.inl x6), some (.inl x7), some (.inl x8), some (.inl x9), some (.inl (x10 + 1)), none, none]) rfl rfl rfl rfl ?_
  refine js_goto (t1 := 56) rfl rfl ?_
  exact zG_to (L := [some (.inr (.inr (some 110))), some (.inr (.inr (some x1))), some (.inl x2), some (.inl x3), some (.inr (.inr (some x4))), some (.inr (.inr (some x5))), some (.inl x6), some (.inl x7), some (.inl x8), some (.inl x9), some (.inl (zw (x10 + 1))), none, none]) (S := []) ⟨rfl, ⟨rfl, ⟨rfl, ⟨rfl, ⟨rfl, ⟨rfl, ⟨rfl, ⟨rfl, ⟨rfl, ⟨rfl, ⟨zval_w (x10 + 1), trivial⟩⟩⟩⟩⟩⟩⟩⟩⟩⟩⟩ (rfl) (hr56 x1 hx1 x2 hx2 x3 hx3 x4 x5 x6 hx6 x7 hx7 x8 hx8 x9 hx9 (zw (x10 + 1)) (zw_rg (x10 + 1)) A3)
theorem z_Wk_findCircling_191_ok{d w : Nat} {rec : Nat → Int → Int → Int → zA → Option zA} {Dr Wr : Nat} (hrec : ∀ (d w : Nat), Dr ≤ d → Wr ≤ w → ∀ (x1 : Nat) (hx1 : zsh x1 = some (false, 3, 4)) (x2 : Int) (hx2 : zrg x2) (x3 : Int) (hx3 : zrg x3) (x4 : Int) (hx4 : zrg x4) (A : zA), zG (rec x1 x2 x3 x4 A) zPV d w 182 0 [some (.inr (.inr (some 110))), some (.inr (.inr (some x1))), some (.inl x2), some (.inl x3), some (.inl x4), none] [] A) {r117 : Nat → Int → Int → Nat → Nat → Int → Int → Int → Int → Int → Int → zA → Option zA} (hr117 : ∀ (x1 : Nat) (hx1 : zsh x1 = some (false, 3, 4)) (x2 : Int) (hx2 : zrg x2) (x3 : Int) (hx3 : zrg x3) (x4 : Nat) (x5 : Nat) (x6 : Int) (hx6 : zrg x6) (x7 : Int) (hx7 : zrg x7) (x8 : Int) (hx8 : zrg x8) (x9 : Int) (hx9 : zrg x9) (x10 : Int) (hx10 : zrg x10) (x11 : Int) (hx11 : zrg x11) (A : zA), zG (r117 x1 x2 x3 x4 x5 x6 x7 x8 x9 x10 x11 A) zPV d w 288 117 [some (.inr (.inr (some 110))), some (.inr (.inr (some x1))), some (.inl x2), some (.inl x3), some (.inr (.inr (some x4))), some (.inr (.inr (some x5))), some (.inl x6), some (.inl x7), some (.inl x8), some (.inl x9), some (.inl x10), some (.inl x11), none] [] A) (N : Nat) (hd : Dr + 4 ≤ d) (hw : Wr + 137 ≤ w) (x1 : Nat) (hx1 : zsh x1 = some (false, 3, 4)) (x2 : Int) (hx2 : zrg x2) (x3 : Int) (hx3 : zrg x3) (x4 : Nat) (x5 : Nat) (x6 : Int) (hx6 : zrg x6) (x7 : Int) (hx7 : zrg x7) (x8 : Int) (hx8 : zrg x8) (x9 : Int) (hx9 : zrg x9) (x11 : Int) (hx11 : zrg x11) (x12 : Int) (hx12 : zrg x12) (s0 : Int) (hs0 : zrg s0) (A : zA) : zG (z_Wk_findCircling_191 rec r117 N x1 x2 x3 x4 x5 x6 x7 x8 x9 x11 x12 s0 A) zPV d w 288 191 [some (.inr (.inr (some 110))), some (.inr (.inr (some x1))), some (.inl x2), some (.inl x3), some (.inr (.inr (some x4))), some (.inr (.inr (some x5))), some (.inl x6), some (.inl x7), some (.inl x8), some (.inl x9), none, some (.inl x11), some (.inl x12)] [(.inl s0)] A := by
  unfold z_Wk_findCircling_191
  refine js_istore (pc1 := 193) (L1 := [some (.inr (.inr (some 110))), some (.inr (.inr (some x1))), some (.inl x2), some (.inl x3), some (.inr (.inr (some x4))), some (.inr (.inr (some x5))), some (.inl x6), some (.inl x7), some (.inl x8), some (.inl x9), some (.inl s0), some (.inl x11), some (.inl x12)]) rfl rfl rfl rfl ?_
  refine js_aload (pc1 := 194) rfl rfl rfl ?_
  refine js_gfr (pc1 := 197) (j := 0) (r := 111) rfl rfl rfl rfl rfl ?_
  refine js_iload (pc1 := 199) rfl rfl rfl ?_
  refine js_cV (pc1 := 202) (as := [(.inr (.inr (some 111))), (.inl x12)]) (S0 := []) (m := 3) (L0 := [some (.inr (.inr (some 111))), some (.inl x12), none]) rfl rfl rfl rfl rfl rfl rfl rfl (zrc_o rfl rfl) (by omega) (by omega) (z_Th_dropTo_ok N (by omega) (by omega) 111 rfl x12 hx12 A) (fun A1 _ => ?_)
  refine js_aload (pc1 := 203) rfl rfl rfl ?_
  refine js_iload (pc1 := 205) rfl rfl rfl ?_
  refine jt_pi (pc1 := 208) (j := 11) rfl rfl rfl rfl rfl (fun A2 => ?_)
  refine js_aload (pc1 := 209) rfl rfl rfl ?_
  refine js_iload (pc1 := 211) rfl rfl rfl ?_
  refine jt_pi (pc1 := 214) (j := 12) rfl rfl rfl rfl rfl (fun A3 => ?_)
  refine js_iinc (pc1 := 217) (L1 := [some (.inr (.inr (some 110))), some (.inr (.inr (some x1))), some (.inl x2), some (.inl x3), some (.inr (.inr (some x4))), some (.inr (.inr (some x5))), some (.inl x6), some (.inl x7), some (.inl x8), some (.inl x9), some (.inl s0), some (.inl (x11 + 1)), some (.inl x12)]) rfl rfl rfl rfl ?_
  refine js_goto (t1 := 117) rfl rfl ?_
  exact zG_to (L := [some (.inr (.inr (some 110))), some (.inr (.inr (some x1))), some (.inl x2), some (.inl x3), some (.inr (.inr (some x4))), some (.inr (.inr (some x5))), some (.inl x6), some (.inl x7), some (.inl x8), some (.inl x9), some (.inl s0), some (.inl (zw (x11 + 1))), none]) (S := []) ⟨rfl, ⟨rfl, ⟨rfl, ⟨rfl, ⟨rfl, ⟨rfl, ⟨rfl, ⟨rfl, ⟨rfl, ⟨rfl, ⟨rfl, ⟨zval_w (x11 + 1), trivial⟩⟩⟩⟩⟩⟩⟩⟩⟩⟩⟩⟩ (rfl) (hr117 x1 hx1 x2 hx2 x3 hx3 x4 x5 x6 hx6 x7 hx7 x8 hx8 x9 hx9 s0 hs0 (zw (x11 + 1)) (zw_rg (x11 + 1)) A3)
theorem z_Wk_findCircling_117_bok{d w : Nat} {rec : Nat → Int → Int → Int → zA → Option zA} {Dr Wr : Nat} (hrec : ∀ (d w : Nat), Dr ≤ d → Wr ≤ w → ∀ (x1 : Nat) (hx1 : zsh x1 = some (false, 3, 4)) (x2 : Int) (hx2 : zrg x2) (x3 : Int) (hx3 : zrg x3) (x4 : Int) (hx4 : zrg x4) (A : zA), zG (rec x1 x2 x3 x4 A) zPV d w 182 0 [some (.inr (.inr (some 110))), some (.inr (.inr (some x1))), some (.inl x2), some (.inl x3), some (.inl x4), none] [] A) {r117 : Nat → Int → Int → Nat → Nat → Int → Int → Int → Int → Int → Int → zA → Option zA} (hr117 : ∀ (x1 : Nat) (hx1 : zsh x1 = some (false, 3, 4)) (x2 : Int) (hx2 : zrg x2) (x3 : Int) (hx3 : zrg x3) (x4 : Nat) (x5 : Nat) (x6 : Int) (hx6 : zrg x6) (x7 : Int) (hx7 : zrg x7) (x8 : Int) (hx8 : zrg x8) (x9 : Int) (hx9 : zrg x9) (x10 : Int) (hx10 : zrg x10) (x11 : Int) (hx11 : zrg x11) (A : zA), zG (r117 x1 x2 x3 x4 x5 x6 x7 x8 x9 x10 x11 A) zPV d w 288 117 [some (.inr (.inr (some 110))), some (.inr (.inr (some x1))), some (.inl x2), some (.inl x3), some (.inr (.inr (some x4))), some (.inr (.inr (some x5))), some (.inl x6), some (.inl x7), some (.inl x8), some (.inl x9), some (.inl x10), some (.inl x11), none] [] A) (N : Nat) (hd : Dr + 4 ≤ d) (hw : Wr + 137 ≤ w) (x1 : Nat) (hx1 : zsh x1 = some (false, 3, 4)) (x2 : Int) (hx2 : zrg x2) (x3 : Int) (hx3 : zrg x3) (x4 : Nat) (x5 : Nat) (x6 : Int) (hx6 : zrg x6) (x7 : Int) (hx7 : zrg x7) (x8 : Int) (hx8 : zrg x8) (x9 : Int) (hx9 : zrg x9) (x10 : Int) (hx10 : zrg x10) (x11 : Int) (hx11 : zrg x11) (A : zA) : zG (z_Wk_findCircling_117_b rec r117 N x1 x2 x3 x4 x5 x6 x7 x8 x9 x10 x11 A) zPV d w 288 117 [some (.inr (.inr (some 110))), some (.inr (.inr (some x1))), some (.inl x2), some (.inl x3), some (.inr (.inr (some x4))), some (.inr (.inr (some x5))), some (.inl x6), some (.inl x7), some (.inl x8), some (.inl x9), some (.inl x10), some (.inl x11), none] [] A := by
  unfold z_Wk_findCircling_117_b
  refine js_iload (pc1 := 119) rfl rfl rfl ?_
  refine js_iconst (pc1 := 121) rfl rfl ?_
  refine jt_gt (pc1 := 124) (t1 := 220) hx11 (zlit rfl) rfl rfl rfl (fun c1 => ?_) (fun c1 => ?_)
  · refine js_aload (pc1 := 221) rfl rfl rfl ?_
    refine js_iload (pc1 := 223) rfl rfl rfl ?_
    refine jt_pb (pc1 := 226) (j := 10) rfl rfl rfl rfl rfl (fun A2 => ?_)
    exact je_V rfl
  · refine js_iload (pc1 := 126) rfl rfl rfl ?_
    refine ju_ne (pc1 := 129) (t1 := 220) hx10 rfl rfl rfl (fun c3 => ?_) (fun c3 => ?_)
    · refine js_aload (pc1 := 130) rfl rfl rfl ?_
      refine js_gfr (pc1 := 133) (j := 0) (r := 111) rfl rfl rfl rfl rfl ?_
      refine js_gi (pc1 := 136) (j := 2) rfl rfl rfl rfl ?_
      refine js_istore (pc1 := 138) (L1 := [some (.inr (.inr (some 110))), some (.inr (.inr (some x1))), some (.inl x2), some (.inl x3), some (.inr (.inr (some x4))), some (.inr (.inr (some x5))), some (.inl x6), some (.inl x7), some (.inl x8), some (.inl x9), some (.inl x10), some (.inl x11), some (.inl (zi A 111 2))]) rfl rfl rfl rfl ?_
      refine js_aload (pc1 := 139) rfl rfl rfl ?_
      refine js_aload (pc1 := 141) rfl rfl rfl ?_
      refine js_aload (pc1 := 143) rfl rfl rfl ?_
      refine js_cV (pc1 := 146) (as := [(.inr (.inr (some 110))), (.inr (.inr (some x4))), (.inr (.inr (some x5)))]) (S0 := []) (m := 4) (L0 := [some (.inr (.inr (some 110))), some (.inr (.inr (some x4))), some (.inr (.inr (some x5))), none]) rfl rfl rfl rfl rfl rfl rfl rfl (zrc_o rfl rfl) (by omega) (by omega) (z_Wk_begin_ok N (by omega) (by omega) x4 x5 A) (fun A4 _ => ?_)
      refine js_aload (pc1 := 147) rfl rfl rfl ?_
      refine js_aload (pc1 := 148) rfl rfl rfl ?_
      refine js_iload (pc1 := 149) rfl rfl rfl ?_
      refine js_iconst (pc1 := 150) rfl rfl ?_
      refine js_iadd (pc1 := 151) rfl rfl ?_
      refine js_iload (pc1 := 153) rfl rfl rfl ?_
      refine js_iload (pc1 := 154) rfl rfl rfl ?_
      refine js_iconst (pc1 := 155) rfl rfl ?_
      refine js_iadd (pc1 := 156) rfl rfl ?_
      refine js_cV (pc1 := 159) (as := [(.inr (.inr (some 110))), (.inr (.inr (some x1))), (.inl (x2 + 1)), (.inl x6), (.inl (x3 + 1))]) (S0 := []) (m := 6) (L0 := [some (.inr (.inr (some 110))), some (.inr (.inr (some x1))), some (.inl (x2 + 1)), some (.inl x6), some (.inl (x3 + 1)), none]) rfl rfl rfl rfl rfl rfl rfl rfl (zrc_o rfl rfl) (by omega) (by omega) (zG_to (L := [some (.inr (.inr (some 110))), some (.inr (.inr (some x1))), some (.inl (zw (x2 + 1))), some (.inl x6), some (.inl (zw (x3 + 1))), none]) (S := []) ⟨rfl, ⟨rfl, ⟨zval_w (x2 + 1), ⟨rfl, ⟨zval_w (x3 + 1), trivial⟩⟩⟩⟩⟩ rfl (hrec _ _ (by omega) (by omega) x1 hx1 (zw (x2 + 1)) (zw_rg (x2 + 1)) x6 hx6 (zw (x3 + 1)) (zw_rg (x3 + 1)) A4)) (fun A5 _ => ?_)
      refine js_aload (pc1 := 160) rfl rfl rfl ?_
      refine js_aload (pc1 := 161) rfl rfl rfl ?_
      refine js_iload (pc1 := 163) rfl rfl rfl ?_
      refine js_iconst (pc1 := 164) rfl rfl ?_
      refine js_iadd (pc1 := 165) rfl rfl ?_
      refine js_aload (pc1 := 166) rfl rfl rfl ?_
      refine js_iload (pc1 := 168) rfl rfl rfl ?_
      refine js_cP (pc1 := 171) (as := [(.inr (.inr (some x1))), (.inl x6)]) (S0 := [(.inl (x6 + 1)), (.inr (.inr (some x1))), (.inr (.inr (some 110)))]) (m := 2) (L0 := [some (.inr (.inr (some x1))), some (.inl x6)]) rfl rfl rfl rfl rfl rfl rfl rfl (zrc_o rfl hx1) (by omega) (by omega) (z_Pt_mate_ok N (by omega) (by omega) x1 hx1 x6 hx6 A5) (fun v6 _ hv6 => ?_)
      refine js_iload (pc1 := 172) rfl rfl rfl ?_
      refine js_iconst (pc1 := 173) rfl rfl ?_
      refine js_iadd (pc1 := 174) rfl rfl ?_
      refine js_cV (pc1 := 177) (as := [(.inr (.inr (some 110))), (.inr (.inr (some x1))), (.inl (x6 + 1)), (.inl v6), (.inl (x3 + 1))]) (S0 := []) (m := 6) (L0 := [some (.inr (.inr (some 110))), some (.inr (.inr (some x1))), some (.inl (x6 + 1)), some (.inl v6), some (.inl (x3 + 1)), none]) rfl rfl rfl rfl rfl rfl rfl rfl (zrc_o rfl rfl) (by omega) (by omega) (zG_to (L := [some (.inr (.inr (some 110))), some (.inr (.inr (some x1))), some (.inl (zw (x6 + 1))), some (.inl v6), some (.inl (zw (x3 + 1))), none]) (S := []) ⟨rfl, ⟨rfl, ⟨zval_w (x6 + 1), ⟨rfl, ⟨zval_w (x3 + 1), trivial⟩⟩⟩⟩⟩ rfl (hrec _ _ (by omega) (by omega) x1 hx1 (zw (x6 + 1)) (zw_rg (x6 + 1)) v6 hv6 (zw (x3 + 1)) (zw_rg (x3 + 1)) A5)) (fun A7 _ => ?_)
      refine js_aload (pc1 := 178) rfl rfl rfl ?_
      refine js_aload (pc1 := 180) rfl rfl rfl ?_
      refine js_cI (pc1 := 183) (as := [(.inr (.inr (some 110))), (.inr (.inr (some x5)))]) (S0 := []) (m := 4) (L0 := [some (.inr (.inr (some 110))), some (.inr (.inr (some x5))), none, none]) rfl rfl rfl rfl rfl rfl rfl rfl (zrc_o rfl rfl) (by omega) (by omega) (z_Wk_leaveUnchanged_ok N (by omega) (by omega) x5 A7) (fun v8 A9 _ hv8 => ?_)
      refine ju_ne (pc1 := 186) (t1 := 190) hv8 rfl rfl rfl (fun c10 => ?_) (fun c10 => ?_)
      · refine js_iconst (pc1 := 187) rfl rfl ?_
        refine js_goto (t1 := 191) rfl rfl ?_
        exact zG_to (L := [some (.inr (.inr (some 110))), some (.inr (.inr (some x1))), some (.inl x2), some (.inl x3), some (.inr (.inr (some x4))), some (.inr (.inr (some x5))), some (.inl x6), some (.inl x7), some (.inl x8), some (.inl x9), none, some (.inl x11), some (.inl (zi A 111 2))]) (S := [(.inl 1)]) ⟨rfl, ⟨rfl, ⟨rfl, ⟨rfl, ⟨rfl, ⟨rfl, ⟨rfl, ⟨rfl, ⟨rfl, ⟨rfl, ⟨rfl, ⟨rfl, trivial⟩⟩⟩⟩⟩⟩⟩⟩⟩⟩⟩⟩ (rfl) (z_Wk_findCircling_191_ok hrec hr117 N hd hw x1 hx1 x2 hx2 x3 hx3 x4 x5 x6 hx6 x7 hx7 x8 hx8 x9 hx9 x11 hx11 (zi A 111 2) (zi_rg _ _ _) 1 (zlit rfl) A9)
      · refine js_iconst (pc1 := 191) rfl rfl ?_
        exact zG_to (L := [some (.inr (.inr (some 110))), some (.inr (.inr (some x1))), some (.inl x2), some (.inl x3), some (.inr (.inr (some x4))), some (.inr (.inr (some x5))), some (.inl x6), some (.inl x7), some (.inl x8), some (.inl x9), none, some (.inl x11), some (.inl (zi A 111 2))]) (S := [(.inl 0)]) ⟨rfl, ⟨rfl, ⟨rfl, ⟨rfl, ⟨rfl, ⟨rfl, ⟨rfl, ⟨rfl, ⟨rfl, ⟨rfl, ⟨rfl, ⟨rfl, trivial⟩⟩⟩⟩⟩⟩⟩⟩⟩⟩⟩⟩ (rfl) (z_Wk_findCircling_191_ok hrec hr117 N hd hw x1 hx1 x2 hx2 x3 hx3 x4 x5 x6 hx6 x7 hx7 x8 hx8 x9 hx9 x11 hx11 (zi A 111 2) (zi_rg _ _ _) 0 (zlit rfl) A9)
    · refine js_aload (pc1 := 221) rfl rfl rfl ?_
      refine js_iload (pc1 := 223) rfl rfl rfl ?_
      refine jt_pb (pc1 := 226) (j := 10) rfl rfl rfl rfl rfl (fun A11 => ?_)
      exact je_V rfl
theorem z_Wk_findCircling_117_lok{d w : Nat} {rec : Nat → Int → Int → Int → zA → Option zA} {Dr Wr : Nat} (hrec : ∀ (d w : Nat), Dr ≤ d → Wr ≤ w → ∀ (x1 : Nat) (hx1 : zsh x1 = some (false, 3, 4)) (x2 : Int) (hx2 : zrg x2) (x3 : Int) (hx3 : zrg x3) (x4 : Int) (hx4 : zrg x4) (A : zA), zG (rec x1 x2 x3 x4 A) zPV d w 182 0 [some (.inr (.inr (some 110))), some (.inr (.inr (some x1))), some (.inl x2), some (.inl x3), some (.inl x4), none] [] A) (N : Nat) (hd : Dr + 4 ≤ d) (hw : Wr + 137 ≤ w) (n : Nat) : ∀ (x1 : Nat) (hx1 : zsh x1 = some (false, 3, 4)) (x2 : Int) (hx2 : zrg x2) (x3 : Int) (hx3 : zrg x3) (x4 : Nat) (x5 : Nat) (x6 : Int) (hx6 : zrg x6) (x7 : Int) (hx7 : zrg x7) (x8 : Int) (hx8 : zrg x8) (x9 : Int) (hx9 : zrg x9) (x10 : Int) (hx10 : zrg x10) (x11 : Int) (hx11 : zrg x11) (A : zA), zG (z_Wk_findCircling_117_l rec N n x1 x2 x3 x4 x5 x6 x7 x8 x9 x10 x11 A) zPV d w 288 117 [some (.inr (.inr (some 110))), some (.inr (.inr (some x1))), some (.inl x2), some (.inl x3), some (.inr (.inr (some x4))), some (.inr (.inr (some x5))), some (.inl x6), some (.inl x7), some (.inl x8), some (.inl x9), some (.inl x10), some (.inl x11), none] [] A := by
  induction n with
  | zero => intros; exact zG_none
  | succ n ih =>
    intro x1 hx1 x2 hx2 x3 hx3 x4 x5 x6 hx6 x7 hx7 x8 hx8 x9 hx9 x10 hx10 x11 hx11 A
    exact z_Wk_findCircling_117_bok hrec ih N hd hw x1 hx1 x2 hx2 x3 hx3 x4 x5 x6 hx6 x7 hx7 x8 hx8 x9 hx9 x10 hx10 x11 hx11 A
theorem z_Wk_findCircling_117_ok{d w : Nat} {rec : Nat → Int → Int → Int → zA → Option zA} {Dr Wr : Nat} (hrec : ∀ (d w : Nat), Dr ≤ d → Wr ≤ w → ∀ (x1 : Nat) (hx1 : zsh x1 = some (false, 3, 4)) (x2 : Int) (hx2 : zrg x2) (x3 : Int) (hx3 : zrg x3) (x4 : Int) (hx4 : zrg x4) (A : zA), zG (rec x1 x2 x3 x4 A) zPV d w 182 0 [some (.inr (.inr (some 110))), some (.inr (.inr (some x1))), some (.inl x2), some (.inl x3), some (.inl x4), none] [] A) (N : Nat) (hd : Dr + 4 ≤ d) (hw : Wr + 137 ≤ w) (x1 : Nat) (hx1 : zsh x1 = some (false, 3, 4)) (x2 : Int) (hx2 : zrg x2) (x3 : Int) (hx3 : zrg x3) (x4 : Nat) (x5 : Nat) (x6 : Int) (hx6 : zrg x6) (x7 : Int) (hx7 : zrg x7) (x8 : Int) (hx8 : zrg x8) (x9 : Int) (hx9 : zrg x9) (x10 : Int) (hx10 : zrg x10) (x11 : Int) (hx11 : zrg x11) (A : zA) : zG (z_Wk_findCircling_117 rec N x1 x2 x3 x4 x5 x6 x7 x8 x9 x10 x11 A) zPV d w 288 117 [some (.inr (.inr (some 110))), some (.inr (.inr (some x1))), some (.inl x2), some (.inl x3), some (.inr (.inr (some x4))), some (.inr (.inr (some x5))), some (.inl x6), some (.inl x7), some (.inl x8), some (.inl x9), some (.inl x10), some (.inl x11), none] [] A := z_Wk_findCircling_117_lok hrec N hd hw N x1 hx1 x2 hx2 x3 hx3 x4 x5 x6 hx6 x7 hx7 x8 hx8 x9 hx9 x10 hx10 x11 hx11 A
theorem z_Wk_findCircling_56_bok{d w : Nat} {rec : Nat → Int → Int → Int → zA → Option zA} {Dr Wr : Nat} (hrec : ∀ (d w : Nat), Dr ≤ d → Wr ≤ w → ∀ (x1 : Nat) (hx1 : zsh x1 = some (false, 3, 4)) (x2 : Int) (hx2 : zrg x2) (x3 : Int) (hx3 : zrg x3) (x4 : Int) (hx4 : zrg x4) (A : zA), zG (rec x1 x2 x3 x4 A) zPV d w 182 0 [some (.inr (.inr (some 110))), some (.inr (.inr (some x1))), some (.inl x2), some (.inl x3), some (.inl x4), none] [] A) {r56 : Nat → Int → Int → Nat → Nat → Int → Int → Int → Int → Int → zA → Option zA} (hr56 : ∀ (x1 : Nat) (hx1 : zsh x1 = some (false, 3, 4)) (x2 : Int) (hx2 : zrg x2) (x3 : Int) (hx3 : zrg x3) (x4 : Nat) (x5 : Nat) (x6 : Int) (hx6 : zrg x6) (x7 : Int) (hx7 : zrg x7) (x8 : Int) (hx8 : zrg x8) (x9 : Int) (hx9 : zrg x9) (x10 : Int) (hx10 : zrg x10) (A : zA), zG (r56 x1 x2 x3 x4 x5 x6 x7 x8 x9 x10 A) zPV d w 288 56 [some (.inr (.inr (some 110))), some (.inr (.inr (some x1))), some (.inl x2), some (.inl x3), some (.inr (.inr (some x4))), some (.inr (.inr (some x5))), some (.inl x6), some (.inl x7), some (.inl x8), some (.inl x9), some (.inl x10), none, none] [] A) (N : Nat) (hd : Dr + 4 ≤ d) (hw : Wr + 137 ≤ w) (x1 : Nat) (hx1 : zsh x1 = some (false, 3, 4)) (x2 : Int) (hx2 : zrg x2) (x3 : Int) (hx3 : zrg x3) (x4 : Nat) (x5 : Nat) (x6 : Int) (hx6 : zrg x6) (x7 : Int) (hx7 : zrg x7) (x8 : Int) (hx8 : zrg x8) (x9 : Int) (hx9 : zrg x9) (x10 : Int) (hx10 : zrg x10) (A : zA) : zG (z_Wk_findCircling_56_b rec r56 N x1 x2 x3 x4 x5 x6 x7 x8 x9 x10 A) zPV d w 288 56 [some (.inr (.inr (some 110))), some (.inr (.inr (some x1))), some (.inl x2), some (.inl x3), some (.inr (.inr (some x4))), some (.inr (.inr (some x5))), some (.inl x6), some (.inl x7), some (.inl x8), some (.inl x9), some (.inl x10), none, none] [] A := by
  unfold z_Wk_findCircling_56_b
  refine js_iload (pc1 := 58) rfl rfl rfl ?_
  refine js_iconst (pc1 := 60) rfl rfl ?_
  refine jt_ge (pc1 := 63) (t1 := 106) hx10 (zlit rfl) rfl rfl rfl (fun c1 => ?_) (fun c1 => ?_)
  · refine js_iload (pc1 := 65) rfl rfl rfl ?_
    refine js_aload (pc1 := 66) rfl rfl rfl ?_
    refine js_gi (pc1 := 69) (j := 3) rfl rfl hx1 rfl ?_
    refine jt_lt (pc1 := 72) (t1 := 79) hx10 (zi_rg _ _ _) rfl rfl rfl (fun c2 => ?_) (fun c2 => ?_)
    · exact z_Wk_findCircling_79_ok hrec hr56 N hd hw x1 hx1 x2 hx2 x3 hx3 x4 x5 x6 hx6 x7 hx7 x8 hx8 x9 hx9 x10 hx10 A
    · refine js_iload (pc1 := 74) rfl rfl rfl ?_
      refine js_iconst (pc1 := 76) rfl rfl ?_
      refine jt_ne (pc1 := 79) (t1 := 100) hx10 (zlit rfl) rfl rfl rfl (fun c3 => ?_) (fun c3 => ?_)
      · exact z_Wk_findCircling_79_ok hrec hr56 N hd hw x1 hx1 x2 hx2 x3 hx3 x4 x5 x6 hx6 x7 hx7 x8 hx8 x9 hx9 x10 hx10 A
      · refine js_iinc (pc1 := 103) (L1 := [some (.inr (.inr (some 110))), some (.inr (.inr (some x1))), some (.inl x2), some (.inl x3), some (.inr (.inr (some x4))), some (.inr (.inr (some x5))), some (.inl x6), some (.inl x7), some (.inl x8), some (.inl x9), some (.inl (x10 + 1)), none, none]) rfl rfl rfl rfl ?_
        refine js_goto (t1 := 56) rfl rfl ?_
        exact zG_to (L := [some (.inr (.inr (some 110))), some (.inr (.inr (some x1))), some (.inl x2), some (.inl x3), some (.inr (.inr (some x4))), some (.inr (.inr (some x5))), some (.inl x6), some (.inl x7), some (.inl x8), some (.inl x9), some (.inl (zw (x10 + 1))), none, none]) (S := []) ⟨rfl, ⟨rfl, ⟨rfl, ⟨rfl, ⟨rfl, ⟨rfl, ⟨rfl, ⟨rfl, ⟨rfl, ⟨rfl, ⟨zval_w (x10 + 1), trivial⟩⟩⟩⟩⟩⟩⟩⟩⟩⟩⟩ (rfl) (hr56 x1 hx1 x2 hx2 x3 hx3 x4 x5 x6 hx6 x7 hx7 x8 hx8 x9 hx9 (zw (x10 + 1)) (zw_rg (x10 + 1)) A)
  · refine js_aload (pc1 := 107) rfl rfl rfl ?_
    refine js_iconst (pc1 := 108) rfl rfl ?_
    refine jt_pbl (pc1 := 111) (j := 10) rfl rfl rfl rfl rfl (Or.inr rfl) (fun A4 => ?_)
    refine js_iconst (pc1 := 112) rfl rfl ?_
    refine js_istore (pc1 := 114) (L1 := [some (.inr (.inr (some 110))), some (.inr (.inr (some x1))), some (.inl x2), some (.inl x3), some (.inr (.inr (some x4))), some (.inr (.inr (some x5))), some (.inl x6), some (.inl x7), some (.inl x8), some (.inl x9), some (.inl 0), none, none]) rfl rfl rfl rfl ?_
    refine js_iconst (pc1 := 115) rfl rfl ?_
    refine js_istore (pc1 := 117) (L1 := [some (.inr (.inr (some 110))), some (.inr (.inr (some x1))), some (.inl x2), some (.inl x3), some (.inr (.inr (some x4))), some (.inr (.inr (some x5))), some (.inl x6), some (.inl x7), some (.inl x8), some (.inl x9), some (.inl 0), some (.inl 0), none]) rfl rfl rfl rfl ?_
    exact z_Wk_findCircling_117_ok hrec N hd hw x1 hx1 x2 hx2 x3 hx3 x4 x5 x6 hx6 x7 hx7 x8 hx8 x9 hx9 0 (zlit rfl) 0 (zlit rfl) A4
theorem z_Wk_findCircling_56_lok{d w : Nat} {rec : Nat → Int → Int → Int → zA → Option zA} {Dr Wr : Nat} (hrec : ∀ (d w : Nat), Dr ≤ d → Wr ≤ w → ∀ (x1 : Nat) (hx1 : zsh x1 = some (false, 3, 4)) (x2 : Int) (hx2 : zrg x2) (x3 : Int) (hx3 : zrg x3) (x4 : Int) (hx4 : zrg x4) (A : zA), zG (rec x1 x2 x3 x4 A) zPV d w 182 0 [some (.inr (.inr (some 110))), some (.inr (.inr (some x1))), some (.inl x2), some (.inl x3), some (.inl x4), none] [] A) (N : Nat) (hd : Dr + 4 ≤ d) (hw : Wr + 137 ≤ w) (n : Nat) : ∀ (x1 : Nat) (hx1 : zsh x1 = some (false, 3, 4)) (x2 : Int) (hx2 : zrg x2) (x3 : Int) (hx3 : zrg x3) (x4 : Nat) (x5 : Nat) (x6 : Int) (hx6 : zrg x6) (x7 : Int) (hx7 : zrg x7) (x8 : Int) (hx8 : zrg x8) (x9 : Int) (hx9 : zrg x9) (x10 : Int) (hx10 : zrg x10) (A : zA), zG (z_Wk_findCircling_56_l rec N n x1 x2 x3 x4 x5 x6 x7 x8 x9 x10 A) zPV d w 288 56 [some (.inr (.inr (some 110))), some (.inr (.inr (some x1))), some (.inl x2), some (.inl x3), some (.inr (.inr (some x4))), some (.inr (.inr (some x5))), some (.inl x6), some (.inl x7), some (.inl x8), some (.inl x9), some (.inl x10), none, none] [] A := by
  induction n with
  | zero => intros; exact zG_none
  | succ n ih =>
    intro x1 hx1 x2 hx2 x3 hx3 x4 x5 x6 hx6 x7 hx7 x8 hx8 x9 hx9 x10 hx10 A
    exact z_Wk_findCircling_56_bok hrec ih N hd hw x1 hx1 x2 hx2 x3 hx3 x4 x5 x6 hx6 x7 hx7 x8 hx8 x9 hx9 x10 hx10 A
theorem z_Wk_findCircling_56_ok{d w : Nat} {rec : Nat → Int → Int → Int → zA → Option zA} {Dr Wr : Nat} (hrec : ∀ (d w : Nat), Dr ≤ d → Wr ≤ w → ∀ (x1 : Nat) (hx1 : zsh x1 = some (false, 3, 4)) (x2 : Int) (hx2 : zrg x2) (x3 : Int) (hx3 : zrg x3) (x4 : Int) (hx4 : zrg x4) (A : zA), zG (rec x1 x2 x3 x4 A) zPV d w 182 0 [some (.inr (.inr (some 110))), some (.inr (.inr (some x1))), some (.inl x2), some (.inl x3), some (.inl x4), none] [] A) (N : Nat) (hd : Dr + 4 ≤ d) (hw : Wr + 137 ≤ w) (x1 : Nat) (hx1 : zsh x1 = some (false, 3, 4)) (x2 : Int) (hx2 : zrg x2) (x3 : Int) (hx3 : zrg x3) (x4 : Nat) (x5 : Nat) (x6 : Int) (hx6 : zrg x6) (x7 : Int) (hx7 : zrg x7) (x8 : Int) (hx8 : zrg x8) (x9 : Int) (hx9 : zrg x9) (x10 : Int) (hx10 : zrg x10) (A : zA) : zG (z_Wk_findCircling_56 rec N x1 x2 x3 x4 x5 x6 x7 x8 x9 x10 A) zPV d w 288 56 [some (.inr (.inr (some 110))), some (.inr (.inr (some x1))), some (.inl x2), some (.inl x3), some (.inr (.inr (some x4))), some (.inr (.inr (some x5))), some (.inl x6), some (.inl x7), some (.inl x8), some (.inl x9), some (.inl x10), none, none] [] A := z_Wk_findCircling_56_lok hrec N hd hw N x1 hx1 x2 hx2 x3 hx3 x4 x5 x6 hx6 x7 hx7 x8 hx8 x9 hx9 x10 hx10 A
theorem z_Wk_findCircling_ok{d w : Nat} {rec : Nat → Int → Int → Int → zA → Option zA} {Dr Wr : Nat} (hrec : ∀ (d w : Nat), Dr ≤ d → Wr ≤ w → ∀ (x1 : Nat) (hx1 : zsh x1 = some (false, 3, 4)) (x2 : Int) (hx2 : zrg x2) (x3 : Int) (hx3 : zrg x3) (x4 : Int) (hx4 : zrg x4) (A : zA), zG (rec x1 x2 x3 x4 A) zPV d w 182 0 [some (.inr (.inr (some 110))), some (.inr (.inr (some x1))), some (.inl x2), some (.inl x3), some (.inl x4), none] [] A) (N : Nat) (hd : Dr + 4 ≤ d) (hw : Wr + 137 ≤ w) (x1 : Nat) (hx1 : zsh x1 = some (false, 3, 4)) (x2 : Int) (hx2 : zrg x2) (x3 : Int) (hx3 : zrg x3) (A : zA) : zG (z_Wk_findCircling rec N x1 x2 x3 A) zPV d w 288 0 [some (.inr (.inr (some 110))), some (.inr (.inr (some x1))), some (.inl x2), some (.inl x3), none, none, none, none, none, none, none, none, none] [] A := by
  unfold z_Wk_findCircling
  refine js_aload (pc1 := 1) rfl rfl rfl ?_
  refine js_gfr (pc1 := 4) (j := 3) (r := 120) rfl rfl rfl rfl rfl ?_
  refine js_iload (pc1 := 5) rfl rfl rfl ?_
  refine js_iconst (pc1 := 6) rfl rfl ?_
  refine js_imul (pc1 := 7) rfl rfl ?_
  refine jt_aald (pc1 := 8) rfl rfl (fun p1 => ?_)
  refine js_astore (pc1 := 10) (L1 := [some (.inr (.inr (some 110))), some (.inr (.inr (some x1))), some (.inl x2), some (.inl x3), some (.inr (.inr (some p1))), none, none, none, none, none, none, none, none]) rfl rfl rfl rfl ?_
  refine js_aload (pc1 := 11) rfl rfl rfl ?_
  refine js_gfr (pc1 := 14) (j := 3) (r := 120) rfl rfl rfl rfl rfl ?_
  refine js_iload (pc1 := 15) rfl rfl rfl ?_
  refine js_iconst (pc1 := 16) rfl rfl ?_
  refine js_imul (pc1 := 17) rfl rfl ?_
  refine js_iconst (pc1 := 18) rfl rfl ?_
  refine js_iadd (pc1 := 19) rfl rfl ?_
  refine jt_aald (pc1 := 20) rfl rfl (fun p2 => ?_)
  refine js_astore (pc1 := 22) (L1 := [some (.inr (.inr (some 110))), some (.inr (.inr (some x1))), some (.inl x2), some (.inl x3), some (.inr (.inr (some p1))), some (.inr (.inr (some p2))), none, none, none, none, none, none, none]) rfl rfl rfl rfl ?_
  refine js_aload (pc1 := 23) rfl rfl rfl ?_
  refine js_iload (pc1 := 24) rfl rfl rfl ?_
  refine js_cP (pc1 := 27) (as := [(.inr (.inr (some x1))), (.inl x2)]) (S0 := []) (m := 2) (L0 := [some (.inr (.inr (some x1))), some (.inl x2)]) rfl rfl rfl rfl rfl rfl rfl rfl (zrc_o rfl hx1) (by omega) (by omega) (z_Pt_mate_ok N (by omega) (by omega) x1 hx1 x2 hx2 A) (fun v3 _ hv3 => ?_)
  refine js_istore (pc1 := 29) (L1 := [some (.inr (.inr (some 110))), some (.inr (.inr (some x1))), some (.inl x2), some (.inl x3), some (.inr (.inr (some p1))), some (.inr (.inr (some p2))), some (.inl v3), none, none, none, none, none, none]) rfl rfl rfl rfl ?_
  refine js_aload (pc1 := 30) rfl rfl rfl ?_
  refine js_gi (pc1 := 33) (j := 11) rfl rfl rfl rfl ?_
  refine js_istore (pc1 := 35) (L1 := [some (.inr (.inr (some 110))), some (.inr (.inr (some x1))), some (.inl x2), some (.inl x3), some (.inr (.inr (some p1))), some (.inr (.inr (some p2))), some (.inl v3), some (.inl (zi A 110 11)), none, none, none, none, none]) rfl rfl rfl rfl ?_
  refine js_aload (pc1 := 36) rfl rfl rfl ?_
  refine js_gi (pc1 := 39) (j := 12) rfl rfl rfl rfl ?_
  refine js_istore (pc1 := 41) (L1 := [some (.inr (.inr (some 110))), some (.inr (.inr (some x1))), some (.inl x2), some (.inl x3), some (.inr (.inr (some p1))), some (.inr (.inr (some p2))), some (.inl v3), some (.inl (zi A 110 11)), some (.inl (zi A 110 12)), none, none, none, none]) rfl rfl rfl rfl ?_
  refine js_aload (pc1 := 42) rfl rfl rfl ?_
  refine js_gi (pc1 := 45) (j := 10) rfl rfl rfl rfl ?_
  refine js_istore (pc1 := 47) (L1 := [some (.inr (.inr (some 110))), some (.inr (.inr (some x1))), some (.inl x2), some (.inl x3), some (.inr (.inr (some p1))), some (.inr (.inr (some p2))), some (.inl v3), some (.inl (zi A 110 11)), some (.inl (zi A 110 12)), some (.inl (zi A 110 10)), none, none, none]) rfl rfl rfl rfl ?_
  refine js_aload (pc1 := 49) rfl rfl rfl ?_
  refine js_iconst (pc1 := 50) rfl rfl ?_
  refine js_cV (pc1 := 53) (as := [(.inr (.inr (some p2))), (.inl (-1))]) (S0 := []) (m := 4) (L0 := [some (.inr (.inr (some p2))), some (.inl (-1)), none, none]) rfl rfl rfl rfl rfl rfl rfl rfl (zrc_s rfl) (by omega) (by omega) (z_Ar_fill_ok N (by omega) (by omega) p2 (-1) (zlit rfl) A) (fun A4 _ => ?_)
  refine js_iconst (pc1 := 54) rfl rfl ?_
  refine js_istore (pc1 := 56) (L1 := [some (.inr (.inr (some 110))), some (.inr (.inr (some x1))), some (.inl x2), some (.inl x3), some (.inr (.inr (some p1))), some (.inr (.inr (some p2))), some (.inl v3), some (.inl (zi A 110 11)), some (.inl (zi A 110 12)), some (.inl (zi A 110 10)), some (.inl 0), none, none]) rfl rfl rfl rfl ?_
  exact z_Wk_findCircling_56_ok hrec N hd hw x1 hx1 x2 hx2 x3 hx3 p1 p2 v3 hv3 (zi A 110 11) (zi_rg _ _ _) (zi A 110 12) (zi_rg _ _ _) (zi A 110 10) (zi_rg _ _ _) 0 (zlit rfl) A4
theorem z_Wk_goOverWhile_182_ok{d w : Nat} {rec : Nat → Int → Int → Int → zA → Option zA} {Dr Wr : Nat} (hrec : ∀ (d w : Nat), Dr ≤ d → Wr ≤ w → ∀ (x1 : Nat) (hx1 : zsh x1 = some (false, 3, 4)) (x2 : Int) (hx2 : zrg x2) (x3 : Int) (hx3 : zrg x3) (x4 : Int) (hx4 : zrg x4) (A : zA), zG (rec x1 x2 x3 x4 A) zPV d w 182 0 [some (.inr (.inr (some 110))), some (.inr (.inr (some x1))), some (.inl x2), some (.inl x3), some (.inl x4), none] [] A) (N : Nat) (hd : Dr + 5 ≤ d) (hw : Wr + 169 ≤ w) (x7 : Nat) (A : zA) : zG (z_Wk_goOverWhile_182 rec N x7 A) zPV d w 252 182 [some (.inr (.inr (some 110))), none, none, none, none, none, none, some (.inr (.inr (some x7))), none, none] [] A := by
  unfold z_Wk_goOverWhile_182
  refine js_aload (pc1 := 184) rfl rfl rfl ?_
  refine js_aload (pc1 := 185) rfl rfl rfl ?_
  refine jt_gr (pc1 := 188) (j := 5) rfl rfl rfl rfl (fun p1 => ?_)
  refine js_cV (pc1 := 191) (as := [(.inr (.inr (some x7))), (.inr (.inr (some p1)))]) (S0 := []) (m := 2) (L0 := [some (.inr (.inr (some x7))), some (.inr (.inr (some p1)))]) rfl rfl rfl rfl rfl rfl rfl rfl (zrc_s rfl) (by omega) (by omega) (z_Wk_copyAll_ok N (by omega) (by omega) x7 p1 A) (fun A2 _ => ?_)
  exact je_V rfl
theorem z_Wk_goOverWhile_ok{d w : Nat} {rec : Nat → Int → Int → Int → zA → Option zA} {Dr Wr : Nat} (hrec : ∀ (d w : Nat), Dr ≤ d → Wr ≤ w → ∀ (x1 : Nat) (hx1 : zsh x1 = some (false, 3, 4)) (x2 : Int) (hx2 : zrg x2) (x3 : Int) (hx3 : zrg x3) (x4 : Int) (hx4 : zrg x4) (A : zA), zG (rec x1 x2 x3 x4 A) zPV d w 182 0 [some (.inr (.inr (some 110))), some (.inr (.inr (some x1))), some (.inl x2), some (.inl x3), some (.inl x4), none] [] A) (N : Nat) (hd : Dr + 5 ≤ d) (hw : Wr + 169 ≤ w) (x1 : Nat) (hx1 : zsh x1 = some (false, 3, 4)) (x2 : Int) (hx2 : zrg x2) (x3 : Int) (hx3 : zrg x3) (A : zA) : zG (z_Wk_goOverWhile rec N x1 x2 x3 A) zPV d w 252 0 [some (.inr (.inr (some 110))), some (.inr (.inr (some x1))), some (.inl x2), some (.inl x3), none, none, none, none, none, none] [] A := by
  unfold z_Wk_goOverWhile
  refine js_aload (pc1 := 1) rfl rfl rfl ?_
  refine js_gi (pc1 := 4) (j := 11) rfl rfl rfl rfl ?_
  refine js_istore (pc1 := 6) (L1 := [some (.inr (.inr (some 110))), some (.inr (.inr (some x1))), some (.inl x2), some (.inl x3), some (.inl (zi A 110 11)), none, none, none, none, none]) rfl rfl rfl rfl ?_
  refine js_aload (pc1 := 7) rfl rfl rfl ?_
  refine js_dupR (pc1 := 8) rfl rfl ?_
  refine js_gi (pc1 := 11) (j := 11) rfl rfl rfl rfl ?_
  refine js_iconst (pc1 := 12) rfl rfl ?_
  refine js_iadd (pc1 := 13) rfl rfl ?_
  refine jt_pi (pc1 := 16) (j := 11) rfl rfl rfl rfl rfl (fun A1 => ?_)
  refine js_aload (pc1 := 17) rfl rfl rfl ?_
  refine js_gfr (pc1 := 20) (j := 3) (r := 120) rfl rfl rfl rfl rfl ?_
  refine js_iload (pc1 := 21) rfl rfl rfl ?_
  refine js_iconst (pc1 := 22) rfl rfl ?_
  refine js_imul (pc1 := 23) rfl rfl ?_
  refine jt_aald (pc1 := 24) rfl rfl (fun p2 => ?_)
  refine js_astore (pc1 := 26) (L1 := [some (.inr (.inr (some 110))), some (.inr (.inr (some x1))), some (.inl x2), some (.inl x3), some (.inl (zi A 110 11)), some (.inr (.inr (some p2))), none, none, none, none]) rfl rfl rfl rfl ?_
  refine js_aload (pc1 := 27) rfl rfl rfl ?_
  refine js_gfr (pc1 := 30) (j := 3) (r := 120) rfl rfl rfl rfl rfl ?_
  refine js_iload (pc1 := 31) rfl rfl rfl ?_
  refine js_iconst (pc1 := 32) rfl rfl ?_
  refine js_imul (pc1 := 33) rfl rfl ?_
  refine js_iconst (pc1 := 34) rfl rfl ?_
  refine js_iadd (pc1 := 35) rfl rfl ?_
  refine jt_aald (pc1 := 36) rfl rfl (fun p3 => ?_)
  refine js_astore (pc1 := 38) (L1 := [some (.inr (.inr (some 110))), some (.inr (.inr (some x1))), some (.inl x2), some (.inl x3), some (.inl (zi A 110 11)), some (.inr (.inr (some p2))), some (.inr (.inr (some p3))), none, none, none]) rfl rfl rfl rfl ?_
  refine js_aload (pc1 := 39) rfl rfl rfl ?_
  refine js_gfr (pc1 := 42) (j := 3) (r := 120) rfl rfl rfl rfl rfl ?_
  refine js_iload (pc1 := 43) rfl rfl rfl ?_
  refine js_iconst (pc1 := 44) rfl rfl ?_
  refine js_imul (pc1 := 45) rfl rfl ?_
  refine js_iconst (pc1 := 46) rfl rfl ?_
  refine js_iadd (pc1 := 47) rfl rfl ?_
  refine jt_aald (pc1 := 48) rfl rfl (fun p4 => ?_)
  refine js_astore (pc1 := 50) (L1 := [some (.inr (.inr (some 110))), some (.inr (.inr (some x1))), some (.inl x2), some (.inl x3), some (.inl (zi A 110 11)), some (.inr (.inr (some p2))), some (.inr (.inr (some p3))), some (.inr (.inr (some p4))), none, none]) rfl rfl rfl rfl ?_
  refine js_aload (pc1 := 51) rfl rfl rfl ?_
  refine js_iload (pc1 := 52) rfl rfl rfl ?_
  refine js_cP (pc1 := 55) (as := [(.inr (.inr (some x1))), (.inl x2)]) (S0 := []) (m := 2) (L0 := [some (.inr (.inr (some x1))), some (.inl x2)]) rfl rfl rfl rfl rfl rfl rfl rfl (zrc_o rfl hx1) (by omega) (by omega) (z_Pt_mate_ok N (by omega) (by omega) x1 hx1 x2 hx2 A1) (fun v5 _ hv5 => ?_)
  refine js_istore (pc1 := 57) (L1 := [some (.inr (.inr (some 110))), some (.inr (.inr (some x1))), some (.inl x2), some (.inl x3), some (.inl (zi A 110 11)), some (.inr (.inr (some p2))), some (.inr (.inr (some p3))), some (.inr (.inr (some p4))), some (.inl v5), none]) rfl rfl rfl rfl ?_
  refine js_aload (pc1 := 58) rfl rfl rfl ?_
  refine jt_gr (pc1 := 61) (j := 5) rfl rfl rfl rfl (fun p6 => ?_)
  refine js_aload (pc1 := 63) rfl rfl rfl ?_
  refine js_cV (pc1 := 66) (as := [(.inr (.inr (some p6))), (.inr (.inr (some p2)))]) (S0 := []) (m := 2) (L0 := [some (.inr (.inr (some p6))), some (.inr (.inr (some p2)))]) rfl rfl rfl rfl rfl rfl rfl rfl (zrc_s rfl) (by omega) (by omega) (z_Wk_copyAll_ok N (by omega) (by omega) p6 p2 A1) (fun A7 _ => ?_)
  refine js_aload (pc1 := 67) rfl rfl rfl ?_
  refine js_aload (pc1 := 68) rfl rfl rfl ?_
  refine js_iload (pc1 := 69) rfl rfl rfl ?_
  refine js_iload (pc1 := 70) rfl rfl rfl ?_
  refine js_cV (pc1 := 73) (as := [(.inr (.inr (some 110))), (.inr (.inr (some x1))), (.inl x2), (.inl x3)]) (S0 := []) (m := 13) (L0 := [some (.inr (.inr (some 110))), some (.inr (.inr (some x1))), some (.inl x2), some (.inl x3), none, none, none, none, none, none, none, none, none]) rfl rfl rfl rfl rfl rfl rfl rfl (zrc_o rfl rfl) (by omega) (by omega) (z_Wk_findCircling_ok hrec N (by omega) (by omega) x1 hx1 x2 hx2 x3 hx3 A7) (fun A8 _ => ?_)
  refine js_aload (pc1 := 74) rfl rfl rfl ?_
  refine js_aload (pc1 := 76) rfl rfl rfl ?_
  refine js_aload (pc1 := 78) rfl rfl rfl ?_
  refine js_cV (pc1 := 81) (as := [(.inr (.inr (some 110))), (.inr (.inr (some p2))), (.inr (.inr (some p3)))]) (S0 := []) (m := 4) (L0 := [some (.inr (.inr (some 110))), some (.inr (.inr (some p2))), some (.inr (.inr (some p3))), none]) rfl rfl rfl rfl rfl rfl rfl rfl (zrc_o rfl rfl) (by omega) (by omega) (z_Wk_begin_ok N (by omega) (by omega) p2 p3 A8) (fun A9 _ => ?_)
  refine js_aload (pc1 := 82) rfl rfl rfl ?_
  refine js_gi (pc1 := 85) (j := 7) rfl rfl rfl rfl ?_
  refine js_istore (pc1 := 87) (L1 := [some (.inr (.inr (some 110))), some (.inr (.inr (some x1))), some (.inl x2), some (.inl x3), some (.inl (zi A 110 11)), some (.inr (.inr (some p2))), some (.inr (.inr (some p3))), some (.inr (.inr (some p4))), some (.inl v5), some (.inl (zi A9 110 7))]) rfl rfl rfl rfl ?_
  refine js_aload (pc1 := 88) rfl rfl rfl ?_
  refine js_iconst (pc1 := 90) rfl rfl ?_
  refine js_iconst (pc1 := 91) rfl rfl ?_
  refine js_cV (pc1 := 94) (as := [(.inr (.inr (some 110))), (.inl 6), (.inl (-1))]) (S0 := []) (m := 3) (L0 := [some (.inr (.inr (some 110))), some (.inl 6), some (.inl (-1))]) rfl rfl rfl rfl rfl rfl rfl rfl (zrc_o rfl rfl) (by omega) (by omega) (z_Wk_say_ok N (by omega) (by omega) 6 (zlit rfl) (-1) (zlit rfl) A9) (fun A10 _ => ?_)
  refine js_aload (pc1 := 95) rfl rfl rfl ?_
  refine js_aload (pc1 := 96) rfl rfl rfl ?_
  refine js_iload (pc1 := 97) rfl rfl rfl ?_
  refine js_iconst (pc1 := 98) rfl rfl ?_
  refine js_iadd (pc1 := 99) rfl rfl ?_
  refine js_iload (pc1 := 101) rfl rfl rfl ?_
  refine js_iload (pc1 := 102) rfl rfl rfl ?_
  refine js_iconst (pc1 := 103) rfl rfl ?_
  refine js_iadd (pc1 := 104) rfl rfl ?_
  refine js_cV (pc1 := 107) (as := [(.inr (.inr (some 110))), (.inr (.inr (some x1))), (.inl (x2 + 1)), (.inl v5), (.inl (x3 + 1))]) (S0 := []) (m := 6) (L0 := [some (.inr (.inr (some 110))), some (.inr (.inr (some x1))), some (.inl (x2 + 1)), some (.inl v5), some (.inl (x3 + 1)), none]) rfl rfl rfl rfl rfl rfl rfl rfl (zrc_o rfl rfl) (by omega) (by omega) (zG_to (L := [some (.inr (.inr (some 110))), some (.inr (.inr (some x1))), some (.inl (zw (x2 + 1))), some (.inl v5), some (.inl (zw (x3 + 1))), none]) (S := []) ⟨rfl, ⟨rfl, ⟨zval_w (x2 + 1), ⟨rfl, ⟨zval_w (x3 + 1), trivial⟩⟩⟩⟩⟩ rfl (hrec _ _ (by omega) (by omega) x1 hx1 (zw (x2 + 1)) (zw_rg (x2 + 1)) v5 hv5 (zw (x3 + 1)) (zw_rg (x3 + 1)) A10)) (fun A11 _ => ?_)
  refine js_aload (pc1 := 108) rfl rfl rfl ?_
  refine js_iconst (pc1 := 110) rfl rfl ?_
  refine js_aload (pc1 := 111) rfl rfl rfl ?_
  refine jt_gr (pc1 := 114) (j := 5) rfl rfl rfl rfl (fun p12 => ?_)
  refine js_aload (pc1 := 115) rfl rfl rfl ?_
  refine js_iload (pc1 := 117) rfl rfl rfl ?_
  refine js_iconst (pc1 := 118) rfl rfl ?_
  refine js_cP (pc1 := 121) (as := [(.inr (.inr (some x1))), (.inl v5), (.inl 0)]) (S0 := [(.inr (.inr (some p12))), (.inl 7), (.inr (.inr (some 110)))]) (m := 5) (L0 := [some (.inr (.inr (some x1))), some (.inl v5), some (.inl 0), none, none]) rfl rfl rfl rfl rfl rfl rfl rfl (zrc_o rfl hx1) (by omega) (by omega) (z_Pt_register_ok N (by omega) (by omega) x1 hx1 v5 hv5 0 (zlit rfl) A11) (fun v13 _ hv13 => ?_)
  refine jt_aldD (pc1 := 122) rfl rfl (fun v14 hv14 => ?_)
  refine js_cV (pc1 := 125) (as := [(.inr (.inr (some 110))), (.inl 7), (.inl v14)]) (S0 := []) (m := 3) (L0 := [some (.inr (.inr (some 110))), some (.inl 7), some (.inl v14)]) rfl rfl rfl rfl rfl rfl rfl rfl (zrc_o rfl rfl) (by omega) (by omega) (z_Wk_say_ok N (by omega) (by omega) 7 (zlit rfl) v14 hv14 A11) (fun A15 _ => ?_)
  refine js_aload (pc1 := 126) rfl rfl rfl ?_
  refine jt_gr (pc1 := 129) (j := 5) rfl rfl rfl rfl (fun p16 => ?_)
  refine js_aload (pc1 := 131) rfl rfl rfl ?_
  refine js_cV (pc1 := 134) (as := [(.inr (.inr (some p16))), (.inr (.inr (some p4)))]) (S0 := []) (m := 2) (L0 := [some (.inr (.inr (some p16))), some (.inr (.inr (some p4)))]) rfl rfl rfl rfl rfl rfl rfl rfl (zrc_s rfl) (by omega) (by omega) (z_Wk_copyAll_ok N (by omega) (by omega) p16 p4 A15) (fun A17 _ => ?_)
  refine js_aload (pc1 := 135) rfl rfl rfl ?_
  refine js_aload (pc1 := 136) rfl rfl rfl ?_
  refine js_iload (pc1 := 138) rfl rfl rfl ?_
  refine js_iconst (pc1 := 139) rfl rfl ?_
  refine js_iadd (pc1 := 140) rfl rfl ?_
  refine js_aload (pc1 := 141) rfl rfl rfl ?_
  refine js_iload (pc1 := 143) rfl rfl rfl ?_
  refine js_cP (pc1 := 146) (as := [(.inr (.inr (some x1))), (.inl v5)]) (S0 := [(.inl (v5 + 1)), (.inr (.inr (some x1))), (.inr (.inr (some 110)))]) (m := 2) (L0 := [some (.inr (.inr (some x1))), some (.inl v5)]) rfl rfl rfl rfl rfl rfl rfl rfl (zrc_o rfl hx1) (by omega) (by omega) (z_Pt_mate_ok N (by omega) (by omega) x1 hx1 v5 hv5 A17) (fun v18 _ hv18 => ?_)
  refine js_iload (pc1 := 147) rfl rfl rfl ?_
  refine js_iconst (pc1 := 148) rfl rfl ?_
  refine js_iadd (pc1 := 149) rfl rfl ?_
  refine js_cV (pc1 := 152) (as := [(.inr (.inr (some 110))), (.inr (.inr (some x1))), (.inl (v5 + 1)), (.inl v18), (.inl (x3 + 1))]) (S0 := []) (m := 6) (L0 := [some (.inr (.inr (some 110))), some (.inr (.inr (some x1))), some (.inl (v5 + 1)), some (.inl v18), some (.inl (x3 + 1)), none]) rfl rfl rfl rfl rfl rfl rfl rfl (zrc_o rfl rfl) (by omega) (by omega) (zG_to (L := [some (.inr (.inr (some 110))), some (.inr (.inr (some x1))), some (.inl (zw (v5 + 1))), some (.inl v18), some (.inl (zw (x3 + 1))), none]) (S := []) ⟨rfl, ⟨rfl, ⟨zval_w (v5 + 1), ⟨rfl, ⟨zval_w (x3 + 1), trivial⟩⟩⟩⟩⟩ rfl (hrec _ _ (by omega) (by omega) x1 hx1 (zw (v5 + 1)) (zw_rg (v5 + 1)) v18 hv18 (zw (x3 + 1)) (zw_rg (x3 + 1)) A17)) (fun A19 _ => ?_)
  refine js_aload (pc1 := 153) rfl rfl rfl ?_
  refine js_iconst (pc1 := 155) rfl rfl ?_
  refine js_iconst (pc1 := 156) rfl rfl ?_
  refine js_cV (pc1 := 159) (as := [(.inr (.inr (some 110))), (.inl 8), (.inl (-1))]) (S0 := []) (m := 3) (L0 := [some (.inr (.inr (some 110))), some (.inl 8), some (.inl (-1))]) rfl rfl rfl rfl rfl rfl rfl rfl (zrc_o rfl rfl) (by omega) (by omega) (z_Wk_say_ok N (by omega) (by omega) 8 (zlit rfl) (-1) (zlit rfl) A19) (fun A20 _ => ?_)
  refine js_aload (pc1 := 160) rfl rfl rfl ?_
  refine js_iload (pc1 := 162) rfl rfl rfl ?_
  refine jt_pi (pc1 := 165) (j := 7) rfl rfl rfl rfl rfl (fun A21 => ?_)
  refine js_aload (pc1 := 166) rfl rfl rfl ?_
  refine js_gi (pc1 := 169) (j := 10) rfl rfl rfl rfl ?_
  refine ju_ne (pc1 := 172) (t1 := 182) (zi_rg _ _ _) rfl rfl rfl (fun c22 => ?_) (fun c22 => ?_)
  · refine js_aload (pc1 := 173) rfl rfl rfl ?_
    refine js_iload (pc1 := 175) rfl rfl rfl ?_
    refine js_aload (pc1 := 177) rfl rfl rfl ?_
    refine js_aload (pc1 := 179) rfl rfl rfl ?_
    refine js_cV (pc1 := 182) (as := [(.inr (.inr (some 110))), (.inl (zi A 110 11)), (.inr (.inr (some p2))), (.inr (.inr (some p3)))]) (S0 := []) (m := 5) (L0 := [some (.inr (.inr (some 110))), some (.inl (zi A 110 11)), some (.inr (.inr (some p2))), some (.inr (.inr (some p3))), none]) rfl rfl rfl rfl rfl rfl rfl rfl (zrc_o rfl rfl) (by omega) (by omega) (z_Wk_tellCircling_ok N (by omega) (by omega) (zi A 110 11) (zi_rg _ _ _) p2 p3 A21) (fun A23 _ => ?_)
    exact zG_to (L := [some (.inr (.inr (some 110))), none, none, none, none, none, none, some (.inr (.inr (some p4))), none, none]) (S := []) ⟨rfl, ⟨rfl, trivial⟩⟩ (rfl) (z_Wk_goOverWhile_182_ok hrec N hd hw p4 A23)
  · exact zG_to (L := [some (.inr (.inr (some 110))), none, none, none, none, none, none, some (.inr (.inr (some p4))), none, none]) (S := []) ⟨rfl, ⟨rfl, trivial⟩⟩ (rfl) (z_Wk_goOverWhile_182_ok hrec N hd hw p4 A21)
theorem z_Wk_goOverCall_ok{d w : Nat} {rec : Nat → Int → Int → Int → zA → Option zA} {Dr Wr : Nat} (hrec : ∀ (d w : Nat), Dr ≤ d → Wr ≤ w → ∀ (x1 : Nat) (hx1 : zsh x1 = some (false, 3, 4)) (x2 : Int) (hx2 : zrg x2) (x3 : Int) (hx3 : zrg x3) (x4 : Int) (hx4 : zrg x4) (A : zA), zG (rec x1 x2 x3 x4 A) zPV d w 182 0 [some (.inr (.inr (some 110))), some (.inr (.inr (some x1))), some (.inl x2), some (.inl x3), some (.inl x4), none] [] A) (N : Nat) (hd : Dr + 4 ≤ d) (hw : Wr + 137 ≤ w) (x1 : Nat) (hx1 : zsh x1 = some (false, 3, 4)) (x2 : Int) (hx2 : zrg x2) (x3 : Int) (hx3 : zrg x3) (A : zA) : zG (z_Wk_goOverCall rec N x1 x2 x3 A) zPV d w 253 0 [some (.inr (.inr (some 110))), some (.inr (.inr (some x1))), some (.inl x2), some (.inl x3), none, none, none] [] A := by
  unfold z_Wk_goOverCall
  refine js_aload (pc1 := 1) rfl rfl rfl ?_
  refine js_iload (pc1 := 2) rfl rfl rfl ?_
  refine js_iconst (pc1 := 3) rfl rfl ?_
  refine js_cP (pc1 := 6) (as := [(.inr (.inr (some x1))), (.inl x2), (.inl 1)]) (S0 := []) (m := 4) (L0 := [some (.inr (.inr (some x1))), some (.inl x2), some (.inl 1), none]) rfl rfl rfl rfl rfl rfl rfl rfl (zrc_o rfl hx1) (by omega) (by omega) (z_Pt_number_ok N (by omega) (by omega) x1 hx1 x2 hx2 1 (zlit rfl) A) (fun v1 _ hv1 => ?_)
  refine js_istore (pc1 := 8) (L1 := [some (.inr (.inr (some 110))), some (.inr (.inr (some x1))), some (.inl x2), some (.inl x3), some (.inl v1), none, none]) rfl rfl rfl rfl ?_
  refine js_iload (pc1 := 10) rfl rfl rfl ?_
  refine ju_lt (pc1 := 13) (t1 := 19) hv1 rfl rfl rfl (fun c2 => ?_) (fun c2 => ?_)
  · exact je_V rfl
  · refine js_iload (pc1 := 15) rfl rfl rfl ?_
    refine js_iconst (pc1 := 16) rfl rfl ?_
    refine jt_lt (pc1 := 19) (t1 := 20) hv1 (zlit rfl) rfl rfl rfl (fun c3 => ?_) (fun c3 => ?_)
    · refine js_aload (pc1 := 21) rfl rfl rfl ?_
      refine jt_gr (pc1 := 24) (j := 5) rfl rfl rfl rfl (fun p4 => ?_)
      refine js_astore (pc1 := 26) (L1 := [some (.inr (.inr (some 110))), some (.inr (.inr (some x1))), some (.inl x2), some (.inl x3), some (.inl v1), some (.inr (.inr (some p4))), none]) rfl rfl rfl rfl ?_
      refine js_aload (pc1 := 27) rfl rfl rfl ?_
      refine js_gfr (pc1 := 30) (j := 3) (r := 120) rfl rfl rfl rfl rfl ?_
      refine js_iload (pc1 := 31) rfl rfl rfl ?_
      refine js_iconst (pc1 := 32) rfl rfl ?_
      refine js_imul (pc1 := 33) rfl rfl ?_
      refine jt_aald (pc1 := 34) rfl rfl (fun p5 => ?_)
      refine js_astore (pc1 := 36) (L1 := [some (.inr (.inr (some 110))), some (.inr (.inr (some x1))), some (.inl x2), some (.inl x3), some (.inl v1), some (.inr (.inr (some p4))), some (.inr (.inr (some p5)))]) rfl rfl rfl rfl ?_
      refine js_aload (pc1 := 38) rfl rfl rfl ?_
      refine js_aload (pc1 := 39) rfl rfl rfl ?_
      refine js_gfr (pc1 := 42) (j := 0) (r := 111) rfl rfl rfl rfl rfl ?_
      refine js_iconst (pc1 := 43) rfl rfl ?_
      refine js_iconst (pc1 := 44) rfl rfl ?_
      refine js_iconst (pc1 := 45) rfl rfl ?_
      refine js_iconst (pc1 := 46) rfl rfl ?_
      refine js_cI (pc1 := 49) (as := [(.inr (.inr (some 111))), (.inl 0), (.inl 0), (.inl 0), (.inl 0)]) (S0 := [(.inr (.inr (some p5)))]) (m := 8) (L0 := [some (.inr (.inr (some 111))), some (.inl 0), some (.inl 0), some (.inl 0), some (.inl 0), none, none, none]) rfl rfl rfl rfl rfl rfl rfl rfl (zrc_o rfl rfl) (by omega) (by omega) (z_Th_make_ok N (by omega) (by omega) 111 rfl 0 (zlit rfl) 0 (zlit rfl) 0 (zlit rfl) 0 (zlit rfl) A) (fun v6 A7 _ hv6 => ?_)
      refine js_cV (pc1 := 52) (as := [(.inr (.inr (some p5))), (.inl v6)]) (S0 := []) (m := 4) (L0 := [some (.inr (.inr (some p5))), some (.inl v6), none, none]) rfl rfl rfl rfl rfl rfl rfl rfl (zrc_s rfl) (by omega) (by omega) (z_Ar_fill_ok N (by omega) (by omega) p5 v6 hv6 A7) (fun A8 _ => ?_)
      refine js_aload (pc1 := 54) rfl rfl rfl ?_
      refine js_aload (pc1 := 56) rfl rfl rfl ?_
      refine js_cV (pc1 := 59) (as := [(.inr (.inr (some p4))), (.inr (.inr (some p5)))]) (S0 := []) (m := 2) (L0 := [some (.inr (.inr (some p4))), some (.inr (.inr (some p5)))]) rfl rfl rfl rfl rfl rfl rfl rfl (zrc_s rfl) (by omega) (by omega) (z_Wk_copyShared_ok N (by omega) (by omega) p4 p5 A8) (fun A9 _ => ?_)
      refine js_aload (pc1 := 61) rfl rfl rfl ?_
      refine js_iconst (pc1 := 63) rfl rfl ?_
      refine js_aload (pc1 := 65) rfl rfl rfl ?_
      refine js_aload (pc1 := 66) rfl rfl rfl ?_
      refine js_iload (pc1 := 67) rfl rfl rfl ?_
      refine js_iconst (pc1 := 68) rfl rfl ?_
      refine js_cP (pc1 := 71) (as := [(.inr (.inr (some x1))), (.inl x2), (.inl 0)]) (S0 := [(.inr (.inr (some p4))), (.inl 6), (.inr (.inr (some p5)))]) (m := 5) (L0 := [some (.inr (.inr (some x1))), some (.inl x2), some (.inl 0), none, none]) rfl rfl rfl rfl rfl rfl rfl rfl (zrc_o rfl hx1) (by omega) (by omega) (z_Pt_register_ok N (by omega) (by omega) x1 hx1 x2 hx2 0 (zlit rfl) A9) (fun v10 _ hv10 => ?_)
      refine jt_aldD (pc1 := 72) rfl rfl (fun v11 hv11 => ?_)
      refine jt_iasD (pc1 := 73) rfl rfl (fun A12 => ?_)
      refine js_aload (pc1 := 74) rfl rfl rfl ?_
      refine js_aload (pc1 := 76) rfl rfl rfl ?_
      refine jt_pr (pc1 := 79) (j := 5) rfl rfl rfl rfl rfl rfl (fun A13 => ?_)
      refine js_aload (pc1 := 80) rfl rfl rfl ?_
      refine js_aload (pc1 := 81) rfl rfl rfl ?_
      refine jt_gr (pc1 := 84) (j := 9) rfl rfl rfl rfl (fun p14 => ?_)
      refine zG_cs (fun hp14 => ?_)
      refine jt_gf (pc1 := 87) (j := 0) rfl rfl hp14 rfl (fun p15 => ?_)
      refine js_iload (pc1 := 89) rfl rfl rfl ?_
      refine jt_aald (pc1 := 90) rfl rfl (fun p16 => ?_)
      refine zG_cs (fun hp16 => ?_)
      refine js_iconst (pc1 := 91) rfl rfl ?_
      refine js_aload (pc1 := 92) rfl rfl rfl ?_
      refine jt_gr (pc1 := 95) (j := 9) rfl rfl rfl rfl (fun p17 => ?_)
      refine zG_cs (fun hp17 => ?_)
      refine jt_gf (pc1 := 98) (j := 0) rfl rfl hp17 rfl (fun p18 => ?_)
      refine js_iload (pc1 := 100) rfl rfl rfl ?_
      refine jt_aald (pc1 := 101) rfl rfl (fun p19 => ?_)
      refine zG_cs (fun hp19 => ?_)
      refine js_gi (pc1 := 104) (j := 2) rfl rfl hp19 rfl ?_
      refine js_iload (pc1 := 105) rfl rfl rfl ?_
      refine js_iconst (pc1 := 106) rfl rfl ?_
      refine js_iadd (pc1 := 107) rfl rfl ?_
      refine js_cV (pc1 := 110) (as := [(.inr (.inr (some 110))), (.inr (.inr (some p16))), (.inl 0), (.inl (zi A13 p19 2)), (.inl (x3 + 1))]) (S0 := []) (m := 6) (L0 := [some (.inr (.inr (some 110))), some (.inr (.inr (some p16))), some (.inl 0), some (.inl (zi A13 p19 2)), some (.inl (x3 + 1)), none]) rfl rfl rfl rfl rfl rfl rfl rfl (zrc_o rfl rfl) (by omega) (by omega) (zG_to (L := [some (.inr (.inr (some 110))), some (.inr (.inr (some p16))), some (.inl 0), some (.inl (zi A13 p19 2)), some (.inl (zw (x3 + 1))), none]) (S := []) ⟨rfl, ⟨rfl, ⟨rfl, ⟨rfl, ⟨zval_w (x3 + 1), trivial⟩⟩⟩⟩⟩ rfl (hrec _ _ (by omega) (by omega) p16 hp16 0 (zlit rfl) (zi A13 p19 2) (zi_rg _ _ _) (zw (x3 + 1)) (zw_rg (x3 + 1)) A13)) (fun A20 _ => ?_)
      refine js_aload (pc1 := 111) rfl rfl rfl ?_
      refine js_aload (pc1 := 113) rfl rfl rfl ?_
      refine jt_pr (pc1 := 116) (j := 5) rfl rfl rfl rfl rfl rfl (fun A21 => ?_)
      refine js_aload (pc1 := 118) rfl rfl rfl ?_
      refine js_aload (pc1 := 120) rfl rfl rfl ?_
      refine js_cV (pc1 := 123) (as := [(.inr (.inr (some p5))), (.inr (.inr (some p4)))]) (S0 := []) (m := 2) (L0 := [some (.inr (.inr (some p5))), some (.inr (.inr (some p4)))]) rfl rfl rfl rfl rfl rfl rfl rfl (zrc_s rfl) (by omega) (by omega) (z_Wk_copyShared_ok N (by omega) (by omega) p5 p4 A21) (fun A22 _ => ?_)
      exact je_V rfl
    · exact je_V rfl
theorem z_Wk_goOverR_11_bok{d w : Nat} {rec : Nat → Int → Int → Int → zA → Option zA} {Dr Wr : Nat} (hrec : ∀ (d w : Nat), Dr ≤ d → Wr ≤ w → ∀ (x1 : Nat) (hx1 : zsh x1 = some (false, 3, 4)) (x2 : Int) (hx2 : zrg x2) (x3 : Int) (hx3 : zrg x3) (x4 : Int) (hx4 : zrg x4) (A : zA), zG (rec x1 x2 x3 x4 A) zPV d w 182 0 [some (.inr (.inr (some 110))), some (.inr (.inr (some x1))), some (.inl x2), some (.inl x3), some (.inl x4), none] [] A) {r11 : Nat → Int → Int → Int → zA → Option zA} (hr11 : ∀ (x1 : Nat) (hx1 : zsh x1 = some (false, 3, 4)) (x3 : Int) (hx3 : zrg x3) (x4 : Int) (hx4 : zrg x4) (x5 : Int) (hx5 : zrg x5) (A : zA), zG (r11 x1 x3 x4 x5 A) zPV d w 182 11 [some (.inr (.inr (some 110))), some (.inr (.inr (some x1))), none, some (.inl x3), some (.inl x4), some (.inl x5)] [] A) (N : Nat) (hd : Dr + 6 ≤ d) (hw : Wr + 198 ≤ w) (x1 : Nat) (hx1 : zsh x1 = some (false, 3, 4)) (x3 : Int) (hx3 : zrg x3) (x4 : Int) (hx4 : zrg x4) (x5 : Int) (hx5 : zrg x5) (A : zA) : zG (z_Wk_goOverR_11_b rec r11 N x1 x3 x4 x5 A) zPV d w 182 11 [some (.inr (.inr (some 110))), some (.inr (.inr (some x1))), none, some (.inl x3), some (.inl x4), some (.inl x5)] [] A := by
  unfold z_Wk_goOverR_11_b
  refine js_iload (pc1 := 13) rfl rfl rfl ?_
  refine js_iload (pc1 := 14) rfl rfl rfl ?_
  refine jt_ge (pc1 := 17) (t1 := 127) hx5 hx3 rfl rfl rfl (fun c1 => ?_) (fun c1 => ?_)
  · refine js_aload (pc1 := 18) rfl rfl rfl ?_
    refine js_iload (pc1 := 20) rfl rfl rfl ?_
    refine js_cP (pc1 := 23) (as := [(.inr (.inr (some x1))), (.inl x5)]) (S0 := []) (m := 2) (L0 := [some (.inr (.inr (some x1))), some (.inl x5)]) rfl rfl rfl rfl rfl rfl rfl rfl (zrc_o rfl hx1) (by omega) (by omega) (z_Pt_kind_ok N (by omega) (by omega) x1 hx1 x5 hx5 A) (fun v2 _ hv2 => ?_)
    refine zG_ite (fun c4 => ?_) (fun c4 => ?_)
    · refine js_tsw (t1 := 102) rfl c4 (zlit rfl) (by decide) ?_
      refine js_aload (pc1 := 103) rfl rfl rfl ?_
      refine js_aload (pc1 := 104) rfl rfl rfl ?_
      refine js_iload (pc1 := 106) rfl rfl rfl ?_
      refine js_iload (pc1 := 108) rfl rfl rfl ?_
      refine js_cV (pc1 := 111) (as := [(.inr (.inr (some 110))), (.inr (.inr (some x1))), (.inl x5), (.inl x4)]) (S0 := []) (m := 7) (L0 := [some (.inr (.inr (some 110))), some (.inr (.inr (some x1))), some (.inl x5), some (.inl x4), none, none, none]) rfl rfl rfl rfl rfl rfl rfl rfl (zrc_o rfl rfl) (by omega) (by omega) (z_Wk_goOverCall_ok hrec N (by omega) (by omega) x1 hx1 x5 hx5 x4 hx4 A) (fun A3 _ => ?_)
      refine js_goto (t1 := 121) rfl rfl ?_
      refine js_iinc (pc1 := 124) (L1 := [some (.inr (.inr (some 110))), some (.inr (.inr (some x1))), none, some (.inl x3), some (.inl x4), some (.inl (x5 + 1))]) rfl rfl rfl rfl ?_
      refine js_goto (t1 := 11) rfl rfl ?_
      exact zG_to (L := [some (.inr (.inr (some 110))), some (.inr (.inr (some x1))), none, some (.inl x3), some (.inl x4), some (.inl (zw (x5 + 1)))]) (S := []) ⟨rfl, ⟨rfl, ⟨rfl, ⟨rfl, ⟨zval_w (x5 + 1), trivial⟩⟩⟩⟩⟩ (rfl) (hr11 x1 hx1 x3 hx3 x4 hx4 (zw (x5 + 1)) (zw_rg (x5 + 1)) A3)
    refine zG_ite (fun c7 => ?_) (fun c7 => ?_)
    · refine js_tsw (t1 := 52) rfl c7 (zlit rfl) (by decide) ?_
      refine js_aload (pc1 := 53) rfl rfl rfl ?_
      refine js_aload (pc1 := 54) rfl rfl rfl ?_
      refine js_iload (pc1 := 56) rfl rfl rfl ?_
      refine js_iload (pc1 := 58) rfl rfl rfl ?_
      refine js_cV (pc1 := 61) (as := [(.inr (.inr (some 110))), (.inr (.inr (some x1))), (.inl x5), (.inl x4)]) (S0 := []) (m := 11) (L0 := [some (.inr (.inr (some 110))), some (.inr (.inr (some x1))), some (.inl x5), some (.inl x4), none, none, none, none, none, none, none]) rfl rfl rfl rfl rfl rfl rfl rfl (zrc_o rfl rfl) (by omega) (by omega) (z_Wk_goOverIf_ok hrec N (by omega) (by omega) x1 hx1 x5 hx5 x4 hx4 A) (fun A5 _ => ?_)
      refine js_iload (pc1 := 63) rfl rfl rfl ?_
      refine js_aload (pc1 := 64) rfl rfl rfl ?_
      refine js_iload (pc1 := 66) rfl rfl rfl ?_
      refine js_cP (pc1 := 69) (as := [(.inr (.inr (some x1))), (.inl x5)]) (S0 := [(.inl x5)]) (m := 2) (L0 := [some (.inr (.inr (some x1))), some (.inl x5)]) rfl rfl rfl rfl rfl rfl rfl rfl (zrc_o rfl hx1) (by omega) (by omega) (z_Pt_endOf_ok N (by omega) (by omega) x1 hx1 x5 hx5 A5) (fun v6 _ hv6 => ?_)
      refine jt_max (pc1 := 72) rfl rfl hx5 hv6 (by omega) (by omega) rfl ?_
      refine js_istore (pc1 := 74) (L1 := [some (.inr (.inr (some 110))), some (.inr (.inr (some x1))), none, some (.inl x3), some (.inl x4), some (.inl (zmx x5 v6))]) rfl rfl rfl rfl ?_
      refine js_goto (t1 := 121) rfl rfl ?_
      refine js_iinc (pc1 := 124) (L1 := [some (.inr (.inr (some 110))), some (.inr (.inr (some x1))), none, some (.inl x3), some (.inl x4), some (.inl ((zmx x5 v6) + 1))]) rfl rfl rfl rfl ?_
      refine js_goto (t1 := 11) rfl rfl ?_
      exact zG_to (L := [some (.inr (.inr (some 110))), some (.inr (.inr (some x1))), none, some (.inl x3), some (.inl x4), some (.inl (zw ((zmx x5 v6) + 1)))]) (S := []) ⟨rfl, ⟨rfl, ⟨rfl, ⟨rfl, ⟨zval_w ((zmx x5 v6) + 1), trivial⟩⟩⟩⟩⟩ (rfl) (hr11 x1 hx1 x3 hx3 x4 hx4 (zw ((zmx x5 v6) + 1)) (zw_rg ((zmx x5 v6) + 1)) A5)
    refine zG_ite (fun c10 => ?_) (fun c10 => ?_)
    · refine js_tsw (t1 := 77) rfl c10 (zlit rfl) (by decide) ?_
      refine js_aload (pc1 := 78) rfl rfl rfl ?_
      refine js_aload (pc1 := 79) rfl rfl rfl ?_
      refine js_iload (pc1 := 81) rfl rfl rfl ?_
      refine js_iload (pc1 := 83) rfl rfl rfl ?_
      refine js_cV (pc1 := 86) (as := [(.inr (.inr (some 110))), (.inr (.inr (some x1))), (.inl x5), (.inl x4)]) (S0 := []) (m := 10) (L0 := [some (.inr (.inr (some 110))), some (.inr (.inr (some x1))), some (.inl x5), some (.inl x4), none, none, none, none, none, none]) rfl rfl rfl rfl rfl rfl rfl rfl (zrc_o rfl rfl) (by omega) (by omega) (z_Wk_goOverWhile_ok hrec N (by omega) (by omega) x1 hx1 x5 hx5 x4 hx4 A) (fun A8 _ => ?_)
      refine js_iload (pc1 := 88) rfl rfl rfl ?_
      refine js_aload (pc1 := 89) rfl rfl rfl ?_
      refine js_iload (pc1 := 91) rfl rfl rfl ?_
      refine js_cP (pc1 := 94) (as := [(.inr (.inr (some x1))), (.inl x5)]) (S0 := [(.inl x5)]) (m := 2) (L0 := [some (.inr (.inr (some x1))), some (.inl x5)]) rfl rfl rfl rfl rfl rfl rfl rfl (zrc_o rfl hx1) (by omega) (by omega) (z_Pt_endOf_ok N (by omega) (by omega) x1 hx1 x5 hx5 A8) (fun v9 _ hv9 => ?_)
      refine jt_max (pc1 := 97) rfl rfl hx5 hv9 (by omega) (by omega) rfl ?_
      refine js_istore (pc1 := 99) (L1 := [some (.inr (.inr (some 110))), some (.inr (.inr (some x1))), none, some (.inl x3), some (.inl x4), some (.inl (zmx x5 v9))]) rfl rfl rfl rfl ?_
      refine js_goto (t1 := 121) rfl rfl ?_
      refine js_iinc (pc1 := 124) (L1 := [some (.inr (.inr (some 110))), some (.inr (.inr (some x1))), none, some (.inl x3), some (.inl x4), some (.inl ((zmx x5 v9) + 1))]) rfl rfl rfl rfl ?_
      refine js_goto (t1 := 11) rfl rfl ?_
      exact zG_to (L := [some (.inr (.inr (some 110))), some (.inr (.inr (some x1))), none, some (.inl x3), some (.inl x4), some (.inl (zw ((zmx x5 v9) + 1)))]) (S := []) ⟨rfl, ⟨rfl, ⟨rfl, ⟨rfl, ⟨zval_w ((zmx x5 v9) + 1), trivial⟩⟩⟩⟩⟩ (rfl) (hr11 x1 hx1 x3 hx3 x4 hx4 (zw ((zmx x5 v9) + 1)) (zw_rg ((zmx x5 v9) + 1)) A8)
    rcases Decidable.em (v2 = 9) with c12 | c12
    · refine js_tsw (t1 := 114) rfl c12 (zlit rfl) (by decide) ?_
      refine js_aload (pc1 := 115) rfl rfl rfl ?_
      refine js_aload (pc1 := 116) rfl rfl rfl ?_
      refine js_iload (pc1 := 118) rfl rfl rfl ?_
      refine js_cV (pc1 := 121) (as := [(.inr (.inr (some 110))), (.inr (.inr (some x1))), (.inl x5)]) (S0 := []) (m := 5) (L0 := [some (.inr (.inr (some 110))), some (.inr (.inr (some x1))), some (.inl x5), none, none]) rfl rfl rfl rfl rfl rfl rfl rfl (zrc_o rfl rfl) (by omega) (by omega) (z_Wk_goOverPlain_ok N (by omega) (by omega) x1 hx1 x5 hx5 A) (fun A11 _ => ?_)
      refine js_iinc (pc1 := 124) (L1 := [some (.inr (.inr (some 110))), some (.inr (.inr (some x1))), none, some (.inl x3), some (.inl x4), some (.inl (x5 + 1))]) rfl rfl rfl rfl ?_
      refine js_goto (t1 := 11) rfl rfl ?_
      exact zG_to (L := [some (.inr (.inr (some 110))), some (.inr (.inr (some x1))), none, some (.inl x3), some (.inl x4), some (.inl (zw (x5 + 1)))]) (S := []) ⟨rfl, ⟨rfl, ⟨rfl, ⟨rfl, ⟨zval_w (x5 + 1), trivial⟩⟩⟩⟩⟩ (rfl) (hr11 x1 hx1 x3 hx3 x4 hx4 (zw (x5 + 1)) (zw_rg (x5 + 1)) A11)
    refine js_tswd (t1 := 114) rfl hv2 (by omega) rfl ?_
    refine js_aload (pc1 := 115) rfl rfl rfl ?_
    refine js_aload (pc1 := 116) rfl rfl rfl ?_
    refine js_iload (pc1 := 118) rfl rfl rfl ?_
    refine js_cV (pc1 := 121) (as := [(.inr (.inr (some 110))), (.inr (.inr (some x1))), (.inl x5)]) (S0 := []) (m := 5) (L0 := [some (.inr (.inr (some 110))), some (.inr (.inr (some x1))), some (.inl x5), none, none]) rfl rfl rfl rfl rfl rfl rfl rfl (zrc_o rfl rfl) (by omega) (by omega) (z_Wk_goOverPlain_ok N (by omega) (by omega) x1 hx1 x5 hx5 A) (fun A11 _ => ?_)
    refine js_iinc (pc1 := 124) (L1 := [some (.inr (.inr (some 110))), some (.inr (.inr (some x1))), none, some (.inl x3), some (.inl x4), some (.inl (x5 + 1))]) rfl rfl rfl rfl ?_
    refine js_goto (t1 := 11) rfl rfl ?_
    exact zG_to (L := [some (.inr (.inr (some 110))), some (.inr (.inr (some x1))), none, some (.inl x3), some (.inl x4), some (.inl (zw (x5 + 1)))]) (S := []) ⟨rfl, ⟨rfl, ⟨rfl, ⟨rfl, ⟨zval_w (x5 + 1), trivial⟩⟩⟩⟩⟩ (rfl) (hr11 x1 hx1 x3 hx3 x4 hx4 (zw (x5 + 1)) (zw_rg (x5 + 1)) A11)
  · exact je_V rfl
theorem z_Wk_goOverR_11_lok{d w : Nat} {rec : Nat → Int → Int → Int → zA → Option zA} {Dr Wr : Nat} (hrec : ∀ (d w : Nat), Dr ≤ d → Wr ≤ w → ∀ (x1 : Nat) (hx1 : zsh x1 = some (false, 3, 4)) (x2 : Int) (hx2 : zrg x2) (x3 : Int) (hx3 : zrg x3) (x4 : Int) (hx4 : zrg x4) (A : zA), zG (rec x1 x2 x3 x4 A) zPV d w 182 0 [some (.inr (.inr (some 110))), some (.inr (.inr (some x1))), some (.inl x2), some (.inl x3), some (.inl x4), none] [] A) (N : Nat) (hd : Dr + 6 ≤ d) (hw : Wr + 198 ≤ w) (n : Nat) : ∀ (x1 : Nat) (hx1 : zsh x1 = some (false, 3, 4)) (x3 : Int) (hx3 : zrg x3) (x4 : Int) (hx4 : zrg x4) (x5 : Int) (hx5 : zrg x5) (A : zA), zG (z_Wk_goOverR_11_l rec N n x1 x3 x4 x5 A) zPV d w 182 11 [some (.inr (.inr (some 110))), some (.inr (.inr (some x1))), none, some (.inl x3), some (.inl x4), some (.inl x5)] [] A := by
  induction n with
  | zero => intros; exact zG_none
  | succ n ih =>
    intro x1 hx1 x3 hx3 x4 hx4 x5 hx5 A
    exact z_Wk_goOverR_11_bok hrec ih N hd hw x1 hx1 x3 hx3 x4 hx4 x5 hx5 A
theorem z_Wk_goOverR_11_ok{d w : Nat} {rec : Nat → Int → Int → Int → zA → Option zA} {Dr Wr : Nat} (hrec : ∀ (d w : Nat), Dr ≤ d → Wr ≤ w → ∀ (x1 : Nat) (hx1 : zsh x1 = some (false, 3, 4)) (x2 : Int) (hx2 : zrg x2) (x3 : Int) (hx3 : zrg x3) (x4 : Int) (hx4 : zrg x4) (A : zA), zG (rec x1 x2 x3 x4 A) zPV d w 182 0 [some (.inr (.inr (some 110))), some (.inr (.inr (some x1))), some (.inl x2), some (.inl x3), some (.inl x4), none] [] A) (N : Nat) (hd : Dr + 6 ≤ d) (hw : Wr + 198 ≤ w) (x1 : Nat) (hx1 : zsh x1 = some (false, 3, 4)) (x3 : Int) (hx3 : zrg x3) (x4 : Int) (hx4 : zrg x4) (x5 : Int) (hx5 : zrg x5) (A : zA) : zG (z_Wk_goOverR_11 rec N x1 x3 x4 x5 A) zPV d w 182 11 [some (.inr (.inr (some 110))), some (.inr (.inr (some x1))), none, some (.inl x3), some (.inl x4), some (.inl x5)] [] A := z_Wk_goOverR_11_lok hrec N hd hw N x1 hx1 x3 hx3 x4 hx4 x5 hx5 A
theorem z_Wk_goOverR_ok{d w : Nat} {rec : Nat → Int → Int → Int → zA → Option zA} {Dr Wr : Nat} (hrec : ∀ (d w : Nat), Dr ≤ d → Wr ≤ w → ∀ (x1 : Nat) (hx1 : zsh x1 = some (false, 3, 4)) (x2 : Int) (hx2 : zrg x2) (x3 : Int) (hx3 : zrg x3) (x4 : Int) (hx4 : zrg x4) (A : zA), zG (rec x1 x2 x3 x4 A) zPV d w 182 0 [some (.inr (.inr (some 110))), some (.inr (.inr (some x1))), some (.inl x2), some (.inl x3), some (.inl x4), none] [] A) (N : Nat) (hd : Dr + 6 ≤ d) (hw : Wr + 198 ≤ w) (x1 : Nat) (hx1 : zsh x1 = some (false, 3, 4)) (x2 : Int) (hx2 : zrg x2) (x3 : Int) (hx3 : zrg x3) (x4 : Int) (hx4 : zrg x4) (A : zA) : zG (z_Wk_goOverR rec N x1 x2 x3 x4 A) zPV d w 182 0 [some (.inr (.inr (some 110))), some (.inr (.inr (some x1))), some (.inl x2), some (.inl x3), some (.inl x4), none] [] A := by
  unfold z_Wk_goOverR
  refine js_iload (pc1 := 2) rfl rfl rfl ?_
  refine js_iconst (pc1 := 4) rfl rfl ?_
  refine jt_lt (pc1 := 7) (t1 := 8) hx4 (zlit rfl) rfl rfl rfl (fun c1 => ?_) (fun c1 => ?_)
  · refine js_iload (pc1 := 9) rfl rfl rfl ?_
    refine js_istore (pc1 := 11) (L1 := [some (.inr (.inr (some 110))), some (.inr (.inr (some x1))), some (.inl x2), some (.inl x3), some (.inl x4), some (.inl x2)]) rfl rfl rfl rfl ?_
    exact zG_to (L := [some (.inr (.inr (some 110))), some (.inr (.inr (some x1))), none, some (.inl x3), some (.inl x4), some (.inl x2)]) (S := []) ⟨rfl, ⟨rfl, ⟨rfl, ⟨rfl, ⟨rfl, trivial⟩⟩⟩⟩⟩ (rfl) (z_Wk_goOverR_11_ok hrec N hd hw x1 hx1 x3 hx3 x4 hx4 x2 hx2 A)
  · exact je_V rfl
theorem z_Wk_goOver_lok (N M : Nat) : ∀ (d w : Nat), M * 6 ≤ d → M * 198 ≤ w → ∀ (x1 : Nat) (hx1 : zsh x1 = some (false, 3, 4)) (x2 : Int) (hx2 : zrg x2) (x3 : Int) (hx3 : zrg x3) (x4 : Int) (hx4 : zrg x4) (A : zA), zG (z_Wk_goOver_l N M x1 x2 x3 x4 A) zPV d w 182 0 [some (.inr (.inr (some 110))), some (.inr (.inr (some x1))), some (.inl x2), some (.inl x3), some (.inl x4), none] [] A := by
  induction M with
  | zero => intros; exact zG_none
  | succ M ih =>
    intro d w hd hw x1 hx1 x2 hx2 x3 hx3 x4 hx4 A
    exact z_Wk_goOverR_ok (Dr := M * 6) (Wr := M * 198) ih N (by omega) (by omega) x1 hx1 x2 hx2 x3 hx3 x4 hx4 A
theorem z_Wk_goOver_rec (N : Nat) : ∀ (d w : Nat), 156 ≤ d → 5148 ≤ w → ∀ (x1 : Nat) (hx1 : zsh x1 = some (false, 3, 4)) (x2 : Int) (hx2 : zrg x2) (x3 : Int) (hx3 : zrg x3) (x4 : Int) (hx4 : zrg x4) (A : zA), zG (z_Wk_goOver N x1 x2 x3 x4 A) zPV d w 182 0 [some (.inr (.inr (some 110))), some (.inr (.inr (some x1))), some (.inl x2), some (.inl x3), some (.inl x4), none] [] A := fun d w hd hw => z_Wk_goOver_lok N 26 d w (by omega) (by omega)
theorem z_Wk_goOver_ok {d w : Nat} (N : Nat) (hd : 156 ≤ d) (hw : 5148 ≤ w) (x1 : Nat) (hx1 : zsh x1 = some (false, 3, 4)) (x2 : Int) (hx2 : zrg x2) (x3 : Int) (hx3 : zrg x3) (x4 : Int) (hx4 : zrg x4) (A : zA) : zG (z_Wk_goOver N x1 x2 x3 x4 A) zPV d w 182 0 [some (.inr (.inr (some 110))), some (.inr (.inr (some x1))), some (.inl x2), some (.inl x3), some (.inl x4), none] [] A := z_Wk_goOver_rec N d w hd hw x1 hx1 x2 hx2 x3 hx3 x4 hx4 A
theorem z_Wk_walk_33_ok{d w : Nat} (N : Nat) (hd : 157 ≤ d) (hw : 5173 ≤ w) (x1 : Nat) (hx1 : zsh x1 = some (false, 2, 2)) (s1 : Nat) (hs1 : zsh s1 = some (false, 9, 5)) (A : zA) : zG (z_Wk_walk_33 N x1 s1 A) zPV d w 143 33 [some (.inr (.inr (some 110))), some (.inr (.inr (some x1))), none, none] [(.inr (.inr (some s1))), (.inr (.inr (some 110)))] A := by
  unfold z_Wk_walk_33
  refine jt_pr (pc1 := 36) (j := 8) rfl rfl rfl rfl rfl rfl (fun A1 => ?_)
  refine js_aload (pc1 := 37) rfl rfl rfl ?_
  refine jt_gr (pc1 := 40) (j := 8) rfl rfl rfl rfl (fun p2 => ?_)
  refine zG_cs (fun hp2 => ?_)
  refine js_cV (pc1 := 43) (as := [(.inr (.inr (some p2)))]) (S0 := []) (m := 1) (L0 := [some (.inr (.inr (some p2)))]) rfl rfl rfl rfl rfl rfl rfl rfl (zrc_o rfl hp2) (by omega) (by omega) (z_Ta_clear_ok N (by omega) (by omega) p2 hp2 A1) (fun A3 _ => ?_)
  refine js_aload (pc1 := 44) rfl rfl rfl ?_
  refine js_iconst (pc1 := 45) rfl rfl ?_
  refine jt_pi (pc1 := 48) (j := 7) rfl rfl rfl rfl rfl (fun A4 => ?_)
  refine js_aload (pc1 := 49) rfl rfl rfl ?_
  refine js_iconst (pc1 := 50) rfl rfl ?_
  refine jt_pbl (pc1 := 53) (j := 10) rfl rfl rfl rfl rfl (Or.inl rfl) (fun A5 => ?_)
  refine js_aload (pc1 := 54) rfl rfl rfl ?_
  refine js_iconst (pc1 := 55) rfl rfl ?_
  refine jt_pi (pc1 := 58) (j := 11) rfl rfl rfl rfl rfl (fun A6 => ?_)
  refine js_aload (pc1 := 59) rfl rfl rfl ?_
  refine js_iconst (pc1 := 60) rfl rfl ?_
  refine jt_pi (pc1 := 63) (j := 12) rfl rfl rfl rfl rfl (fun A7 => ?_)
  refine js_aload (pc1 := 64) rfl rfl rfl ?_
  refine js_aload (pc1 := 65) rfl rfl rfl ?_
  refine js_gfr (pc1 := 68) (j := 4) (r := 193) rfl rfl rfl rfl rfl ?_
  refine jt_pr (pc1 := 71) (j := 5) rfl rfl rfl rfl rfl rfl (fun A8 => ?_)
  refine js_aload (pc1 := 72) rfl rfl rfl ?_
  refine jt_gr (pc1 := 75) (j := 5) rfl rfl rfl rfl (fun p9 => ?_)
  refine js_aload (pc1 := 76) rfl rfl rfl ?_
  refine js_gfr (pc1 := 79) (j := 0) (r := 111) rfl rfl rfl rfl rfl ?_
  refine js_iconst (pc1 := 80) rfl rfl ?_
  refine js_iconst (pc1 := 81) rfl rfl ?_
  refine js_iconst (pc1 := 82) rfl rfl ?_
  refine js_iconst (pc1 := 83) rfl rfl ?_
  refine js_cI (pc1 := 86) (as := [(.inr (.inr (some 111))), (.inl 0), (.inl 0), (.inl 0), (.inl 0)]) (S0 := [(.inr (.inr (some p9)))]) (m := 8) (L0 := [some (.inr (.inr (some 111))), some (.inl 0), some (.inl 0), some (.inl 0), some (.inl 0), none, none, none]) rfl rfl rfl rfl rfl rfl rfl rfl (zrc_o rfl rfl) (by omega) (by omega) (z_Th_make_ok N (by omega) (by omega) 111 rfl 0 (zlit rfl) 0 (zlit rfl) 0 (zlit rfl) 0 (zlit rfl) A8) (fun v10 A11 _ hv10 => ?_)
  refine js_cV (pc1 := 89) (as := [(.inr (.inr (some p9))), (.inl v10)]) (S0 := []) (m := 4) (L0 := [some (.inr (.inr (some p9))), some (.inl v10), none, none]) rfl rfl rfl rfl rfl rfl rfl rfl (zrc_s rfl) (by omega) (by omega) (z_Ar_fill_ok N (by omega) (by omega) p9 v10 hv10 A11) (fun A12 _ => ?_)
  refine js_aload (pc1 := 90) rfl rfl rfl ?_
  refine jt_gr (pc1 := 93) (j := 5) rfl rfl rfl rfl (fun p13 => ?_)
  refine js_iconst (pc1 := 95) rfl rfl ?_
  refine js_aload (pc1 := 96) rfl rfl rfl ?_
  refine js_gfr (pc1 := 99) (j := 0) (r := 111) rfl rfl rfl rfl rfl ?_
  refine js_iconst (pc1 := 100) rfl rfl ?_
  refine js_iconst (pc1 := 101) rfl rfl ?_
  refine js_iconst (pc1 := 102) rfl rfl ?_
  refine js_iconst (pc1 := 103) rfl rfl ?_
  refine js_cI (pc1 := 106) (as := [(.inr (.inr (some 111))), (.inl 3), (.inl 0), (.inl 0), (.inl 0)]) (S0 := [(.inl 60), (.inr (.inr (some p13)))]) (m := 8) (L0 := [some (.inr (.inr (some 111))), some (.inl 3), some (.inl 0), some (.inl 0), some (.inl 0), none, none, none]) rfl rfl rfl rfl rfl rfl rfl rfl (zrc_o rfl rfl) (by omega) (by omega) (z_Th_make_ok N (by omega) (by omega) 111 rfl 3 (zlit rfl) 0 (zlit rfl) 0 (zlit rfl) 0 (zlit rfl) A12) (fun v14 A15 _ hv14 => ?_)
  refine jt_iasD (pc1 := 107) rfl rfl (fun A16 => ?_)
  refine js_aload (pc1 := 108) rfl rfl rfl ?_
  refine jt_gf (pc1 := 111) (j := 0) rfl rfl hx1 rfl (fun p17 => ?_)
  refine js_iconst (pc1 := 112) rfl rfl ?_
  refine jt_aald (pc1 := 113) rfl rfl (fun p18 => ?_)
  refine zG_cs (fun hp18 => ?_)
  refine js_astore (pc1 := 114) (L1 := [some (.inr (.inr (some 110))), some (.inr (.inr (some x1))), none, some (.inr (.inr (some p18)))]) rfl rfl rfl rfl ?_
  refine js_aload (pc1 := 115) rfl rfl rfl ?_
  refine js_aload (pc1 := 116) rfl rfl rfl ?_
  refine js_iconst (pc1 := 117) rfl rfl ?_
  refine js_aload (pc1 := 118) rfl rfl rfl ?_
  refine js_gi (pc1 := 121) (j := 2) rfl rfl hp18 rfl ?_
  refine js_iconst (pc1 := 122) rfl rfl ?_
  refine js_cV (pc1 := 125) (as := [(.inr (.inr (some 110))), (.inr (.inr (some p18))), (.inl 0), (.inl (zi A16 p18 2)), (.inl 0)]) (S0 := []) (m := 6) (L0 := [some (.inr (.inr (some 110))), some (.inr (.inr (some p18))), some (.inl 0), some (.inl (zi A16 p18 2)), some (.inl 0), none]) rfl rfl rfl rfl rfl rfl rfl rfl (zrc_o rfl rfl) (by omega) (by omega) (z_Wk_goOver_ok N (by omega) (by omega) p18 hp18 0 (zlit rfl) (zi A16 p18 2) (zi_rg _ _ _) 0 (zlit rfl) A16) (fun A19 _ => ?_)
  exact je_V rfl
theorem z_Wk_walk_12_ok{d w : Nat} (N : Nat) (hd : 157 ≤ d) (hw : 5173 ≤ w) (x1 : Nat) (hx1 : zsh x1 = some (false, 2, 2)) (x2 : Int) (hx2 : zrg x2) (A : zA) : zG (z_Wk_walk_12 N x1 x2 A) zPV d w 143 12 [some (.inr (.inr (some 110))), some (.inr (.inr (some x1))), some (.inl x2), none] [] A := by
  unfold z_Wk_walk_12
  refine js_aload (pc1 := 13) rfl rfl rfl ?_
  refine js_aload (pc1 := 14) rfl rfl rfl ?_
  refine jt_pr (pc1 := 17) (j := 9) rfl rfl rfl rfl rfl rfl (fun A1 => ?_)
  refine js_aload (pc1 := 18) rfl rfl rfl ?_
  refine js_iload (pc1 := 19) rfl rfl rfl ?_
  refine ju_eq (pc1 := 22) (t1 := 29) hx2 rfl rfl rfl (fun c2 => ?_) (fun c2 => ?_)
  · refine js_aload (pc1 := 30) rfl rfl rfl ?_
    refine js_gfr (pc1 := 33) (j := 1) (r := 114) rfl rfl rfl rfl rfl ?_
    exact zG_to (L := [some (.inr (.inr (some 110))), some (.inr (.inr (some x1))), none, none]) (S := [(.inr (.inr (some 114))), (.inr (.inr (some 110)))]) ⟨rfl, ⟨rfl, trivial⟩⟩ (rfl) (z_Wk_walk_33_ok N hd hw x1 hx1 114 rfl A1)
  · refine js_aload (pc1 := 23) rfl rfl rfl ?_
    refine js_gfr (pc1 := 26) (j := 2) (r := 117) rfl rfl rfl rfl rfl ?_
    refine js_goto (t1 := 33) rfl rfl ?_
    exact zG_to (L := [some (.inr (.inr (some 110))), some (.inr (.inr (some x1))), none, none]) (S := [(.inr (.inr (some 117))), (.inr (.inr (some 110)))]) ⟨rfl, ⟨rfl, trivial⟩⟩ (rfl) (z_Wk_walk_33_ok N hd hw x1 hx1 117 rfl A1)
theorem z_Wk_walk_ok{d w : Nat} (N : Nat) (hd : 157 ≤ d) (hw : 5173 ≤ w) (x1 : Nat) (hx1 : zsh x1 = some (false, 2, 2)) (x2 : Int) (hx2 : zrg x2) (A : zA) : zG (z_Wk_walk N x1 x2 A) zPV d w 143 0 [some (.inr (.inr (some 110))), some (.inr (.inr (some x1))), some (.inl x2), none] [] A := by
  unfold z_Wk_walk
  refine js_iload (pc1 := 1) rfl rfl rfl ?_
  refine ju_ne (pc1 := 4) (t1 := 12) hx2 rfl rfl rfl (fun c1 => ?_) (fun c1 => ?_)
  · refine js_aload (pc1 := 5) rfl rfl rfl ?_
    refine js_gfr (pc1 := 8) (j := 0) (r := 111) rfl rfl rfl rfl rfl ?_
    refine js_iconst (pc1 := 9) rfl rfl ?_
    refine js_cV (pc1 := 12) (as := [(.inr (.inr (some 111))), (.inl 0)]) (S0 := []) (m := 3) (L0 := [some (.inr (.inr (some 111))), some (.inl 0), none]) rfl rfl rfl rfl rfl rfl rfl rfl (zrc_o rfl rfl) (by omega) (by omega) (z_Th_dropTo_ok N (by omega) (by omega) 111 rfl 0 (zlit rfl) A) (fun A2 _ => ?_)
    exact z_Wk_walk_12_ok N hd hw x1 hx1 x2 hx2 A2
  · exact z_Wk_walk_12_ok N hd hw x1 hx1 x2 hx2 A
theorem z_Ta_saysWhat_19_bok{d w : Nat} {r19 : Nat → Nat → Int → Int → zA → Option Int} (hr19 : ∀ (x0 : Nat) (hx0 : zsh x0 = some (false, 9, 5)) (x1 : Nat) (hx1 : zsh x1 = some (false, 9, 5)) (x2 : Int) (hx2 : zrg x2) (x3 : Int) (hx3 : zrg x3) (A : zA), zG (r19 x0 x1 x2 x3 A) (zPp A) d w 183 19 [some (.inr (.inr (some x0))), some (.inr (.inr (some x1))), some (.inl x2), some (.inl x3)] [] A) (N : Nat) (hd : 0 ≤ d) (hw : 0 ≤ w) (x0 : Nat) (hx0 : zsh x0 = some (false, 9, 5)) (x1 : Nat) (hx1 : zsh x1 = some (false, 9, 5)) (x2 : Int) (hx2 : zrg x2) (x3 : Int) (hx3 : zrg x3) (A : zA) : zG (z_Ta_saysWhat_19_b r19 N x0 x1 x2 x3 A) (zPp A) d w 183 19 [some (.inr (.inr (some x0))), some (.inr (.inr (some x1))), some (.inl x2), some (.inl x3)] [] A := by
  unfold z_Ta_saysWhat_19_b
  refine js_iload (pc1 := 20) rfl rfl rfl ?_
  refine ju_eq (pc1 := 23) (t1 := 73) hx2 rfl rfl rfl (fun c1 => ?_) (fun c1 => ?_)
  · refine js_iload (pc1 := 74) rfl rfl rfl ?_
    exact zG_ite (fun h => je_P rfl (zfit3 rfl h) rfl hx2) (fun _ => zG_none)
  · refine js_iload (pc1 := 24) rfl rfl rfl ?_
    refine js_aload (pc1 := 25) rfl rfl rfl ?_
    refine js_gi (pc1 := 28) (j := 2) rfl rfl hx0 rfl ?_
    refine jt_ge (pc1 := 31) (t1 := 73) hx3 (zi_rg _ _ _) rfl rfl rfl (fun c2 => ?_) (fun c2 => ?_)
    · refine js_aload (pc1 := 32) rfl rfl rfl ?_
      refine jt_gf (pc1 := 35) (j := 0) rfl rfl hx0 rfl (fun p3 => ?_)
      refine js_iload (pc1 := 36) rfl rfl rfl ?_
      refine jt_aldD (pc1 := 37) rfl rfl (fun v4 hv4 => ?_)
      refine js_aload (pc1 := 38) rfl rfl rfl ?_
      refine jt_gf (pc1 := 41) (j := 0) rfl rfl hx1 rfl (fun p5 => ?_)
      refine js_iload (pc1 := 42) rfl rfl rfl ?_
      refine jt_aldD (pc1 := 43) rfl rfl (fun v6 hv6 => ?_)
      refine jt_ne (pc1 := 46) (t1 := 65) hv4 hv6 rfl rfl rfl (fun c7 => ?_) (fun c7 => ?_)
      · refine js_aload (pc1 := 47) rfl rfl rfl ?_
        refine jt_gf (pc1 := 50) (j := 1) rfl rfl hx0 rfl (fun p8 => ?_)
        refine js_iload (pc1 := 51) rfl rfl rfl ?_
        refine jt_aldD (pc1 := 52) rfl rfl (fun v9 hv9 => ?_)
        refine js_aload (pc1 := 53) rfl rfl rfl ?_
        refine jt_gf (pc1 := 56) (j := 1) rfl rfl hx1 rfl (fun p10 => ?_)
        refine js_iload (pc1 := 57) rfl rfl rfl ?_
        refine jt_aldD (pc1 := 58) rfl rfl (fun v11 hv11 => ?_)
        refine jt_ne (pc1 := 61) (t1 := 65) hv9 hv11 rfl rfl rfl (fun c12 => ?_) (fun c12 => ?_)
        · refine js_iconst (pc1 := 62) rfl rfl ?_
          refine js_goto (t1 := 66) rfl rfl ?_
          refine js_istore (pc1 := 67) (L1 := [some (.inr (.inr (some x0))), some (.inr (.inr (some x1))), some (.inl 1), some (.inl x3)]) rfl rfl rfl rfl ?_
          refine js_iinc (pc1 := 70) (L1 := [some (.inr (.inr (some x0))), some (.inr (.inr (some x1))), some (.inl 1), some (.inl (x3 + 1))]) rfl rfl rfl rfl ?_
          refine js_goto (t1 := 19) rfl rfl ?_
          exact zG_to (L := [some (.inr (.inr (some x0))), some (.inr (.inr (some x1))), some (.inl 1), some (.inl (zw (x3 + 1)))]) (S := []) ⟨rfl, ⟨rfl, ⟨rfl, ⟨zval_w (x3 + 1), trivial⟩⟩⟩⟩ (rfl) (hr19 x0 hx0 x1 hx1 1 (zlit rfl) (zw (x3 + 1)) (zw_rg (x3 + 1)) A)
        · refine js_iconst (pc1 := 66) rfl rfl ?_
          refine js_istore (pc1 := 67) (L1 := [some (.inr (.inr (some x0))), some (.inr (.inr (some x1))), some (.inl 0), some (.inl x3)]) rfl rfl rfl rfl ?_
          refine js_iinc (pc1 := 70) (L1 := [some (.inr (.inr (some x0))), some (.inr (.inr (some x1))), some (.inl 0), some (.inl (x3 + 1))]) rfl rfl rfl rfl ?_
          refine js_goto (t1 := 19) rfl rfl ?_
          exact zG_to (L := [some (.inr (.inr (some x0))), some (.inr (.inr (some x1))), some (.inl 0), some (.inl (zw (x3 + 1)))]) (S := []) ⟨rfl, ⟨rfl, ⟨rfl, ⟨zval_w (x3 + 1), trivial⟩⟩⟩⟩ (rfl) (hr19 x0 hx0 x1 hx1 0 (zlit rfl) (zw (x3 + 1)) (zw_rg (x3 + 1)) A)
      · refine js_iconst (pc1 := 66) rfl rfl ?_
        refine js_istore (pc1 := 67) (L1 := [some (.inr (.inr (some x0))), some (.inr (.inr (some x1))), some (.inl 0), some (.inl x3)]) rfl rfl rfl rfl ?_
        refine js_iinc (pc1 := 70) (L1 := [some (.inr (.inr (some x0))), some (.inr (.inr (some x1))), some (.inl 0), some (.inl (x3 + 1))]) rfl rfl rfl rfl ?_
        refine js_goto (t1 := 19) rfl rfl ?_
        exact zG_to (L := [some (.inr (.inr (some x0))), some (.inr (.inr (some x1))), some (.inl 0), some (.inl (zw (x3 + 1)))]) (S := []) ⟨rfl, ⟨rfl, ⟨rfl, ⟨zval_w (x3 + 1), trivial⟩⟩⟩⟩ (rfl) (hr19 x0 hx0 x1 hx1 0 (zlit rfl) (zw (x3 + 1)) (zw_rg (x3 + 1)) A)
    · refine js_iload (pc1 := 74) rfl rfl rfl ?_
      exact zG_ite (fun h => je_P rfl (zfit3 rfl h) rfl hx2) (fun _ => zG_none)
theorem z_Ta_saysWhat_19_lok{d w : Nat} (N : Nat) (hd : 0 ≤ d) (hw : 0 ≤ w) (n : Nat) : ∀ (x0 : Nat) (hx0 : zsh x0 = some (false, 9, 5)) (x1 : Nat) (hx1 : zsh x1 = some (false, 9, 5)) (x2 : Int) (hx2 : zrg x2) (x3 : Int) (hx3 : zrg x3) (A : zA), zG (z_Ta_saysWhat_19_l N n x0 x1 x2 x3 A) (zPp A) d w 183 19 [some (.inr (.inr (some x0))), some (.inr (.inr (some x1))), some (.inl x2), some (.inl x3)] [] A := by
  induction n with
  | zero => intros; exact zG_none
  | succ n ih =>
    intro x0 hx0 x1 hx1 x2 hx2 x3 hx3 A
    exact z_Ta_saysWhat_19_bok ih N hd hw x0 hx0 x1 hx1 x2 hx2 x3 hx3 A
theorem z_Ta_saysWhat_19_ok{d w : Nat} (N : Nat) (hd : 0 ≤ d) (hw : 0 ≤ w) (x0 : Nat) (hx0 : zsh x0 = some (false, 9, 5)) (x1 : Nat) (hx1 : zsh x1 = some (false, 9, 5)) (x2 : Int) (hx2 : zrg x2) (x3 : Int) (hx3 : zrg x3) (A : zA) : zG (z_Ta_saysWhat_19 N x0 x1 x2 x3 A) (zPp A) d w 183 19 [some (.inr (.inr (some x0))), some (.inr (.inr (some x1))), some (.inl x2), some (.inl x3)] [] A := z_Ta_saysWhat_19_lok N hd hw N x0 hx0 x1 hx1 x2 hx2 x3 hx3 A
theorem z_Ta_saysWhat_ok{d w : Nat} (N : Nat) (hd : 0 ≤ d) (hw : 0 ≤ w) (x0 : Nat) (hx0 : zsh x0 = some (false, 9, 5)) (x1 : Nat) (hx1 : zsh x1 = some (false, 9, 5)) (A : zA) : zG (z_Ta_saysWhat N x0 x1 A) (zPp A) d w 183 0 [some (.inr (.inr (some x0))), some (.inr (.inr (some x1))), none, none] [] A := by
  unfold z_Ta_saysWhat
  refine js_aload (pc1 := 1) rfl rfl rfl ?_
  refine js_gi (pc1 := 4) (j := 2) rfl rfl hx0 rfl ?_
  refine js_aload (pc1 := 5) rfl rfl rfl ?_
  refine js_gi (pc1 := 8) (j := 2) rfl rfl hx1 rfl ?_
  refine jt_ne (pc1 := 11) (t1 := 15) (zi_rg _ _ _) (zi_rg _ _ _) rfl rfl rfl (fun c1 => ?_) (fun c1 => ?_)
  · refine js_iconst (pc1 := 12) rfl rfl ?_
    refine js_goto (t1 := 16) rfl rfl ?_
    refine js_istore (pc1 := 17) (L1 := [some (.inr (.inr (some x0))), some (.inr (.inr (some x1))), some (.inl 1), none]) rfl rfl rfl rfl ?_
    refine js_iconst (pc1 := 18) rfl rfl ?_
    refine js_istore (pc1 := 19) (L1 := [some (.inr (.inr (some x0))), some (.inr (.inr (some x1))), some (.inl 1), some (.inl 0)]) rfl rfl rfl rfl ?_
    exact z_Ta_saysWhat_19_ok N hd hw x0 hx0 x1 hx1 1 (zlit rfl) 0 (zlit rfl) A
  · refine js_iconst (pc1 := 16) rfl rfl ?_
    refine js_istore (pc1 := 17) (L1 := [some (.inr (.inr (some x0))), some (.inr (.inr (some x1))), some (.inl 0), none]) rfl rfl rfl rfl ?_
    refine js_iconst (pc1 := 18) rfl rfl ?_
    refine js_istore (pc1 := 19) (L1 := [some (.inr (.inr (some x0))), some (.inr (.inr (some x1))), some (.inl 0), some (.inl 0)]) rfl rfl rfl rfl ?_
    exact z_Ta_saysWhat_19_ok N hd hw x0 hx0 x1 hx1 0 (zlit rfl) 0 (zlit rfl) A
theorem z_Th_beginReaching_ok{d w : Nat} (N : Nat) (hd : 0 ≤ d) (hw : 0 ≤ w) (x0 : Nat) (hx0 : zsh x0 = some (false, 6, 5)) (A : zA) : zG (z_Th_beginReaching N x0 A) zPV d w 184 0 [some (.inr (.inr (some x0)))] [] A := by
  unfold z_Th_beginReaching
  refine js_aload (pc1 := 1) rfl rfl rfl ?_
  refine js_iconst (pc1 := 2) rfl rfl ?_
  refine jt_pi (pc1 := 5) (j := 3) rfl rfl hx0 rfl rfl (fun A1 => ?_)
  refine js_aload (pc1 := 6) rfl rfl rfl ?_
  refine js_iconst (pc1 := 7) rfl rfl ?_
  refine jt_pi (pc1 := 10) (j := 4) rfl rfl hx0 rfl rfl (fun A2 => ?_)
  exact je_V rfl
theorem z_Ta_thingSaid_ok{d w : Nat} (N : Nat) (hd : 0 ≤ d) (hw : 0 ≤ w) (x0 : Nat) (hx0 : zsh x0 = some (false, 9, 5)) (x1 : Int) (hx1 : zrg x1) (A : zA) : zG (z_Ta_thingSaid N x0 x1 A) (zPp A) d w 185 0 [some (.inr (.inr (some x0))), some (.inl x1)] [] A := by
  unfold z_Ta_thingSaid
  refine js_iload (pc1 := 1) rfl rfl rfl ?_
  refine ju_lt (pc1 := 4) (t1 := 21) hx1 rfl rfl rfl (fun c1 => ?_) (fun c1 => ?_)
  · refine js_iconst (pc1 := 22) rfl rfl ?_
    exact je_P rfl (zfit0 _ rfl) rfl (zlit rfl)
  · refine js_iload (pc1 := 5) rfl rfl rfl ?_
    refine js_aload (pc1 := 6) rfl rfl rfl ?_
    refine js_gi (pc1 := 9) (j := 2) rfl rfl hx0 rfl ?_
    refine jt_ge (pc1 := 12) (t1 := 21) hx1 (zi_rg _ _ _) rfl rfl rfl (fun c2 => ?_) (fun c2 => ?_)
    · refine js_aload (pc1 := 13) rfl rfl rfl ?_
      refine jt_gf (pc1 := 16) (j := 1) rfl rfl hx0 rfl (fun p3 => ?_)
      refine js_iload (pc1 := 17) rfl rfl rfl ?_
      refine jt_aldD (pc1 := 18) rfl rfl (fun v4 hv4 => ?_)
      refine js_goto (t1 := 22) rfl rfl ?_
      exact je_P rfl (zfit0 _ rfl) rfl hv4
    · refine js_iconst (pc1 := 22) rfl rfl ?_
      exact je_P rfl (zfit0 _ rfl) rfl (zlit rfl)
theorem z_Th_has_ok{d w : Nat} (N : Nat) (hd : 0 ≤ d) (hw : 0 ≤ w) (x0 : Nat) (hx0 : zsh x0 = some (false, 6, 5)) (x1 : Int) (hx1 : zrg x1) (A : zA) : zG (z_Th_has N x0 x1 A) (zPp A) d w 187 0 [some (.inr (.inr (some x0))), some (.inl x1)] [] A := by
  unfold z_Th_has
  refine js_iload (pc1 := 1) rfl rfl rfl ?_
  refine ju_lt (pc1 := 4) (t1 := 16) hx1 rfl rfl rfl (fun c1 => ?_) (fun c1 => ?_)
  · refine js_iconst (pc1 := 17) rfl rfl ?_
    exact je_P rfl (zfit3 rfl (Or.inl rfl)) rfl (zlit rfl)
  · refine js_iload (pc1 := 5) rfl rfl rfl ?_
    refine js_aload (pc1 := 6) rfl rfl rfl ?_
    refine js_gi (pc1 := 9) (j := 2) rfl rfl hx0 rfl ?_
    refine jt_ge (pc1 := 12) (t1 := 16) hx1 (zi_rg _ _ _) rfl rfl rfl (fun c2 => ?_) (fun c2 => ?_)
    · refine js_iconst (pc1 := 13) rfl rfl ?_
      refine js_goto (t1 := 17) rfl rfl ?_
      exact je_P rfl (zfit3 rfl (Or.inr rfl)) rfl (zlit rfl)
    · refine js_iconst (pc1 := 17) rfl rfl ?_
      exact je_P rfl (zfit3 rfl (Or.inl rfl)) rfl (zlit rfl)
theorem z_Th_reach_60_ok{d w : Nat} (N : Nat) (hd : 1 ≤ d) (hw : 21 ≤ w) (x0 : Nat) (hx0 : zsh x0 = some (false, 6, 5)) (x1 : Int) (hx1 : zrg x1) (A : zA) : zG (z_Th_reach_60 N x0 x1 A) zPV d w 186 60 [some (.inr (.inr (some x0))), some (.inl x1)] [] A := by
  unfold z_Th_reach_60
  refine js_aload (pc1 := 61) rfl rfl rfl ?_
  refine jt_gr (pc1 := 64) (j := 0) rfl rfl hx0 rfl (fun p1 => ?_)
  refine js_iload (pc1 := 65) rfl rfl rfl ?_
  refine js_iconst (pc1 := 67) rfl rfl ?_
  refine js_imul (pc1 := 68) rfl rfl ?_
  refine js_iconst (pc1 := 70) rfl rfl ?_
  refine js_iadd (pc1 := 71) rfl rfl ?_
  refine js_iconst (pc1 := 72) rfl rfl ?_
  refine jt_iasD (pc1 := 73) rfl rfl (fun A2 => ?_)
  refine js_aload (pc1 := 74) rfl rfl rfl ?_
  refine js_iload (pc1 := 75) rfl rfl rfl ?_
  refine jt_pi (pc1 := 78) (j := 4) rfl rfl hx0 rfl rfl (fun A3 => ?_)
  exact je_V rfl
theorem z_Th_reach_ok{d w : Nat} (N : Nat) (hd : 1 ≤ d) (hw : 21 ≤ w) (x0 : Nat) (hx0 : zsh x0 = some (false, 6, 5)) (x1 : Int) (hx1 : zrg x1) (A : zA) : zG (z_Th_reach N x0 x1 A) zPV d w 186 0 [some (.inr (.inr (some x0))), some (.inl x1)] [] A := by
  unfold z_Th_reach
  refine js_aload (pc1 := 1) rfl rfl rfl ?_
  refine js_iload (pc1 := 2) rfl rfl rfl ?_
  refine js_cP (pc1 := 5) (as := [(.inr (.inr (some x0))), (.inl x1)]) (S0 := []) (m := 2) (L0 := [some (.inr (.inr (some x0))), some (.inl x1)]) rfl rfl rfl rfl rfl rfl rfl rfl (zrc_o rfl hx0) (by omega) (by omega) (z_Th_has_ok N (by omega) (by omega) x0 hx0 x1 hx1 A) (fun v1 _ hv1 => ?_)
  refine ju_eq (pc1 := 8) (t1 := 78) hv1 rfl rfl rfl (fun c2 => ?_) (fun c2 => ?_)
  · exact je_V rfl
  · refine js_aload (pc1 := 9) rfl rfl rfl ?_
    refine jt_gr (pc1 := 12) (j := 0) rfl rfl hx0 rfl (fun p3 => ?_)
    refine js_iload (pc1 := 13) rfl rfl rfl ?_
    refine js_iconst (pc1 := 15) rfl rfl ?_
    refine js_imul (pc1 := 16) rfl rfl ?_
    refine js_iconst (pc1 := 18) rfl rfl ?_
    refine js_iadd (pc1 := 19) rfl rfl ?_
    refine jt_aldD (pc1 := 20) rfl rfl (fun v4 hv4 => ?_)
    refine js_iconst (pc1 := 22) rfl rfl ?_
    refine jt_ne (pc1 := 25) (t1 := 78) hv4 (zlit rfl) rfl rfl rfl (fun c5 => ?_) (fun c5 => ?_)
    · refine js_aload (pc1 := 26) rfl rfl rfl ?_
      refine js_aload (pc1 := 27) rfl rfl rfl ?_
      refine js_gi (pc1 := 30) (j := 4) rfl rfl hx0 rfl ?_
      refine js_cP (pc1 := 33) (as := [(.inr (.inr (some x0))), (.inl (zi A x0 4))]) (S0 := []) (m := 2) (L0 := [some (.inr (.inr (some x0))), some (.inl (zi A x0 4))]) rfl rfl rfl rfl rfl rfl rfl rfl (zrc_o rfl hx0) (by omega) (by omega) (z_Th_has_ok N (by omega) (by omega) x0 hx0 (zi A x0 4) (zi_rg _ _ _) A) (fun v6 _ hv6 => ?_)
      refine ju_eq (pc1 := 36) (t1 := 55) hv6 rfl rfl rfl (fun c7 => ?_) (fun c7 => ?_)
      · refine js_aload (pc1 := 56) rfl rfl rfl ?_
        refine js_iload (pc1 := 57) rfl rfl rfl ?_
        refine jt_pi (pc1 := 60) (j := 3) rfl rfl hx0 rfl rfl (fun A8 => ?_)
        exact z_Th_reach_60_ok N hd hw x0 hx0 x1 hx1 A8
      · refine js_aload (pc1 := 37) rfl rfl rfl ?_
        refine jt_gr (pc1 := 40) (j := 0) rfl rfl hx0 rfl (fun p9 => ?_)
        refine js_aload (pc1 := 41) rfl rfl rfl ?_
        refine js_gi (pc1 := 44) (j := 4) rfl rfl hx0 rfl ?_
        refine js_iconst (pc1 := 46) rfl rfl ?_
        refine js_imul (pc1 := 47) rfl rfl ?_
        refine js_iconst (pc1 := 49) rfl rfl ?_
        refine js_iadd (pc1 := 50) rfl rfl ?_
        refine js_iload (pc1 := 51) rfl rfl rfl ?_
        refine jt_iasD (pc1 := 52) rfl rfl (fun A10 => ?_)
        refine js_goto (t1 := 60) rfl rfl ?_
        exact z_Th_reach_60_ok N hd hw x0 hx0 x1 hx1 A10
    · exact je_V rfl
theorem z_Th_kind_ok{d w : Nat} (N : Nat) (hd : 1 ≤ d) (hw : 21 ≤ w) (x0 : Nat) (hx0 : zsh x0 = some (false, 6, 5)) (x1 : Int) (hx1 : zrg x1) (A : zA) : zG (z_Th_kind N x0 x1 A) (zPp A) d w 189 0 [some (.inr (.inr (some x0))), some (.inl x1)] [] A := by
  unfold z_Th_kind
  refine js_aload (pc1 := 1) rfl rfl rfl ?_
  refine js_iload (pc1 := 2) rfl rfl rfl ?_
  refine js_cP (pc1 := 5) (as := [(.inr (.inr (some x0))), (.inl x1)]) (S0 := []) (m := 2) (L0 := [some (.inr (.inr (some x0))), some (.inl x1)]) rfl rfl rfl rfl rfl rfl rfl rfl (zrc_o rfl hx0) (by omega) (by omega) (z_Th_has_ok N (by omega) (by omega) x0 hx0 x1 hx1 A) (fun v1 _ hv1 => ?_)
  refine ju_eq (pc1 := 8) (t1 := 20) hv1 rfl rfl rfl (fun c2 => ?_) (fun c2 => ?_)
  · refine js_iconst (pc1 := 21) rfl rfl ?_
    exact je_P rfl (zfit0 _ rfl) rfl (zlit rfl)
  · refine js_aload (pc1 := 9) rfl rfl rfl ?_
    refine jt_gr (pc1 := 12) (j := 0) rfl rfl hx0 rfl (fun p3 => ?_)
    refine js_iload (pc1 := 13) rfl rfl rfl ?_
    refine js_iconst (pc1 := 15) rfl rfl ?_
    refine js_imul (pc1 := 16) rfl rfl ?_
    refine jt_aldD (pc1 := 17) rfl rfl (fun v4 hv4 => ?_)
    refine js_goto (t1 := 21) rfl rfl ?_
    exact je_P rfl (zfit0 _ rfl) rfl hv4
