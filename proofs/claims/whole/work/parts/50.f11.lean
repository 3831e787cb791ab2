theorem z_M_nameOf_3_lok{d w : Nat} (N : Nat) (hd : 0 ≤ d) (hw : 0 ≤ w) (n : Nat) : ∀ (x1 : Int) (hx1 : zrg x1) (x2 : Int) (hx2 : zrg x2) (x3 : Int) (hx3 : zrg x3) (x4 : Int) (hx4 : zrg x4) (A : zA), zG (z_M_nameOf_3_l N n x1 x2 x3 x4 A) zPI d w 98 3 [some (.inr (.inr (some 226))), some (.inl x1), some (.inl x2), some (.inl x3), some (.inl x4)] [] A := by
  induction n with
  | zero => intros; exact zG_none
  | succ n ih =>
    intro x1 hx1 x2 hx2 x3 hx3 x4 hx4 A
    exact z_M_nameOf_3_bok ih N hd hw x1 hx1 x2 hx2 x3 hx3 x4 hx4 A
theorem z_M_nameOf_3_ok{d w : Nat} (N : Nat) (hd : 0 ≤ d) (hw : 0 ≤ w) (x1 : Int) (hx1 : zrg x1) (x2 : Int) (hx2 : zrg x2) (x3 : Int) (hx3 : zrg x3) (x4 : Int) (hx4 : zrg x4) (A : zA) : zG (z_M_nameOf_3 N x1 x2 x3 x4 A) zPI d w 98 3 [some (.inr (.inr (some 226))), some (.inl x1), some (.inl x2), some (.inl x3), some (.inl x4)] [] A := z_M_nameOf_3_lok N hd hw N x1 hx1 x2 hx2 x3 hx3 x4 hx4 A
theorem z_M_nameOf_ok{d w : Nat} (N : Nat) (hd : 0 ≤ d) (hw : 0 ≤ w) (x1 : Int) (hx1 : zrg x1) (x2 : Int) (hx2 : zrg x2) (x3 : Int) (hx3 : zrg x3) (A : zA) : zG (z_M_nameOf N x1 x2 x3 A) zPI d w 98 0 [some (.inr (.inr (some 226))), some (.inl x1), some (.inl x2), some (.inl x3), none] [] A := by
  unfold z_M_nameOf
  refine js_iconst (pc1 := 1) rfl rfl ?_
  refine js_istore (pc1 := 3) (L1 := [some (.inr (.inr (some 226))), some (.inl x1), some (.inl x2), some (.inl x3), some (.inl 0)]) rfl rfl rfl rfl ?_
  exact z_M_nameOf_3_ok N hd hw x1 hx1 x2 hx2 x3 hx3 0 (zlit rfl) A
theorem z_M_common_84_ok{d w : Nat} {r6 : Int → Int → zA → Option zA} (hr6 : ∀ (x1 : Int) (hx1 : zrg x1) (x2 : Int) (hx2 : zrg x2) (A : zA), zG (r6 x1 x2 A) zPV d w 52 6 [some (.inr (.inr (some 226))), some (.inl x1), some (.inl x2), none, none, none, none, none, none, none] [] A) {r41 : Int → Int → Int → Int → Int → Int → zA → Option zA} (hr41 : ∀ (x1 : Int) (hx1 : zrg x1) (x2 : Int) (hx2 : zrg x2) (x3 : Int) (hx3 : zrg x3) (x4 : Int) (hx4 : zrg x4) (x5 : Int) (hx5 : zrg x5) (x6 : Int) (hx6 : zrg x6) (A : zA), zG (r41 x1 x2 x3 x4 x5 x6 A) zPV d w 52 41 [some (.inr (.inr (some 226))), some (.inl x1), some (.inl x2), some (.inl x3), some (.inl x4), some (.inl x5), some (.inl x6), none, none, none] [] A) (N : Nat) (hd : 2 ≤ d) (hw : 45 ≤ w) (x1 : Int) (hx1 : zrg x1) (x2 : Int) (hx2 : zrg x2) (x3 : Int) (hx3 : zrg x3) (x4 : Int) (hx4 : zrg x4) (x5 : Int) (hx5 : zrg x5) (x6 : Int) (hx6 : zrg x6) (x7 : Int) (hx7 : zrg x7) (s0 : Int) (hs0 : zrg s0) (A : zA) : zG (z_M_common_84 r6 r41 N x1 x2 x3 x4 x5 x6 x7 s0 A) zPV d w 52 84 [some (.inr (.inr (some 226))), some (.inl x1), some (.inl x2), some (.inl x3), some (.inl x4), some (.inl x5), some (.inl x6), some (.inl x7), none, none] [(.inl s0)] A := by
  unfold z_M_common_84
  refine js_istore (pc1 := 86) (L1 := [some (.inr (.inr (some 226))), some (.inl x1), some (.inl x2), some (.inl x3), some (.inl x4), some (.inl x5), some (.inl x6), some (.inl x7), some (.inl s0), none]) rfl rfl rfl rfl ?_
  refine js_iload (pc1 := 88) rfl rfl rfl ?_
  refine ju_le (pc1 := 91) (t1 := 119) hx7 rfl rfl rfl (fun c1 => ?_) (fun c1 => ?_)
  · refine js_iload (pc1 := 93) rfl rfl rfl ?_
    refine js_aload (pc1 := 94) rfl rfl rfl ?_
    refine js_gfr (pc1 := 97) (j := 3) (r := 228) rfl rfl rfl rfl rfl ?_
    refine js_iload (pc1 := 98) rfl rfl rfl ?_
    refine js_iload (pc1 := 100) rfl rfl rfl ?_
    refine js_iadd (pc1 := 101) rfl rfl ?_
    refine jt_ald (pc1 := 102) rfl rfl rfl rfl rfl (fun v2 hv2 => ?_)
    refine jt_eq (pc1 := 105) (t1 := 119) hs0 hv2 rfl rfl rfl (fun c3 => ?_) (fun c3 => ?_)
    · refine js_iinc (pc1 := 122) (L1 := [some (.inr (.inr (some 226))), some (.inl x1), some (.inl x2), some (.inl x3), some (.inl x4), some (.inl x5), some (.inl (x6 + 1)), some (.inl x7), some (.inl s0), none]) rfl rfl rfl rfl ?_
      refine js_goto (t1 := 41) rfl rfl ?_
      exact zG_to (L := [some (.inr (.inr (some 226))), some (.inl x1), some (.inl x2), some (.inl x3), some (.inl x4), some (.inl x5), some (.inl (zw (x6 + 1))), none, none, none]) (S := []) ⟨rfl, ⟨rfl, ⟨rfl, ⟨rfl, ⟨rfl, ⟨rfl, ⟨zval_w (x6 + 1), trivial⟩⟩⟩⟩⟩⟩⟩ (rfl) (hr41 x1 hx1 x2 hx2 x3 hx3 x4 hx4 x5 hx5 (zw (x6 + 1)) (zw_rg (x6 + 1)) A)
    · refine js_aload (pc1 := 106) rfl rfl rfl ?_
      refine js_gfr (pc1 := 109) (j := 3) (r := 228) rfl rfl rfl rfl rfl ?_
      refine js_iload (pc1 := 110) rfl rfl rfl ?_
      refine js_iload (pc1 := 112) rfl rfl rfl ?_
      refine js_iadd (pc1 := 113) rfl rfl ?_
      refine js_iload (pc1 := 115) rfl rfl rfl ?_
      refine jt_ias (pc1 := 116) rfl rfl rfl rfl (fun A4 => ?_)
      refine js_iconst (pc1 := 117) rfl rfl ?_
      refine js_istore (pc1 := 119) (L1 := [some (.inr (.inr (some 226))), some (.inl x1), some (.inl x2), some (.inl x3), some (.inl x4), some (.inl 1), some (.inl x6), some (.inl x7), some (.inl s0), none]) rfl rfl rfl rfl ?_
      refine js_iinc (pc1 := 122) (L1 := [some (.inr (.inr (some 226))), some (.inl x1), some (.inl x2), some (.inl x3), some (.inl x4), some (.inl 1), some (.inl (x6 + 1)), some (.inl x7), some (.inl s0), none]) rfl rfl rfl rfl ?_
      refine js_goto (t1 := 41) rfl rfl ?_
      exact zG_to (L := [some (.inr (.inr (some 226))), some (.inl x1), some (.inl x2), some (.inl x3), some (.inl x4), some (.inl 1), some (.inl (zw (x6 + 1))), none, none, none]) (S := []) ⟨rfl, ⟨rfl, ⟨rfl, ⟨rfl, ⟨rfl, ⟨rfl, ⟨zval_w (x6 + 1), trivial⟩⟩⟩⟩⟩⟩⟩ (rfl) (hr41 x1 hx1 x2 hx2 x3 hx3 x4 hx4 1 (zlit rfl) (zw (x6 + 1)) (zw_rg (x6 + 1)) A4)
  · refine js_iinc (pc1 := 122) (L1 := [some (.inr (.inr (some 226))), some (.inl x1), some (.inl x2), some (.inl x3), some (.inl x4), some (.inl x5), some (.inl (x6 + 1)), some (.inl x7), some (.inl s0), none]) rfl rfl rfl rfl ?_
    refine js_goto (t1 := 41) rfl rfl ?_
    exact zG_to (L := [some (.inr (.inr (some 226))), some (.inl x1), some (.inl x2), some (.inl x3), some (.inl x4), some (.inl x5), some (.inl (zw (x6 + 1))), none, none, none]) (S := []) ⟨rfl, ⟨rfl, ⟨rfl, ⟨rfl, ⟨rfl, ⟨rfl, ⟨zval_w (x6 + 1), trivial⟩⟩⟩⟩⟩⟩⟩ (rfl) (hr41 x1 hx1 x2 hx2 x3 hx3 x4 hx4 x5 hx5 (zw (x6 + 1)) (zw_rg (x6 + 1)) A)
theorem z_M_common_316_ok{d w : Nat} {r6 : Int → Int → zA → Option zA} (hr6 : ∀ (x1 : Int) (hx1 : zrg x1) (x2 : Int) (hx2 : zrg x2) (A : zA), zG (r6 x1 x2 A) zPV d w 52 6 [some (.inr (.inr (some 226))), some (.inl x1), some (.inl x2), none, none, none, none, none, none, none] [] A) (N : Nat) (hd : 2 ≤ d) (hw : 45 ≤ w) (x1 : Int) (hx1 : zrg x1) (x2 : Int) (hx2 : zrg x2) (x5 : Int) (hx5 : zrg x5) (x6 : Int) (hx6 : zrg x6) (x8 : Int) (hx8 : zrg x8) (A : zA) : zG (z_M_common_316 r6 N x1 x2 x5 x6 x8 A) zPV d w 52 316 [some (.inr (.inr (some 226))), some (.inl x1), some (.inl x2), none, none, some (.inl x5), some (.inl x6), none, some (.inl x8), none] [] A := by
  unfold z_M_common_316
  refine js_aload (pc1 := 317) rfl rfl rfl ?_
  refine js_gfr (pc1 := 320) (j := 39) (r := 249) rfl rfl rfl rfl rfl ?_
  refine js_iload (pc1 := 322) rfl rfl rfl ?_
  refine js_iload (pc1 := 324) rfl rfl rfl ?_
  refine jt_ias (pc1 := 325) rfl rfl rfl rfl (fun A1 => ?_)
  refine js_goto (t1 := 378) rfl rfl ?_
  refine js_aload (pc1 := 379) rfl rfl rfl ?_
  refine js_dupR (pc1 := 380) rfl rfl ?_
  refine js_gi (pc1 := 383) (j := 33) rfl rfl rfl rfl ?_
  refine js_iload (pc1 := 385) rfl rfl rfl ?_
  refine js_iadd (pc1 := 386) rfl rfl ?_
  refine jt_pi (pc1 := 389) (j := 33) rfl rfl rfl rfl rfl (fun A2 => ?_)
  refine js_iinc (pc1 := 392) (L1 := [some (.inr (.inr (some 226))), some (.inl x1), some (.inl (x2 + 1)), none, none, some (.inl x5), some (.inl x6), none, some (.inl x8), none]) rfl rfl rfl rfl ?_
  refine js_goto (t1 := 6) rfl rfl ?_
  exact zG_to (L := [some (.inr (.inr (some 226))), some (.inl x1), some (.inl (zw (x2 + 1))), none, none, none, none, none, none, none]) (S := []) ⟨rfl, ⟨rfl, ⟨zval_w (x2 + 1), trivial⟩⟩⟩ (rfl) (hr6 x1 hx1 (zw (x2 + 1)) (zw_rg (x2 + 1)) A2)
theorem z_M_common_262_ok{d w : Nat} {r6 : Int → Int → zA → Option zA} (hr6 : ∀ (x1 : Int) (hx1 : zrg x1) (x2 : Int) (hx2 : zrg x2) (A : zA), zG (r6 x1 x2 A) zPV d w 52 6 [some (.inr (.inr (some 226))), some (.inl x1), some (.inl x2), none, none, none, none, none, none, none] [] A) (N : Nat) (hd : 2 ≤ d) (hw : 45 ≤ w) (x1 : Int) (hx1 : zrg x1) (x2 : Int) (hx2 : zrg x2) (x3 : Int) (hx3 : zrg x3) (x5 : Int) (hx5 : zrg x5) (x6 : Int) (hx6 : zrg x6) (s0 : Int) (hs0 : zrg s0) (A : zA) : zG (z_M_common_262 r6 N x1 x2 x3 x5 x6 s0 A) zPV d w 52 262 [some (.inr (.inr (some 226))), some (.inl x1), some (.inl x2), some (.inl x3), none, some (.inl x5), some (.inl x6), none, none, none] [(.inl s0)] A := by
  unfold z_M_common_262
  refine js_istore (pc1 := 264) (L1 := [some (.inr (.inr (some 226))), some (.inl x1), some (.inl x2), some (.inl x3), none, some (.inl x5), some (.inl x6), none, some (.inl s0), none]) rfl rfl rfl rfl ?_
  refine js_aload (pc1 := 265) rfl rfl rfl ?_
  refine js_iload (pc1 := 266) rfl rfl rfl ?_
  refine js_iload (pc1 := 268) rfl rfl rfl ?_
  refine js_cP (pc1 := 271) (as := [(.inr (.inr (some 226))), (.inl x1), (.inl s0)]) (S0 := []) (m := 5) (L0 := [some (.inr (.inr (some 226))), some (.inl x1), some (.inl s0), none, none]) rfl rfl rfl rfl rfl rfl rfl rfl (zrc_o rfl rfl) (by omega) (by omega) (z_M_least_ok N (by omega) (by omega) x1 hx1 s0 hs0 A) (fun v1 _ hv1 => ?_)
  refine js_istore (pc1 := 273) (L1 := [some (.inr (.inr (some 226))), some (.inl x1), some (.inl x2), some (.inl x3), none, some (.inl x5), some (.inl x6), none, some (.inl s0), some (.inl v1)]) rfl rfl rfl rfl ?_
  refine js_iload (pc1 := 275) rfl rfl rfl ?_
  refine ju_lt (pc1 := 278) (t1 := 316) hv1 rfl rfl rfl (fun c2 => ?_) (fun c2 => ?_)
  · exact zG_to (L := [some (.inr (.inr (some 226))), some (.inl x1), some (.inl x2), none, none, some (.inl x5), some (.inl x6), none, some (.inl s0), none]) (S := []) ⟨rfl, ⟨rfl, ⟨rfl, ⟨rfl, ⟨rfl, ⟨rfl, trivial⟩⟩⟩⟩⟩⟩ (rfl) (z_M_common_316_ok hr6 N hd hw x1 hx1 x2 hx2 x5 hx5 x6 hx6 s0 hs0 A)
  · refine js_aload (pc1 := 279) rfl rfl rfl ?_
    refine js_gfr (pc1 := 282) (j := 3) (r := 228) rfl rfl rfl rfl rfl ?_
    refine js_iload (pc1 := 283) rfl rfl rfl ?_
    refine js_iconst (pc1 := 284) rfl rfl ?_
    refine jt_ias (pc1 := 285) rfl rfl rfl rfl (fun A3 => ?_)
    refine js_aload (pc1 := 286) rfl rfl rfl ?_
    refine js_gfr (pc1 := 289) (j := 3) (r := 228) rfl rfl rfl rfl rfl ?_
    refine js_iload (pc1 := 290) rfl rfl rfl ?_
    refine js_iconst (pc1 := 291) rfl rfl ?_
    refine js_iadd (pc1 := 292) rfl rfl ?_
    refine js_iload (pc1 := 294) rfl rfl rfl ?_
    refine jt_ias (pc1 := 295) rfl rfl rfl rfl (fun A4 => ?_)
    refine js_aload (pc1 := 296) rfl rfl rfl ?_
    refine js_gfr (pc1 := 299) (j := 3) (r := 228) rfl rfl rfl rfl rfl ?_
    refine js_iload (pc1 := 300) rfl rfl rfl ?_
    refine js_iconst (pc1 := 301) rfl rfl ?_
    refine js_iadd (pc1 := 302) rfl rfl ?_
    refine js_iconst (pc1 := 303) rfl rfl ?_
    refine jt_ias (pc1 := 304) rfl rfl rfl rfl (fun A5 => ?_)
    refine js_aload (pc1 := 305) rfl rfl rfl ?_
    refine js_gfr (pc1 := 308) (j := 3) (r := 228) rfl rfl rfl rfl rfl ?_
    refine js_iload (pc1 := 309) rfl rfl rfl ?_
    refine js_iconst (pc1 := 310) rfl rfl ?_
    refine js_iadd (pc1 := 311) rfl rfl ?_
    refine js_iconst (pc1 := 312) rfl rfl ?_
    refine jt_ias (pc1 := 313) rfl rfl rfl rfl (fun A6 => ?_)
    refine js_iconst (pc1 := 314) rfl rfl ?_
    refine js_istore (pc1 := 316) (L1 := [some (.inr (.inr (some 226))), some (.inl x1), some (.inl x2), some (.inl x3), none, some (.inl 1), some (.inl x6), none, some (.inl s0), some (.inl v1)]) rfl rfl rfl rfl ?_
    exact zG_to (L := [some (.inr (.inr (some 226))), some (.inl x1), some (.inl x2), none, none, some (.inl 1), some (.inl x6), none, some (.inl s0), none]) (S := []) ⟨rfl, ⟨rfl, ⟨rfl, ⟨rfl, ⟨rfl, ⟨rfl, trivial⟩⟩⟩⟩⟩⟩ (rfl) (z_M_common_316_ok hr6 N hd hw x1 hx1 x2 hx2 1 (zlit rfl) x6 hx6 s0 hs0 A6)
theorem z_M_common_204_ok{d w : Nat} {r6 : Int → Int → zA → Option zA} (hr6 : ∀ (x1 : Int) (hx1 : zrg x1) (x2 : Int) (hx2 : zrg x2) (A : zA), zG (r6 x1 x2 A) zPV d w 52 6 [some (.inr (.inr (some 226))), some (.inl x1), some (.inl x2), none, none, none, none, none, none, none] [] A) (N : Nat) (hd : 2 ≤ d) (hw : 45 ≤ w) (x1 : Int) (hx1 : zrg x1) (x2 : Int) (hx2 : zrg x2) (x3 : Int) (hx3 : zrg x3) (x4 : Int) (hx4 : zrg x4) (x5 : Int) (hx5 : zrg x5) (x6 : Int) (hx6 : zrg x6) (x7 : Int) (hx7 : zrg x7) (A : zA) : zG (z_M_common_204 r6 N x1 x2 x3 x4 x5 x6 x7 A) zPV d w 52 204 [some (.inr (.inr (some 226))), some (.inl x1), some (.inl x2), some (.inl x3), some (.inl x4), some (.inl x5), some (.inl x6), some (.inl x7), none, none] [] A := by
  unfold z_M_common_204
  refine js_iload (pc1 := 206) rfl rfl rfl ?_
  refine js_iconst (pc1 := 207) rfl rfl ?_
  refine jt_ne (pc1 := 210) (t1 := 245) hx4 (zlit rfl) rfl rfl rfl (fun c1 => ?_) (fun c1 => ?_)
  · refine js_aload (pc1 := 211) rfl rfl rfl ?_
    refine js_aload (pc1 := 212) rfl rfl rfl ?_
    refine js_gfr (pc1 := 215) (j := 3) (r := 228) rfl rfl rfl rfl rfl ?_
    refine js_iload (pc1 := 216) rfl rfl rfl ?_
    refine js_iconst (pc1 := 217) rfl rfl ?_
    refine js_iadd (pc1 := 218) rfl rfl ?_
    refine jt_ald (pc1 := 219) rfl rfl rfl rfl rfl (fun v2 hv2 => ?_)
    refine js_aload (pc1 := 220) rfl rfl rfl ?_
    refine js_gfr (pc1 := 223) (j := 39) (r := 249) rfl rfl rfl rfl rfl ?_
    refine js_iload (pc1 := 225) rfl rfl rfl ?_
    refine jt_ald (pc1 := 226) rfl rfl rfl rfl rfl (fun v3 hv3 => ?_)
    refine js_aload (pc1 := 227) rfl rfl rfl ?_
    refine js_gfr (pc1 := 230) (j := 39) (r := 249) rfl rfl rfl rfl rfl ?_
    refine js_aload (pc1 := 231) rfl rfl rfl ?_
    refine js_gfr (pc1 := 234) (j := 3) (r := 228) rfl rfl rfl rfl rfl ?_
    refine js_iload (pc1 := 235) rfl rfl rfl ?_
    refine js_iconst (pc1 := 236) rfl rfl ?_
    refine js_iadd (pc1 := 237) rfl rfl ?_
    refine jt_ald (pc1 := 238) rfl rfl rfl rfl rfl (fun v4 hv4 => ?_)
    refine jt_ald (pc1 := 239) rfl rfl rfl rfl rfl (fun v5 hv5 => ?_)
    refine js_cI (pc1 := 242) (as := [(.inr (.inr (some 226))), (.inl v2), (.inl v3), (.inl v5)]) (S0 := []) (m := 5) (L0 := [some (.inr (.inr (some 226))), some (.inl v2), some (.inl v3), some (.inl v5), none]) rfl rfl rfl rfl rfl rfl rfl rfl (zrc_o rfl rfl) (by omega) (by omega) (z_M_nameOf_ok N (by omega) (by omega) v2 hv2 v3 hv3 v5 hv5 A) (fun v6 A7 _ hv6 => ?_)
    refine js_goto (t1 := 262) rfl rfl ?_
    exact zG_to (L := [some (.inr (.inr (some 226))), some (.inl x1), some (.inl x2), some (.inl x3), none, some (.inl x5), some (.inl x6), none, none, none]) (S := [(.inl v6)]) ⟨rfl, ⟨rfl, ⟨rfl, ⟨rfl, ⟨rfl, ⟨rfl, trivial⟩⟩⟩⟩⟩⟩ (rfl) (z_M_common_262_ok hr6 N hd hw x1 hx1 x2 hx2 x3 hx3 x5 hx5 x6 hx6 v6 hv6 A7)
  · refine js_aload (pc1 := 246) rfl rfl rfl ?_
    refine js_iconst (pc1 := 248) rfl rfl ?_
    refine js_aload (pc1 := 249) rfl rfl rfl ?_
    refine js_gfr (pc1 := 252) (j := 39) (r := 249) rfl rfl rfl rfl rfl ?_
    refine js_iload (pc1 := 254) rfl rfl rfl ?_
    refine jt_ald (pc1 := 255) rfl rfl rfl rfl rfl (fun v8 hv8 => ?_)
    refine js_aload (pc1 := 256) rfl rfl rfl ?_
    refine js_gi (pc1 := 259) (j := 35) rfl rfl rfl rfl ?_
    refine js_cI (pc1 := 262) (as := [(.inr (.inr (some 226))), (.inl 50), (.inl v8), (.inl (zi A 226 35))]) (S0 := []) (m := 5) (L0 := [some (.inr (.inr (some 226))), some (.inl 50), some (.inl v8), some (.inl (zi A 226 35)), none]) rfl rfl rfl rfl rfl rfl rfl rfl (zrc_o rfl rfl) (by omega) (by omega) (z_M_nameOf_ok N (by omega) (by omega) 50 (zlit rfl) v8 hv8 (zi A 226 35) (zi_rg _ _ _) A) (fun v9 A10 _ hv9 => ?_)
    exact zG_to (L := [some (.inr (.inr (some 226))), some (.inl x1), some (.inl x2), some (.inl x3), none, some (.inl x5), some (.inl x6), none, none, none]) (S := [(.inl v9)]) ⟨rfl, ⟨rfl, ⟨rfl, ⟨rfl, ⟨rfl, ⟨rfl, trivial⟩⟩⟩⟩⟩⟩ (rfl) (z_M_common_262_ok hr6 N hd hw x1 hx1 x2 hx2 x3 hx3 x5 hx5 x6 hx6 v9 hv9 A10)
theorem z_M_common_125_ok{d w : Nat} {r6 : Int → Int → zA → Option zA} (hr6 : ∀ (x1 : Int) (hx1 : zrg x1) (x2 : Int) (hx2 : zrg x2) (A : zA), zG (r6 x1 x2 A) zPV d w 52 6 [some (.inr (.inr (some 226))), some (.inl x1), some (.inl x2), none, none, none, none, none, none, none] [] A) (N : Nat) (hd : 2 ≤ d) (hw : 45 ≤ w) (x1 : Int) (hx1 : zrg x1) (x2 : Int) (hx2 : zrg x2) (x3 : Int) (hx3 : zrg x3) (x4 : Int) (hx4 : zrg x4) (x5 : Int) (hx5 : zrg x5) (A : zA) : zG (z_M_common_125 r6 N x1 x2 x3 x4 x5 A) zPV d w 52 125 [some (.inr (.inr (some 226))), some (.inl x1), some (.inl x2), some (.inl x3), some (.inl x4), some (.inl x5), none, none, none, none] [] A := by
  unfold z_M_common_125
  refine js_aload (pc1 := 126) rfl rfl rfl ?_
  refine js_gfr (pc1 := 129) (j := 3) (r := 228) rfl rfl rfl rfl rfl ?_
  refine js_iload (pc1 := 130) rfl rfl rfl ?_
  refine js_iconst (pc1 := 131) rfl rfl ?_
  refine js_iadd (pc1 := 132) rfl rfl ?_
  refine jt_ald (pc1 := 133) rfl rfl rfl rfl rfl (fun v1 hv1 => ?_)
  refine js_istore (pc1 := 135) (L1 := [some (.inr (.inr (some 226))), some (.inl x1), some (.inl x2), some (.inl x3), some (.inl x4), some (.inl x5), some (.inl v1), none, none, none]) rfl rfl rfl rfl ?_
  refine js_aload (pc1 := 136) rfl rfl rfl ?_
  refine js_gfr (pc1 := 139) (j := 3) (r := 228) rfl rfl rfl rfl rfl ?_
  refine js_iload (pc1 := 140) rfl rfl rfl ?_
  refine js_iconst (pc1 := 141) rfl rfl ?_
  refine js_iadd (pc1 := 142) rfl rfl ?_
  refine jt_ald (pc1 := 143) rfl rfl rfl rfl rfl (fun v2 hv2 => ?_)
  refine js_istore (pc1 := 145) (L1 := [some (.inr (.inr (some 226))), some (.inl x1), some (.inl x2), some (.inl x3), some (.inl x4), some (.inl x5), some (.inl v1), some (.inl v2), none, none]) rfl rfl rfl rfl ?_
  refine js_iload (pc1 := 147) rfl rfl rfl ?_
  refine ju_ne (pc1 := 150) (t1 := 169) hx4 rfl rfl rfl (fun c3 => ?_) (fun c3 => ?_)
  · refine js_aload (pc1 := 151) rfl rfl rfl ?_
    refine js_gfr (pc1 := 154) (j := 39) (r := 249) rfl rfl rfl rfl rfl ?_
    refine js_iload (pc1 := 156) rfl rfl rfl ?_
    refine js_aload (pc1 := 157) rfl rfl rfl ?_
    refine js_iconst (pc1 := 159) rfl rfl ?_
    refine js_iload (pc1 := 161) rfl rfl rfl ?_
    refine js_iconst (pc1 := 162) rfl rfl ?_
    refine js_cI (pc1 := 165) (as := [(.inr (.inr (some 226))), (.inl 100), (.inl v2), (.inl 0)]) (S0 := [(.inl v1), (.inr (.inr (some 249)))]) (m := 5) (L0 := [some (.inr (.inr (some 226))), some (.inl 100), some (.inl v2), some (.inl 0), none]) rfl rfl rfl rfl rfl rfl rfl rfl (zrc_o rfl rfl) (by omega) (by omega) (z_M_nameOf_ok N (by omega) (by omega) 100 (zlit rfl) v2 hv2 0 (zlit rfl) A) (fun v4 A5 _ hv4 => ?_)
    refine jt_ias (pc1 := 166) rfl rfl rfl rfl (fun A6 => ?_)
    refine js_goto (t1 := 378) rfl rfl ?_
    refine js_aload (pc1 := 379) rfl rfl rfl ?_
    refine js_dupR (pc1 := 380) rfl rfl ?_
    refine js_gi (pc1 := 383) (j := 33) rfl rfl rfl rfl ?_
    refine js_iload (pc1 := 385) rfl rfl rfl ?_
    refine js_iadd (pc1 := 386) rfl rfl ?_
    refine jt_pi (pc1 := 389) (j := 33) rfl rfl rfl rfl rfl (fun A7 => ?_)
    refine js_iinc (pc1 := 392) (L1 := [some (.inr (.inr (some 226))), some (.inl x1), some (.inl (x2 + 1)), some (.inl x3), some (.inl x4), some (.inl x5), some (.inl v1), some (.inl v2), none, none]) rfl rfl rfl rfl ?_
    refine js_goto (t1 := 6) rfl rfl ?_
    exact zG_to (L := [some (.inr (.inr (some 226))), some (.inl x1), some (.inl (zw (x2 + 1))), none, none, none, none, none, none, none]) (S := []) ⟨rfl, ⟨rfl, ⟨zval_w (x2 + 1), trivial⟩⟩⟩ (rfl) (hr6 x1 hx1 (zw (x2 + 1)) (zw_rg (x2 + 1)) A7)
  · refine js_iload (pc1 := 171) rfl rfl rfl ?_
    refine js_iconst (pc1 := 172) rfl rfl ?_
    refine jt_ne (pc1 := 175) (t1 := 192) hx4 (zlit rfl) rfl rfl rfl (fun c8 => ?_) (fun c8 => ?_)
    · refine js_aload (pc1 := 176) rfl rfl rfl ?_
      refine js_gfr (pc1 := 179) (j := 39) (r := 249) rfl rfl rfl rfl rfl ?_
      refine js_iload (pc1 := 181) rfl rfl rfl ?_
      refine js_aload (pc1 := 182) rfl rfl rfl ?_
      refine js_gfr (pc1 := 185) (j := 39) (r := 249) rfl rfl rfl rfl rfl ?_
      refine js_iload (pc1 := 187) rfl rfl rfl ?_
      refine jt_ald (pc1 := 188) rfl rfl rfl rfl rfl (fun v9 hv9 => ?_)
      refine jt_ias (pc1 := 189) rfl rfl rfl rfl (fun A10 => ?_)
      refine js_goto (t1 := 378) rfl rfl ?_
      refine js_aload (pc1 := 379) rfl rfl rfl ?_
      refine js_dupR (pc1 := 380) rfl rfl ?_
      refine js_gi (pc1 := 383) (j := 33) rfl rfl rfl rfl ?_
      refine js_iload (pc1 := 385) rfl rfl rfl ?_
      refine js_iadd (pc1 := 386) rfl rfl ?_
      refine jt_pi (pc1 := 389) (j := 33) rfl rfl rfl rfl rfl (fun A11 => ?_)
      refine js_iinc (pc1 := 392) (L1 := [some (.inr (.inr (some 226))), some (.inl x1), some (.inl (x2 + 1)), some (.inl x3), some (.inl x4), some (.inl x5), some (.inl v1), some (.inl v2), none, none]) rfl rfl rfl rfl ?_
      refine js_goto (t1 := 6) rfl rfl ?_
      exact zG_to (L := [some (.inr (.inr (some 226))), some (.inl x1), some (.inl (zw (x2 + 1))), none, none, none, none, none, none, none]) (S := []) ⟨rfl, ⟨rfl, ⟨zval_w (x2 + 1), trivial⟩⟩⟩ (rfl) (hr6 x1 hx1 (zw (x2 + 1)) (zw_rg (x2 + 1)) A11)
    · refine js_iload (pc1 := 194) rfl rfl rfl ?_
      refine js_iconst (pc1 := 195) rfl rfl ?_
      refine jt_eq (pc1 := 198) (t1 := 204) hx4 (zlit rfl) rfl rfl rfl (fun c12 => ?_) (fun c12 => ?_)
      · exact z_M_common_204_ok hr6 N hd hw x1 hx1 x2 hx2 x3 hx3 x4 hx4 x5 hx5 v1 hv1 v2 hv2 A
      · refine js_iload (pc1 := 200) rfl rfl rfl ?_
        refine js_iconst (pc1 := 201) rfl rfl ?_
        refine jt_ne (pc1 := 204) (t1 := 328) hx4 (zlit rfl) rfl rfl rfl (fun c13 => ?_) (fun c13 => ?_)
        · exact z_M_common_204_ok hr6 N hd hw x1 hx1 x2 hx2 x3 hx3 x4 hx4 x5 hx5 v1 hv1 v2 hv2 A
        · refine js_iload (pc1 := 330) rfl rfl rfl ?_
          refine js_iconst (pc1 := 331) rfl rfl ?_
          refine jt_ne (pc1 := 334) (t1 := 348) hx4 (zlit rfl) rfl rfl rfl (fun c14 => ?_) (fun c14 => ?_)
          · refine js_aload (pc1 := 335) rfl rfl rfl ?_
            refine js_gfr (pc1 := 338) (j := 39) (r := 249) rfl rfl rfl rfl rfl ?_
            refine js_iload (pc1 := 340) rfl rfl rfl ?_
            refine js_aload (pc1 := 341) rfl rfl rfl ?_
            refine js_cI (pc1 := 344) (as := [(.inr (.inr (some 226)))]) (S0 := [(.inl v1), (.inr (.inr (some 249)))]) (m := 1) (L0 := [some (.inr (.inr (some 226)))]) rfl rfl rfl rfl rfl rfl rfl rfl (zrc_o rfl rfl) (by omega) (by omega) (z_M_newName_ok N (by omega) (by omega) A) (fun v15 A16 _ hv15 => ?_)
            refine jt_ias (pc1 := 345) rfl rfl rfl rfl (fun A17 => ?_)
            refine js_goto (t1 := 378) rfl rfl ?_
            refine js_aload (pc1 := 379) rfl rfl rfl ?_
            refine js_dupR (pc1 := 380) rfl rfl ?_
            refine js_gi (pc1 := 383) (j := 33) rfl rfl rfl rfl ?_
            refine js_iload (pc1 := 385) rfl rfl rfl ?_
            refine js_iadd (pc1 := 386) rfl rfl ?_
            refine jt_pi (pc1 := 389) (j := 33) rfl rfl rfl rfl rfl (fun A18 => ?_)
            refine js_iinc (pc1 := 392) (L1 := [some (.inr (.inr (some 226))), some (.inl x1), some (.inl (x2 + 1)), some (.inl x3), some (.inl x4), some (.inl x5), some (.inl v1), some (.inl v2), none, none]) rfl rfl rfl rfl ?_
            refine js_goto (t1 := 6) rfl rfl ?_
            exact zG_to (L := [some (.inr (.inr (some 226))), some (.inl x1), some (.inl (zw (x2 + 1))), none, none, none, none, none, none, none]) (S := []) ⟨rfl, ⟨rfl, ⟨zval_w (x2 + 1), trivial⟩⟩⟩ (rfl) (hr6 x1 hx1 (zw (x2 + 1)) (zw_rg (x2 + 1)) A18)
          · refine js_iload (pc1 := 350) rfl rfl rfl ?_
            refine js_iconst (pc1 := 351) rfl rfl ?_
            refine jt_ne (pc1 := 354) (t1 := 367) hx4 (zlit rfl) rfl rfl rfl (fun c19 => ?_) (fun c19 => ?_)
            · refine js_aload (pc1 := 355) rfl rfl rfl ?_
              refine js_dupR (pc1 := 356) rfl rfl ?_
              refine js_gi (pc1 := 359) (j := 35) rfl rfl rfl rfl ?_
              refine js_iconst (pc1 := 360) rfl rfl ?_
              refine js_iadd (pc1 := 361) rfl rfl ?_
              refine jt_pi (pc1 := 364) (j := 35) rfl rfl rfl rfl rfl (fun A20 => ?_)
              refine js_goto (t1 := 378) rfl rfl ?_
              refine js_aload (pc1 := 379) rfl rfl rfl ?_
              refine js_dupR (pc1 := 380) rfl rfl ?_
              refine js_gi (pc1 := 383) (j := 33) rfl rfl rfl rfl ?_
              refine js_iload (pc1 := 385) rfl rfl rfl ?_
              refine js_iadd (pc1 := 386) rfl rfl ?_
              refine jt_pi (pc1 := 389) (j := 33) rfl rfl rfl rfl rfl (fun A21 => ?_)
              refine js_iinc (pc1 := 392) (L1 := [some (.inr (.inr (some 226))), some (.inl x1), some (.inl (x2 + 1)), some (.inl x3), some (.inl x4), some (.inl x5), some (.inl v1), some (.inl v2), none, none]) rfl rfl rfl rfl ?_
              refine js_goto (t1 := 6) rfl rfl ?_
              exact zG_to (L := [some (.inr (.inr (some 226))), some (.inl x1), some (.inl (zw (x2 + 1))), none, none, none, none, none, none, none]) (S := []) ⟨rfl, ⟨rfl, ⟨zval_w (x2 + 1), trivial⟩⟩⟩ (rfl) (hr6 x1 hx1 (zw (x2 + 1)) (zw_rg (x2 + 1)) A21)
            · refine js_iload (pc1 := 369) rfl rfl rfl ?_
              refine js_iconst (pc1 := 371) rfl rfl ?_
              refine jt_eq (pc1 := 374) (t1 := 378) hx4 (zlit rfl) rfl rfl rfl (fun c22 => ?_) (fun c22 => ?_)
              · refine js_aload (pc1 := 379) rfl rfl rfl ?_
                refine js_dupR (pc1 := 380) rfl rfl ?_
                refine js_gi (pc1 := 383) (j := 33) rfl rfl rfl rfl ?_
                refine js_iload (pc1 := 385) rfl rfl rfl ?_
                refine js_iadd (pc1 := 386) rfl rfl ?_
                refine jt_pi (pc1 := 389) (j := 33) rfl rfl rfl rfl rfl (fun A23 => ?_)
                refine js_iinc (pc1 := 392) (L1 := [some (.inr (.inr (some 226))), some (.inl x1), some (.inl (x2 + 1)), some (.inl x3), some (.inl x4), some (.inl x5), some (.inl v1), some (.inl v2), none, none]) rfl rfl rfl rfl ?_
                refine js_goto (t1 := 6) rfl rfl ?_
                exact zG_to (L := [some (.inr (.inr (some 226))), some (.inl x1), some (.inl (zw (x2 + 1))), none, none, none, none, none, none, none]) (S := []) ⟨rfl, ⟨rfl, ⟨zval_w (x2 + 1), trivial⟩⟩⟩ (rfl) (hr6 x1 hx1 (zw (x2 + 1)) (zw_rg (x2 + 1)) A23)
              · refine js_aload (pc1 := 375) rfl rfl rfl ?_
                refine js_cV (pc1 := 378) (as := [(.inr (.inr (some 226)))]) (S0 := []) (m := 2) (L0 := [some (.inr (.inr (some 226))), none]) rfl rfl rfl rfl rfl rfl rfl rfl (zrc_o rfl rfl) (by omega) (by omega) (z_M_renew_ok N (by omega) (by omega) A) (fun A24 _ => ?_)
                refine js_aload (pc1 := 379) rfl rfl rfl ?_
                refine js_dupR (pc1 := 380) rfl rfl ?_
                refine js_gi (pc1 := 383) (j := 33) rfl rfl rfl rfl ?_
                refine js_iload (pc1 := 385) rfl rfl rfl ?_
                refine js_iadd (pc1 := 386) rfl rfl ?_
                refine jt_pi (pc1 := 389) (j := 33) rfl rfl rfl rfl rfl (fun A25 => ?_)
                refine js_iinc (pc1 := 392) (L1 := [some (.inr (.inr (some 226))), some (.inl x1), some (.inl (x2 + 1)), some (.inl x3), some (.inl x4), some (.inl x5), some (.inl v1), some (.inl v2), none, none]) rfl rfl rfl rfl ?_
                refine js_goto (t1 := 6) rfl rfl ?_
                exact zG_to (L := [some (.inr (.inr (some 226))), some (.inl x1), some (.inl (zw (x2 + 1))), none, none, none, none, none, none, none]) (S := []) ⟨rfl, ⟨rfl, ⟨zval_w (x2 + 1), trivial⟩⟩⟩ (rfl) (hr6 x1 hx1 (zw (x2 + 1)) (zw_rg (x2 + 1)) A25)
theorem z_M_common_41_bok{d w : Nat} {r6 : Int → Int → zA → Option zA} (hr6 : ∀ (x1 : Int) (hx1 : zrg x1) (x2 : Int) (hx2 : zrg x2) (A : zA), zG (r6 x1 x2 A) zPV d w 52 6 [some (.inr (.inr (some 226))), some (.inl x1), some (.inl x2), none, none, none, none, none, none, none] [] A) {r41 : Int → Int → Int → Int → Int → Int → zA → Option zA} (hr41 : ∀ (x1 : Int) (hx1 : zrg x1) (x2 : Int) (hx2 : zrg x2) (x3 : Int) (hx3 : zrg x3) (x4 : Int) (hx4 : zrg x4) (x5 : Int) (hx5 : zrg x5) (x6 : Int) (hx6 : zrg x6) (A : zA), zG (r41 x1 x2 x3 x4 x5 x6 A) zPV d w 52 41 [some (.inr (.inr (some 226))), some (.inl x1), some (.inl x2), some (.inl x3), some (.inl x4), some (.inl x5), some (.inl x6), none, none, none] [] A) (N : Nat) (hd : 2 ≤ d) (hw : 45 ≤ w) (x1 : Int) (hx1 : zrg x1) (x2 : Int) (hx2 : zrg x2) (x3 : Int) (hx3 : zrg x3) (x4 : Int) (hx4 : zrg x4) (x5 : Int) (hx5 : zrg x5) (x6 : Int) (hx6 : zrg x6) (A : zA) : zG (z_M_common_41_b r6 r41 N x1 x2 x3 x4 x5 x6 A) zPV d w 52 41 [some (.inr (.inr (some 226))), some (.inl x1), some (.inl x2), some (.inl x3), some (.inl x4), some (.inl x5), some (.inl x6), none, none, none] [] A := by
  unfold z_M_common_41_b
  refine js_iload (pc1 := 43) rfl rfl rfl ?_
  refine js_iconst (pc1 := 44) rfl rfl ?_
  refine jt_ge (pc1 := 47) (t1 := 125) hx6 (zlit rfl) rfl rfl rfl (fun c1 => ?_) (fun c1 => ?_)
  · refine js_iload (pc1 := 49) rfl rfl rfl ?_
    refine js_iload (pc1 := 51) rfl rfl rfl ?_
    refine js_cP (pc1 := 54) (as := [(.inl x4), (.inl x6)]) (S0 := []) (m := 2) (L0 := [some (.inl x4), some (.inl x6)]) rfl rfl rfl rfl rfl rfl rfl rfl (zrc_s rfl) (by omega) (by omega) (z_M_readAt_ok N (by omega) (by omega) x4 hx4 x6 hx6 A) (fun v2 _ hv2 => ?_)
    refine js_istore (pc1 := 56) (L1 := [some (.inr (.inr (some 226))), some (.inl x1), some (.inl x2), some (.inl x3), some (.inl x4), some (.inl x5), some (.inl x6), some (.inl v2), none, none]) rfl rfl rfl rfl ?_
    refine js_iload (pc1 := 58) rfl rfl rfl ?_
    refine ju_le (pc1 := 61) (t1 := 83) hv2 rfl rfl rfl (fun c3 => ?_) (fun c3 => ?_)
    · refine js_aload (pc1 := 62) rfl rfl rfl ?_
      refine js_iload (pc1 := 63) rfl rfl rfl ?_
      refine js_aload (pc1 := 64) rfl rfl rfl ?_
      refine js_gfr (pc1 := 67) (j := 39) (r := 249) rfl rfl rfl rfl rfl ?_
      refine js_aload (pc1 := 68) rfl rfl rfl ?_
      refine js_gfr (pc1 := 71) (j := 3) (r := 228) rfl rfl rfl rfl rfl ?_
      refine js_iload (pc1 := 72) rfl rfl rfl ?_
      refine js_iload (pc1 := 74) rfl rfl rfl ?_
      refine js_iadd (pc1 := 75) rfl rfl ?_
      refine jt_ald (pc1 := 76) rfl rfl rfl rfl rfl (fun v4 hv4 => ?_)
      refine jt_ald (pc1 := 77) rfl rfl rfl rfl rfl (fun v5 hv5 => ?_)
      refine js_cP (pc1 := 80) (as := [(.inr (.inr (some 226))), (.inl x1), (.inl v5)]) (S0 := []) (m := 5) (L0 := [some (.inr (.inr (some 226))), some (.inl x1), some (.inl v5), none, none]) rfl rfl rfl rfl rfl rfl rfl rfl (zrc_o rfl rfl) (by omega) (by omega) (z_M_least_ok N (by omega) (by omega) x1 hx1 v5 hv5 A) (fun v6 _ hv6 => ?_)
      refine js_goto (t1 := 84) rfl rfl ?_
      exact z_M_common_84_ok hr6 hr41 N hd hw x1 hx1 x2 hx2 x3 hx3 x4 hx4 x5 hx5 x6 hx6 v2 hv2 v6 hv6 A
    · refine js_iconst (pc1 := 84) rfl rfl ?_
      exact z_M_common_84_ok hr6 hr41 N hd hw x1 hx1 x2 hx2 x3 hx3 x4 hx4 x5 hx5 x6 hx6 v2 hv2 0 (zlit rfl) A
  · exact zG_to (L := [some (.inr (.inr (some 226))), some (.inl x1), some (.inl x2), some (.inl x3), some (.inl x4), some (.inl x5), none, none, none, none]) (S := []) ⟨rfl, ⟨rfl, ⟨rfl, ⟨rfl, ⟨rfl, ⟨rfl, trivial⟩⟩⟩⟩⟩⟩ (rfl) (z_M_common_125_ok hr6 N hd hw x1 hx1 x2 hx2 x3 hx3 x4 hx4 x5 hx5 A)
theorem z_M_common_41_lok{d w : Nat} {r6 : Int → Int → zA → Option zA} (hr6 : ∀ (x1 : Int) (hx1 : zrg x1) (x2 : Int) (hx2 : zrg x2) (A : zA), zG (r6 x1 x2 A) zPV d w 52 6 [some (.inr (.inr (some 226))), some (.inl x1), some (.inl x2), none, none, none, none, none, none, none] [] A) (N : Nat) (hd : 2 ≤ d) (hw : 45 ≤ w) (n : Nat) : ∀ (x1 : Int) (hx1 : zrg x1) (x2 : Int) (hx2 : zrg x2) (x3 : Int) (hx3 : zrg x3) (x4 : Int) (hx4 : zrg x4) (x5 : Int) (hx5 : zrg x5) (x6 : Int) (hx6 : zrg x6) (A : zA), zG (z_M_common_41_l r6 N n x1 x2 x3 x4 x5 x6 A) zPV d w 52 41 [some (.inr (.inr (some 226))), some (.inl x1), some (.inl x2), some (.inl x3), some (.inl x4), some (.inl x5), some (.inl x6), none, none, none] [] A := by
  induction n with
  | zero => intros; exact zG_none
  | succ n ih =>
    intro x1 hx1 x2 hx2 x3 hx3 x4 hx4 x5 hx5 x6 hx6 A
    exact z_M_common_41_bok hr6 ih N hd hw x1 hx1 x2 hx2 x3 hx3 x4 hx4 x5 hx5 x6 hx6 A
theorem z_M_common_41_ok{d w : Nat} {r6 : Int → Int → zA → Option zA} (hr6 : ∀ (x1 : Int) (hx1 : zrg x1) (x2 : Int) (hx2 : zrg x2) (A : zA), zG (r6 x1 x2 A) zPV d w 52 6 [some (.inr (.inr (some 226))), some (.inl x1), some (.inl x2), none, none, none, none, none, none, none] [] A) (N : Nat) (hd : 2 ≤ d) (hw : 45 ≤ w) (x1 : Int) (hx1 : zrg x1) (x2 : Int) (hx2 : zrg x2) (x3 : Int) (hx3 : zrg x3) (x4 : Int) (hx4 : zrg x4) (x5 : Int) (hx5 : zrg x5) (x6 : Int) (hx6 : zrg x6) (A : zA) : zG (z_M_common_41 r6 N x1 x2 x3 x4 x5 x6 A) zPV d w 52 41 [some (.inr (.inr (some 226))), some (.inl x1), some (.inl x2), some (.inl x3), some (.inl x4), some (.inl x5), some (.inl x6), none, none, none] [] A := z_M_common_41_lok hr6 N hd hw N x1 hx1 x2 hx2 x3 hx3 x4 hx4 x5 hx5 x6 hx6 A
theorem z_M_common_6_bok{d w : Nat} {r6 : Int → Int → zA → Option zA} (hr6 : ∀ (x1 : Int) (hx1 : zrg x1) (x2 : Int) (hx2 : zrg x2) (A : zA), zG (r6 x1 x2 A) zPV d w 52 6 [some (.inr (.inr (some 226))), some (.inl x1), some (.inl x2), none, none, none, none, none, none, none] [] A) (N : Nat) (hd : 2 ≤ d) (hw : 45 ≤ w) (x1 : Int) (hx1 : zrg x1) (x2 : Int) (hx2 : zrg x2) (A : zA) : zG (z_M_common_6_b r6 N x1 x2 A) zPV d w 52 6 [some (.inr (.inr (some 226))), some (.inl x1), some (.inl x2), none, none, none, none, none, none, none] [] A := by
  unfold z_M_common_6_b
  refine js_iload (pc1 := 7) rfl rfl rfl ?_
  refine js_aload (pc1 := 8) rfl rfl rfl ?_
  refine js_gfr (pc1 := 11) (j := 4) (r := 229) rfl rfl rfl rfl rfl ?_
  refine js_iconst (pc1 := 12) rfl rfl ?_
  refine js_iload (pc1 := 13) rfl rfl rfl ?_
  refine js_cP (pc1 := 16) (as := [(.inl 1), (.inl x1)]) (S0 := [(.inr (.inr (some 229))), (.inl x2)]) (m := 2) (L0 := [some (.inl 1), some (.inl x1)]) rfl rfl rfl rfl rfl rfl rfl rfl (zrc_s rfl) (by omega) (by omega) (z_M_row_ok N (by omega) (by omega) 1 (zlit rfl) x1 hx1 A) (fun v1 _ hv1 => ?_)
  refine jt_ald (pc1 := 17) rfl rfl rfl rfl rfl (fun v2 hv2 => ?_)
  refine jt_ge (pc1 := 20) (t1 := 395) hx2 hv2 rfl rfl rfl (fun c3 => ?_) (fun c3 => ?_)
  · refine js_iconst (pc1 := 21) rfl rfl ?_
    refine js_iload (pc1 := 22) rfl rfl rfl ?_
    refine js_iload (pc1 := 23) rfl rfl rfl ?_
    refine js_cP (pc1 := 26) (as := [(.inl 1), (.inl x1), (.inl x2)]) (S0 := []) (m := 3) (L0 := [some (.inl 1), some (.inl x1), some (.inl x2)]) rfl rfl rfl rfl rfl rfl rfl rfl (zrc_s rfl) (by omega) (by omega) (z_M_place_ok N (by omega) (by omega) 1 (zlit rfl) x1 hx1 x2 hx2 A) (fun v4 _ hv4 => ?_)
    refine js_istore (pc1 := 27) (L1 := [some (.inr (.inr (some 226))), some (.inl x1), some (.inl x2), some (.inl v4), none, none, none, none, none, none]) rfl rfl rfl rfl ?_
    refine js_aload (pc1 := 28) rfl rfl rfl ?_
    refine js_gfr (pc1 := 31) (j := 3) (r := 228) rfl rfl rfl rfl rfl ?_
    refine js_iload (pc1 := 32) rfl rfl rfl ?_
    refine jt_ald (pc1 := 33) rfl rfl rfl rfl rfl (fun v5 hv5 => ?_)
    refine js_istore (pc1 := 35) (L1 := [some (.inr (.inr (some 226))), some (.inl x1), some (.inl x2), some (.inl v4), some (.inl v5), none, none, none, none, none]) rfl rfl rfl rfl ?_
    refine js_iconst (pc1 := 36) rfl rfl ?_
    refine js_istore (pc1 := 38) (L1 := [some (.inr (.inr (some 226))), some (.inl x1), some (.inl x2), some (.inl v4), some (.inl v5), some (.inl 0), none, none, none, none]) rfl rfl rfl rfl ?_
    refine js_iconst (pc1 := 39) rfl rfl ?_
    refine js_istore (pc1 := 41) (L1 := [some (.inr (.inr (some 226))), some (.inl x1), some (.inl x2), some (.inl v4), some (.inl v5), some (.inl 0), some (.inl 0), none, none, none]) rfl rfl rfl rfl ?_
    exact z_M_common_41_ok hr6 N hd hw x1 hx1 x2 hx2 v4 hv4 v5 hv5 0 (zlit rfl) 0 (zlit rfl) A
  · exact je_V rfl
theorem z_M_common_6_lok{d w : Nat} (N : Nat) (hd : 2 ≤ d) (hw : 45 ≤ w) (n : Nat) : ∀ (x1 : Int) (hx1 : zrg x1) (x2 : Int) (hx2 : zrg x2) (A : zA), zG (z_M_common_6_l N n x1 x2 A) zPV d w 52 6 [some (.inr (.inr (some 226))), some (.inl x1), some (.inl x2), none, none, none, none, none, none, none] [] A := by
  induction n with
  | zero => intros; exact zG_none
  | succ n ih =>
    intro x1 hx1 x2 hx2 A
    exact z_M_common_6_bok ih N hd hw x1 hx1 x2 hx2 A
theorem z_M_common_6_ok{d w : Nat} (N : Nat) (hd : 2 ≤ d) (hw : 45 ≤ w) (x1 : Int) (hx1 : zrg x1) (x2 : Int) (hx2 : zrg x2) (A : zA) : zG (z_M_common_6 N x1 x2 A) zPV d w 52 6 [some (.inr (.inr (some 226))), some (.inl x1), some (.inl x2), none, none, none, none, none, none, none] [] A := z_M_common_6_lok N hd hw N x1 hx1 x2 hx2 A
theorem z_M_common_ok{d w : Nat} (N : Nat) (hd : 2 ≤ d) (hw : 45 ≤ w) (x1 : Int) (hx1 : zrg x1) (A : zA) : zG (z_M_common N x1 A) zPV d w 52 0 [some (.inr (.inr (some 226))), some (.inl x1), none, none, none, none, none, none, none, none] [] A := by
  unfold z_M_common
  refine js_aload (pc1 := 1) rfl rfl rfl ?_
  refine js_cV (pc1 := 4) (as := [(.inr (.inr (some 226)))]) (S0 := []) (m := 2) (L0 := [some (.inr (.inr (some 226))), none]) rfl rfl rfl rfl rfl rfl rfl rfl (zrc_o rfl rfl) (by omega) (by omega) (z_M_renew_ok N (by omega) (by omega) A) (fun A1 _ => ?_)
  refine js_iconst (pc1 := 5) rfl rfl ?_
  refine js_istore (pc1 := 6) (L1 := [some (.inr (.inr (some 226))), some (.inl x1), some (.inl 0), none, none, none, none, none, none, none]) rfl rfl rfl rfl ?_
  exact z_M_common_6_ok N hd hw x1 hx1 0 (zlit rfl) A1
theorem z_M_follows_ok{d w : Nat} (N : Nat) (hd : 2 ≤ d) (hw : 46 ≤ w) (x1 : Int) (hx1 : zrg x1) (x2 : Int) (hx2 : zrg x2) (A : zA) : zG (z_M_follows N x1 x2 A) (zPJ A) d w 100 0 [some (.inr (.inr (some 226))), some (.inl x1), some (.inl x2), none, none] [] A := by
  unfold z_M_follows
  refine js_aload (pc1 := 1) rfl rfl rfl ?_
  refine js_iconst (pc1 := 2) rfl rfl ?_
  refine js_iload (pc1 := 3) rfl rfl rfl ?_
  refine js_iload (pc1 := 4) rfl rfl rfl ?_
  refine js_iconst (pc1 := 5) rfl rfl ?_
  refine js_cP (pc1 := 8) (as := [(.inr (.inr (some 226))), (.inl 0), (.inl x1), (.inl x2), (.inl 0)]) (S0 := []) (m := 5) (L0 := [some (.inr (.inr (some 226))), some (.inl 0), some (.inl x1), some (.inl x2), some (.inl 0)]) rfl rfl rfl rfl rfl rfl rfl rfl (zrc_o rfl rfl) (by omega) (by omega) (z_M_field_ok N (by omega) (by omega) 0 (zlit rfl) x1 hx1 x2 hx2 0 (zlit rfl) A) (fun v1 _ hv1 => ?_)
  refine js_istore (pc1 := 9) (L1 := [some (.inr (.inr (some 226))), some (.inl x1), some (.inl x2), some (.inl v1), none]) rfl rfl rfl rfl ?_
  refine js_aload (pc1 := 10) rfl rfl rfl ?_
  refine js_gfr (pc1 := 13) (j := 9) (r := 231) rfl rfl rfl rfl rfl ?_
  refine js_iconst (pc1 := 16) rfl rfl ?_
  refine js_iload (pc1 := 17) rfl rfl rfl ?_
  refine js_imul (pc1 := 18) rfl rfl ?_
  refine js_iload (pc1 := 19) rfl rfl rfl ?_
  refine js_iadd (pc1 := 20) rfl rfl ?_
  refine jt_ald (pc1 := 21) rfl rfl rfl rfl rfl (fun v2 hv2 => ?_)
  refine js_istore (pc1 := 23) (L1 := [some (.inr (.inr (some 226))), some (.inl x1), some (.inl x2), some (.inl v1), some (.inl v2)]) rfl rfl rfl rfl ?_
  refine js_iload (pc1 := 24) rfl rfl rfl ?_
  refine js_iconst (pc1 := 26) rfl rfl ?_
  refine jt_ne (pc1 := 29) (t1 := 48) hv1 (zlit rfl) rfl rfl rfl (fun c3 => ?_) (fun c3 => ?_)
  · refine js_aload (pc1 := 30) rfl rfl rfl ?_
    refine js_gfr (pc1 := 33) (j := 40) (r := 250) rfl rfl rfl rfl rfl ?_
    refine js_iload (pc1 := 34) rfl rfl rfl ?_
    refine js_iconst (pc1 := 35) rfl rfl ?_
    refine js_iadd (pc1 := 36) rfl rfl ?_
    refine jt_lald (pc1 := 37) rfl rfl rfl (fun v4 => ?_)
    refine js_aload (pc1 := 38) rfl rfl rfl ?_
    refine js_gfr (pc1 := 41) (j := 40) (r := 250) rfl rfl rfl rfl rfl ?_
    refine js_iload (pc1 := 43) rfl rfl rfl ?_
    refine js_iconst (pc1 := 44) rfl rfl ?_
    refine js_iadd (pc1 := 45) rfl rfl ?_
    refine jt_lald (pc1 := 46) rfl rfl rfl (fun v5 => ?_)
    refine js_lor (pc1 := 47) rfl rfl ?_
    exact je_J rfl
  · refine js_iload (pc1 := 49) rfl rfl rfl ?_
    refine js_iconst (pc1 := 51) rfl rfl ?_
    refine jt_ne (pc1 := 54) (t1 := 62) hv1 (zlit rfl) rfl rfl rfl (fun c6 => ?_) (fun c6 => ?_)
    · refine js_aload (pc1 := 55) rfl rfl rfl ?_
      refine js_gfr (pc1 := 58) (j := 40) (r := 250) rfl rfl rfl rfl rfl ?_
      refine js_iload (pc1 := 60) rfl rfl rfl ?_
      refine jt_lald (pc1 := 61) rfl rfl rfl (fun v7 => ?_)
      exact je_J rfl
    · refine js_iload (pc1 := 63) rfl rfl rfl ?_
      refine js_iconst (pc1 := 65) rfl rfl ?_
      refine jt_ne (pc1 := 68) (t1 := 87) hv1 (zlit rfl) rfl rfl rfl (fun c8 => ?_) (fun c8 => ?_)
      · refine js_aload (pc1 := 69) rfl rfl rfl ?_
        refine js_gfr (pc1 := 72) (j := 40) (r := 250) rfl rfl rfl rfl rfl ?_
        refine js_iload (pc1 := 73) rfl rfl rfl ?_
        refine js_iconst (pc1 := 74) rfl rfl ?_
        refine js_iadd (pc1 := 75) rfl rfl ?_
        refine jt_lald (pc1 := 76) rfl rfl rfl (fun v9 => ?_)
        refine js_aload (pc1 := 77) rfl rfl rfl ?_
        refine js_gfr (pc1 := 80) (j := 40) (r := 250) rfl rfl rfl rfl rfl ?_
        refine js_iload (pc1 := 82) rfl rfl rfl ?_
        refine js_iconst (pc1 := 83) rfl rfl ?_
        refine js_iadd (pc1 := 84) rfl rfl ?_
        refine jt_lald (pc1 := 85) rfl rfl rfl (fun v10 => ?_)
        refine js_lor (pc1 := 86) rfl rfl ?_
        exact je_J rfl
      · refine js_iload (pc1 := 88) rfl rfl rfl ?_
        refine js_iconst (pc1 := 90) rfl rfl ?_
        refine jt_ne (pc1 := 93) (t1 := 117) hv1 (zlit rfl) rfl rfl rfl (fun c11 => ?_) (fun c11 => ?_)
        · refine js_aload (pc1 := 94) rfl rfl rfl ?_
          refine js_iconst (pc1 := 95) rfl rfl ?_
          refine js_iload (pc1 := 96) rfl rfl rfl ?_
          refine js_iload (pc1 := 98) rfl rfl rfl ?_
          refine js_iconst (pc1 := 99) rfl rfl ?_
          refine js_cP (pc1 := 102) (as := [(.inr (.inr (some 226))), (.inl 0), (.inl x1), (.inl v2), (.inl 0)]) (S0 := []) (m := 5) (L0 := [some (.inr (.inr (some 226))), some (.inl 0), some (.inl x1), some (.inl v2), some (.inl 0)]) rfl rfl rfl rfl rfl rfl rfl rfl (zrc_o rfl rfl) (by omega) (by omega) (z_M_field_ok N (by omega) (by omega) 0 (zlit rfl) x1 hx1 v2 hv2 0 (zlit rfl) A) (fun v12 _ hv12 => ?_)
          refine js_iconst (pc1 := 104) rfl rfl ?_
          refine jt_ne (pc1 := 107) (t1 := 117) hv12 (zlit rfl) rfl rfl rfl (fun c13 => ?_) (fun c13 => ?_)
          · refine js_aload (pc1 := 108) rfl rfl rfl ?_
            refine js_gfr (pc1 := 111) (j := 40) (r := 250) rfl rfl rfl rfl rfl ?_
            refine js_iload (pc1 := 113) rfl rfl rfl ?_
            refine jt_lald (pc1 := 114) rfl rfl rfl (fun v14 => ?_)
            refine js_goto (t1 := 125) rfl rfl ?_
            exact je_J rfl
          · refine js_aload (pc1 := 118) rfl rfl rfl ?_
            refine js_gfr (pc1 := 121) (j := 40) (r := 250) rfl rfl rfl rfl rfl ?_
            refine js_iload (pc1 := 122) rfl rfl rfl ?_
            refine js_iconst (pc1 := 123) rfl rfl ?_
            refine js_iadd (pc1 := 124) rfl rfl ?_
            refine jt_lald (pc1 := 125) rfl rfl rfl (fun v15 => ?_)
            exact je_J rfl
        · refine js_aload (pc1 := 118) rfl rfl rfl ?_
          refine js_gfr (pc1 := 121) (j := 40) (r := 250) rfl rfl rfl rfl rfl ?_
          refine js_iload (pc1 := 122) rfl rfl rfl ?_
          refine js_iconst (pc1 := 123) rfl rfl ?_
          refine js_iadd (pc1 := 124) rfl rfl ?_
          refine jt_lald (pc1 := 125) rfl rfl rfl (fun v16 => ?_)
          exact je_J rfl
theorem z_M_divides_ok{d w : Nat} (N : Nat) (hd : 2 ≤ d) (hw : 46 ≤ w) (x1 : Int) (hx1 : zrg x1) (x2 : Int) (hx2 : zrg x2) (x3 : Int) (hx3 : zrg x3) (A : zA) : zG (z_M_divides N x1 x2 x3 A) (zPp A) d w 147 0 [some (.inr (.inr (some 226))), some (.inl x1), some (.inl x2), some (.inl x3)] [] A := by
  unfold z_M_divides
  refine js_aload (pc1 := 1) rfl rfl rfl ?_
  refine js_iload (pc1 := 2) rfl rfl rfl ?_
  refine js_iload (pc1 := 3) rfl rfl rfl ?_
  refine js_iload (pc1 := 4) rfl rfl rfl ?_
  refine js_iconst (pc1 := 5) rfl rfl ?_
  refine js_cP (pc1 := 8) (as := [(.inr (.inr (some 226))), (.inl x1), (.inl x2), (.inl x3), (.inl 0)]) (S0 := []) (m := 5) (L0 := [some (.inr (.inr (some 226))), some (.inl x1), some (.inl x2), some (.inl x3), some (.inl 0)]) rfl rfl rfl rfl rfl rfl rfl rfl (zrc_o rfl rfl) (by omega) (by omega) (z_M_field_ok N (by omega) (by omega) x1 hx1 x2 hx2 x3 hx3 0 (zlit rfl) A) (fun v1 _ hv1 => ?_)
  refine js_iconst (pc1 := 9) rfl rfl ?_
  refine jt_ne (pc1 := 12) (t1 := 28) hv1 (zlit rfl) rfl rfl rfl (fun c2 => ?_) (fun c2 => ?_)
  · refine js_aload (pc1 := 13) rfl rfl rfl ?_
    refine js_iload (pc1 := 14) rfl rfl rfl ?_
    refine js_iload (pc1 := 15) rfl rfl rfl ?_
    refine js_iload (pc1 := 16) rfl rfl rfl ?_
    refine js_iconst (pc1 := 17) rfl rfl ?_
    refine js_cP (pc1 := 20) (as := [(.inr (.inr (some 226))), (.inl x1), (.inl x2), (.inl x3), (.inl 4)]) (S0 := []) (m := 5) (L0 := [some (.inr (.inr (some 226))), some (.inl x1), some (.inl x2), some (.inl x3), some (.inl 4)]) rfl rfl rfl rfl rfl rfl rfl rfl (zrc_o rfl rfl) (by omega) (by omega) (z_M_field_ok N (by omega) (by omega) x1 hx1 x2 hx2 x3 hx3 4 (zlit rfl) A) (fun v3 _ hv3 => ?_)
    refine js_iconst (pc1 := 21) rfl rfl ?_
    refine jt_ne (pc1 := 24) (t1 := 28) hv3 (zlit rfl) rfl rfl rfl (fun c4 => ?_) (fun c4 => ?_)
    · refine js_iconst (pc1 := 25) rfl rfl ?_
      refine js_goto (t1 := 29) rfl rfl ?_
      exact je_P rfl (zfit3 rfl (Or.inr rfl)) rfl (zlit rfl)
    · refine js_iconst (pc1 := 29) rfl rfl ?_
      exact je_P rfl (zfit3 rfl (Or.inl rfl)) rfl (zlit rfl)
  · refine js_iconst (pc1 := 29) rfl rfl ?_
    exact je_P rfl (zfit3 rfl (Or.inl rfl)) rfl (zlit rfl)
theorem z_M_isPlain_ok{d w : Nat} (N : Nat) (hd : 3 ≤ d) (hw : 69 ≤ w) (x1 : Int) (hx1 : zrg x1) (x2 : Int) (hx2 : zrg x2) (x3 : Int) (hx3 : zrg x3) (A : zA) : zG (z_M_isPlain N x1 x2 x3 A) (zPp A) d w 102 0 [some (.inr (.inr (some 226))), some (.inl x1), some (.inl x2), some (.inl x3)] [] A := by
  unfold z_M_isPlain
  refine js_aload (pc1 := 1) rfl rfl rfl ?_
  refine js_iload (pc1 := 2) rfl rfl rfl ?_
  refine js_iload (pc1 := 3) rfl rfl rfl ?_
  refine js_iload (pc1 := 4) rfl rfl rfl ?_
  refine js_iconst (pc1 := 5) rfl rfl ?_
  refine js_cP (pc1 := 8) (as := [(.inr (.inr (some 226))), (.inl x1), (.inl x2), (.inl x3), (.inl 0)]) (S0 := []) (m := 5) (L0 := [some (.inr (.inr (some 226))), some (.inl x1), some (.inl x2), some (.inl x3), some (.inl 0)]) rfl rfl rfl rfl rfl rfl rfl rfl (zrc_o rfl rfl) (by omega) (by omega) (z_M_field_ok N (by omega) (by omega) x1 hx1 x2 hx2 x3 hx3 0 (zlit rfl) A) (fun v1 _ hv1 => ?_)
  refine js_iconst (pc1 := 9) rfl rfl ?_
  refine jt_gt (pc1 := 12) (t1 := 26) hv1 (zlit rfl) rfl rfl rfl (fun c2 => ?_) (fun c2 => ?_)
  · refine js_iconst (pc1 := 27) rfl rfl ?_
    exact je_P rfl (zfit3 rfl (Or.inl rfl)) rfl (zlit rfl)
  · refine js_aload (pc1 := 13) rfl rfl rfl ?_
    refine js_iload (pc1 := 14) rfl rfl rfl ?_
    refine js_iload (pc1 := 15) rfl rfl rfl ?_
    refine js_iload (pc1 := 16) rfl rfl rfl ?_
    refine js_cP (pc1 := 19) (as := [(.inr (.inr (some 226))), (.inl x1), (.inl x2), (.inl x3)]) (S0 := []) (m := 4) (L0 := [some (.inr (.inr (some 226))), some (.inl x1), some (.inl x2), some (.inl x3)]) rfl rfl rfl rfl rfl rfl rfl rfl (zrc_o rfl rfl) (by omega) (by omega) (z_M_divides_ok N (by omega) (by omega) x1 hx1 x2 hx2 x3 hx3 A) (fun v3 _ hv3 => ?_)
    refine ju_ne (pc1 := 22) (t1 := 26) hv3 rfl rfl rfl (fun c4 => ?_) (fun c4 => ?_)
    · refine js_iconst (pc1 := 23) rfl rfl ?_
      refine js_goto (t1 := 27) rfl rfl ?_
      exact je_P rfl (zfit3 rfl (Or.inr rfl)) rfl (zlit rfl)
    · refine js_iconst (pc1 := 27) rfl rfl ?_
      exact je_P rfl (zfit3 rfl (Or.inl rfl)) rfl (zlit rfl)
theorem z_M_ahead_113_ok{d w : Nat} (N : Nat) (hd : 4 ≤ d) (hw : 92 ≤ w) (x6 : Int64) (x8 : Int) (hx8 : zrg x8) (A : zA) : zG (z_M_ahead_113 N x6 x8 A) (zPJ A) d w 101 113 [none, none, none, none, none, none, some (.inr (.inl x6)), none, some (.inl x8), none, none] [] A := by
  unfold z_M_ahead_113
  refine js_iload (pc1 := 115) rfl rfl rfl ?_
  refine js_iconst (pc1 := 117) rfl rfl ?_
  refine jt_ne (pc1 := 120) (t1 := 129) hx8 (zlit rfl) rfl rfl rfl (fun c1 => ?_) (fun c1 => ?_)
  · refine js_lload (pc1 := 122) rfl rfl rfl ?_
    refine js_ldc2 (pc1 := 125) rfl rfl ?_
    refine js_lor (pc1 := 126) rfl rfl ?_
    refine js_goto (t1 := 131) rfl rfl ?_
    exact je_J rfl
  · refine js_lload (pc1 := 131) rfl rfl rfl ?_
    exact je_J rfl
theorem z_M_ahead_66_bok{d w : Nat} {r66 : Int → Int → Int64 → Int → Int → zA → Option Int64} (hr66 : ∀ (x1 : Int) (hx1 : zrg x1) (x2 : Int) (hx2 : zrg x2) (x6 : Int64) (x8 : Int) (hx8 : zrg x8) (x9 : Int) (hx9 : zrg x9) (A : zA), zG (r66 x1 x2 x6 x8 x9 A) (zPJ A) d w 101 66 [some (.inr (.inr (some 226))), some (.inl x1), some (.inl x2), none, none, none, some (.inr (.inl x6)), none, some (.inl x8), some (.inl x9), none] [] A) (N : Nat) (hd : 4 ≤ d) (hw : 92 ≤ w) (x1 : Int) (hx1 : zrg x1) (x2 : Int) (hx2 : zrg x2) (x6 : Int64) (x8 : Int) (hx8 : zrg x8) (x9 : Int) (hx9 : zrg x9) (A : zA) : zG (z_M_ahead_66_b r66 N x1 x2 x6 x8 x9 A) (zPJ A) d w 101 66 [some (.inr (.inr (some 226))), some (.inl x1), some (.inl x2), none, none, none, some (.inr (.inl x6)), none, some (.inl x8), some (.inl x9), none] [] A := by
  unfold z_M_ahead_66_b
  refine js_iload (pc1 := 68) rfl rfl rfl ?_
  refine js_iconst (pc1 := 69) rfl rfl ?_
  refine jt_ge (pc1 := 72) (t1 := 113) hx9 (zlit rfl) rfl rfl rfl (fun c1 => ?_) (fun c1 => ?_)
  · refine js_iload (pc1 := 74) rfl rfl rfl ?_
    refine js_iload (pc1 := 76) rfl rfl rfl ?_
    refine js_cP (pc1 := 79) (as := [(.inl x8), (.inl x9)]) (S0 := []) (m := 2) (L0 := [some (.inl x8), some (.inl x9)]) rfl rfl rfl rfl rfl rfl rfl rfl (zrc_s rfl) (by omega) (by omega) (z_M_readAt_ok N (by omega) (by omega) x8 hx8 x9 hx9 A) (fun v2 _ hv2 => ?_)
    refine js_istore (pc1 := 81) (L1 := [some (.inr (.inr (some 226))), some (.inl x1), some (.inl x2), none, none, none, some (.inr (.inl x6)), none, some (.inl x8), some (.inl x9), some (.inl v2)]) rfl rfl rfl rfl ?_
    refine js_iload (pc1 := 83) rfl rfl rfl ?_
    refine ju_le (pc1 := 86) (t1 := 103) hv2 rfl rfl rfl (fun c3 => ?_) (fun c3 => ?_)
    · refine js_lload (pc1 := 88) rfl rfl rfl ?_
      refine js_ldc2 (pc1 := 89) rfl rfl ?_
      refine js_aload (pc1 := 90) rfl rfl rfl ?_
      refine js_iconst (pc1 := 91) rfl rfl ?_
      refine js_iload (pc1 := 92) rfl rfl rfl ?_
      refine js_iload (pc1 := 93) rfl rfl rfl ?_
      refine js_iload (pc1 := 95) rfl rfl rfl ?_
      refine js_cP (pc1 := 98) (as := [(.inr (.inr (some 226))), (.inl 0), (.inl x1), (.inl x2), (.inl v2)]) (S0 := [(.inr (.inl (Int64.ofNat 1))), (.inr (.inl x6))]) (m := 5) (L0 := [some (.inr (.inr (some 226))), some (.inl 0), some (.inl x1), some (.inl x2), some (.inl v2)]) rfl rfl rfl rfl rfl rfl rfl rfl (zrc_o rfl rfl) (by omega) (by omega) (z_M_field_ok N (by omega) (by omega) 0 (zlit rfl) x1 hx1 x2 hx2 v2 hv2 A) (fun v4 _ hv4 => ?_)
      refine js_lshl (pc1 := 99) rfl rfl ?_
      refine js_lor (pc1 := 100) rfl rfl ?_
      refine js_goto (t1 := 105) rfl rfl ?_
      refine js_lstore (pc1 := 107) (L1 := [some (.inr (.inr (some 226))), some (.inl x1), some (.inl x2), none, none, none, some (.inr (.inl (x6 ||| (zlsl (Int64.ofNat 1) v4)))), none, some (.inl x8), some (.inl x9), some (.inl v2)]) rfl rfl rfl rfl ?_
      refine js_iinc (pc1 := 110) (L1 := [some (.inr (.inr (some 226))), some (.inl x1), some (.inl x2), none, none, none, some (.inr (.inl (x6 ||| (zlsl (Int64.ofNat 1) v4)))), none, some (.inl x8), some (.inl (x9 + 1)), some (.inl v2)]) rfl rfl rfl rfl ?_
      refine js_goto (t1 := 66) rfl rfl ?_
      exact zG_to (L := [some (.inr (.inr (some 226))), some (.inl x1), some (.inl x2), none, none, none, some (.inr (.inl (x6 ||| (zlsl (Int64.ofNat 1) v4)))), none, some (.inl x8), some (.inl (zw (x9 + 1))), none]) (S := []) ⟨rfl, ⟨rfl, ⟨rfl, ⟨rfl, ⟨rfl, ⟨zval_w (x9 + 1), trivial⟩⟩⟩⟩⟩⟩ (rfl) (hr66 x1 hx1 x2 hx2 (x6 ||| (zlsl (Int64.ofNat 1) v4)) x8 hx8 (zw (x9 + 1)) (zw_rg (x9 + 1)) A)
    · refine js_lload (pc1 := 105) rfl rfl rfl ?_
      refine js_lstore (pc1 := 107) (L1 := [some (.inr (.inr (some 226))), some (.inl x1), some (.inl x2), none, none, none, some (.inr (.inl x6)), none, some (.inl x8), some (.inl x9), some (.inl v2)]) rfl rfl rfl rfl ?_
      refine js_iinc (pc1 := 110) (L1 := [some (.inr (.inr (some 226))), some (.inl x1), some (.inl x2), none, none, none, some (.inr (.inl x6)), none, some (.inl x8), some (.inl (x9 + 1)), some (.inl v2)]) rfl rfl rfl rfl ?_
      refine js_goto (t1 := 66) rfl rfl ?_
      exact zG_to (L := [some (.inr (.inr (some 226))), some (.inl x1), some (.inl x2), none, none, none, some (.inr (.inl x6)), none, some (.inl x8), some (.inl (zw (x9 + 1))), none]) (S := []) ⟨rfl, ⟨rfl, ⟨rfl, ⟨rfl, ⟨rfl, ⟨zval_w (x9 + 1), trivial⟩⟩⟩⟩⟩⟩ (rfl) (hr66 x1 hx1 x2 hx2 x6 x8 hx8 (zw (x9 + 1)) (zw_rg (x9 + 1)) A)
  · exact zG_to (L := [none, none, none, none, none, none, some (.inr (.inl x6)), none, some (.inl x8), none, none]) (S := []) ⟨rfl, ⟨rfl, trivial⟩⟩ (rfl) (z_M_ahead_113_ok N hd hw x6 x8 hx8 A)
theorem z_M_ahead_66_lok{d w : Nat} (N : Nat) (hd : 4 ≤ d) (hw : 92 ≤ w) (n : Nat) : ∀ (x1 : Int) (hx1 : zrg x1) (x2 : Int) (hx2 : zrg x2) (x6 : Int64) (x8 : Int) (hx8 : zrg x8) (x9 : Int) (hx9 : zrg x9) (A : zA), zG (z_M_ahead_66_l N n x1 x2 x6 x8 x9 A) (zPJ A) d w 101 66 [some (.inr (.inr (some 226))), some (.inl x1), some (.inl x2), none, none, none, some (.inr (.inl x6)), none, some (.inl x8), some (.inl x9), none] [] A := by
  induction n with
  | zero => intros; exact zG_none
  | succ n ih =>
    intro x1 hx1 x2 hx2 x6 x8 hx8 x9 hx9 A
    exact z_M_ahead_66_bok ih N hd hw x1 hx1 x2 hx2 x6 x8 hx8 x9 hx9 A
theorem z_M_ahead_66_ok{d w : Nat} (N : Nat) (hd : 4 ≤ d) (hw : 92 ≤ w) (x1 : Int) (hx1 : zrg x1) (x2 : Int) (hx2 : zrg x2) (x6 : Int64) (x8 : Int) (hx8 : zrg x8) (x9 : Int) (hx9 : zrg x9) (A : zA) : zG (z_M_ahead_66 N x1 x2 x6 x8 x9 A) (zPJ A) d w 101 66 [some (.inr (.inr (some 226))), some (.inl x1), some (.inl x2), none, none, none, some (.inr (.inl x6)), none, some (.inl x8), some (.inl x9), none] [] A := z_M_ahead_66_lok N hd hw N x1 hx1 x2 hx2 x6 x8 hx8 x9 hx9 A
theorem z_M_ahead_51_ok{d w : Nat} (N : Nat) (hd : 4 ≤ d) (hw : 92 ≤ w) (x1 : Int) (hx1 : zrg x1) (x2 : Int) (hx2 : zrg x2) (s0 : Int64) (A : zA) : zG (z_M_ahead_51 N x1 x2 s0 A) (zPJ A) d w 101 51 [some (.inr (.inr (some 226))), some (.inl x1), some (.inl x2), none, none, none, none, none, none, none, none] [(.inr (.inl s0))] A := by
  unfold z_M_ahead_51
  refine js_lstore (pc1 := 53) (L1 := [some (.inr (.inr (some 226))), some (.inl x1), some (.inl x2), none, none, none, some (.inr (.inl s0)), none, none, none, none]) rfl rfl rfl rfl ?_
  refine js_aload (pc1 := 54) rfl rfl rfl ?_
  refine js_iconst (pc1 := 55) rfl rfl ?_
  refine js_iload (pc1 := 56) rfl rfl rfl ?_
  refine js_iload (pc1 := 57) rfl rfl rfl ?_
  refine js_iconst (pc1 := 58) rfl rfl ?_
  refine js_cP (pc1 := 61) (as := [(.inr (.inr (some 226))), (.inl 0), (.inl x1), (.inl x2), (.inl 0)]) (S0 := []) (m := 5) (L0 := [some (.inr (.inr (some 226))), some (.inl 0), some (.inl x1), some (.inl x2), some (.inl 0)]) rfl rfl rfl rfl rfl rfl rfl rfl (zrc_o rfl rfl) (by omega) (by omega) (z_M_field_ok N (by omega) (by omega) 0 (zlit rfl) x1 hx1 x2 hx2 0 (zlit rfl) A) (fun v1 _ hv1 => ?_)
  refine js_istore (pc1 := 63) (L1 := [some (.inr (.inr (some 226))), some (.inl x1), some (.inl x2), none, none, none, some (.inr (.inl s0)), none, some (.inl v1), none, none]) rfl rfl rfl rfl ?_
  refine js_iconst (pc1 := 64) rfl rfl ?_
  refine js_istore (pc1 := 66) (L1 := [some (.inr (.inr (some 226))), some (.inl x1), some (.inl x2), none, none, none, some (.inr (.inl s0)), none, some (.inl v1), some (.inl 0), none]) rfl rfl rfl rfl ?_
  exact z_M_ahead_66_ok N hd hw x1 hx1 x2 hx2 s0 v1 hv1 0 (zlit rfl) A
theorem z_M_ahead_32_ok{d w : Nat} (N : Nat) (hd : 4 ≤ d) (hw : 92 ≤ w) (x1 : Int) (hx1 : zrg x1) (x2 : Int) (hx2 : zrg x2) (x3 : Int64) (x5 : Int) (hx5 : zrg x5) (A : zA) : zG (z_M_ahead_32 N x1 x2 x3 x5 A) (zPJ A) d w 101 32 [some (.inr (.inr (some 226))), some (.inl x1), some (.inl x2), some (.inr (.inl x3)), none, some (.inl x5), none, none, none, none, none] [] A := by
  unfold z_M_ahead_32
  refine js_iload (pc1 := 34) rfl rfl rfl ?_
  refine ju_ge (pc1 := 37) (t1 := 41) hx5 rfl rfl rfl (fun c1 => ?_) (fun c1 => ?_)
  · refine js_lload (pc1 := 38) rfl rfl rfl ?_
    refine js_goto (t1 := 51) rfl rfl ?_
    exact zG_to (L := [some (.inr (.inr (some 226))), some (.inl x1), some (.inl x2), none, none, none, none, none, none, none, none]) (S := [(.inr (.inl x3))]) ⟨rfl, ⟨rfl, ⟨rfl, trivial⟩⟩⟩ (rfl) (z_M_ahead_51_ok N hd hw x1 hx1 x2 hx2 x3 A)
  · refine js_lload (pc1 := 42) rfl rfl rfl ?_
    refine js_ldc2 (pc1 := 43) rfl rfl ?_
    refine js_iload (pc1 := 45) rfl rfl rfl ?_
    refine js_lshl (pc1 := 46) rfl rfl ?_
    refine js_ldc2 (pc1 := 49) rfl rfl ?_
    refine js_lxor (pc1 := 50) rfl rfl ?_
    refine js_land (pc1 := 51) rfl rfl ?_
    exact zG_to (L := [some (.inr (.inr (some 226))), some (.inl x1), some (.inl x2), none, none, none, none, none, none, none, none]) (S := [(.inr (.inl (x3 &&& ((zlsl (Int64.ofNat 1) x5) ^^^ (Int64.ofNat 18446744073709551615)))))]) ⟨rfl, ⟨rfl, ⟨rfl, trivial⟩⟩⟩ (rfl) (z_M_ahead_51_ok N hd hw x1 hx1 x2 hx2 (x3 &&& ((zlsl (Int64.ofNat 1) x5) ^^^ (Int64.ofNat 18446744073709551615))) A)
theorem z_M_ahead_ok{d w : Nat} (N : Nat) (hd : 4 ≤ d) (hw : 92 ≤ w) (x1 : Int) (hx1 : zrg x1) (x2 : Int) (hx2 : zrg x2) (x3 : Int64) (A : zA) : zG (z_M_ahead N x1 x2 x3 A) (zPJ A) d w 101 0 [some (.inr (.inr (some 226))), some (.inl x1), some (.inl x2), some (.inr (.inl x3)), none, none, none, none, none, none, none] [] A := by
  unfold z_M_ahead
  refine js_aload (pc1 := 1) rfl rfl rfl ?_
  refine js_iconst (pc1 := 2) rfl rfl ?_
  refine js_iload (pc1 := 3) rfl rfl rfl ?_
  refine js_iload (pc1 := 4) rfl rfl rfl ?_
  refine js_cP (pc1 := 7) (as := [(.inr (.inr (some 226))), (.inl 0), (.inl x1), (.inl x2)]) (S0 := []) (m := 5) (L0 := [some (.inr (.inr (some 226))), some (.inl 0), some (.inl x1), some (.inl x2), none]) rfl rfl rfl rfl rfl rfl rfl rfl (zrc_o rfl rfl) (by omega) (by omega) (z_M_writes_ok N (by omega) (by omega) 0 (zlit rfl) x1 hx1 x2 hx2 A) (fun v1 _ hv1 => ?_)
  refine js_istore (pc1 := 9) (L1 := [some (.inr (.inr (some 226))), some (.inl x1), some (.inl x2), some (.inr (.inl x3)), none, some (.inl v1), none, none, none, none, none]) rfl rfl rfl rfl ?_
  refine js_aload (pc1 := 10) rfl rfl rfl ?_
  refine js_iconst (pc1 := 11) rfl rfl ?_
  refine js_iload (pc1 := 12) rfl rfl rfl ?_
  refine js_iload (pc1 := 13) rfl rfl rfl ?_
  refine js_cP (pc1 := 16) (as := [(.inr (.inr (some 226))), (.inl 0), (.inl x1), (.inl x2)]) (S0 := []) (m := 4) (L0 := [some (.inr (.inr (some 226))), some (.inl 0), some (.inl x1), some (.inl x2)]) rfl rfl rfl rfl rfl rfl rfl rfl (zrc_o rfl rfl) (by omega) (by omega) (z_M_isPlain_ok N (by omega) (by omega) 0 (zlit rfl) x1 hx1 x2 hx2 A) (fun v2 _ hv2 => ?_)
  refine ju_eq (pc1 := 19) (t1 := 32) hv2 rfl rfl rfl (fun c3 => ?_) (fun c3 => ?_)
  · exact z_M_ahead_32_ok N hd hw x1 hx1 x2 hx2 x3 v1 hv1 A
  · refine js_lload (pc1 := 20) rfl rfl rfl ?_
    refine js_iload (pc1 := 22) rfl rfl rfl ?_
    refine js_lshr (pc1 := 23) rfl rfl ?_
    refine js_ldc2 (pc1 := 24) rfl rfl ?_
    refine js_land (pc1 := 25) rfl rfl ?_
    refine js_ldc2 (pc1 := 26) rfl rfl ?_
    refine js_lcmp (pc1 := 27) rfl rfl ?_
    refine ju_ne (pc1 := 30) (t1 := 32) (zt_rg _) rfl rfl rfl (fun c4 => ?_) (fun c4 => ?_)
    · refine js_lload (pc1 := 31) rfl rfl rfl ?_
      exact je_J rfl
    · exact z_M_ahead_32_ok N hd hw x1 hx1 x2 hx2 x3 v1 hv1 A
theorem z_M_dead_106_ok{d w : Nat} {r57 : Int → Int → Int → zA → Option zA} (hr57 : ∀ (x1 : Int) (hx1 : zrg x1) (x2 : Int) (hx2 : zrg x2) (x3 : Int) (hx3 : zrg x3) (A : zA), zG (r57 x1 x2 x3 A) zPV d w 53 57 [some (.inr (.inr (some 226))), some (.inl x1), some (.inl x2), some (.inl x3), none, none, none] [] A) {r68 : Int → Int → Int → Int → zA → Option zA} (hr68 : ∀ (x1 : Int) (hx1 : zrg x1) (x2 : Int) (hx2 : zrg x2) (x3 : Int) (hx3 : zrg x3) (x4 : Int) (hx4 : zrg x4) (A : zA), zG (r68 x1 x2 x3 x4 A) zPV d w 53 68 [some (.inr (.inr (some 226))), some (.inl x1), some (.inl x2), some (.inl x3), some (.inl x4), none, none] [] A) (N : Nat) (hd : 5 ≤ d) (hw : 122 ≤ w) (x1 : Int) (hx1 : zrg x1) (x2 : Int) (hx2 : zrg x2) (x4 : Int) (hx4 : zrg x4) (x5 : Int64) (A : zA) : zG (z_M_dead_106 r57 r68 N x1 x2 x4 x5 A) zPV d w 53 106 [some (.inr (.inr (some 226))), some (.inl x1), some (.inl x2), none, some (.inl x4), some (.inr (.inl x5)), none] [] A := by
  unfold z_M_dead_106
  refine js_iconst (pc1 := 107) rfl rfl ?_
  refine js_goto (t1 := 111) rfl rfl ?_
  refine js_istore (pc1 := 112) (L1 := [some (.inr (.inr (some 226))), some (.inl x1), some (.inl x2), some (.inl 1), some (.inl x4), some (.inr (.inl x5)), none]) rfl rfl rfl rfl ?_
  refine js_aload (pc1 := 113) rfl rfl rfl ?_
  refine js_gfr (pc1 := 116) (j := 40) (r := 250) rfl rfl rfl rfl rfl ?_
  refine js_iload (pc1 := 118) rfl rfl rfl ?_
  refine js_lload (pc1 := 120) rfl rfl rfl ?_
  refine jt_las (pc1 := 121) rfl rfl rfl rfl (fun A1 => ?_)
  refine js_iinc (pc1 := 124) (L1 := [some (.inr (.inr (some 226))), some (.inl x1), some (.inl x2), some (.inl 1), some (.inl (x4 + (-1))), some (.inr (.inl x5)), none]) rfl rfl rfl rfl ?_
  refine js_goto (t1 := 68) rfl rfl ?_
  exact zG_to (L := [some (.inr (.inr (some 226))), some (.inl x1), some (.inl x2), some (.inl 1), some (.inl (zw (x4 + (-1)))), none, none]) (S := []) ⟨rfl, ⟨rfl, ⟨rfl, ⟨rfl, ⟨zval_w (x4 + (-1)), trivial⟩⟩⟩⟩⟩ (rfl) (hr68 x1 hx1 x2 hx2 1 (zlit rfl) (zw (x4 + (-1))) (zw_rg (x4 + (-1))) A1)
theorem z_M_dead_68_bok{d w : Nat} {r57 : Int → Int → Int → zA → Option zA} (hr57 : ∀ (x1 : Int) (hx1 : zrg x1) (x2 : Int) (hx2 : zrg x2) (x3 : Int) (hx3 : zrg x3) (A : zA), zG (r57 x1 x2 x3 A) zPV d w 53 57 [some (.inr (.inr (some 226))), some (.inl x1), some (.inl x2), some (.inl x3), none, none, none] [] A) {r68 : Int → Int → Int → Int → zA → Option zA} (hr68 : ∀ (x1 : Int) (hx1 : zrg x1) (x2 : Int) (hx2 : zrg x2) (x3 : Int) (hx3 : zrg x3) (x4 : Int) (hx4 : zrg x4) (A : zA), zG (r68 x1 x2 x3 x4 A) zPV d w 53 68 [some (.inr (.inr (some 226))), some (.inl x1), some (.inl x2), some (.inl x3), some (.inl x4), none, none] [] A) (N : Nat) (hd : 5 ≤ d) (hw : 122 ≤ w) (x1 : Int) (hx1 : zrg x1) (x2 : Int) (hx2 : zrg x2) (x3 : Int) (hx3 : zrg x3) (x4 : Int) (hx4 : zrg x4) (A : zA) : zG (z_M_dead_68_b r57 r68 N x1 x2 x3 x4 A) zPV d w 53 68 [some (.inr (.inr (some 226))), some (.inl x1), some (.inl x2), some (.inl x3), some (.inl x4), none, none] [] A := by
  unfold z_M_dead_68_b
  refine js_iload (pc1 := 70) rfl rfl rfl ?_
  refine ju_lt (pc1 := 73) (t1 := 127) hx4 rfl rfl rfl (fun c1 => ?_) (fun c1 => ?_)
  · refine js_goto (t1 := 57) rfl rfl ?_
    exact zG_to (L := [some (.inr (.inr (some 226))), some (.inl x1), some (.inl x2), some (.inl x3), none, none, none]) (S := []) ⟨rfl, ⟨rfl, ⟨rfl, ⟨rfl, trivial⟩⟩⟩⟩ (rfl) (hr57 x1 hx1 x2 hx2 x3 hx3 A)
  · refine js_aload (pc1 := 74) rfl rfl rfl ?_
    refine js_iload (pc1 := 75) rfl rfl rfl ?_
    refine js_iload (pc1 := 77) rfl rfl rfl ?_
    refine js_aload (pc1 := 78) rfl rfl rfl ?_
    refine js_iload (pc1 := 79) rfl rfl rfl ?_
    refine js_iload (pc1 := 81) rfl rfl rfl ?_
    refine js_cJ (pc1 := 84) (as := [(.inr (.inr (some 226))), (.inl x1), (.inl x4)]) (S0 := [(.inl x4), (.inl x1), (.inr (.inr (some 226)))]) (m := 5) (L0 := [some (.inr (.inr (some 226))), some (.inl x1), some (.inl x4), none, none]) rfl rfl rfl rfl rfl rfl rfl rfl (zrc_o rfl rfl) (by omega) (by omega) (z_M_follows_ok N (by omega) (by omega) x1 hx1 x4 hx4 A) (fun v2 _ => ?_)
    refine js_cJ (pc1 := 87) (as := [(.inr (.inr (some 226))), (.inl x1), (.inl x4), (.inr (.inl v2))]) (S0 := []) (m := 11) (L0 := [some (.inr (.inr (some 226))), some (.inl x1), some (.inl x4), some (.inr (.inl v2)), none, none, none, none, none, none, none]) rfl rfl rfl rfl rfl rfl rfl rfl (zrc_o rfl rfl) (by omega) (by omega) (z_M_ahead_ok N (by omega) (by omega) x1 hx1 x4 hx4 v2 A) (fun v3 _ => ?_)
    refine js_lstore (pc1 := 89) (L1 := [some (.inr (.inr (some 226))), some (.inl x1), some (.inl x2), some (.inl x3), some (.inl x4), some (.inr (.inl v3)), none]) rfl rfl rfl rfl ?_
    refine js_iload (pc1 := 90) rfl rfl rfl ?_
    refine ju_ne (pc1 := 93) (t1 := 106) hx3 rfl rfl rfl (fun c4 => ?_) (fun c4 => ?_)
    · refine js_lload (pc1 := 95) rfl rfl rfl ?_
      refine js_aload (pc1 := 96) rfl rfl rfl ?_
      refine js_gfr (pc1 := 99) (j := 40) (r := 250) rfl rfl rfl rfl rfl ?_
      refine js_iload (pc1 := 101) rfl rfl rfl ?_
      refine jt_lald (pc1 := 102) rfl rfl rfl (fun v5 => ?_)
      refine js_lcmp (pc1 := 103) rfl rfl ?_
      refine ju_eq (pc1 := 106) (t1 := 110) (zt_rg _) rfl rfl rfl (fun c6 => ?_) (fun c6 => ?_)
      · refine js_iconst (pc1 := 111) rfl rfl ?_
        refine js_istore (pc1 := 112) (L1 := [some (.inr (.inr (some 226))), some (.inl x1), some (.inl x2), some (.inl 0), some (.inl x4), some (.inr (.inl v3)), none]) rfl rfl rfl rfl ?_
        refine js_aload (pc1 := 113) rfl rfl rfl ?_
        refine js_gfr (pc1 := 116) (j := 40) (r := 250) rfl rfl rfl rfl rfl ?_
        refine js_iload (pc1 := 118) rfl rfl rfl ?_
        refine js_lload (pc1 := 120) rfl rfl rfl ?_
        refine jt_las (pc1 := 121) rfl rfl rfl rfl (fun A7 => ?_)
        refine js_iinc (pc1 := 124) (L1 := [some (.inr (.inr (some 226))), some (.inl x1), some (.inl x2), some (.inl 0), some (.inl (x4 + (-1))), some (.inr (.inl v3)), none]) rfl rfl rfl rfl ?_
        refine js_goto (t1 := 68) rfl rfl ?_
        exact zG_to (L := [some (.inr (.inr (some 226))), some (.inl x1), some (.inl x2), some (.inl 0), some (.inl (zw (x4 + (-1)))), none, none]) (S := []) ⟨rfl, ⟨rfl, ⟨rfl, ⟨rfl, ⟨zval_w (x4 + (-1)), trivial⟩⟩⟩⟩⟩ (rfl) (hr68 x1 hx1 x2 hx2 0 (zlit rfl) (zw (x4 + (-1))) (zw_rg (x4 + (-1))) A7)
      · exact zG_to (L := [some (.inr (.inr (some 226))), some (.inl x1), some (.inl x2), none, some (.inl x4), some (.inr (.inl v3)), none]) (S := []) ⟨rfl, ⟨rfl, ⟨rfl, ⟨rfl, ⟨rfl, trivial⟩⟩⟩⟩⟩ (rfl) (z_M_dead_106_ok hr57 hr68 N hd hw x1 hx1 x2 hx2 x4 hx4 v3 A)
    · exact zG_to (L := [some (.inr (.inr (some 226))), some (.inl x1), some (.inl x2), none, some (.inl x4), some (.inr (.inl v3)), none]) (S := []) ⟨rfl, ⟨rfl, ⟨rfl, ⟨rfl, ⟨rfl, trivial⟩⟩⟩⟩⟩ (rfl) (z_M_dead_106_ok hr57 hr68 N hd hw x1 hx1 x2 hx2 x4 hx4 v3 A)
theorem z_M_dead_68_lok{d w : Nat} {r57 : Int → Int → Int → zA → Option zA} (hr57 : ∀ (x1 : Int) (hx1 : zrg x1) (x2 : Int) (hx2 : zrg x2) (x3 : Int) (hx3 : zrg x3) (A : zA), zG (r57 x1 x2 x3 A) zPV d w 53 57 [some (.inr (.inr (some 226))), some (.inl x1), some (.inl x2), some (.inl x3), none, none, none] [] A) (N : Nat) (hd : 5 ≤ d) (hw : 122 ≤ w) (n : Nat) : ∀ (x1 : Int) (hx1 : zrg x1) (x2 : Int) (hx2 : zrg x2) (x3 : Int) (hx3 : zrg x3) (x4 : Int) (hx4 : zrg x4) (A : zA), zG (z_M_dead_68_l r57 N n x1 x2 x3 x4 A) zPV d w 53 68 [some (.inr (.inr (some 226))), some (.inl x1), some (.inl x2), some (.inl x3), some (.inl x4), none, none] [] A := by
  induction n with
  | zero => intros; exact zG_none
  | succ n ih =>
    intro x1 hx1 x2 hx2 x3 hx3 x4 hx4 A
    exact z_M_dead_68_bok hr57 ih N hd hw x1 hx1 x2 hx2 x3 hx3 x4 hx4 A
theorem z_M_dead_68_ok{d w : Nat} {r57 : Int → Int → Int → zA → Option zA} (hr57 : ∀ (x1 : Int) (hx1 : zrg x1) (x2 : Int) (hx2 : zrg x2) (x3 : Int) (hx3 : zrg x3) (A : zA), zG (r57 x1 x2 x3 A) zPV d w 53 57 [some (.inr (.inr (some 226))), some (.inl x1), some (.inl x2), some (.inl x3), none, none, none] [] A) (N : Nat) (hd : 5 ≤ d) (hw : 122 ≤ w) (x1 : Int) (hx1 : zrg x1) (x2 : Int) (hx2 : zrg x2) (x3 : Int) (hx3 : zrg x3) (x4 : Int) (hx4 : zrg x4) (A : zA) : zG (z_M_dead_68 r57 N x1 x2 x3 x4 A) zPV d w 53 68 [some (.inr (.inr (some 226))), some (.inl x1), some (.inl x2), some (.inl x3), some (.inl x4), none, none] [] A := z_M_dead_68_lok hr57 N hd hw N x1 hx1 x2 hx2 x3 hx3 x4 hx4 A
theorem z_M_dead_197_ok{d w : Nat} {r144 : Int → Int → Int → zA → Option zA} (hr144 : ∀ (x1 : Int) (hx1 : zrg x1) (x2 : Int) (hx2 : zrg x2) (x4 : Int) (hx4 : zrg x4) (A : zA), zG (r144 x1 x2 x4 A) zPV d w 53 144 [some (.inr (.inr (some 226))), some (.inl x1), some (.inl x2), none, some (.inl x4), none, none] [] A) (N : Nat) (hd : 5 ≤ d) (hw : 122 ≤ w) (x1 : Int) (hx1 : zrg x1) (x2 : Int) (hx2 : zrg x2) (x4 : Int) (hx4 : zrg x4) (A : zA) : zG (z_M_dead_197 r144 N x1 x2 x4 A) zPV d w 53 197 [some (.inr (.inr (some 226))), some (.inl x1), some (.inl x2), none, some (.inl x4), none, none] [] A := by
  unfold z_M_dead_197
  refine js_aload (pc1 := 198) rfl rfl rfl ?_
  refine js_iload (pc1 := 199) rfl rfl rfl ?_
  refine js_iload (pc1 := 201) rfl rfl rfl ?_
  refine js_cV (pc1 := 204) (as := [(.inr (.inr (some 226))), (.inl x1), (.inl x4)]) (S0 := []) (m := 3) (L0 := [some (.inr (.inr (some 226))), some (.inl x1), some (.inl x4)]) rfl rfl rfl rfl rfl rfl rfl rfl (zrc_o rfl rfl) (by omega) (by omega) (z_M_keep_ok N (by omega) (by omega) x1 hx1 x4 hx4 A) (fun A1 _ => ?_)
  refine js_iinc (pc1 := 207) (L1 := [some (.inr (.inr (some 226))), some (.inl x1), some (.inl x2), none, some (.inl (x4 + 1)), none, none]) rfl rfl rfl rfl ?_
  refine js_goto (t1 := 144) rfl rfl ?_
  exact zG_to (L := [some (.inr (.inr (some 226))), some (.inl x1), some (.inl x2), none, some (.inl (zw (x4 + 1))), none, none]) (S := []) ⟨rfl, ⟨rfl, ⟨rfl, ⟨zval_w (x4 + 1), trivial⟩⟩⟩⟩ (rfl) (hr144 x1 hx1 x2 hx2 (zw (x4 + 1)) (zw_rg (x4 + 1)) A1)
theorem z_M_dead_144_bok{d w : Nat} {r144 : Int → Int → Int → zA → Option zA} (hr144 : ∀ (x1 : Int) (hx1 : zrg x1) (x2 : Int) (hx2 : zrg x2) (x4 : Int) (hx4 : zrg x4) (A : zA), zG (r144 x1 x2 x4 A) zPV d w 53 144 [some (.inr (.inr (some 226))), some (.inl x1), some (.inl x2), none, some (.inl x4), none, none] [] A) (N : Nat) (hd : 5 ≤ d) (hw : 122 ≤ w) (x1 : Int) (hx1 : zrg x1) (x2 : Int) (hx2 : zrg x2) (x4 : Int) (hx4 : zrg x4) (A : zA) : zG (z_M_dead_144_b r144 N x1 x2 x4 A) zPV d w 53 144 [some (.inr (.inr (some 226))), some (.inl x1), some (.inl x2), none, some (.inl x4), none, none] [] A := by
  unfold z_M_dead_144_b
  refine js_iload (pc1 := 146) rfl rfl rfl ?_
  refine js_iload (pc1 := 147) rfl rfl rfl ?_
  refine jt_ge (pc1 := 150) (t1 := 210) hx4 hx2 rfl rfl rfl (fun c1 => ?_) (fun c1 => ?_)
  · refine js_aload (pc1 := 151) rfl rfl rfl ?_
    refine js_iconst (pc1 := 152) rfl rfl ?_
    refine js_iload (pc1 := 153) rfl rfl rfl ?_
    refine js_iload (pc1 := 155) rfl rfl rfl ?_
    refine js_cP (pc1 := 158) (as := [(.inr (.inr (some 226))), (.inl 0), (.inl x1), (.inl x4)]) (S0 := []) (m := 4) (L0 := [some (.inr (.inr (some 226))), some (.inl 0), some (.inl x1), some (.inl x4)]) rfl rfl rfl rfl rfl rfl rfl rfl (zrc_o rfl rfl) (by omega) (by omega) (z_M_isPlain_ok N (by omega) (by omega) 0 (zlit rfl) x1 hx1 x4 hx4 A) (fun v2 _ hv2 => ?_)
    refine ju_eq (pc1 := 161) (t1 := 197) hv2 rfl rfl rfl (fun c3 => ?_) (fun c3 => ?_)
    · exact z_M_dead_197_ok hr144 N hd hw x1 hx1 x2 hx2 x4 hx4 A
    · refine js_aload (pc1 := 162) rfl rfl rfl ?_
      refine js_iload (pc1 := 163) rfl rfl rfl ?_
      refine js_iload (pc1 := 165) rfl rfl rfl ?_
      refine js_cJ (pc1 := 168) (as := [(.inr (.inr (some 226))), (.inl x1), (.inl x4)]) (S0 := []) (m := 5) (L0 := [some (.inr (.inr (some 226))), some (.inl x1), some (.inl x4), none, none]) rfl rfl rfl rfl rfl rfl rfl rfl (zrc_o rfl rfl) (by omega) (by omega) (z_M_follows_ok N (by omega) (by omega) x1 hx1 x4 hx4 A) (fun v4 _ => ?_)
      refine js_aload (pc1 := 169) rfl rfl rfl ?_
      refine js_iconst (pc1 := 170) rfl rfl ?_
      refine js_iload (pc1 := 171) rfl rfl rfl ?_
      refine js_iload (pc1 := 173) rfl rfl rfl ?_
      refine js_cP (pc1 := 176) (as := [(.inr (.inr (some 226))), (.inl 0), (.inl x1), (.inl x4)]) (S0 := [(.inr (.inl v4))]) (m := 5) (L0 := [some (.inr (.inr (some 226))), some (.inl 0), some (.inl x1), some (.inl x4), none]) rfl rfl rfl rfl rfl rfl rfl rfl (zrc_o rfl rfl) (by omega) (by omega) (z_M_writes_ok N (by omega) (by omega) 0 (zlit rfl) x1 hx1 x4 hx4 A) (fun v5 _ hv5 => ?_)
      refine js_lshr (pc1 := 177) rfl rfl ?_
      refine js_ldc2 (pc1 := 178) rfl rfl ?_
      refine js_land (pc1 := 179) rfl rfl ?_
      refine js_ldc2 (pc1 := 180) rfl rfl ?_
      refine js_lcmp (pc1 := 181) rfl rfl ?_
      refine ju_ne (pc1 := 184) (t1 := 197) (zt_rg _) rfl rfl rfl (fun c6 => ?_) (fun c6 => ?_)
      · refine js_aload (pc1 := 185) rfl rfl rfl ?_
        refine js_dupR (pc1 := 186) rfl rfl ?_
        refine js_gi (pc1 := 189) (j := 33) rfl rfl rfl rfl ?_
        refine js_iconst (pc1 := 190) rfl rfl ?_
        refine js_iadd (pc1 := 191) rfl rfl ?_
        refine jt_pi (pc1 := 194) (j := 33) rfl rfl rfl rfl rfl (fun A7 => ?_)
        refine js_goto (t1 := 204) rfl rfl ?_
        refine js_iinc (pc1 := 207) (L1 := [some (.inr (.inr (some 226))), some (.inl x1), some (.inl x2), none, some (.inl (x4 + 1)), none, none]) rfl rfl rfl rfl ?_
        refine js_goto (t1 := 144) rfl rfl ?_
        exact zG_to (L := [some (.inr (.inr (some 226))), some (.inl x1), some (.inl x2), none, some (.inl (zw (x4 + 1))), none, none]) (S := []) ⟨rfl, ⟨rfl, ⟨rfl, ⟨zval_w (x4 + 1), trivial⟩⟩⟩⟩ (rfl) (hr144 x1 hx1 x2 hx2 (zw (x4 + 1)) (zw_rg (x4 + 1)) A7)
      · exact z_M_dead_197_ok hr144 N hd hw x1 hx1 x2 hx2 x4 hx4 A
  · exact je_V rfl
theorem z_M_dead_144_lok{d w : Nat} (N : Nat) (hd : 5 ≤ d) (hw : 122 ≤ w) (n : Nat) : ∀ (x1 : Int) (hx1 : zrg x1) (x2 : Int) (hx2 : zrg x2) (x4 : Int) (hx4 : zrg x4) (A : zA), zG (z_M_dead_144_l N n x1 x2 x4 A) zPV d w 53 144 [some (.inr (.inr (some 226))), some (.inl x1), some (.inl x2), none, some (.inl x4), none, none] [] A := by
  induction n with
  | zero => intros; exact zG_none
  | succ n ih =>
    intro x1 hx1 x2 hx2 x4 hx4 A
    exact z_M_dead_144_bok ih N hd hw x1 hx1 x2 hx2 x4 hx4 A
theorem z_M_dead_144_ok{d w : Nat} (N : Nat) (hd : 5 ≤ d) (hw : 122 ≤ w) (x1 : Int) (hx1 : zrg x1) (x2 : Int) (hx2 : zrg x2) (x4 : Int) (hx4 : zrg x4) (A : zA) : zG (z_M_dead_144 N x1 x2 x4 A) zPV d w 53 144 [some (.inr (.inr (some 226))), some (.inl x1), some (.inl x2), none, some (.inl x4), none, none] [] A := z_M_dead_144_lok N hd hw N x1 hx1 x2 hx2 x4 hx4 A
theorem z_M_dead_130_ok{d w : Nat} (N : Nat) (hd : 5 ≤ d) (hw : 122 ≤ w) (x1 : Int) (hx1 : zrg x1) (x2 : Int) (hx2 : zrg x2) (A : zA) : zG (z_M_dead_130 N x1 x2 A) zPV d w 53 130 [some (.inr (.inr (some 226))), some (.inl x1), some (.inl x2), none, none, none, none] [] A := by
  unfold z_M_dead_130
  refine js_aload (pc1 := 131) rfl rfl rfl ?_
  refine js_gfr (pc1 := 134) (j := 4) (r := 229) rfl rfl rfl rfl rfl ?_
  refine js_iconst (pc1 := 135) rfl rfl ?_
  refine js_iload (pc1 := 136) rfl rfl rfl ?_
  refine js_cP (pc1 := 139) (as := [(.inl 1), (.inl x1)]) (S0 := [(.inr (.inr (some 229)))]) (m := 2) (L0 := [some (.inl 1), some (.inl x1)]) rfl rfl rfl rfl rfl rfl rfl rfl (zrc_s rfl) (by omega) (by omega) (z_M_row_ok N (by omega) (by omega) 1 (zlit rfl) x1 hx1 A) (fun v1 _ hv1 => ?_)
  refine js_iconst (pc1 := 140) rfl rfl ?_
  refine jt_ias (pc1 := 141) rfl rfl rfl rfl (fun A2 => ?_)
  refine js_iconst (pc1 := 142) rfl rfl ?_
  refine js_istore (pc1 := 144) (L1 := [some (.inr (.inr (some 226))), some (.inl x1), some (.inl x2), none, some (.inl 0), none, none]) rfl rfl rfl rfl ?_
  exact z_M_dead_144_ok N hd hw x1 hx1 x2 hx2 0 (zlit rfl) A2
theorem z_M_dead_57_bok{d w : Nat} {r57 : Int → Int → Int → zA → Option zA} (hr57 : ∀ (x1 : Int) (hx1 : zrg x1) (x2 : Int) (hx2 : zrg x2) (x3 : Int) (hx3 : zrg x3) (A : zA), zG (r57 x1 x2 x3 A) zPV d w 53 57 [some (.inr (.inr (some 226))), some (.inl x1), some (.inl x2), some (.inl x3), none, none, none] [] A) (N : Nat) (hd : 5 ≤ d) (hw : 122 ≤ w) (x1 : Int) (hx1 : zrg x1) (x2 : Int) (hx2 : zrg x2) (x3 : Int) (hx3 : zrg x3) (A : zA) : zG (z_M_dead_57_b r57 N x1 x2 x3 A) zPV d w 53 57 [some (.inr (.inr (some 226))), some (.inl x1), some (.inl x2), some (.inl x3), none, none, none] [] A := by
  unfold z_M_dead_57_b
  refine js_iload (pc1 := 58) rfl rfl rfl ?_
  refine ju_eq (pc1 := 61) (t1 := 130) hx3 rfl rfl rfl (fun c1 => ?_) (fun c1 => ?_)
  · exact zG_to (L := [some (.inr (.inr (some 226))), some (.inl x1), some (.inl x2), none, none, none, none]) (S := []) ⟨rfl, ⟨rfl, ⟨rfl, trivial⟩⟩⟩ (rfl) (z_M_dead_130_ok N hd hw x1 hx1 x2 hx2 A)
  · refine js_iconst (pc1 := 62) rfl rfl ?_
    refine js_istore (pc1 := 63) (L1 := [some (.inr (.inr (some 226))), some (.inl x1), some (.inl x2), some (.inl 0), none, none, none]) rfl rfl rfl rfl ?_
    refine js_iload (pc1 := 64) rfl rfl rfl ?_
    refine js_iconst (pc1 := 65) rfl rfl ?_
    refine js_isub (pc1 := 66) rfl rfl ?_
    refine zG_w1 ?_
    refine js_istore (pc1 := 68) (L1 := [some (.inr (.inr (some 226))), some (.inl x1), some (.inl x2), some (.inl 0), some (.inl (zw (x2 - 1))), none, none]) rfl rfl rfl rfl ?_
    exact z_M_dead_68_ok hr57 N hd hw x1 hx1 x2 hx2 0 (zlit rfl) (zw (x2 - 1)) (zw_rg (x2 - 1)) A
theorem z_M_dead_57_lok{d w : Nat} (N : Nat) (hd : 5 ≤ d) (hw : 122 ≤ w) (n : Nat) : ∀ (x1 : Int) (hx1 : zrg x1) (x2 : Int) (hx2 : zrg x2) (x3 : Int) (hx3 : zrg x3) (A : zA), zG (z_M_dead_57_l N n x1 x2 x3 A) zPV d w 53 57 [some (.inr (.inr (some 226))), some (.inl x1), some (.inl x2), some (.inl x3), none, none, none] [] A := by
  induction n with
  | zero => intros; exact zG_none
  | succ n ih =>
    intro x1 hx1 x2 hx2 x3 hx3 A
    exact z_M_dead_57_bok ih N hd hw x1 hx1 x2 hx2 x3 hx3 A
theorem z_M_dead_57_ok{d w : Nat} (N : Nat) (hd : 5 ≤ d) (hw : 122 ≤ w) (x1 : Int) (hx1 : zrg x1) (x2 : Int) (hx2 : zrg x2) (x3 : Int) (hx3 : zrg x3) (A : zA) : zG (z_M_dead_57 N x1 x2 x3 A) zPV d w 53 57 [some (.inr (.inr (some 226))), some (.inl x1), some (.inl x2), some (.inl x3), none, none, none] [] A := z_M_dead_57_lok N hd hw N x1 hx1 x2 hx2 x3 hx3 A
theorem z_M_dead_37_ok{d w : Nat} (N : Nat) (hd : 5 ≤ d) (hw : 122 ≤ w) (x1 : Int) (hx1 : zrg x1) (x2 : Int) (hx2 : zrg x2) (A : zA) : zG (z_M_dead_37 N x1 x2 A) zPV d w 53 37 [some (.inr (.inr (some 226))), some (.inl x1), some (.inl x2), none, none, none, none] [] A := by
  unfold z_M_dead_37
  refine js_aload (pc1 := 38) rfl rfl rfl ?_
  refine js_gfr (pc1 := 41) (j := 40) (r := 250) rfl rfl rfl rfl rfl ?_
  refine js_iload (pc1 := 42) rfl rfl rfl ?_
  refine js_iload (pc1 := 43) rfl rfl rfl ?_
  refine js_iconst (pc1 := 44) rfl rfl ?_
  refine jt_ne (pc1 := 47) (t1 := 51) hx1 (zlit rfl) rfl rfl rfl (fun c1 => ?_) (fun c1 => ?_)
  · refine js_ldc2 (pc1 := 48) rfl rfl ?_
    refine js_goto (t1 := 54) rfl rfl ?_
    refine jt_las (pc1 := 55) rfl rfl rfl rfl (fun A2 => ?_)
    refine js_iconst (pc1 := 56) rfl rfl ?_
    refine js_istore (pc1 := 57) (L1 := [some (.inr (.inr (some 226))), some (.inl x1), some (.inl x2), some (.inl 1), none, none, none]) rfl rfl rfl rfl ?_
    exact z_M_dead_57_ok N hd hw x1 hx1 x2 hx2 1 (zlit rfl) A2
  · refine js_ldc2 (pc1 := 54) rfl rfl ?_
    refine jt_las (pc1 := 55) rfl rfl rfl rfl (fun A3 => ?_)
    refine js_iconst (pc1 := 56) rfl rfl ?_
    refine js_istore (pc1 := 57) (L1 := [some (.inr (.inr (some 226))), some (.inl x1), some (.inl x2), some (.inl 1), none, none, none]) rfl rfl rfl rfl ?_
    exact z_M_dead_57_ok N hd hw x1 hx1 x2 hx2 1 (zlit rfl) A3
theorem z_M_dead_19_bok{d w : Nat} {r19 : Int → Int → Int → zA → Option zA} (hr19 : ∀ (x1 : Int) (hx1 : zrg x1) (x2 : Int) (hx2 : zrg x2) (x3 : Int) (hx3 : zrg x3) (A : zA), zG (r19 x1 x2 x3 A) zPV d w 53 19 [some (.inr (.inr (some 226))), some (.inl x1), some (.inl x2), some (.inl x3), none, none, none] [] A) (N : Nat) (hd : 5 ≤ d) (hw : 122 ≤ w) (x1 : Int) (hx1 : zrg x1) (x2 : Int) (hx2 : zrg x2) (x3 : Int) (hx3 : zrg x3) (A : zA) : zG (z_M_dead_19_b r19 N x1 x2 x3 A) zPV d w 53 19 [some (.inr (.inr (some 226))), some (.inl x1), some (.inl x2), some (.inl x3), none, none, none] [] A := by
  unfold z_M_dead_19_b
  refine js_iload (pc1 := 20) rfl rfl rfl ?_
  refine js_iload (pc1 := 21) rfl rfl rfl ?_
  refine jt_ge (pc1 := 24) (t1 := 37) hx3 hx2 rfl rfl rfl (fun c1 => ?_) (fun c1 => ?_)
  · refine js_aload (pc1 := 25) rfl rfl rfl ?_
    refine js_gfr (pc1 := 28) (j := 40) (r := 250) rfl rfl rfl rfl rfl ?_
    refine js_iload (pc1 := 29) rfl rfl rfl ?_
    refine js_ldc2 (pc1 := 30) rfl rfl ?_
    refine jt_las (pc1 := 31) rfl rfl rfl rfl (fun A2 => ?_)
    refine js_iinc (pc1 := 34) (L1 := [some (.inr (.inr (some 226))), some (.inl x1), some (.inl x2), some (.inl (x3 + 1)), none, none, none]) rfl rfl rfl rfl ?_
    refine js_goto (t1 := 19) rfl rfl ?_
    exact zG_to (L := [some (.inr (.inr (some 226))), some (.inl x1), some (.inl x2), some (.inl (zw (x3 + 1))), none, none, none]) (S := []) ⟨rfl, ⟨rfl, ⟨rfl, ⟨zval_w (x3 + 1), trivial⟩⟩⟩⟩ (rfl) (hr19 x1 hx1 x2 hx2 (zw (x3 + 1)) (zw_rg (x3 + 1)) A2)
  · exact zG_to (L := [some (.inr (.inr (some 226))), some (.inl x1), some (.inl x2), none, none, none, none]) (S := []) ⟨rfl, ⟨rfl, ⟨rfl, trivial⟩⟩⟩ (rfl) (z_M_dead_37_ok N hd hw x1 hx1 x2 hx2 A)
theorem z_M_dead_19_lok{d w : Nat} (N : Nat) (hd : 5 ≤ d) (hw : 122 ≤ w) (n : Nat) : ∀ (x1 : Int) (hx1 : zrg x1) (x2 : Int) (hx2 : zrg x2) (x3 : Int) (hx3 : zrg x3) (A : zA), zG (z_M_dead_19_l N n x1 x2 x3 A) zPV d w 53 19 [some (.inr (.inr (some 226))), some (.inl x1), some (.inl x2), some (.inl x3), none, none, none] [] A := by
  induction n with
  | zero => intros; exact zG_none
  | succ n ih =>
    intro x1 hx1 x2 hx2 x3 hx3 A
    exact z_M_dead_19_bok ih N hd hw x1 hx1 x2 hx2 x3 hx3 A
theorem z_M_dead_19_ok{d w : Nat} (N : Nat) (hd : 5 ≤ d) (hw : 122 ≤ w) (x1 : Int) (hx1 : zrg x1) (x2 : Int) (hx2 : zrg x2) (x3 : Int) (hx3 : zrg x3) (A : zA) : zG (z_M_dead_19 N x1 x2 x3 A) zPV d w 53 19 [some (.inr (.inr (some 226))), some (.inl x1), some (.inl x2), some (.inl x3), none, none, none] [] A := z_M_dead_19_lok N hd hw N x1 hx1 x2 hx2 x3 hx3 A
theorem z_M_dead_ok{d w : Nat} (N : Nat) (hd : 5 ≤ d) (hw : 122 ≤ w) (x1 : Int) (hx1 : zrg x1) (A : zA) : zG (z_M_dead N x1 A) zPV d w 53 0 [some (.inr (.inr (some 226))), some (.inl x1), none, none, none, none, none] [] A := by
  unfold z_M_dead
  refine js_aload (pc1 := 1) rfl rfl rfl ?_
  refine js_iconst (pc1 := 2) rfl rfl ?_
  refine js_iload (pc1 := 3) rfl rfl rfl ?_
  refine js_cV (pc1 := 6) (as := [(.inr (.inr (some 226))), (.inl 0), (.inl x1)]) (S0 := []) (m := 6) (L0 := [some (.inr (.inr (some 226))), some (.inl 0), some (.inl x1), none, none, none]) rfl rfl rfl rfl rfl rfl rfl rfl (zrc_o rfl rfl) (by omega) (by omega) (z_M_match_ok N (by omega) (by omega) 0 (zlit rfl) x1 hx1 A) (fun A1 _ => ?_)
  refine js_aload (pc1 := 7) rfl rfl rfl ?_
  refine js_gfr (pc1 := 10) (j := 4) (r := 229) rfl rfl rfl rfl rfl ?_
  refine js_iconst (pc1 := 11) rfl rfl ?_
  refine js_iload (pc1 := 12) rfl rfl rfl ?_
  refine js_cP (pc1 := 15) (as := [(.inl 0), (.inl x1)]) (S0 := [(.inr (.inr (some 229)))]) (m := 2) (L0 := [some (.inl 0), some (.inl x1)]) rfl rfl rfl rfl rfl rfl rfl rfl (zrc_s rfl) (by omega) (by omega) (z_M_row_ok N (by omega) (by omega) 0 (zlit rfl) x1 hx1 A1) (fun v2 _ hv2 => ?_)
  refine jt_ald (pc1 := 16) rfl rfl rfl rfl rfl (fun v3 hv3 => ?_)
  refine js_istore (pc1 := 17) (L1 := [some (.inr (.inr (some 226))), some (.inl x1), some (.inl v3), none, none, none, none]) rfl rfl rfl rfl ?_
  refine js_iconst (pc1 := 18) rfl rfl ?_
  refine js_istore (pc1 := 19) (L1 := [some (.inr (.inr (some 226))), some (.inl x1), some (.inl v3), some (.inl 0), none, none, none]) rfl rfl rfl rfl ?_
  exact z_M_dead_19_ok N hd hw x1 hx1 v3 hv3 0 (zlit rfl) A1
theorem z_M_isSteady_67_bok{d w : Nat} {r67 : Int → Int → Int → Int → Int → zA → Option Int} (hr67 : ∀ (x1 : Int) (hx1 : zrg x1) (x2 : Int) (hx2 : zrg x2) (x3 : Int) (hx3 : zrg x3) (x4 : Int) (hx4 : zrg x4) (x6 : Int) (hx6 : zrg x6) (A : zA), zG (r67 x1 x2 x3 x4 x6 A) (zPp A) d w 104 67 [some (.inr (.inr (some 226))), some (.inl x1), some (.inl x2), some (.inl x3), some (.inl x4), none, some (.inl x6), none] [] A) (N : Nat) (hd : 5 ≤ d) (hw : 121 ≤ w) (x1 : Int) (hx1 : zrg x1) (x2 : Int) (hx2 : zrg x2) (x3 : Int) (hx3 : zrg x3) (x4 : Int) (hx4 : zrg x4) (x6 : Int) (hx6 : zrg x6) (A : zA) : zG (z_M_isSteady_67_b r67 N x1 x2 x3 x4 x6 A) (zPp A) d w 104 67 [some (.inr (.inr (some 226))), some (.inl x1), some (.inl x2), some (.inl x3), some (.inl x4), none, some (.inl x6), none] [] A := by
  unfold z_M_isSteady_67_b
  refine js_iload (pc1 := 69) rfl rfl rfl ?_
  refine js_iconst (pc1 := 70) rfl rfl ?_
  refine jt_ge (pc1 := 73) (t1 := 123) hx6 (zlit rfl) rfl rfl rfl (fun c1 => ?_) (fun c1 => ?_)
  · refine js_aload (pc1 := 74) rfl rfl rfl ?_
    refine js_iconst (pc1 := 75) rfl rfl ?_
    refine js_iload (pc1 := 76) rfl rfl rfl ?_
    refine js_iload (pc1 := 78) rfl rfl rfl ?_
    refine js_iconst (pc1 := 79) rfl rfl ?_
    refine js_cP (pc1 := 82) (as := [(.inr (.inr (some 226))), (.inl 1), (.inl x1), (.inl x4), (.inl 0)]) (S0 := []) (m := 5) (L0 := [some (.inr (.inr (some 226))), some (.inl 1), some (.inl x1), some (.inl x4), some (.inl 0)]) rfl rfl rfl rfl rfl rfl rfl rfl (zrc_o rfl rfl) (by omega) (by omega) (z_M_field_ok N (by omega) (by omega) 1 (zlit rfl) x1 hx1 x4 hx4 0 (zlit rfl) A) (fun v2 _ hv2 => ?_)
    refine js_iload (pc1 := 84) rfl rfl rfl ?_
    refine js_cP (pc1 := 87) (as := [(.inl v2), (.inl x6)]) (S0 := []) (m := 2) (L0 := [some (.inl v2), some (.inl x6)]) rfl rfl rfl rfl rfl rfl rfl rfl (zrc_s rfl) (by omega) (by omega) (z_M_readAt_ok N (by omega) (by omega) v2 hv2 x6 hx6 A) (fun v3 _ hv3 => ?_)
    refine js_istore (pc1 := 89) (L1 := [some (.inr (.inr (some 226))), some (.inl x1), some (.inl x2), some (.inl x3), some (.inl x4), none, some (.inl x6), some (.inl v3)]) rfl rfl rfl rfl ?_
    refine js_iload (pc1 := 91) rfl rfl rfl ?_
    refine ju_le (pc1 := 94) (t1 := 117) hv3 rfl rfl rfl (fun c4 => ?_) (fun c4 => ?_)
    · refine js_aload (pc1 := 95) rfl rfl rfl ?_
      refine js_iconst (pc1 := 96) rfl rfl ?_
      refine js_iload (pc1 := 97) rfl rfl rfl ?_
      refine js_iload (pc1 := 98) rfl rfl rfl ?_
      refine js_iload (pc1 := 99) rfl rfl rfl ?_
      refine js_aload (pc1 := 100) rfl rfl rfl ?_
      refine js_iconst (pc1 := 101) rfl rfl ?_
      refine js_iload (pc1 := 102) rfl rfl rfl ?_
      refine js_iload (pc1 := 104) rfl rfl rfl ?_
      refine js_iload (pc1 := 106) rfl rfl rfl ?_
      refine js_cP (pc1 := 109) (as := [(.inr (.inr (some 226))), (.inl 1), (.inl x1), (.inl x4), (.inl v3)]) (S0 := [(.inl x3), (.inl x2), (.inl x1), (.inl 1), (.inr (.inr (some 226)))]) (m := 5) (L0 := [some (.inr (.inr (some 226))), some (.inl 1), some (.inl x1), some (.inl x4), some (.inl v3)]) rfl rfl rfl rfl rfl rfl rfl rfl (zrc_o rfl rfl) (by omega) (by omega) (z_M_field_ok N (by omega) (by omega) 1 (zlit rfl) x1 hx1 x4 hx4 v3 hv3 A) (fun v5 _ hv5 => ?_)
      refine js_cP (pc1 := 112) (as := [(.inr (.inr (some 226))), (.inl 1), (.inl x1), (.inl x2), (.inl x3), (.inl v5)]) (S0 := []) (m := 8) (L0 := [some (.inr (.inr (some 226))), some (.inl 1), some (.inl x1), some (.inl x2), some (.inl x3), some (.inl v5), none, none]) rfl rfl rfl rfl rfl rfl rfl rfl (zrc_o rfl rfl) (by omega) (by omega) (z_M_spoiltBetween_ok N (by omega) (by omega) 1 (zlit rfl) x1 hx1 x2 hx2 x3 hx3 v5 hv5 A) (fun v6 _ hv6 => ?_)
      refine ju_eq (pc1 := 115) (t1 := 117) hv6 rfl rfl rfl (fun c7 => ?_) (fun c7 => ?_)
      · refine js_iinc (pc1 := 120) (L1 := [some (.inr (.inr (some 226))), some (.inl x1), some (.inl x2), some (.inl x3), some (.inl x4), none, some (.inl (x6 + 1)), some (.inl v3)]) rfl rfl rfl rfl ?_
        refine js_goto (t1 := 67) rfl rfl ?_
        exact zG_to (L := [some (.inr (.inr (some 226))), some (.inl x1), some (.inl x2), some (.inl x3), some (.inl x4), none, some (.inl (zw (x6 + 1))), none]) (S := []) ⟨rfl, ⟨rfl, ⟨rfl, ⟨rfl, ⟨rfl, ⟨zval_w (x6 + 1), trivial⟩⟩⟩⟩⟩⟩ (rfl) (hr67 x1 hx1 x2 hx2 x3 hx3 x4 hx4 (zw (x6 + 1)) (zw_rg (x6 + 1)) A)
      · refine js_iconst (pc1 := 116) rfl rfl ?_
        exact je_P rfl (zfit3 rfl (Or.inl rfl)) rfl (zlit rfl)
    · refine js_iinc (pc1 := 120) (L1 := [some (.inr (.inr (some 226))), some (.inl x1), some (.inl x2), some (.inl x3), some (.inl x4), none, some (.inl (x6 + 1)), some (.inl v3)]) rfl rfl rfl rfl ?_
      refine js_goto (t1 := 67) rfl rfl ?_
      exact zG_to (L := [some (.inr (.inr (some 226))), some (.inl x1), some (.inl x2), some (.inl x3), some (.inl x4), none, some (.inl (zw (x6 + 1))), none]) (S := []) ⟨rfl, ⟨rfl, ⟨rfl, ⟨rfl, ⟨rfl, ⟨zval_w (x6 + 1), trivial⟩⟩⟩⟩⟩⟩ (rfl) (hr67 x1 hx1 x2 hx2 x3 hx3 x4 hx4 (zw (x6 + 1)) (zw_rg (x6 + 1)) A)
  · refine js_iconst (pc1 := 124) rfl rfl ?_
    exact je_P rfl (zfit3 rfl (Or.inr rfl)) rfl (zlit rfl)
theorem z_M_isSteady_67_lok{d w : Nat} (N : Nat) (hd : 5 ≤ d) (hw : 121 ≤ w) (n : Nat) : ∀ (x1 : Int) (hx1 : zrg x1) (x2 : Int) (hx2 : zrg x2) (x3 : Int) (hx3 : zrg x3) (x4 : Int) (hx4 : zrg x4) (x6 : Int) (hx6 : zrg x6) (A : zA), zG (z_M_isSteady_67_l N n x1 x2 x3 x4 x6 A) (zPp A) d w 104 67 [some (.inr (.inr (some 226))), some (.inl x1), some (.inl x2), some (.inl x3), some (.inl x4), none, some (.inl x6), none] [] A := by
  induction n with
  | zero => intros; exact zG_none
  | succ n ih =>
    intro x1 hx1 x2 hx2 x3 hx3 x4 hx4 x6 hx6 A
    exact z_M_isSteady_67_bok ih N hd hw x1 hx1 x2 hx2 x3 hx3 x4 hx4 x6 hx6 A
theorem z_M_isSteady_67_ok{d w : Nat} (N : Nat) (hd : 5 ≤ d) (hw : 121 ≤ w) (x1 : Int) (hx1 : zrg x1) (x2 : Int) (hx2 : zrg x2) (x3 : Int) (hx3 : zrg x3) (x4 : Int) (hx4 : zrg x4) (x6 : Int) (hx6 : zrg x6) (A : zA) : zG (z_M_isSteady_67 N x1 x2 x3 x4 x6 A) (zPp A) d w 104 67 [some (.inr (.inr (some 226))), some (.inl x1), some (.inl x2), some (.inl x3), some (.inl x4), none, some (.inl x6), none] [] A := z_M_isSteady_67_lok N hd hw N x1 hx1 x2 hx2 x3 hx3 x4 hx4 x6 hx6 A
theorem z_M_isSteady_ok{d w : Nat} (N : Nat) (hd : 5 ≤ d) (hw : 121 ≤ w) (x1 : Int) (hx1 : zrg x1) (x2 : Int) (hx2 : zrg x2) (x3 : Int) (hx3 : zrg x3) (x4 : Int) (hx4 : zrg x4) (A : zA) : zG (z_M_isSteady N x1 x2 x3 x4 A) (zPp A) d w 104 0 [some (.inr (.inr (some 226))), some (.inl x1), some (.inl x2), some (.inl x3), some (.inl x4), none, none, none] [] A := by
  unfold z_M_isSteady
  refine js_aload (pc1 := 1) rfl rfl rfl ?_
  refine js_iconst (pc1 := 2) rfl rfl ?_
  refine js_iload (pc1 := 3) rfl rfl rfl ?_
  refine js_iload (pc1 := 5) rfl rfl rfl ?_
  refine js_cP (pc1 := 8) (as := [(.inr (.inr (some 226))), (.inl 1), (.inl x1), (.inl x4)]) (S0 := []) (m := 4) (L0 := [some (.inr (.inr (some 226))), some (.inl 1), some (.inl x1), some (.inl x4)]) rfl rfl rfl rfl rfl rfl rfl rfl (zrc_o rfl rfl) (by omega) (by omega) (z_M_isPlain_ok N (by omega) (by omega) 1 (zlit rfl) x1 hx1 x4 hx4 A) (fun v1 _ hv1 => ?_)
  refine ju_ne (pc1 := 11) (t1 := 13) hv1 rfl rfl rfl (fun c2 => ?_) (fun c2 => ?_)
  · refine js_iconst (pc1 := 12) rfl rfl ?_
    exact je_P rfl (zfit3 rfl (Or.inl rfl)) rfl (zlit rfl)
  · refine js_aload (pc1 := 14) rfl rfl rfl ?_
    refine js_iconst (pc1 := 15) rfl rfl ?_
    refine js_iload (pc1 := 16) rfl rfl rfl ?_
    refine js_iload (pc1 := 18) rfl rfl rfl ?_
    refine js_cP (pc1 := 21) (as := [(.inr (.inr (some 226))), (.inl 1), (.inl x1), (.inl x4)]) (S0 := []) (m := 5) (L0 := [some (.inr (.inr (some 226))), some (.inl 1), some (.inl x1), some (.inl x4), none]) rfl rfl rfl rfl rfl rfl rfl rfl (zrc_o rfl rfl) (by omega) (by omega) (z_M_writes_ok N (by omega) (by omega) 1 (zlit rfl) x1 hx1 x4 hx4 A) (fun v3 _ hv3 => ?_)
    refine js_istore (pc1 := 23) (L1 := [some (.inr (.inr (some 226))), some (.inl x1), some (.inl x2), some (.inl x3), some (.inl x4), some (.inl v3), none, none]) rfl rfl rfl rfl ?_
    refine js_iload (pc1 := 25) rfl rfl rfl ?_
    refine js_iconst (pc1 := 27) rfl rfl ?_
    refine jt_lt (pc1 := 30) (t1 := 62) hv3 (zlit rfl) rfl rfl rfl (fun c4 => ?_) (fun c4 => ?_)
    · refine js_iconst (pc1 := 63) rfl rfl ?_
      exact je_P rfl (zfit3 rfl (Or.inl rfl)) rfl (zlit rfl)
    · refine js_aload (pc1 := 31) rfl rfl rfl ?_
      refine js_iconst (pc1 := 32) rfl rfl ?_
      refine js_iload (pc1 := 33) rfl rfl rfl ?_
      refine js_iload (pc1 := 34) rfl rfl rfl ?_
      refine js_iload (pc1 := 36) rfl rfl rfl ?_
      refine js_iconst (pc1 := 37) rfl rfl ?_
      refine js_isub (pc1 := 38) rfl rfl ?_
      refine js_iload (pc1 := 40) rfl rfl rfl ?_
      refine js_cP (pc1 := 43) (as := [(.inr (.inr (some 226))), (.inl 1), (.inl x1), (.inl x2), (.inl (x4 - 1)), (.inl v3)]) (S0 := []) (m := 8) (L0 := [some (.inr (.inr (some 226))), some (.inl 1), some (.inl x1), some (.inl x2), some (.inl (x4 - 1)), some (.inl v3), none, none]) rfl rfl rfl rfl rfl rfl rfl rfl (zrc_o rfl rfl) (by omega) (by omega) (zG_to (L := [some (.inr (.inr (some 226))), some (.inl 1), some (.inl x1), some (.inl x2), some (.inl (zw (x4 - 1))), some (.inl v3), none, none]) (S := []) ⟨rfl, ⟨rfl, ⟨rfl, ⟨rfl, ⟨zval_w (x4 - 1), ⟨rfl, trivial⟩⟩⟩⟩⟩⟩ rfl (z_M_spoiltBetween_ok N (by omega) (by omega) 1 (zlit rfl) x1 hx1 x2 hx2 (zw (x4 - 1)) (zw_rg (x4 - 1)) v3 hv3 A)) (fun v5 _ hv5 => ?_)
      refine ju_ne (pc1 := 46) (t1 := 62) hv5 rfl rfl rfl (fun c6 => ?_) (fun c6 => ?_)
      · refine js_aload (pc1 := 47) rfl rfl rfl ?_
        refine js_iconst (pc1 := 48) rfl rfl ?_
        refine js_iload (pc1 := 49) rfl rfl rfl ?_
        refine js_iload (pc1 := 51) rfl rfl rfl ?_
        refine js_iconst (pc1 := 52) rfl rfl ?_
        refine js_iadd (pc1 := 53) rfl rfl ?_
        refine js_iload (pc1 := 54) rfl rfl rfl ?_
        refine js_iload (pc1 := 56) rfl rfl rfl ?_
        refine js_cP (pc1 := 59) (as := [(.inr (.inr (some 226))), (.inl 1), (.inl x1), (.inl (x4 + 1)), (.inl x3), (.inl v3)]) (S0 := []) (m := 8) (L0 := [some (.inr (.inr (some 226))), some (.inl 1), some (.inl x1), some (.inl (x4 + 1)), some (.inl x3), some (.inl v3), none, none]) rfl rfl rfl rfl rfl rfl rfl rfl (zrc_o rfl rfl) (by omega) (by omega) (zG_to (L := [some (.inr (.inr (some 226))), some (.inl 1), some (.inl x1), some (.inl (zw (x4 + 1))), some (.inl x3), some (.inl v3), none, none]) (S := []) ⟨rfl, ⟨rfl, ⟨rfl, ⟨zval_w (x4 + 1), ⟨rfl, ⟨rfl, trivial⟩⟩⟩⟩⟩⟩ rfl (z_M_spoiltBetween_ok N (by omega) (by omega) 1 (zlit rfl) x1 hx1 (zw (x4 + 1)) (zw_rg (x4 + 1)) x3 hx3 v3 hv3 A)) (fun v7 _ hv7 => ?_)
        refine ju_eq (pc1 := 62) (t1 := 64) hv7 rfl rfl rfl (fun c8 => ?_) (fun c8 => ?_)
        · refine js_iconst (pc1 := 65) rfl rfl ?_
          refine js_istore (pc1 := 67) (L1 := [some (.inr (.inr (some 226))), some (.inl x1), some (.inl x2), some (.inl x3), some (.inl x4), some (.inl v3), some (.inl 0), none]) rfl rfl rfl rfl ?_
          exact zG_to (L := [some (.inr (.inr (some 226))), some (.inl x1), some (.inl x2), some (.inl x3), some (.inl x4), none, some (.inl 0), none]) (S := []) ⟨rfl, ⟨rfl, ⟨rfl, ⟨rfl, ⟨rfl, ⟨rfl, trivial⟩⟩⟩⟩⟩⟩ (rfl) (z_M_isSteady_67_ok N hd hw x1 hx1 x2 hx2 x3 hx3 x4 hx4 0 (zlit rfl) A)
        · refine js_iconst (pc1 := 63) rfl rfl ?_
          exact je_P rfl (zfit3 rfl (Or.inl rfl)) rfl (zlit rfl)
      · refine js_iconst (pc1 := 63) rfl rfl ?_
        exact je_P rfl (zfit3 rfl (Or.inl rfl)) rfl (zlit rfl)
theorem z_M_moveUp_74_bok{d w : Nat} {r74 : Int → Int → Int → zA → Option zA} (hr74 : ∀ (x1 : Int) (hx1 : zrg x1) (x2 : Int) (hx2 : zrg x2) (x4 : Int) (hx4 : zrg x4) (A : zA), zG (r74 x1 x2 x4 A) zPV d w 105 74 [some (.inr (.inr (some 226))), some (.inl x1), some (.inl x2), none, some (.inl x4)] [] A) (N : Nat) (hd : 1 ≤ d) (hw : 23 ≤ w) (x1 : Int) (hx1 : zrg x1) (x2 : Int) (hx2 : zrg x2) (x4 : Int) (hx4 : zrg x4) (A : zA) : zG (z_M_moveUp_74_b r74 N x1 x2 x4 A) zPV d w 105 74 [some (.inr (.inr (some 226))), some (.inl x1), some (.inl x2), none, some (.inl x4)] [] A := by
  unfold z_M_moveUp_74_b
  refine js_iload (pc1 := 76) rfl rfl rfl ?_
  refine js_iconst (pc1 := 77) rfl rfl ?_
  refine jt_ge (pc1 := 80) (t1 := 107) hx4 (zlit rfl) rfl rfl rfl (fun c1 => ?_) (fun c1 => ?_)
  · refine js_aload (pc1 := 81) rfl rfl rfl ?_
    refine js_gfr (pc1 := 84) (j := 3) (r := 228) rfl rfl rfl rfl rfl ?_
    refine js_iconst (pc1 := 85) rfl rfl ?_
    refine js_iload (pc1 := 86) rfl rfl rfl ?_
    refine js_iload (pc1 := 87) rfl rfl rfl ?_
    refine js_cP (pc1 := 90) (as := [(.inl 1), (.inl x1), (.inl x2)]) (S0 := [(.inr (.inr (some 228)))]) (m := 3) (L0 := [some (.inl 1), some (.inl x1), some (.inl x2)]) rfl rfl rfl rfl rfl rfl rfl rfl (zrc_s rfl) (by omega) (by omega) (z_M_place_ok N (by omega) (by omega) 1 (zlit rfl) x1 hx1 x2 hx2 A) (fun v2 _ hv2 => ?_)
    refine js_iload (pc1 := 92) rfl rfl rfl ?_
    refine js_iadd (pc1 := 93) rfl rfl ?_
    refine js_aload (pc1 := 94) rfl rfl rfl ?_
    refine js_gfr (pc1 := 97) (j := 41) (r := 251) rfl rfl rfl rfl rfl ?_
    refine js_iload (pc1 := 99) rfl rfl rfl ?_
    refine jt_ald (pc1 := 100) rfl rfl rfl rfl rfl (fun v3 hv3 => ?_)
    refine jt_ias (pc1 := 101) rfl rfl rfl rfl (fun A4 => ?_)
    refine js_iinc (pc1 := 104) (L1 := [some (.inr (.inr (some 226))), some (.inl x1), some (.inl x2), none, some (.inl (x4 + 1))]) rfl rfl rfl rfl ?_
    refine js_goto (t1 := 74) rfl rfl ?_
    exact zG_to (L := [some (.inr (.inr (some 226))), some (.inl x1), some (.inl x2), none, some (.inl (zw (x4 + 1)))]) (S := []) ⟨rfl, ⟨rfl, ⟨rfl, ⟨zval_w (x4 + 1), trivial⟩⟩⟩⟩ (rfl) (hr74 x1 hx1 x2 hx2 (zw (x4 + 1)) (zw_rg (x4 + 1)) A4)
  · exact je_V rfl
theorem z_M_moveUp_74_lok{d w : Nat} (N : Nat) (hd : 1 ≤ d) (hw : 23 ≤ w) (n : Nat) : ∀ (x1 : Int) (hx1 : zrg x1) (x2 : Int) (hx2 : zrg x2) (x4 : Int) (hx4 : zrg x4) (A : zA), zG (z_M_moveUp_74_l N n x1 x2 x4 A) zPV d w 105 74 [some (.inr (.inr (some 226))), some (.inl x1), some (.inl x2), none, some (.inl x4)] [] A := by
  induction n with
  | zero => intros; exact zG_none
  | succ n ih =>
    intro x1 hx1 x2 hx2 x4 hx4 A
    exact z_M_moveUp_74_bok ih N hd hw x1 hx1 x2 hx2 x4 hx4 A
