theorem z_Na_share_21_bok{d w : Nat} {r21 : Nat → Int → Int → zA → Option (Int × zA)} (hr21 : ∀ (x1 : Nat) (hx1 : zsh x1 = some (false, 3, 4)) (x2 : Int) (hx2 : zrg x2) (x3 : Int) (hx3 : zrg x3) (A : zA), zG (r21 x1 x2 x3 A) zPI d w 139 21 [some (.inr (.inr (some 102))), some (.inr (.inr (some x1))), some (.inl x2), some (.inl x3), none, none] [] A) (N : Nat) (hd : 6 ≤ d) (hw : 183 ≤ w) (x1 : Nat) (hx1 : zsh x1 = some (false, 3, 4)) (x2 : Int) (hx2 : zrg x2) (x3 : Int) (hx3 : zrg x3) (A : zA) : zG (z_Na_share_21_b r21 N x1 x2 x3 A) zPI d w 139 21 [some (.inr (.inr (some 102))), some (.inr (.inr (some x1))), some (.inl x2), some (.inl x3), none, none] [] A := by
  unfold z_Na_share_21_b
  refine js_iload (pc1 := 22) rfl rfl rfl ?_
  refine js_aload (pc1 := 23) rfl rfl rfl ?_
  refine js_gi (pc1 := 26) (j := 2) rfl rfl hx1 rfl ?_
  refine jt_ge (pc1 := 29) (t1 := 64) hx3 (zi_rg _ _ _) rfl rfl rfl (fun c1 => ?_) (fun c1 => ?_)
  · refine js_aload (pc1 := 30) rfl rfl rfl ?_
    refine js_aload (pc1 := 31) rfl rfl rfl ?_
    refine js_iload (pc1 := 32) rfl rfl rfl ?_
    refine js_cI (pc1 := 35) (as := [(.inr (.inr (some 102))), (.inr (.inr (some x1))), (.inl x3)]) (S0 := []) (m := 8) (L0 := [some (.inr (.inr (some 102))), some (.inr (.inr (some x1))), some (.inl x3), none, none, none, none, none]) rfl rfl rfl rfl rfl rfl rfl rfl (zrc_o rfl rfl) (by omega) (by omega) (z_Na_readLeast_ok N (by omega) (by omega) x1 hx1 x3 hx3 A) (fun v2 A3 _ hv2 => ?_)
    refine js_istore (pc1 := 37) (L1 := [some (.inr (.inr (some 102))), some (.inr (.inr (some x1))), some (.inl x2), some (.inl x3), some (.inl v2), none]) rfl rfl rfl rfl ?_
    refine js_aload (pc1 := 38) rfl rfl rfl ?_
    refine js_aload (pc1 := 39) rfl rfl rfl ?_
    refine js_iload (pc1 := 40) rfl rfl rfl ?_
    refine js_cI (pc1 := 43) (as := [(.inr (.inr (some 102))), (.inr (.inr (some x1))), (.inl x3)]) (S0 := []) (m := 6) (L0 := [some (.inr (.inr (some 102))), some (.inr (.inr (some x1))), some (.inl x3), none, none, none]) rfl rfl rfl rfl rfl rfl rfl rfl (zrc_o rfl rfl) (by omega) (by omega) (z_Na_goOver_ok N (by omega) (by omega) x1 hx1 x3 hx3 A3) (fun v4 A5 _ hv4 => ?_)
    refine js_istore (pc1 := 45) (L1 := [some (.inr (.inr (some 102))), some (.inr (.inr (some x1))), some (.inl x2), some (.inl x3), some (.inl v2), some (.inl v4)]) rfl rfl rfl rfl ?_
    refine js_iload (pc1 := 47) rfl rfl rfl ?_
    refine ju_ne (pc1 := 50) (t1 := 55) hv2 rfl rfl rfl (fun c6 => ?_) (fun c6 => ?_)
    · refine js_iload (pc1 := 52) rfl rfl rfl ?_
      refine ju_eq (pc1 := 55) (t1 := 58) hv4 rfl rfl rfl (fun c7 => ?_) (fun c7 => ?_)
      · refine js_iinc (pc1 := 61) (L1 := [some (.inr (.inr (some 102))), some (.inr (.inr (some x1))), some (.inl x2), some (.inl (x3 + 1)), some (.inl v2), some (.inl v4)]) rfl rfl rfl rfl ?_
        refine js_goto (t1 := 21) rfl rfl ?_
        exact zG_to (L := [some (.inr (.inr (some 102))), some (.inr (.inr (some x1))), some (.inl x2), some (.inl (zw (x3 + 1))), none, none]) (S := []) ⟨rfl, ⟨rfl, ⟨rfl, ⟨zval_w (x3 + 1), trivial⟩⟩⟩⟩ (rfl) (hr21 x1 hx1 x2 hx2 (zw (x3 + 1)) (zw_rg (x3 + 1)) A5)
      · refine js_iinc (pc1 := 58) (L1 := [some (.inr (.inr (some 102))), some (.inr (.inr (some x1))), some (.inl (x2 + 1)), some (.inl x3), some (.inl v2), some (.inl v4)]) rfl rfl rfl rfl ?_
        refine js_iinc (pc1 := 61) (L1 := [some (.inr (.inr (some 102))), some (.inr (.inr (some x1))), some (.inl (x2 + 1)), some (.inl (x3 + 1)), some (.inl v2), some (.inl v4)]) rfl rfl rfl rfl ?_
        refine js_goto (t1 := 21) rfl rfl ?_
        exact zG_to (L := [some (.inr (.inr (some 102))), some (.inr (.inr (some x1))), some (.inl (zw (x2 + 1))), some (.inl (zw (x3 + 1))), none, none]) (S := []) ⟨rfl, ⟨rfl, ⟨zval_w (x2 + 1), ⟨zval_w (x3 + 1), trivial⟩⟩⟩⟩ (rfl) (hr21 x1 hx1 (zw (x2 + 1)) (zw_rg (x2 + 1)) (zw (x3 + 1)) (zw_rg (x3 + 1)) A5)
    · refine js_iinc (pc1 := 58) (L1 := [some (.inr (.inr (some 102))), some (.inr (.inr (some x1))), some (.inl (x2 + 1)), some (.inl x3), some (.inl v2), some (.inl v4)]) rfl rfl rfl rfl ?_
      refine js_iinc (pc1 := 61) (L1 := [some (.inr (.inr (some 102))), some (.inr (.inr (some x1))), some (.inl (x2 + 1)), some (.inl (x3 + 1)), some (.inl v2), some (.inl v4)]) rfl rfl rfl rfl ?_
      refine js_goto (t1 := 21) rfl rfl ?_
      exact zG_to (L := [some (.inr (.inr (some 102))), some (.inr (.inr (some x1))), some (.inl (zw (x2 + 1))), some (.inl (zw (x3 + 1))), none, none]) (S := []) ⟨rfl, ⟨rfl, ⟨zval_w (x2 + 1), ⟨zval_w (x3 + 1), trivial⟩⟩⟩⟩ (rfl) (hr21 x1 hx1 (zw (x2 + 1)) (zw_rg (x2 + 1)) (zw (x3 + 1)) (zw_rg (x3 + 1)) A5)
  · refine js_iload (pc1 := 65) rfl rfl rfl ?_
    exact je_I rfl (zfit0 _ rfl) rfl hx2
theorem z_Na_share_21_lok{d w : Nat} (N : Nat) (hd : 6 ≤ d) (hw : 183 ≤ w) (n : Nat) : ∀ (x1 : Nat) (hx1 : zsh x1 = some (false, 3, 4)) (x2 : Int) (hx2 : zrg x2) (x3 : Int) (hx3 : zrg x3) (A : zA), zG (z_Na_share_21_l N n x1 x2 x3 A) zPI d w 139 21 [some (.inr (.inr (some 102))), some (.inr (.inr (some x1))), some (.inl x2), some (.inl x3), none, none] [] A := by
  induction n with
  | zero => intros; exact zG_none
  | succ n ih =>
    intro x1 hx1 x2 hx2 x3 hx3 A
    exact z_Na_share_21_bok ih N hd hw x1 hx1 x2 hx2 x3 hx3 A
theorem z_Na_share_21_ok{d w : Nat} (N : Nat) (hd : 6 ≤ d) (hw : 183 ≤ w) (x1 : Nat) (hx1 : zsh x1 = some (false, 3, 4)) (x2 : Int) (hx2 : zrg x2) (x3 : Int) (hx3 : zrg x3) (A : zA) : zG (z_Na_share_21 N x1 x2 x3 A) zPI d w 139 21 [some (.inr (.inr (some 102))), some (.inr (.inr (some x1))), some (.inl x2), some (.inl x3), none, none] [] A := z_Na_share_21_lok N hd hw N x1 hx1 x2 hx2 x3 hx3 A
theorem z_Na_share_ok{d w : Nat} (N : Nat) (hd : 6 ≤ d) (hw : 183 ≤ w) (x1 : Nat) (hx1 : zsh x1 = some (false, 3, 4)) (A : zA) : zG (z_Na_share N x1 A) zPI d w 139 0 [some (.inr (.inr (some 102))), some (.inr (.inr (some x1))), none, none, none, none] [] A := by
  unfold z_Na_share
  refine js_aload (pc1 := 1) rfl rfl rfl ?_
  refine js_aload (pc1 := 2) rfl rfl rfl ?_
  refine js_gi (pc1 := 5) (j := 3) rfl rfl hx1 rfl ?_
  refine js_iconst (pc1 := 7) rfl rfl ?_
  refine jt_min (pc1 := 10) rfl rfl (zi_rg _ _ _) (zlit rfl) (by omega) (by omega) rfl ?_
  refine jt_pi (pc1 := 13) (j := 2) rfl rfl rfl rfl rfl (fun A1 => ?_)
  refine js_aload (pc1 := 14) rfl rfl rfl ?_
  refine js_cV (pc1 := 17) (as := [(.inr (.inr (some 102)))]) (S0 := []) (m := 2) (L0 := [some (.inr (.inr (some 102))), none]) rfl rfl rfl rfl rfl rfl rfl rfl (zrc_o rfl rfl) (by omega) (by omega) (z_Na_beginAnew_ok N (by omega) (by omega) A1) (fun A2 _ => ?_)
  refine js_iconst (pc1 := 18) rfl rfl ?_
  refine js_istore (pc1 := 19) (L1 := [some (.inr (.inr (some 102))), some (.inr (.inr (some x1))), some (.inl 0), none, none, none]) rfl rfl rfl rfl ?_
  refine js_iconst (pc1 := 20) rfl rfl ?_
  refine js_istore (pc1 := 21) (L1 := [some (.inr (.inr (some 102))), some (.inr (.inr (some x1))), some (.inl 0), some (.inl 0), none, none]) rfl rfl rfl rfl ?_
  exact z_Na_share_21_ok N hd hw x1 hx1 0 (zlit rfl) 0 (zlit rfl) A2
theorem z_Mv_neededAt_ok{d w : Nat} (N : Nat) (hd : 0 ≤ d) (hw : 0 ≤ w) (x1 : Int) (hx1 : zrg x1) (A : zA) : zG (z_Mv_neededAt N x1 A) (zPJ A) d w 173 0 [some (.inr (.inr (some 107))), some (.inl x1)] [] A := by
  unfold z_Mv_neededAt
  refine js_iload (pc1 := 1) rfl rfl rfl ?_
  refine ju_lt (pc1 := 4) (t1 := 22) hx1 rfl rfl rfl (fun c1 => ?_) (fun c1 => ?_)
  · refine js_ldc2 (pc1 := 23) rfl rfl ?_
    exact je_J rfl
  · refine js_iload (pc1 := 5) rfl rfl rfl ?_
    refine js_aload (pc1 := 6) rfl rfl rfl ?_
    refine js_gfr (pc1 := 9) (j := 0) (r := 108) rfl rfl rfl rfl rfl ?_
    refine js_len (pc1 := 10) rfl rfl rfl ?_
    refine jt_ge (pc1 := 13) (t1 := 22) hx1 (zlit rfl) rfl rfl rfl (fun c2 => ?_) (fun c2 => ?_)
    · refine js_aload (pc1 := 14) rfl rfl rfl ?_
      refine js_gfr (pc1 := 17) (j := 0) (r := 108) rfl rfl rfl rfl rfl ?_
      refine js_iload (pc1 := 18) rfl rfl rfl ?_
      refine jt_lald (pc1 := 19) rfl rfl rfl (fun v3 => ?_)
      refine js_goto (t1 := 23) rfl rfl ?_
      exact je_J rfl
    · refine js_ldc2 (pc1 := 23) rfl rfl ?_
      exact je_J rfl
theorem z_Mv_readBits_5_bok{d w : Nat} {r5 : Nat → Int → Int64 → Int → zA → Option Int64} (hr5 : ∀ (x0 : Nat) (hx0 : zsh x0 = some (false, 3, 4)) (x1 : Int) (hx1 : zrg x1) (x2 : Int64) (x4 : Int) (hx4 : zrg x4) (A : zA), zG (r5 x0 x1 x2 x4 A) (zPJ A) d w 282 5 [some (.inr (.inr (some x0))), some (.inl x1), some (.inr (.inl x2)), none, some (.inl x4)] [] A) (N : Nat) (hd : 2 ≤ d) (hw : 43 ≤ w) (x0 : Nat) (hx0 : zsh x0 = some (false, 3, 4)) (x1 : Int) (hx1 : zrg x1) (x2 : Int64) (x4 : Int) (hx4 : zrg x4) (A : zA) : zG (z_Mv_readBits_5_b r5 N x0 x1 x2 x4 A) (zPJ A) d w 282 5 [some (.inr (.inr (some x0))), some (.inl x1), some (.inr (.inl x2)), none, some (.inl x4)] [] A := by
  unfold z_Mv_readBits_5_b
  refine js_iload (pc1 := 7) rfl rfl rfl ?_
  refine js_aload (pc1 := 8) rfl rfl rfl ?_
  refine js_iload (pc1 := 9) rfl rfl rfl ?_
  refine js_cP (pc1 := 12) (as := [(.inr (.inr (some x0))), (.inl x1)]) (S0 := [(.inl x4)]) (m := 2) (L0 := [some (.inr (.inr (some x0))), some (.inl x1)]) rfl rfl rfl rfl rfl rfl rfl rfl (zrc_o rfl hx0) (by omega) (by omega) (z_Pt_reads_ok N (by omega) (by omega) x0 hx0 x1 hx1 A) (fun v1 _ hv1 => ?_)
  refine jt_ge (pc1 := 15) (t1 := 38) hx4 hv1 rfl rfl rfl (fun c2 => ?_) (fun c2 => ?_)
  · refine js_lload (pc1 := 16) rfl rfl rfl ?_
    refine js_ldc2 (pc1 := 17) rfl rfl ?_
    refine js_aload (pc1 := 18) rfl rfl rfl ?_
    refine js_iload (pc1 := 19) rfl rfl rfl ?_
    refine js_aload (pc1 := 20) rfl rfl rfl ?_
    refine js_iload (pc1 := 21) rfl rfl rfl ?_
    refine js_iload (pc1 := 23) rfl rfl rfl ?_
    refine js_cP (pc1 := 26) (as := [(.inr (.inr (some x0))), (.inl x1), (.inl x4)]) (S0 := [(.inl x1), (.inr (.inr (some x0))), (.inr (.inl (Int64.ofNat 1))), (.inr (.inl x2))]) (m := 3) (L0 := [some (.inr (.inr (some x0))), some (.inl x1), some (.inl x4)]) rfl rfl rfl rfl rfl rfl rfl rfl (zrc_o rfl hx0) (by omega) (by omega) (z_Pt_readNumber_ok N (by omega) (by omega) x0 hx0 x1 hx1 x4 hx4 A) (fun v3 _ hv3 => ?_)
    refine js_cP (pc1 := 29) (as := [(.inr (.inr (some x0))), (.inl x1), (.inl v3)]) (S0 := [(.inr (.inl (Int64.ofNat 1))), (.inr (.inl x2))]) (m := 5) (L0 := [some (.inr (.inr (some x0))), some (.inl x1), some (.inl v3), none, none]) rfl rfl rfl rfl rfl rfl rfl rfl (zrc_o rfl hx0) (by omega) (by omega) (z_Pt_register_ok N (by omega) (by omega) x0 hx0 x1 hx1 v3 hv3 A) (fun v4 _ hv4 => ?_)
    refine js_lshl (pc1 := 30) rfl rfl ?_
    refine js_lor (pc1 := 31) rfl rfl ?_
    refine js_lstore (pc1 := 32) (L1 := [some (.inr (.inr (some x0))), some (.inl x1), some (.inr (.inl (x2 ||| (zlsl (Int64.ofNat 1) v4)))), none, some (.inl x4)]) rfl rfl rfl rfl ?_
    refine js_iinc (pc1 := 35) (L1 := [some (.inr (.inr (some x0))), some (.inl x1), some (.inr (.inl (x2 ||| (zlsl (Int64.ofNat 1) v4)))), none, some (.inl (x4 + 1))]) rfl rfl rfl rfl ?_
    refine js_goto (t1 := 5) rfl rfl ?_
    exact zG_to (L := [some (.inr (.inr (some x0))), some (.inl x1), some (.inr (.inl (x2 ||| (zlsl (Int64.ofNat 1) v4)))), none, some (.inl (zw (x4 + 1)))]) (S := []) ⟨rfl, ⟨rfl, ⟨rfl, ⟨zval_w (x4 + 1), trivial⟩⟩⟩⟩ (rfl) (hr5 x0 hx0 x1 hx1 (x2 ||| (zlsl (Int64.ofNat 1) v4)) (zw (x4 + 1)) (zw_rg (x4 + 1)) A)
  · refine js_lload (pc1 := 39) rfl rfl rfl ?_
    exact je_J rfl
theorem z_Mv_readBits_5_lok{d w : Nat} (N : Nat) (hd : 2 ≤ d) (hw : 43 ≤ w) (n : Nat) : ∀ (x0 : Nat) (hx0 : zsh x0 = some (false, 3, 4)) (x1 : Int) (hx1 : zrg x1) (x2 : Int64) (x4 : Int) (hx4 : zrg x4) (A : zA), zG (z_Mv_readBits_5_l N n x0 x1 x2 x4 A) (zPJ A) d w 282 5 [some (.inr (.inr (some x0))), some (.inl x1), some (.inr (.inl x2)), none, some (.inl x4)] [] A := by
  induction n with
  | zero => intros; exact zG_none
  | succ n ih =>
    intro x0 hx0 x1 hx1 x2 x4 hx4 A
    exact z_Mv_readBits_5_bok ih N hd hw x0 hx0 x1 hx1 x2 x4 hx4 A
theorem z_Mv_readBits_5_ok{d w : Nat} (N : Nat) (hd : 2 ≤ d) (hw : 43 ≤ w) (x0 : Nat) (hx0 : zsh x0 = some (false, 3, 4)) (x1 : Int) (hx1 : zrg x1) (x2 : Int64) (x4 : Int) (hx4 : zrg x4) (A : zA) : zG (z_Mv_readBits_5 N x0 x1 x2 x4 A) (zPJ A) d w 282 5 [some (.inr (.inr (some x0))), some (.inl x1), some (.inr (.inl x2)), none, some (.inl x4)] [] A := z_Mv_readBits_5_lok N hd hw N x0 hx0 x1 hx1 x2 x4 hx4 A
theorem z_Mv_readBits_ok{d w : Nat} (N : Nat) (hd : 2 ≤ d) (hw : 43 ≤ w) (x0 : Nat) (hx0 : zsh x0 = some (false, 3, 4)) (x1 : Int) (hx1 : zrg x1) (A : zA) : zG (z_Mv_readBits N x0 x1 A) (zPJ A) d w 282 0 [some (.inr (.inr (some x0))), some (.inl x1), none, none, none] [] A := by
  unfold z_Mv_readBits
  refine js_ldc2 (pc1 := 1) rfl rfl ?_
  refine js_lstore (pc1 := 2) (L1 := [some (.inr (.inr (some x0))), some (.inl x1), some (.inr (.inl (Int64.ofNat 0))), none, none]) rfl rfl rfl rfl ?_
  refine js_iconst (pc1 := 3) rfl rfl ?_
  refine js_istore (pc1 := 5) (L1 := [some (.inr (.inr (some x0))), some (.inl x1), some (.inr (.inl (Int64.ofNat 0))), none, some (.inl 0)]) rfl rfl rfl rfl ?_
  exact z_Mv_readBits_5_ok N hd hw x0 hx0 x1 hx1 (Int64.ofNat 0) 0 (zlit rfl) A
theorem z_Pt_isHarmless_ok{d w : Nat} (N : Nat) (hd : 1 ≤ d) (hw : 23 ≤ w) (x0 : Nat) (hx0 : zsh x0 = some (false, 3, 4)) (x1 : Int) (hx1 : zrg x1) (A : zA) : zG (z_Pt_isHarmless N x0 x1 A) (zPp A) d w 171 0 [some (.inr (.inr (some x0))), some (.inl x1), none] [] A := by
  unfold z_Pt_isHarmless
  refine js_aload (pc1 := 1) rfl rfl rfl ?_
  refine js_iload (pc1 := 2) rfl rfl rfl ?_
  refine js_cP (pc1 := 5) (as := [(.inr (.inr (some x0))), (.inl x1)]) (S0 := []) (m := 2) (L0 := [some (.inr (.inr (some x0))), some (.inl x1)]) rfl rfl rfl rfl rfl rfl rfl rfl (zrc_o rfl hx0) (by omega) (by omega) (z_Pt_kind_ok N (by omega) (by omega) x0 hx0 x1 hx1 A) (fun v1 _ hv1 => ?_)
  refine js_istore (pc1 := 6) (L1 := [some (.inr (.inr (some x0))), some (.inl x1), some (.inl v1)]) rfl rfl rfl rfl ?_
  refine js_iload (pc1 := 7) rfl rfl rfl ?_
  refine ju_eq (pc1 := 10) (t1 := 30) hv1 rfl rfl rfl (fun c2 => ?_) (fun c2 => ?_)
  · refine js_iconst (pc1 := 31) rfl rfl ?_
    refine js_goto (t1 := 35) rfl rfl ?_
    exact je_P rfl (zfit3 rfl (Or.inr rfl)) rfl (zlit rfl)
  · refine js_iload (pc1 := 11) rfl rfl rfl ?_
    refine js_iconst (pc1 := 12) rfl rfl ?_
    refine jt_eq (pc1 := 15) (t1 := 30) hv1 (zlit rfl) rfl rfl rfl (fun c3 => ?_) (fun c3 => ?_)
    · refine js_iconst (pc1 := 31) rfl rfl ?_
      refine js_goto (t1 := 35) rfl rfl ?_
      exact je_P rfl (zfit3 rfl (Or.inr rfl)) rfl (zlit rfl)
    · refine js_iload (pc1 := 16) rfl rfl rfl ?_
      refine js_iconst (pc1 := 17) rfl rfl ?_
      refine jt_ne (pc1 := 20) (t1 := 34) hv1 (zlit rfl) rfl rfl rfl (fun c4 => ?_) (fun c4 => ?_)
      · refine js_aload (pc1 := 21) rfl rfl rfl ?_
        refine js_iload (pc1 := 22) rfl rfl rfl ?_
        refine js_iconst (pc1 := 23) rfl rfl ?_
        refine js_cP (pc1 := 26) (as := [(.inr (.inr (some x0))), (.inl x1), (.inl 3)]) (S0 := []) (m := 4) (L0 := [some (.inr (.inr (some x0))), some (.inl x1), some (.inl 3), none]) rfl rfl rfl rfl rfl rfl rfl rfl (zrc_o rfl hx0) (by omega) (by omega) (z_Pt_number_ok N (by omega) (by omega) x0 hx0 x1 hx1 3 (zlit rfl) A) (fun v5 _ hv5 => ?_)
        refine js_iconst (pc1 := 27) rfl rfl ?_
        refine jt_eq (pc1 := 30) (t1 := 34) hv5 (zlit rfl) rfl rfl rfl (fun c6 => ?_) (fun c6 => ?_)
        · refine js_iconst (pc1 := 35) rfl rfl ?_
          exact je_P rfl (zfit3 rfl (Or.inl rfl)) rfl (zlit rfl)
        · refine js_iconst (pc1 := 31) rfl rfl ?_
          refine js_goto (t1 := 35) rfl rfl ?_
          exact je_P rfl (zfit3 rfl (Or.inr rfl)) rfl (zlit rfl)
      · refine js_iconst (pc1 := 35) rfl rfl ?_
        exact je_P rfl (zfit3 rfl (Or.inl rfl)) rfl (zlit rfl)
theorem z_Mv_isNeeded_ok{d w : Nat} (N : Nat) (hd : 0 ≤ d) (hw : 0 ≤ w) (x0 : Int) (hx0 : zrg x0) (x1 : Int64) (A : zA) : zG (z_Mv_isNeeded N x0 x1 A) (zPp A) d w 174 0 [some (.inl x0), some (.inr (.inl x1)), none] [] A := by
  unfold z_Mv_isNeeded
  refine js_iload (pc1 := 1) rfl rfl rfl ?_
  refine ju_lt (pc1 := 4) (t1 := 18) hx0 rfl rfl rfl (fun c1 => ?_) (fun c1 => ?_)
  · refine js_iconst (pc1 := 19) rfl rfl ?_
    exact je_P rfl (zfit3 rfl (Or.inl rfl)) rfl (zlit rfl)
  · refine js_lload (pc1 := 5) rfl rfl rfl ?_
    refine js_iload (pc1 := 6) rfl rfl rfl ?_
    refine js_lushr (pc1 := 7) rfl rfl ?_
    refine js_ldc2 (pc1 := 8) rfl rfl ?_
    refine js_land (pc1 := 9) rfl rfl ?_
    refine js_ldc2 (pc1 := 10) rfl rfl ?_
    refine js_lcmp (pc1 := 11) rfl rfl ?_
    refine ju_eq (pc1 := 14) (t1 := 18) (zt_rg _) rfl rfl rfl (fun c2 => ?_) (fun c2 => ?_)
    · refine js_iconst (pc1 := 19) rfl rfl ?_
      exact je_P rfl (zfit3 rfl (Or.inl rfl)) rfl (zlit rfl)
    · refine js_iconst (pc1 := 15) rfl rfl ?_
      refine js_goto (t1 := 19) rfl rfl ?_
      exact je_P rfl (zfit3 rfl (Or.inr rfl)) rfl (zlit rfl)
theorem z_Mv_neededAheadOfPlain_36_ok{d w : Nat} (N : Nat) (hd : 2 ≤ d) (hw : 46 ≤ w) (x2 : Int64) (x4 : Int64) (x6 : Int) (hx6 : zrg x6) (A : zA) : zG (z_Mv_neededAheadOfPlain_36 N x2 x4 x6 A) (zPJ A) d w 283 36 [none, none, some (.inr (.inl x2)), none, some (.inr (.inl x4)), none, some (.inl x6)] [] A := by
  unfold z_Mv_neededAheadOfPlain_36
  refine js_lload (pc1 := 37) rfl rfl rfl ?_
  refine js_ldc2 (pc1 := 38) rfl rfl ?_
  refine js_iload (pc1 := 40) rfl rfl rfl ?_
  refine js_lshl (pc1 := 41) rfl rfl ?_
  refine js_ldc2 (pc1 := 44) rfl rfl ?_
  refine js_lxor (pc1 := 45) rfl rfl ?_
  refine js_land (pc1 := 46) rfl rfl ?_
  refine js_lload (pc1 := 48) rfl rfl rfl ?_
  refine js_lor (pc1 := 49) rfl rfl ?_
  exact je_J rfl
theorem z_Mv_neededAheadOfPlain_ok{d w : Nat} (N : Nat) (hd : 2 ≤ d) (hw : 46 ≤ w) (x0 : Nat) (hx0 : zsh x0 = some (false, 3, 4)) (x1 : Int) (hx1 : zrg x1) (x2 : Int64) (x4 : Int64) (A : zA) : zG (z_Mv_neededAheadOfPlain N x0 x1 x2 x4 A) (zPJ A) d w 283 0 [some (.inr (.inr (some x0))), some (.inl x1), some (.inr (.inl x2)), none, some (.inr (.inl x4)), none, none] [] A := by
  unfold z_Mv_neededAheadOfPlain
  refine js_aload (pc1 := 1) rfl rfl rfl ?_
  refine js_iload (pc1 := 2) rfl rfl rfl ?_
  refine js_cP (pc1 := 5) (as := [(.inr (.inr (some x0))), (.inl x1)]) (S0 := []) (m := 3) (L0 := [some (.inr (.inr (some x0))), some (.inl x1), none]) rfl rfl rfl rfl rfl rfl rfl rfl (zrc_o rfl hx0) (by omega) (by omega) (z_Pt_written_ok N (by omega) (by omega) x0 hx0 x1 hx1 A) (fun v1 _ hv1 => ?_)
  refine js_istore (pc1 := 7) (L1 := [some (.inr (.inr (some x0))), some (.inl x1), some (.inr (.inl x2)), none, some (.inr (.inl x4)), none, some (.inl v1)]) rfl rfl rfl rfl ?_
  refine js_iload (pc1 := 9) rfl rfl rfl ?_
  refine ju_ge (pc1 := 12) (t1 := 17) hv1 rfl rfl rfl (fun c2 => ?_) (fun c2 => ?_)
  · refine js_lload (pc1 := 13) rfl rfl rfl ?_
    refine js_lload (pc1 := 15) rfl rfl rfl ?_
    refine js_lor (pc1 := 16) rfl rfl ?_
    exact je_J rfl
  · refine js_aload (pc1 := 18) rfl rfl rfl ?_
    refine js_iload (pc1 := 19) rfl rfl rfl ?_
    refine js_cP (pc1 := 22) (as := [(.inr (.inr (some x0))), (.inl x1)]) (S0 := []) (m := 3) (L0 := [some (.inr (.inr (some x0))), some (.inl x1), none]) rfl rfl rfl rfl rfl rfl rfl rfl (zrc_o rfl hx0) (by omega) (by omega) (z_Pt_isHarmless_ok N (by omega) (by omega) x0 hx0 x1 hx1 A) (fun v3 _ hv3 => ?_)
    refine ju_eq (pc1 := 25) (t1 := 36) hv3 rfl rfl rfl (fun c4 => ?_) (fun c4 => ?_)
    · exact zG_to (L := [none, none, some (.inr (.inl x2)), none, some (.inr (.inl x4)), none, some (.inl v1)]) (S := []) ⟨rfl, ⟨rfl, ⟨rfl, trivial⟩⟩⟩ (rfl) (z_Mv_neededAheadOfPlain_36_ok N hd hw x2 x4 v1 hv1 A)
    · refine js_iload (pc1 := 27) rfl rfl rfl ?_
      refine js_lload (pc1 := 28) rfl rfl rfl ?_
      refine js_cP (pc1 := 31) (as := [(.inl v1), (.inr (.inl x2))]) (S0 := []) (m := 3) (L0 := [some (.inl v1), some (.inr (.inl x2)), none]) rfl rfl rfl rfl rfl rfl rfl rfl (zrc_s rfl) (by omega) (by omega) (z_Mv_isNeeded_ok N (by omega) (by omega) v1 hv1 x2 A) (fun v5 _ hv5 => ?_)
      refine ju_ne (pc1 := 34) (t1 := 36) hv5 rfl rfl rfl (fun c6 => ?_) (fun c6 => ?_)
      · refine js_lload (pc1 := 35) rfl rfl rfl ?_
        exact je_J rfl
      · exact zG_to (L := [none, none, some (.inr (.inl x2)), none, some (.inr (.inl x4)), none, some (.inl v1)]) (S := []) ⟨rfl, ⟨rfl, ⟨rfl, trivial⟩⟩⟩ (rfl) (z_Mv_neededAheadOfPlain_36_ok N hd hw x2 x4 v1 hv1 A)
theorem z_Mv_neededAhead_ok{d w : Nat} (N : Nat) (hd : 3 ≤ d) (hw : 72 ≤ w) (x1 : Nat) (hx1 : zsh x1 = some (false, 3, 4)) (x2 : Int) (hx2 : zrg x2) (A : zA) : zG (z_Mv_neededAhead N x1 x2 A) (zPJ A) d w 244 0 [some (.inr (.inr (some 107))), some (.inr (.inr (some x1))), some (.inl x2), none, none, none, none, none] [] A := by
  unfold z_Mv_neededAhead
  refine js_aload (pc1 := 1) rfl rfl rfl ?_
  refine js_iload (pc1 := 2) rfl rfl rfl ?_
  refine js_iconst (pc1 := 3) rfl rfl ?_
  refine js_iadd (pc1 := 4) rfl rfl ?_
  refine js_cJ (pc1 := 7) (as := [(.inr (.inr (some 107))), (.inl (x2 + 1))]) (S0 := []) (m := 2) (L0 := [some (.inr (.inr (some 107))), some (.inl (x2 + 1))]) rfl rfl rfl rfl rfl rfl rfl rfl (zrc_o rfl rfl) (by omega) (by omega) (zG_to (L := [some (.inr (.inr (some 107))), some (.inl (zw (x2 + 1)))]) (S := []) ⟨rfl, ⟨zval_w (x2 + 1), trivial⟩⟩ rfl (z_Mv_neededAt_ok N (by omega) (by omega) (zw (x2 + 1)) (zw_rg (x2 + 1)) A)) (fun v1 _ => ?_)
  refine js_lstore (pc1 := 8) (L1 := [some (.inr (.inr (some 107))), some (.inr (.inr (some x1))), some (.inl x2), some (.inr (.inl v1)), none, none, none, none]) rfl rfl rfl rfl ?_
  refine js_aload (pc1 := 9) rfl rfl rfl ?_
  refine js_iload (pc1 := 10) rfl rfl rfl ?_
  refine js_cJ (pc1 := 13) (as := [(.inr (.inr (some x1))), (.inl x2)]) (S0 := []) (m := 5) (L0 := [some (.inr (.inr (some x1))), some (.inl x2), none, none, none]) rfl rfl rfl rfl rfl rfl rfl rfl (zrc_s rfl) (by omega) (by omega) (z_Mv_readBits_ok N (by omega) (by omega) x1 hx1 x2 hx2 A) (fun v2 _ => ?_)
  refine js_lstore (pc1 := 15) (L1 := [some (.inr (.inr (some 107))), some (.inr (.inr (some x1))), some (.inl x2), some (.inr (.inl v1)), none, some (.inr (.inl v2)), none, none]) rfl rfl rfl rfl ?_
  refine js_aload (pc1 := 16) rfl rfl rfl ?_
  refine js_iload (pc1 := 17) rfl rfl rfl ?_
  refine js_cP (pc1 := 20) (as := [(.inr (.inr (some x1))), (.inl x2)]) (S0 := []) (m := 2) (L0 := [some (.inr (.inr (some x1))), some (.inl x2)]) rfl rfl rfl rfl rfl rfl rfl rfl (zrc_o rfl hx1) (by omega) (by omega) (z_Pt_mate_ok N (by omega) (by omega) x1 hx1 x2 hx2 A) (fun v3 _ hv3 => ?_)
  refine js_istore (pc1 := 22) (L1 := [some (.inr (.inr (some 107))), some (.inr (.inr (some x1))), some (.inl x2), some (.inr (.inl v1)), none, some (.inr (.inl v2)), none, some (.inl v3)]) rfl rfl rfl rfl ?_
  refine js_aload (pc1 := 23) rfl rfl rfl ?_
  refine js_iload (pc1 := 24) rfl rfl rfl ?_
  refine js_cP (pc1 := 27) (as := [(.inr (.inr (some x1))), (.inl x2)]) (S0 := []) (m := 2) (L0 := [some (.inr (.inr (some x1))), some (.inl x2)]) rfl rfl rfl rfl rfl rfl rfl rfl (zrc_o rfl hx1) (by omega) (by omega) (z_Pt_kind_ok N (by omega) (by omega) x1 hx1 x2 hx2 A) (fun v4 _ hv4 => ?_)
  refine zG_ite (fun c5 => ?_) (fun c5 => ?_)
  · refine js_tsw (t1 := 107) rfl c5 (zlit rfl) (by decide) ?_
    refine js_lload (pc1 := 108) rfl rfl rfl ?_
    refine js_ldc2 (pc1 := 111) rfl rfl ?_
    refine js_lor (pc1 := 112) rfl rfl ?_
    refine js_lload (pc1 := 114) rfl rfl rfl ?_
    refine js_lor (pc1 := 115) rfl rfl ?_
    exact je_J rfl
  refine zG_ite (fun c7 => ?_) (fun c7 => ?_)
  · refine js_tsw (t1 := 64) rfl c7 (zlit rfl) (by decide) ?_
    refine js_lload (pc1 := 65) rfl rfl rfl ?_
    refine js_aload (pc1 := 66) rfl rfl rfl ?_
    refine js_iload (pc1 := 68) rfl rfl rfl ?_
    refine js_iconst (pc1 := 69) rfl rfl ?_
    refine js_iadd (pc1 := 70) rfl rfl ?_
    refine js_cJ (pc1 := 73) (as := [(.inr (.inr (some 107))), (.inl (v3 + 1))]) (S0 := [(.inr (.inl v1))]) (m := 2) (L0 := [some (.inr (.inr (some 107))), some (.inl (v3 + 1))]) rfl rfl rfl rfl rfl rfl rfl rfl (zrc_o rfl rfl) (by omega) (by omega) (zG_to (L := [some (.inr (.inr (some 107))), some (.inl (zw (v3 + 1)))]) (S := []) ⟨rfl, ⟨zval_w (v3 + 1), trivial⟩⟩ rfl (z_Mv_neededAt_ok N (by omega) (by omega) (zw (v3 + 1)) (zw_rg (v3 + 1)) A)) (fun v6 _ => ?_)
    refine js_lor (pc1 := 74) rfl rfl ?_
    refine js_lload (pc1 := 76) rfl rfl rfl ?_
    refine js_lor (pc1 := 77) rfl rfl ?_
    exact je_J rfl
  refine zG_ite (fun c9 => ?_) (fun c9 => ?_)
  · refine js_tsw (t1 := 78) rfl c9 (zlit rfl) (by decide) ?_
    refine js_aload (pc1 := 79) rfl rfl rfl ?_
    refine js_iload (pc1 := 81) rfl rfl rfl ?_
    refine js_cJ (pc1 := 84) (as := [(.inr (.inr (some 107))), (.inl v3)]) (S0 := []) (m := 2) (L0 := [some (.inr (.inr (some 107))), some (.inl v3)]) rfl rfl rfl rfl rfl rfl rfl rfl (zrc_o rfl rfl) (by omega) (by omega) (z_Mv_neededAt_ok N (by omega) (by omega) v3 hv3 A) (fun v8 _ => ?_)
    exact je_J rfl
  refine zG_ite (fun c11 => ?_) (fun c11 => ?_)
  · refine js_tsw (t1 := 64) rfl c11 (zlit rfl) (by decide) ?_
    refine js_lload (pc1 := 65) rfl rfl rfl ?_
    refine js_aload (pc1 := 66) rfl rfl rfl ?_
    refine js_iload (pc1 := 68) rfl rfl rfl ?_
    refine js_iconst (pc1 := 69) rfl rfl ?_
    refine js_iadd (pc1 := 70) rfl rfl ?_
    refine js_cJ (pc1 := 73) (as := [(.inr (.inr (some 107))), (.inl (v3 + 1))]) (S0 := [(.inr (.inl v1))]) (m := 2) (L0 := [some (.inr (.inr (some 107))), some (.inl (v3 + 1))]) rfl rfl rfl rfl rfl rfl rfl rfl (zrc_o rfl rfl) (by omega) (by omega) (zG_to (L := [some (.inr (.inr (some 107))), some (.inl (zw (v3 + 1)))]) (S := []) ⟨rfl, ⟨zval_w (v3 + 1), trivial⟩⟩ rfl (z_Mv_neededAt_ok N (by omega) (by omega) (zw (v3 + 1)) (zw_rg (v3 + 1)) A)) (fun v10 _ => ?_)
    refine js_lor (pc1 := 74) rfl rfl ?_
    refine js_lload (pc1 := 76) rfl rfl rfl ?_
    refine js_lor (pc1 := 77) rfl rfl ?_
    exact je_J rfl
  refine zG_ite (fun c15 => ?_) (fun c15 => ?_)
  · refine js_tsw (t1 := 85) rfl c15 (zlit rfl) (by decide) ?_
    refine js_aload (pc1 := 86) rfl rfl rfl ?_
    refine js_iload (pc1 := 88) rfl rfl rfl ?_
    refine js_cP (pc1 := 91) (as := [(.inr (.inr (some x1))), (.inl v3)]) (S0 := []) (m := 2) (L0 := [some (.inr (.inr (some x1))), some (.inl v3)]) rfl rfl rfl rfl rfl rfl rfl rfl (zrc_o rfl hx1) (by omega) (by omega) (z_Pt_kind_ok N (by omega) (by omega) x1 hx1 v3 hv3 A) (fun v12 _ hv12 => ?_)
    refine js_iconst (pc1 := 93) rfl rfl ?_
    refine jt_ne (pc1 := 96) (t1 := 105) hv12 (zlit rfl) rfl rfl rfl (fun c13 => ?_) (fun c13 => ?_)
    · refine js_aload (pc1 := 97) rfl rfl rfl ?_
      refine js_iload (pc1 := 99) rfl rfl rfl ?_
      refine js_cJ (pc1 := 102) (as := [(.inr (.inr (some 107))), (.inl v3)]) (S0 := []) (m := 2) (L0 := [some (.inr (.inr (some 107))), some (.inl v3)]) rfl rfl rfl rfl rfl rfl rfl rfl (zrc_o rfl rfl) (by omega) (by omega) (z_Mv_neededAt_ok N (by omega) (by omega) v3 hv3 A) (fun v14 _ => ?_)
      refine js_goto (t1 := 106) rfl rfl ?_
      exact je_J rfl
    · refine js_lload (pc1 := 106) rfl rfl rfl ?_
      exact je_J rfl
  rcases Decidable.em (v4 = 10) with c17 | c17
  · refine js_tsw (t1 := 116) rfl c17 (zlit rfl) (by decide) ?_
    refine js_aload (pc1 := 117) rfl rfl rfl ?_
    refine js_iload (pc1 := 118) rfl rfl rfl ?_
    refine js_lload (pc1 := 119) rfl rfl rfl ?_
    refine js_lload (pc1 := 121) rfl rfl rfl ?_
    refine js_cJ (pc1 := 124) (as := [(.inr (.inr (some x1))), (.inl x2), (.inr (.inl v1)), (.inr (.inl v2))]) (S0 := []) (m := 7) (L0 := [some (.inr (.inr (some x1))), some (.inl x2), some (.inr (.inl v1)), none, some (.inr (.inl v2)), none, none]) rfl rfl rfl rfl rfl rfl rfl rfl (zrc_s rfl) (by omega) (by omega) (z_Mv_neededAheadOfPlain_ok N (by omega) (by omega) x1 hx1 x2 hx2 v1 v2 A) (fun v16 _ => ?_)
    exact je_J rfl
  refine js_tswd (t1 := 116) rfl hv4 (by omega) rfl ?_
  refine js_aload (pc1 := 117) rfl rfl rfl ?_
  refine js_iload (pc1 := 118) rfl rfl rfl ?_
  refine js_lload (pc1 := 119) rfl rfl rfl ?_
  refine js_lload (pc1 := 121) rfl rfl rfl ?_
  refine js_cJ (pc1 := 124) (as := [(.inr (.inr (some x1))), (.inl x2), (.inr (.inl v1)), (.inr (.inl v2))]) (S0 := []) (m := 7) (L0 := [some (.inr (.inr (some x1))), some (.inl x2), some (.inr (.inl v1)), none, some (.inr (.inl v2)), none, none]) rfl rfl rfl rfl rfl rfl rfl rfl (zrc_s rfl) (by omega) (by omega) (z_Mv_neededAheadOfPlain_ok N (by omega) (by omega) x1 hx1 x2 hx2 v1 v2 A) (fun v16 _ => ?_)
  exact je_J rfl
theorem z_Mv_findNeeded_91_ok{d w : Nat} {r38 : Nat → Int → Int → zA → Option zA} (hr38 : ∀ (x1 : Nat) (hx1 : zsh x1 = some (false, 3, 4)) (x3 : Int) (hx3 : zrg x3) (x4 : Int) (hx4 : zrg x4) (A : zA), zG (r38 x1 x3 x4 A) zPV d w 170 38 [some (.inr (.inr (some 107))), some (.inr (.inr (some x1))), none, some (.inl x3), some (.inl x4), none, none, none] [] A) {r60 : Nat → Int → Int → Int → zA → Option zA} (hr60 : ∀ (x1 : Nat) (hx1 : zsh x1 = some (false, 3, 4)) (x3 : Int) (hx3 : zrg x3) (x4 : Int) (hx4 : zrg x4) (x5 : Int) (hx5 : zrg x5) (A : zA), zG (r60 x1 x3 x4 x5 A) zPV d w 170 60 [some (.inr (.inr (some 107))), some (.inr (.inr (some x1))), none, some (.inl x3), some (.inl x4), some (.inl x5), none, none] [] A) (N : Nat) (hd : 4 ≤ d) (hw : 99 ≤ w) (x1 : Nat) (hx1 : zsh x1 = some (false, 3, 4)) (x4 : Int) (hx4 : zrg x4) (x5 : Int) (hx5 : zrg x5) (x6 : Int64) (A : zA) : zG (z_Mv_findNeeded_91 r38 r60 N x1 x4 x5 x6 A) zPV d w 170 91 [some (.inr (.inr (some 107))), some (.inr (.inr (some x1))), none, none, some (.inl x4), some (.inl x5), some (.inr (.inl x6)), none] [] A := by
  unfold z_Mv_findNeeded_91
  refine js_iconst (pc1 := 92) rfl rfl ?_
  refine js_goto (t1 := 96) rfl rfl ?_
  refine js_istore (pc1 := 97) (L1 := [some (.inr (.inr (some 107))), some (.inr (.inr (some x1))), none, some (.inl 1), some (.inl x4), some (.inl x5), some (.inr (.inl x6)), none]) rfl rfl rfl rfl ?_
  refine js_aload (pc1 := 98) rfl rfl rfl ?_
  refine js_gfr (pc1 := 101) (j := 0) (r := 108) rfl rfl rfl rfl rfl ?_
  refine js_iload (pc1 := 103) rfl rfl rfl ?_
  refine js_lload (pc1 := 105) rfl rfl rfl ?_
  refine jt_las (pc1 := 106) rfl rfl rfl rfl (fun A1 => ?_)
  refine js_iinc (pc1 := 109) (L1 := [some (.inr (.inr (some 107))), some (.inr (.inr (some x1))), none, some (.inl 1), some (.inl x4), some (.inl (x5 + (-1))), some (.inr (.inl x6)), none]) rfl rfl rfl rfl ?_
  refine js_goto (t1 := 60) rfl rfl ?_
  exact zG_to (L := [some (.inr (.inr (some 107))), some (.inr (.inr (some x1))), none, some (.inl 1), some (.inl x4), some (.inl (zw (x5 + (-1)))), none, none]) (S := []) ⟨rfl, ⟨rfl, ⟨rfl, ⟨rfl, ⟨zval_w (x5 + (-1)), trivial⟩⟩⟩⟩⟩ (rfl) (hr60 x1 hx1 1 (zlit rfl) x4 hx4 (zw (x5 + (-1))) (zw_rg (x5 + (-1))) A1)
theorem z_Mv_findNeeded_60_bok{d w : Nat} {r38 : Nat → Int → Int → zA → Option zA} (hr38 : ∀ (x1 : Nat) (hx1 : zsh x1 = some (false, 3, 4)) (x3 : Int) (hx3 : zrg x3) (x4 : Int) (hx4 : zrg x4) (A : zA), zG (r38 x1 x3 x4 A) zPV d w 170 38 [some (.inr (.inr (some 107))), some (.inr (.inr (some x1))), none, some (.inl x3), some (.inl x4), none, none, none] [] A) {r60 : Nat → Int → Int → Int → zA → Option zA} (hr60 : ∀ (x1 : Nat) (hx1 : zsh x1 = some (false, 3, 4)) (x3 : Int) (hx3 : zrg x3) (x4 : Int) (hx4 : zrg x4) (x5 : Int) (hx5 : zrg x5) (A : zA), zG (r60 x1 x3 x4 x5 A) zPV d w 170 60 [some (.inr (.inr (some 107))), some (.inr (.inr (some x1))), none, some (.inl x3), some (.inl x4), some (.inl x5), none, none] [] A) (N : Nat) (hd : 4 ≤ d) (hw : 99 ≤ w) (x1 : Nat) (hx1 : zsh x1 = some (false, 3, 4)) (x3 : Int) (hx3 : zrg x3) (x4 : Int) (hx4 : zrg x4) (x5 : Int) (hx5 : zrg x5) (A : zA) : zG (z_Mv_findNeeded_60_b r38 r60 N x1 x3 x4 x5 A) zPV d w 170 60 [some (.inr (.inr (some 107))), some (.inr (.inr (some x1))), none, some (.inl x3), some (.inl x4), some (.inl x5), none, none] [] A := by
  unfold z_Mv_findNeeded_60_b
  refine js_iload (pc1 := 62) rfl rfl rfl ?_
  refine ju_lt (pc1 := 65) (t1 := 112) hx5 rfl rfl rfl (fun c1 => ?_) (fun c1 => ?_)
  · refine js_iinc (pc1 := 115) (L1 := [some (.inr (.inr (some 107))), some (.inr (.inr (some x1))), none, some (.inl x3), some (.inl (x4 + 1)), some (.inl x5), none, none]) rfl rfl rfl rfl ?_
    refine js_goto (t1 := 38) rfl rfl ?_
    exact zG_to (L := [some (.inr (.inr (some 107))), some (.inr (.inr (some x1))), none, some (.inl x3), some (.inl (zw (x4 + 1))), none, none, none]) (S := []) ⟨rfl, ⟨rfl, ⟨rfl, ⟨zval_w (x4 + 1), trivial⟩⟩⟩⟩ (rfl) (hr38 x1 hx1 x3 hx3 (zw (x4 + 1)) (zw_rg (x4 + 1)) A)
  · refine js_aload (pc1 := 66) rfl rfl rfl ?_
    refine js_aload (pc1 := 67) rfl rfl rfl ?_
    refine js_iload (pc1 := 69) rfl rfl rfl ?_
    refine js_cJ (pc1 := 72) (as := [(.inr (.inr (some 107))), (.inr (.inr (some x1))), (.inl x5)]) (S0 := []) (m := 8) (L0 := [some (.inr (.inr (some 107))), some (.inr (.inr (some x1))), some (.inl x5), none, none, none, none, none]) rfl rfl rfl rfl rfl rfl rfl rfl (zrc_o rfl rfl) (by omega) (by omega) (z_Mv_neededAhead_ok N (by omega) (by omega) x1 hx1 x5 hx5 A) (fun v2 _ => ?_)
    refine js_lstore (pc1 := 74) (L1 := [some (.inr (.inr (some 107))), some (.inr (.inr (some x1))), none, some (.inl x3), some (.inl x4), some (.inl x5), some (.inr (.inl v2)), none]) rfl rfl rfl rfl ?_
    refine js_iload (pc1 := 75) rfl rfl rfl ?_
    refine ju_ne (pc1 := 78) (t1 := 91) hx3 rfl rfl rfl (fun c3 => ?_) (fun c3 => ?_)
    · refine js_lload (pc1 := 80) rfl rfl rfl ?_
      refine js_aload (pc1 := 81) rfl rfl rfl ?_
      refine js_gfr (pc1 := 84) (j := 0) (r := 108) rfl rfl rfl rfl rfl ?_
      refine js_iload (pc1 := 86) rfl rfl rfl ?_
      refine jt_lald (pc1 := 87) rfl rfl rfl (fun v4 => ?_)
      refine js_lcmp (pc1 := 88) rfl rfl ?_
      refine ju_eq (pc1 := 91) (t1 := 95) (zt_rg _) rfl rfl rfl (fun c5 => ?_) (fun c5 => ?_)
      · refine js_iconst (pc1 := 96) rfl rfl ?_
        refine js_istore (pc1 := 97) (L1 := [some (.inr (.inr (some 107))), some (.inr (.inr (some x1))), none, some (.inl 0), some (.inl x4), some (.inl x5), some (.inr (.inl v2)), none]) rfl rfl rfl rfl ?_
        refine js_aload (pc1 := 98) rfl rfl rfl ?_
        refine js_gfr (pc1 := 101) (j := 0) (r := 108) rfl rfl rfl rfl rfl ?_
        refine js_iload (pc1 := 103) rfl rfl rfl ?_
        refine js_lload (pc1 := 105) rfl rfl rfl ?_
        refine jt_las (pc1 := 106) rfl rfl rfl rfl (fun A6 => ?_)
        refine js_iinc (pc1 := 109) (L1 := [some (.inr (.inr (some 107))), some (.inr (.inr (some x1))), none, some (.inl 0), some (.inl x4), some (.inl (x5 + (-1))), some (.inr (.inl v2)), none]) rfl rfl rfl rfl ?_
        refine js_goto (t1 := 60) rfl rfl ?_
        exact zG_to (L := [some (.inr (.inr (some 107))), some (.inr (.inr (some x1))), none, some (.inl 0), some (.inl x4), some (.inl (zw (x5 + (-1)))), none, none]) (S := []) ⟨rfl, ⟨rfl, ⟨rfl, ⟨rfl, ⟨zval_w (x5 + (-1)), trivial⟩⟩⟩⟩⟩ (rfl) (hr60 x1 hx1 0 (zlit rfl) x4 hx4 (zw (x5 + (-1))) (zw_rg (x5 + (-1))) A6)
      · exact zG_to (L := [some (.inr (.inr (some 107))), some (.inr (.inr (some x1))), none, none, some (.inl x4), some (.inl x5), some (.inr (.inl v2)), none]) (S := []) ⟨rfl, ⟨rfl, ⟨rfl, ⟨rfl, ⟨rfl, trivial⟩⟩⟩⟩⟩ (rfl) (z_Mv_findNeeded_91_ok hr38 hr60 N hd hw x1 hx1 x4 hx4 x5 hx5 v2 A)
    · exact zG_to (L := [some (.inr (.inr (some 107))), some (.inr (.inr (some x1))), none, none, some (.inl x4), some (.inl x5), some (.inr (.inl v2)), none]) (S := []) ⟨rfl, ⟨rfl, ⟨rfl, ⟨rfl, ⟨rfl, trivial⟩⟩⟩⟩⟩ (rfl) (z_Mv_findNeeded_91_ok hr38 hr60 N hd hw x1 hx1 x4 hx4 x5 hx5 v2 A)
theorem z_Mv_findNeeded_60_lok{d w : Nat} {r38 : Nat → Int → Int → zA → Option zA} (hr38 : ∀ (x1 : Nat) (hx1 : zsh x1 = some (false, 3, 4)) (x3 : Int) (hx3 : zrg x3) (x4 : Int) (hx4 : zrg x4) (A : zA), zG (r38 x1 x3 x4 A) zPV d w 170 38 [some (.inr (.inr (some 107))), some (.inr (.inr (some x1))), none, some (.inl x3), some (.inl x4), none, none, none] [] A) (N : Nat) (hd : 4 ≤ d) (hw : 99 ≤ w) (n : Nat) : ∀ (x1 : Nat) (hx1 : zsh x1 = some (false, 3, 4)) (x3 : Int) (hx3 : zrg x3) (x4 : Int) (hx4 : zrg x4) (x5 : Int) (hx5 : zrg x5) (A : zA), zG (z_Mv_findNeeded_60_l r38 N n x1 x3 x4 x5 A) zPV d w 170 60 [some (.inr (.inr (some 107))), some (.inr (.inr (some x1))), none, some (.inl x3), some (.inl x4), some (.inl x5), none, none] [] A := by
  induction n with
  | zero => intros; exact zG_none
  | succ n ih =>
    intro x1 hx1 x3 hx3 x4 hx4 x5 hx5 A
    exact z_Mv_findNeeded_60_bok hr38 ih N hd hw x1 hx1 x3 hx3 x4 hx4 x5 hx5 A
theorem z_Mv_findNeeded_60_ok{d w : Nat} {r38 : Nat → Int → Int → zA → Option zA} (hr38 : ∀ (x1 : Nat) (hx1 : zsh x1 = some (false, 3, 4)) (x3 : Int) (hx3 : zrg x3) (x4 : Int) (hx4 : zrg x4) (A : zA), zG (r38 x1 x3 x4 A) zPV d w 170 38 [some (.inr (.inr (some 107))), some (.inr (.inr (some x1))), none, some (.inl x3), some (.inl x4), none, none, none] [] A) (N : Nat) (hd : 4 ≤ d) (hw : 99 ≤ w) (x1 : Nat) (hx1 : zsh x1 = some (false, 3, 4)) (x3 : Int) (hx3 : zrg x3) (x4 : Int) (hx4 : zrg x4) (x5 : Int) (hx5 : zrg x5) (A : zA) : zG (z_Mv_findNeeded_60 r38 N x1 x3 x4 x5 A) zPV d w 170 60 [some (.inr (.inr (some 107))), some (.inr (.inr (some x1))), none, some (.inl x3), some (.inl x4), some (.inl x5), none, none] [] A := z_Mv_findNeeded_60_lok hr38 N hd hw N x1 hx1 x3 hx3 x4 hx4 x5 hx5 A
theorem z_Mv_findNeeded_38_bok{d w : Nat} {r38 : Nat → Int → Int → zA → Option zA} (hr38 : ∀ (x1 : Nat) (hx1 : zsh x1 = some (false, 3, 4)) (x3 : Int) (hx3 : zrg x3) (x4 : Int) (hx4 : zrg x4) (A : zA), zG (r38 x1 x3 x4 A) zPV d w 170 38 [some (.inr (.inr (some 107))), some (.inr (.inr (some x1))), none, some (.inl x3), some (.inl x4), none, none, none] [] A) (N : Nat) (hd : 4 ≤ d) (hw : 99 ≤ w) (x1 : Nat) (hx1 : zsh x1 = some (false, 3, 4)) (x3 : Int) (hx3 : zrg x3) (x4 : Int) (hx4 : zrg x4) (A : zA) : zG (z_Mv_findNeeded_38_b r38 N x1 x3 x4 A) zPV d w 170 38 [some (.inr (.inr (some 107))), some (.inr (.inr (some x1))), none, some (.inl x3), some (.inl x4), none, none, none] [] A := by
  unfold z_Mv_findNeeded_38_b
  refine js_iload (pc1 := 39) rfl rfl rfl ?_
  refine ju_eq (pc1 := 42) (t1 := 118) hx3 rfl rfl rfl (fun c1 => ?_) (fun c1 => ?_)
  · exact je_V rfl
  · refine js_iload (pc1 := 44) rfl rfl rfl ?_
    refine js_iconst (pc1 := 47) rfl rfl ?_
    refine jt_ge (pc1 := 50) (t1 := 118) hx4 (zlit rfl) rfl rfl rfl (fun c2 => ?_) (fun c2 => ?_)
    · refine js_iconst (pc1 := 51) rfl rfl ?_
      refine js_istore (pc1 := 52) (L1 := [some (.inr (.inr (some 107))), some (.inr (.inr (some x1))), none, some (.inl 0), some (.inl x4), none, none, none]) rfl rfl rfl rfl ?_
      refine js_aload (pc1 := 53) rfl rfl rfl ?_
      refine js_gi (pc1 := 56) (j := 2) rfl rfl hx1 rfl ?_
      refine js_iconst (pc1 := 57) rfl rfl ?_
      refine js_isub (pc1 := 58) rfl rfl ?_
      refine zG_w1 ?_
      refine js_istore (pc1 := 60) (L1 := [some (.inr (.inr (some 107))), some (.inr (.inr (some x1))), none, some (.inl 0), some (.inl x4), some (.inl (zw ((zi A x1 2) - 1))), none, none]) rfl rfl rfl rfl ?_
      exact z_Mv_findNeeded_60_ok hr38 N hd hw x1 hx1 0 (zlit rfl) x4 hx4 (zw ((zi A x1 2) - 1)) (zw_rg ((zi A x1 2) - 1)) A
    · exact je_V rfl
theorem z_Mv_findNeeded_38_lok{d w : Nat} (N : Nat) (hd : 4 ≤ d) (hw : 99 ≤ w) (n : Nat) : ∀ (x1 : Nat) (hx1 : zsh x1 = some (false, 3, 4)) (x3 : Int) (hx3 : zrg x3) (x4 : Int) (hx4 : zrg x4) (A : zA), zG (z_Mv_findNeeded_38_l N n x1 x3 x4 A) zPV d w 170 38 [some (.inr (.inr (some 107))), some (.inr (.inr (some x1))), none, some (.inl x3), some (.inl x4), none, none, none] [] A := by
  induction n with
  | zero => intros; exact zG_none
  | succ n ih =>
    intro x1 hx1 x3 hx3 x4 hx4 A
    exact z_Mv_findNeeded_38_bok ih N hd hw x1 hx1 x3 hx3 x4 hx4 A
theorem z_Mv_findNeeded_38_ok{d w : Nat} (N : Nat) (hd : 4 ≤ d) (hw : 99 ≤ w) (x1 : Nat) (hx1 : zsh x1 = some (false, 3, 4)) (x3 : Int) (hx3 : zrg x3) (x4 : Int) (hx4 : zrg x4) (A : zA) : zG (z_Mv_findNeeded_38 N x1 x3 x4 A) zPV d w 170 38 [some (.inr (.inr (some 107))), some (.inr (.inr (some x1))), none, some (.inl x3), some (.inl x4), none, none, none] [] A := z_Mv_findNeeded_38_lok N hd hw N x1 hx1 x3 hx3 x4 hx4 A
theorem z_Mv_findNeeded_ok{d w : Nat} (N : Nat) (hd : 4 ≤ d) (hw : 99 ≤ w) (x1 : Nat) (hx1 : zsh x1 = some (false, 3, 4)) (x2 : Int) (hx2 : zrg x2) (A : zA) : zG (z_Mv_findNeeded N x1 x2 A) zPV d w 170 0 [some (.inr (.inr (some 107))), some (.inr (.inr (some x1))), some (.inl x2), none, none, none, none, none] [] A := by
  unfold z_Mv_findNeeded
  refine js_aload (pc1 := 1) rfl rfl rfl ?_
  refine js_gfr (pc1 := 4) (j := 0) (r := 108) rfl rfl rfl rfl rfl ?_
  refine js_iconst (pc1 := 5) rfl rfl ?_
  refine js_aload (pc1 := 6) rfl rfl rfl ?_
  refine js_gi (pc1 := 9) (j := 2) rfl rfl hx1 rfl ?_
  refine js_ldc2 (pc1 := 10) rfl rfl ?_
  refine js_cV (pc1 := 13) (as := [(.inr (.inr (some 108))), (.inl 0), (.inl (zi A x1 2)), (.inr (.inl (Int64.ofNat 0)))]) (S0 := []) (m := 6) (L0 := [some (.inr (.inr (some 108))), some (.inl 0), some (.inl (zi A x1 2)), some (.inr (.inl (Int64.ofNat 0))), none, none]) rfl rfl rfl rfl rfl rfl rfl rfl (zrc_s rfl) (by omega) (by omega) (z_Ar_fill3_ok N (by omega) (by omega) 108 0 (zlit rfl) (zi A x1 2) (zi_rg _ _ _) (Int64.ofNat 0) A) (fun A1 _ => ?_)
  refine js_aload (pc1 := 14) rfl rfl rfl ?_
  refine js_gfr (pc1 := 17) (j := 0) (r := 108) rfl rfl rfl rfl rfl ?_
  refine js_aload (pc1 := 18) rfl rfl rfl ?_
  refine js_gi (pc1 := 21) (j := 2) rfl rfl hx1 rfl ?_
  refine js_iload (pc1 := 22) rfl rfl rfl ?_
  refine ju_eq (pc1 := 25) (t1 := 31) hx2 rfl rfl rfl (fun c2 => ?_) (fun c2 => ?_)
  · refine js_ldc2 (pc1 := 32) rfl rfl ?_
    refine jt_las (pc1 := 33) rfl rfl rfl rfl (fun A3 => ?_)
    refine js_iconst (pc1 := 34) rfl rfl ?_
    refine js_istore (pc1 := 35) (L1 := [some (.inr (.inr (some 107))), some (.inr (.inr (some x1))), some (.inl x2), some (.inl 1), none, none, none, none]) rfl rfl rfl rfl ?_
    refine js_iconst (pc1 := 36) rfl rfl ?_
    refine js_istore (pc1 := 38) (L1 := [some (.inr (.inr (some 107))), some (.inr (.inr (some x1))), some (.inl x2), some (.inl 1), some (.inl 0), none, none, none]) rfl rfl rfl rfl ?_
    exact zG_to (L := [some (.inr (.inr (some 107))), some (.inr (.inr (some x1))), none, some (.inl 1), some (.inl 0), none, none, none]) (S := []) ⟨rfl, ⟨rfl, ⟨rfl, ⟨rfl, trivial⟩⟩⟩⟩ (rfl) (z_Mv_findNeeded_38_ok N hd hw x1 hx1 1 (zlit rfl) 0 (zlit rfl) A3)
  · refine js_ldc2 (pc1 := 28) rfl rfl ?_
    refine js_goto (t1 := 32) rfl rfl ?_
    refine jt_las (pc1 := 33) rfl rfl rfl rfl (fun A4 => ?_)
    refine js_iconst (pc1 := 34) rfl rfl ?_
    refine js_istore (pc1 := 35) (L1 := [some (.inr (.inr (some 107))), some (.inr (.inr (some x1))), some (.inl x2), some (.inl 1), none, none, none, none]) rfl rfl rfl rfl ?_
    refine js_iconst (pc1 := 36) rfl rfl ?_
    refine js_istore (pc1 := 38) (L1 := [some (.inr (.inr (some 107))), some (.inr (.inr (some x1))), some (.inl x2), some (.inl 1), some (.inl 0), none, none, none]) rfl rfl rfl rfl ?_
    exact zG_to (L := [some (.inr (.inr (some 107))), some (.inr (.inr (some x1))), none, some (.inl 1), some (.inl 0), none, none, none]) (S := []) ⟨rfl, ⟨rfl, ⟨rfl, ⟨rfl, trivial⟩⟩⟩⟩ (rfl) (z_Mv_findNeeded_38_ok N hd hw x1 hx1 1 (zlit rfl) 0 (zlit rfl) A4)
theorem z_Mv_drop_55_ok{d w : Nat} {r17 : Nat → Nat → Int → zA → Option (Int × zA)} (hr17 : ∀ (x1 : Nat) (hx1 : zsh x1 = some (false, 3, 4)) (x2 : Nat) (hx2 : zsh x2 = some (false, 3, 4)) (x4 : Int) (hx4 : zrg x4) (A : zA), zG (r17 x1 x2 x4 A) zPI d w 140 17 [some (.inr (.inr (some 107))), some (.inr (.inr (some x1))), some (.inr (.inr (some x2))), none, some (.inl x4)] [] A) (N : Nat) (hd : 5 ≤ d) (hw : 130 ≤ w) (x1 : Nat) (hx1 : zsh x1 = some (false, 3, 4)) (x2 : Nat) (hx2 : zsh x2 = some (false, 3, 4)) (x4 : Int) (hx4 : zrg x4) (A : zA) : zG (z_Mv_drop_55 r17 N x1 x2 x4 A) zPI d w 140 55 [some (.inr (.inr (some 107))), some (.inr (.inr (some x1))), some (.inr (.inr (some x2))), none, some (.inl x4)] [] A := by
  unfold z_Mv_drop_55
  refine js_aload (pc1 := 56) rfl rfl rfl ?_
  refine js_aload (pc1 := 57) rfl rfl rfl ?_
  refine js_iload (pc1 := 59) rfl rfl rfl ?_
  refine js_cV (pc1 := 62) (as := [(.inr (.inr (some x2))), (.inr (.inr (some x1))), (.inl x4)]) (S0 := []) (m := 3) (L0 := [some (.inr (.inr (some x2))), some (.inr (.inr (some x1))), some (.inl x4)]) rfl rfl rfl rfl rfl rfl rfl rfl (zrc_o rfl hx2) (by omega) (by omega) (z_Pt_addCopy_ok N (by omega) (by omega) x2 hx2 x1 hx1 x4 hx4 A) (fun A1 _ => ?_)
  refine js_iinc (pc1 := 65) (L1 := [some (.inr (.inr (some 107))), some (.inr (.inr (some x1))), some (.inr (.inr (some x2))), none, some (.inl (x4 + 1))]) rfl rfl rfl rfl ?_
  refine js_goto (t1 := 17) rfl rfl ?_
  exact zG_to (L := [some (.inr (.inr (some 107))), some (.inr (.inr (some x1))), some (.inr (.inr (some x2))), none, some (.inl (zw (x4 + 1)))]) (S := []) ⟨rfl, ⟨rfl, ⟨rfl, ⟨zval_w (x4 + 1), trivial⟩⟩⟩⟩ (rfl) (hr17 x1 hx1 x2 hx2 (zw (x4 + 1)) (zw_rg (x4 + 1)) A1)
theorem z_Mv_drop_68_ok{d w : Nat} (N : Nat) (hd : 5 ≤ d) (hw : 130 ≤ w) (x1 : Nat) (hx1 : zsh x1 = some (false, 3, 4)) (x2 : Nat) (hx2 : zsh x2 = some (false, 3, 4)) (A : zA) : zG (z_Mv_drop_68 N x1 x2 A) zPI d w 140 68 [none, some (.inr (.inr (some x1))), some (.inr (.inr (some x2))), none, none] [] A := by
  unfold z_Mv_drop_68
  refine js_aload (pc1 := 69) rfl rfl rfl ?_
  refine js_cV (pc1 := 72) (as := [(.inr (.inr (some x2)))]) (S0 := []) (m := 6) (L0 := [some (.inr (.inr (some x2))), none, none, none, none, none]) rfl rfl rfl rfl rfl rfl rfl rfl (zrc_o rfl hx2) (by omega) (by omega) (z_Pt_link_ok N (by omega) (by omega) x2 hx2 A) (fun A1 _ => ?_)
  refine js_aload (pc1 := 73) rfl rfl rfl ?_
  refine js_gi (pc1 := 76) (j := 2) rfl rfl hx1 rfl ?_
  refine js_aload (pc1 := 77) rfl rfl rfl ?_
  refine js_gi (pc1 := 80) (j := 2) rfl rfl hx2 rfl ?_
  refine js_isub (pc1 := 81) rfl rfl ?_
  exact je_I rfl (zfit0 _ rfl) (zval_w ((zi A1 x1 2) - (zi A1 x2 2))) (zw_rg ((zi A1 x1 2) - (zi A1 x2 2)))
theorem z_Mv_drop_17_bok{d w : Nat} {r17 : Nat → Nat → Int → zA → Option (Int × zA)} (hr17 : ∀ (x1 : Nat) (hx1 : zsh x1 = some (false, 3, 4)) (x2 : Nat) (hx2 : zsh x2 = some (false, 3, 4)) (x4 : Int) (hx4 : zrg x4) (A : zA), zG (r17 x1 x2 x4 A) zPI d w 140 17 [some (.inr (.inr (some 107))), some (.inr (.inr (some x1))), some (.inr (.inr (some x2))), none, some (.inl x4)] [] A) (N : Nat) (hd : 5 ≤ d) (hw : 130 ≤ w) (x1 : Nat) (hx1 : zsh x1 = some (false, 3, 4)) (x2 : Nat) (hx2 : zsh x2 = some (false, 3, 4)) (x4 : Int) (hx4 : zrg x4) (A : zA) : zG (z_Mv_drop_17_b r17 N x1 x2 x4 A) zPI d w 140 17 [some (.inr (.inr (some 107))), some (.inr (.inr (some x1))), some (.inr (.inr (some x2))), none, some (.inl x4)] [] A := by
  unfold z_Mv_drop_17_b
  refine js_iload (pc1 := 19) rfl rfl rfl ?_
  refine js_aload (pc1 := 20) rfl rfl rfl ?_
  refine js_gi (pc1 := 23) (j := 2) rfl rfl hx1 rfl ?_
  refine jt_ge (pc1 := 26) (t1 := 68) hx4 (zi_rg _ _ _) rfl rfl rfl (fun c1 => ?_) (fun c1 => ?_)
  · refine js_aload (pc1 := 27) rfl rfl rfl ?_
    refine js_iload (pc1 := 29) rfl rfl rfl ?_
    refine js_cP (pc1 := 32) (as := [(.inr (.inr (some x1))), (.inl x4)]) (S0 := []) (m := 3) (L0 := [some (.inr (.inr (some x1))), some (.inl x4), none]) rfl rfl rfl rfl rfl rfl rfl rfl (zrc_o rfl hx1) (by omega) (by omega) (z_Pt_isHarmless_ok N (by omega) (by omega) x1 hx1 x4 hx4 A) (fun v2 _ hv2 => ?_)
    refine ju_eq (pc1 := 35) (t1 := 55) hv2 rfl rfl rfl (fun c3 => ?_) (fun c3 => ?_)
    · exact z_Mv_drop_55_ok hr17 N hd hw x1 hx1 x2 hx2 x4 hx4 A
    · refine js_aload (pc1 := 36) rfl rfl rfl ?_
      refine js_iload (pc1 := 38) rfl rfl rfl ?_
      refine js_cP (pc1 := 41) (as := [(.inr (.inr (some x1))), (.inl x4)]) (S0 := []) (m := 3) (L0 := [some (.inr (.inr (some x1))), some (.inl x4), none]) rfl rfl rfl rfl rfl rfl rfl rfl (zrc_o rfl hx1) (by omega) (by omega) (z_Pt_written_ok N (by omega) (by omega) x1 hx1 x4 hx4 A) (fun v4 _ hv4 => ?_)
      refine js_aload (pc1 := 42) rfl rfl rfl ?_
      refine js_iload (pc1 := 44) rfl rfl rfl ?_
      refine js_iconst (pc1 := 45) rfl rfl ?_
      refine js_iadd (pc1 := 46) rfl rfl ?_
      refine js_cJ (pc1 := 49) (as := [(.inr (.inr (some 107))), (.inl (x4 + 1))]) (S0 := [(.inl v4)]) (m := 2) (L0 := [some (.inr (.inr (some 107))), some (.inl (x4 + 1))]) rfl rfl rfl rfl rfl rfl rfl rfl (zrc_o rfl rfl) (by omega) (by omega) (zG_to (L := [some (.inr (.inr (some 107))), some (.inl (zw (x4 + 1)))]) (S := []) ⟨rfl, ⟨zval_w (x4 + 1), trivial⟩⟩ rfl (z_Mv_neededAt_ok N (by omega) (by omega) (zw (x4 + 1)) (zw_rg (x4 + 1)) A)) (fun v5 _ => ?_)
      refine js_cP (pc1 := 52) (as := [(.inl v4), (.inr (.inl v5))]) (S0 := []) (m := 3) (L0 := [some (.inl v4), some (.inr (.inl v5)), none]) rfl rfl rfl rfl rfl rfl rfl rfl (zrc_s rfl) (by omega) (by omega) (z_Mv_isNeeded_ok N (by omega) (by omega) v4 hv4 v5 A) (fun v6 _ hv6 => ?_)
      refine ju_eq (pc1 := 55) (t1 := 62) hv6 rfl rfl rfl (fun c7 => ?_) (fun c7 => ?_)
      · refine js_iinc (pc1 := 65) (L1 := [some (.inr (.inr (some 107))), some (.inr (.inr (some x1))), some (.inr (.inr (some x2))), none, some (.inl (x4 + 1))]) rfl rfl rfl rfl ?_
        refine js_goto (t1 := 17) rfl rfl ?_
        exact zG_to (L := [some (.inr (.inr (some 107))), some (.inr (.inr (some x1))), some (.inr (.inr (some x2))), none, some (.inl (zw (x4 + 1)))]) (S := []) ⟨rfl, ⟨rfl, ⟨rfl, ⟨zval_w (x4 + 1), trivial⟩⟩⟩⟩ (rfl) (hr17 x1 hx1 x2 hx2 (zw (x4 + 1)) (zw_rg (x4 + 1)) A)
      · exact z_Mv_drop_55_ok hr17 N hd hw x1 hx1 x2 hx2 x4 hx4 A
  · exact zG_to (L := [none, some (.inr (.inr (some x1))), some (.inr (.inr (some x2))), none, none]) (S := []) ⟨rfl, ⟨rfl, trivial⟩⟩ (rfl) (z_Mv_drop_68_ok N hd hw x1 hx1 x2 hx2 A)
theorem z_Mv_drop_17_lok{d w : Nat} (N : Nat) (hd : 5 ≤ d) (hw : 130 ≤ w) (n : Nat) : ∀ (x1 : Nat) (hx1 : zsh x1 = some (false, 3, 4)) (x2 : Nat) (hx2 : zsh x2 = some (false, 3, 4)) (x4 : Int) (hx4 : zrg x4) (A : zA), zG (z_Mv_drop_17_l N n x1 x2 x4 A) zPI d w 140 17 [some (.inr (.inr (some 107))), some (.inr (.inr (some x1))), some (.inr (.inr (some x2))), none, some (.inl x4)] [] A := by
  induction n with
  | zero => intros; exact zG_none
  | succ n ih =>
    intro x1 hx1 x2 hx2 x4 hx4 A
    exact z_Mv_drop_17_bok ih N hd hw x1 hx1 x2 hx2 x4 hx4 A
theorem z_Mv_drop_17_ok{d w : Nat} (N : Nat) (hd : 5 ≤ d) (hw : 130 ≤ w) (x1 : Nat) (hx1 : zsh x1 = some (false, 3, 4)) (x2 : Nat) (hx2 : zsh x2 = some (false, 3, 4)) (x4 : Int) (hx4 : zrg x4) (A : zA) : zG (z_Mv_drop_17 N x1 x2 x4 A) zPI d w 140 17 [some (.inr (.inr (some 107))), some (.inr (.inr (some x1))), some (.inr (.inr (some x2))), none, some (.inl x4)] [] A := z_Mv_drop_17_lok N hd hw N x1 hx1 x2 hx2 x4 hx4 A
theorem z_Mv_drop_ok{d w : Nat} (N : Nat) (hd : 5 ≤ d) (hw : 130 ≤ w) (x1 : Nat) (hx1 : zsh x1 = some (false, 3, 4)) (x2 : Nat) (hx2 : zsh x2 = some (false, 3, 4)) (x3 : Int) (hx3 : zrg x3) (A : zA) : zG (z_Mv_drop N x1 x2 x3 A) zPI d w 140 0 [some (.inr (.inr (some 107))), some (.inr (.inr (some x1))), some (.inr (.inr (some x2))), some (.inl x3), none] [] A := by
  unfold z_Mv_drop
  refine js_aload (pc1 := 1) rfl rfl rfl ?_
  refine js_aload (pc1 := 2) rfl rfl rfl ?_
  refine js_iload (pc1 := 3) rfl rfl rfl ?_
  refine js_cV (pc1 := 6) (as := [(.inr (.inr (some 107))), (.inr (.inr (some x1))), (.inl x3)]) (S0 := []) (m := 8) (L0 := [some (.inr (.inr (some 107))), some (.inr (.inr (some x1))), some (.inl x3), none, none, none, none, none]) rfl rfl rfl rfl rfl rfl rfl rfl (zrc_o rfl rfl) (by omega) (by omega) (z_Mv_findNeeded_ok N (by omega) (by omega) x1 hx1 x3 hx3 A) (fun A1 _ => ?_)
  refine js_aload (pc1 := 7) rfl rfl rfl ?_
  refine js_aload (pc1 := 8) rfl rfl rfl ?_
  refine js_gi (pc1 := 11) (j := 3) rfl rfl hx1 rfl ?_
  refine js_cV (pc1 := 14) (as := [(.inr (.inr (some x2))), (.inl (zi A1 x1 3))]) (S0 := []) (m := 2) (L0 := [some (.inr (.inr (some x2))), some (.inl (zi A1 x1 3))]) rfl rfl rfl rfl rfl rfl rfl rfl (zrc_o rfl hx2) (by omega) (by omega) (z_Pt_clear_ok N (by omega) (by omega) x2 hx2 (zi A1 x1 3) (zi_rg _ _ _) A1) (fun A2 _ => ?_)
  refine js_iconst (pc1 := 15) rfl rfl ?_
  refine js_istore (pc1 := 17) (L1 := [some (.inr (.inr (some 107))), some (.inr (.inr (some x1))), some (.inr (.inr (some x2))), some (.inl x3), some (.inl 0)]) rfl rfl rfl rfl ?_
  exact zG_to (L := [some (.inr (.inr (some 107))), some (.inr (.inr (some x1))), some (.inr (.inr (some x2))), none, some (.inl 0)]) (S := []) ⟨rfl, ⟨rfl, ⟨rfl, ⟨rfl, trivial⟩⟩⟩⟩ (rfl) (z_Mv_drop_17_ok N hd hw x1 hx1 x2 hx2 0 (zlit rfl) A2)
theorem z_Ar_fill_5_bok{d w : Nat} {r5 : Nat → Int → Int → Int → zA → Option zA} (hr5 : ∀ (x0 : Nat) (x1 : Int) (hx1 : zrg x1) (x2 : Int) (hx2 : zrg x2) (x3 : Int) (hx3 : zrg x3) (A : zA), zG (r5 x0 x1 x2 x3 A) zPV d w 153 5 [some (.inr (.inr (some x0))), some (.inl x1), some (.inl x2), some (.inl x3)] [] A) (N : Nat) (hd : 0 ≤ d) (hw : 0 ≤ w) (x0 : Nat) (x1 : Int) (hx1 : zrg x1) (x2 : Int) (hx2 : zrg x2) (x3 : Int) (hx3 : zrg x3) (A : zA) : zG (z_Ar_fill_5_b r5 N x0 x1 x2 x3 A) zPV d w 153 5 [some (.inr (.inr (some x0))), some (.inl x1), some (.inl x2), some (.inl x3)] [] A := by
  unfold z_Ar_fill_5_b
  refine js_iload (pc1 := 6) rfl rfl rfl ?_
  refine js_iload (pc1 := 7) rfl rfl rfl ?_
  refine jt_ge (pc1 := 10) (t1 := 20) hx2 hx3 rfl rfl rfl (fun c1 => ?_) (fun c1 => ?_)
  · refine js_aload (pc1 := 11) rfl rfl rfl ?_
    refine js_iload (pc1 := 12) rfl rfl rfl ?_
    refine js_iload (pc1 := 13) rfl rfl rfl ?_
    refine jt_iasD (pc1 := 14) rfl rfl (fun A2 => ?_)
    refine js_iinc (pc1 := 17) (L1 := [some (.inr (.inr (some x0))), some (.inl x1), some (.inl (x2 + 1)), some (.inl x3)]) rfl rfl rfl rfl ?_
    refine js_goto (t1 := 5) rfl rfl ?_
    exact zG_to (L := [some (.inr (.inr (some x0))), some (.inl x1), some (.inl (zw (x2 + 1))), some (.inl x3)]) (S := []) ⟨rfl, ⟨rfl, ⟨zval_w (x2 + 1), ⟨rfl, trivial⟩⟩⟩⟩ (rfl) (hr5 x0 x1 hx1 (zw (x2 + 1)) (zw_rg (x2 + 1)) x3 hx3 A2)
  · exact je_V rfl
theorem z_Ar_fill_5_lok{d w : Nat} (N : Nat) (hd : 0 ≤ d) (hw : 0 ≤ w) (n : Nat) : ∀ (x0 : Nat) (x1 : Int) (hx1 : zrg x1) (x2 : Int) (hx2 : zrg x2) (x3 : Int) (hx3 : zrg x3) (A : zA), zG (z_Ar_fill_5_l N n x0 x1 x2 x3 A) zPV d w 153 5 [some (.inr (.inr (some x0))), some (.inl x1), some (.inl x2), some (.inl x3)] [] A := by
  induction n with
  | zero => intros; exact zG_none
  | succ n ih =>
    intro x0 x1 hx1 x2 hx2 x3 hx3 A
    exact z_Ar_fill_5_bok ih N hd hw x0 x1 hx1 x2 hx2 x3 hx3 A
theorem z_Ar_fill_5_ok{d w : Nat} (N : Nat) (hd : 0 ≤ d) (hw : 0 ≤ w) (x0 : Nat) (x1 : Int) (hx1 : zrg x1) (x2 : Int) (hx2 : zrg x2) (x3 : Int) (hx3 : zrg x3) (A : zA) : zG (z_Ar_fill_5 N x0 x1 x2 x3 A) zPV d w 153 5 [some (.inr (.inr (some x0))), some (.inl x1), some (.inl x2), some (.inl x3)] [] A := z_Ar_fill_5_lok N hd hw N x0 x1 hx1 x2 hx2 x3 hx3 A
theorem z_Ar_fill_ok{d w : Nat} (N : Nat) (hd : 0 ≤ d) (hw : 0 ≤ w) (x0 : Nat) (x1 : Int) (hx1 : zrg x1) (A : zA) : zG (z_Ar_fill N x0 x1 A) zPV d w 153 0 [some (.inr (.inr (some x0))), some (.inl x1), none, none] [] A := by
  unfold z_Ar_fill
  refine js_iconst (pc1 := 1) rfl rfl ?_
  refine js_istore (pc1 := 2) (L1 := [some (.inr (.inr (some x0))), some (.inl x1), some (.inl 0), none]) rfl rfl rfl rfl ?_
  refine js_aload (pc1 := 3) rfl rfl rfl ?_
  refine js_lenD (pc1 := 4) rfl rfl (fun v1 hv1 => ?_)
  refine js_istore (pc1 := 5) (L1 := [some (.inr (.inr (some x0))), some (.inl x1), some (.inl 0), some (.inl v1)]) rfl rfl rfl rfl ?_
  exact z_Ar_fill_5_ok N hd hw x0 x1 hx1 0 (zlit rfl) v1 hv1 A
theorem z_Mv_countWriters_58_bok{d w : Nat} {r11 : Nat → Int → Int → zA → Option zA} (hr11 : ∀ (x1 : Nat) (hx1 : zsh x1 = some (false, 3, 4)) (x3 : Int) (hx3 : zrg x3) (x4 : Int) (hx4 : zrg x4) (A : zA), zG (r11 x1 x3 x4 A) zPV d w 246 11 [some (.inr (.inr (some 107))), some (.inr (.inr (some x1))), none, some (.inl x3), some (.inl x4), none, none] [] A) {r58 : Nat → Int → Int → Int → zA → Option zA} (hr58 : ∀ (x1 : Nat) (hx1 : zsh x1 = some (false, 3, 4)) (x3 : Int) (hx3 : zrg x3) (x4 : Int) (hx4 : zrg x4) (x6 : Int) (hx6 : zrg x6) (A : zA), zG (r58 x1 x3 x4 x6 A) zPV d w 246 58 [some (.inr (.inr (some 107))), some (.inr (.inr (some x1))), none, some (.inl x3), some (.inl x4), none, some (.inl x6)] [] A) (N : Nat) (hd : 2 ≤ d) (hw : 46 ≤ w) (x1 : Nat) (hx1 : zsh x1 = some (false, 3, 4)) (x3 : Int) (hx3 : zrg x3) (x4 : Int) (hx4 : zrg x4) (x6 : Int) (hx6 : zrg x6) (A : zA) : zG (z_Mv_countWriters_58_b r11 r58 N x1 x3 x4 x6 A) zPV d w 246 58 [some (.inr (.inr (some 107))), some (.inr (.inr (some x1))), none, some (.inl x3), some (.inl x4), none, some (.inl x6)] [] A := by
  unfold z_Mv_countWriters_58_b
  refine js_iload (pc1 := 60) rfl rfl rfl ?_
  refine js_iconst (pc1 := 62) rfl rfl ?_
  refine jt_ge (pc1 := 65) (t1 := 82) hx6 (zlit rfl) rfl rfl rfl (fun c1 => ?_) (fun c1 => ?_)
  · refine js_aload (pc1 := 66) rfl rfl rfl ?_
    refine js_gfr (pc1 := 69) (j := 1) (r := 109) rfl rfl rfl rfl rfl ?_
    refine js_iload (pc1 := 71) rfl rfl rfl ?_
    refine js_dup2 (pc1 := 72) rfl rfl ?_
    refine jt_ald (pc1 := 73) rfl rfl rfl rfl rfl (fun v2 hv2 => ?_)
    refine js_iconst (pc1 := 74) rfl rfl ?_
    refine js_iadd (pc1 := 75) rfl rfl ?_
    refine jt_ias (pc1 := 76) rfl rfl rfl rfl (fun A3 => ?_)
    refine js_iinc (pc1 := 79) (L1 := [some (.inr (.inr (some 107))), some (.inr (.inr (some x1))), none, some (.inl x3), some (.inl x4), none, some (.inl (x6 + 1))]) rfl rfl rfl rfl ?_
    refine js_goto (t1 := 58) rfl rfl ?_
    exact zG_to (L := [some (.inr (.inr (some 107))), some (.inr (.inr (some x1))), none, some (.inl x3), some (.inl x4), none, some (.inl (zw (x6 + 1)))]) (S := []) ⟨rfl, ⟨rfl, ⟨rfl, ⟨rfl, ⟨zval_w (x6 + 1), trivial⟩⟩⟩⟩⟩ (rfl) (hr58 x1 hx1 x3 hx3 x4 hx4 (zw (x6 + 1)) (zw_rg (x6 + 1)) A3)
  · refine js_iinc (pc1 := 85) (L1 := [some (.inr (.inr (some 107))), some (.inr (.inr (some x1))), none, some (.inl x3), some (.inl (x4 + 1)), none, some (.inl x6)]) rfl rfl rfl rfl ?_
    refine js_goto (t1 := 11) rfl rfl ?_
    exact zG_to (L := [some (.inr (.inr (some 107))), some (.inr (.inr (some x1))), none, some (.inl x3), some (.inl (zw (x4 + 1))), none, none]) (S := []) ⟨rfl, ⟨rfl, ⟨rfl, ⟨zval_w (x4 + 1), trivial⟩⟩⟩⟩ (rfl) (hr11 x1 hx1 x3 hx3 (zw (x4 + 1)) (zw_rg (x4 + 1)) A)
theorem z_Mv_countWriters_58_lok{d w : Nat} {r11 : Nat → Int → Int → zA → Option zA} (hr11 : ∀ (x1 : Nat) (hx1 : zsh x1 = some (false, 3, 4)) (x3 : Int) (hx3 : zrg x3) (x4 : Int) (hx4 : zrg x4) (A : zA), zG (r11 x1 x3 x4 A) zPV d w 246 11 [some (.inr (.inr (some 107))), some (.inr (.inr (some x1))), none, some (.inl x3), some (.inl x4), none, none] [] A) (N : Nat) (hd : 2 ≤ d) (hw : 46 ≤ w) (n : Nat) : ∀ (x1 : Nat) (hx1 : zsh x1 = some (false, 3, 4)) (x3 : Int) (hx3 : zrg x3) (x4 : Int) (hx4 : zrg x4) (x6 : Int) (hx6 : zrg x6) (A : zA), zG (z_Mv_countWriters_58_l r11 N n x1 x3 x4 x6 A) zPV d w 246 58 [some (.inr (.inr (some 107))), some (.inr (.inr (some x1))), none, some (.inl x3), some (.inl x4), none, some (.inl x6)] [] A := by
  induction n with
  | zero => intros; exact zG_none
  | succ n ih =>
    intro x1 hx1 x3 hx3 x4 hx4 x6 hx6 A
    exact z_Mv_countWriters_58_bok hr11 ih N hd hw x1 hx1 x3 hx3 x4 hx4 x6 hx6 A
theorem z_Mv_countWriters_58_ok{d w : Nat} {r11 : Nat → Int → Int → zA → Option zA} (hr11 : ∀ (x1 : Nat) (hx1 : zsh x1 = some (false, 3, 4)) (x3 : Int) (hx3 : zrg x3) (x4 : Int) (hx4 : zrg x4) (A : zA), zG (r11 x1 x3 x4 A) zPV d w 246 11 [some (.inr (.inr (some 107))), some (.inr (.inr (some x1))), none, some (.inl x3), some (.inl x4), none, none] [] A) (N : Nat) (hd : 2 ≤ d) (hw : 46 ≤ w) (x1 : Nat) (hx1 : zsh x1 = some (false, 3, 4)) (x3 : Int) (hx3 : zrg x3) (x4 : Int) (hx4 : zrg x4) (x6 : Int) (hx6 : zrg x6) (A : zA) : zG (z_Mv_countWriters_58 r11 N x1 x3 x4 x6 A) zPV d w 246 58 [some (.inr (.inr (some 107))), some (.inr (.inr (some x1))), none, some (.inl x3), some (.inl x4), none, some (.inl x6)] [] A := z_Mv_countWriters_58_lok hr11 N hd hw N x1 hx1 x3 hx3 x4 hx4 x6 hx6 A
theorem z_Mv_countWriters_11_bok{d w : Nat} {r11 : Nat → Int → Int → zA → Option zA} (hr11 : ∀ (x1 : Nat) (hx1 : zsh x1 = some (false, 3, 4)) (x3 : Int) (hx3 : zrg x3) (x4 : Int) (hx4 : zrg x4) (A : zA), zG (r11 x1 x3 x4 A) zPV d w 246 11 [some (.inr (.inr (some 107))), some (.inr (.inr (some x1))), none, some (.inl x3), some (.inl x4), none, none] [] A) (N : Nat) (hd : 2 ≤ d) (hw : 46 ≤ w) (x1 : Nat) (hx1 : zsh x1 = some (false, 3, 4)) (x3 : Int) (hx3 : zrg x3) (x4 : Int) (hx4 : zrg x4) (A : zA) : zG (z_Mv_countWriters_11_b r11 N x1 x3 x4 A) zPV d w 246 11 [some (.inr (.inr (some 107))), some (.inr (.inr (some x1))), none, some (.inl x3), some (.inl x4), none, none] [] A := by
  unfold z_Mv_countWriters_11_b
  refine js_iload (pc1 := 13) rfl rfl rfl ?_
  refine js_iload (pc1 := 14) rfl rfl rfl ?_
  refine jt_ge (pc1 := 17) (t1 := 88) hx4 hx3 rfl rfl rfl (fun c1 => ?_) (fun c1 => ?_)
  · refine js_aload (pc1 := 18) rfl rfl rfl ?_
    refine js_iload (pc1 := 20) rfl rfl rfl ?_
    refine js_cP (pc1 := 23) (as := [(.inr (.inr (some x1))), (.inl x4)]) (S0 := []) (m := 3) (L0 := [some (.inr (.inr (some x1))), some (.inl x4), none]) rfl rfl rfl rfl rfl rfl rfl rfl (zrc_o rfl hx1) (by omega) (by omega) (z_Pt_written_ok N (by omega) (by omega) x1 hx1 x4 hx4 A) (fun v2 _ hv2 => ?_)
    refine js_istore (pc1 := 25) (L1 := [some (.inr (.inr (some 107))), some (.inr (.inr (some x1))), none, some (.inl x3), some (.inl x4), some (.inl v2), none]) rfl rfl rfl rfl ?_
    refine js_iload (pc1 := 27) rfl rfl rfl ?_
    refine ju_lt (pc1 := 30) (t1 := 44) hv2 rfl rfl rfl (fun c3 => ?_) (fun c3 => ?_)
    · refine js_aload (pc1 := 45) rfl rfl rfl ?_
      refine js_iload (pc1 := 47) rfl rfl rfl ?_
      refine js_cP (pc1 := 50) (as := [(.inr (.inr (some x1))), (.inl x4)]) (S0 := []) (m := 2) (L0 := [some (.inr (.inr (some x1))), some (.inl x4)]) rfl rfl rfl rfl rfl rfl rfl rfl (zrc_o rfl hx1) (by omega) (by omega) (z_Pt_kind_ok N (by omega) (by omega) x1 hx1 x4 hx4 A) (fun v4 _ hv4 => ?_)
      refine js_iconst (pc1 := 52) rfl rfl ?_
      refine jt_ne (pc1 := 55) (t1 := 82) hv4 (zlit rfl) rfl rfl rfl (fun c5 => ?_) (fun c5 => ?_)
      · refine js_iconst (pc1 := 56) rfl rfl ?_
        refine js_istore (pc1 := 58) (L1 := [some (.inr (.inr (some 107))), some (.inr (.inr (some x1))), none, some (.inl x3), some (.inl x4), some (.inl v2), some (.inl 0)]) rfl rfl rfl rfl ?_
        exact zG_to (L := [some (.inr (.inr (some 107))), some (.inr (.inr (some x1))), none, some (.inl x3), some (.inl x4), none, some (.inl 0)]) (S := []) ⟨rfl, ⟨rfl, ⟨rfl, ⟨rfl, ⟨rfl, trivial⟩⟩⟩⟩⟩ (rfl) (z_Mv_countWriters_58_ok hr11 N hd hw x1 hx1 x3 hx3 x4 hx4 0 (zlit rfl) A)
      · refine js_iinc (pc1 := 85) (L1 := [some (.inr (.inr (some 107))), some (.inr (.inr (some x1))), none, some (.inl x3), some (.inl (x4 + 1)), some (.inl v2), none]) rfl rfl rfl rfl ?_
        refine js_goto (t1 := 11) rfl rfl ?_
        exact zG_to (L := [some (.inr (.inr (some 107))), some (.inr (.inr (some x1))), none, some (.inl x3), some (.inl (zw (x4 + 1))), none, none]) (S := []) ⟨rfl, ⟨rfl, ⟨rfl, ⟨zval_w (x4 + 1), trivial⟩⟩⟩⟩ (rfl) (hr11 x1 hx1 x3 hx3 (zw (x4 + 1)) (zw_rg (x4 + 1)) A)
    · refine js_aload (pc1 := 31) rfl rfl rfl ?_
      refine js_gfr (pc1 := 34) (j := 1) (r := 109) rfl rfl rfl rfl rfl ?_
      refine js_iload (pc1 := 36) rfl rfl rfl ?_
      refine js_dup2 (pc1 := 37) rfl rfl ?_
      refine jt_ald (pc1 := 38) rfl rfl rfl rfl rfl (fun v6 hv6 => ?_)
      refine js_iconst (pc1 := 39) rfl rfl ?_
      refine js_iadd (pc1 := 40) rfl rfl ?_
      refine jt_ias (pc1 := 41) rfl rfl rfl rfl (fun A7 => ?_)
      refine js_goto (t1 := 82) rfl rfl ?_
      refine js_iinc (pc1 := 85) (L1 := [some (.inr (.inr (some 107))), some (.inr (.inr (some x1))), none, some (.inl x3), some (.inl (x4 + 1)), some (.inl v2), none]) rfl rfl rfl rfl ?_
      refine js_goto (t1 := 11) rfl rfl ?_
      exact zG_to (L := [some (.inr (.inr (some 107))), some (.inr (.inr (some x1))), none, some (.inl x3), some (.inl (zw (x4 + 1))), none, none]) (S := []) ⟨rfl, ⟨rfl, ⟨rfl, ⟨zval_w (x4 + 1), trivial⟩⟩⟩⟩ (rfl) (hr11 x1 hx1 x3 hx3 (zw (x4 + 1)) (zw_rg (x4 + 1)) A7)
  · exact je_V rfl
theorem z_Mv_countWriters_11_lok{d w : Nat} (N : Nat) (hd : 2 ≤ d) (hw : 46 ≤ w) (n : Nat) : ∀ (x1 : Nat) (hx1 : zsh x1 = some (false, 3, 4)) (x3 : Int) (hx3 : zrg x3) (x4 : Int) (hx4 : zrg x4) (A : zA), zG (z_Mv_countWriters_11_l N n x1 x3 x4 A) zPV d w 246 11 [some (.inr (.inr (some 107))), some (.inr (.inr (some x1))), none, some (.inl x3), some (.inl x4), none, none] [] A := by
  induction n with
  | zero => intros; exact zG_none
  | succ n ih =>
    intro x1 hx1 x3 hx3 x4 hx4 A
    exact z_Mv_countWriters_11_bok ih N hd hw x1 hx1 x3 hx3 x4 hx4 A
theorem z_Mv_countWriters_11_ok{d w : Nat} (N : Nat) (hd : 2 ≤ d) (hw : 46 ≤ w) (x1 : Nat) (hx1 : zsh x1 = some (false, 3, 4)) (x3 : Int) (hx3 : zrg x3) (x4 : Int) (hx4 : zrg x4) (A : zA) : zG (z_Mv_countWriters_11 N x1 x3 x4 A) zPV d w 246 11 [some (.inr (.inr (some 107))), some (.inr (.inr (some x1))), none, some (.inl x3), some (.inl x4), none, none] [] A := z_Mv_countWriters_11_lok N hd hw N x1 hx1 x3 hx3 x4 hx4 A
theorem z_Mv_countWriters_ok{d w : Nat} (N : Nat) (hd : 2 ≤ d) (hw : 46 ≤ w) (x1 : Nat) (hx1 : zsh x1 = some (false, 3, 4)) (x2 : Int) (hx2 : zrg x2) (x3 : Int) (hx3 : zrg x3) (A : zA) : zG (z_Mv_countWriters N x1 x2 x3 A) zPV d w 246 0 [some (.inr (.inr (some 107))), some (.inr (.inr (some x1))), some (.inl x2), some (.inl x3), none, none, none] [] A := by
  unfold z_Mv_countWriters
  refine js_aload (pc1 := 1) rfl rfl rfl ?_
  refine js_gfr (pc1 := 4) (j := 1) (r := 109) rfl rfl rfl rfl rfl ?_
  refine js_iconst (pc1 := 5) rfl rfl ?_
  refine js_cV (pc1 := 8) (as := [(.inr (.inr (some 109))), (.inl 0)]) (S0 := []) (m := 4) (L0 := [some (.inr (.inr (some 109))), some (.inl 0), none, none]) rfl rfl rfl rfl rfl rfl rfl rfl (zrc_s rfl) (by omega) (by omega) (z_Ar_fill_ok N (by omega) (by omega) 109 0 (zlit rfl) A) (fun A1 _ => ?_)
  refine js_iload (pc1 := 9) rfl rfl rfl ?_
  refine js_istore (pc1 := 11) (L1 := [some (.inr (.inr (some 107))), some (.inr (.inr (some x1))), some (.inl x2), some (.inl x3), some (.inl x2), none, none]) rfl rfl rfl rfl ?_
  exact zG_to (L := [some (.inr (.inr (some 107))), some (.inr (.inr (some x1))), none, some (.inl x3), some (.inl x2), none, none]) (S := []) ⟨rfl, ⟨rfl, ⟨rfl, ⟨rfl, trivial⟩⟩⟩⟩ (rfl) (z_Mv_countWriters_11_ok N hd hw x1 hx1 x3 hx3 x2 hx2 A1)
theorem z_Mv_mayGoAhead_35_bok{d w : Nat} {r35 : Nat → Int → Int → zA → Option Int} (hr35 : ∀ (x1 : Nat) (hx1 : zsh x1 = some (false, 3, 4)) (x2 : Int) (hx2 : zrg x2) (x4 : Int) (hx4 : zrg x4) (A : zA), zG (r35 x1 x2 x4 A) (zPp A) d w 247 35 [some (.inr (.inr (some 107))), some (.inr (.inr (some x1))), some (.inl x2), none, some (.inl x4)] [] A) (N : Nat) (hd : 2 ≤ d) (hw : 46 ≤ w) (x1 : Nat) (hx1 : zsh x1 = some (false, 3, 4)) (x2 : Int) (hx2 : zrg x2) (x4 : Int) (hx4 : zrg x4) (A : zA) : zG (z_Mv_mayGoAhead_35_b r35 N x1 x2 x4 A) (zPp A) d w 247 35 [some (.inr (.inr (some 107))), some (.inr (.inr (some x1))), some (.inl x2), none, some (.inl x4)] [] A := by
  unfold z_Mv_mayGoAhead_35_b
  refine js_iload (pc1 := 37) rfl rfl rfl ?_
  refine js_aload (pc1 := 38) rfl rfl rfl ?_
  refine js_iload (pc1 := 39) rfl rfl rfl ?_
  refine js_cP (pc1 := 42) (as := [(.inr (.inr (some x1))), (.inl x2)]) (S0 := [(.inl x4)]) (m := 2) (L0 := [some (.inr (.inr (some x1))), some (.inl x2)]) rfl rfl rfl rfl rfl rfl rfl rfl (zrc_o rfl hx1) (by omega) (by omega) (z_Pt_reads_ok N (by omega) (by omega) x1 hx1 x2 hx2 A) (fun v1 _ hv1 => ?_)
  refine jt_ge (pc1 := 45) (t1 := 73) hx4 hv1 rfl rfl rfl (fun c2 => ?_) (fun c2 => ?_)
  · refine js_aload (pc1 := 46) rfl rfl rfl ?_
    refine js_gfr (pc1 := 49) (j := 1) (r := 109) rfl rfl rfl rfl rfl ?_
    refine js_aload (pc1 := 50) rfl rfl rfl ?_
    refine js_iload (pc1 := 51) rfl rfl rfl ?_
    refine js_aload (pc1 := 52) rfl rfl rfl ?_
    refine js_iload (pc1 := 53) rfl rfl rfl ?_
    refine js_iload (pc1 := 55) rfl rfl rfl ?_
    refine js_cP (pc1 := 58) (as := [(.inr (.inr (some x1))), (.inl x2), (.inl x4)]) (S0 := [(.inl x2), (.inr (.inr (some x1))), (.inr (.inr (some 109)))]) (m := 3) (L0 := [some (.inr (.inr (some x1))), some (.inl x2), some (.inl x4)]) rfl rfl rfl rfl rfl rfl rfl rfl (zrc_o rfl hx1) (by omega) (by omega) (z_Pt_readNumber_ok N (by omega) (by omega) x1 hx1 x2 hx2 x4 hx4 A) (fun v3 _ hv3 => ?_)
    refine js_cP (pc1 := 61) (as := [(.inr (.inr (some x1))), (.inl x2), (.inl v3)]) (S0 := [(.inr (.inr (some 109)))]) (m := 5) (L0 := [some (.inr (.inr (some x1))), some (.inl x2), some (.inl v3), none, none]) rfl rfl rfl rfl rfl rfl rfl rfl (zrc_o rfl hx1) (by omega) (by omega) (z_Pt_register_ok N (by omega) (by omega) x1 hx1 x2 hx2 v3 hv3 A) (fun v4 _ hv4 => ?_)
    refine jt_ald (pc1 := 62) rfl rfl rfl rfl rfl (fun v5 hv5 => ?_)
    refine ju_eq (pc1 := 65) (t1 := 67) hv5 rfl rfl rfl (fun c6 => ?_) (fun c6 => ?_)
    · refine js_iinc (pc1 := 70) (L1 := [some (.inr (.inr (some 107))), some (.inr (.inr (some x1))), some (.inl x2), none, some (.inl (x4 + 1))]) rfl rfl rfl rfl ?_
      refine js_goto (t1 := 35) rfl rfl ?_
      exact zG_to (L := [some (.inr (.inr (some 107))), some (.inr (.inr (some x1))), some (.inl x2), none, some (.inl (zw (x4 + 1)))]) (S := []) ⟨rfl, ⟨rfl, ⟨rfl, ⟨zval_w (x4 + 1), trivial⟩⟩⟩⟩ (rfl) (hr35 x1 hx1 x2 hx2 (zw (x4 + 1)) (zw_rg (x4 + 1)) A)
    · refine js_iconst (pc1 := 66) rfl rfl ?_
      exact je_P rfl (zfit3 rfl (Or.inl rfl)) rfl (zlit rfl)
  · refine js_iconst (pc1 := 74) rfl rfl ?_
    exact je_P rfl (zfit3 rfl (Or.inr rfl)) rfl (zlit rfl)
theorem z_Mv_mayGoAhead_35_lok{d w : Nat} (N : Nat) (hd : 2 ≤ d) (hw : 46 ≤ w) (n : Nat) : ∀ (x1 : Nat) (hx1 : zsh x1 = some (false, 3, 4)) (x2 : Int) (hx2 : zrg x2) (x4 : Int) (hx4 : zrg x4) (A : zA), zG (z_Mv_mayGoAhead_35_l N n x1 x2 x4 A) (zPp A) d w 247 35 [some (.inr (.inr (some 107))), some (.inr (.inr (some x1))), some (.inl x2), none, some (.inl x4)] [] A := by
  induction n with
  | zero => intros; exact zG_none
  | succ n ih =>
    intro x1 hx1 x2 hx2 x4 hx4 A
    exact z_Mv_mayGoAhead_35_bok ih N hd hw x1 hx1 x2 hx2 x4 hx4 A
theorem z_Mv_mayGoAhead_35_ok{d w : Nat} (N : Nat) (hd : 2 ≤ d) (hw : 46 ≤ w) (x1 : Nat) (hx1 : zsh x1 = some (false, 3, 4)) (x2 : Int) (hx2 : zrg x2) (x4 : Int) (hx4 : zrg x4) (A : zA) : zG (z_Mv_mayGoAhead_35 N x1 x2 x4 A) (zPp A) d w 247 35 [some (.inr (.inr (some 107))), some (.inr (.inr (some x1))), some (.inl x2), none, some (.inl x4)] [] A := z_Mv_mayGoAhead_35_lok N hd hw N x1 hx1 x2 hx2 x4 hx4 A
theorem z_Mv_mayGoAhead_ok{d w : Nat} (N : Nat) (hd : 2 ≤ d) (hw : 46 ≤ w) (x1 : Nat) (hx1 : zsh x1 = some (false, 3, 4)) (x2 : Int) (hx2 : zrg x2) (A : zA) : zG (z_Mv_mayGoAhead N x1 x2 A) (zPp A) d w 247 0 [some (.inr (.inr (some 107))), some (.inr (.inr (some x1))), some (.inl x2), none, none] [] A := by
  unfold z_Mv_mayGoAhead
  refine js_aload (pc1 := 1) rfl rfl rfl ?_
  refine js_iload (pc1 := 2) rfl rfl rfl ?_
  refine js_cP (pc1 := 5) (as := [(.inr (.inr (some x1))), (.inl x2)]) (S0 := []) (m := 3) (L0 := [some (.inr (.inr (some x1))), some (.inl x2), none]) rfl rfl rfl rfl rfl rfl rfl rfl (zrc_o rfl hx1) (by omega) (by omega) (z_Pt_written_ok N (by omega) (by omega) x1 hx1 x2 hx2 A) (fun v1 _ hv1 => ?_)
  refine js_istore (pc1 := 6) (L1 := [some (.inr (.inr (some 107))), some (.inr (.inr (some x1))), some (.inl x2), some (.inl v1), none]) rfl rfl rfl rfl ?_
  refine js_aload (pc1 := 7) rfl rfl rfl ?_
  refine js_iload (pc1 := 8) rfl rfl rfl ?_
  refine js_cP (pc1 := 11) (as := [(.inr (.inr (some x1))), (.inl x2)]) (S0 := []) (m := 3) (L0 := [some (.inr (.inr (some x1))), some (.inl x2), none]) rfl rfl rfl rfl rfl rfl rfl rfl (zrc_o rfl hx1) (by omega) (by omega) (z_Pt_isHarmless_ok N (by omega) (by omega) x1 hx1 x2 hx2 A) (fun v2 _ hv2 => ?_)
  refine ju_eq (pc1 := 14) (t1 := 30) hv2 rfl rfl rfl (fun c3 => ?_) (fun c3 => ?_)
  · refine js_iconst (pc1 := 31) rfl rfl ?_
    exact je_P rfl (zfit3 rfl (Or.inl rfl)) rfl (zlit rfl)
  · refine js_iload (pc1 := 15) rfl rfl rfl ?_
    refine js_iconst (pc1 := 17) rfl rfl ?_
    refine jt_lt (pc1 := 20) (t1 := 30) hv1 (zlit rfl) rfl rfl rfl (fun c4 => ?_) (fun c4 => ?_)
    · refine js_iconst (pc1 := 31) rfl rfl ?_
      exact je_P rfl (zfit3 rfl (Or.inl rfl)) rfl (zlit rfl)
    · refine js_aload (pc1 := 21) rfl rfl rfl ?_
      refine js_gfr (pc1 := 24) (j := 1) (r := 109) rfl rfl rfl rfl rfl ?_
      refine js_iload (pc1 := 25) rfl rfl rfl ?_
      refine jt_ald (pc1 := 26) rfl rfl rfl rfl rfl (fun v5 hv5 => ?_)
      refine js_iconst (pc1 := 27) rfl rfl ?_
      refine jt_eq (pc1 := 30) (t1 := 32) hv5 (zlit rfl) rfl rfl rfl (fun c6 => ?_) (fun c6 => ?_)
      · refine js_iconst (pc1 := 33) rfl rfl ?_
        refine js_istore (pc1 := 35) (L1 := [some (.inr (.inr (some 107))), some (.inr (.inr (some x1))), some (.inl x2), some (.inl v1), some (.inl 0)]) rfl rfl rfl rfl ?_
        exact zG_to (L := [some (.inr (.inr (some 107))), some (.inr (.inr (some x1))), some (.inl x2), none, some (.inl 0)]) (S := []) ⟨rfl, ⟨rfl, ⟨rfl, ⟨rfl, trivial⟩⟩⟩⟩ (rfl) (z_Mv_mayGoAhead_35_ok N hd hw x1 hx1 x2 hx2 0 (zlit rfl) A)
      · refine js_iconst (pc1 := 31) rfl rfl ?_
        exact je_P rfl (zfit3 rfl (Or.inl rfl)) rfl (zlit rfl)
theorem z_Pt_exchange_18_bok{d w : Nat} {r18 : Nat → Int → Int → Int → zA → Option zA} (hr18 : ∀ (x0 : Nat) (hx0 : zsh x0 = some (false, 3, 4)) (x1 : Int) (hx1 : zrg x1) (x2 : Int) (hx2 : zrg x2) (x3 : Int) (hx3 : zrg x3) (A : zA), zG (r18 x0 x1 x2 x3 A) zPV d w 112 18 [some (.inr (.inr (some x0))), some (.inl x1), some (.inl x2), some (.inl x3), none] [] A) (N : Nat) (hd : 1 ≤ d) (hw : 21 ≤ w) (x0 : Nat) (hx0 : zsh x0 = some (false, 3, 4)) (x1 : Int) (hx1 : zrg x1) (x2 : Int) (hx2 : zrg x2) (x3 : Int) (hx3 : zrg x3) (A : zA) : zG (z_Pt_exchange_18_b r18 N x0 x1 x2 x3 A) zPV d w 112 18 [some (.inr (.inr (some x0))), some (.inl x1), some (.inl x2), some (.inl x3), none] [] A := by
  unfold z_Pt_exchange_18_b
  refine js_iload (pc1 := 19) rfl rfl rfl ?_
  refine js_iconst (pc1 := 20) rfl rfl ?_
  refine jt_ge (pc1 := 23) (t1 := 73) hx3 (zlit rfl) rfl rfl rfl (fun c1 => ?_) (fun c1 => ?_)
  · refine js_aload (pc1 := 24) rfl rfl rfl ?_
    refine jt_gr (pc1 := 27) (j := 0) rfl rfl hx0 rfl (fun p2 => ?_)
    refine js_iload (pc1 := 28) rfl rfl rfl ?_
    refine js_iconst (pc1 := 29) rfl rfl ?_
    refine js_imul (pc1 := 30) rfl rfl ?_
    refine js_iload (pc1 := 31) rfl rfl rfl ?_
    refine js_iadd (pc1 := 32) rfl rfl ?_
    refine jt_aldD (pc1 := 33) rfl rfl (fun v3 hv3 => ?_)
    refine js_istore (pc1 := 35) (L1 := [some (.inr (.inr (some x0))), some (.inl x1), some (.inl x2), some (.inl x3), some (.inl v3)]) rfl rfl rfl rfl ?_
    refine js_aload (pc1 := 36) rfl rfl rfl ?_
    refine jt_gr (pc1 := 39) (j := 0) rfl rfl hx0 rfl (fun p4 => ?_)
    refine js_iload (pc1 := 40) rfl rfl rfl ?_
    refine js_iconst (pc1 := 41) rfl rfl ?_
    refine js_imul (pc1 := 42) rfl rfl ?_
    refine js_iload (pc1 := 43) rfl rfl rfl ?_
    refine js_iadd (pc1 := 44) rfl rfl ?_
    refine js_aload (pc1 := 45) rfl rfl rfl ?_
    refine jt_gr (pc1 := 48) (j := 0) rfl rfl hx0 rfl (fun p5 => ?_)
    refine js_iload (pc1 := 49) rfl rfl rfl ?_
    refine js_iconst (pc1 := 50) rfl rfl ?_
    refine js_imul (pc1 := 51) rfl rfl ?_
    refine js_iload (pc1 := 52) rfl rfl rfl ?_
    refine js_iadd (pc1 := 53) rfl rfl ?_
    refine jt_aldD (pc1 := 54) rfl rfl (fun v6 hv6 => ?_)
    refine jt_iasD (pc1 := 55) rfl rfl (fun A7 => ?_)
    refine js_aload (pc1 := 56) rfl rfl rfl ?_
    refine jt_gr (pc1 := 59) (j := 0) rfl rfl hx0 rfl (fun p8 => ?_)
    refine js_iload (pc1 := 60) rfl rfl rfl ?_
    refine js_iconst (pc1 := 61) rfl rfl ?_
    refine js_imul (pc1 := 62) rfl rfl ?_
    refine js_iload (pc1 := 63) rfl rfl rfl ?_
    refine js_iadd (pc1 := 64) rfl rfl ?_
    refine js_iload (pc1 := 66) rfl rfl rfl ?_
    refine jt_iasD (pc1 := 67) rfl rfl (fun A9 => ?_)
    refine js_iinc (pc1 := 70) (L1 := [some (.inr (.inr (some x0))), some (.inl x1), some (.inl x2), some (.inl (x3 + 1)), some (.inl v3)]) rfl rfl rfl rfl ?_
    refine js_goto (t1 := 18) rfl rfl ?_
    exact zG_to (L := [some (.inr (.inr (some x0))), some (.inl x1), some (.inl x2), some (.inl (zw (x3 + 1))), none]) (S := []) ⟨rfl, ⟨rfl, ⟨rfl, ⟨zval_w (x3 + 1), trivial⟩⟩⟩⟩ (rfl) (hr18 x0 hx0 x1 hx1 x2 hx2 (zw (x3 + 1)) (zw_rg (x3 + 1)) A9)
  · exact je_V rfl
theorem z_Pt_exchange_18_lok{d w : Nat} (N : Nat) (hd : 1 ≤ d) (hw : 21 ≤ w) (n : Nat) : ∀ (x0 : Nat) (hx0 : zsh x0 = some (false, 3, 4)) (x1 : Int) (hx1 : zrg x1) (x2 : Int) (hx2 : zrg x2) (x3 : Int) (hx3 : zrg x3) (A : zA), zG (z_Pt_exchange_18_l N n x0 x1 x2 x3 A) zPV d w 112 18 [some (.inr (.inr (some x0))), some (.inl x1), some (.inl x2), some (.inl x3), none] [] A := by
  induction n with
  | zero => intros; exact zG_none
  | succ n ih =>
    intro x0 hx0 x1 hx1 x2 hx2 x3 hx3 A
    exact z_Pt_exchange_18_bok ih N hd hw x0 hx0 x1 hx1 x2 hx2 x3 hx3 A
theorem z_Pt_exchange_18_ok{d w : Nat} (N : Nat) (hd : 1 ≤ d) (hw : 21 ≤ w) (x0 : Nat) (hx0 : zsh x0 = some (false, 3, 4)) (x1 : Int) (hx1 : zrg x1) (x2 : Int) (hx2 : zrg x2) (x3 : Int) (hx3 : zrg x3) (A : zA) : zG (z_Pt_exchange_18 N x0 x1 x2 x3 A) zPV d w 112 18 [some (.inr (.inr (some x0))), some (.inl x1), some (.inl x2), some (.inl x3), none] [] A := z_Pt_exchange_18_lok N hd hw N x0 hx0 x1 hx1 x2 hx2 x3 hx3 A
theorem z_Pt_exchange_ok{d w : Nat} (N : Nat) (hd : 1 ≤ d) (hw : 21 ≤ w) (x0 : Nat) (hx0 : zsh x0 = some (false, 3, 4)) (x1 : Int) (hx1 : zrg x1) (x2 : Int) (hx2 : zrg x2) (A : zA) : zG (z_Pt_exchange N x0 x1 x2 A) zPV d w 112 0 [some (.inr (.inr (some x0))), some (.inl x1), some (.inl x2), none, none] [] A := by
  unfold z_Pt_exchange
  refine js_aload (pc1 := 1) rfl rfl rfl ?_
  refine js_iload (pc1 := 2) rfl rfl rfl ?_
  refine js_cP (pc1 := 5) (as := [(.inr (.inr (some x0))), (.inl x1)]) (S0 := []) (m := 2) (L0 := [some (.inr (.inr (some x0))), some (.inl x1)]) rfl rfl rfl rfl rfl rfl rfl rfl (zrc_o rfl hx0) (by omega) (by omega) (z_Pt_has_ok N (by omega) (by omega) x0 hx0 x1 hx1 A) (fun v1 _ hv1 => ?_)
  refine ju_eq (pc1 := 8) (t1 := 73) hv1 rfl rfl rfl (fun c2 => ?_) (fun c2 => ?_)
  · exact je_V rfl
  · refine js_aload (pc1 := 9) rfl rfl rfl ?_
    refine js_iload (pc1 := 10) rfl rfl rfl ?_
    refine js_cP (pc1 := 13) (as := [(.inr (.inr (some x0))), (.inl x2)]) (S0 := []) (m := 2) (L0 := [some (.inr (.inr (some x0))), some (.inl x2)]) rfl rfl rfl rfl rfl rfl rfl rfl (zrc_o rfl hx0) (by omega) (by omega) (z_Pt_has_ok N (by omega) (by omega) x0 hx0 x2 hx2 A) (fun v3 _ hv3 => ?_)
    refine ju_eq (pc1 := 16) (t1 := 73) hv3 rfl rfl rfl (fun c4 => ?_) (fun c4 => ?_)
    · exact je_V rfl
    · refine js_iconst (pc1 := 17) rfl rfl ?_
      refine js_istore (pc1 := 18) (L1 := [some (.inr (.inr (some x0))), some (.inl x1), some (.inl x2), some (.inl 0), none]) rfl rfl rfl rfl ?_
      exact z_Pt_exchange_18_ok N hd hw x0 hx0 x1 hx1 x2 hx2 0 (zlit rfl) A
theorem z_Mv_hoistAhead_63_bok{d w : Nat} {r27 : Nat → Int → Int → Int → Int → zA → Option (Int × zA)} (hr27 : ∀ (x1 : Nat) (hx1 : zsh x1 = some (false, 3, 4)) (x2 : Int) (hx2 : zrg x2) (x3 : Int) (hx3 : zrg x3) (x4 : Int) (hx4 : zrg x4) (x5 : Int) (hx5 : zrg x5) (A : zA), zG (r27 x1 x2 x3 x4 x5 A) zPI d w 176 27 [some (.inr (.inr (some 107))), some (.inr (.inr (some x1))), some (.inl x2), some (.inl x3), some (.inl x4), some (.inl x5), none] [] A) {r63 : Nat → Int → Int → Int → Int → Int → zA → Option (Int × zA)} (hr63 : ∀ (x1 : Nat) (hx1 : zsh x1 = some (false, 3, 4)) (x2 : Int) (hx2 : zrg x2) (x3 : Int) (hx3 : zrg x3) (x4 : Int) (hx4 : zrg x4) (x5 : Int) (hx5 : zrg x5) (x6 : Int) (hx6 : zrg x6) (A : zA), zG (r63 x1 x2 x3 x4 x5 x6 A) zPI d w 176 63 [some (.inr (.inr (some 107))), some (.inr (.inr (some x1))), some (.inl x2), some (.inl x3), some (.inl x4), some (.inl x5), some (.inl x6)] [] A) (N : Nat) (hd : 3 ≤ d) (hw : 72 ≤ w) (x1 : Nat) (hx1 : zsh x1 = some (false, 3, 4)) (x2 : Int) (hx2 : zrg x2) (x3 : Int) (hx3 : zrg x3) (x4 : Int) (hx4 : zrg x4) (x5 : Int) (hx5 : zrg x5) (x6 : Int) (hx6 : zrg x6) (A : zA) : zG (z_Mv_hoistAhead_63_b r27 r63 N x1 x2 x3 x4 x5 x6 A) zPI d w 176 63 [some (.inr (.inr (some 107))), some (.inr (.inr (some x1))), some (.inl x2), some (.inl x3), some (.inl x4), some (.inl x5), some (.inl x6)] [] A := by
  unfold z_Mv_hoistAhead_63_b
  refine js_iload (pc1 := 65) rfl rfl rfl ?_
  refine js_iload (pc1 := 66) rfl rfl rfl ?_
  refine js_iload (pc1 := 68) rfl rfl rfl ?_
  refine js_iadd (pc1 := 69) rfl rfl ?_
  refine zG_w1 ?_
  refine jt_le (pc1 := 72) (t1 := 88) hx6 (zw_rg (x2 + x4)) rfl rfl rfl (fun c1 => ?_) (fun c1 => ?_)
  · refine js_aload (pc1 := 73) rfl rfl rfl ?_
    refine js_iload (pc1 := 75) rfl rfl rfl ?_
    refine js_iload (pc1 := 77) rfl rfl rfl ?_
    refine js_iconst (pc1 := 78) rfl rfl ?_
    refine js_isub (pc1 := 79) rfl rfl ?_
    refine js_cV (pc1 := 82) (as := [(.inr (.inr (some x1))), (.inl x6), (.inl (x6 - 1))]) (S0 := []) (m := 5) (L0 := [some (.inr (.inr (some x1))), some (.inl x6), some (.inl (x6 - 1)), none, none]) rfl rfl rfl rfl rfl rfl rfl rfl (zrc_o rfl hx1) (by omega) (by omega) (zG_to (L := [some (.inr (.inr (some x1))), some (.inl x6), some (.inl (zw (x6 - 1))), none, none]) (S := []) ⟨rfl, ⟨rfl, ⟨zval_w (x6 - 1), trivial⟩⟩⟩ rfl (z_Pt_exchange_ok N (by omega) (by omega) x1 hx1 x6 hx6 (zw (x6 - 1)) (zw_rg (x6 - 1)) A)) (fun A2 _ => ?_)
    refine js_iinc (pc1 := 85) (L1 := [some (.inr (.inr (some 107))), some (.inr (.inr (some x1))), some (.inl x2), some (.inl x3), some (.inl x4), some (.inl x5), some (.inl (x6 + (-1)))]) rfl rfl rfl rfl ?_
    refine js_goto (t1 := 63) rfl rfl ?_
    exact zG_to (L := [some (.inr (.inr (some 107))), some (.inr (.inr (some x1))), some (.inl x2), some (.inl x3), some (.inl x4), some (.inl x5), some (.inl (zw (x6 + (-1))))]) (S := []) ⟨rfl, ⟨rfl, ⟨rfl, ⟨rfl, ⟨rfl, ⟨rfl, ⟨zval_w (x6 + (-1)), trivial⟩⟩⟩⟩⟩⟩⟩ (rfl) (hr63 x1 hx1 x2 hx2 x3 hx3 x4 hx4 x5 hx5 (zw (x6 + (-1))) (zw_rg (x6 + (-1))) A2)
  · refine js_iinc (pc1 := 91) (L1 := [some (.inr (.inr (some 107))), some (.inr (.inr (some x1))), some (.inl x2), some (.inl x3), some (.inl (x4 + 1)), some (.inl x5), some (.inl x6)]) rfl rfl rfl rfl ?_
    refine js_iinc (pc1 := 94) (L1 := [some (.inr (.inr (some 107))), some (.inr (.inr (some x1))), some (.inl x2), some (.inl x3), some (.inl (x4 + 1)), some (.inl (x5 + 1)), some (.inl x6)]) rfl rfl rfl rfl ?_
    refine js_goto (t1 := 27) rfl rfl ?_
    exact zG_to (L := [some (.inr (.inr (some 107))), some (.inr (.inr (some x1))), some (.inl x2), some (.inl x3), some (.inl (zw (x4 + 1))), some (.inl (zw (x5 + 1))), none]) (S := []) ⟨rfl, ⟨rfl, ⟨rfl, ⟨rfl, ⟨zval_w (x4 + 1), ⟨zval_w (x5 + 1), trivial⟩⟩⟩⟩⟩⟩ (rfl) (hr27 x1 hx1 x2 hx2 x3 hx3 (zw (x4 + 1)) (zw_rg (x4 + 1)) (zw (x5 + 1)) (zw_rg (x5 + 1)) A)
theorem z_Mv_hoistAhead_63_lok{d w : Nat} {r27 : Nat → Int → Int → Int → Int → zA → Option (Int × zA)} (hr27 : ∀ (x1 : Nat) (hx1 : zsh x1 = some (false, 3, 4)) (x2 : Int) (hx2 : zrg x2) (x3 : Int) (hx3 : zrg x3) (x4 : Int) (hx4 : zrg x4) (x5 : Int) (hx5 : zrg x5) (A : zA), zG (r27 x1 x2 x3 x4 x5 A) zPI d w 176 27 [some (.inr (.inr (some 107))), some (.inr (.inr (some x1))), some (.inl x2), some (.inl x3), some (.inl x4), some (.inl x5), none] [] A) (N : Nat) (hd : 3 ≤ d) (hw : 72 ≤ w) (n : Nat) : ∀ (x1 : Nat) (hx1 : zsh x1 = some (false, 3, 4)) (x2 : Int) (hx2 : zrg x2) (x3 : Int) (hx3 : zrg x3) (x4 : Int) (hx4 : zrg x4) (x5 : Int) (hx5 : zrg x5) (x6 : Int) (hx6 : zrg x6) (A : zA), zG (z_Mv_hoistAhead_63_l r27 N n x1 x2 x3 x4 x5 x6 A) zPI d w 176 63 [some (.inr (.inr (some 107))), some (.inr (.inr (some x1))), some (.inl x2), some (.inl x3), some (.inl x4), some (.inl x5), some (.inl x6)] [] A := by
  induction n with
  | zero => intros; exact zG_none
  | succ n ih =>
    intro x1 hx1 x2 hx2 x3 hx3 x4 hx4 x5 hx5 x6 hx6 A
    exact z_Mv_hoistAhead_63_bok hr27 ih N hd hw x1 hx1 x2 hx2 x3 hx3 x4 hx4 x5 hx5 x6 hx6 A
theorem z_Mv_hoistAhead_63_ok{d w : Nat} {r27 : Nat → Int → Int → Int → Int → zA → Option (Int × zA)} (hr27 : ∀ (x1 : Nat) (hx1 : zsh x1 = some (false, 3, 4)) (x2 : Int) (hx2 : zrg x2) (x3 : Int) (hx3 : zrg x3) (x4 : Int) (hx4 : zrg x4) (x5 : Int) (hx5 : zrg x5) (A : zA), zG (r27 x1 x2 x3 x4 x5 A) zPI d w 176 27 [some (.inr (.inr (some 107))), some (.inr (.inr (some x1))), some (.inl x2), some (.inl x3), some (.inl x4), some (.inl x5), none] [] A) (N : Nat) (hd : 3 ≤ d) (hw : 72 ≤ w) (x1 : Nat) (hx1 : zsh x1 = some (false, 3, 4)) (x2 : Int) (hx2 : zrg x2) (x3 : Int) (hx3 : zrg x3) (x4 : Int) (hx4 : zrg x4) (x5 : Int) (hx5 : zrg x5) (x6 : Int) (hx6 : zrg x6) (A : zA) : zG (z_Mv_hoistAhead_63 r27 N x1 x2 x3 x4 x5 x6 A) zPI d w 176 63 [some (.inr (.inr (some 107))), some (.inr (.inr (some x1))), some (.inl x2), some (.inl x3), some (.inl x4), some (.inl x5), some (.inl x6)] [] A := z_Mv_hoistAhead_63_lok hr27 N hd hw N x1 hx1 x2 hx2 x3 hx3 x4 hx4 x5 hx5 x6 hx6 A
theorem z_Mv_hoistAhead_27_bok{d w : Nat} {r27 : Nat → Int → Int → Int → Int → zA → Option (Int × zA)} (hr27 : ∀ (x1 : Nat) (hx1 : zsh x1 = some (false, 3, 4)) (x2 : Int) (hx2 : zrg x2) (x3 : Int) (hx3 : zrg x3) (x4 : Int) (hx4 : zrg x4) (x5 : Int) (hx5 : zrg x5) (A : zA), zG (r27 x1 x2 x3 x4 x5 A) zPI d w 176 27 [some (.inr (.inr (some 107))), some (.inr (.inr (some x1))), some (.inl x2), some (.inl x3), some (.inl x4), some (.inl x5), none] [] A) (N : Nat) (hd : 3 ≤ d) (hw : 72 ≤ w) (x1 : Nat) (hx1 : zsh x1 = some (false, 3, 4)) (x2 : Int) (hx2 : zrg x2) (x3 : Int) (hx3 : zrg x3) (x4 : Int) (hx4 : zrg x4) (x5 : Int) (hx5 : zrg x5) (A : zA) : zG (z_Mv_hoistAhead_27_b r27 N x1 x2 x3 x4 x5 A) zPI d w 176 27 [some (.inr (.inr (some 107))), some (.inr (.inr (some x1))), some (.inl x2), some (.inl x3), some (.inl x4), some (.inl x5), none] [] A := by
  unfold z_Mv_hoistAhead_27_b
  refine js_iload (pc1 := 29) rfl rfl rfl ?_
  refine js_iload (pc1 := 30) rfl rfl rfl ?_
  refine jt_ge (pc1 := 33) (t1 := 97) hx5 hx3 rfl rfl rfl (fun c1 => ?_) (fun c1 => ?_)
  · refine js_aload (pc1 := 34) rfl rfl rfl ?_
    refine js_aload (pc1 := 35) rfl rfl rfl ?_
    refine js_iload (pc1 := 37) rfl rfl rfl ?_
    refine js_cP (pc1 := 40) (as := [(.inr (.inr (some 107))), (.inr (.inr (some x1))), (.inl x5)]) (S0 := []) (m := 5) (L0 := [some (.inr (.inr (some 107))), some (.inr (.inr (some x1))), some (.inl x5), none, none]) rfl rfl rfl rfl rfl rfl rfl rfl (zrc_o rfl rfl) (by omega) (by omega) (z_Mv_mayGoAhead_ok N (by omega) (by omega) x1 hx1 x5 hx5 A) (fun v2 _ hv2 => ?_)
    refine ju_eq (pc1 := 43) (t1 := 91) hv2 rfl rfl rfl (fun c3 => ?_) (fun c3 => ?_)
    · refine js_iinc (pc1 := 94) (L1 := [some (.inr (.inr (some 107))), some (.inr (.inr (some x1))), some (.inl x2), some (.inl x3), some (.inl x4), some (.inl (x5 + 1)), none]) rfl rfl rfl rfl ?_
      refine js_goto (t1 := 27) rfl rfl ?_
      exact zG_to (L := [some (.inr (.inr (some 107))), some (.inr (.inr (some x1))), some (.inl x2), some (.inl x3), some (.inl x4), some (.inl (zw (x5 + 1))), none]) (S := []) ⟨rfl, ⟨rfl, ⟨rfl, ⟨rfl, ⟨rfl, ⟨zval_w (x5 + 1), trivial⟩⟩⟩⟩⟩⟩ (rfl) (hr27 x1 hx1 x2 hx2 x3 hx3 x4 hx4 (zw (x5 + 1)) (zw_rg (x5 + 1)) A)
    · refine js_aload (pc1 := 44) rfl rfl rfl ?_
      refine js_gfr (pc1 := 47) (j := 1) (r := 109) rfl rfl rfl rfl rfl ?_
      refine js_aload (pc1 := 48) rfl rfl rfl ?_
      refine js_iload (pc1 := 50) rfl rfl rfl ?_
      refine js_iconst (pc1 := 51) rfl rfl ?_
      refine js_cP (pc1 := 54) (as := [(.inr (.inr (some x1))), (.inl x5), (.inl 0)]) (S0 := [(.inr (.inr (some 109)))]) (m := 5) (L0 := [some (.inr (.inr (some x1))), some (.inl x5), some (.inl 0), none, none]) rfl rfl rfl rfl rfl rfl rfl rfl (zrc_o rfl hx1) (by omega) (by omega) (z_Pt_register_ok N (by omega) (by omega) x1 hx1 x5 hx5 0 (zlit rfl) A) (fun v4 _ hv4 => ?_)
      refine js_dup2 (pc1 := 55) rfl rfl ?_
      refine jt_ald (pc1 := 56) rfl rfl rfl rfl rfl (fun v5 hv5 => ?_)
      refine js_iconst (pc1 := 57) rfl rfl ?_
      refine js_isub (pc1 := 58) rfl rfl ?_
      refine jt_ias (pc1 := 59) rfl rfl rfl rfl (fun A6 => ?_)
      refine js_iload (pc1 := 61) rfl rfl rfl ?_
      refine js_istore (pc1 := 63) (L1 := [some (.inr (.inr (some 107))), some (.inr (.inr (some x1))), some (.inl x2), some (.inl x3), some (.inl x4), some (.inl x5), some (.inl x5)]) rfl rfl rfl rfl ?_
      exact z_Mv_hoistAhead_63_ok hr27 N hd hw x1 hx1 x2 hx2 x3 hx3 x4 hx4 x5 hx5 x5 hx5 A6
  · refine js_iload (pc1 := 99) rfl rfl rfl ?_
    exact je_I rfl (zfit0 _ rfl) rfl hx4
theorem z_Mv_hoistAhead_27_lok{d w : Nat} (N : Nat) (hd : 3 ≤ d) (hw : 72 ≤ w) (n : Nat) : ∀ (x1 : Nat) (hx1 : zsh x1 = some (false, 3, 4)) (x2 : Int) (hx2 : zrg x2) (x3 : Int) (hx3 : zrg x3) (x4 : Int) (hx4 : zrg x4) (x5 : Int) (hx5 : zrg x5) (A : zA), zG (z_Mv_hoistAhead_27_l N n x1 x2 x3 x4 x5 A) zPI d w 176 27 [some (.inr (.inr (some 107))), some (.inr (.inr (some x1))), some (.inl x2), some (.inl x3), some (.inl x4), some (.inl x5), none] [] A := by
  induction n with
  | zero => intros; exact zG_none
  | succ n ih =>
    intro x1 hx1 x2 hx2 x3 hx3 x4 hx4 x5 hx5 A
    exact z_Mv_hoistAhead_27_bok ih N hd hw x1 hx1 x2 hx2 x3 hx3 x4 hx4 x5 hx5 A
theorem z_Mv_hoistAhead_27_ok{d w : Nat} (N : Nat) (hd : 3 ≤ d) (hw : 72 ≤ w) (x1 : Nat) (hx1 : zsh x1 = some (false, 3, 4)) (x2 : Int) (hx2 : zrg x2) (x3 : Int) (hx3 : zrg x3) (x4 : Int) (hx4 : zrg x4) (x5 : Int) (hx5 : zrg x5) (A : zA) : zG (z_Mv_hoistAhead_27 N x1 x2 x3 x4 x5 A) zPI d w 176 27 [some (.inr (.inr (some 107))), some (.inr (.inr (some x1))), some (.inl x2), some (.inl x3), some (.inl x4), some (.inl x5), none] [] A := z_Mv_hoistAhead_27_lok N hd hw N x1 hx1 x2 hx2 x3 hx3 x4 hx4 x5 hx5 A
theorem z_Mv_hoistAhead_ok{d w : Nat} (N : Nat) (hd : 3 ≤ d) (hw : 72 ≤ w) (x1 : Nat) (hx1 : zsh x1 = some (false, 3, 4)) (x2 : Int) (hx2 : zrg x2) (A : zA) : zG (z_Mv_hoistAhead N x1 x2 A) zPI d w 176 0 [some (.inr (.inr (some 107))), some (.inr (.inr (some x1))), some (.inl x2), none, none, none, none] [] A := by
  unfold z_Mv_hoistAhead
  refine js_aload (pc1 := 1) rfl rfl rfl ?_
  refine js_iload (pc1 := 2) rfl rfl rfl ?_
  refine js_cP (pc1 := 5) (as := [(.inr (.inr (some x1))), (.inl x2)]) (S0 := []) (m := 2) (L0 := [some (.inr (.inr (some x1))), some (.inl x2)]) rfl rfl rfl rfl rfl rfl rfl rfl (zrc_o rfl hx1) (by omega) (by omega) (z_Pt_mate_ok N (by omega) (by omega) x1 hx1 x2 hx2 A) (fun v1 _ hv1 => ?_)
  refine js_istore (pc1 := 6) (L1 := [some (.inr (.inr (some 107))), some (.inr (.inr (some x1))), some (.inl x2), some (.inl v1), none, none, none]) rfl rfl rfl rfl ?_
  refine js_aload (pc1 := 7) rfl rfl rfl ?_
  refine js_aload (pc1 := 8) rfl rfl rfl ?_
  refine js_iload (pc1 := 9) rfl rfl rfl ?_
  refine js_iconst (pc1 := 10) rfl rfl ?_
  refine js_iadd (pc1 := 11) rfl rfl ?_
  refine js_aload (pc1 := 12) rfl rfl rfl ?_
  refine js_iload (pc1 := 13) rfl rfl rfl ?_
  refine js_cP (pc1 := 16) (as := [(.inr (.inr (some x1))), (.inl x2)]) (S0 := [(.inl (x2 + 1)), (.inr (.inr (some x1))), (.inr (.inr (some 107)))]) (m := 2) (L0 := [some (.inr (.inr (some x1))), some (.inl x2)]) rfl rfl rfl rfl rfl rfl rfl rfl (zrc_o rfl hx1) (by omega) (by omega) (z_Pt_endOf_ok N (by omega) (by omega) x1 hx1 x2 hx2 A) (fun v2 _ hv2 => ?_)
  refine js_cV (pc1 := 19) (as := [(.inr (.inr (some 107))), (.inr (.inr (some x1))), (.inl (x2 + 1)), (.inl v2)]) (S0 := []) (m := 7) (L0 := [some (.inr (.inr (some 107))), some (.inr (.inr (some x1))), some (.inl (x2 + 1)), some (.inl v2), none, none, none]) rfl rfl rfl rfl rfl rfl rfl rfl (zrc_o rfl rfl) (by omega) (by omega) (zG_to (L := [some (.inr (.inr (some 107))), some (.inr (.inr (some x1))), some (.inl (zw (x2 + 1))), some (.inl v2), none, none, none]) (S := []) ⟨rfl, ⟨rfl, ⟨zval_w (x2 + 1), ⟨rfl, trivial⟩⟩⟩⟩ rfl (z_Mv_countWriters_ok N (by omega) (by omega) x1 hx1 (zw (x2 + 1)) (zw_rg (x2 + 1)) v2 hv2 A)) (fun A3 _ => ?_)
  refine js_iconst (pc1 := 20) rfl rfl ?_
  refine js_istore (pc1 := 22) (L1 := [some (.inr (.inr (some 107))), some (.inr (.inr (some x1))), some (.inl x2), some (.inl v1), some (.inl 0), none, none]) rfl rfl rfl rfl ?_
  refine js_iload (pc1 := 23) rfl rfl rfl ?_
  refine js_iconst (pc1 := 24) rfl rfl ?_
  refine js_iadd (pc1 := 25) rfl rfl ?_
  refine zG_w1 ?_
  refine js_istore (pc1 := 27) (L1 := [some (.inr (.inr (some 107))), some (.inr (.inr (some x1))), some (.inl x2), some (.inl v1), some (.inl 0), some (.inl (zw (x2 + 1))), none]) rfl rfl rfl rfl ?_
  exact z_Mv_hoistAhead_27_ok N hd hw x1 hx1 x2 hx2 v1 hv1 0 (zlit rfl) (zw (x2 + 1)) (zw_rg (x2 + 1)) A3
theorem z_Mv_hoist_9_bok{d w : Nat} {r9 : Nat → Int → Int → zA → Option (Int × zA)} (hr9 : ∀ (x1 : Nat) (hx1 : zsh x1 = some (false, 3, 4)) (x2 : Int) (hx2 : zrg x2) (x3 : Int) (hx3 : zrg x3) (A : zA), zG (r9 x1 x2 x3 A) zPI d w 141 9 [some (.inr (.inr (some 107))), some (.inr (.inr (some x1))), some (.inl x2), some (.inl x3)] [] A) (N : Nat) (hd : 4 ≤ d) (hw : 98 ≤ w) (x1 : Nat) (hx1 : zsh x1 = some (false, 3, 4)) (x2 : Int) (hx2 : zrg x2) (x3 : Int) (hx3 : zrg x3) (A : zA) : zG (z_Mv_hoist_9_b r9 N x1 x2 x3 A) zPI d w 141 9 [some (.inr (.inr (some 107))), some (.inr (.inr (some x1))), some (.inl x2), some (.inl x3)] [] A := by
  unfold z_Mv_hoist_9_b
  refine js_iload (pc1 := 10) rfl rfl rfl ?_
  refine ju_lt (pc1 := 13) (t1 := 42) hx3 rfl rfl rfl (fun c1 => ?_) (fun c1 => ?_)
  · refine js_iload (pc1 := 43) rfl rfl rfl ?_
    exact je_I rfl (zfit0 _ rfl) rfl hx2
  · refine js_aload (pc1 := 14) rfl rfl rfl ?_
    refine js_iload (pc1 := 15) rfl rfl rfl ?_
    refine js_cP (pc1 := 18) (as := [(.inr (.inr (some x1))), (.inl x3)]) (S0 := []) (m := 2) (L0 := [some (.inr (.inr (some x1))), some (.inl x3)]) rfl rfl rfl rfl rfl rfl rfl rfl (zrc_o rfl hx1) (by omega) (by omega) (z_Pt_kind_ok N (by omega) (by omega) x1 hx1 x3 hx3 A) (fun v2 _ hv2 => ?_)
    refine js_iconst (pc1 := 20) rfl rfl ?_
    refine jt_ne (pc1 := 23) (t1 := 36) hv2 (zlit rfl) rfl rfl rfl (fun c3 => ?_) (fun c3 => ?_)
    · refine js_iload (pc1 := 24) rfl rfl rfl ?_
      refine js_aload (pc1 := 25) rfl rfl rfl ?_
      refine js_aload (pc1 := 26) rfl rfl rfl ?_
      refine js_iload (pc1 := 27) rfl rfl rfl ?_
      refine js_cI (pc1 := 30) (as := [(.inr (.inr (some 107))), (.inr (.inr (some x1))), (.inl x3)]) (S0 := [(.inl x2)]) (m := 7) (L0 := [some (.inr (.inr (some 107))), some (.inr (.inr (some x1))), some (.inl x3), none, none, none, none]) rfl rfl rfl rfl rfl rfl rfl rfl (zrc_o rfl rfl) (by omega) (by omega) (z_Mv_hoistAhead_ok N (by omega) (by omega) x1 hx1 x3 hx3 A) (fun v4 A5 _ hv4 => ?_)
      refine js_iadd (pc1 := 31) rfl rfl ?_
      refine zG_w1 ?_
      refine js_istore (pc1 := 32) (L1 := [some (.inr (.inr (some 107))), some (.inr (.inr (some x1))), some (.inl (zw (x2 + v4))), some (.inl x3)]) rfl rfl rfl rfl ?_
      refine js_aload (pc1 := 33) rfl rfl rfl ?_
      refine js_cV (pc1 := 36) (as := [(.inr (.inr (some x1)))]) (S0 := []) (m := 6) (L0 := [some (.inr (.inr (some x1))), none, none, none, none, none]) rfl rfl rfl rfl rfl rfl rfl rfl (zrc_o rfl hx1) (by omega) (by omega) (z_Pt_link_ok N (by omega) (by omega) x1 hx1 A5) (fun A6 _ => ?_)
      refine js_iinc (pc1 := 39) (L1 := [some (.inr (.inr (some 107))), some (.inr (.inr (some x1))), some (.inl (zw (x2 + v4))), some (.inl (x3 + (-1)))]) rfl rfl rfl rfl ?_
      refine js_goto (t1 := 9) rfl rfl ?_
      exact zG_to (L := [some (.inr (.inr (some 107))), some (.inr (.inr (some x1))), some (.inl (zw (x2 + v4))), some (.inl (zw (x3 + (-1))))]) (S := []) ⟨rfl, ⟨rfl, ⟨rfl, ⟨zval_w (x3 + (-1)), trivial⟩⟩⟩⟩ (rfl) (hr9 x1 hx1 (zw (x2 + v4)) (zw_rg (x2 + v4)) (zw (x3 + (-1))) (zw_rg (x3 + (-1))) A6)
    · refine js_iinc (pc1 := 39) (L1 := [some (.inr (.inr (some 107))), some (.inr (.inr (some x1))), some (.inl x2), some (.inl (x3 + (-1)))]) rfl rfl rfl rfl ?_
      refine js_goto (t1 := 9) rfl rfl ?_
      exact zG_to (L := [some (.inr (.inr (some 107))), some (.inr (.inr (some x1))), some (.inl x2), some (.inl (zw (x3 + (-1))))]) (S := []) ⟨rfl, ⟨rfl, ⟨rfl, ⟨zval_w (x3 + (-1)), trivial⟩⟩⟩⟩ (rfl) (hr9 x1 hx1 x2 hx2 (zw (x3 + (-1))) (zw_rg (x3 + (-1))) A)
theorem z_Mv_hoist_9_lok{d w : Nat} (N : Nat) (hd : 4 ≤ d) (hw : 98 ≤ w) (n : Nat) : ∀ (x1 : Nat) (hx1 : zsh x1 = some (false, 3, 4)) (x2 : Int) (hx2 : zrg x2) (x3 : Int) (hx3 : zrg x3) (A : zA), zG (z_Mv_hoist_9_l N n x1 x2 x3 A) zPI d w 141 9 [some (.inr (.inr (some 107))), some (.inr (.inr (some x1))), some (.inl x2), some (.inl x3)] [] A := by
  induction n with
  | zero => intros; exact zG_none
  | succ n ih =>
    intro x1 hx1 x2 hx2 x3 hx3 A
    exact z_Mv_hoist_9_bok ih N hd hw x1 hx1 x2 hx2 x3 hx3 A
theorem z_Mv_hoist_9_ok{d w : Nat} (N : Nat) (hd : 4 ≤ d) (hw : 98 ≤ w) (x1 : Nat) (hx1 : zsh x1 = some (false, 3, 4)) (x2 : Int) (hx2 : zrg x2) (x3 : Int) (hx3 : zrg x3) (A : zA) : zG (z_Mv_hoist_9 N x1 x2 x3 A) zPI d w 141 9 [some (.inr (.inr (some 107))), some (.inr (.inr (some x1))), some (.inl x2), some (.inl x3)] [] A := z_Mv_hoist_9_lok N hd hw N x1 hx1 x2 hx2 x3 hx3 A
theorem z_Mv_hoist_ok{d w : Nat} (N : Nat) (hd : 4 ≤ d) (hw : 98 ≤ w) (x1 : Nat) (hx1 : zsh x1 = some (false, 3, 4)) (A : zA) : zG (z_Mv_hoist N x1 A) zPI d w 141 0 [some (.inr (.inr (some 107))), some (.inr (.inr (some x1))), none, none] [] A := by
  unfold z_Mv_hoist
  refine js_iconst (pc1 := 1) rfl rfl ?_
  refine js_istore (pc1 := 2) (L1 := [some (.inr (.inr (some 107))), some (.inr (.inr (some x1))), some (.inl 0), none]) rfl rfl rfl rfl ?_
  refine js_aload (pc1 := 3) rfl rfl rfl ?_
  refine js_gi (pc1 := 6) (j := 2) rfl rfl hx1 rfl ?_
  refine js_iconst (pc1 := 7) rfl rfl ?_
  refine js_isub (pc1 := 8) rfl rfl ?_
  refine zG_w1 ?_
  refine js_istore (pc1 := 9) (L1 := [some (.inr (.inr (some 107))), some (.inr (.inr (some x1))), some (.inl 0), some (.inl (zw ((zi A x1 2) - 1)))]) rfl rfl rfl rfl ?_
  exact z_Mv_hoist_9_ok N hd hw x1 hx1 0 (zlit rfl) (zw ((zi A x1 2) - 1)) (zw_rg ((zi A x1 2) - 1)) A
theorem z_Mv_fitsIn_ok{d w : Nat} (N : Nat) (hd : 0 ≤ d) (hw : 0 ≤ w) (x0 : Nat) (hx0 : zsh x0 = some (false, 3, 4)) (x1 : Nat) (hx1 : zsh x1 = some (false, 3, 4)) (A : zA) : zG (z_Mv_fitsIn N x0 x1 A) (zPp A) d w 177 0 [some (.inr (.inr (some x0))), some (.inr (.inr (some x1)))] [] A := by
  unfold z_Mv_fitsIn
  refine js_aload (pc1 := 1) rfl rfl rfl ?_
  refine js_gi (pc1 := 4) (j := 3) rfl rfl hx0 rfl ?_
  refine js_aload (pc1 := 5) rfl rfl rfl ?_
  refine js_gi (pc1 := 8) (j := 3) rfl rfl hx1 rfl ?_
  refine js_iadd (pc1 := 9) rfl rfl ?_
  refine js_iconst (pc1 := 11) rfl rfl ?_
  refine js_isub (pc1 := 12) rfl rfl ?_
  refine js_iconst (pc1 := 14) rfl rfl ?_
  refine zG_w2 ?_
  refine jt_gt (pc1 := 17) (t1 := 21) (zw_rg (((zi A x0 3) + (zi A x1 3)) - 6)) (zlit rfl) rfl rfl rfl (fun c1 => ?_) (fun c1 => ?_)
  · refine js_iconst (pc1 := 22) rfl rfl ?_
    exact je_P rfl (zfit3 rfl (Or.inl rfl)) rfl (zlit rfl)
  · refine js_iconst (pc1 := 18) rfl rfl ?_
    refine js_goto (t1 := 22) rfl rfl ?_
    exact je_P rfl (zfit3 rfl (Or.inr rfl)) rfl (zlit rfl)
theorem z_Mv_shiftRegisters_26_bok{d w : Nat} {r26 : Nat → Int → Int → Int → zA → Option zA} (hr26 : ∀ (x0 : Nat) (hx0 : zsh x0 = some (false, 3, 4)) (x1 : Int) (hx1 : zrg x1) (x2 : Int) (hx2 : zrg x2) (x3 : Int) (hx3 : zrg x3) (A : zA), zG (r26 x0 x1 x2 x3 A) zPV d w 248 26 [some (.inr (.inr (some x0))), some (.inl x1), some (.inl x2), some (.inl x3), none] [] A) (N : Nat) (hd : 2 ≤ d) (hw : 46 ≤ w) (x0 : Nat) (hx0 : zsh x0 = some (false, 3, 4)) (x1 : Int) (hx1 : zrg x1) (x2 : Int) (hx2 : zrg x2) (x3 : Int) (hx3 : zrg x3) (A : zA) : zG (z_Mv_shiftRegisters_26_b r26 N x0 x1 x2 x3 A) zPV d w 248 26 [some (.inr (.inr (some x0))), some (.inl x1), some (.inl x2), some (.inl x3), none] [] A := by
  unfold z_Mv_shiftRegisters_26_b
  refine js_iload (pc1 := 27) rfl rfl rfl ?_
  refine js_aload (pc1 := 28) rfl rfl rfl ?_
  refine js_iload (pc1 := 29) rfl rfl rfl ?_
  refine js_cP (pc1 := 32) (as := [(.inr (.inr (some x0))), (.inl x1)]) (S0 := [(.inl x3)]) (m := 2) (L0 := [some (.inr (.inr (some x0))), some (.inl x1)]) rfl rfl rfl rfl rfl rfl rfl rfl (zrc_o rfl hx0) (by omega) (by omega) (z_Pt_reads_ok N (by omega) (by omega) x0 hx0 x1 hx1 A) (fun v1 _ hv1 => ?_)
  refine jt_ge (pc1 := 35) (t1 := 77) hx3 hv1 rfl rfl rfl (fun c2 => ?_) (fun c2 => ?_)
  · refine js_aload (pc1 := 36) rfl rfl rfl ?_
    refine js_iload (pc1 := 37) rfl rfl rfl ?_
    refine js_iload (pc1 := 38) rfl rfl rfl ?_
    refine js_cP (pc1 := 41) (as := [(.inr (.inr (some x0))), (.inl x1), (.inl x3)]) (S0 := []) (m := 3) (L0 := [some (.inr (.inr (some x0))), some (.inl x1), some (.inl x3)]) rfl rfl rfl rfl rfl rfl rfl rfl (zrc_o rfl hx0) (by omega) (by omega) (z_Pt_readNumber_ok N (by omega) (by omega) x0 hx0 x1 hx1 x3 hx3 A) (fun v3 _ hv3 => ?_)
    refine js_istore (pc1 := 43) (L1 := [some (.inr (.inr (some x0))), some (.inl x1), some (.inl x2), some (.inl x3), some (.inl v3)]) rfl rfl rfl rfl ?_
    refine js_aload (pc1 := 44) rfl rfl rfl ?_
    refine js_iload (pc1 := 45) rfl rfl rfl ?_
    refine js_iload (pc1 := 47) rfl rfl rfl ?_
    refine js_cP (pc1 := 50) (as := [(.inr (.inr (some x0))), (.inl x1), (.inl v3)]) (S0 := []) (m := 4) (L0 := [some (.inr (.inr (some x0))), some (.inl x1), some (.inl v3), none]) rfl rfl rfl rfl rfl rfl rfl rfl (zrc_o rfl hx0) (by omega) (by omega) (z_Pt_number_ok N (by omega) (by omega) x0 hx0 x1 hx1 v3 hv3 A) (fun v4 _ hv4 => ?_)
    refine js_iconst (pc1 := 52) rfl rfl ?_
    refine jt_lt (pc1 := 55) (t1 := 71) hv4 (zlit rfl) rfl rfl rfl (fun c5 => ?_) (fun c5 => ?_)
    · refine js_iinc (pc1 := 74) (L1 := [some (.inr (.inr (some x0))), some (.inl x1), some (.inl x2), some (.inl (x3 + 1)), some (.inl v3)]) rfl rfl rfl rfl ?_
      refine js_goto (t1 := 26) rfl rfl ?_
      exact zG_to (L := [some (.inr (.inr (some x0))), some (.inl x1), some (.inl x2), some (.inl (zw (x3 + 1))), none]) (S := []) ⟨rfl, ⟨rfl, ⟨rfl, ⟨zval_w (x3 + 1), trivial⟩⟩⟩⟩ (rfl) (hr26 x0 hx0 x1 hx1 x2 hx2 (zw (x3 + 1)) (zw_rg (x3 + 1)) A)
    · refine js_aload (pc1 := 56) rfl rfl rfl ?_
      refine js_iload (pc1 := 57) rfl rfl rfl ?_
      refine js_iload (pc1 := 59) rfl rfl rfl ?_
      refine js_aload (pc1 := 60) rfl rfl rfl ?_
      refine js_iload (pc1 := 61) rfl rfl rfl ?_
      refine js_iload (pc1 := 63) rfl rfl rfl ?_
      refine js_cP (pc1 := 66) (as := [(.inr (.inr (some x0))), (.inl x1), (.inl v3)]) (S0 := [(.inl v3), (.inl x1), (.inr (.inr (some x0)))]) (m := 4) (L0 := [some (.inr (.inr (some x0))), some (.inl x1), some (.inl v3), none]) rfl rfl rfl rfl rfl rfl rfl rfl (zrc_o rfl hx0) (by omega) (by omega) (z_Pt_number_ok N (by omega) (by omega) x0 hx0 x1 hx1 v3 hv3 A) (fun v6 _ hv6 => ?_)
      refine js_iload (pc1 := 67) rfl rfl rfl ?_
      refine js_iadd (pc1 := 68) rfl rfl ?_
      refine js_cV (pc1 := 71) (as := [(.inr (.inr (some x0))), (.inl x1), (.inl v3), (.inl (v6 + x2))]) (S0 := []) (m := 4) (L0 := [some (.inr (.inr (some x0))), some (.inl x1), some (.inl v3), some (.inl (v6 + x2))]) rfl rfl rfl rfl rfl rfl rfl rfl (zrc_o rfl hx0) (by omega) (by omega) (zG_to (L := [some (.inr (.inr (some x0))), some (.inl x1), some (.inl v3), some (.inl (zw (v6 + x2)))]) (S := []) ⟨rfl, ⟨rfl, ⟨rfl, ⟨zval_w (v6 + x2), trivial⟩⟩⟩⟩ rfl (z_Pt_setNumber_ok N (by omega) (by omega) x0 hx0 x1 hx1 v3 hv3 (zw (v6 + x2)) (zw_rg (v6 + x2)) A)) (fun A7 _ => ?_)
      refine js_iinc (pc1 := 74) (L1 := [some (.inr (.inr (some x0))), some (.inl x1), some (.inl x2), some (.inl (x3 + 1)), some (.inl v3)]) rfl rfl rfl rfl ?_
      refine js_goto (t1 := 26) rfl rfl ?_
      exact zG_to (L := [some (.inr (.inr (some x0))), some (.inl x1), some (.inl x2), some (.inl (zw (x3 + 1))), none]) (S := []) ⟨rfl, ⟨rfl, ⟨rfl, ⟨zval_w (x3 + 1), trivial⟩⟩⟩⟩ (rfl) (hr26 x0 hx0 x1 hx1 x2 hx2 (zw (x3 + 1)) (zw_rg (x3 + 1)) A7)
  · exact je_V rfl
theorem z_Mv_shiftRegisters_26_lok{d w : Nat} (N : Nat) (hd : 2 ≤ d) (hw : 46 ≤ w) (n : Nat) : ∀ (x0 : Nat) (hx0 : zsh x0 = some (false, 3, 4)) (x1 : Int) (hx1 : zrg x1) (x2 : Int) (hx2 : zrg x2) (x3 : Int) (hx3 : zrg x3) (A : zA), zG (z_Mv_shiftRegisters_26_l N n x0 x1 x2 x3 A) zPV d w 248 26 [some (.inr (.inr (some x0))), some (.inl x1), some (.inl x2), some (.inl x3), none] [] A := by
  induction n with
  | zero => intros; exact zG_none
  | succ n ih =>
    intro x0 hx0 x1 hx1 x2 hx2 x3 hx3 A
    exact z_Mv_shiftRegisters_26_bok ih N hd hw x0 hx0 x1 hx1 x2 hx2 x3 hx3 A
theorem z_Mv_shiftRegisters_26_ok{d w : Nat} (N : Nat) (hd : 2 ≤ d) (hw : 46 ≤ w) (x0 : Nat) (hx0 : zsh x0 = some (false, 3, 4)) (x1 : Int) (hx1 : zrg x1) (x2 : Int) (hx2 : zrg x2) (x3 : Int) (hx3 : zrg x3) (A : zA) : zG (z_Mv_shiftRegisters_26 N x0 x1 x2 x3 A) zPV d w 248 26 [some (.inr (.inr (some x0))), some (.inl x1), some (.inl x2), some (.inl x3), none] [] A := z_Mv_shiftRegisters_26_lok N hd hw N x0 hx0 x1 hx1 x2 hx2 x3 hx3 A
theorem z_Mv_shiftRegisters_ok{d w : Nat} (N : Nat) (hd : 2 ≤ d) (hw : 46 ≤ w) (x0 : Nat) (hx0 : zsh x0 = some (false, 3, 4)) (x1 : Int) (hx1 : zrg x1) (x2 : Int) (hx2 : zrg x2) (A : zA) : zG (z_Mv_shiftRegisters N x0 x1 x2 A) zPV d w 248 0 [some (.inr (.inr (some x0))), some (.inl x1), some (.inl x2), none, none] [] A := by
  unfold z_Mv_shiftRegisters
  refine js_aload (pc1 := 1) rfl rfl rfl ?_
  refine js_iload (pc1 := 2) rfl rfl rfl ?_
  refine js_cP (pc1 := 5) (as := [(.inr (.inr (some x0))), (.inl x1)]) (S0 := []) (m := 3) (L0 := [some (.inr (.inr (some x0))), some (.inl x1), none]) rfl rfl rfl rfl rfl rfl rfl rfl (zrc_o rfl hx0) (by omega) (by omega) (z_Pt_written_ok N (by omega) (by omega) x0 hx0 x1 hx1 A) (fun v1 _ hv1 => ?_)
  refine js_iconst (pc1 := 7) rfl rfl ?_
  refine jt_lt (pc1 := 10) (t1 := 24) hv1 (zlit rfl) rfl rfl rfl (fun c2 => ?_) (fun c2 => ?_)
  · refine js_iconst (pc1 := 25) rfl rfl ?_
    refine js_istore (pc1 := 26) (L1 := [some (.inr (.inr (some x0))), some (.inl x1), some (.inl x2), some (.inl 0), none]) rfl rfl rfl rfl ?_
    exact z_Mv_shiftRegisters_26_ok N hd hw x0 hx0 x1 hx1 x2 hx2 0 (zlit rfl) A
  · refine js_aload (pc1 := 11) rfl rfl rfl ?_
    refine js_iload (pc1 := 12) rfl rfl rfl ?_
    refine js_iconst (pc1 := 13) rfl rfl ?_
    refine js_aload (pc1 := 14) rfl rfl rfl ?_
    refine js_iload (pc1 := 15) rfl rfl rfl ?_
    refine js_iconst (pc1 := 16) rfl rfl ?_
    refine js_cP (pc1 := 19) (as := [(.inr (.inr (some x0))), (.inl x1), (.inl 0)]) (S0 := [(.inl 0), (.inl x1), (.inr (.inr (some x0)))]) (m := 4) (L0 := [some (.inr (.inr (some x0))), some (.inl x1), some (.inl 0), none]) rfl rfl rfl rfl rfl rfl rfl rfl (zrc_o rfl hx0) (by omega) (by omega) (z_Pt_number_ok N (by omega) (by omega) x0 hx0 x1 hx1 0 (zlit rfl) A) (fun v3 _ hv3 => ?_)
    refine js_iload (pc1 := 20) rfl rfl rfl ?_
    refine js_iadd (pc1 := 21) rfl rfl ?_
    refine js_cV (pc1 := 24) (as := [(.inr (.inr (some x0))), (.inl x1), (.inl 0), (.inl (v3 + x2))]) (S0 := []) (m := 4) (L0 := [some (.inr (.inr (some x0))), some (.inl x1), some (.inl 0), some (.inl (v3 + x2))]) rfl rfl rfl rfl rfl rfl rfl rfl (zrc_o rfl hx0) (by omega) (by omega) (zG_to (L := [some (.inr (.inr (some x0))), some (.inl x1), some (.inl 0), some (.inl (zw (v3 + x2)))]) (S := []) ⟨rfl, ⟨rfl, ⟨rfl, ⟨zval_w (v3 + x2), trivial⟩⟩⟩⟩ rfl (z_Pt_setNumber_ok N (by omega) (by omega) x0 hx0 x1 hx1 0 (zlit rfl) (zw (v3 + x2)) (zw_rg (v3 + x2)) A)) (fun A4 _ => ?_)
    refine js_iconst (pc1 := 25) rfl rfl ?_
    refine js_istore (pc1 := 26) (L1 := [some (.inr (.inr (some x0))), some (.inl x1), some (.inl x2), some (.inl 0), none]) rfl rfl rfl rfl ?_
    exact z_Mv_shiftRegisters_26_ok N hd hw x0 hx0 x1 hx1 x2 hx2 0 (zlit rfl) A4
