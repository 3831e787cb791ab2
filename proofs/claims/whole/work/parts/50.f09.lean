theorem z_Th_field_ok{d w : Nat} (N : Nat) (hd : 1 ≤ d) (hw : 21 ≤ w) (x0 : Nat) (hx0 : zsh x0 = some (false, 6, 5)) (x1 : Int) (hx1 : zrg x1) (x2 : Int) (hx2 : zrg x2) (A : zA) : zG (z_Th_field N x0 x1 x2 A) (zPp A) d w 255 0 [some (.inr (.inr (some x0))), some (.inl x1), some (.inl x2)] [] A := by
  unfold z_Th_field
  refine js_aload (pc1 := 1) rfl rfl rfl ?_
  refine js_iload (pc1 := 2) rfl rfl rfl ?_
  refine js_cP (pc1 := 5) (as := [(.inr (.inr (some x0))), (.inl x1)]) (S0 := []) (m := 2) (L0 := [some (.inr (.inr (some x0))), some (.inl x1)]) rfl rfl rfl rfl rfl rfl rfl rfl (zrc_o rfl hx0) (by omega) (by omega) (z_Th_has_ok N (by omega) (by omega) x0 hx0 x1 hx1 A) (fun v1 _ hv1 => ?_)
  refine ju_eq (pc1 := 8) (t1 := 33) hv1 rfl rfl rfl (fun c2 => ?_) (fun c2 => ?_)
  · refine js_iconst (pc1 := 34) rfl rfl ?_
    exact je_P rfl (zfit0 _ rfl) rfl (zlit rfl)
  · refine js_iload (pc1 := 9) rfl rfl rfl ?_
    refine ju_lt (pc1 := 12) (t1 := 33) hx2 rfl rfl rfl (fun c3 => ?_) (fun c3 => ?_)
    · refine js_iconst (pc1 := 34) rfl rfl ?_
      exact je_P rfl (zfit0 _ rfl) rfl (zlit rfl)
    · refine js_iload (pc1 := 13) rfl rfl rfl ?_
      refine js_iconst (pc1 := 14) rfl rfl ?_
      refine jt_ge (pc1 := 17) (t1 := 33) hx2 (zlit rfl) rfl rfl rfl (fun c4 => ?_) (fun c4 => ?_)
      · refine js_aload (pc1 := 18) rfl rfl rfl ?_
        refine jt_gr (pc1 := 21) (j := 0) rfl rfl hx0 rfl (fun p5 => ?_)
        refine js_iload (pc1 := 22) rfl rfl rfl ?_
        refine js_iconst (pc1 := 24) rfl rfl ?_
        refine js_imul (pc1 := 25) rfl rfl ?_
        refine js_iconst (pc1 := 26) rfl rfl ?_
        refine js_iadd (pc1 := 27) rfl rfl ?_
        refine js_iload (pc1 := 28) rfl rfl rfl ?_
        refine js_iadd (pc1 := 29) rfl rfl ?_
        refine jt_aldD (pc1 := 30) rfl rfl (fun v6 hv6 => ?_)
        refine js_goto (t1 := 34) rfl rfl ?_
        exact je_P rfl (zfit0 _ rfl) rfl hv6
      · refine js_iconst (pc1 := 34) rfl rfl ?_
        exact je_P rfl (zfit0 _ rfl) rfl (zlit rfl)
theorem z_Th_reachFields_ok{d w : Nat} (N : Nat) (hd : 2 ≤ d) (hw : 43 ≤ w) (x0 : Nat) (hx0 : zsh x0 = some (false, 6, 5)) (x1 : Int) (hx1 : zrg x1) (A : zA) : zG (z_Th_reachFields N x0 x1 A) zPV d w 188 0 [some (.inr (.inr (some x0))), some (.inl x1)] [] A := by
  unfold z_Th_reachFields
  refine js_aload (pc1 := 1) rfl rfl rfl ?_
  refine js_iload (pc1 := 2) rfl rfl rfl ?_
  refine js_cP (pc1 := 5) (as := [(.inr (.inr (some x0))), (.inl x1)]) (S0 := []) (m := 2) (L0 := [some (.inr (.inr (some x0))), some (.inl x1)]) rfl rfl rfl rfl rfl rfl rfl rfl (zrc_o rfl hx0) (by omega) (by omega) (z_Th_kind_ok N (by omega) (by omega) x0 hx0 x1 hx1 A) (fun v1 _ hv1 => ?_)
  refine zG_ite (fun c6 => ?_) (fun c6 => ?_)
  · refine js_tsw (t1 := 44) rfl c6 (zlit rfl) (by decide) ?_
    refine js_aload (pc1 := 45) rfl rfl rfl ?_
    refine js_aload (pc1 := 46) rfl rfl rfl ?_
    refine js_iload (pc1 := 47) rfl rfl rfl ?_
    refine js_iconst (pc1 := 48) rfl rfl ?_
    refine js_cP (pc1 := 51) (as := [(.inr (.inr (some x0))), (.inl x1), (.inl 1)]) (S0 := [(.inr (.inr (some x0)))]) (m := 3) (L0 := [some (.inr (.inr (some x0))), some (.inl x1), some (.inl 1)]) rfl rfl rfl rfl rfl rfl rfl rfl (zrc_o rfl hx0) (by omega) (by omega) (z_Th_field_ok N (by omega) (by omega) x0 hx0 x1 hx1 1 (zlit rfl) A) (fun v2 _ hv2 => ?_)
    refine js_cV (pc1 := 54) (as := [(.inr (.inr (some x0))), (.inl v2)]) (S0 := []) (m := 2) (L0 := [some (.inr (.inr (some x0))), some (.inl v2)]) rfl rfl rfl rfl rfl rfl rfl rfl (zrc_o rfl hx0) (by omega) (by omega) (z_Th_reach_ok N (by omega) (by omega) x0 hx0 v2 hv2 A) (fun A3 _ => ?_)
    refine js_aload (pc1 := 55) rfl rfl rfl ?_
    refine js_aload (pc1 := 56) rfl rfl rfl ?_
    refine js_iload (pc1 := 57) rfl rfl rfl ?_
    refine js_iconst (pc1 := 58) rfl rfl ?_
    refine js_cP (pc1 := 61) (as := [(.inr (.inr (some x0))), (.inl x1), (.inl 2)]) (S0 := [(.inr (.inr (some x0)))]) (m := 3) (L0 := [some (.inr (.inr (some x0))), some (.inl x1), some (.inl 2)]) rfl rfl rfl rfl rfl rfl rfl rfl (zrc_o rfl hx0) (by omega) (by omega) (z_Th_field_ok N (by omega) (by omega) x0 hx0 x1 hx1 2 (zlit rfl) A3) (fun v4 _ hv4 => ?_)
    refine js_cV (pc1 := 64) (as := [(.inr (.inr (some x0))), (.inl v4)]) (S0 := []) (m := 2) (L0 := [some (.inr (.inr (some x0))), some (.inl v4)]) rfl rfl rfl rfl rfl rfl rfl rfl (zrc_o rfl hx0) (by omega) (by omega) (z_Th_reach_ok N (by omega) (by omega) x0 hx0 v4 hv4 A3) (fun A5 _ => ?_)
    refine js_goto (t1 := 123) rfl rfl ?_
    exact je_V rfl
  refine zG_ite (fun c11 => ?_) (fun c11 => ?_)
  · refine js_tsw (t1 := 67) rfl c11 (zlit rfl) (by decide) ?_
    refine js_aload (pc1 := 68) rfl rfl rfl ?_
    refine js_aload (pc1 := 69) rfl rfl rfl ?_
    refine js_iload (pc1 := 70) rfl rfl rfl ?_
    refine js_iconst (pc1 := 71) rfl rfl ?_
    refine js_cP (pc1 := 74) (as := [(.inr (.inr (some x0))), (.inl x1), (.inl 0)]) (S0 := [(.inr (.inr (some x0)))]) (m := 3) (L0 := [some (.inr (.inr (some x0))), some (.inl x1), some (.inl 0)]) rfl rfl rfl rfl rfl rfl rfl rfl (zrc_o rfl hx0) (by omega) (by omega) (z_Th_field_ok N (by omega) (by omega) x0 hx0 x1 hx1 0 (zlit rfl) A) (fun v7 _ hv7 => ?_)
    refine js_cV (pc1 := 77) (as := [(.inr (.inr (some x0))), (.inl v7)]) (S0 := []) (m := 2) (L0 := [some (.inr (.inr (some x0))), some (.inl v7)]) rfl rfl rfl rfl rfl rfl rfl rfl (zrc_o rfl hx0) (by omega) (by omega) (z_Th_reach_ok N (by omega) (by omega) x0 hx0 v7 hv7 A) (fun A8 _ => ?_)
    refine js_aload (pc1 := 78) rfl rfl rfl ?_
    refine js_aload (pc1 := 79) rfl rfl rfl ?_
    refine js_iload (pc1 := 80) rfl rfl rfl ?_
    refine js_iconst (pc1 := 81) rfl rfl ?_
    refine js_cP (pc1 := 84) (as := [(.inr (.inr (some x0))), (.inl x1), (.inl 1)]) (S0 := [(.inr (.inr (some x0)))]) (m := 3) (L0 := [some (.inr (.inr (some x0))), some (.inl x1), some (.inl 1)]) rfl rfl rfl rfl rfl rfl rfl rfl (zrc_o rfl hx0) (by omega) (by omega) (z_Th_field_ok N (by omega) (by omega) x0 hx0 x1 hx1 1 (zlit rfl) A8) (fun v9 _ hv9 => ?_)
    refine js_cV (pc1 := 87) (as := [(.inr (.inr (some x0))), (.inl v9)]) (S0 := []) (m := 2) (L0 := [some (.inr (.inr (some x0))), some (.inl v9)]) rfl rfl rfl rfl rfl rfl rfl rfl (zrc_o rfl hx0) (by omega) (by omega) (z_Th_reach_ok N (by omega) (by omega) x0 hx0 v9 hv9 A8) (fun A10 _ => ?_)
    refine js_goto (t1 := 123) rfl rfl ?_
    exact je_V rfl
  refine zG_ite (fun c18 => ?_) (fun c18 => ?_)
  · refine js_tsw (t1 := 90) rfl c18 (zlit rfl) (by decide) ?_
    refine js_aload (pc1 := 91) rfl rfl rfl ?_
    refine js_aload (pc1 := 92) rfl rfl rfl ?_
    refine js_iload (pc1 := 93) rfl rfl rfl ?_
    refine js_iconst (pc1 := 94) rfl rfl ?_
    refine js_cP (pc1 := 97) (as := [(.inr (.inr (some x0))), (.inl x1), (.inl 0)]) (S0 := [(.inr (.inr (some x0)))]) (m := 3) (L0 := [some (.inr (.inr (some x0))), some (.inl x1), some (.inl 0)]) rfl rfl rfl rfl rfl rfl rfl rfl (zrc_o rfl hx0) (by omega) (by omega) (z_Th_field_ok N (by omega) (by omega) x0 hx0 x1 hx1 0 (zlit rfl) A) (fun v12 _ hv12 => ?_)
    refine js_cV (pc1 := 100) (as := [(.inr (.inr (some x0))), (.inl v12)]) (S0 := []) (m := 2) (L0 := [some (.inr (.inr (some x0))), some (.inl v12)]) rfl rfl rfl rfl rfl rfl rfl rfl (zrc_o rfl hx0) (by omega) (by omega) (z_Th_reach_ok N (by omega) (by omega) x0 hx0 v12 hv12 A) (fun A13 _ => ?_)
    refine js_aload (pc1 := 101) rfl rfl rfl ?_
    refine js_aload (pc1 := 102) rfl rfl rfl ?_
    refine js_iload (pc1 := 103) rfl rfl rfl ?_
    refine js_iconst (pc1 := 104) rfl rfl ?_
    refine js_cP (pc1 := 107) (as := [(.inr (.inr (some x0))), (.inl x1), (.inl 1)]) (S0 := [(.inr (.inr (some x0)))]) (m := 3) (L0 := [some (.inr (.inr (some x0))), some (.inl x1), some (.inl 1)]) rfl rfl rfl rfl rfl rfl rfl rfl (zrc_o rfl hx0) (by omega) (by omega) (z_Th_field_ok N (by omega) (by omega) x0 hx0 x1 hx1 1 (zlit rfl) A13) (fun v14 _ hv14 => ?_)
    refine js_cV (pc1 := 110) (as := [(.inr (.inr (some x0))), (.inl v14)]) (S0 := []) (m := 2) (L0 := [some (.inr (.inr (some x0))), some (.inl v14)]) rfl rfl rfl rfl rfl rfl rfl rfl (zrc_o rfl hx0) (by omega) (by omega) (z_Th_reach_ok N (by omega) (by omega) x0 hx0 v14 hv14 A13) (fun A15 _ => ?_)
    refine js_aload (pc1 := 111) rfl rfl rfl ?_
    refine js_aload (pc1 := 112) rfl rfl rfl ?_
    refine js_iload (pc1 := 113) rfl rfl rfl ?_
    refine js_iconst (pc1 := 114) rfl rfl ?_
    refine js_cP (pc1 := 117) (as := [(.inr (.inr (some x0))), (.inl x1), (.inl 2)]) (S0 := [(.inr (.inr (some x0)))]) (m := 3) (L0 := [some (.inr (.inr (some x0))), some (.inl x1), some (.inl 2)]) rfl rfl rfl rfl rfl rfl rfl rfl (zrc_o rfl hx0) (by omega) (by omega) (z_Th_field_ok N (by omega) (by omega) x0 hx0 x1 hx1 2 (zlit rfl) A15) (fun v16 _ hv16 => ?_)
    refine js_cV (pc1 := 120) (as := [(.inr (.inr (some x0))), (.inl v16)]) (S0 := []) (m := 2) (L0 := [some (.inr (.inr (some x0))), some (.inl v16)]) rfl rfl rfl rfl rfl rfl rfl rfl (zrc_o rfl hx0) (by omega) (by omega) (z_Th_reach_ok N (by omega) (by omega) x0 hx0 v16 hv16 A15) (fun A17 _ => ?_)
    refine js_goto (t1 := 123) rfl rfl ?_
    exact je_V rfl
  refine zG_ite (fun c25 => ?_) (fun c25 => ?_)
  · refine js_tsw (t1 := 90) rfl c25 (zlit rfl) (by decide) ?_
    refine js_aload (pc1 := 91) rfl rfl rfl ?_
    refine js_aload (pc1 := 92) rfl rfl rfl ?_
    refine js_iload (pc1 := 93) rfl rfl rfl ?_
    refine js_iconst (pc1 := 94) rfl rfl ?_
    refine js_cP (pc1 := 97) (as := [(.inr (.inr (some x0))), (.inl x1), (.inl 0)]) (S0 := [(.inr (.inr (some x0)))]) (m := 3) (L0 := [some (.inr (.inr (some x0))), some (.inl x1), some (.inl 0)]) rfl rfl rfl rfl rfl rfl rfl rfl (zrc_o rfl hx0) (by omega) (by omega) (z_Th_field_ok N (by omega) (by omega) x0 hx0 x1 hx1 0 (zlit rfl) A) (fun v19 _ hv19 => ?_)
    refine js_cV (pc1 := 100) (as := [(.inr (.inr (some x0))), (.inl v19)]) (S0 := []) (m := 2) (L0 := [some (.inr (.inr (some x0))), some (.inl v19)]) rfl rfl rfl rfl rfl rfl rfl rfl (zrc_o rfl hx0) (by omega) (by omega) (z_Th_reach_ok N (by omega) (by omega) x0 hx0 v19 hv19 A) (fun A20 _ => ?_)
    refine js_aload (pc1 := 101) rfl rfl rfl ?_
    refine js_aload (pc1 := 102) rfl rfl rfl ?_
    refine js_iload (pc1 := 103) rfl rfl rfl ?_
    refine js_iconst (pc1 := 104) rfl rfl ?_
    refine js_cP (pc1 := 107) (as := [(.inr (.inr (some x0))), (.inl x1), (.inl 1)]) (S0 := [(.inr (.inr (some x0)))]) (m := 3) (L0 := [some (.inr (.inr (some x0))), some (.inl x1), some (.inl 1)]) rfl rfl rfl rfl rfl rfl rfl rfl (zrc_o rfl hx0) (by omega) (by omega) (z_Th_field_ok N (by omega) (by omega) x0 hx0 x1 hx1 1 (zlit rfl) A20) (fun v21 _ hv21 => ?_)
    refine js_cV (pc1 := 110) (as := [(.inr (.inr (some x0))), (.inl v21)]) (S0 := []) (m := 2) (L0 := [some (.inr (.inr (some x0))), some (.inl v21)]) rfl rfl rfl rfl rfl rfl rfl rfl (zrc_o rfl hx0) (by omega) (by omega) (z_Th_reach_ok N (by omega) (by omega) x0 hx0 v21 hv21 A20) (fun A22 _ => ?_)
    refine js_aload (pc1 := 111) rfl rfl rfl ?_
    refine js_aload (pc1 := 112) rfl rfl rfl ?_
    refine js_iload (pc1 := 113) rfl rfl rfl ?_
    refine js_iconst (pc1 := 114) rfl rfl ?_
    refine js_cP (pc1 := 117) (as := [(.inr (.inr (some x0))), (.inl x1), (.inl 2)]) (S0 := [(.inr (.inr (some x0)))]) (m := 3) (L0 := [some (.inr (.inr (some x0))), some (.inl x1), some (.inl 2)]) rfl rfl rfl rfl rfl rfl rfl rfl (zrc_o rfl hx0) (by omega) (by omega) (z_Th_field_ok N (by omega) (by omega) x0 hx0 x1 hx1 2 (zlit rfl) A22) (fun v23 _ hv23 => ?_)
    refine js_cV (pc1 := 120) (as := [(.inr (.inr (some x0))), (.inl v23)]) (S0 := []) (m := 2) (L0 := [some (.inr (.inr (some x0))), some (.inl v23)]) rfl rfl rfl rfl rfl rfl rfl rfl (zrc_o rfl hx0) (by omega) (by omega) (z_Th_reach_ok N (by omega) (by omega) x0 hx0 v23 hv23 A22) (fun A24 _ => ?_)
    refine js_goto (t1 := 123) rfl rfl ?_
    exact je_V rfl
  rcases Decidable.em (v1 = 3) with c26 | c26
  · refine js_tsw (t1 := 123) rfl c26 (zlit rfl) (by decide) ?_
    exact je_V rfl
  rcases Decidable.em (v1 = 5) with c27 | c27
  · refine js_tsw (t1 := 123) rfl c27 (zlit rfl) (by decide) ?_
    exact je_V rfl
  refine js_tswd (t1 := 123) rfl hv1 (by omega) rfl ?_
  exact je_V rfl
theorem z_Ta_beganAs_ok{d w : Nat} (N : Nat) (hd : 1 ≤ d) (hw : 21 ≤ w) (x0 : Nat) (hx0 : zsh x0 = some (false, 9, 5)) (x1 : Int) (hx1 : zrg x1) (x2 : Int) (hx2 : zrg x2) (A : zA) : zG (z_Ta_beganAs N x0 x1 x2 A) (zPp A) d w 256 0 [some (.inr (.inr (some x0))), some (.inl x1), some (.inl x2), none] [] A := by
  unfold z_Ta_beganAs
  refine js_iload (pc1 := 1) rfl rfl rfl ?_
  refine js_iload (pc1 := 2) rfl rfl rfl ?_
  refine js_cP (pc1 := 5) (as := [(.inl x1), (.inl x2)]) (S0 := []) (m := 2) (L0 := [some (.inl x1), some (.inl x2)]) rfl rfl rfl rfl rfl rfl rfl rfl (zrc_s rfl) (by omega) (by omega) (z_Ta_indexOf_ok N (by omega) (by omega) x1 hx1 x2 hx2 A) (fun v1 _ hv1 => ?_)
  refine js_istore (pc1 := 6) (L1 := [some (.inr (.inr (some x0))), some (.inl x1), some (.inl x2), some (.inl v1)]) rfl rfl rfl rfl ?_
  refine js_aload (pc1 := 7) rfl rfl rfl ?_
  refine js_gro (pc1 := 10) (j := 3) rfl rfl hx0 rfl ?_
  refine js_null (pc1 := 13) (t1 := 26) rfl rfl rfl (fun c2 => ?_) (fun c2 => ?_)
  · refine js_iconst (pc1 := 27) rfl rfl ?_
    exact je_P rfl (zfit0 _ rfl) rfl (zlit rfl)
  · refine js_iload (pc1 := 14) rfl rfl rfl ?_
    refine ju_lt (pc1 := 17) (t1 := 26) hv1 rfl rfl rfl (fun c3 => ?_) (fun c3 => ?_)
    · refine js_iconst (pc1 := 27) rfl rfl ?_
      exact je_P rfl (zfit0 _ rfl) rfl (zlit rfl)
    · refine js_aload (pc1 := 18) rfl rfl rfl ?_
      refine jt_gr (pc1 := 21) (j := 3) rfl rfl hx0 rfl (fun p4 => ?_)
      refine js_iload (pc1 := 22) rfl rfl rfl ?_
      refine jt_aldD (pc1 := 23) rfl rfl (fun v5 hv5 => ?_)
      refine js_goto (t1 := 27) rfl rfl ?_
      exact je_P rfl (zfit0 _ rfl) rfl hv5
theorem z_Ta_hadBecome_ok{d w : Nat} (N : Nat) (hd : 1 ≤ d) (hw : 21 ≤ w) (x0 : Nat) (hx0 : zsh x0 = some (false, 9, 5)) (x1 : Int) (hx1 : zrg x1) (x2 : Int) (hx2 : zrg x2) (A : zA) : zG (z_Ta_hadBecome N x0 x1 x2 A) (zPp A) d w 257 0 [some (.inr (.inr (some x0))), some (.inl x1), some (.inl x2), none] [] A := by
  unfold z_Ta_hadBecome
  refine js_iload (pc1 := 1) rfl rfl rfl ?_
  refine js_iload (pc1 := 2) rfl rfl rfl ?_
  refine js_cP (pc1 := 5) (as := [(.inl x1), (.inl x2)]) (S0 := []) (m := 2) (L0 := [some (.inl x1), some (.inl x2)]) rfl rfl rfl rfl rfl rfl rfl rfl (zrc_s rfl) (by omega) (by omega) (z_Ta_indexOf_ok N (by omega) (by omega) x1 hx1 x2 hx2 A) (fun v1 _ hv1 => ?_)
  refine js_istore (pc1 := 6) (L1 := [some (.inr (.inr (some x0))), some (.inl x1), some (.inl x2), some (.inl v1)]) rfl rfl rfl rfl ?_
  refine js_aload (pc1 := 7) rfl rfl rfl ?_
  refine js_gro (pc1 := 10) (j := 4) rfl rfl hx0 rfl ?_
  refine js_null (pc1 := 13) (t1 := 26) rfl rfl rfl (fun c2 => ?_) (fun c2 => ?_)
  · refine js_iconst (pc1 := 27) rfl rfl ?_
    exact je_P rfl (zfit0 _ rfl) rfl (zlit rfl)
  · refine js_iload (pc1 := 14) rfl rfl rfl ?_
    refine ju_lt (pc1 := 17) (t1 := 26) hv1 rfl rfl rfl (fun c3 => ?_) (fun c3 => ?_)
    · refine js_iconst (pc1 := 27) rfl rfl ?_
      exact je_P rfl (zfit0 _ rfl) rfl (zlit rfl)
    · refine js_aload (pc1 := 18) rfl rfl rfl ?_
      refine jt_gr (pc1 := 21) (j := 4) rfl rfl hx0 rfl (fun p4 => ?_)
      refine js_iload (pc1 := 22) rfl rfl rfl ?_
      refine jt_aldD (pc1 := 23) rfl rfl (fun v5 hv5 => ?_)
      refine js_goto (t1 := 27) rfl rfl ?_
      exact je_P rfl (zfit0 _ rfl) rfl hv5
theorem z_Wk_circlesAlike_ok{d w : Nat} (N : Nat) (hd : 2 ≤ d) (hw : 44 ≤ w) (x1 : Int) (hx1 : zrg x1) (A : zA) : zG (z_Wk_circlesAlike N x1 A) zPI d w 190 0 [some (.inr (.inr (some 110))), some (.inl x1), none, none, none, none] [] A := by
  unfold z_Wk_circlesAlike
  refine js_aload (pc1 := 1) rfl rfl rfl ?_
  refine js_gfr (pc1 := 4) (j := 0) (r := 111) rfl rfl rfl rfl rfl ?_
  refine js_iload (pc1 := 5) rfl rfl rfl ?_
  refine js_iconst (pc1 := 6) rfl rfl ?_
  refine js_cP (pc1 := 9) (as := [(.inr (.inr (some 111))), (.inl x1), (.inl 0)]) (S0 := []) (m := 3) (L0 := [some (.inr (.inr (some 111))), some (.inl x1), some (.inl 0)]) rfl rfl rfl rfl rfl rfl rfl rfl (zrc_o rfl rfl) (by omega) (by omega) (z_Th_field_ok N (by omega) (by omega) 111 rfl x1 hx1 0 (zlit rfl) A) (fun v1 _ hv1 => ?_)
  refine js_istore (pc1 := 10) (L1 := [some (.inr (.inr (some 110))), some (.inl x1), some (.inl v1), none, none, none]) rfl rfl rfl rfl ?_
  refine js_aload (pc1 := 11) rfl rfl rfl ?_
  refine js_gfr (pc1 := 14) (j := 0) (r := 111) rfl rfl rfl rfl rfl ?_
  refine js_iload (pc1 := 15) rfl rfl rfl ?_
  refine js_iconst (pc1 := 16) rfl rfl ?_
  refine js_cP (pc1 := 19) (as := [(.inr (.inr (some 111))), (.inl x1), (.inl 1)]) (S0 := []) (m := 3) (L0 := [some (.inr (.inr (some 111))), some (.inl x1), some (.inl 1)]) rfl rfl rfl rfl rfl rfl rfl rfl (zrc_o rfl rfl) (by omega) (by omega) (z_Th_field_ok N (by omega) (by omega) 111 rfl x1 hx1 1 (zlit rfl) A) (fun v2 _ hv2 => ?_)
  refine js_istore (pc1 := 20) (L1 := [some (.inr (.inr (some 110))), some (.inl x1), some (.inl v1), some (.inl v2), none, none]) rfl rfl rfl rfl ?_
  refine js_aload (pc1 := 21) rfl rfl rfl ?_
  refine js_gfr (pc1 := 24) (j := 1) (r := 114) rfl rfl rfl rfl rfl ?_
  refine js_iload (pc1 := 25) rfl rfl rfl ?_
  refine js_iload (pc1 := 26) rfl rfl rfl ?_
  refine js_cP (pc1 := 29) (as := [(.inr (.inr (some 114))), (.inl v1), (.inl v2)]) (S0 := []) (m := 4) (L0 := [some (.inr (.inr (some 114))), some (.inl v1), some (.inl v2), none]) rfl rfl rfl rfl rfl rfl rfl rfl (zrc_o rfl rfl) (by omega) (by omega) (z_Ta_beganAs_ok N (by omega) (by omega) 114 rfl v1 hv1 v2 hv2 A) (fun v3 _ hv3 => ?_)
  refine js_istore (pc1 := 31) (L1 := [some (.inr (.inr (some 110))), some (.inl x1), some (.inl v1), some (.inl v2), some (.inl v3), none]) rfl rfl rfl rfl ?_
  refine js_aload (pc1 := 32) rfl rfl rfl ?_
  refine js_gfr (pc1 := 35) (j := 1) (r := 114) rfl rfl rfl rfl rfl ?_
  refine js_iload (pc1 := 36) rfl rfl rfl ?_
  refine js_iload (pc1 := 37) rfl rfl rfl ?_
  refine js_cP (pc1 := 40) (as := [(.inr (.inr (some 114))), (.inl v1), (.inl v2)]) (S0 := []) (m := 4) (L0 := [some (.inr (.inr (some 114))), some (.inl v1), some (.inl v2), none]) rfl rfl rfl rfl rfl rfl rfl rfl (zrc_o rfl rfl) (by omega) (by omega) (z_Ta_hadBecome_ok N (by omega) (by omega) 114 rfl v1 hv1 v2 hv2 A) (fun v4 _ hv4 => ?_)
  refine js_istore (pc1 := 42) (L1 := [some (.inr (.inr (some 110))), some (.inl x1), some (.inl v1), some (.inl v2), some (.inl v3), some (.inl v4)]) rfl rfl rfl rfl ?_
  refine js_aload (pc1 := 43) rfl rfl rfl ?_
  refine js_gfr (pc1 := 46) (j := 0) (r := 111) rfl rfl rfl rfl rfl ?_
  refine js_iload (pc1 := 48) rfl rfl rfl ?_
  refine js_cV (pc1 := 51) (as := [(.inr (.inr (some 111))), (.inl v3)]) (S0 := []) (m := 2) (L0 := [some (.inr (.inr (some 111))), some (.inl v3)]) rfl rfl rfl rfl rfl rfl rfl rfl (zrc_o rfl rfl) (by omega) (by omega) (z_Th_reach_ok N (by omega) (by omega) 111 rfl v3 hv3 A) (fun A5 _ => ?_)
  refine js_aload (pc1 := 52) rfl rfl rfl ?_
  refine js_gfr (pc1 := 55) (j := 0) (r := 111) rfl rfl rfl rfl rfl ?_
  refine js_iload (pc1 := 57) rfl rfl rfl ?_
  refine js_cV (pc1 := 60) (as := [(.inr (.inr (some 111))), (.inl v4)]) (S0 := []) (m := 2) (L0 := [some (.inr (.inr (some 111))), some (.inl v4)]) rfl rfl rfl rfl rfl rfl rfl rfl (zrc_o rfl rfl) (by omega) (by omega) (z_Th_reach_ok N (by omega) (by omega) 111 rfl v4 hv4 A5) (fun A6 _ => ?_)
  refine js_iload (pc1 := 62) rfl rfl rfl ?_
  refine js_aload (pc1 := 63) rfl rfl rfl ?_
  refine js_gfr (pc1 := 66) (j := 2) (r := 117) rfl rfl rfl rfl rfl ?_
  refine js_iload (pc1 := 67) rfl rfl rfl ?_
  refine js_iload (pc1 := 68) rfl rfl rfl ?_
  refine js_cP (pc1 := 71) (as := [(.inr (.inr (some 117))), (.inl v1), (.inl v2)]) (S0 := [(.inl v3)]) (m := 4) (L0 := [some (.inr (.inr (some 117))), some (.inl v1), some (.inl v2), none]) rfl rfl rfl rfl rfl rfl rfl rfl (zrc_o rfl rfl) (by omega) (by omega) (z_Ta_beganAs_ok N (by omega) (by omega) 117 rfl v1 hv1 v2 hv2 A6) (fun v7 _ hv7 => ?_)
  refine jt_ne (pc1 := 74) (t1 := 92) hv3 hv7 rfl rfl rfl (fun c8 => ?_) (fun c8 => ?_)
  · refine js_iload (pc1 := 76) rfl rfl rfl ?_
    refine js_aload (pc1 := 77) rfl rfl rfl ?_
    refine js_gfr (pc1 := 80) (j := 2) (r := 117) rfl rfl rfl rfl rfl ?_
    refine js_iload (pc1 := 81) rfl rfl rfl ?_
    refine js_iload (pc1 := 82) rfl rfl rfl ?_
    refine js_cP (pc1 := 85) (as := [(.inr (.inr (some 117))), (.inl v1), (.inl v2)]) (S0 := [(.inl v4)]) (m := 4) (L0 := [some (.inr (.inr (some 117))), some (.inl v1), some (.inl v2), none]) rfl rfl rfl rfl rfl rfl rfl rfl (zrc_o rfl rfl) (by omega) (by omega) (z_Ta_hadBecome_ok N (by omega) (by omega) 117 rfl v1 hv1 v2 hv2 A6) (fun v9 _ hv9 => ?_)
    refine jt_ne (pc1 := 88) (t1 := 92) hv4 hv9 rfl rfl rfl (fun c10 => ?_) (fun c10 => ?_)
    · refine js_iconst (pc1 := 89) rfl rfl ?_
      refine js_goto (t1 := 93) rfl rfl ?_
      exact je_I rfl (zfit3 rfl (Or.inr rfl)) rfl (zlit rfl)
    · refine js_iconst (pc1 := 93) rfl rfl ?_
      exact je_I rfl (zfit3 rfl (Or.inl rfl)) rfl (zlit rfl)
  · refine js_iconst (pc1 := 93) rfl rfl ?_
    exact je_I rfl (zfit3 rfl (Or.inl rfl)) rfl (zlit rfl)
theorem z_Th_reachedAfter_ok{d w : Nat} (N : Nat) (hd : 1 ≤ d) (hw : 21 ≤ w) (x0 : Nat) (hx0 : zsh x0 = some (false, 6, 5)) (x1 : Int) (hx1 : zrg x1) (A : zA) : zG (z_Th_reachedAfter N x0 x1 A) (zPp A) d w 191 0 [some (.inr (.inr (some x0))), some (.inl x1)] [] A := by
  unfold z_Th_reachedAfter
  refine js_aload (pc1 := 1) rfl rfl rfl ?_
  refine js_iload (pc1 := 2) rfl rfl rfl ?_
  refine js_cP (pc1 := 5) (as := [(.inr (.inr (some x0))), (.inl x1)]) (S0 := []) (m := 2) (L0 := [some (.inr (.inr (some x0))), some (.inl x1)]) rfl rfl rfl rfl rfl rfl rfl rfl (zrc_o rfl hx0) (by omega) (by omega) (z_Th_has_ok N (by omega) (by omega) x0 hx0 x1 hx1 A) (fun v1 _ hv1 => ?_)
  refine ju_eq (pc1 := 8) (t1 := 23) hv1 rfl rfl rfl (fun c2 => ?_) (fun c2 => ?_)
  · refine js_iconst (pc1 := 24) rfl rfl ?_
    exact je_P rfl (zfit0 _ rfl) rfl (zlit rfl)
  · refine js_aload (pc1 := 9) rfl rfl rfl ?_
    refine jt_gr (pc1 := 12) (j := 0) rfl rfl hx0 rfl (fun p3 => ?_)
    refine js_iload (pc1 := 13) rfl rfl rfl ?_
    refine js_iconst (pc1 := 15) rfl rfl ?_
    refine js_imul (pc1 := 16) rfl rfl ?_
    refine js_iconst (pc1 := 18) rfl rfl ?_
    refine js_iadd (pc1 := 19) rfl rfl ?_
    refine jt_aldD (pc1 := 20) rfl rfl (fun v4 hv4 => ?_)
    refine js_goto (t1 := 24) rfl rfl ?_
    exact je_P rfl (zfit0 _ rfl) rfl hv4
theorem z_Wk_saidTheSame_117_ok{d w : Nat} {r69 : Int → Int → Int → zA → Option (Int × zA)} (hr69 : ∀ (x1 : Int) (hx1 : zrg x1) (x2 : Int) (hx2 : zrg x2) (x3 : Int) (hx3 : zrg x3) (A : zA), zG (r69 x1 x2 x3 A) zPI d w 144 69 [some (.inr (.inr (some 110))), some (.inl x1), some (.inl x2), some (.inl x3)] [] A) (N : Nat) (hd : 3 ≤ d) (hw : 69 ≤ w) (x1 : Int) (hx1 : zrg x1) (x2 : Int) (hx2 : zrg x2) (x3 : Int) (hx3 : zrg x3) (A : zA) : zG (z_Wk_saidTheSame_117 r69 N x1 x2 x3 A) zPI d w 144 117 [some (.inr (.inr (some 110))), some (.inl x1), some (.inl x2), some (.inl x3)] [] A := by
  unfold z_Wk_saidTheSame_117
  refine js_aload (pc1 := 118) rfl rfl rfl ?_
  refine js_gfr (pc1 := 121) (j := 0) (r := 111) rfl rfl rfl rfl rfl ?_
  refine js_iload (pc1 := 122) rfl rfl rfl ?_
  refine js_cP (pc1 := 125) (as := [(.inr (.inr (some 111))), (.inl x2)]) (S0 := []) (m := 2) (L0 := [some (.inr (.inr (some 111))), some (.inl x2)]) rfl rfl rfl rfl rfl rfl rfl rfl (zrc_o rfl rfl) (by omega) (by omega) (z_Th_reachedAfter_ok N (by omega) (by omega) 111 rfl x2 hx2 A) (fun v1 _ hv1 => ?_)
  refine js_istore (pc1 := 126) (L1 := [some (.inr (.inr (some 110))), some (.inl x1), some (.inl v1), some (.inl x3)]) rfl rfl rfl rfl ?_
  refine js_iinc (pc1 := 129) (L1 := [some (.inr (.inr (some 110))), some (.inl x1), some (.inl v1), some (.inl (x3 + 1))]) rfl rfl rfl rfl ?_
  refine js_goto (t1 := 69) rfl rfl ?_
  exact zG_to (L := [some (.inr (.inr (some 110))), some (.inl x1), some (.inl v1), some (.inl (zw (x3 + 1)))]) (S := []) ⟨rfl, ⟨rfl, ⟨rfl, ⟨zval_w (x3 + 1), trivial⟩⟩⟩⟩ (rfl) (hr69 x1 hx1 v1 hv1 (zw (x3 + 1)) (zw_rg (x3 + 1)) A)
theorem z_Wk_saidTheSame_69_bok{d w : Nat} {r69 : Int → Int → Int → zA → Option (Int × zA)} (hr69 : ∀ (x1 : Int) (hx1 : zrg x1) (x2 : Int) (hx2 : zrg x2) (x3 : Int) (hx3 : zrg x3) (A : zA), zG (r69 x1 x2 x3 A) zPI d w 144 69 [some (.inr (.inr (some 110))), some (.inl x1), some (.inl x2), some (.inl x3)] [] A) (N : Nat) (hd : 3 ≤ d) (hw : 69 ≤ w) (x1 : Int) (hx1 : zrg x1) (x2 : Int) (hx2 : zrg x2) (x3 : Int) (hx3 : zrg x3) (A : zA) : zG (z_Wk_saidTheSame_69_b r69 N x1 x2 x3 A) zPI d w 144 69 [some (.inr (.inr (some 110))), some (.inl x1), some (.inl x2), some (.inl x3)] [] A := by
  unfold z_Wk_saidTheSame_69_b
  refine js_iload (pc1 := 70) rfl rfl rfl ?_
  refine ju_eq (pc1 := 73) (t1 := 132) hx1 rfl rfl rfl (fun c1 => ?_) (fun c1 => ?_)
  · refine js_iload (pc1 := 133) rfl rfl rfl ?_
    exact zG_ite (fun h => je_I rfl (zfit3 rfl h) rfl hx1) (fun _ => zG_none)
  · refine js_aload (pc1 := 74) rfl rfl rfl ?_
    refine js_gfr (pc1 := 77) (j := 0) (r := 111) rfl rfl rfl rfl rfl ?_
    refine js_iload (pc1 := 78) rfl rfl rfl ?_
    refine js_cP (pc1 := 81) (as := [(.inr (.inr (some 111))), (.inl x2)]) (S0 := []) (m := 2) (L0 := [some (.inr (.inr (some 111))), some (.inl x2)]) rfl rfl rfl rfl rfl rfl rfl rfl (zrc_o rfl rfl) (by omega) (by omega) (z_Th_has_ok N (by omega) (by omega) 111 rfl x2 hx2 A) (fun v2 _ hv2 => ?_)
    refine ju_eq (pc1 := 84) (t1 := 132) hv2 rfl rfl rfl (fun c3 => ?_) (fun c3 => ?_)
    · refine js_iload (pc1 := 133) rfl rfl rfl ?_
      exact zG_ite (fun h => je_I rfl (zfit3 rfl h) rfl hx1) (fun _ => zG_none)
    · refine js_iload (pc1 := 85) rfl rfl rfl ?_
      refine js_iconst (pc1 := 87) rfl rfl ?_
      refine jt_ge (pc1 := 90) (t1 := 132) hx3 (zlit rfl) rfl rfl rfl (fun c4 => ?_) (fun c4 => ?_)
      · refine js_aload (pc1 := 91) rfl rfl rfl ?_
        refine js_gfr (pc1 := 94) (j := 0) (r := 111) rfl rfl rfl rfl rfl ?_
        refine js_iload (pc1 := 95) rfl rfl rfl ?_
        refine js_cV (pc1 := 98) (as := [(.inr (.inr (some 111))), (.inl x2)]) (S0 := []) (m := 2) (L0 := [some (.inr (.inr (some 111))), some (.inl x2)]) rfl rfl rfl rfl rfl rfl rfl rfl (zrc_o rfl rfl) (by omega) (by omega) (z_Th_reachFields_ok N (by omega) (by omega) 111 rfl x2 hx2 A) (fun A5 _ => ?_)
        refine js_aload (pc1 := 99) rfl rfl rfl ?_
        refine js_gfr (pc1 := 102) (j := 0) (r := 111) rfl rfl rfl rfl rfl ?_
        refine js_iload (pc1 := 103) rfl rfl rfl ?_
        refine js_cP (pc1 := 106) (as := [(.inr (.inr (some 111))), (.inl x2)]) (S0 := []) (m := 2) (L0 := [some (.inr (.inr (some 111))), some (.inl x2)]) rfl rfl rfl rfl rfl rfl rfl rfl (zrc_o rfl rfl) (by omega) (by omega) (z_Th_kind_ok N (by omega) (by omega) 111 rfl x2 hx2 A5) (fun v6 _ hv6 => ?_)
        refine js_iconst (pc1 := 108) rfl rfl ?_
        refine jt_ne (pc1 := 111) (t1 := 117) hv6 (zlit rfl) rfl rfl rfl (fun c7 => ?_) (fun c7 => ?_)
        · refine js_aload (pc1 := 112) rfl rfl rfl ?_
          refine js_iload (pc1 := 113) rfl rfl rfl ?_
          refine js_cI (pc1 := 116) (as := [(.inr (.inr (some 110))), (.inl x2)]) (S0 := []) (m := 6) (L0 := [some (.inr (.inr (some 110))), some (.inl x2), none, none, none, none]) rfl rfl rfl rfl rfl rfl rfl rfl (zrc_o rfl rfl) (by omega) (by omega) (z_Wk_circlesAlike_ok N (by omega) (by omega) x2 hx2 A5) (fun v8 A9 _ hv8 => ?_)
          refine js_istore (pc1 := 117) (L1 := [some (.inr (.inr (some 110))), some (.inl v8), some (.inl x2), some (.inl x3)]) rfl rfl rfl rfl ?_
          exact z_Wk_saidTheSame_117_ok hr69 N hd hw v8 hv8 x2 hx2 x3 hx3 A9
        · exact z_Wk_saidTheSame_117_ok hr69 N hd hw x1 hx1 x2 hx2 x3 hx3 A5
      · refine js_iload (pc1 := 133) rfl rfl rfl ?_
        exact zG_ite (fun h => je_I rfl (zfit3 rfl h) rfl hx1) (fun _ => zG_none)
theorem z_Wk_saidTheSame_69_lok{d w : Nat} (N : Nat) (hd : 3 ≤ d) (hw : 69 ≤ w) (n : Nat) : ∀ (x1 : Int) (hx1 : zrg x1) (x2 : Int) (hx2 : zrg x2) (x3 : Int) (hx3 : zrg x3) (A : zA), zG (z_Wk_saidTheSame_69_l N n x1 x2 x3 A) zPI d w 144 69 [some (.inr (.inr (some 110))), some (.inl x1), some (.inl x2), some (.inl x3)] [] A := by
  induction n with
  | zero => intros; exact zG_none
  | succ n ih =>
    intro x1 hx1 x2 hx2 x3 hx3 A
    exact z_Wk_saidTheSame_69_bok ih N hd hw x1 hx1 x2 hx2 x3 hx3 A
theorem z_Wk_saidTheSame_69_ok{d w : Nat} (N : Nat) (hd : 3 ≤ d) (hw : 69 ≤ w) (x1 : Int) (hx1 : zrg x1) (x2 : Int) (hx2 : zrg x2) (x3 : Int) (hx3 : zrg x3) (A : zA) : zG (z_Wk_saidTheSame_69 N x1 x2 x3 A) zPI d w 144 69 [some (.inr (.inr (some 110))), some (.inl x1), some (.inl x2), some (.inl x3)] [] A := z_Wk_saidTheSame_69_lok N hd hw N x1 hx1 x2 hx2 x3 hx3 A
theorem z_Wk_saidTheSame_25_bok{d w : Nat} {r25 : Int → zA → Option (Int × zA)} (hr25 : ∀ (x1 : Int) (hx1 : zrg x1) (A : zA), zG (r25 x1 A) zPI d w 144 25 [some (.inr (.inr (some 110))), some (.inl x1), none, none] [] A) (N : Nat) (hd : 3 ≤ d) (hw : 69 ≤ w) (x1 : Int) (hx1 : zrg x1) (A : zA) : zG (z_Wk_saidTheSame_25_b r25 N x1 A) zPI d w 144 25 [some (.inr (.inr (some 110))), some (.inl x1), none, none] [] A := by
  unfold z_Wk_saidTheSame_25_b
  refine js_iload (pc1 := 26) rfl rfl rfl ?_
  refine js_aload (pc1 := 27) rfl rfl rfl ?_
  refine js_gfr (pc1 := 30) (j := 1) (r := 114) rfl rfl rfl rfl rfl ?_
  refine js_gi (pc1 := 33) (j := 2) rfl rfl rfl rfl ?_
  refine jt_ge (pc1 := 36) (t1 := 57) hx1 (zi_rg _ _ _) rfl rfl rfl (fun c1 => ?_) (fun c1 => ?_)
  · refine js_aload (pc1 := 37) rfl rfl rfl ?_
    refine js_gfr (pc1 := 40) (j := 0) (r := 111) rfl rfl rfl rfl rfl ?_
    refine js_aload (pc1 := 41) rfl rfl rfl ?_
    refine js_gfr (pc1 := 44) (j := 1) (r := 114) rfl rfl rfl rfl rfl ?_
    refine js_iload (pc1 := 45) rfl rfl rfl ?_
    refine js_cP (pc1 := 48) (as := [(.inr (.inr (some 114))), (.inl x1)]) (S0 := [(.inr (.inr (some 111)))]) (m := 2) (L0 := [some (.inr (.inr (some 114))), some (.inl x1)]) rfl rfl rfl rfl rfl rfl rfl rfl (zrc_o rfl rfl) (by omega) (by omega) (z_Ta_thingSaid_ok N (by omega) (by omega) 114 rfl x1 hx1 A) (fun v2 _ hv2 => ?_)
    refine js_cV (pc1 := 51) (as := [(.inr (.inr (some 111))), (.inl v2)]) (S0 := []) (m := 2) (L0 := [some (.inr (.inr (some 111))), some (.inl v2)]) rfl rfl rfl rfl rfl rfl rfl rfl (zrc_o rfl rfl) (by omega) (by omega) (z_Th_reach_ok N (by omega) (by omega) 111 rfl v2 hv2 A) (fun A3 _ => ?_)
    refine js_iinc (pc1 := 54) (L1 := [some (.inr (.inr (some 110))), some (.inl (x1 + 1)), none, none]) rfl rfl rfl rfl ?_
    refine js_goto (t1 := 25) rfl rfl ?_
    exact zG_to (L := [some (.inr (.inr (some 110))), some (.inl (zw (x1 + 1))), none, none]) (S := []) ⟨rfl, ⟨zval_w (x1 + 1), trivial⟩⟩ (rfl) (hr25 (zw (x1 + 1)) (zw_rg (x1 + 1)) A3)
  · refine js_iconst (pc1 := 58) rfl rfl ?_
    refine js_istore (pc1 := 59) (L1 := [some (.inr (.inr (some 110))), some (.inl 1), none, none]) rfl rfl rfl rfl ?_
    refine js_aload (pc1 := 60) rfl rfl rfl ?_
    refine js_gfr (pc1 := 63) (j := 0) (r := 111) rfl rfl rfl rfl rfl ?_
    refine js_gi (pc1 := 66) (j := 3) rfl rfl rfl rfl ?_
    refine js_istore (pc1 := 67) (L1 := [some (.inr (.inr (some 110))), some (.inl 1), some (.inl (zi A 111 3)), none]) rfl rfl rfl rfl ?_
    refine js_iconst (pc1 := 68) rfl rfl ?_
    refine js_istore (pc1 := 69) (L1 := [some (.inr (.inr (some 110))), some (.inl 1), some (.inl (zi A 111 3)), some (.inl 0)]) rfl rfl rfl rfl ?_
    exact z_Wk_saidTheSame_69_ok N hd hw 1 (zlit rfl) (zi A 111 3) (zi_rg _ _ _) 0 (zlit rfl) A
theorem z_Wk_saidTheSame_25_lok{d w : Nat} (N : Nat) (hd : 3 ≤ d) (hw : 69 ≤ w) (n : Nat) : ∀ (x1 : Int) (hx1 : zrg x1) (A : zA), zG (z_Wk_saidTheSame_25_l N n x1 A) zPI d w 144 25 [some (.inr (.inr (some 110))), some (.inl x1), none, none] [] A := by
  induction n with
  | zero => intros; exact zG_none
  | succ n ih =>
    intro x1 hx1 A
    exact z_Wk_saidTheSame_25_bok ih N hd hw x1 hx1 A
theorem z_Wk_saidTheSame_25_ok{d w : Nat} (N : Nat) (hd : 3 ≤ d) (hw : 69 ≤ w) (x1 : Int) (hx1 : zrg x1) (A : zA) : zG (z_Wk_saidTheSame_25 N x1 A) zPI d w 144 25 [some (.inr (.inr (some 110))), some (.inl x1), none, none] [] A := z_Wk_saidTheSame_25_lok N hd hw N x1 hx1 A
theorem z_Wk_saidTheSame_ok{d w : Nat} (N : Nat) (hd : 3 ≤ d) (hw : 69 ≤ w) (A : zA) : zG (z_Wk_saidTheSame N A) zPI d w 144 0 [some (.inr (.inr (some 110))), none, none, none] [] A := by
  unfold z_Wk_saidTheSame
  refine js_aload (pc1 := 1) rfl rfl rfl ?_
  refine js_gfr (pc1 := 4) (j := 1) (r := 114) rfl rfl rfl rfl rfl ?_
  refine js_aload (pc1 := 5) rfl rfl rfl ?_
  refine js_gfr (pc1 := 8) (j := 2) (r := 117) rfl rfl rfl rfl rfl ?_
  refine js_cP (pc1 := 11) (as := [(.inr (.inr (some 114))), (.inr (.inr (some 117)))]) (S0 := []) (m := 4) (L0 := [some (.inr (.inr (some 114))), some (.inr (.inr (some 117))), none, none]) rfl rfl rfl rfl rfl rfl rfl rfl (zrc_o rfl rfl) (by omega) (by omega) (z_Ta_saysWhat_ok N (by omega) (by omega) 114 rfl 117 rfl A) (fun v1 _ hv1 => ?_)
  refine ju_ne (pc1 := 14) (t1 := 16) hv1 rfl rfl rfl (fun c2 => ?_) (fun c2 => ?_)
  · refine js_iconst (pc1 := 15) rfl rfl ?_
    exact je_I rfl (zfit3 rfl (Or.inl rfl)) rfl (zlit rfl)
  · refine js_aload (pc1 := 17) rfl rfl rfl ?_
    refine js_gfr (pc1 := 20) (j := 0) (r := 111) rfl rfl rfl rfl rfl ?_
    refine js_cV (pc1 := 23) (as := [(.inr (.inr (some 111)))]) (S0 := []) (m := 1) (L0 := [some (.inr (.inr (some 111)))]) rfl rfl rfl rfl rfl rfl rfl rfl (zrc_o rfl rfl) (by omega) (by omega) (z_Th_beginReaching_ok N (by omega) (by omega) 111 rfl A) (fun A3 _ => ?_)
    refine js_iconst (pc1 := 24) rfl rfl ?_
    refine js_istore (pc1 := 25) (L1 := [some (.inr (.inr (some 110))), some (.inl 0), none, none]) rfl rfl rfl rfl ?_
    exact z_Wk_saidTheSame_25_ok N hd hw 0 (zlit rfl) A3
theorem z_PC_staysIfTheSame_ok{d w : Nat} (N : Nat) (hd : 158 ≤ d) (hw : 5196 ≤ w) (A : zA) : zG (z_PC_staysIfTheSame N A) zPI d w 86 0 [some (.inr (.inr (some 4))), none] [] A := by
  unfold z_PC_staysIfTheSame
  refine js_aload (pc1 := 1) rfl rfl rfl ?_
  refine js_gfr (pc1 := 4) (j := 7) (r := 110) rfl rfl rfl rfl rfl ?_
  refine js_aload (pc1 := 5) rfl rfl rfl ?_
  refine jt_gr (pc1 := 8) (j := 2) rfl rfl rfl rfl (fun p1 => ?_)
  refine zG_cs (fun hp1 => ?_)
  refine js_iconst (pc1 := 9) rfl rfl ?_
  refine js_cV (pc1 := 12) (as := [(.inr (.inr (some 110))), (.inr (.inr (some p1))), (.inl 0)]) (S0 := []) (m := 4) (L0 := [some (.inr (.inr (some 110))), some (.inr (.inr (some p1))), some (.inl 0), none]) rfl rfl rfl rfl rfl rfl rfl rfl (zrc_o rfl rfl) (by omega) (by omega) (z_Wk_walk_ok N (by omega) (by omega) p1 hp1 0 (zlit rfl) A) (fun A2 _ => ?_)
  refine js_aload (pc1 := 13) rfl rfl rfl ?_
  refine js_gfr (pc1 := 16) (j := 7) (r := 110) rfl rfl rfl rfl rfl ?_
  refine js_aload (pc1 := 17) rfl rfl rfl ?_
  refine jt_gr (pc1 := 20) (j := 3) rfl rfl rfl rfl (fun p3 => ?_)
  refine zG_cs (fun hp3 => ?_)
  refine js_iconst (pc1 := 21) rfl rfl ?_
  refine js_cV (pc1 := 24) (as := [(.inr (.inr (some 110))), (.inr (.inr (some p3))), (.inl 1)]) (S0 := []) (m := 4) (L0 := [some (.inr (.inr (some 110))), some (.inr (.inr (some p3))), some (.inl 1), none]) rfl rfl rfl rfl rfl rfl rfl rfl (zrc_o rfl rfl) (by omega) (by omega) (z_Wk_walk_ok N (by omega) (by omega) p3 hp3 1 (zlit rfl) A2) (fun A4 _ => ?_)
  refine js_aload (pc1 := 25) rfl rfl rfl ?_
  refine js_gfr (pc1 := 28) (j := 7) (r := 110) rfl rfl rfl rfl rfl ?_
  refine js_cI (pc1 := 31) (as := [(.inr (.inr (some 110)))]) (S0 := []) (m := 4) (L0 := [some (.inr (.inr (some 110))), none, none, none]) rfl rfl rfl rfl rfl rfl rfl rfl (zrc_o rfl rfl) (by omega) (by omega) (z_Wk_saidTheSame_ok N (by omega) (by omega) A4) (fun v5 A6 _ hv5 => ?_)
  refine ju_ne (pc1 := 34) (t1 := 46) hv5 rfl rfl rfl (fun c7 => ?_) (fun c7 => ?_)
  · refine js_aload (pc1 := 35) rfl rfl rfl ?_
    refine js_dupR (pc1 := 36) rfl rfl ?_
    refine js_gi (pc1 := 39) (j := 12) rfl rfl rfl rfl ?_
    refine js_iconst (pc1 := 40) rfl rfl ?_
    refine js_iadd (pc1 := 41) rfl rfl ?_
    refine jt_pi (pc1 := 44) (j := 12) rfl rfl rfl rfl rfl (fun A8 => ?_)
    refine js_iconst (pc1 := 45) rfl rfl ?_
    exact je_I rfl (zfit3 rfl (Or.inl rfl)) rfl (zlit rfl)
  · refine js_aload (pc1 := 47) rfl rfl rfl ?_
    refine jt_gr (pc1 := 50) (j := 2) rfl rfl rfl rfl (fun p9 => ?_)
    refine zG_cs (fun hp9 => ?_)
    refine js_astore (pc1 := 51) (L1 := [some (.inr (.inr (some 4))), some (.inr (.inr (some p9)))]) rfl rfl rfl rfl ?_
    refine js_aload (pc1 := 52) rfl rfl rfl ?_
    refine js_aload (pc1 := 53) rfl rfl rfl ?_
    refine jt_gr (pc1 := 56) (j := 3) rfl rfl rfl rfl (fun p10 => ?_)
    refine zG_cs (fun hp10 => ?_)
    refine jt_pr (pc1 := 59) (j := 2) rfl rfl rfl rfl rfl rfl (fun A11 => ?_)
    refine js_aload (pc1 := 60) rfl rfl rfl ?_
    refine js_aload (pc1 := 61) rfl rfl rfl ?_
    refine jt_pr (pc1 := 64) (j := 3) rfl rfl rfl rfl rfl rfl (fun A12 => ?_)
    refine js_aload (pc1 := 65) rfl rfl rfl ?_
    refine js_iconst (pc1 := 66) rfl rfl ?_
    refine jt_pbl (pc1 := 69) (j := 9) rfl rfl rfl rfl rfl (Or.inl rfl) (fun A13 => ?_)
    refine js_aload (pc1 := 70) rfl rfl rfl ?_
    refine js_dupR (pc1 := 71) rfl rfl ?_
    refine js_gi (pc1 := 74) (j := 11) rfl rfl rfl rfl ?_
    refine js_iconst (pc1 := 75) rfl rfl ?_
    refine js_iadd (pc1 := 76) rfl rfl ?_
    refine jt_pi (pc1 := 79) (j := 11) rfl rfl rfl rfl rfl (fun A14 => ?_)
    refine js_iconst (pc1 := 80) rfl rfl ?_
    exact je_I rfl (zfit3 rfl (Or.inr rfl)) rfl (zlit rfl)
theorem z_PC_pass_65_ok{d w : Nat} (N : Nat) (hd : 159 ≤ d) (hw : 10300 ≤ w) (x2 : Int) (hx2 : zrg x2) (A : zA) : zG (z_PC_pass_65 N x2 A) zPX d w 49 65 [some (.inr (.inr (some 4))), none, some (.inl x2), none] [] A := by
  unfold z_PC_pass_65
  refine js_aload (pc1 := 66) rfl rfl rfl ?_
  refine js_cI (pc1 := 69) (as := [(.inr (.inr (some 4)))]) (S0 := []) (m := 2) (L0 := [some (.inr (.inr (some 4))), none]) rfl rfl rfl rfl rfl rfl rfl rfl (zrc_o rfl rfl) (by omega) (by omega) (z_PC_staysIfTheSame_ok N (by omega) (by omega) A) (fun v1 A2 _ hv1 => ?_)
  refine ju_eq (pc1 := 72) (t1 := 76) hv1 rfl rfl rfl (fun c3 => ?_) (fun c3 => ?_)
  · refine js_iconst (pc1 := 77) rfl rfl ?_
    exact je_X rfl (zfit0 _ rfl) rfl (zlit rfl)
  · refine js_iload (pc1 := 73) rfl rfl rfl ?_
    refine js_goto (t1 := 77) rfl rfl ?_
    exact je_X rfl (zfit0 _ rfl) rfl hx2
theorem z_PC_pass_34_bok{d w : Nat} {r34 : Int → Int → Int → zA → Option ((Int ⊕ Nat) × zA)} (hr34 : ∀ (x1 : Int) (hx1 : zrg x1) (x2 : Int) (hx2 : zrg x2) (x3 : Int) (hx3 : zrg x3) (A : zA), zG (r34 x1 x2 x3 A) zPX d w 49 34 [some (.inr (.inr (some 4))), some (.inl x1), some (.inl x2), some (.inl x3)] [] A) (N : Nat) (hd : 159 ≤ d) (hw : 10300 ≤ w) (x1 : Int) (hx1 : zrg x1) (x2 : Int) (hx2 : zrg x2) (x3 : Int) (hx3 : zrg x3) (A : zA) : zG (z_PC_pass_34_b r34 N x1 x2 x3 A) zPX d w 49 34 [some (.inr (.inr (some 4))), some (.inl x1), some (.inl x2), some (.inl x3)] [] A := by
  unfold z_PC_pass_34_b
  refine js_iload (pc1 := 35) rfl rfl rfl ?_
  refine js_iconst (pc1 := 36) rfl rfl ?_
  refine jt_ge (pc1 := 39) (t1 := 65) hx3 (zlit rfl) rfl rfl rfl (fun c1 => ?_) (fun c1 => ?_)
  · refine js_aload (pc1 := 40) rfl rfl rfl ?_
    refine jt_gr (pc1 := 43) (j := 2) rfl rfl rfl rfl (fun p2 => ?_)
    refine zG_cs (fun hp2 => ?_)
    refine js_iload (pc1 := 44) rfl rfl rfl ?_
    refine js_cP (pc1 := 47) (as := [(.inr (.inr (some p2))), (.inl x3)]) (S0 := []) (m := 2) (L0 := [some (.inr (.inr (some p2))), some (.inl x3)]) rfl rfl rfl rfl rfl rfl rfl rfl (zrc_o rfl hp2) (by omega) (by omega) (z_Ro_has_ok N (by omega) (by omega) p2 hp2 x3 hx3 A) (fun v3 _ hv3 => ?_)
    refine ju_eq (pc1 := 50) (t1 := 59) hv3 rfl rfl rfl (fun c4 => ?_) (fun c4 => ?_)
    · refine js_iinc (pc1 := 62) (L1 := [some (.inr (.inr (some 4))), some (.inl x1), some (.inl x2), some (.inl (x3 + 1))]) rfl rfl rfl rfl ?_
      refine js_goto (t1 := 34) rfl rfl ?_
      exact zG_to (L := [some (.inr (.inr (some 4))), some (.inl x1), some (.inl x2), some (.inl (zw (x3 + 1)))]) (S := []) ⟨rfl, ⟨rfl, ⟨rfl, ⟨zval_w (x3 + 1), trivial⟩⟩⟩⟩ (rfl) (hr34 x1 hx1 x2 hx2 (zw (x3 + 1)) (zw_rg (x3 + 1)) A)
    · refine js_iload (pc1 := 51) rfl rfl rfl ?_
      refine js_aload (pc1 := 52) rfl rfl rfl ?_
      refine js_iload (pc1 := 53) rfl rfl rfl ?_
      refine js_iload (pc1 := 54) rfl rfl rfl ?_
      refine js_cI (pc1 := 57) (as := [(.inr (.inr (some 4))), (.inl x1), (.inl x3)]) (S0 := [(.inl x2)]) (m := 5) (L0 := [some (.inr (.inr (some 4))), some (.inl x1), some (.inl x3), none, none]) rfl rfl rfl rfl rfl rfl rfl rfl (zrc_o rfl rfl) (by omega) (by omega) (z_PC_changesOfPass_ok N (by omega) (by omega) x1 hx1 x3 hx3 A) (fun v5 A6 _ hv5 => ?_)
      refine js_iadd (pc1 := 58) rfl rfl ?_
      refine zG_w1 ?_
      refine js_istore (pc1 := 59) (L1 := [some (.inr (.inr (some 4))), some (.inl x1), some (.inl (zw (x2 + v5))), some (.inl x3)]) rfl rfl rfl rfl ?_
      refine js_iinc (pc1 := 62) (L1 := [some (.inr (.inr (some 4))), some (.inl x1), some (.inl (zw (x2 + v5))), some (.inl (x3 + 1))]) rfl rfl rfl rfl ?_
      refine js_goto (t1 := 34) rfl rfl ?_
      exact zG_to (L := [some (.inr (.inr (some 4))), some (.inl x1), some (.inl (zw (x2 + v5))), some (.inl (zw (x3 + 1)))]) (S := []) ⟨rfl, ⟨rfl, ⟨rfl, ⟨zval_w (x3 + 1), trivial⟩⟩⟩⟩ (rfl) (hr34 x1 hx1 (zw (x2 + v5)) (zw_rg (x2 + v5)) (zw (x3 + 1)) (zw_rg (x3 + 1)) A6)
  · exact zG_to (L := [some (.inr (.inr (some 4))), none, some (.inl x2), none]) (S := []) ⟨rfl, ⟨rfl, trivial⟩⟩ (rfl) (z_PC_pass_65_ok N hd hw x2 hx2 A)
theorem z_PC_pass_34_lok{d w : Nat} (N : Nat) (hd : 159 ≤ d) (hw : 10300 ≤ w) (n : Nat) : ∀ (x1 : Int) (hx1 : zrg x1) (x2 : Int) (hx2 : zrg x2) (x3 : Int) (hx3 : zrg x3) (A : zA), zG (z_PC_pass_34_l N n x1 x2 x3 A) zPX d w 49 34 [some (.inr (.inr (some 4))), some (.inl x1), some (.inl x2), some (.inl x3)] [] A := by
  induction n with
  | zero => intros; exact zG_none
  | succ n ih =>
    intro x1 hx1 x2 hx2 x3 hx3 A
    exact z_PC_pass_34_bok ih N hd hw x1 hx1 x2 hx2 x3 hx3 A
theorem z_PC_pass_34_ok{d w : Nat} (N : Nat) (hd : 159 ≤ d) (hw : 10300 ≤ w) (x1 : Int) (hx1 : zrg x1) (x2 : Int) (hx2 : zrg x2) (x3 : Int) (hx3 : zrg x3) (A : zA) : zG (z_PC_pass_34 N x1 x2 x3 A) zPX d w 49 34 [some (.inr (.inr (some 4))), some (.inl x1), some (.inl x2), some (.inl x3)] [] A := z_PC_pass_34_lok N hd hw N x1 hx1 x2 hx2 x3 hx3 A
theorem z_PC_pass_ok{d w : Nat} (N : Nat) (hd : 159 ≤ d) (hw : 10300 ≤ w) (x1 : Int) (hx1 : zrg x1) (A : zA) : zG (z_PC_pass N x1 A) zPX d w 49 0 [some (.inr (.inr (some 4))), some (.inl x1), none, none] [] A := by
  unfold z_PC_pass
  refine js_iload (pc1 := 1) rfl rfl rfl ?_
  refine ju_lt (pc1 := 4) (t1 := 9) hx1 rfl rfl rfl (fun c1 => ?_) (fun c1 => ?_)
  · exact je_T rfl rfl (by omega) (by omega)
  · refine js_iload (pc1 := 5) rfl rfl rfl ?_
    refine js_iconst (pc1 := 6) rfl rfl ?_
    refine jt_le (pc1 := 9) (t1 := 19) hx1 (zlit rfl) rfl rfl rfl (fun c2 => ?_) (fun c2 => ?_)
    · exact je_T rfl rfl (by omega) (by omega)
    · refine js_aload (pc1 := 20) rfl rfl rfl ?_
      refine jt_gr (pc1 := 23) (j := 3) rfl rfl rfl rfl (fun p3 => ?_)
      refine zG_cs (fun hp3 => ?_)
      refine js_aload (pc1 := 24) rfl rfl rfl ?_
      refine jt_gr (pc1 := 27) (j := 2) rfl rfl rfl rfl (fun p4 => ?_)
      refine zG_cs (fun hp4 => ?_)
      refine js_cV (pc1 := 30) (as := [(.inr (.inr (some p3))), (.inr (.inr (some p4)))]) (S0 := []) (m := 3) (L0 := [some (.inr (.inr (some p3))), some (.inr (.inr (some p4))), none]) rfl rfl rfl rfl rfl rfl rfl rfl (zrc_o rfl hp3) (by omega) (by omega) (z_Ro_become_ok N (by omega) (by omega) p3 hp3 p4 hp4 A) (fun A5 _ => ?_)
      refine js_iconst (pc1 := 31) rfl rfl ?_
      refine js_istore (pc1 := 32) (L1 := [some (.inr (.inr (some 4))), some (.inl x1), some (.inl 0), none]) rfl rfl rfl rfl ?_
      refine js_iconst (pc1 := 33) rfl rfl ?_
      refine js_istore (pc1 := 34) (L1 := [some (.inr (.inr (some 4))), some (.inl x1), some (.inl 0), some (.inl 0)]) rfl rfl rfl rfl ?_
      exact z_PC_pass_34_ok N hd hw x1 hx1 0 (zlit rfl) 0 (zlit rfl) A5
theorem z_Lw_pass_ok{d w : Nat} (N : Nat) (hd : 160 ≤ d) (hw : 10323 ≤ w) (x1 : Int) (hx1 : zrg x1) (A : zA) : zG (z_Lw_pass N x1 A) zPI d w 8 0 [some (.inr (.inr (some 4))), some (.inl x1), some (.inr (.inr (some 295))), none] [] A := by
  unfold z_Lw_pass
  refine js_aload (pc1 := 1) rfl rfl rfl ?_
  refine js_iconst (pc1 := 2) rfl rfl ?_
  refine js_aload (pc1 := 3) rfl rfl rfl ?_
  refine js_iload (pc1 := 4) rfl rfl rfl ?_
  refine js_cX (pc1 := 7) (as := [(.inr (.inr (some 4))), (.inl x1)]) (S0 := [(.inl 0), (.inr (.inr (some 295)))]) (m := 4) (L0 := [some (.inr (.inr (some 4))), some (.inl x1), none, none]) rfl rfl rfl rfl rfl rfl rfl rfl (zrc_o rfl rfl) (by omega) (by omega) (z_PC_pass_ok N (by omega) (by omega) x1 hx1 A) (fun v1 A2 hv1 => ?_) (fun n5 A4 => ?_)
  · refine js_i2l (pc1 := 8) rfl rfl ?_
    refine jt_las (pc1 := 9) rfl rfl rfl rfl (fun A6 => ?_)
    refine js_goto (t1 := 15) rfl rfl ?_
    refine js_iconst (pc1 := 16) rfl rfl ?_
    exact je_I rfl (zfit0 _ rfl) rfl (zlit rfl)
  · rcases Decidable.em (n5 = 0) with c7 | c7
    · subst c7
      refine Or.inr ⟨12, by decide, fun e3 => ?_⟩
      rw [if_pos rfl]
      refine js_astore (pc1 := 13) (L1 := [some (.inr (.inr (some 4))), some (.inl x1), some (.inr (.inr (some 295))), some (.inr (.inr (some e3)))]) rfl rfl rfl rfl ?_
      refine js_iconst (pc1 := 14) rfl rfl ?_
      exact je_I rfl (zfit0 _ rfl) rfl (zlit rfl)
    exact Or.inl (by simp only [if_neg c7])
theorem z_M_isThere_ok{d w : Nat} (N : Nat) (hd : 0 ≤ d) (hw : 0 ≤ w) (x1 : Int) (hx1 : zrg x1) (A : zA) : zG (z_M_isThere N x1 A) (zPp A) d w 50 0 [some (.inr (.inr (some 226))), some (.inl x1)] [] A := by
  unfold z_M_isThere
  refine js_iload (pc1 := 1) rfl rfl rfl ?_
  refine ju_lt (pc1 := 4) (t1 := 12) hx1 rfl rfl rfl (fun c1 => ?_) (fun c1 => ?_)
  · refine js_iload (pc1 := 13) rfl rfl rfl ?_
    refine js_iconst (pc1 := 14) rfl rfl ?_
    refine jt_ne (pc1 := 17) (t1 := 21) hx1 (zlit rfl) rfl rfl rfl (fun c2 => ?_) (fun c2 => ?_)
    · refine js_iconst (pc1 := 18) rfl rfl ?_
      refine js_goto (t1 := 22) rfl rfl ?_
      exact je_P rfl (zfit3 rfl (Or.inr rfl)) rfl (zlit rfl)
    · refine js_iconst (pc1 := 22) rfl rfl ?_
      exact je_P rfl (zfit3 rfl (Or.inl rfl)) rfl (zlit rfl)
  · refine js_iload (pc1 := 5) rfl rfl rfl ?_
    refine js_aload (pc1 := 6) rfl rfl rfl ?_
    refine js_gi (pc1 := 9) (j := 6) rfl rfl rfl rfl ?_
    refine jt_lt (pc1 := 12) (t1 := 17) hx1 (zi_rg _ _ _) rfl rfl rfl (fun c3 => ?_) (fun c3 => ?_)
    · refine js_iconst (pc1 := 18) rfl rfl ?_
      refine js_goto (t1 := 22) rfl rfl ?_
      exact je_P rfl (zfit3 rfl (Or.inr rfl)) rfl (zlit rfl)
    · refine js_iload (pc1 := 13) rfl rfl rfl ?_
      refine js_iconst (pc1 := 14) rfl rfl ?_
      refine jt_ne (pc1 := 17) (t1 := 21) hx1 (zlit rfl) rfl rfl rfl (fun c4 => ?_) (fun c4 => ?_)
      · refine js_iconst (pc1 := 18) rfl rfl ?_
        refine js_goto (t1 := 22) rfl rfl ?_
        exact je_P rfl (zfit3 rfl (Or.inr rfl)) rfl (zlit rfl)
      · refine js_iconst (pc1 := 22) rfl rfl ?_
        exact je_P rfl (zfit3 rfl (Or.inl rfl)) rfl (zlit rfl)
theorem z_M_match_45_ok{d w : Nat} {r5 : Int → Int → Int → Int → zA → Option zA} (hr5 : ∀ (x1 : Int) (hx1 : zrg x1) (x2 : Int) (hx2 : zrg x2) (x3 : Int) (hx3 : zrg x3) (x4 : Int) (hx4 : zrg x4) (A : zA), zG (r5 x1 x2 x3 x4 A) zPV d w 87 5 [some (.inr (.inr (some 226))), some (.inl x1), some (.inl x2), some (.inl x3), some (.inl x4), none] [] A) (N : Nat) (hd : 2 ≤ d) (hw : 46 ≤ w) (x1 : Int) (hx1 : zrg x1) (x2 : Int) (hx2 : zrg x2) (x3 : Int) (hx3 : zrg x3) (x4 : Int) (hx4 : zrg x4) (A : zA) : zG (z_M_match_45 r5 N x1 x2 x3 x4 A) zPV d w 87 45 [some (.inr (.inr (some 226))), some (.inl x1), some (.inl x2), some (.inl x3), some (.inl x4), none] [] A := by
  unfold z_M_match_45
  refine js_aload (pc1 := 46) rfl rfl rfl ?_
  refine js_gfr (pc1 := 49) (j := 12) (r := 233) rfl rfl rfl rfl rfl ?_
  refine js_iload (pc1 := 50) rfl rfl rfl ?_
  refine js_iload (pc1 := 52) rfl rfl rfl ?_
  refine jt_ias (pc1 := 53) rfl rfl rfl rfl (fun A1 => ?_)
  refine js_iinc (pc1 := 56) (L1 := [some (.inr (.inr (some 226))), some (.inl x1), some (.inl x2), some (.inl (x3 + 1)), some (.inl x4), none]) rfl rfl rfl rfl ?_
  refine js_goto (t1 := 176) rfl rfl ?_
  refine js_iinc (pc1 := 179) (L1 := [some (.inr (.inr (some 226))), some (.inl x1), some (.inl x2), some (.inl (x3 + 1)), some (.inl (x4 + 1)), none]) rfl rfl rfl rfl ?_
  refine js_goto (t1 := 5) rfl rfl ?_
  exact zG_to (L := [some (.inr (.inr (some 226))), some (.inl x1), some (.inl x2), some (.inl (zw (x3 + 1))), some (.inl (zw (x4 + 1))), none]) (S := []) ⟨rfl, ⟨rfl, ⟨rfl, ⟨zval_w (x3 + 1), ⟨zval_w (x4 + 1), trivial⟩⟩⟩⟩⟩ (rfl) (hr5 x1 hx1 x2 hx2 (zw (x3 + 1)) (zw_rg (x3 + 1)) (zw (x4 + 1)) (zw_rg (x4 + 1)) A1)
theorem z_M_match_73_ok{d w : Nat} {r5 : Int → Int → Int → Int → zA → Option zA} (hr5 : ∀ (x1 : Int) (hx1 : zrg x1) (x2 : Int) (hx2 : zrg x2) (x3 : Int) (hx3 : zrg x3) (x4 : Int) (hx4 : zrg x4) (A : zA), zG (r5 x1 x2 x3 x4 A) zPV d w 87 5 [some (.inr (.inr (some 226))), some (.inl x1), some (.inl x2), some (.inl x3), some (.inl x4), none] [] A) (N : Nat) (hd : 2 ≤ d) (hw : 46 ≤ w) (x1 : Int) (hx1 : zrg x1) (x2 : Int) (hx2 : zrg x2) (x3 : Int) (hx3 : zrg x3) (x4 : Int) (hx4 : zrg x4) (A : zA) : zG (z_M_match_73 r5 N x1 x2 x3 x4 A) zPV d w 87 73 [some (.inr (.inr (some 226))), some (.inl x1), some (.inl x2), some (.inl x3), some (.inl x4), none] [] A := by
  unfold z_M_match_73
  refine js_aload (pc1 := 74) rfl rfl rfl ?_
  refine js_gfr (pc1 := 77) (j := 9) (r := 231) rfl rfl rfl rfl rfl ?_
  refine js_iconst (pc1 := 80) rfl rfl ?_
  refine js_iload (pc1 := 81) rfl rfl rfl ?_
  refine js_imul (pc1 := 82) rfl rfl ?_
  refine js_aload (pc1 := 83) rfl rfl rfl ?_
  refine js_gfr (pc1 := 86) (j := 12) (r := 233) rfl rfl rfl rfl rfl ?_
  refine js_iload (pc1 := 87) rfl rfl rfl ?_
  refine js_iconst (pc1 := 88) rfl rfl ?_
  refine js_isub (pc1 := 89) rfl rfl ?_
  refine jt_ald (pc1 := 90) rfl rfl rfl rfl rfl (fun v1 hv1 => ?_)
  refine js_iadd (pc1 := 91) rfl rfl ?_
  refine js_iload (pc1 := 93) rfl rfl rfl ?_
  refine jt_ias (pc1 := 94) rfl rfl rfl rfl (fun A2 => ?_)
  refine js_aload (pc1 := 95) rfl rfl rfl ?_
  refine js_gfr (pc1 := 98) (j := 12) (r := 233) rfl rfl rfl rfl rfl ?_
  refine js_iload (pc1 := 99) rfl rfl rfl ?_
  refine js_iconst (pc1 := 100) rfl rfl ?_
  refine js_isub (pc1 := 101) rfl rfl ?_
  refine js_aload (pc1 := 102) rfl rfl rfl ?_
  refine js_gfr (pc1 := 105) (j := 12) (r := 233) rfl rfl rfl rfl rfl ?_
  refine js_iload (pc1 := 106) rfl rfl rfl ?_
  refine js_iconst (pc1 := 107) rfl rfl ?_
  refine js_isub (pc1 := 108) rfl rfl ?_
  refine jt_ald (pc1 := 109) rfl rfl rfl rfl rfl (fun v3 hv3 => ?_)
  refine js_iconst (pc1 := 112) rfl rfl ?_
  refine js_imul (pc1 := 113) rfl rfl ?_
  refine js_iload (pc1 := 115) rfl rfl rfl ?_
  refine js_iadd (pc1 := 116) rfl rfl ?_
  refine jt_ias (pc1 := 117) rfl rfl rfl rfl (fun A4 => ?_)
  refine js_goto (t1 := 176) rfl rfl ?_
  refine js_iinc (pc1 := 179) (L1 := [some (.inr (.inr (some 226))), some (.inl x1), some (.inl x2), some (.inl x3), some (.inl (x4 + 1)), none]) rfl rfl rfl rfl ?_
  refine js_goto (t1 := 5) rfl rfl ?_
  exact zG_to (L := [some (.inr (.inr (some 226))), some (.inl x1), some (.inl x2), some (.inl x3), some (.inl (zw (x4 + 1))), none]) (S := []) ⟨rfl, ⟨rfl, ⟨rfl, ⟨rfl, ⟨zval_w (x4 + 1), trivial⟩⟩⟩⟩⟩ (rfl) (hr5 x1 hx1 x2 hx2 x3 hx3 (zw (x4 + 1)) (zw_rg (x4 + 1)) A4)
theorem z_M_match_5_bok{d w : Nat} {r5 : Int → Int → Int → Int → zA → Option zA} (hr5 : ∀ (x1 : Int) (hx1 : zrg x1) (x2 : Int) (hx2 : zrg x2) (x3 : Int) (hx3 : zrg x3) (x4 : Int) (hx4 : zrg x4) (A : zA), zG (r5 x1 x2 x3 x4 A) zPV d w 87 5 [some (.inr (.inr (some 226))), some (.inl x1), some (.inl x2), some (.inl x3), some (.inl x4), none] [] A) (N : Nat) (hd : 2 ≤ d) (hw : 46 ≤ w) (x1 : Int) (hx1 : zrg x1) (x2 : Int) (hx2 : zrg x2) (x3 : Int) (hx3 : zrg x3) (x4 : Int) (hx4 : zrg x4) (A : zA) : zG (z_M_match_5_b r5 N x1 x2 x3 x4 A) zPV d w 87 5 [some (.inr (.inr (some 226))), some (.inl x1), some (.inl x2), some (.inl x3), some (.inl x4), none] [] A := by
  unfold z_M_match_5_b
  refine js_iload (pc1 := 7) rfl rfl rfl ?_
  refine js_aload (pc1 := 8) rfl rfl rfl ?_
  refine js_gfr (pc1 := 11) (j := 4) (r := 229) rfl rfl rfl rfl rfl ?_
  refine js_iload (pc1 := 12) rfl rfl rfl ?_
  refine js_iload (pc1 := 13) rfl rfl rfl ?_
  refine js_cP (pc1 := 16) (as := [(.inl x1), (.inl x2)]) (S0 := [(.inr (.inr (some 229))), (.inl x4)]) (m := 2) (L0 := [some (.inl x1), some (.inl x2)]) rfl rfl rfl rfl rfl rfl rfl rfl (zrc_s rfl) (by omega) (by omega) (z_M_row_ok N (by omega) (by omega) x1 hx1 x2 hx2 A) (fun v1 _ hv1 => ?_)
  refine jt_ald (pc1 := 17) rfl rfl rfl rfl rfl (fun v2 hv2 => ?_)
  refine jt_ge (pc1 := 20) (t1 := 182) hx4 hv2 rfl rfl rfl (fun c3 => ?_) (fun c3 => ?_)
  · refine js_aload (pc1 := 21) rfl rfl rfl ?_
    refine js_iload (pc1 := 22) rfl rfl rfl ?_
    refine js_iload (pc1 := 23) rfl rfl rfl ?_
    refine js_iload (pc1 := 25) rfl rfl rfl ?_
    refine js_iconst (pc1 := 26) rfl rfl ?_
    refine js_cP (pc1 := 29) (as := [(.inr (.inr (some 226))), (.inl x1), (.inl x2), (.inl x4), (.inl 0)]) (S0 := []) (m := 5) (L0 := [some (.inr (.inr (some 226))), some (.inl x1), some (.inl x2), some (.inl x4), some (.inl 0)]) rfl rfl rfl rfl rfl rfl rfl rfl (zrc_o rfl rfl) (by omega) (by omega) (z_M_field_ok N (by omega) (by omega) x1 hx1 x2 hx2 x4 hx4 0 (zlit rfl) A) (fun v4 _ hv4 => ?_)
    refine js_istore (pc1 := 31) (L1 := [some (.inr (.inr (some 226))), some (.inl x1), some (.inl x2), some (.inl x3), some (.inl x4), some (.inl v4)]) rfl rfl rfl rfl ?_
    refine js_iload (pc1 := 33) rfl rfl rfl ?_
    refine js_iconst (pc1 := 35) rfl rfl ?_
    refine jt_eq (pc1 := 38) (t1 := 45) hv4 (zlit rfl) rfl rfl rfl (fun c5 => ?_) (fun c5 => ?_)
    · exact zG_to (L := [some (.inr (.inr (some 226))), some (.inl x1), some (.inl x2), some (.inl x3), some (.inl x4), none]) (S := []) ⟨rfl, ⟨rfl, ⟨rfl, ⟨rfl, ⟨rfl, trivial⟩⟩⟩⟩⟩ (rfl) (z_M_match_45_ok hr5 N hd hw x1 hx1 x2 hx2 x3 hx3 x4 hx4 A)
    · refine js_iload (pc1 := 40) rfl rfl rfl ?_
      refine js_iconst (pc1 := 42) rfl rfl ?_
      refine jt_ne (pc1 := 45) (t1 := 59) hv4 (zlit rfl) rfl rfl rfl (fun c6 => ?_) (fun c6 => ?_)
      · exact zG_to (L := [some (.inr (.inr (some 226))), some (.inl x1), some (.inl x2), some (.inl x3), some (.inl x4), none]) (S := []) ⟨rfl, ⟨rfl, ⟨rfl, ⟨rfl, ⟨rfl, trivial⟩⟩⟩⟩⟩ (rfl) (z_M_match_45_ok hr5 N hd hw x1 hx1 x2 hx2 x3 hx3 x4 hx4 A)
      · refine js_iload (pc1 := 61) rfl rfl rfl ?_
        refine js_iconst (pc1 := 63) rfl rfl ?_
        refine jt_eq (pc1 := 66) (t1 := 73) hv4 (zlit rfl) rfl rfl rfl (fun c7 => ?_) (fun c7 => ?_)
        · exact zG_to (L := [some (.inr (.inr (some 226))), some (.inl x1), some (.inl x2), some (.inl x3), some (.inl x4), none]) (S := []) ⟨rfl, ⟨rfl, ⟨rfl, ⟨rfl, ⟨rfl, trivial⟩⟩⟩⟩⟩ (rfl) (z_M_match_73_ok hr5 N hd hw x1 hx1 x2 hx2 x3 hx3 x4 hx4 A)
        · refine js_iload (pc1 := 68) rfl rfl rfl ?_
          refine js_iconst (pc1 := 70) rfl rfl ?_
          refine jt_ne (pc1 := 73) (t1 := 120) hv4 (zlit rfl) rfl rfl rfl (fun c8 => ?_) (fun c8 => ?_)
          · exact zG_to (L := [some (.inr (.inr (some 226))), some (.inl x1), some (.inl x2), some (.inl x3), some (.inl x4), none]) (S := []) ⟨rfl, ⟨rfl, ⟨rfl, ⟨rfl, ⟨rfl, trivial⟩⟩⟩⟩⟩ (rfl) (z_M_match_73_ok hr5 N hd hw x1 hx1 x2 hx2 x3 hx3 x4 hx4 A)
          · refine js_iload (pc1 := 122) rfl rfl rfl ?_
            refine js_iconst (pc1 := 124) rfl rfl ?_
            refine jt_ne (pc1 := 127) (t1 := 176) hv4 (zlit rfl) rfl rfl rfl (fun c9 => ?_) (fun c9 => ?_)
            · refine js_iinc (pc1 := 130) (L1 := [some (.inr (.inr (some 226))), some (.inl x1), some (.inl x2), some (.inl (x3 + (-1))), some (.inl x4), some (.inl v4)]) rfl rfl rfl rfl ?_
              refine js_aload (pc1 := 131) rfl rfl rfl ?_
              refine js_gfr (pc1 := 134) (j := 9) (r := 231) rfl rfl rfl rfl rfl ?_
              refine js_iconst (pc1 := 137) rfl rfl ?_
              refine js_iload (pc1 := 138) rfl rfl rfl ?_
              refine js_imul (pc1 := 139) rfl rfl ?_
              refine js_aload (pc1 := 140) rfl rfl rfl ?_
              refine js_gfr (pc1 := 143) (j := 12) (r := 233) rfl rfl rfl rfl rfl ?_
              refine js_iload (pc1 := 144) rfl rfl rfl ?_
              refine jt_ald (pc1 := 145) rfl rfl rfl rfl rfl (fun v10 hv10 => ?_)
              refine js_iconst (pc1 := 148) rfl rfl ?_
              refine js_irem (pc1 := 149) rfl rfl ?_
              refine js_iadd (pc1 := 150) rfl rfl ?_
              refine js_iload (pc1 := 152) rfl rfl rfl ?_
              refine jt_ias (pc1 := 153) rfl rfl rfl rfl (fun A11 => ?_)
              refine js_aload (pc1 := 154) rfl rfl rfl ?_
              refine js_gfr (pc1 := 157) (j := 9) (r := 231) rfl rfl rfl rfl rfl ?_
              refine js_iconst (pc1 := 160) rfl rfl ?_
              refine js_iload (pc1 := 161) rfl rfl rfl ?_
              refine js_imul (pc1 := 162) rfl rfl ?_
              refine js_iload (pc1 := 164) rfl rfl rfl ?_
              refine js_iadd (pc1 := 165) rfl rfl ?_
              refine js_aload (pc1 := 166) rfl rfl rfl ?_
              refine js_gfr (pc1 := 169) (j := 12) (r := 233) rfl rfl rfl rfl rfl ?_
              refine js_iload (pc1 := 170) rfl rfl rfl ?_
              refine jt_ald (pc1 := 171) rfl rfl rfl rfl rfl (fun v12 hv12 => ?_)
              refine js_iconst (pc1 := 174) rfl rfl ?_
              refine js_idiv (pc1 := 175) rfl rfl ?_
              refine jt_ias (pc1 := 176) rfl rfl rfl rfl (fun A13 => ?_)
              refine js_iinc (pc1 := 179) (L1 := [some (.inr (.inr (some 226))), some (.inl x1), some (.inl x2), some (.inl (x3 + (-1))), some (.inl (x4 + 1)), some (.inl v4)]) rfl rfl rfl rfl ?_
              refine js_goto (t1 := 5) rfl rfl ?_
              exact zG_to (L := [some (.inr (.inr (some 226))), some (.inl x1), some (.inl x2), some (.inl (zw (x3 + (-1)))), some (.inl (zw (x4 + 1))), none]) (S := []) ⟨rfl, ⟨rfl, ⟨rfl, ⟨zval_w (x3 + (-1)), ⟨zval_w (x4 + 1), trivial⟩⟩⟩⟩⟩ (rfl) (hr5 x1 hx1 x2 hx2 (zw (x3 + (-1))) (zw_rg (x3 + (-1))) (zw (x4 + 1)) (zw_rg (x4 + 1)) A13)
            · refine js_iinc (pc1 := 179) (L1 := [some (.inr (.inr (some 226))), some (.inl x1), some (.inl x2), some (.inl x3), some (.inl (x4 + 1)), some (.inl v4)]) rfl rfl rfl rfl ?_
              refine js_goto (t1 := 5) rfl rfl ?_
              exact zG_to (L := [some (.inr (.inr (some 226))), some (.inl x1), some (.inl x2), some (.inl x3), some (.inl (zw (x4 + 1))), none]) (S := []) ⟨rfl, ⟨rfl, ⟨rfl, ⟨rfl, ⟨zval_w (x4 + 1), trivial⟩⟩⟩⟩⟩ (rfl) (hr5 x1 hx1 x2 hx2 x3 hx3 (zw (x4 + 1)) (zw_rg (x4 + 1)) A)
  · exact je_V rfl
theorem z_M_match_5_lok{d w : Nat} (N : Nat) (hd : 2 ≤ d) (hw : 46 ≤ w) (n : Nat) : ∀ (x1 : Int) (hx1 : zrg x1) (x2 : Int) (hx2 : zrg x2) (x3 : Int) (hx3 : zrg x3) (x4 : Int) (hx4 : zrg x4) (A : zA), zG (z_M_match_5_l N n x1 x2 x3 x4 A) zPV d w 87 5 [some (.inr (.inr (some 226))), some (.inl x1), some (.inl x2), some (.inl x3), some (.inl x4), none] [] A := by
  induction n with
  | zero => intros; exact zG_none
  | succ n ih =>
    intro x1 hx1 x2 hx2 x3 hx3 x4 hx4 A
    exact z_M_match_5_bok ih N hd hw x1 hx1 x2 hx2 x3 hx3 x4 hx4 A
theorem z_M_match_5_ok{d w : Nat} (N : Nat) (hd : 2 ≤ d) (hw : 46 ≤ w) (x1 : Int) (hx1 : zrg x1) (x2 : Int) (hx2 : zrg x2) (x3 : Int) (hx3 : zrg x3) (x4 : Int) (hx4 : zrg x4) (A : zA) : zG (z_M_match_5 N x1 x2 x3 x4 A) zPV d w 87 5 [some (.inr (.inr (some 226))), some (.inl x1), some (.inl x2), some (.inl x3), some (.inl x4), none] [] A := z_M_match_5_lok N hd hw N x1 hx1 x2 hx2 x3 hx3 x4 hx4 A
theorem z_M_match_ok{d w : Nat} (N : Nat) (hd : 2 ≤ d) (hw : 46 ≤ w) (x1 : Int) (hx1 : zrg x1) (x2 : Int) (hx2 : zrg x2) (A : zA) : zG (z_M_match N x1 x2 A) zPV d w 87 0 [some (.inr (.inr (some 226))), some (.inl x1), some (.inl x2), none, none, none] [] A := by
  unfold z_M_match
  refine js_iconst (pc1 := 1) rfl rfl ?_
  refine js_istore (pc1 := 2) (L1 := [some (.inr (.inr (some 226))), some (.inl x1), some (.inl x2), some (.inl 0), none, none]) rfl rfl rfl rfl ?_
  refine js_iconst (pc1 := 3) rfl rfl ?_
  refine js_istore (pc1 := 5) (L1 := [some (.inr (.inr (some 226))), some (.inl x1), some (.inl x2), some (.inl 0), some (.inl 0), none]) rfl rfl rfl rfl ?_
  exact z_M_match_5_ok N hd hw x1 hx1 x2 hx2 0 (zlit rfl) 0 (zlit rfl) A
theorem z_M_worked_ok{d w : Nat} (N : Nat) (hd : 0 ≤ d) (hw : 0 ≤ w) (x0 : Int) (hx0 : zrg x0) (x1 : Int) (hx1 : zrg x1) (x2 : Int) (hx2 : zrg x2) (A : zA) : zG (z_M_worked N x0 x1 x2 A) (zPp A) d w 124 0 [some (.inl x0), some (.inl x1), some (.inl x2)] [] A := by
  unfold z_M_worked
  refine js_iload (pc1 := 1) rfl rfl rfl ?_
  refine js_iconst (pc1 := 2) rfl rfl ?_
  refine jt_ge (pc1 := 5) (t1 := 30) hx0 (zlit rfl) rfl rfl rfl (fun c1 => ?_) (fun c1 => ?_)
  · refine js_iload (pc1 := 6) rfl rfl rfl ?_
    refine ju_ne (pc1 := 9) (t1 := 15) hx0 rfl rfl rfl (fun c2 => ?_) (fun c2 => ?_)
    · refine js_iload (pc1 := 10) rfl rfl rfl ?_
      refine js_iload (pc1 := 11) rfl rfl rfl ?_
      refine js_iadd (pc1 := 12) rfl rfl ?_
      refine js_goto (t1 := 29) rfl rfl ?_
      exact je_P rfl (zfit0 _ rfl) (zval_w (x1 + x2)) (zw_rg (x1 + x2))
    · refine js_iload (pc1 := 16) rfl rfl rfl ?_
      refine js_iconst (pc1 := 17) rfl rfl ?_
      refine jt_ne (pc1 := 20) (t1 := 26) hx0 (zlit rfl) rfl rfl rfl (fun c3 => ?_) (fun c3 => ?_)
      · refine js_iload (pc1 := 21) rfl rfl rfl ?_
        refine js_iload (pc1 := 22) rfl rfl rfl ?_
        refine js_isub (pc1 := 23) rfl rfl ?_
        refine js_goto (t1 := 29) rfl rfl ?_
        exact je_P rfl (zfit0 _ rfl) (zval_w (x1 - x2)) (zw_rg (x1 - x2))
      · refine js_iload (pc1 := 27) rfl rfl rfl ?_
        refine js_iload (pc1 := 28) rfl rfl rfl ?_
        refine js_imul (pc1 := 29) rfl rfl ?_
        exact je_P rfl (zfit0 _ rfl) (zval_w (x1 * x2)) (zw_rg (x1 * x2))
  · refine js_iload (pc1 := 31) rfl rfl rfl ?_
    refine js_iconst (pc1 := 32) rfl rfl ?_
    refine jt_ne (pc1 := 35) (t1 := 41) hx0 (zlit rfl) rfl rfl rfl (fun c4 => ?_) (fun c4 => ?_)
    · refine js_iload (pc1 := 36) rfl rfl rfl ?_
      refine js_iload (pc1 := 37) rfl rfl rfl ?_
      refine js_idiv (pc1 := 38) rfl rfl ?_
      refine js_goto (t1 := 69) rfl rfl ?_
      exact je_P rfl (zfit0 _ rfl) rfl (zt_rg _)
    · refine js_iload (pc1 := 42) rfl rfl rfl ?_
      refine js_iconst (pc1 := 43) rfl rfl ?_
      refine jt_ne (pc1 := 46) (t1 := 59) hx0 (zlit rfl) rfl rfl rfl (fun c5 => ?_) (fun c5 => ?_)
      · refine js_iload (pc1 := 47) rfl rfl rfl ?_
        refine js_iload (pc1 := 48) rfl rfl rfl ?_
        refine jt_ge (pc1 := 51) (t1 := 55) hx1 hx2 rfl rfl rfl (fun c6 => ?_) (fun c6 => ?_)
        · refine js_iconst (pc1 := 52) rfl rfl ?_
          refine js_goto (t1 := 69) rfl rfl ?_
          exact je_P rfl (zfit0 _ rfl) rfl (zlit rfl)
        · refine js_iconst (pc1 := 56) rfl rfl ?_
          refine js_goto (t1 := 69) rfl rfl ?_
          exact je_P rfl (zfit0 _ rfl) rfl (zlit rfl)
      · refine js_iload (pc1 := 60) rfl rfl rfl ?_
        refine js_iload (pc1 := 61) rfl rfl rfl ?_
        refine jt_ne (pc1 := 64) (t1 := 68) hx1 hx2 rfl rfl rfl (fun c7 => ?_) (fun c7 => ?_)
        · refine js_iconst (pc1 := 65) rfl rfl ?_
          refine js_goto (t1 := 69) rfl rfl ?_
          exact je_P rfl (zfit0 _ rfl) rfl (zlit rfl)
        · refine js_iconst (pc1 := 69) rfl rfl ?_
          exact je_P rfl (zfit0 _ rfl) rfl (zlit rfl)
theorem z_M_learn_ok{d w : Nat} (N : Nat) (hd : 0 ≤ d) (hw : 0 ≤ w) (x1 : Int) (hx1 : zrg x1) (x2 : Int) (hx2 : zrg x2) (A : zA) : zG (z_M_learn N x1 x2 A) zPV d w 145 0 [some (.inr (.inr (some 226))), some (.inl x1), some (.inl x2)] [] A := by
  unfold z_M_learn
  refine js_aload (pc1 := 1) rfl rfl rfl ?_
  refine js_gfr (pc1 := 4) (j := 26) (r := 239) rfl rfl rfl rfl rfl ?_
  refine js_iload (pc1 := 5) rfl rfl rfl ?_
  refine js_iconst (pc1 := 6) rfl rfl ?_
  refine jt_ias (pc1 := 7) rfl rfl rfl rfl (fun A1 => ?_)
  refine js_aload (pc1 := 8) rfl rfl rfl ?_
  refine js_gfr (pc1 := 11) (j := 27) (r := 240) rfl rfl rfl rfl rfl ?_
  refine js_iload (pc1 := 12) rfl rfl rfl ?_
  refine js_iload (pc1 := 13) rfl rfl rfl ?_
  refine jt_ias (pc1 := 14) rfl rfl rfl rfl (fun A2 => ?_)
  exact je_V rfl
theorem z_M_keep_ok{d w : Nat} (N : Nat) (hd : 1 ≤ d) (hw : 23 ≤ w) (x1 : Int) (hx1 : zrg x1) (x2 : Int) (hx2 : zrg x2) (A : zA) : zG (z_M_keep N x1 x2 A) zPV d w 89 0 [some (.inr (.inr (some 226))), some (.inl x1), some (.inl x2)] [] A := by
  unfold z_M_keep
  refine js_aload (pc1 := 1) rfl rfl rfl ?_
  refine js_iconst (pc1 := 2) rfl rfl ?_
  refine js_iload (pc1 := 3) rfl rfl rfl ?_
  refine js_iload (pc1 := 4) rfl rfl rfl ?_
  refine js_cP (pc1 := 7) (as := [(.inl 0), (.inl x1), (.inl x2)]) (S0 := [(.inr (.inr (some 226)))]) (m := 3) (L0 := [some (.inl 0), some (.inl x1), some (.inl x2)]) rfl rfl rfl rfl rfl rfl rfl rfl (zrc_s rfl) (by omega) (by omega) (z_M_place_ok N (by omega) (by omega) 0 (zlit rfl) x1 hx1 x2 hx2 A) (fun v1 _ hv1 => ?_)
  refine js_iconst (pc1 := 8) rfl rfl ?_
  refine js_iload (pc1 := 9) rfl rfl rfl ?_
  refine js_aload (pc1 := 10) rfl rfl rfl ?_
  refine js_gfr (pc1 := 13) (j := 4) (r := 229) rfl rfl rfl rfl rfl ?_
  refine js_iconst (pc1 := 14) rfl rfl ?_
  refine js_iload (pc1 := 15) rfl rfl rfl ?_
  refine js_cP (pc1 := 18) (as := [(.inl 1), (.inl x1)]) (S0 := [(.inr (.inr (some 229))), (.inl x1), (.inl 1), (.inl v1), (.inr (.inr (some 226)))]) (m := 2) (L0 := [some (.inl 1), some (.inl x1)]) rfl rfl rfl rfl rfl rfl rfl rfl (zrc_s rfl) (by omega) (by omega) (z_M_row_ok N (by omega) (by omega) 1 (zlit rfl) x1 hx1 A) (fun v2 _ hv2 => ?_)
  refine jt_ald (pc1 := 19) rfl rfl rfl rfl rfl (fun v3 hv3 => ?_)
  refine js_cP (pc1 := 22) (as := [(.inl 1), (.inl x1), (.inl v3)]) (S0 := [(.inl v1), (.inr (.inr (some 226)))]) (m := 3) (L0 := [some (.inl 1), some (.inl x1), some (.inl v3)]) rfl rfl rfl rfl rfl rfl rfl rfl (zrc_s rfl) (by omega) (by omega) (z_M_place_ok N (by omega) (by omega) 1 (zlit rfl) x1 hx1 v3 hv3 A) (fun v4 _ hv4 => ?_)
  refine js_cV (pc1 := 25) (as := [(.inr (.inr (some 226))), (.inl v1), (.inl v4)]) (S0 := []) (m := 4) (L0 := [some (.inr (.inr (some 226))), some (.inl v1), some (.inl v4), none]) rfl rfl rfl rfl rfl rfl rfl rfl (zrc_o rfl rfl) (by omega) (by omega) (z_M_copyItem_ok N (by omega) (by omega) v1 hv1 v4 hv4 A) (fun A5 _ => ?_)
  refine js_aload (pc1 := 26) rfl rfl rfl ?_
  refine js_gfr (pc1 := 29) (j := 4) (r := 229) rfl rfl rfl rfl rfl ?_
  refine js_iconst (pc1 := 30) rfl rfl ?_
  refine js_iload (pc1 := 31) rfl rfl rfl ?_
  refine js_cP (pc1 := 34) (as := [(.inl 1), (.inl x1)]) (S0 := [(.inr (.inr (some 229)))]) (m := 2) (L0 := [some (.inl 1), some (.inl x1)]) rfl rfl rfl rfl rfl rfl rfl rfl (zrc_s rfl) (by omega) (by omega) (z_M_row_ok N (by omega) (by omega) 1 (zlit rfl) x1 hx1 A5) (fun v6 _ hv6 => ?_)
  refine js_dup2 (pc1 := 35) rfl rfl ?_
  refine jt_ald (pc1 := 36) rfl rfl rfl rfl rfl (fun v7 hv7 => ?_)
  refine js_iconst (pc1 := 37) rfl rfl ?_
  refine js_iadd (pc1 := 38) rfl rfl ?_
  refine jt_ias (pc1 := 39) rfl rfl rfl rfl (fun A8 => ?_)
  exact je_V rfl
theorem z_M_forget_ok{d w : Nat} (N : Nat) (hd : 0 ≤ d) (hw : 0 ≤ w) (x1 : Int) (hx1 : zrg x1) (A : zA) : zG (z_M_forget N x1 A) zPV d w 93 0 [some (.inr (.inr (some 226))), some (.inl x1)] [] A := by
  unfold z_M_forget
  refine js_aload (pc1 := 1) rfl rfl rfl ?_
  refine js_gfr (pc1 := 4) (j := 26) (r := 239) rfl rfl rfl rfl rfl ?_
  refine js_iload (pc1 := 5) rfl rfl rfl ?_
  refine js_iconst (pc1 := 6) rfl rfl ?_
  refine jt_ias (pc1 := 7) rfl rfl rfl rfl (fun A1 => ?_)
  exact je_V rfl
theorem z_M_writes_22_ok{d w : Nat} (N : Nat) (hd : 2 ≤ d) (hw : 46 ≤ w) (x1 : Int) (hx1 : zrg x1) (x2 : Int) (hx2 : zrg x2) (x3 : Int) (hx3 : zrg x3) (A : zA) : zG (z_M_writes_22 N x1 x2 x3 A) (zPp A) d w 103 22 [some (.inr (.inr (some 226))), some (.inl x1), some (.inl x2), some (.inl x3), none] [] A := by
  unfold z_M_writes_22
  refine js_aload (pc1 := 23) rfl rfl rfl ?_
  refine js_iload (pc1 := 24) rfl rfl rfl ?_
  refine js_iload (pc1 := 25) rfl rfl rfl ?_
  refine js_iload (pc1 := 26) rfl rfl rfl ?_
  refine js_iconst (pc1 := 27) rfl rfl ?_
  refine js_cP (pc1 := 30) (as := [(.inr (.inr (some 226))), (.inl x1), (.inl x2), (.inl x3), (.inl 1)]) (S0 := []) (m := 5) (L0 := [some (.inr (.inr (some 226))), some (.inl x1), some (.inl x2), some (.inl x3), some (.inl 1)]) rfl rfl rfl rfl rfl rfl rfl rfl (zrc_o rfl rfl) (by omega) (by omega) (z_M_field_ok N (by omega) (by omega) x1 hx1 x2 hx2 x3 hx3 1 (zlit rfl) A) (fun v1 _ hv1 => ?_)
  refine js_goto (t1 := 34) rfl rfl ?_
  exact je_P rfl (zfit0 _ rfl) rfl hv1
theorem z_M_writes_ok{d w : Nat} (N : Nat) (hd : 2 ≤ d) (hw : 46 ≤ w) (x1 : Int) (hx1 : zrg x1) (x2 : Int) (hx2 : zrg x2) (x3 : Int) (hx3 : zrg x3) (A : zA) : zG (z_M_writes N x1 x2 x3 A) (zPp A) d w 103 0 [some (.inr (.inr (some 226))), some (.inl x1), some (.inl x2), some (.inl x3), none] [] A := by
  unfold z_M_writes
  refine js_aload (pc1 := 1) rfl rfl rfl ?_
  refine js_iload (pc1 := 2) rfl rfl rfl ?_
  refine js_iload (pc1 := 3) rfl rfl rfl ?_
  refine js_iload (pc1 := 4) rfl rfl rfl ?_
  refine js_iconst (pc1 := 5) rfl rfl ?_
  refine js_cP (pc1 := 8) (as := [(.inr (.inr (some 226))), (.inl x1), (.inl x2), (.inl x3), (.inl 0)]) (S0 := []) (m := 5) (L0 := [some (.inr (.inr (some 226))), some (.inl x1), some (.inl x2), some (.inl x3), some (.inl 0)]) rfl rfl rfl rfl rfl rfl rfl rfl (zrc_o rfl rfl) (by omega) (by omega) (z_M_field_ok N (by omega) (by omega) x1 hx1 x2 hx2 x3 hx3 0 (zlit rfl) A) (fun v1 _ hv1 => ?_)
  refine js_istore (pc1 := 10) (L1 := [some (.inr (.inr (some 226))), some (.inl x1), some (.inl x2), some (.inl x3), some (.inl v1)]) rfl rfl rfl rfl ?_
  refine js_iload (pc1 := 12) rfl rfl rfl ?_
  refine js_iconst (pc1 := 13) rfl rfl ?_
  refine jt_le (pc1 := 16) (t1 := 22) hv1 (zlit rfl) rfl rfl rfl (fun c2 => ?_) (fun c2 => ?_)
  · refine js_iload (pc1 := 18) rfl rfl rfl ?_
    refine js_iconst (pc1 := 19) rfl rfl ?_
    refine jt_ne (pc1 := 22) (t1 := 33) hv1 (zlit rfl) rfl rfl rfl (fun c3 => ?_) (fun c3 => ?_)
    · exact zG_to (L := [some (.inr (.inr (some 226))), some (.inl x1), some (.inl x2), some (.inl x3), none]) (S := []) ⟨rfl, ⟨rfl, ⟨rfl, ⟨rfl, trivial⟩⟩⟩⟩ (rfl) (z_M_writes_22_ok N hd hw x1 hx1 x2 hx2 x3 hx3 A)
    · refine js_iconst (pc1 := 34) rfl rfl ?_
      exact je_P rfl (zfit0 _ rfl) rfl (zlit rfl)
  · exact zG_to (L := [some (.inr (.inr (some 226))), some (.inl x1), some (.inl x2), some (.inl x3), none]) (S := []) ⟨rfl, ⟨rfl, ⟨rfl, ⟨rfl, trivial⟩⟩⟩⟩ (rfl) (z_M_writes_22_ok N hd hw x1 hx1 x2 hx2 x3 hx3 A)
theorem z_M_simple_226_bok{d w : Nat} {r226 : Int → zA → Option zA} (hr226 : ∀ (x9 : Int) (hx9 : zrg x9) (A : zA), zG (r226 x9 A) zPV d w 88 226 [some (.inr (.inr (some 226))), none, none, none, none, none, none, none, none, some (.inl x9)] [] A) (N : Nat) (hd : 3 ≤ d) (hw : 70 ≤ w) (x9 : Int) (hx9 : zrg x9) (A : zA) : zG (z_M_simple_226_b r226 N x9 A) zPV d w 88 226 [some (.inr (.inr (some 226))), none, none, none, none, none, none, none, none, some (.inl x9)] [] A := by
  unfold z_M_simple_226_b
  refine js_iload (pc1 := 228) rfl rfl rfl ?_
  refine js_iconst (pc1 := 230) rfl rfl ?_
  refine jt_ge (pc1 := 233) (t1 := 245) hx9 (zlit rfl) rfl rfl rfl (fun c1 => ?_) (fun c1 => ?_)
  · refine js_aload (pc1 := 234) rfl rfl rfl ?_
    refine js_iload (pc1 := 236) rfl rfl rfl ?_
    refine js_cV (pc1 := 239) (as := [(.inr (.inr (some 226))), (.inl x9)]) (S0 := []) (m := 2) (L0 := [some (.inr (.inr (some 226))), some (.inl x9)]) rfl rfl rfl rfl rfl rfl rfl rfl (zrc_o rfl rfl) (by omega) (by omega) (z_M_forget_ok N (by omega) (by omega) x9 hx9 A) (fun A2 _ => ?_)
    refine js_iinc (pc1 := 242) (L1 := [some (.inr (.inr (some 226))), none, none, none, none, none, none, none, none, some (.inl (x9 + 1))]) rfl rfl rfl rfl ?_
    refine js_goto (t1 := 226) rfl rfl ?_
    exact zG_to (L := [some (.inr (.inr (some 226))), none, none, none, none, none, none, none, none, some (.inl (zw (x9 + 1)))]) (S := []) ⟨rfl, ⟨zval_w (x9 + 1), trivial⟩⟩ (rfl) (hr226 (zw (x9 + 1)) (zw_rg (x9 + 1)) A2)
  · refine js_goto (t1 := 264) rfl rfl ?_
    exact je_V rfl
theorem z_M_simple_226_lok{d w : Nat} (N : Nat) (hd : 3 ≤ d) (hw : 70 ≤ w) (n : Nat) : ∀ (x9 : Int) (hx9 : zrg x9) (A : zA), zG (z_M_simple_226_l N n x9 A) zPV d w 88 226 [some (.inr (.inr (some 226))), none, none, none, none, none, none, none, none, some (.inl x9)] [] A := by
  induction n with
  | zero => intros; exact zG_none
  | succ n ih =>
    intro x9 hx9 A
    exact z_M_simple_226_bok ih N hd hw x9 hx9 A
theorem z_M_simple_226_ok{d w : Nat} (N : Nat) (hd : 3 ≤ d) (hw : 70 ≤ w) (x9 : Int) (hx9 : zrg x9) (A : zA) : zG (z_M_simple_226 N x9 A) zPV d w 88 226 [some (.inr (.inr (some 226))), none, none, none, none, none, none, none, none, some (.inl x9)] [] A := z_M_simple_226_lok N hd hw N x9 hx9 A
theorem z_M_simple_159_ok{d w : Nat} (N : Nat) (hd : 3 ≤ d) (hw : 70 ≤ w) (x1 : Int) (hx1 : zrg x1) (x2 : Int) (hx2 : zrg x2) (x3 : Int) (hx3 : zrg x3) (x4 : Int) (hx4 : zrg x4) (x5 : Int) (hx5 : zrg x5) (x7 : Int) (hx7 : zrg x7) (x8 : Int) (hx8 : zrg x8) (A : zA) : zG (z_M_simple_159 N x1 x2 x3 x4 x5 x7 x8 A) zPV d w 88 159 [some (.inr (.inr (some 226))), some (.inl x1), some (.inl x2), some (.inl x3), some (.inl x4), some (.inl x5), none, some (.inl x7), some (.inl x8), none] [] A := by
  unfold z_M_simple_159
  refine js_iload (pc1 := 161) rfl rfl rfl ?_
  refine ju_eq (pc1 := 164) (t1 := 196) hx7 rfl rfl rfl (fun c1 => ?_) (fun c1 => ?_)
  · refine js_aload (pc1 := 197) rfl rfl rfl ?_
    refine js_iload (pc1 := 198) rfl rfl rfl ?_
    refine js_iload (pc1 := 199) rfl rfl rfl ?_
    refine js_cV (pc1 := 202) (as := [(.inr (.inr (some 226))), (.inl x1), (.inl x2)]) (S0 := []) (m := 3) (L0 := [some (.inr (.inr (some 226))), some (.inl x1), some (.inl x2)]) rfl rfl rfl rfl rfl rfl rfl rfl (zrc_o rfl rfl) (by omega) (by omega) (z_M_keep_ok N (by omega) (by omega) x1 hx1 x2 hx2 A) (fun A2 _ => ?_)
    refine js_iload (pc1 := 203) rfl rfl rfl ?_
    refine ju_ne (pc1 := 206) (t1 := 217) hx3 rfl rfl rfl (fun c3 => ?_) (fun c3 => ?_)
    · refine js_aload (pc1 := 207) rfl rfl rfl ?_
      refine js_iload (pc1 := 209) rfl rfl rfl ?_
      refine js_iload (pc1 := 211) rfl rfl rfl ?_
      refine js_cV (pc1 := 214) (as := [(.inr (.inr (some 226))), (.inl x4), (.inl x5)]) (S0 := []) (m := 3) (L0 := [some (.inr (.inr (some 226))), some (.inl x4), some (.inl x5)]) rfl rfl rfl rfl rfl rfl rfl rfl (zrc_o rfl rfl) (by omega) (by omega) (z_M_learn_ok N (by omega) (by omega) x4 hx4 x5 hx5 A2) (fun A4 _ => ?_)
      refine js_goto (t1 := 264) rfl rfl ?_
      exact je_V rfl
    · refine js_iload (pc1 := 218) rfl rfl rfl ?_
      refine js_iconst (pc1 := 220) rfl rfl ?_
      refine jt_ne (pc1 := 223) (t1 := 248) hx3 (zlit rfl) rfl rfl rfl (fun c5 => ?_) (fun c5 => ?_)
      · refine js_iconst (pc1 := 224) rfl rfl ?_
        refine js_istore (pc1 := 226) (L1 := [some (.inr (.inr (some 226))), some (.inl x1), some (.inl x2), some (.inl x3), some (.inl x4), some (.inl x5), none, some (.inl x7), some (.inl x8), some (.inl 0)]) rfl rfl rfl rfl ?_
        exact zG_to (L := [some (.inr (.inr (some 226))), none, none, none, none, none, none, none, none, some (.inl 0)]) (S := []) ⟨rfl, ⟨rfl, trivial⟩⟩ (rfl) (z_M_simple_226_ok N hd hw 0 (zlit rfl) A2)
      · refine js_aload (pc1 := 249) rfl rfl rfl ?_
        refine js_iconst (pc1 := 250) rfl rfl ?_
        refine js_iload (pc1 := 251) rfl rfl rfl ?_
        refine js_iload (pc1 := 252) rfl rfl rfl ?_
        refine js_cP (pc1 := 255) (as := [(.inr (.inr (some 226))), (.inl 0), (.inl x1), (.inl x2)]) (S0 := []) (m := 5) (L0 := [some (.inr (.inr (some 226))), some (.inl 0), some (.inl x1), some (.inl x2), none]) rfl rfl rfl rfl rfl rfl rfl rfl (zrc_o rfl rfl) (by omega) (by omega) (z_M_writes_ok N (by omega) (by omega) 0 (zlit rfl) x1 hx1 x2 hx2 A2) (fun v6 _ hv6 => ?_)
        refine ju_lt (pc1 := 258) (t1 := 264) hv6 rfl rfl rfl (fun c7 => ?_) (fun c7 => ?_)
        · exact je_V rfl
        · refine js_aload (pc1 := 259) rfl rfl rfl ?_
          refine js_iload (pc1 := 261) rfl rfl rfl ?_
          refine js_cV (pc1 := 264) (as := [(.inr (.inr (some 226))), (.inl x4)]) (S0 := []) (m := 2) (L0 := [some (.inr (.inr (some 226))), some (.inl x4)]) rfl rfl rfl rfl rfl rfl rfl rfl (zrc_o rfl rfl) (by omega) (by omega) (z_M_forget_ok N (by omega) (by omega) x4 hx4 A2) (fun A8 _ => ?_)
          exact je_V rfl
  · refine js_aload (pc1 := 165) rfl rfl rfl ?_
    refine js_iconst (pc1 := 166) rfl rfl ?_
    refine js_iload (pc1 := 167) rfl rfl rfl ?_
    refine js_iconst (pc1 := 168) rfl rfl ?_
    refine js_iload (pc1 := 170) rfl rfl rfl ?_
    refine js_iload (pc1 := 172) rfl rfl rfl ?_
    refine js_iconst (pc1 := 173) rfl rfl ?_
    refine js_iconst (pc1 := 174) rfl rfl ?_
    refine js_cV (pc1 := 177) (as := [(.inr (.inr (some 226))), (.inl 1), (.inl x1), (.inl 0), (.inl x4), (.inl x8), (.inl 0), (.inl 0)]) (S0 := []) (m := 9) (L0 := [some (.inr (.inr (some 226))), some (.inl 1), some (.inl x1), some (.inl 0), some (.inl x4), some (.inl x8), some (.inl 0), some (.inl 0), none]) rfl rfl rfl rfl rfl rfl rfl rfl (zrc_o rfl rfl) (by omega) (by omega) (z_M_emit_ok N (by omega) (by omega) 1 (zlit rfl) x1 hx1 0 (zlit rfl) x4 hx4 x8 hx8 0 (zlit rfl) 0 (zlit rfl) A) (fun A9 _ => ?_)
    refine js_aload (pc1 := 178) rfl rfl rfl ?_
    refine js_iload (pc1 := 180) rfl rfl rfl ?_
    refine js_iload (pc1 := 182) rfl rfl rfl ?_
    refine js_cV (pc1 := 185) (as := [(.inr (.inr (some 226))), (.inl x4), (.inl x8)]) (S0 := []) (m := 3) (L0 := [some (.inr (.inr (some 226))), some (.inl x4), some (.inl x8)]) rfl rfl rfl rfl rfl rfl rfl rfl (zrc_o rfl rfl) (by omega) (by omega) (z_M_learn_ok N (by omega) (by omega) x4 hx4 x8 hx8 A9) (fun A10 _ => ?_)
    refine js_aload (pc1 := 186) rfl rfl rfl ?_
    refine js_dupR (pc1 := 187) rfl rfl ?_
    refine js_gi (pc1 := 190) (j := 33) rfl rfl rfl rfl ?_
    refine js_iconst (pc1 := 191) rfl rfl ?_
    refine js_iadd (pc1 := 192) rfl rfl ?_
    refine jt_pi (pc1 := 195) (j := 33) rfl rfl rfl rfl rfl (fun A11 => ?_)
    exact je_V rfl
theorem z_M_simple_129_ok{d w : Nat} (N : Nat) (hd : 3 ≤ d) (hw : 70 ≤ w) (x1 : Int) (hx1 : zrg x1) (x2 : Int) (hx2 : zrg x2) (x3 : Int) (hx3 : zrg x3) (x4 : Int) (hx4 : zrg x4) (x5 : Int) (hx5 : zrg x5) (x6 : Int) (hx6 : zrg x6) (A : zA) : zG (z_M_simple_129 N x1 x2 x3 x4 x5 x6 A) zPV d w 88 129 [some (.inr (.inr (some 226))), some (.inl x1), some (.inl x2), some (.inl x3), some (.inl x4), some (.inl x5), some (.inl x6), none, none, none] [] A := by
  unfold z_M_simple_129
  refine js_iconst (pc1 := 130) rfl rfl ?_
  refine js_istore (pc1 := 132) (L1 := [some (.inr (.inr (some 226))), some (.inl x1), some (.inl x2), some (.inl x3), some (.inl x4), some (.inl x5), some (.inl x6), some (.inl 1), none, none]) rfl rfl rfl rfl ?_
  refine js_aload (pc1 := 133) rfl rfl rfl ?_
  refine js_iconst (pc1 := 134) rfl rfl ?_
  refine js_iload (pc1 := 135) rfl rfl rfl ?_
  refine js_iload (pc1 := 136) rfl rfl rfl ?_
  refine js_iconst (pc1 := 137) rfl rfl ?_
  refine js_cP (pc1 := 140) (as := [(.inr (.inr (some 226))), (.inl 0), (.inl x1), (.inl x2), (.inl 4)]) (S0 := []) (m := 5) (L0 := [some (.inr (.inr (some 226))), some (.inl 0), some (.inl x1), some (.inl x2), some (.inl 4)]) rfl rfl rfl rfl rfl rfl rfl rfl (zrc_o rfl rfl) (by omega) (by omega) (z_M_field_ok N (by omega) (by omega) 0 (zlit rfl) x1 hx1 x2 hx2 4 (zlit rfl) A) (fun v1 _ hv1 => ?_)
  refine js_aload (pc1 := 141) rfl rfl rfl ?_
  refine js_gfr (pc1 := 144) (j := 27) (r := 240) rfl rfl rfl rfl rfl ?_
  refine js_iload (pc1 := 146) rfl rfl rfl ?_
  refine jt_ald (pc1 := 147) rfl rfl rfl rfl rfl (fun v2 hv2 => ?_)
  refine js_aload (pc1 := 148) rfl rfl rfl ?_
  refine js_gfr (pc1 := 151) (j := 27) (r := 240) rfl rfl rfl rfl rfl ?_
  refine js_iload (pc1 := 153) rfl rfl rfl ?_
  refine jt_ald (pc1 := 154) rfl rfl rfl rfl rfl (fun v3 hv3 => ?_)
  refine js_cP (pc1 := 157) (as := [(.inl v1), (.inl v2), (.inl v3)]) (S0 := []) (m := 3) (L0 := [some (.inl v1), some (.inl v2), some (.inl v3)]) rfl rfl rfl rfl rfl rfl rfl rfl (zrc_s rfl) (by omega) (by omega) (z_M_worked_ok N (by omega) (by omega) v1 hv1 v2 hv2 v3 hv3 A) (fun v4 _ hv4 => ?_)
  refine js_istore (pc1 := 159) (L1 := [some (.inr (.inr (some 226))), some (.inl x1), some (.inl x2), some (.inl x3), some (.inl x4), some (.inl x5), some (.inl x6), some (.inl 1), some (.inl v4), none]) rfl rfl rfl rfl ?_
  exact zG_to (L := [some (.inr (.inr (some 226))), some (.inl x1), some (.inl x2), some (.inl x3), some (.inl x4), some (.inl x5), none, some (.inl 1), some (.inl v4), none]) (S := []) ⟨rfl, ⟨rfl, ⟨rfl, ⟨rfl, ⟨rfl, ⟨rfl, ⟨rfl, ⟨rfl, trivial⟩⟩⟩⟩⟩⟩⟩⟩ (rfl) (z_M_simple_159_ok N hd hw x1 hx1 x2 hx2 x3 hx3 x4 hx4 x5 hx5 1 (zlit rfl) v4 hv4 A)
theorem z_M_simple_78_ok{d w : Nat} (N : Nat) (hd : 3 ≤ d) (hw : 70 ≤ w) (x1 : Int) (hx1 : zrg x1) (x2 : Int) (hx2 : zrg x2) (x3 : Int) (hx3 : zrg x3) (x4 : Int) (hx4 : zrg x4) (x5 : Int) (hx5 : zrg x5) (x6 : Int) (hx6 : zrg x6) (x7 : Int) (hx7 : zrg x7) (s0 : Int) (hs0 : zrg s0) (A : zA) : zG (z_M_simple_78 N x1 x2 x3 x4 x5 x6 x7 s0 A) zPV d w 88 78 [some (.inr (.inr (some 226))), some (.inl x1), some (.inl x2), some (.inl x3), some (.inl x4), some (.inl x5), some (.inl x6), some (.inl x7), none, none] [(.inl s0)] A := by
  unfold z_M_simple_78
  refine js_istore (pc1 := 80) (L1 := [some (.inr (.inr (some 226))), some (.inl x1), some (.inl x2), some (.inl x3), some (.inl x4), some (.inl x5), some (.inl x6), some (.inl x7), some (.inl s0), none]) rfl rfl rfl rfl ?_
  refine js_iload (pc1 := 81) rfl rfl rfl ?_
  refine js_iconst (pc1 := 82) rfl rfl ?_
  refine jt_ne (pc1 := 85) (t1 := 159) hx3 (zlit rfl) rfl rfl rfl (fun c1 => ?_) (fun c1 => ?_)
  · refine js_aload (pc1 := 86) rfl rfl rfl ?_
    refine js_gfr (pc1 := 89) (j := 26) (r := 239) rfl rfl rfl rfl rfl ?_
    refine js_iload (pc1 := 91) rfl rfl rfl ?_
    refine jt_ald (pc1 := 92) rfl rfl rfl rfl rfl (fun v2 hv2 => ?_)
    refine js_iconst (pc1 := 93) rfl rfl ?_
    refine jt_ne (pc1 := 96) (t1 := 159) hv2 (zlit rfl) rfl rfl rfl (fun c3 => ?_) (fun c3 => ?_)
    · refine js_aload (pc1 := 97) rfl rfl rfl ?_
      refine js_gfr (pc1 := 100) (j := 26) (r := 239) rfl rfl rfl rfl rfl ?_
      refine js_iload (pc1 := 102) rfl rfl rfl ?_
      refine jt_ald (pc1 := 103) rfl rfl rfl rfl rfl (fun v4 hv4 => ?_)
      refine js_iconst (pc1 := 104) rfl rfl ?_
      refine jt_ne (pc1 := 107) (t1 := 159) hv4 (zlit rfl) rfl rfl rfl (fun c5 => ?_) (fun c5 => ?_)
      · refine js_aload (pc1 := 108) rfl rfl rfl ?_
        refine js_iconst (pc1 := 109) rfl rfl ?_
        refine js_iload (pc1 := 110) rfl rfl rfl ?_
        refine js_iload (pc1 := 111) rfl rfl rfl ?_
        refine js_iconst (pc1 := 112) rfl rfl ?_
        refine js_cP (pc1 := 115) (as := [(.inr (.inr (some 226))), (.inl 0), (.inl x1), (.inl x2), (.inl 4)]) (S0 := []) (m := 5) (L0 := [some (.inr (.inr (some 226))), some (.inl 0), some (.inl x1), some (.inl x2), some (.inl 4)]) rfl rfl rfl rfl rfl rfl rfl rfl (zrc_o rfl rfl) (by omega) (by omega) (z_M_field_ok N (by omega) (by omega) 0 (zlit rfl) x1 hx1 x2 hx2 4 (zlit rfl) A) (fun v6 _ hv6 => ?_)
        refine js_iconst (pc1 := 116) rfl rfl ?_
        refine jt_ne (pc1 := 119) (t1 := 129) hv6 (zlit rfl) rfl rfl rfl (fun c7 => ?_) (fun c7 => ?_)
        · refine js_aload (pc1 := 120) rfl rfl rfl ?_
          refine js_gfr (pc1 := 123) (j := 27) (r := 240) rfl rfl rfl rfl rfl ?_
          refine js_iload (pc1 := 125) rfl rfl rfl ?_
          refine jt_ald (pc1 := 126) rfl rfl rfl rfl rfl (fun v8 hv8 => ?_)
          refine ju_eq (pc1 := 129) (t1 := 159) hv8 rfl rfl rfl (fun c9 => ?_) (fun c9 => ?_)
          · exact zG_to (L := [some (.inr (.inr (some 226))), some (.inl x1), some (.inl x2), some (.inl x3), some (.inl x4), some (.inl x5), none, some (.inl x7), some (.inl s0), none]) (S := []) ⟨rfl, ⟨rfl, ⟨rfl, ⟨rfl, ⟨rfl, ⟨rfl, ⟨rfl, ⟨rfl, trivial⟩⟩⟩⟩⟩⟩⟩⟩ (rfl) (z_M_simple_159_ok N hd hw x1 hx1 x2 hx2 x3 hx3 x4 hx4 x5 hx5 x7 hx7 s0 hs0 A)
          · exact zG_to (L := [some (.inr (.inr (some 226))), some (.inl x1), some (.inl x2), some (.inl x3), some (.inl x4), some (.inl x5), some (.inl x6), none, none, none]) (S := []) ⟨rfl, ⟨rfl, ⟨rfl, ⟨rfl, ⟨rfl, ⟨rfl, ⟨rfl, trivial⟩⟩⟩⟩⟩⟩⟩ (rfl) (z_M_simple_129_ok N hd hw x1 hx1 x2 hx2 x3 hx3 x4 hx4 x5 hx5 x6 hx6 A)
        · exact zG_to (L := [some (.inr (.inr (some 226))), some (.inl x1), some (.inl x2), some (.inl x3), some (.inl x4), some (.inl x5), some (.inl x6), none, none, none]) (S := []) ⟨rfl, ⟨rfl, ⟨rfl, ⟨rfl, ⟨rfl, ⟨rfl, ⟨rfl, trivial⟩⟩⟩⟩⟩⟩⟩ (rfl) (z_M_simple_129_ok N hd hw x1 hx1 x2 hx2 x3 hx3 x4 hx4 x5 hx5 x6 hx6 A)
      · exact zG_to (L := [some (.inr (.inr (some 226))), some (.inl x1), some (.inl x2), some (.inl x3), some (.inl x4), some (.inl x5), none, some (.inl x7), some (.inl s0), none]) (S := []) ⟨rfl, ⟨rfl, ⟨rfl, ⟨rfl, ⟨rfl, ⟨rfl, ⟨rfl, ⟨rfl, trivial⟩⟩⟩⟩⟩⟩⟩⟩ (rfl) (z_M_simple_159_ok N hd hw x1 hx1 x2 hx2 x3 hx3 x4 hx4 x5 hx5 x7 hx7 s0 hs0 A)
    · exact zG_to (L := [some (.inr (.inr (some 226))), some (.inl x1), some (.inl x2), some (.inl x3), some (.inl x4), some (.inl x5), none, some (.inl x7), some (.inl s0), none]) (S := []) ⟨rfl, ⟨rfl, ⟨rfl, ⟨rfl, ⟨rfl, ⟨rfl, ⟨rfl, ⟨rfl, trivial⟩⟩⟩⟩⟩⟩⟩⟩ (rfl) (z_M_simple_159_ok N hd hw x1 hx1 x2 hx2 x3 hx3 x4 hx4 x5 hx5 x7 hx7 s0 hs0 A)
  · exact zG_to (L := [some (.inr (.inr (some 226))), some (.inl x1), some (.inl x2), some (.inl x3), some (.inl x4), some (.inl x5), none, some (.inl x7), some (.inl s0), none]) (S := []) ⟨rfl, ⟨rfl, ⟨rfl, ⟨rfl, ⟨rfl, ⟨rfl, ⟨rfl, ⟨rfl, trivial⟩⟩⟩⟩⟩⟩⟩⟩ (rfl) (z_M_simple_159_ok N hd hw x1 hx1 x2 hx2 x3 hx3 x4 hx4 x5 hx5 x7 hx7 s0 hs0 A)
theorem z_M_simple_60_ok{d w : Nat} (N : Nat) (hd : 3 ≤ d) (hw : 70 ≤ w) (x1 : Int) (hx1 : zrg x1) (x2 : Int) (hx2 : zrg x2) (x3 : Int) (hx3 : zrg x3) (x4 : Int) (hx4 : zrg x4) (x5 : Int) (hx5 : zrg x5) (x6 : Int) (hx6 : zrg x6) (s0 : Int) (hs0 : zrg s0) (A : zA) : zG (z_M_simple_60 N x1 x2 x3 x4 x5 x6 s0 A) zPV d w 88 60 [some (.inr (.inr (some 226))), some (.inl x1), some (.inl x2), some (.inl x3), some (.inl x4), some (.inl x5), some (.inl x6), none, none, none] [(.inl s0)] A := by
  unfold z_M_simple_60
  refine js_istore (pc1 := 62) (L1 := [some (.inr (.inr (some 226))), some (.inl x1), some (.inl x2), some (.inl x3), some (.inl x4), some (.inl x5), some (.inl x6), some (.inl s0), none, none]) rfl rfl rfl rfl ?_
  refine js_iload (pc1 := 64) rfl rfl rfl ?_
  refine ju_eq (pc1 := 67) (t1 := 77) hs0 rfl rfl rfl (fun c1 => ?_) (fun c1 => ?_)
  · refine js_iconst (pc1 := 78) rfl rfl ?_
    exact z_M_simple_78_ok N hd hw x1 hx1 x2 hx2 x3 hx3 x4 hx4 x5 hx5 x6 hx6 s0 hs0 0 (zlit rfl) A
  · refine js_aload (pc1 := 68) rfl rfl rfl ?_
    refine js_gfr (pc1 := 71) (j := 27) (r := 240) rfl rfl rfl rfl rfl ?_
    refine js_iload (pc1 := 73) rfl rfl rfl ?_
    refine jt_ald (pc1 := 74) rfl rfl rfl rfl rfl (fun v2 hv2 => ?_)
    refine js_goto (t1 := 78) rfl rfl ?_
    exact z_M_simple_78_ok N hd hw x1 hx1 x2 hx2 x3 hx3 x4 hx4 x5 hx5 x6 hx6 s0 hs0 v2 hv2 A
