theorem z_Lw_law_23_bok{d w : Nat} {r23 : Int → zA → Option (Int × zA)} (hr23 : ∀ (x4 : Int) (hx4 : zrg x4) (A : zA), zG (r23 x4 A) zPI d w 0 23 [some (.inr (.inr (some 0))), some (.inr (.inr (some 4))), some (.inr (.inr (some 226))), some (.inr (.inr (some 295))), some (.inl x4), none, none] [] A) (N : Nat) (hd : 654 ≤ d) (hw : 18677 ≤ w) (x4 : Int) (hx4 : zrg x4) (A : zA) : zG (z_Lw_law_23_b r23 N x4 A) zPI d w 0 23 [some (.inr (.inr (some 0))), some (.inr (.inr (some 4))), some (.inr (.inr (some 226))), some (.inr (.inr (some 295))), some (.inl x4), none, none] [] A := by
  unfold z_Lw_law_23_b
  refine js_iload (pc1 := 25) rfl rfl rfl ?_
  refine js_aload (pc1 := 26) rfl rfl rfl ?_
  refine js_lenD (pc1 := 27) rfl rfl (fun v1 hv1 => ?_)
  refine js_iconst (pc1 := 28) rfl rfl ?_
  refine js_isub (pc1 := 29) rfl rfl ?_
  refine zG_w1 ?_
  refine jt_gt (pc1 := 32) (t1 := 794) hx4 (zw_rg (v1 - 5)) rfl rfl rfl (fun c2 => ?_) (fun c2 => ?_)
  · refine js_iconst (pc1 := 795) rfl rfl ?_
    exact je_I rfl (zfit3 rfl (Or.inr rfl)) rfl (zlit rfl)
  · refine js_aload (pc1 := 33) rfl rfl rfl ?_
    refine js_iload (pc1 := 35) rfl rfl rfl ?_
    refine jt_aldD (pc1 := 36) rfl rfl (fun v3 hv3 => ?_)
    refine js_iconst (pc1 := 38) rfl rfl ?_
    refine js_iand (pc1 := 39) rfl rfl ?_
    refine zG_ite (fun c13 => ?_) (fun c13 => ?_)
    · refine js_tsw (t1 := 108) rfl c13 (zlit rfl) (by decide) ?_
      refine js_aload (pc1 := 109) rfl rfl rfl ?_
      refine js_aload (pc1 := 110) rfl rfl rfl ?_
      refine js_iload (pc1 := 112) rfl rfl rfl ?_
      refine js_iconst (pc1 := 113) rfl rfl ?_
      refine js_iadd (pc1 := 114) rfl rfl ?_
      refine jt_aldD (pc1 := 115) rfl rfl (fun v4 hv4 => ?_)
      refine js_aload (pc1 := 116) rfl rfl rfl ?_
      refine js_iload (pc1 := 118) rfl rfl rfl ?_
      refine js_iconst (pc1 := 119) rfl rfl ?_
      refine js_iadd (pc1 := 120) rfl rfl ?_
      refine jt_aldD (pc1 := 121) rfl rfl (fun v5 hv5 => ?_)
      refine js_cI (pc1 := 124) (as := [(.inr (.inr (some 4))), (.inl v4), (.inl v5)]) (S0 := []) (m := 5) (L0 := [some (.inr (.inr (some 4))), some (.inl v4), some (.inl v5), none, none]) rfl rfl rfl rfl rfl rfl rfl rfl (zrc_o rfl rfl) (by omega) (by omega) (z_PC_put_ok N (by omega) (by omega) v4 hv4 v5 hv5 A) (fun v6 A7 _ hv6 => ?_)
      refine js_aload (pc1 := 125) rfl rfl rfl ?_
      refine js_aload (pc1 := 126) rfl rfl rfl ?_
      refine js_iload (pc1 := 128) rfl rfl rfl ?_
      refine js_iconst (pc1 := 129) rfl rfl ?_
      refine js_iadd (pc1 := 130) rfl rfl ?_
      refine jt_aldD (pc1 := 131) rfl rfl (fun v8 hv8 => ?_)
      refine js_aload (pc1 := 132) rfl rfl rfl ?_
      refine js_iload (pc1 := 134) rfl rfl rfl ?_
      refine js_iconst (pc1 := 135) rfl rfl ?_
      refine js_iadd (pc1 := 136) rfl rfl ?_
      refine jt_aldD (pc1 := 137) rfl rfl (fun v9 hv9 => ?_)
      refine js_cI (pc1 := 140) (as := [(.inr (.inr (some 226))), (.inl v8), (.inl v9)]) (S0 := [(.inl v6)]) (m := 5) (L0 := [some (.inr (.inr (some 226))), some (.inl v8), some (.inl v9), none, none]) rfl rfl rfl rfl rfl rfl rfl rfl (zrc_o rfl rfl) (by omega) (by omega) (z_M_put_ok N (by omega) (by omega) v8 hv8 v9 hv9 A7) (fun v10 A11 _ hv10 => ?_)
      refine jt_eq (pc1 := 143) (t1 := 788) hv6 hv10 rfl rfl rfl (fun c12 => ?_) (fun c12 => ?_)
      · refine js_iinc (pc1 := 791) (L1 := [some (.inr (.inr (some 0))), some (.inr (.inr (some 4))), some (.inr (.inr (some 226))), some (.inr (.inr (some 295))), some (.inl (x4 + 5)), none, none]) rfl rfl rfl rfl ?_
        refine js_goto (t1 := 23) rfl rfl ?_
        exact zG_to (L := [some (.inr (.inr (some 0))), some (.inr (.inr (some 4))), some (.inr (.inr (some 226))), some (.inr (.inr (some 295))), some (.inl (zw (x4 + 5))), none, none]) (S := []) ⟨rfl, ⟨rfl, ⟨rfl, ⟨rfl, ⟨zval_w (x4 + 5), trivial⟩⟩⟩⟩⟩ (rfl) (hr23 (zw (x4 + 5)) (zw_rg (x4 + 5)) A11)
      · refine js_iconst (pc1 := 144) rfl rfl ?_
        exact je_I rfl (zfit3 rfl (Or.inl rfl)) rfl (zlit rfl)
    refine zG_ite (fun c23 => ?_) (fun c23 => ?_)
    · refine js_tsw (t1 := 145) rfl c23 (zlit rfl) (by decide) ?_
      refine js_aload (pc1 := 146) rfl rfl rfl ?_
      refine js_aload (pc1 := 147) rfl rfl rfl ?_
      refine js_cI (pc1 := 150) (as := [(.inr (.inr (some 4))), (.inr (.inr (some 295)))]) (S0 := []) (m := 3) (L0 := [some (.inr (.inr (some 4))), some (.inr (.inr (some 295))), none]) rfl rfl rfl rfl rfl rfl rfl rfl (zrc_s rfl) (by omega) (by omega) (z_Lw_compile_ok N (by omega) (by omega) A) (fun v14 A15 _ hv14 => ?_)
      refine js_istore (pc1 := 152) (L1 := [some (.inr (.inr (some 0))), some (.inr (.inr (some 4))), some (.inr (.inr (some 226))), some (.inr (.inr (some 295))), some (.inl x4), some (.inl v14), none]) rfl rfl rfl rfl ?_
      refine js_aload (pc1 := 153) rfl rfl rfl ?_
      refine js_cI (pc1 := 156) (as := [(.inr (.inr (some 226)))]) (S0 := []) (m := 3) (L0 := [some (.inr (.inr (some 226))), none, none]) rfl rfl rfl rfl rfl rfl rfl rfl (zrc_o rfl rfl) (by omega) (by omega) (z_M_compile_ok N (by omega) (by omega) A15) (fun v16 A17 _ hv16 => ?_)
      refine js_istore (pc1 := 158) (L1 := [some (.inr (.inr (some 0))), some (.inr (.inr (some 4))), some (.inr (.inr (some 226))), some (.inr (.inr (some 295))), some (.inl x4), some (.inl v14), some (.inl v16)]) rfl rfl rfl rfl ?_
      refine js_aload (pc1 := 159) rfl rfl rfl ?_
      refine js_cP (pc1 := 162) (as := [(.inr (.inr (some 226)))]) (S0 := []) (m := 1) (L0 := [some (.inr (.inr (some 226)))]) rfl rfl rfl rfl rfl rfl rfl rfl (zrc_o rfl rfl) (by omega) (by omega) (z_M_thrown_ok N (by omega) (by omega) A17) (fun v18 _ hv18 => ?_)
      refine js_iload (pc1 := 164) rfl rfl rfl ?_
      refine jt_eq (pc1 := 167) (t1 := 169) hv18 hv14 rfl rfl rfl (fun c19 => ?_) (fun c19 => ?_)
      · refine js_iload (pc1 := 171) rfl rfl rfl ?_
        refine ju_ne (pc1 := 174) (t1 := 186) hv14 rfl rfl rfl (fun c20 => ?_) (fun c20 => ?_)
        · refine js_aload (pc1 := 175) rfl rfl rfl ?_
          refine js_iconst (pc1 := 176) rfl rfl ?_
          refine jt_lald (pc1 := 177) rfl rfl rfl (fun v21 => ?_)
          refine js_iload (pc1 := 179) rfl rfl rfl ?_
          refine js_i2l (pc1 := 180) rfl rfl ?_
          refine js_lcmp (pc1 := 181) rfl rfl ?_
          refine ju_eq (pc1 := 184) (t1 := 186) (zt_rg _) rfl rfl rfl (fun c22 => ?_) (fun c22 => ?_)
          · refine js_goto (t1 := 788) rfl rfl ?_
            refine js_iinc (pc1 := 791) (L1 := [some (.inr (.inr (some 0))), some (.inr (.inr (some 4))), some (.inr (.inr (some 226))), some (.inr (.inr (some 295))), some (.inl (x4 + 5)), some (.inl v14), some (.inl v16)]) rfl rfl rfl rfl ?_
            refine js_goto (t1 := 23) rfl rfl ?_
            exact zG_to (L := [some (.inr (.inr (some 0))), some (.inr (.inr (some 4))), some (.inr (.inr (some 226))), some (.inr (.inr (some 295))), some (.inl (zw (x4 + 5))), none, none]) (S := []) ⟨rfl, ⟨rfl, ⟨rfl, ⟨rfl, ⟨zval_w (x4 + 5), trivial⟩⟩⟩⟩⟩ (rfl) (hr23 (zw (x4 + 5)) (zw_rg (x4 + 5)) A17)
          · refine js_iconst (pc1 := 185) rfl rfl ?_
            exact je_I rfl (zfit3 rfl (Or.inl rfl)) rfl (zlit rfl)
        · refine js_goto (t1 := 788) rfl rfl ?_
          refine js_iinc (pc1 := 791) (L1 := [some (.inr (.inr (some 0))), some (.inr (.inr (some 4))), some (.inr (.inr (some 226))), some (.inr (.inr (some 295))), some (.inl (x4 + 5)), some (.inl v14), some (.inl v16)]) rfl rfl rfl rfl ?_
          refine js_goto (t1 := 23) rfl rfl ?_
          exact zG_to (L := [some (.inr (.inr (some 0))), some (.inr (.inr (some 4))), some (.inr (.inr (some 226))), some (.inr (.inr (some 295))), some (.inl (zw (x4 + 5))), none, none]) (S := []) ⟨rfl, ⟨rfl, ⟨rfl, ⟨rfl, ⟨zval_w (x4 + 5), trivial⟩⟩⟩⟩⟩ (rfl) (hr23 (zw (x4 + 5)) (zw_rg (x4 + 5)) A17)
      · refine js_iconst (pc1 := 168) rfl rfl ?_
        exact je_I rfl (zfit3 rfl (Or.inl rfl)) rfl (zlit rfl)
    refine zG_ite (fun c35 => ?_) (fun c35 => ?_)
    · refine js_tsw (t1 := 189) rfl c35 (zlit rfl) (by decide) ?_
      refine js_aload (pc1 := 190) rfl rfl rfl ?_
      refine js_aload (pc1 := 191) rfl rfl rfl ?_
      refine js_iload (pc1 := 193) rfl rfl rfl ?_
      refine js_iconst (pc1 := 194) rfl rfl ?_
      refine js_iadd (pc1 := 195) rfl rfl ?_
      refine jt_aldD (pc1 := 196) rfl rfl (fun v24 hv24 => ?_)
      refine js_aload (pc1 := 197) rfl rfl rfl ?_
      refine js_cI (pc1 := 200) (as := [(.inr (.inr (some 4))), (.inl v24), (.inr (.inr (some 295)))]) (S0 := []) (m := 4) (L0 := [some (.inr (.inr (some 4))), some (.inl v24), some (.inr (.inr (some 295))), none]) rfl rfl rfl rfl rfl rfl rfl rfl (zrc_s rfl) (by omega) (by omega) (z_Lw_pass_ok N (by omega) (by omega) v24 hv24 A) (fun v25 A26 _ hv25 => ?_)
      refine js_istore (pc1 := 202) (L1 := [some (.inr (.inr (some 0))), some (.inr (.inr (some 4))), some (.inr (.inr (some 226))), some (.inr (.inr (some 295))), some (.inl x4), some (.inl v25), none]) rfl rfl rfl rfl ?_
      refine js_aload (pc1 := 203) rfl rfl rfl ?_
      refine js_aload (pc1 := 204) rfl rfl rfl ?_
      refine js_iload (pc1 := 206) rfl rfl rfl ?_
      refine js_iconst (pc1 := 207) rfl rfl ?_
      refine js_iadd (pc1 := 208) rfl rfl ?_
      refine jt_aldD (pc1 := 209) rfl rfl (fun v27 hv27 => ?_)
      refine js_cI (pc1 := 212) (as := [(.inr (.inr (some 226))), (.inl v27)]) (S0 := []) (m := 3) (L0 := [some (.inr (.inr (some 226))), some (.inl v27), none]) rfl rfl rfl rfl rfl rfl rfl rfl (zrc_o rfl rfl) (by omega) (by omega) (z_M_pass_ok N (by omega) (by omega) v27 hv27 A26) (fun v28 A29 _ hv28 => ?_)
      refine js_istore (pc1 := 214) (L1 := [some (.inr (.inr (some 0))), some (.inr (.inr (some 4))), some (.inr (.inr (some 226))), some (.inr (.inr (some 295))), some (.inl x4), some (.inl v25), some (.inl v28)]) rfl rfl rfl rfl ?_
      refine js_aload (pc1 := 215) rfl rfl rfl ?_
      refine js_cP (pc1 := 218) (as := [(.inr (.inr (some 226)))]) (S0 := []) (m := 1) (L0 := [some (.inr (.inr (some 226)))]) rfl rfl rfl rfl rfl rfl rfl rfl (zrc_o rfl rfl) (by omega) (by omega) (z_M_thrown_ok N (by omega) (by omega) A29) (fun v30 _ hv30 => ?_)
      refine js_iload (pc1 := 220) rfl rfl rfl ?_
      refine jt_eq (pc1 := 223) (t1 := 225) hv30 hv25 rfl rfl rfl (fun c31 => ?_) (fun c31 => ?_)
      · refine js_iload (pc1 := 227) rfl rfl rfl ?_
        refine ju_ne (pc1 := 230) (t1 := 242) hv25 rfl rfl rfl (fun c32 => ?_) (fun c32 => ?_)
        · refine js_aload (pc1 := 231) rfl rfl rfl ?_
          refine js_iconst (pc1 := 232) rfl rfl ?_
          refine jt_lald (pc1 := 233) rfl rfl rfl (fun v33 => ?_)
          refine js_iload (pc1 := 235) rfl rfl rfl ?_
          refine js_i2l (pc1 := 236) rfl rfl ?_
          refine js_lcmp (pc1 := 237) rfl rfl ?_
          refine ju_eq (pc1 := 240) (t1 := 242) (zt_rg _) rfl rfl rfl (fun c34 => ?_) (fun c34 => ?_)
          · refine js_goto (t1 := 788) rfl rfl ?_
            refine js_iinc (pc1 := 791) (L1 := [some (.inr (.inr (some 0))), some (.inr (.inr (some 4))), some (.inr (.inr (some 226))), some (.inr (.inr (some 295))), some (.inl (x4 + 5)), some (.inl v25), some (.inl v28)]) rfl rfl rfl rfl ?_
            refine js_goto (t1 := 23) rfl rfl ?_
            exact zG_to (L := [some (.inr (.inr (some 0))), some (.inr (.inr (some 4))), some (.inr (.inr (some 226))), some (.inr (.inr (some 295))), some (.inl (zw (x4 + 5))), none, none]) (S := []) ⟨rfl, ⟨rfl, ⟨rfl, ⟨rfl, ⟨zval_w (x4 + 5), trivial⟩⟩⟩⟩⟩ (rfl) (hr23 (zw (x4 + 5)) (zw_rg (x4 + 5)) A29)
          · refine js_iconst (pc1 := 241) rfl rfl ?_
            exact je_I rfl (zfit3 rfl (Or.inl rfl)) rfl (zlit rfl)
        · refine js_goto (t1 := 788) rfl rfl ?_
          refine js_iinc (pc1 := 791) (L1 := [some (.inr (.inr (some 0))), some (.inr (.inr (some 4))), some (.inr (.inr (some 226))), some (.inr (.inr (some 295))), some (.inl (x4 + 5)), some (.inl v25), some (.inl v28)]) rfl rfl rfl rfl ?_
          refine js_goto (t1 := 23) rfl rfl ?_
          exact zG_to (L := [some (.inr (.inr (some 0))), some (.inr (.inr (some 4))), some (.inr (.inr (some 226))), some (.inr (.inr (some 295))), some (.inl (zw (x4 + 5))), none, none]) (S := []) ⟨rfl, ⟨rfl, ⟨rfl, ⟨rfl, ⟨zval_w (x4 + 5), trivial⟩⟩⟩⟩⟩ (rfl) (hr23 (zw (x4 + 5)) (zw_rg (x4 + 5)) A29)
      · refine js_iconst (pc1 := 224) rfl rfl ?_
        exact je_I rfl (zfit3 rfl (Or.inl rfl)) rfl (zlit rfl)
    refine zG_ite (fun c55 => ?_) (fun c55 => ?_)
    · refine js_tsw (t1 := 245) rfl c55 (zlit rfl) (by decide) ?_
      refine js_aload (pc1 := 246) rfl rfl rfl ?_
      refine js_aload (pc1 := 247) rfl rfl rfl ?_
      refine js_iload (pc1 := 249) rfl rfl rfl ?_
      refine js_iconst (pc1 := 250) rfl rfl ?_
      refine js_iadd (pc1 := 251) rfl rfl ?_
      refine jt_aldD (pc1 := 252) rfl rfl (fun v36 hv36 => ?_)
      refine js_aload (pc1 := 253) rfl rfl rfl ?_
      refine js_iload (pc1 := 255) rfl rfl rfl ?_
      refine js_iconst (pc1 := 256) rfl rfl ?_
      refine js_iadd (pc1 := 257) rfl rfl ?_
      refine jt_aldD (pc1 := 258) rfl rfl (fun v37 hv37 => ?_)
      refine js_aload (pc1 := 259) rfl rfl rfl ?_
      refine js_iload (pc1 := 261) rfl rfl rfl ?_
      refine js_iconst (pc1 := 262) rfl rfl ?_
      refine js_iadd (pc1 := 263) rfl rfl ?_
      refine jt_aldD (pc1 := 264) rfl rfl (fun v38 hv38 => ?_)
      refine js_aload (pc1 := 265) rfl rfl rfl ?_
      refine js_iload (pc1 := 267) rfl rfl rfl ?_
      refine js_iconst (pc1 := 268) rfl rfl ?_
      refine js_iadd (pc1 := 269) rfl rfl ?_
      refine jt_aldD (pc1 := 270) rfl rfl (fun v39 hv39 => ?_)
      refine js_aload (pc1 := 271) rfl rfl rfl ?_
      refine js_cI (pc1 := 274) (as := [(.inr (.inr (some 4))), (.inl v36), (.inl v37), (.inl v38), (.inl v39), (.inr (.inr (some 295)))]) (S0 := []) (m := 7) (L0 := [some (.inr (.inr (some 4))), some (.inl v36), some (.inl v37), some (.inl v38), some (.inl v39), some (.inr (.inr (some 295))), none]) rfl rfl rfl rfl rfl rfl rfl rfl (zrc_s rfl) (by omega) (by omega) (z_Lw_touch_ok N (by omega) (by omega) v36 hv36 v37 hv37 v38 hv38 v39 hv39 A) (fun v40 A41 _ hv40 => ?_)
      refine js_istore (pc1 := 276) (L1 := [some (.inr (.inr (some 0))), some (.inr (.inr (some 4))), some (.inr (.inr (some 226))), some (.inr (.inr (some 295))), some (.inl x4), some (.inl v40), none]) rfl rfl rfl rfl ?_
      refine js_aload (pc1 := 277) rfl rfl rfl ?_
      refine js_aload (pc1 := 278) rfl rfl rfl ?_
      refine js_iload (pc1 := 280) rfl rfl rfl ?_
      refine js_iconst (pc1 := 281) rfl rfl ?_
      refine js_iadd (pc1 := 282) rfl rfl ?_
      refine jt_aldD (pc1 := 283) rfl rfl (fun v42 hv42 => ?_)
      refine js_aload (pc1 := 284) rfl rfl rfl ?_
      refine js_iload (pc1 := 286) rfl rfl rfl ?_
      refine js_iconst (pc1 := 287) rfl rfl ?_
      refine js_iadd (pc1 := 288) rfl rfl ?_
      refine jt_aldD (pc1 := 289) rfl rfl (fun v43 hv43 => ?_)
      refine js_aload (pc1 := 290) rfl rfl rfl ?_
      refine js_iload (pc1 := 292) rfl rfl rfl ?_
      refine js_iconst (pc1 := 293) rfl rfl ?_
      refine js_iadd (pc1 := 294) rfl rfl ?_
      refine jt_aldD (pc1 := 295) rfl rfl (fun v44 hv44 => ?_)
      refine js_aload (pc1 := 296) rfl rfl rfl ?_
      refine js_iload (pc1 := 298) rfl rfl rfl ?_
      refine js_iconst (pc1 := 299) rfl rfl ?_
      refine js_iadd (pc1 := 300) rfl rfl ?_
      refine jt_aldD (pc1 := 301) rfl rfl (fun v45 hv45 => ?_)
      refine js_cI (pc1 := 304) (as := [(.inr (.inr (some 226))), (.inl v42), (.inl v43), (.inl v44), (.inl v45)]) (S0 := []) (m := 9) (L0 := [some (.inr (.inr (some 226))), some (.inl v42), some (.inl v43), some (.inl v44), some (.inl v45), none, none, none, none]) rfl rfl rfl rfl rfl rfl rfl rfl (zrc_o rfl rfl) (by omega) (by omega) (z_M_touch_ok N (by omega) (by omega) v42 hv42 v43 hv43 v44 hv44 v45 hv45 A41) (fun v46 A47 _ hv46 => ?_)
      refine js_istore (pc1 := 306) (L1 := [some (.inr (.inr (some 0))), some (.inr (.inr (some 4))), some (.inr (.inr (some 226))), some (.inr (.inr (some 295))), some (.inl x4), some (.inl v40), some (.inl v46)]) rfl rfl rfl rfl ?_
      refine js_aload (pc1 := 307) rfl rfl rfl ?_
      refine js_cP (pc1 := 310) (as := [(.inr (.inr (some 226)))]) (S0 := []) (m := 1) (L0 := [some (.inr (.inr (some 226)))]) rfl rfl rfl rfl rfl rfl rfl rfl (zrc_o rfl rfl) (by omega) (by omega) (z_M_thrown_ok N (by omega) (by omega) A47) (fun v48 _ hv48 => ?_)
      refine js_iload (pc1 := 312) rfl rfl rfl ?_
      refine jt_eq (pc1 := 315) (t1 := 317) hv48 hv40 rfl rfl rfl (fun c49 => ?_) (fun c49 => ?_)
      · refine js_iload (pc1 := 319) rfl rfl rfl ?_
        refine ju_ne (pc1 := 322) (t1 := 341) hv40 rfl rfl rfl (fun c50 => ?_) (fun c50 => ?_)
        · refine js_aload (pc1 := 323) rfl rfl rfl ?_
          refine js_iconst (pc1 := 324) rfl rfl ?_
          refine jt_lald (pc1 := 325) rfl rfl rfl (fun v51 => ?_)
          refine js_iload (pc1 := 327) rfl rfl rfl ?_
          refine ju_eq (pc1 := 330) (t1 := 334) hv46 rfl rfl rfl (fun c52 => ?_) (fun c52 => ?_)
          · refine js_ldc2 (pc1 := 335) rfl rfl ?_
            refine js_lcmp (pc1 := 336) rfl rfl ?_
            refine ju_eq (pc1 := 339) (t1 := 341) (zt_rg _) rfl rfl rfl (fun c53 => ?_) (fun c53 => ?_)
            · refine js_goto (t1 := 788) rfl rfl ?_
              refine js_iinc (pc1 := 791) (L1 := [some (.inr (.inr (some 0))), some (.inr (.inr (some 4))), some (.inr (.inr (some 226))), some (.inr (.inr (some 295))), some (.inl (x4 + 5)), some (.inl v40), some (.inl v46)]) rfl rfl rfl rfl ?_
              refine js_goto (t1 := 23) rfl rfl ?_
              exact zG_to (L := [some (.inr (.inr (some 0))), some (.inr (.inr (some 4))), some (.inr (.inr (some 226))), some (.inr (.inr (some 295))), some (.inl (zw (x4 + 5))), none, none]) (S := []) ⟨rfl, ⟨rfl, ⟨rfl, ⟨rfl, ⟨zval_w (x4 + 5), trivial⟩⟩⟩⟩⟩ (rfl) (hr23 (zw (x4 + 5)) (zw_rg (x4 + 5)) A47)
            · refine js_iconst (pc1 := 340) rfl rfl ?_
              exact je_I rfl (zfit3 rfl (Or.inl rfl)) rfl (zlit rfl)
          · refine js_ldc2 (pc1 := 331) rfl rfl ?_
            refine js_goto (t1 := 335) rfl rfl ?_
            refine js_lcmp (pc1 := 336) rfl rfl ?_
            refine ju_eq (pc1 := 339) (t1 := 341) (zt_rg _) rfl rfl rfl (fun c54 => ?_) (fun c54 => ?_)
            · refine js_goto (t1 := 788) rfl rfl ?_
              refine js_iinc (pc1 := 791) (L1 := [some (.inr (.inr (some 0))), some (.inr (.inr (some 4))), some (.inr (.inr (some 226))), some (.inr (.inr (some 295))), some (.inl (x4 + 5)), some (.inl v40), some (.inl v46)]) rfl rfl rfl rfl ?_
              refine js_goto (t1 := 23) rfl rfl ?_
              exact zG_to (L := [some (.inr (.inr (some 0))), some (.inr (.inr (some 4))), some (.inr (.inr (some 226))), some (.inr (.inr (some 295))), some (.inl (zw (x4 + 5))), none, none]) (S := []) ⟨rfl, ⟨rfl, ⟨rfl, ⟨rfl, ⟨zval_w (x4 + 5), trivial⟩⟩⟩⟩⟩ (rfl) (hr23 (zw (x4 + 5)) (zw_rg (x4 + 5)) A47)
            · refine js_iconst (pc1 := 340) rfl rfl ?_
              exact je_I rfl (zfit3 rfl (Or.inl rfl)) rfl (zlit rfl)
        · refine js_goto (t1 := 788) rfl rfl ?_
          refine js_iinc (pc1 := 791) (L1 := [some (.inr (.inr (some 0))), some (.inr (.inr (some 4))), some (.inr (.inr (some 226))), some (.inr (.inr (some 295))), some (.inl (x4 + 5)), some (.inl v40), some (.inl v46)]) rfl rfl rfl rfl ?_
          refine js_goto (t1 := 23) rfl rfl ?_
          exact zG_to (L := [some (.inr (.inr (some 0))), some (.inr (.inr (some 4))), some (.inr (.inr (some 226))), some (.inr (.inr (some 295))), some (.inl (zw (x4 + 5))), none, none]) (S := []) ⟨rfl, ⟨rfl, ⟨rfl, ⟨rfl, ⟨zval_w (x4 + 5), trivial⟩⟩⟩⟩⟩ (rfl) (hr23 (zw (x4 + 5)) (zw_rg (x4 + 5)) A47)
      · refine js_iconst (pc1 := 316) rfl rfl ?_
        exact je_I rfl (zfit3 rfl (Or.inl rfl)) rfl (zlit rfl)
    refine zG_ite (fun c71 => ?_) (fun c71 => ?_)
    · refine js_tsw (t1 := 344) rfl c71 (zlit rfl) (by decide) ?_
      refine js_aload (pc1 := 345) rfl rfl rfl ?_
      refine js_aload (pc1 := 346) rfl rfl rfl ?_
      refine js_iload (pc1 := 348) rfl rfl rfl ?_
      refine js_iconst (pc1 := 349) rfl rfl ?_
      refine js_iadd (pc1 := 350) rfl rfl ?_
      refine jt_aldD (pc1 := 351) rfl rfl (fun v56 hv56 => ?_)
      refine js_aload (pc1 := 352) rfl rfl rfl ?_
      refine js_iload (pc1 := 354) rfl rfl rfl ?_
      refine js_iconst (pc1 := 355) rfl rfl ?_
      refine js_iadd (pc1 := 356) rfl rfl ?_
      refine jt_aldD (pc1 := 357) rfl rfl (fun v57 hv57 => ?_)
      refine js_aload (pc1 := 358) rfl rfl rfl ?_
      refine js_cI (pc1 := 361) (as := [(.inr (.inr (some 4))), (.inl v56), (.inl v57), (.inr (.inr (some 295)))]) (S0 := []) (m := 5) (L0 := [some (.inr (.inr (some 4))), some (.inl v56), some (.inl v57), some (.inr (.inr (some 295))), none]) rfl rfl rfl rfl rfl rfl rfl rfl (zrc_s rfl) (by omega) (by omega) (z_Lw_swap_ok N (by omega) (by omega) v56 hv56 v57 hv57 A) (fun v58 A59 _ hv58 => ?_)
      refine js_istore (pc1 := 363) (L1 := [some (.inr (.inr (some 0))), some (.inr (.inr (some 4))), some (.inr (.inr (some 226))), some (.inr (.inr (some 295))), some (.inl x4), some (.inl v58), none]) rfl rfl rfl rfl ?_
      refine js_aload (pc1 := 364) rfl rfl rfl ?_
      refine js_aload (pc1 := 365) rfl rfl rfl ?_
      refine js_iload (pc1 := 367) rfl rfl rfl ?_
      refine js_iconst (pc1 := 368) rfl rfl ?_
      refine js_iadd (pc1 := 369) rfl rfl ?_
      refine jt_aldD (pc1 := 370) rfl rfl (fun v60 hv60 => ?_)
      refine js_aload (pc1 := 371) rfl rfl rfl ?_
      refine js_iload (pc1 := 373) rfl rfl rfl ?_
      refine js_iconst (pc1 := 374) rfl rfl ?_
      refine js_iadd (pc1 := 375) rfl rfl ?_
      refine jt_aldD (pc1 := 376) rfl rfl (fun v61 hv61 => ?_)
      refine js_cI (pc1 := 379) (as := [(.inr (.inr (some 226))), (.inl v60), (.inl v61)]) (S0 := []) (m := 4) (L0 := [some (.inr (.inr (some 226))), some (.inl v60), some (.inl v61), none]) rfl rfl rfl rfl rfl rfl rfl rfl (zrc_o rfl rfl) (by omega) (by omega) (z_M_swap_ok N (by omega) (by omega) v60 hv60 v61 hv61 A59) (fun v62 A63 _ hv62 => ?_)
      refine js_istore (pc1 := 381) (L1 := [some (.inr (.inr (some 0))), some (.inr (.inr (some 4))), some (.inr (.inr (some 226))), some (.inr (.inr (some 295))), some (.inl x4), some (.inl v58), some (.inl v62)]) rfl rfl rfl rfl ?_
      refine js_aload (pc1 := 382) rfl rfl rfl ?_
      refine js_cP (pc1 := 385) (as := [(.inr (.inr (some 226)))]) (S0 := []) (m := 1) (L0 := [some (.inr (.inr (some 226)))]) rfl rfl rfl rfl rfl rfl rfl rfl (zrc_o rfl rfl) (by omega) (by omega) (z_M_thrown_ok N (by omega) (by omega) A63) (fun v64 _ hv64 => ?_)
      refine js_iload (pc1 := 387) rfl rfl rfl ?_
      refine jt_eq (pc1 := 390) (t1 := 392) hv64 hv58 rfl rfl rfl (fun c65 => ?_) (fun c65 => ?_)
      · refine js_iload (pc1 := 394) rfl rfl rfl ?_
        refine ju_ne (pc1 := 397) (t1 := 416) hv58 rfl rfl rfl (fun c66 => ?_) (fun c66 => ?_)
        · refine js_aload (pc1 := 398) rfl rfl rfl ?_
          refine js_iconst (pc1 := 399) rfl rfl ?_
          refine jt_lald (pc1 := 400) rfl rfl rfl (fun v67 => ?_)
          refine js_iload (pc1 := 402) rfl rfl rfl ?_
          refine ju_eq (pc1 := 405) (t1 := 409) hv62 rfl rfl rfl (fun c68 => ?_) (fun c68 => ?_)
          · refine js_ldc2 (pc1 := 410) rfl rfl ?_
            refine js_lcmp (pc1 := 411) rfl rfl ?_
            refine ju_eq (pc1 := 414) (t1 := 416) (zt_rg _) rfl rfl rfl (fun c69 => ?_) (fun c69 => ?_)
            · refine js_goto (t1 := 788) rfl rfl ?_
              refine js_iinc (pc1 := 791) (L1 := [some (.inr (.inr (some 0))), some (.inr (.inr (some 4))), some (.inr (.inr (some 226))), some (.inr (.inr (some 295))), some (.inl (x4 + 5)), some (.inl v58), some (.inl v62)]) rfl rfl rfl rfl ?_
              refine js_goto (t1 := 23) rfl rfl ?_
              exact zG_to (L := [some (.inr (.inr (some 0))), some (.inr (.inr (some 4))), some (.inr (.inr (some 226))), some (.inr (.inr (some 295))), some (.inl (zw (x4 + 5))), none, none]) (S := []) ⟨rfl, ⟨rfl, ⟨rfl, ⟨rfl, ⟨zval_w (x4 + 5), trivial⟩⟩⟩⟩⟩ (rfl) (hr23 (zw (x4 + 5)) (zw_rg (x4 + 5)) A63)
            · refine js_iconst (pc1 := 415) rfl rfl ?_
              exact je_I rfl (zfit3 rfl (Or.inl rfl)) rfl (zlit rfl)
          · refine js_ldc2 (pc1 := 406) rfl rfl ?_
            refine js_goto (t1 := 410) rfl rfl ?_
            refine js_lcmp (pc1 := 411) rfl rfl ?_
            refine ju_eq (pc1 := 414) (t1 := 416) (zt_rg _) rfl rfl rfl (fun c70 => ?_) (fun c70 => ?_)
            · refine js_goto (t1 := 788) rfl rfl ?_
              refine js_iinc (pc1 := 791) (L1 := [some (.inr (.inr (some 0))), some (.inr (.inr (some 4))), some (.inr (.inr (some 226))), some (.inr (.inr (some 295))), some (.inl (x4 + 5)), some (.inl v58), some (.inl v62)]) rfl rfl rfl rfl ?_
              refine js_goto (t1 := 23) rfl rfl ?_
              exact zG_to (L := [some (.inr (.inr (some 0))), some (.inr (.inr (some 4))), some (.inr (.inr (some 226))), some (.inr (.inr (some 295))), some (.inl (zw (x4 + 5))), none, none]) (S := []) ⟨rfl, ⟨rfl, ⟨rfl, ⟨rfl, ⟨zval_w (x4 + 5), trivial⟩⟩⟩⟩⟩ (rfl) (hr23 (zw (x4 + 5)) (zw_rg (x4 + 5)) A63)
            · refine js_iconst (pc1 := 415) rfl rfl ?_
              exact je_I rfl (zfit3 rfl (Or.inl rfl)) rfl (zlit rfl)
        · refine js_goto (t1 := 788) rfl rfl ?_
          refine js_iinc (pc1 := 791) (L1 := [some (.inr (.inr (some 0))), some (.inr (.inr (some 4))), some (.inr (.inr (some 226))), some (.inr (.inr (some 295))), some (.inl (x4 + 5)), some (.inl v58), some (.inl v62)]) rfl rfl rfl rfl ?_
          refine js_goto (t1 := 23) rfl rfl ?_
          exact zG_to (L := [some (.inr (.inr (some 0))), some (.inr (.inr (some 4))), some (.inr (.inr (some 226))), some (.inr (.inr (some 295))), some (.inl (zw (x4 + 5))), none, none]) (S := []) ⟨rfl, ⟨rfl, ⟨rfl, ⟨rfl, ⟨zval_w (x4 + 5), trivial⟩⟩⟩⟩⟩ (rfl) (hr23 (zw (x4 + 5)) (zw_rg (x4 + 5)) A63)
      · refine js_iconst (pc1 := 391) rfl rfl ?_
        exact je_I rfl (zfit3 rfl (Or.inl rfl)) rfl (zlit rfl)
    refine zG_ite (fun c74 => ?_) (fun c74 => ?_)
    · refine js_tsw (t1 := 419) rfl c74 (zlit rfl) (by decide) ?_
      refine js_aload (pc1 := 420) rfl rfl rfl ?_
      refine js_cV (pc1 := 423) (as := [(.inr (.inr (some 4)))]) (S0 := []) (m := 1) (L0 := [some (.inr (.inr (some 4)))]) rfl rfl rfl rfl rfl rfl rfl rfl (zrc_o rfl rfl) (by omega) (by omega) (z_PC_restore_ok N (by omega) (by omega) A) (fun A72 _ => ?_)
      refine js_aload (pc1 := 424) rfl rfl rfl ?_
      refine js_cV (pc1 := 427) (as := [(.inr (.inr (some 226)))]) (S0 := []) (m := 1) (L0 := [some (.inr (.inr (some 226)))]) rfl rfl rfl rfl rfl rfl rfl rfl (zrc_o rfl rfl) (by omega) (by omega) (z_M_restore_ok N (by omega) (by omega) A72) (fun A73 _ => ?_)
      refine js_goto (t1 := 788) rfl rfl ?_
      refine js_iinc (pc1 := 791) (L1 := [some (.inr (.inr (some 0))), some (.inr (.inr (some 4))), some (.inr (.inr (some 226))), some (.inr (.inr (some 295))), some (.inl (x4 + 5)), none, none]) rfl rfl rfl rfl ?_
      refine js_goto (t1 := 23) rfl rfl ?_
      exact zG_to (L := [some (.inr (.inr (some 0))), some (.inr (.inr (some 4))), some (.inr (.inr (some 226))), some (.inr (.inr (some 295))), some (.inl (zw (x4 + 5))), none, none]) (S := []) ⟨rfl, ⟨rfl, ⟨rfl, ⟨rfl, ⟨zval_w (x4 + 5), trivial⟩⟩⟩⟩⟩ (rfl) (hr23 (zw (x4 + 5)) (zw_rg (x4 + 5)) A73)
    refine zG_ite (fun c83 => ?_) (fun c83 => ?_)
    · refine js_tsw (t1 := 430) rfl c83 (zlit rfl) (by decide) ?_
      refine js_aload (pc1 := 431) rfl rfl rfl ?_
      refine js_aload (pc1 := 432) rfl rfl rfl ?_
      refine js_iload (pc1 := 434) rfl rfl rfl ?_
      refine js_iconst (pc1 := 435) rfl rfl ?_
      refine js_iadd (pc1 := 436) rfl rfl ?_
      refine jt_aldD (pc1 := 437) rfl rfl (fun v75 hv75 => ?_)
      refine js_aload (pc1 := 438) rfl rfl rfl ?_
      refine js_iload (pc1 := 440) rfl rfl rfl ?_
      refine js_iconst (pc1 := 441) rfl rfl ?_
      refine js_iadd (pc1 := 442) rfl rfl ?_
      refine jt_aldD (pc1 := 443) rfl rfl (fun v76 hv76 => ?_)
      refine js_cP (pc1 := 446) (as := [(.inr (.inr (some 4))), (.inl v75), (.inl v76)]) (S0 := []) (m := 3) (L0 := [some (.inr (.inr (some 4))), some (.inl v75), some (.inl v76)]) rfl rfl rfl rfl rfl rfl rfl rfl (zrc_o rfl rfl) (by omega) (by omega) (z_PC_size_ok N (by omega) (by omega) v75 hv75 v76 hv76 A) (fun v77 _ hv77 => ?_)
      refine js_aload (pc1 := 447) rfl rfl rfl ?_
      refine js_aload (pc1 := 448) rfl rfl rfl ?_
      refine js_iload (pc1 := 450) rfl rfl rfl ?_
      refine js_iconst (pc1 := 451) rfl rfl ?_
      refine js_iadd (pc1 := 452) rfl rfl ?_
      refine jt_aldD (pc1 := 453) rfl rfl (fun v78 hv78 => ?_)
      refine js_aload (pc1 := 454) rfl rfl rfl ?_
      refine js_iload (pc1 := 456) rfl rfl rfl ?_
      refine js_iconst (pc1 := 457) rfl rfl ?_
      refine js_iadd (pc1 := 458) rfl rfl ?_
      refine jt_aldD (pc1 := 459) rfl rfl (fun v79 hv79 => ?_)
      refine js_cI (pc1 := 462) (as := [(.inr (.inr (some 226))), (.inl v78), (.inl v79)]) (S0 := [(.inl v77)]) (m := 3) (L0 := [some (.inr (.inr (some 226))), some (.inl v78), some (.inl v79)]) rfl rfl rfl rfl rfl rfl rfl rfl (zrc_o rfl rfl) (by omega) (by omega) (z_M_size_ok N (by omega) (by omega) v78 hv78 v79 hv79 A) (fun v80 A81 _ hv80 => ?_)
      refine jt_eq (pc1 := 465) (t1 := 788) hv77 hv80 rfl rfl rfl (fun c82 => ?_) (fun c82 => ?_)
      · refine js_iinc (pc1 := 791) (L1 := [some (.inr (.inr (some 0))), some (.inr (.inr (some 4))), some (.inr (.inr (some 226))), some (.inr (.inr (some 295))), some (.inl (x4 + 5)), none, none]) rfl rfl rfl rfl ?_
        refine js_goto (t1 := 23) rfl rfl ?_
        exact zG_to (L := [some (.inr (.inr (some 0))), some (.inr (.inr (some 4))), some (.inr (.inr (some 226))), some (.inr (.inr (some 295))), some (.inl (zw (x4 + 5))), none, none]) (S := []) ⟨rfl, ⟨rfl, ⟨rfl, ⟨rfl, ⟨zval_w (x4 + 5), trivial⟩⟩⟩⟩⟩ (rfl) (hr23 (zw (x4 + 5)) (zw_rg (x4 + 5)) A81)
      · refine js_iconst (pc1 := 466) rfl rfl ?_
        exact je_I rfl (zfit3 rfl (Or.inl rfl)) rfl (zlit rfl)
    refine zG_ite (fun c99 => ?_) (fun c99 => ?_)
    · refine js_tsw (t1 := 467) rfl c99 (zlit rfl) (by decide) ?_
      refine js_aload (pc1 := 468) rfl rfl rfl ?_
      refine js_aload (pc1 := 469) rfl rfl rfl ?_
      refine js_iload (pc1 := 471) rfl rfl rfl ?_
      refine js_iconst (pc1 := 472) rfl rfl ?_
      refine js_iadd (pc1 := 473) rfl rfl ?_
      refine jt_aldD (pc1 := 474) rfl rfl (fun v84 hv84 => ?_)
      refine js_aload (pc1 := 475) rfl rfl rfl ?_
      refine js_iload (pc1 := 477) rfl rfl rfl ?_
      refine js_iconst (pc1 := 478) rfl rfl ?_
      refine js_iadd (pc1 := 479) rfl rfl ?_
      refine jt_aldD (pc1 := 480) rfl rfl (fun v85 hv85 => ?_)
      refine js_aload (pc1 := 481) rfl rfl rfl ?_
      refine js_iload (pc1 := 483) rfl rfl rfl ?_
      refine js_iconst (pc1 := 484) rfl rfl ?_
      refine js_iadd (pc1 := 485) rfl rfl ?_
      refine jt_aldD (pc1 := 486) rfl rfl (fun v86 hv86 => ?_)
      refine js_aload (pc1 := 487) rfl rfl rfl ?_
      refine js_cI (pc1 := 490) (as := [(.inr (.inr (some 4))), (.inl v84), (.inl v85), (.inl v86), (.inr (.inr (some 295)))]) (S0 := []) (m := 6) (L0 := [some (.inr (.inr (some 4))), some (.inl v84), some (.inl v85), some (.inl v86), some (.inr (.inr (some 295))), none]) rfl rfl rfl rfl rfl rfl rfl rfl (zrc_s rfl) (by omega) (by omega) (z_Lw_item_ok N (by omega) (by omega) v84 hv84 v85 hv85 v86 hv86 A) (fun v87 A88 _ hv87 => ?_)
      refine js_istore (pc1 := 492) (L1 := [some (.inr (.inr (some 0))), some (.inr (.inr (some 4))), some (.inr (.inr (some 226))), some (.inr (.inr (some 295))), some (.inl x4), some (.inl v87), none]) rfl rfl rfl rfl ?_
      refine js_aload (pc1 := 493) rfl rfl rfl ?_
      refine js_aload (pc1 := 494) rfl rfl rfl ?_
      refine js_iload (pc1 := 496) rfl rfl rfl ?_
      refine js_iconst (pc1 := 497) rfl rfl ?_
      refine js_iadd (pc1 := 498) rfl rfl ?_
      refine jt_aldD (pc1 := 499) rfl rfl (fun v89 hv89 => ?_)
      refine js_aload (pc1 := 500) rfl rfl rfl ?_
      refine js_iload (pc1 := 502) rfl rfl rfl ?_
      refine js_iconst (pc1 := 503) rfl rfl ?_
      refine js_iadd (pc1 := 504) rfl rfl ?_
      refine jt_aldD (pc1 := 505) rfl rfl (fun v90 hv90 => ?_)
      refine js_aload (pc1 := 506) rfl rfl rfl ?_
      refine js_iload (pc1 := 508) rfl rfl rfl ?_
      refine js_iconst (pc1 := 509) rfl rfl ?_
      refine js_iadd (pc1 := 510) rfl rfl ?_
      refine jt_aldD (pc1 := 511) rfl rfl (fun v91 hv91 => ?_)
      refine js_cI (pc1 := 514) (as := [(.inr (.inr (some 226))), (.inl v89), (.inl v90), (.inl v91)]) (S0 := []) (m := 5) (L0 := [some (.inr (.inr (some 226))), some (.inl v89), some (.inl v90), some (.inl v91), none]) rfl rfl rfl rfl rfl rfl rfl rfl (zrc_o rfl rfl) (by omega) (by omega) (z_M_item_ok N (by omega) (by omega) v89 hv89 v90 hv90 v91 hv91 A88) (fun v92 A93 _ hv92 => ?_)
      refine js_istore (pc1 := 516) (L1 := [some (.inr (.inr (some 0))), some (.inr (.inr (some 4))), some (.inr (.inr (some 226))), some (.inr (.inr (some 295))), some (.inl x4), some (.inl v87), some (.inl v92)]) rfl rfl rfl rfl ?_
      refine js_aload (pc1 := 517) rfl rfl rfl ?_
      refine js_cP (pc1 := 520) (as := [(.inr (.inr (some 226)))]) (S0 := []) (m := 1) (L0 := [some (.inr (.inr (some 226)))]) rfl rfl rfl rfl rfl rfl rfl rfl (zrc_o rfl rfl) (by omega) (by omega) (z_M_thrown_ok N (by omega) (by omega) A93) (fun v94 _ hv94 => ?_)
      refine js_iload (pc1 := 522) rfl rfl rfl ?_
      refine jt_eq (pc1 := 525) (t1 := 527) hv94 hv87 rfl rfl rfl (fun c95 => ?_) (fun c95 => ?_)
      · refine js_iload (pc1 := 529) rfl rfl rfl ?_
        refine ju_ne (pc1 := 532) (t1 := 544) hv87 rfl rfl rfl (fun c96 => ?_) (fun c96 => ?_)
        · refine js_aload (pc1 := 533) rfl rfl rfl ?_
          refine js_iconst (pc1 := 534) rfl rfl ?_
          refine jt_lald (pc1 := 535) rfl rfl rfl (fun v97 => ?_)
          refine js_iload (pc1 := 537) rfl rfl rfl ?_
          refine js_i2l (pc1 := 538) rfl rfl ?_
          refine js_lcmp (pc1 := 539) rfl rfl ?_
          refine ju_eq (pc1 := 542) (t1 := 544) (zt_rg _) rfl rfl rfl (fun c98 => ?_) (fun c98 => ?_)
          · refine js_goto (t1 := 788) rfl rfl ?_
            refine js_iinc (pc1 := 791) (L1 := [some (.inr (.inr (some 0))), some (.inr (.inr (some 4))), some (.inr (.inr (some 226))), some (.inr (.inr (some 295))), some (.inl (x4 + 5)), some (.inl v87), some (.inl v92)]) rfl rfl rfl rfl ?_
            refine js_goto (t1 := 23) rfl rfl ?_
            exact zG_to (L := [some (.inr (.inr (some 0))), some (.inr (.inr (some 4))), some (.inr (.inr (some 226))), some (.inr (.inr (some 295))), some (.inl (zw (x4 + 5))), none, none]) (S := []) ⟨rfl, ⟨rfl, ⟨rfl, ⟨rfl, ⟨zval_w (x4 + 5), trivial⟩⟩⟩⟩⟩ (rfl) (hr23 (zw (x4 + 5)) (zw_rg (x4 + 5)) A93)
          · refine js_iconst (pc1 := 543) rfl rfl ?_
            exact je_I rfl (zfit3 rfl (Or.inl rfl)) rfl (zlit rfl)
        · refine js_goto (t1 := 788) rfl rfl ?_
          refine js_iinc (pc1 := 791) (L1 := [some (.inr (.inr (some 0))), some (.inr (.inr (some 4))), some (.inr (.inr (some 226))), some (.inr (.inr (some 295))), some (.inl (x4 + 5)), some (.inl v87), some (.inl v92)]) rfl rfl rfl rfl ?_
          refine js_goto (t1 := 23) rfl rfl ?_
          exact zG_to (L := [some (.inr (.inr (some 0))), some (.inr (.inr (some 4))), some (.inr (.inr (some 226))), some (.inr (.inr (some 295))), some (.inl (zw (x4 + 5))), none, none]) (S := []) ⟨rfl, ⟨rfl, ⟨rfl, ⟨rfl, ⟨zval_w (x4 + 5), trivial⟩⟩⟩⟩⟩ (rfl) (hr23 (zw (x4 + 5)) (zw_rg (x4 + 5)) A93)
      · refine js_iconst (pc1 := 526) rfl rfl ?_
        exact je_I rfl (zfit3 rfl (Or.inl rfl)) rfl (zlit rfl)
    refine zG_ite (fun c113 => ?_) (fun c113 => ?_)
    · refine js_tsw (t1 := 547) rfl c113 (zlit rfl) (by decide) ?_
      refine js_aload (pc1 := 548) rfl rfl rfl ?_
      refine js_aload (pc1 := 549) rfl rfl rfl ?_
      refine js_iload (pc1 := 551) rfl rfl rfl ?_
      refine js_iconst (pc1 := 552) rfl rfl ?_
      refine js_iadd (pc1 := 553) rfl rfl ?_
      refine jt_aldD (pc1 := 554) rfl rfl (fun v100 hv100 => ?_)
      refine js_aload (pc1 := 555) rfl rfl rfl ?_
      refine js_iload (pc1 := 557) rfl rfl rfl ?_
      refine js_iconst (pc1 := 558) rfl rfl ?_
      refine js_iadd (pc1 := 559) rfl rfl ?_
      refine jt_aldD (pc1 := 560) rfl rfl (fun v101 hv101 => ?_)
      refine js_aload (pc1 := 561) rfl rfl rfl ?_
      refine js_cI (pc1 := 564) (as := [(.inr (.inr (some 4))), (.inl v100), (.inl v101), (.inr (.inr (some 295)))]) (S0 := []) (m := 5) (L0 := [some (.inr (.inr (some 4))), some (.inl v100), some (.inl v101), some (.inr (.inr (some 295))), none]) rfl rfl rfl rfl rfl rfl rfl rfl (zrc_s rfl) (by omega) (by omega) (z_Lw_code_ok N (by omega) (by omega) v100 hv100 v101 hv101 A) (fun v102 A103 _ hv102 => ?_)
      refine js_istore (pc1 := 566) (L1 := [some (.inr (.inr (some 0))), some (.inr (.inr (some 4))), some (.inr (.inr (some 226))), some (.inr (.inr (some 295))), some (.inl x4), some (.inl v102), none]) rfl rfl rfl rfl ?_
      refine js_aload (pc1 := 567) rfl rfl rfl ?_
      refine js_aload (pc1 := 568) rfl rfl rfl ?_
      refine js_iload (pc1 := 570) rfl rfl rfl ?_
      refine js_iconst (pc1 := 571) rfl rfl ?_
      refine js_iadd (pc1 := 572) rfl rfl ?_
      refine jt_aldD (pc1 := 573) rfl rfl (fun v104 hv104 => ?_)
      refine js_aload (pc1 := 574) rfl rfl rfl ?_
      refine js_iload (pc1 := 576) rfl rfl rfl ?_
      refine js_iconst (pc1 := 577) rfl rfl ?_
      refine js_iadd (pc1 := 578) rfl rfl ?_
      refine jt_aldD (pc1 := 579) rfl rfl (fun v105 hv105 => ?_)
      refine js_cI (pc1 := 582) (as := [(.inr (.inr (some 226))), (.inl v104), (.inl v105)]) (S0 := []) (m := 3) (L0 := [some (.inr (.inr (some 226))), some (.inl v104), some (.inl v105)]) rfl rfl rfl rfl rfl rfl rfl rfl (zrc_o rfl rfl) (by omega) (by omega) (z_M_code_ok N (by omega) (by omega) v104 hv104 v105 hv105 A103) (fun v106 A107 _ hv106 => ?_)
      refine js_istore (pc1 := 584) (L1 := [some (.inr (.inr (some 0))), some (.inr (.inr (some 4))), some (.inr (.inr (some 226))), some (.inr (.inr (some 295))), some (.inl x4), some (.inl v102), some (.inl v106)]) rfl rfl rfl rfl ?_
      refine js_aload (pc1 := 585) rfl rfl rfl ?_
      refine js_cP (pc1 := 588) (as := [(.inr (.inr (some 226)))]) (S0 := []) (m := 1) (L0 := [some (.inr (.inr (some 226)))]) rfl rfl rfl rfl rfl rfl rfl rfl (zrc_o rfl rfl) (by omega) (by omega) (z_M_thrown_ok N (by omega) (by omega) A107) (fun v108 _ hv108 => ?_)
      refine js_iload (pc1 := 590) rfl rfl rfl ?_
      refine jt_eq (pc1 := 593) (t1 := 595) hv108 hv102 rfl rfl rfl (fun c109 => ?_) (fun c109 => ?_)
      · refine js_iload (pc1 := 597) rfl rfl rfl ?_
        refine ju_ne (pc1 := 600) (t1 := 612) hv102 rfl rfl rfl (fun c110 => ?_) (fun c110 => ?_)
        · refine js_aload (pc1 := 601) rfl rfl rfl ?_
          refine js_iconst (pc1 := 602) rfl rfl ?_
          refine jt_lald (pc1 := 603) rfl rfl rfl (fun v111 => ?_)
          refine js_iload (pc1 := 605) rfl rfl rfl ?_
          refine js_i2l (pc1 := 606) rfl rfl ?_
          refine js_lcmp (pc1 := 607) rfl rfl ?_
          refine ju_eq (pc1 := 610) (t1 := 612) (zt_rg _) rfl rfl rfl (fun c112 => ?_) (fun c112 => ?_)
          · refine js_goto (t1 := 788) rfl rfl ?_
            refine js_iinc (pc1 := 791) (L1 := [some (.inr (.inr (some 0))), some (.inr (.inr (some 4))), some (.inr (.inr (some 226))), some (.inr (.inr (some 295))), some (.inl (x4 + 5)), some (.inl v102), some (.inl v106)]) rfl rfl rfl rfl ?_
            refine js_goto (t1 := 23) rfl rfl ?_
            exact zG_to (L := [some (.inr (.inr (some 0))), some (.inr (.inr (some 4))), some (.inr (.inr (some 226))), some (.inr (.inr (some 295))), some (.inl (zw (x4 + 5))), none, none]) (S := []) ⟨rfl, ⟨rfl, ⟨rfl, ⟨rfl, ⟨zval_w (x4 + 5), trivial⟩⟩⟩⟩⟩ (rfl) (hr23 (zw (x4 + 5)) (zw_rg (x4 + 5)) A107)
          · refine js_iconst (pc1 := 611) rfl rfl ?_
            exact je_I rfl (zfit3 rfl (Or.inl rfl)) rfl (zlit rfl)
        · refine js_goto (t1 := 788) rfl rfl ?_
          refine js_iinc (pc1 := 791) (L1 := [some (.inr (.inr (some 0))), some (.inr (.inr (some 4))), some (.inr (.inr (some 226))), some (.inr (.inr (some 295))), some (.inl (x4 + 5)), some (.inl v102), some (.inl v106)]) rfl rfl rfl rfl ?_
          refine js_goto (t1 := 23) rfl rfl ?_
          exact zG_to (L := [some (.inr (.inr (some 0))), some (.inr (.inr (some 4))), some (.inr (.inr (some 226))), some (.inr (.inr (some 295))), some (.inl (zw (x4 + 5))), none, none]) (S := []) ⟨rfl, ⟨rfl, ⟨rfl, ⟨rfl, ⟨zval_w (x4 + 5), trivial⟩⟩⟩⟩⟩ (rfl) (hr23 (zw (x4 + 5)) (zw_rg (x4 + 5)) A107)
      · refine js_iconst (pc1 := 594) rfl rfl ?_
        exact je_I rfl (zfit3 rfl (Or.inl rfl)) rfl (zlit rfl)
    refine zG_ite (fun c121 => ?_) (fun c121 => ?_)
    · refine js_tsw (t1 := 615) rfl c121 (zlit rfl) (by decide) ?_
      refine js_aload (pc1 := 616) rfl rfl rfl ?_
      refine js_aload (pc1 := 617) rfl rfl rfl ?_
      refine js_iload (pc1 := 619) rfl rfl rfl ?_
      refine js_iconst (pc1 := 620) rfl rfl ?_
      refine js_iadd (pc1 := 621) rfl rfl ?_
      refine jt_aldD (pc1 := 622) rfl rfl (fun v114 hv114 => ?_)
      refine js_cI (pc1 := 625) (as := [(.inr (.inr (some 4))), (.inl v114)]) (S0 := []) (m := 2) (L0 := [some (.inr (.inr (some 4))), some (.inl v114)]) rfl rfl rfl rfl rfl rfl rfl rfl (zrc_o rfl rfl) (by omega) (by omega) (z_PC_feed_ok N (by omega) (by omega) v114 hv114 A) (fun v115 A116 _ hv115 => ?_)
      refine js_aload (pc1 := 626) rfl rfl rfl ?_
      refine js_aload (pc1 := 627) rfl rfl rfl ?_
      refine js_iload (pc1 := 629) rfl rfl rfl ?_
      refine js_iconst (pc1 := 630) rfl rfl ?_
      refine js_iadd (pc1 := 631) rfl rfl ?_
      refine jt_aldD (pc1 := 632) rfl rfl (fun v117 hv117 => ?_)
      refine js_cI (pc1 := 635) (as := [(.inr (.inr (some 226))), (.inl v117)]) (S0 := [(.inl v115)]) (m := 2) (L0 := [some (.inr (.inr (some 226))), some (.inl v117)]) rfl rfl rfl rfl rfl rfl rfl rfl (zrc_o rfl rfl) (by omega) (by omega) (z_M_feed_ok N (by omega) (by omega) v117 hv117 A116) (fun v118 A119 _ hv118 => ?_)
      refine jt_eq (pc1 := 638) (t1 := 788) hv115 hv118 rfl rfl rfl (fun c120 => ?_) (fun c120 => ?_)
      · refine js_iinc (pc1 := 791) (L1 := [some (.inr (.inr (some 0))), some (.inr (.inr (some 4))), some (.inr (.inr (some 226))), some (.inr (.inr (some 295))), some (.inl (x4 + 5)), none, none]) rfl rfl rfl rfl ?_
        refine js_goto (t1 := 23) rfl rfl ?_
        exact zG_to (L := [some (.inr (.inr (some 0))), some (.inr (.inr (some 4))), some (.inr (.inr (some 226))), some (.inr (.inr (some 295))), some (.inl (zw (x4 + 5))), none, none]) (S := []) ⟨rfl, ⟨rfl, ⟨rfl, ⟨rfl, ⟨zval_w (x4 + 5), trivial⟩⟩⟩⟩⟩ (rfl) (hr23 (zw (x4 + 5)) (zw_rg (x4 + 5)) A119)
      · refine js_iconst (pc1 := 639) rfl rfl ?_
        exact je_I rfl (zfit3 rfl (Or.inl rfl)) rfl (zlit rfl)
    refine zG_ite (fun c124 => ?_) (fun c124 => ?_)
    · refine js_tsw (t1 := 640) rfl c124 (zlit rfl) (by decide) ?_
      refine js_aload (pc1 := 641) rfl rfl rfl ?_
      refine js_cV (pc1 := 644) (as := [(.inr (.inr (some 4)))]) (S0 := []) (m := 1) (L0 := [some (.inr (.inr (some 4)))]) rfl rfl rfl rfl rfl rfl rfl rfl (zrc_o rfl rfl) (by omega) (by omega) (z_PC_dry_ok N (by omega) (by omega) A) (fun A122 _ => ?_)
      refine js_aload (pc1 := 645) rfl rfl rfl ?_
      refine js_cV (pc1 := 648) (as := [(.inr (.inr (some 226)))]) (S0 := []) (m := 1) (L0 := [some (.inr (.inr (some 226)))]) rfl rfl rfl rfl rfl rfl rfl rfl (zrc_o rfl rfl) (by omega) (by omega) (z_M_dry_ok N (by omega) (by omega) A122) (fun A123 _ => ?_)
      refine js_goto (t1 := 788) rfl rfl ?_
      refine js_iinc (pc1 := 791) (L1 := [some (.inr (.inr (some 0))), some (.inr (.inr (some 4))), some (.inr (.inr (some 226))), some (.inr (.inr (some 295))), some (.inl (x4 + 5)), none, none]) rfl rfl rfl rfl ?_
      refine js_goto (t1 := 23) rfl rfl ?_
      exact zG_to (L := [some (.inr (.inr (some 0))), some (.inr (.inr (some 4))), some (.inr (.inr (some 226))), some (.inr (.inr (some 295))), some (.inl (zw (x4 + 5))), none, none]) (S := []) ⟨rfl, ⟨rfl, ⟨rfl, ⟨rfl, ⟨zval_w (x4 + 5), trivial⟩⟩⟩⟩⟩ (rfl) (hr23 (zw (x4 + 5)) (zw_rg (x4 + 5)) A123)
    refine zG_ite (fun c136 => ?_) (fun c136 => ?_)
    · refine js_tsw (t1 := 651) rfl c136 (zlit rfl) (by decide) ?_
      refine js_aload (pc1 := 652) rfl rfl rfl ?_
      refine js_aload (pc1 := 653) rfl rfl rfl ?_
      refine js_iload (pc1 := 655) rfl rfl rfl ?_
      refine js_iconst (pc1 := 656) rfl rfl ?_
      refine js_iadd (pc1 := 657) rfl rfl ?_
      refine jt_aldD (pc1 := 658) rfl rfl (fun v125 hv125 => ?_)
      refine js_aload (pc1 := 659) rfl rfl rfl ?_
      refine js_cI (pc1 := 662) (as := [(.inr (.inr (some 4))), (.inl v125), (.inr (.inr (some 295)))]) (S0 := []) (m := 4) (L0 := [some (.inr (.inr (some 4))), some (.inl v125), some (.inr (.inr (some 295))), none]) rfl rfl rfl rfl rfl rfl rfl rfl (zrc_s rfl) (by omega) (by omega) (z_Lw_run_ok N (by omega) (by omega) v125 hv125 A) (fun v126 A127 _ hv126 => ?_)
      refine js_istore (pc1 := 664) (L1 := [some (.inr (.inr (some 0))), some (.inr (.inr (some 4))), some (.inr (.inr (some 226))), some (.inr (.inr (some 295))), some (.inl x4), some (.inl v126), none]) rfl rfl rfl rfl ?_
      refine js_aload (pc1 := 665) rfl rfl rfl ?_
      refine js_aload (pc1 := 666) rfl rfl rfl ?_
      refine js_iload (pc1 := 668) rfl rfl rfl ?_
      refine js_iconst (pc1 := 669) rfl rfl ?_
      refine js_iadd (pc1 := 670) rfl rfl ?_
      refine jt_aldD (pc1 := 671) rfl rfl (fun v128 hv128 => ?_)
      refine js_cI (pc1 := 674) (as := [(.inr (.inr (some 226))), (.inl v128)]) (S0 := []) (m := 9) (L0 := [some (.inr (.inr (some 226))), some (.inl v128), none, none, none, none, none, none, none]) rfl rfl rfl rfl rfl rfl rfl rfl (zrc_o rfl rfl) (by omega) (by omega) (z_M_run_ok N (by omega) (by omega) v128 hv128 A127) (fun v129 A130 _ hv129 => ?_)
      refine js_istore (pc1 := 676) (L1 := [some (.inr (.inr (some 0))), some (.inr (.inr (some 4))), some (.inr (.inr (some 226))), some (.inr (.inr (some 295))), some (.inl x4), some (.inl v126), some (.inl v129)]) rfl rfl rfl rfl ?_
      refine js_aload (pc1 := 677) rfl rfl rfl ?_
      refine js_cP (pc1 := 680) (as := [(.inr (.inr (some 226)))]) (S0 := []) (m := 1) (L0 := [some (.inr (.inr (some 226)))]) rfl rfl rfl rfl rfl rfl rfl rfl (zrc_o rfl rfl) (by omega) (by omega) (z_M_thrown_ok N (by omega) (by omega) A130) (fun v131 _ hv131 => ?_)
      refine js_iload (pc1 := 682) rfl rfl rfl ?_
      refine jt_eq (pc1 := 685) (t1 := 687) hv131 hv126 rfl rfl rfl (fun c132 => ?_) (fun c132 => ?_)
      · refine js_iload (pc1 := 689) rfl rfl rfl ?_
        refine ju_ne (pc1 := 692) (t1 := 704) hv126 rfl rfl rfl (fun c133 => ?_) (fun c133 => ?_)
        · refine js_aload (pc1 := 693) rfl rfl rfl ?_
          refine js_iconst (pc1 := 694) rfl rfl ?_
          refine jt_lald (pc1 := 695) rfl rfl rfl (fun v134 => ?_)
          refine js_iload (pc1 := 697) rfl rfl rfl ?_
          refine js_i2l (pc1 := 698) rfl rfl ?_
          refine js_lcmp (pc1 := 699) rfl rfl ?_
          refine ju_eq (pc1 := 702) (t1 := 704) (zt_rg _) rfl rfl rfl (fun c135 => ?_) (fun c135 => ?_)
          · refine js_goto (t1 := 788) rfl rfl ?_
            refine js_iinc (pc1 := 791) (L1 := [some (.inr (.inr (some 0))), some (.inr (.inr (some 4))), some (.inr (.inr (some 226))), some (.inr (.inr (some 295))), some (.inl (x4 + 5)), some (.inl v126), some (.inl v129)]) rfl rfl rfl rfl ?_
            refine js_goto (t1 := 23) rfl rfl ?_
            exact zG_to (L := [some (.inr (.inr (some 0))), some (.inr (.inr (some 4))), some (.inr (.inr (some 226))), some (.inr (.inr (some 295))), some (.inl (zw (x4 + 5))), none, none]) (S := []) ⟨rfl, ⟨rfl, ⟨rfl, ⟨rfl, ⟨zval_w (x4 + 5), trivial⟩⟩⟩⟩⟩ (rfl) (hr23 (zw (x4 + 5)) (zw_rg (x4 + 5)) A130)
          · refine js_iconst (pc1 := 703) rfl rfl ?_
            exact je_I rfl (zfit3 rfl (Or.inl rfl)) rfl (zlit rfl)
        · refine js_goto (t1 := 788) rfl rfl ?_
          refine js_iinc (pc1 := 791) (L1 := [some (.inr (.inr (some 0))), some (.inr (.inr (some 4))), some (.inr (.inr (some 226))), some (.inr (.inr (some 295))), some (.inl (x4 + 5)), some (.inl v126), some (.inl v129)]) rfl rfl rfl rfl ?_
          refine js_goto (t1 := 23) rfl rfl ?_
          exact zG_to (L := [some (.inr (.inr (some 0))), some (.inr (.inr (some 4))), some (.inr (.inr (some 226))), some (.inr (.inr (some 295))), some (.inl (zw (x4 + 5))), none, none]) (S := []) ⟨rfl, ⟨rfl, ⟨rfl, ⟨rfl, ⟨zval_w (x4 + 5), trivial⟩⟩⟩⟩⟩ (rfl) (hr23 (zw (x4 + 5)) (zw_rg (x4 + 5)) A130)
      · refine js_iconst (pc1 := 686) rfl rfl ?_
        exact je_I rfl (zfit3 rfl (Or.inl rfl)) rfl (zlit rfl)
    refine zG_ite (fun c148 => ?_) (fun c148 => ?_)
    · refine js_tsw (t1 := 707) rfl c148 (zlit rfl) (by decide) ?_
      refine js_aload (pc1 := 708) rfl rfl rfl ?_
      refine js_aload (pc1 := 709) rfl rfl rfl ?_
      refine js_iload (pc1 := 711) rfl rfl rfl ?_
      refine js_iconst (pc1 := 712) rfl rfl ?_
      refine js_iadd (pc1 := 713) rfl rfl ?_
      refine jt_aldD (pc1 := 714) rfl rfl (fun v137 hv137 => ?_)
      refine js_aload (pc1 := 715) rfl rfl rfl ?_
      refine js_cI (pc1 := 718) (as := [(.inr (.inr (some 4))), (.inl v137), (.inr (.inr (some 295)))]) (S0 := []) (m := 4) (L0 := [some (.inr (.inr (some 4))), some (.inl v137), some (.inr (.inr (some 295))), none]) rfl rfl rfl rfl rfl rfl rfl rfl (zrc_s rfl) (by omega) (by omega) (z_Lw_out_ok N (by omega) (by omega) v137 hv137 A) (fun v138 A139 _ hv138 => ?_)
      refine js_istore (pc1 := 720) (L1 := [some (.inr (.inr (some 0))), some (.inr (.inr (some 4))), some (.inr (.inr (some 226))), some (.inr (.inr (some 295))), some (.inl x4), some (.inl v138), none]) rfl rfl rfl rfl ?_
      refine js_aload (pc1 := 721) rfl rfl rfl ?_
      refine js_aload (pc1 := 722) rfl rfl rfl ?_
      refine js_iload (pc1 := 724) rfl rfl rfl ?_
      refine js_iconst (pc1 := 725) rfl rfl ?_
      refine js_iadd (pc1 := 726) rfl rfl ?_
      refine jt_aldD (pc1 := 727) rfl rfl (fun v140 hv140 => ?_)
      refine js_cI (pc1 := 730) (as := [(.inr (.inr (some 226))), (.inl v140)]) (S0 := []) (m := 2) (L0 := [some (.inr (.inr (some 226))), some (.inl v140)]) rfl rfl rfl rfl rfl rfl rfl rfl (zrc_o rfl rfl) (by omega) (by omega) (z_M_out_ok N (by omega) (by omega) v140 hv140 A139) (fun v141 A142 _ hv141 => ?_)
      refine js_istore (pc1 := 732) (L1 := [some (.inr (.inr (some 0))), some (.inr (.inr (some 4))), some (.inr (.inr (some 226))), some (.inr (.inr (some 295))), some (.inl x4), some (.inl v138), some (.inl v141)]) rfl rfl rfl rfl ?_
      refine js_aload (pc1 := 733) rfl rfl rfl ?_
      refine js_cP (pc1 := 736) (as := [(.inr (.inr (some 226)))]) (S0 := []) (m := 1) (L0 := [some (.inr (.inr (some 226)))]) rfl rfl rfl rfl rfl rfl rfl rfl (zrc_o rfl rfl) (by omega) (by omega) (z_M_thrown_ok N (by omega) (by omega) A142) (fun v143 _ hv143 => ?_)
      refine js_iload (pc1 := 738) rfl rfl rfl ?_
      refine jt_eq (pc1 := 741) (t1 := 743) hv143 hv138 rfl rfl rfl (fun c144 => ?_) (fun c144 => ?_)
      · refine js_iload (pc1 := 745) rfl rfl rfl ?_
        refine ju_ne (pc1 := 748) (t1 := 760) hv138 rfl rfl rfl (fun c145 => ?_) (fun c145 => ?_)
        · refine js_aload (pc1 := 749) rfl rfl rfl ?_
          refine js_iconst (pc1 := 750) rfl rfl ?_
          refine jt_lald (pc1 := 751) rfl rfl rfl (fun v146 => ?_)
          refine js_iload (pc1 := 753) rfl rfl rfl ?_
          refine js_i2l (pc1 := 754) rfl rfl ?_
          refine js_lcmp (pc1 := 755) rfl rfl ?_
          refine ju_eq (pc1 := 758) (t1 := 760) (zt_rg _) rfl rfl rfl (fun c147 => ?_) (fun c147 => ?_)
          · refine js_goto (t1 := 788) rfl rfl ?_
            refine js_iinc (pc1 := 791) (L1 := [some (.inr (.inr (some 0))), some (.inr (.inr (some 4))), some (.inr (.inr (some 226))), some (.inr (.inr (some 295))), some (.inl (x4 + 5)), some (.inl v138), some (.inl v141)]) rfl rfl rfl rfl ?_
            refine js_goto (t1 := 23) rfl rfl ?_
            exact zG_to (L := [some (.inr (.inr (some 0))), some (.inr (.inr (some 4))), some (.inr (.inr (some 226))), some (.inr (.inr (some 295))), some (.inl (zw (x4 + 5))), none, none]) (S := []) ⟨rfl, ⟨rfl, ⟨rfl, ⟨rfl, ⟨zval_w (x4 + 5), trivial⟩⟩⟩⟩⟩ (rfl) (hr23 (zw (x4 + 5)) (zw_rg (x4 + 5)) A142)
          · refine js_iconst (pc1 := 759) rfl rfl ?_
            exact je_I rfl (zfit3 rfl (Or.inl rfl)) rfl (zlit rfl)
        · refine js_goto (t1 := 788) rfl rfl ?_
          refine js_iinc (pc1 := 791) (L1 := [some (.inr (.inr (some 0))), some (.inr (.inr (some 4))), some (.inr (.inr (some 226))), some (.inr (.inr (some 295))), some (.inl (x4 + 5)), some (.inl v138), some (.inl v141)]) rfl rfl rfl rfl ?_
          refine js_goto (t1 := 23) rfl rfl ?_
          exact zG_to (L := [some (.inr (.inr (some 0))), some (.inr (.inr (some 4))), some (.inr (.inr (some 226))), some (.inr (.inr (some 295))), some (.inl (zw (x4 + 5))), none, none]) (S := []) ⟨rfl, ⟨rfl, ⟨rfl, ⟨rfl, ⟨zval_w (x4 + 5), trivial⟩⟩⟩⟩⟩ (rfl) (hr23 (zw (x4 + 5)) (zw_rg (x4 + 5)) A142)
      · refine js_iconst (pc1 := 742) rfl rfl ?_
        exact je_I rfl (zfit3 rfl (Or.inl rfl)) rfl (zlit rfl)
    refine zG_ite (fun c156 => ?_) (fun c156 => ?_)
    · refine js_tsw (t1 := 763) rfl c156 (zlit rfl) (by decide) ?_
      refine js_aload (pc1 := 764) rfl rfl rfl ?_
      refine js_aload (pc1 := 765) rfl rfl rfl ?_
      refine js_iload (pc1 := 767) rfl rfl rfl ?_
      refine js_iconst (pc1 := 768) rfl rfl ?_
      refine js_iadd (pc1 := 769) rfl rfl ?_
      refine jt_aldD (pc1 := 770) rfl rfl (fun v149 hv149 => ?_)
      refine js_cI (pc1 := 773) (as := [(.inr (.inr (some 4))), (.inl v149)]) (S0 := []) (m := 2) (L0 := [some (.inr (.inr (some 4))), some (.inl v149)]) rfl rfl rfl rfl rfl rfl rfl rfl (zrc_o rfl rfl) (by omega) (by omega) (z_PC_count_ok N (by omega) (by omega) v149 hv149 A) (fun v150 A151 _ hv150 => ?_)
      refine js_aload (pc1 := 774) rfl rfl rfl ?_
      refine js_aload (pc1 := 775) rfl rfl rfl ?_
      refine js_iload (pc1 := 777) rfl rfl rfl ?_
      refine js_iconst (pc1 := 778) rfl rfl ?_
      refine js_iadd (pc1 := 779) rfl rfl ?_
      refine jt_aldD (pc1 := 780) rfl rfl (fun v152 hv152 => ?_)
      refine js_cI (pc1 := 783) (as := [(.inr (.inr (some 226))), (.inl v152)]) (S0 := [(.inl v150)]) (m := 2) (L0 := [some (.inr (.inr (some 226))), some (.inl v152)]) rfl rfl rfl rfl rfl rfl rfl rfl (zrc_o rfl rfl) (by omega) (by omega) (z_M_count_ok N (by omega) (by omega) v152 hv152 A151) (fun v153 A154 _ hv153 => ?_)
      refine jt_eq (pc1 := 786) (t1 := 788) hv150 hv153 rfl rfl rfl (fun c155 => ?_) (fun c155 => ?_)
      · refine js_iinc (pc1 := 791) (L1 := [some (.inr (.inr (some 0))), some (.inr (.inr (some 4))), some (.inr (.inr (some 226))), some (.inr (.inr (some 295))), some (.inl (x4 + 5)), none, none]) rfl rfl rfl rfl ?_
        refine js_goto (t1 := 23) rfl rfl ?_
        exact zG_to (L := [some (.inr (.inr (some 0))), some (.inr (.inr (some 4))), some (.inr (.inr (some 226))), some (.inr (.inr (some 295))), some (.inl (zw (x4 + 5))), none, none]) (S := []) ⟨rfl, ⟨rfl, ⟨rfl, ⟨rfl, ⟨zval_w (x4 + 5), trivial⟩⟩⟩⟩⟩ (rfl) (hr23 (zw (x4 + 5)) (zw_rg (x4 + 5)) A154)
      · refine js_iconst (pc1 := 787) rfl rfl ?_
        exact je_I rfl (zfit3 rfl (Or.inl rfl)) rfl (zlit rfl)
    refine js_tswd (t1 := 788) rfl (zt_rg _) (by omega) rfl ?_
    refine js_iinc (pc1 := 791) (L1 := [some (.inr (.inr (some 0))), some (.inr (.inr (some 4))), some (.inr (.inr (some 226))), some (.inr (.inr (some 295))), some (.inl (x4 + 5)), none, none]) rfl rfl rfl rfl ?_
    refine js_goto (t1 := 23) rfl rfl ?_
    exact zG_to (L := [some (.inr (.inr (some 0))), some (.inr (.inr (some 4))), some (.inr (.inr (some 226))), some (.inr (.inr (some 295))), some (.inl (zw (x4 + 5))), none, none]) (S := []) ⟨rfl, ⟨rfl, ⟨rfl, ⟨rfl, ⟨zval_w (x4 + 5), trivial⟩⟩⟩⟩⟩ (rfl) (hr23 (zw (x4 + 5)) (zw_rg (x4 + 5)) A)
theorem z_Lw_law_23_lok{d w : Nat} (N : Nat) (hd : 654 ≤ d) (hw : 18677 ≤ w) (n : Nat) : ∀ (x4 : Int) (hx4 : zrg x4) (A : zA), zG (z_Lw_law_23_l N n x4 A) zPI d w 0 23 [some (.inr (.inr (some 0))), some (.inr (.inr (some 4))), some (.inr (.inr (some 226))), some (.inr (.inr (some 295))), some (.inl x4), none, none] [] A := by
  induction n with
  | zero => intros; exact zG_none
  | succ n ih =>
    intro x4 hx4 A
    exact z_Lw_law_23_bok ih N hd hw x4 hx4 A
theorem z_Lw_law_23_ok{d w : Nat} (N : Nat) (hd : 654 ≤ d) (hw : 18677 ≤ w) (x4 : Int) (hx4 : zrg x4) (A : zA) : zG (z_Lw_law_23 N x4 A) zPI d w 0 23 [some (.inr (.inr (some 0))), some (.inr (.inr (some 4))), some (.inr (.inr (some 226))), some (.inr (.inr (some 295))), some (.inl x4), none, none] [] A := z_Lw_law_23_lok N hd hw N x4 hx4 A
