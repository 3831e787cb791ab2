/-! MJ's runs are the machine's: the induction -/
section MJM
variable {l : Launch} {F : mj_F} {tb nb ab : List Cond} {E : State → Prop} {P : mj_Pr} {I : mj_I}
theorem mj_rcv_spec {k : Nat} {as : List Value} {h : mj_H} (hr : mj_rcv (P.rc k) as h = true) (hc : ∀ ci, P.rc k = some ci → ∃ (T : u_T) (N : Nat), F.cl[ci]? = some ((I.nm k).cls, T, N)) : (P.rc k).isSome = true → ∃ (ci a : Nat) (vs : List Value) (T : u_T) (N : Nat) (as' : List Value), F.cl[ci]? = some ((I.nm k).cls, T, N) ∧ as = .ref a :: as' ∧ h[a]? = some (false, ci, vs) := by
  intro hs
  obtain ⟨ci, hci⟩ := Option.isSome_iff_exists.mp hs
  obtain ⟨T, N, hT⟩ := hc ci hci
  rw [hci] at hr
  unfold mj_rcv at hr
  split at hr
  · rename_i z; cases z
  · rename_i ci2 a as2 hq
    cases hq
    split at hr
    · rename_i u vs hx
      have hu : u = ci := by simpa using hr
      subst hu
      exact ⟨u, a, vs, T, N, as2, hT, rfl, hx⟩
    · cases hr
  · cases hr
set_option maxHeartbeats 8000000 in
theorem mj_step_ok (hfx : mj_Fix l F tb nb ab E P I) {n : Nat} (ih : mj_Snd l F tb nb ab E P I n) : mj_Snd l F tb nb ab E P I (n + 1) := by
  intro d w mi pc L S h o h1 hx p e R s m args below meth c H locs cells slots ls hat hP hL hLL hlo hd hw hrc hrs
  obtain ⟨hF, hgood, hnb, hE, hEst, hEab, hEtx, hEsz, hEnc, hxx, hstt, hcode, hHr⟩ := id hfx
  obtain ⟨hexec, hb, hret, hml, hown, hts, hlocks, hname, htab, hX⟩ := id hat
  have hmL : c.maxLocals = L.length := hml.trans hLL.symm
  have hx : mj_body P F.nT (mj_ex P F.nT n) d w mi pc L S h = some (o, h1) := hx
  unfold mj_body at hx
  split at hx
  · cases hx
  · rename_i i len hpc
    obtain ⟨r, hdg, hlk⟩ := hcode mi pc i len hpc
    split at hx
    · -- return_
      split at hx
      · cases hx
        obtain ⟨rfl, hl, hrt⟩ := hlk
        subst hl
        rw [hrt] at hret
        rw [Nat.sub_self, Nat.sub_self, Nat.add_zero, Nat.add_zero]
        exact W.vret hexec hb hret (fun t ht hW => ⟨rfl, by rw [ht]; exact hP.moved hW.alike⟩) hlo hdg hlocks
      · cases hx
    · -- ireturn
      split at hx
      · split at hx
        · rename_i hfit
          cases hx
          obtain ⟨rfl, hl, ty, hrt, hrk⟩ := hlk
          subst hl
          rw [hrt] at hret
          rw [hrk] at hfit
          rw [Nat.sub_self, Nat.sub_self, Nat.add_zero, Nat.add_zero]
          exact W.zret hexec hb hret (narrow_of_fits (mj_fit_ok F.ad hfit)) (fun t ht hW => ⟨rfl, by rw [ht]; exact hP.moved hW.alike⟩) hlo hdg hlocks
        · cases hx
      · cases hx
    · -- lreturn
      split at hx
      · cases hx
        obtain ⟨rfl, hl, hrt⟩ := hlk
        subst hl
        rw [hrt] at hret
        rw [Nat.sub_self, Nat.sub_self, Nat.add_zero, Nat.add_zero]
        exact W.lret hexec hb hret (fun t ht hW => ⟨rfl, by rw [ht]; exact hP.moved hW.alike⟩) hlo hdg hlocks
      · cases hx
    · -- areturn
      split at hx
      · cases hx
        obtain ⟨rfl, hl, hrt⟩ := hlk
        subst hl
        rw [hrt] at hret
        rw [Nat.sub_self, Nat.sub_self, Nat.add_zero, Nat.add_zero]
        exact W.aret hexec hb hret (Or.inr ⟨_, rfl⟩) (Or.inr ⟨_, rfl⟩) (fun t ht hW => ⟨rfl, by rw [ht]; exact hP.moved hW.alike⟩) hlo hdg hlocks
      · cases hx
    · -- throw new
      rename_i x
      split at hx
      · split at hx
        · rename_i hc
          cases hx
          obtain ⟨hl, ik, is, ic, text, rfl, d3, d4, d6, d9, hhd, hw1, hw2, hw3, ix, rx, y0, y1, y2, y5, hat9⟩ := hlk
          subst hl
          obtain ⟨sa, hsa⟩ := hEtx s hX.2.2 _ hw3
          have hsz := hEsz s hX.2.2
          have e1 : (h ++ [((false, 100 + x, []) : mj_C)]).length - h.length = 1 := by simp
          have e2 : mj_sl (h ++ [((false, 100 + x, []) : mj_C)]) - mj_sl h = 6 := by
            rw [mj_sl_app]
            simp only [mj_sl, if_pos (show 100 ≤ 100 + x by omega)]
            omega
          rw [e1] at hrc
          rw [e2] at hrs
          rw [e1, e2]
          rw [hhd, List.map_eq_nil_iff] at htab
          exact mj_throw hF hexec hb hmL hP hL hlo hstt hgood hts rfl (hxx x hc.1).2 hown (by
            rcases (show x = 0 ∨ x = 1 ∨ x = 2 by omega) with z | z | z <;> subst z <;> decide +kernel) (by decide +kernel) (by decide) hw1 hw2 (hxx x hc.1).1 hsa y0 y1 y2 y5 hat9 hsz.1 hsz.2 hdg d3 d4 d6 d9 (by rw [htab]; exact fun z hz => nomatch hz) (by omega) (by omega) hrc hrs hlocks
        · cases hx
      · cases hx
    · -- calls
      rename_i k
      obtain ⟨hl, hlk⟩ := hlk
      subst hl
      split at hx
      · rename_i hk
        split at hx
        · rename_i as r9 hpop
          split at hx
          · rename_i hc
            obtain ⟨hc1, hc2, hc3⟩ := hc
            split at hx
            · rename_i v h2 hlib
              have hm := mj_lib_mono hlib
              have kt := mj_rest (L := L) (e := e) (below := below) ih hx hat hLL hd hw hrc hrs (by omega) (by omega)
              obtain ⟨hlen, hS⟩ := mj_pop_at hpop
              rcases hlk with ⟨-, idx, hlb⟩ | ⟨hk2, -⟩
              · rcases hlb with ⟨rfl, hn, rfl, w1, w2, w3⟩ | ⟨rfl, hn, rfl, w1, w2, w3, w4⟩ | ⟨rfl, hn, rfl, w1, w2, w3, w4⟩ | ⟨rfl, hn, rfl, w1, w2, w3, w4⟩
                · unfold mj_lib at hlib
                  split at hlib
                  · cases hlib
                    rw [hS]
                    exact mj_objInit hexec hb hmL hP hL hlo hown (hts _ w1) (hts _ w2) (hts _ w3) (by omega) (by omega) hc3 hdg kt
                  all_goals first
                    | (rename_i z; exact absurd z (by decide))
                    | cases hlib
                · unfold mj_lib at hlib
                  split at hlib
                  all_goals first
                    | (rename_i z; exact absurd z (by decide))
                    | skip
                  · cases hlib
                    rw [hS]
                    exact mj_max hexec hb hmL hP hL hlo hown (hts _ w1) (hts _ w2) (hts _ w3) (hts _ w4) (by omega) (by omega) (by omega) (by omega) hc3 hdg kt
                  · cases hlib
                · unfold mj_lib at hlib
                  split at hlib
                  all_goals first
                    | (rename_i z; exact absurd z (by decide))
                    | skip
                  · cases hlib
                    rw [hS]
                    exact mj_min hexec hb hmL hP hL hlo hown (hts _ w1) (hts _ w2) (hts _ w3) (hts _ w4) (by omega) (by omega) (by omega) (by omega) hc3 hdg kt
                  · cases hlib
                · unfold mj_lib at hlib
                  split at hlib
                  all_goals first
                    | (rename_i z; exact absurd z (by decide))
                    | skip
                  · split at hlib
                    · rename_i t f u g ha hbb
                      split at hlib
                      · rename_i hcc
                        obtain ⟨rfl, q2, q3, q4, q5, q6, q7, q8, q9, q10⟩ := hcc
                        cases hlib
                        rw [hS]
                        exact mj_copy hF hexec hb hmL hP hL hlo hX.1 hown (hts _ w1) (hts _ w2) (hts _ w3) (hts _ w4) (by omega) (by omega) hc3 ha hbb q2 q3 q4 q6 q7 q8 q9 q10 hdg kt
                      · cases hlib
                    · cases hlib
                  · cases hlib
              · omega
            · cases hx
          · cases hx
        · cases hx
      · rename_i hk
        split at hx
        · rename_i as r9 hpop
          split at hx
          · rename_i hc
            obtain ⟨hc1, hc2, hc3, hc4, hc5⟩ := hc
            rcases hlk with ⟨hk2, -⟩ | ⟨-, hln, hpl, hoc, hrn, hrcl, hcd, hcw, hhs⟩
            · omega
            split at hx
            · -- returned
              rename_i v h2 hcall
              have hm1 := mj_ex_mono P F.nT n _ _ _ _ _ _ _ _ _ hcall
              have hm2 := mj_ex_mono P F.nT n _ _ _ _ _ _ _ _ _ hx
              have kt := mj_rest (L := L) (e := e) (below := below) ih hx hat hLL hd hw hrc hrs hm1.1 hm1.2
              cases hem : (I.hd k).isEmpty with
              | true =>
                rw [hem] at hln
                have hM := mj_met hfx ih hcall hpl hoc hem hc5
                have hr := mj_toRun hgood hnb hE hexec hb hmL hP hX hL hts hown hpop hc3 hln (hcd hem) hrn (mj_rcv_spec hc4 hrcl) hM rfl rfl (show d - 1 + 1 ≤ R.frames by omega) (show 8 + (P.maxL k + 11) + (w - (P.maxL k + 19)) ≤ R.locals by omega) ⟨by omega, by omega⟩ hdg (locs := locs) (below := below) (meth := meth) (e := e) (cells := cells) (slots := slots)
                exact mj_after hr rfl rfl hL hlo rfl kt
              | false =>
                rw [hem] at hln
                have hM := mj_metW hfx ih hcall hpl hoc hc5
                have hns : (P.rc k).isSome = false := by
                  obtain ⟨-, -, -, -, idx, z⟩ := hln
                  rcases z with ⟨z, -⟩ | ⟨z, -⟩ | ⟨-, z, -⟩ | ⟨-, z, -⟩ | ⟨-, z, -⟩
                  · exact z
                  · exact z
                  · cases z
                  · cases z
                  · cases z
                rw [hns] at hln
                have hr := mj_toRunW hgood hnb hE hexec hb hmL hP hX hL hts hown hpop hc3 hln (hcw hem) hM rfl rfl (show d - 1 + 1 ≤ R.frames by omega) (show 8 + (P.maxL k + 11) + (w - (P.maxL k + 19)) ≤ R.locals by omega) ⟨by omega, by omega⟩ hdg (locs := locs) (below := below) (meth := meth) (e := e) (cells := cells) (slots := slots)
                exact mj_after hr rfl rfl hL hlo rfl kt
            · -- thrown
              rename_i x a h2 hcall
              split at hx
              · rename_i t hhn
                have hm1 := mj_ex_mono P F.nT n _ _ _ _ _ _ _ _ _ hcall
                have hm2 := mj_ex_mono P F.nT n _ _ _ _ _ _ _ _ _ hx
                have kt := mj_rest (L := L) (e := e) (below := below) ih hx hat hLL hd hw hrc hrs hm1.1 hm1.2
                obtain ⟨hx2, hxa⟩ := mj_ex_thr P F.nT n _ _ _ _ _ _ _ _ _ _ hcall
                rcases hhs with z | ⟨hem, hsm, hnsp⟩
                · rw [z] at hhn
                  cases hhn
                · rw [hem, hsm] at hln
                  have hM := mj_metX hfx ih hcall hpl hoc hem hc5
                  exact mj_catch hF hgood hnb hE hexec hb hmL hP hX hL hlo hts hown (hEnc s hX.2.2) (hHr mi) htab hpop hc3 hln ⟨rfl, hnsp⟩ (hcd hem) (fun _ => mj_rcv_spec hc4 hrcl hsm) hM hxa hx2 (hxx x hx2).2 hhn (hxx x hx2).1 rfl rfl (show d - 1 + 1 ≤ R.frames by omega) (show 8 + (P.maxL k + 11) + (w - (P.maxL k + 19)) ≤ R.locals by omega) ⟨by omega, by omega⟩ rfl rfl hdg kt
              · cases hx
            · cases hx
          · cases hx
        · cases hx
    · -- the others
      split at hx
      · rename_i pc1 L1 S1 h2 hi
        have hm1 := mj_i_mono hi
        have hm2 := mj_ex_mono P F.nT n _ _ _ _ _ _ _ _ _ hx
        have kt := mj_rest (L := L) (e := e) (below := below) ih hx hat hLL hd hw hrc hrs hm1.1 hm1.2
        exact mj_i_ok hF hEst hEab hexec hb hP hX hL hlo hts hown hname (by omega) (by omega) hdg hlk hi kt
      · cases hx
theorem mj_sound (hfx : mj_Fix l F tb nb ab E P I) : ∀ n, mj_Snd l F tb nb ab E P I n
  | 0 => fun _ _ _ _ _ _ _ _ _ hx => nomatch hx
  | n + 1 => mj_step_ok hfx (mj_sound hfx n)
end MJM
