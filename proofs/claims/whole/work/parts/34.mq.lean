/-! the kernel's machine is MJ -/
section MQT
variable {P : mj_Pr} {nT : Nat} {go : mq_G} {gm : Nat → Nat → Nat → Nat → mj_L → List Value → mj_H → Option (mj_O × mj_H)} {d w mi pc : Nat} {L : mj_L} {S : List Value} {h h1 : mq_H} {X X1 : mq_X} {o : mj_O}
theorem mq_one {i : Instr} {nx : Nat} {kk : mq_K} {r : mj_O × mq_H × mq_X} {nx1 : Nat} {S1 : List Value} (hi : ∀ ρ, mj_i P nT i nx (mq_l ρ L) (mq_s ρ S) (mq_h P ρ h) = some (nx1, mq_l ρ L, mq_s ρ S1, mq_h P ρ h)) (hx : kk nx1 L S1 h X = some r) : mq_To P nT i nx L S h X kk r := ⟨_, _, _, _, _, hx, fun f hf => hf, fun ρ _ => hi ρ⟩
set_option maxHeartbeats 4000000 in
theorem mq_body_ok (hdf : ∀ ci, ∀ v ∈ P.dfl ci, ∀ k, v ≠ .retAddr k) (ih : mq_Snd P nT go gm) {i : Instr} {len : Nat} (hcode : P.code mi pc = some (i, len)) (hx : mq_body P nT go d w mi pc (pc + len) i L S h X = some (o, h1, X1)) : (∀ f ∈ X.2.2, f ∈ X1.2.2) ∧ ∀ ρ, mq_Ok ρ X1.2.2 → mj_body P nT gm d w mi pc (mq_l ρ L) (mq_s ρ S) (mq_h P ρ h) = some (mq_o ρ o, mq_h P ρ h1) := by
  cases i with
  | iconst n => exact mq_rest ih hcode (fun L S H => by unfold mj_body; rw [hcode]; rfl) (mq_one (fun ρ => rfl) hx)
  | ldc2_w n => exact mq_rest ih hcode (fun L S H => by unfold mj_body; rw [hcode]; rfl) (mq_one (fun ρ => rfl) hx)
  | aconst_null => exact mq_rest ih hcode (fun L S H => by unfold mj_body; rw [hcode]; rfl) (mq_one (fun ρ => rfl) hx)
  | goto t => exact mq_rest ih hcode (fun L S H => by unfold mj_body; rw [hcode]; rfl) (mq_one (fun ρ => rfl) hx)
  | iload k => exact mq_rest ih hcode (fun L S H => by unfold mj_body; rw [hcode]; rfl) (mqo_ild_ok hx)
  | lload k => exact mq_rest ih hcode (fun L S H => by unfold mj_body; rw [hcode]; rfl) (mqo_lld_ok hx)
  | aload k => exact mq_rest ih hcode (fun L S H => by unfold mj_body; rw [hcode]; rfl) (mqo_ald_ok hx)
  | istore k => exact mq_rest ih hcode (fun L S H => by unfold mj_body; rw [hcode]; rfl) (mqo_ist_ok hx)
  | lstore k => exact mq_rest ih hcode (fun L S H => by unfold mj_body; rw [hcode]; rfl) (mqo_lst_ok hx)
  | astore k => exact mq_rest ih hcode (fun L S H => by unfold mj_body; rw [hcode]; rfl) (mqo_ast_ok hx)
  | iinc k n => exact mq_rest ih hcode (fun L S H => by unfold mj_body; rw [hcode]; rfl) (mqo_inc_ok hx)
  | iadd => exact mq_rest ih hcode (fun L S H => by unfold mj_body; rw [hcode]; rfl) (mqo_ari_ok ⟨by decide, by decide⟩ (fun _ _ _ _ _ => rfl) hx)
  | isub => exact mq_rest ih hcode (fun L S H => by unfold mj_body; rw [hcode]; rfl) (mqo_ari_ok ⟨by decide, by decide⟩ (fun _ _ _ _ _ => rfl) hx)
  | imul => exact mq_rest ih hcode (fun L S H => by unfold mj_body; rw [hcode]; rfl) (mqo_ari_ok ⟨by decide, by decide⟩ (fun _ _ _ _ _ => rfl) hx)
  | iand => exact mq_rest ih hcode (fun L S H => by unfold mj_body; rw [hcode]; rfl) (mqo_ari_ok ⟨by decide, by decide⟩ (fun _ _ _ _ _ => rfl) hx)
  | ixor => exact mq_rest ih hcode (fun L S H => by unfold mj_body; rw [hcode]; rfl) (mqo_ari_ok ⟨by decide, by decide⟩ (fun _ _ _ _ _ => rfl) hx)
  | ishr => exact mq_rest ih hcode (fun L S H => by unfold mj_body; rw [hcode]; rfl) (mqo_ari_ok ⟨by decide, by decide⟩ (fun _ _ _ _ _ => rfl) hx)
  | iushr => exact mq_rest ih hcode (fun L S H => by unfold mj_body; rw [hcode]; rfl) (mqo_ari_ok ⟨by decide, by decide⟩ (fun _ _ _ _ _ => rfl) hx)
  | i2c => exact mq_rest ih hcode (fun L S H => by unfold mj_body; rw [hcode]; rfl) (mqo_i2c_ok hx)
  | i2l => exact mq_rest ih hcode (fun L S H => by unfold mj_body; rw [hcode]; rfl) (mqo_i2l_ok hx)
  | lcmp => exact mq_rest ih hcode (fun L S H => by unfold mj_body; rw [hcode]; rfl) (mqo_lcmp_ok hx)
  | dup => exact mq_rest ih hcode (fun L S H => by unfold mj_body; rw [hcode]; rfl) (mqo_dup_ok hx)
  | pop => exact mq_rest ih hcode (fun L S H => by unfold mj_body; rw [hcode]; rfl) (mqo_pop_ok hx)
  | ifCond c t => exact mq_rest ih hcode (fun L S H => by unfold mj_body; rw [hcode]; rfl) (mqo_if_ok hx)
  | if_icmp c t => exact mq_rest ih hcode (fun L S H => by unfold mj_body; rw [hcode]; rfl) (mqo_icmp_ok hx)
  | tableswitch e lo hi ts => exact mq_rest ih hcode (fun L S H => by unfold mj_body; rw [hcode]; rfl) (mqo_tsw_ok hx)
  | lookupswitch e ps => exact mq_rest ih hcode (fun L S H => by unfold mj_body; rw [hcode]; rfl) (mqo_lsw_ok hx)
  | getstatic k => exact mq_rest ih hcode (fun L S H => by unfold mj_body; rw [hcode]; rfl) (mqo_gst_ok hx)
  | getfield n => exact mq_rest ih hcode (fun L S H => by unfold mj_body; rw [hcode]; rfl) (mqo_gfd_ok hx)
  | putfield n => exact mq_rest ih hcode (fun L S H => by unfold mj_body; rw [hcode]; rfl) (mqo_pfd_ok hx)
  | new ci => exact mq_rest ih hcode (fun L S H => by unfold mj_body; rw [hcode]; rfl) (mqo_new_ok (hdf ci) hx)
  | newarray a => exact mq_rest ih hcode (fun L S H => by unfold mj_body; rw [hcode]; rfl) (mqo_nwa_ok (fun ρ => mq_dv_v ρ _) (fun L q H n hn => by simp only [mj_i, if_pos hn]) hx)
  | anewarray t => exact mq_rest ih hcode (fun L S H => by unfold mj_body; rw [hcode]; rfl) (mqo_nwa_ok (fun ρ => rfl) (fun L q H n hn => by simp only [mj_i, if_pos hn]) hx)
  | multianewarray t dm => exact mq_rest ih hcode (fun L S H => by unfold mj_body; rw [hcode]; rfl) (mqo_mul_ok hx)
  | arraylength => exact mq_rest ih hcode (fun L S H => by unfold mj_body; rw [hcode]; rfl) (mqo_len_ok hx)
  | iaload => exact mq_rest ih hcode (fun L S H => by unfold mj_body; rw [hcode]; rfl) (mqo_pld_ok (fun _ _ _ _ _ => rfl) hx)
  | laload => exact mq_rest ih hcode (fun L S H => by unfold mj_body; rw [hcode]; rfl) (mqo_pld_ok (fun _ _ _ _ _ => rfl) hx)
  | caload => exact mq_rest ih hcode (fun L S H => by unfold mj_body; rw [hcode]; rfl) (mqo_pld_ok (fun _ _ _ _ _ => rfl) hx)
  | baload => exact mq_rest ih hcode (fun L S H => by unfold mj_body; rw [hcode]; rfl) (mqo_pld_ok (fun _ _ _ _ _ => rfl) hx)
  | aaload => exact mq_rest ih hcode (fun L S H => by unfold mj_body; rw [hcode]; rfl) (mqo_ald2_ok hx)
  | iastore => exact mq_rest ih hcode (fun L S H => by unfold mj_body; rw [hcode]; rfl) (mqo_ias_ok hx)
  | lastore => exact mq_rest ih hcode (fun L S H => by unfold mj_body; rw [hcode]; rfl) (mqo_las_ok hx)
  | castore => exact mq_rest ih hcode (fun L S H => by unfold mj_body; rw [hcode]; rfl) (mqo_cas_ok hx)
  | bastore => exact mq_rest ih hcode (fun L S H => by unfold mj_body; rw [hcode]; rfl) (mqo_bas_ok hx)
  | aastore => exact mq_rest ih hcode (fun L S H => by unfold mj_body; rw [hcode]; rfl) (mqo_aas_ok hx)
  | invokestatic k => exact mq_call_ok ih hcode hx
  | return_ =>
    have hx : (match (generalizing := false) S with
      | [] => some (Sum.inl none, h, X)
      | _ => none) = some (o, h1, X1) := hx
    split at hx
    · cases hx
      exact ⟨fun f hf => hf, fun ρ _ => by
        unfold mj_body
        rw [hcode]
        rfl⟩
    · cases hx
  | ireturn =>
    have hx : mq_iret P mi S h X = some (o, h1, X1) := hx
    unfold mq_iret at hx
    split at hx
    · rename_i v _
      obtain ⟨hb, hx⟩ := mq_bt hx
      rw [Bool.and_eq_true] at hb
      cases hx
      refine ⟨fun f hf => hf, fun ρ _ => ?_⟩
      have h9 := mq_fit_ok (ρ := ρ) hb.1
      rw [mq_v_int hb.2] at h9
      have e : mq_s ρ [v] = [.int (mq_e ρ v)] := by rw [← mq_v_int hb.2]; rfl
      unfold mj_body
      rw [hcode]
      dsimp only
      rw [e]
      dsimp only
      rw [if_pos h9, ← mq_v_int hb.2]
      rfl
    · cases hx
  | areturn =>
    have hx : (match (generalizing := false) S with
      | [.ref x] => some (Sum.inl (some (.ref x)), h, X)
      | _ => none) = some (o, h1, X1) := hx
    split at hx
    · cases hx
      exact ⟨fun f hf => hf, fun ρ _ => by
        unfold mj_body
        rw [hcode]
        rfl⟩
    · cases hx
  | lreturn =>
    have hx : (match (generalizing := false) S with
      | [.long x] => some (Sum.inl (some (.long x)), h, X)
      | _ => none) = some (o, h1, X1) := hx
    split at hx
    · cases hx
      exact ⟨fun f hf => hf, fun ρ _ => by
        unfold mj_body
        rw [hcode]
        rfl⟩
    · cases hx
  | ret x =>
    have hx : mq_thr x d w S h X = some (o, h1, X1) := hx
    unfold mq_thr at hx
    split at hx
    · obtain ⟨hb, hx⟩ := mq_bt hx
      simp only [Bool.and_eq_true] at hb
      obtain ⟨⟨b1, b2⟩, b3⟩ := hb
      rw [mq_p2K_eq] at hx
      cases hx
      refine ⟨fun f hf => hf, fun ρ _ => ?_⟩
      unfold mj_body
      rw [hcode]
      dsimp only
      show (if _ then _ else none) = _
      rw [if_pos ⟨Nat.le_of_ble_eq_true b1, Nat.le_of_ble_eq_true b2, Nat.le_of_ble_eq_true b3⟩, mq_h_push, mq_h_len]
      rfl
    · cases hx
  | _ => exact nomatch hx
theorem mq_run_ok (hdf : ∀ ci, ∀ v ∈ P.dfl ci, ∀ k, v ≠ .retAddr k) : ∀ n, mq_Snd P nT (mq_run P nT n) (mj_ex P nT n)
  | 0 => fun _ _ _ _ _ _ _ _ _ _ _ hx => nomatch hx
  | n + 1 => by
    intro d w mi pc L S h X o h1 X1 hx
    have hx : (match P.code mi pc with
      | some (i, len) => mq_body P nT (mq_run P nT n) d w mi pc (pc + len) i L S h X
      | none => none) = some (o, h1, X1) := hx
    split at hx
    · rename_i i len hc
      exact mq_body_ok hdf (mq_run_ok hdf n) hc hx
    · cases hx
end MQT
theorem mp_df : ∀ ci, ∀ v ∈ mp_P.dfl ci, ∀ k, v ≠ .retAddr k := by
  intro ci v hv k
  obtain ⟨ty, -, rfl⟩ := List.mem_map.mp hv
  cases ty <;> simp [defaultValue]
