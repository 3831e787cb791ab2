/-! calls, library, throws, arrays -/
def mp_cak (q : (Nat × Nat × Nat × Nat) × Nat) : Bool := decide (1 ≤ q.1.2.2.1) && decide (q.1.2.2.1 < 309) && (match q.1.2.2.2 with
    | 0 => !(mp_rc q.1.2.2.1).isSome && mp_w q.2 (.methodLink (mp_on q.1.1) q.1.2.1 (mp_nm q.1.2.2.1))
    | 1 => !(mp_rc q.1.2.2.1).isSome && (mp_hd q.1.2.2.1).isEmpty && mp_v q.2 (.methodLinkNest (mp_on q.1.1) q.1.2.1 (mp_nm q.1.2.2.1) "PassChain")
    | 2 => (mp_rc q.1.2.2.1).isSome && (mp_hd q.1.2.2.1).isEmpty && decide ((mp_nm q.1.2.2.1).name ≠ "<init>") && mp_w q.2 (.methodLink (mp_on q.1.1) q.1.2.1 (mp_nm q.1.2.2.1))
    | 3 => (mp_rc q.1.2.2.1).isSome && (mp_hd q.1.2.2.1).isEmpty && decide ((mp_nm q.1.2.2.1).name = "<init>") && mp_w q.2 (.methodLink (mp_on q.1.1) q.1.2.1 (mp_nm q.1.2.2.1))
    | 4 => (mp_rc q.1.2.2.1).isSome && (mp_hd q.1.2.2.1).isEmpty && decide ((mp_nm q.1.2.2.1).name = "<init>") && mp_v q.2 (.methodLinkNest (mp_on q.1.1) q.1.2.1 (mp_nm q.1.2.2.1) "PassChain")
    | _ => false)
set_option maxRecDepth 100000 in
theorem mp_ca0 : ((mp_CA.drop 0).take 30).all mp_cak = true := by decide +kernel
set_option maxRecDepth 100000 in
theorem mp_ca1 : ((mp_CA.drop 30).take 30).all mp_cak = true := by decide +kernel
set_option maxRecDepth 100000 in
theorem mp_ca2 : ((mp_CA.drop 60).take 30).all mp_cak = true := by decide +kernel
set_option maxRecDepth 100000 in
theorem mp_ca3 : ((mp_CA.drop 90).take 30).all mp_cak = true := by decide +kernel
set_option maxRecDepth 100000 in
theorem mp_ca4 : ((mp_CA.drop 120).take 30).all mp_cak = true := by decide +kernel
set_option maxRecDepth 100000 in
theorem mp_ca5 : ((mp_CA.drop 150).take 30).all mp_cak = true := by decide +kernel
set_option maxRecDepth 100000 in
theorem mp_ca6 : ((mp_CA.drop 180).take 30).all mp_cak = true := by decide +kernel
set_option maxRecDepth 100000 in
theorem mp_ca7 : ((mp_CA.drop 210).take 30).all mp_cak = true := by decide +kernel
set_option maxRecDepth 100000 in
theorem mp_ca8 : ((mp_CA.drop 240).take 30).all mp_cak = true := by decide +kernel
set_option maxRecDepth 100000 in
theorem mp_ca9 : ((mp_CA.drop 270).take 30).all mp_cak = true := by decide +kernel
set_option maxRecDepth 100000 in
theorem mp_ca10 : ((mp_CA.drop 300).take 30).all mp_cak = true := by decide +kernel
set_option maxRecDepth 100000 in
theorem mp_ca11 : ((mp_CA.drop 330).take 30).all mp_cak = true := by decide +kernel
set_option maxRecDepth 100000 in
theorem mp_ca12 : ((mp_CA.drop 360).take 30).all mp_cak = true := by decide +kernel
theorem mp_cin {a n : Nat} (h : ((mp_CA.drop a).take n).all mp_cak = true) {j : Nat} {q : (Nat × Nat × Nat × Nat) × Nat} (hq : mp_CA[j]? = some q) (h1 : a ≤ j) (h2 : j < a + n) : mp_cak q = true := by
  refine List.all_eq_true.mp h q (List.mem_of_getElem? (i := j - a) ?_)
  rw [List.getElem?_take_of_lt (by omega), List.getElem?_drop, show a + (j - a) = j by omega]
  exact hq
set_option maxRecDepth 100000 in
theorem mp_CAk {q : (Nat × Nat × Nat × Nat) × Nat} (hq : q ∈ mp_CA) : mp_cak q = true := by
  obtain ⟨j, hj⟩ := List.mem_iff_getElem?.mp hq
  have hl : j < 371 := (List.getElem?_eq_some_iff.mp hj).1
  rcases (by omega : (0 ≤ j ∧ j < 0 + 30) ∨ (30 ≤ j ∧ j < 30 + 30) ∨ (60 ≤ j ∧ j < 60 + 30) ∨ (90 ≤ j ∧ j < 90 + 30) ∨ (120 ≤ j ∧ j < 120 + 30) ∨ (150 ≤ j ∧ j < 150 + 30) ∨ (180 ≤ j ∧ j < 180 + 30) ∨ (210 ≤ j ∧ j < 210 + 30) ∨ (240 ≤ j ∧ j < 240 + 30) ∨ (270 ≤ j ∧ j < 270 + 30) ∨ (300 ≤ j ∧ j < 300 + 30) ∨ (330 ≤ j ∧ j < 330 + 30) ∨ (360 ≤ j ∧ j < 360 + 30)) with z | z | z | z | z | z | z | z | z | z | z | z | z
  · exact mp_cin mp_ca0 hj z.1 z.2
  · exact mp_cin mp_ca1 hj z.1 z.2
  · exact mp_cin mp_ca2 hj z.1 z.2
  · exact mp_cin mp_ca3 hj z.1 z.2
  · exact mp_cin mp_ca4 hj z.1 z.2
  · exact mp_cin mp_ca5 hj z.1 z.2
  · exact mp_cin mp_ca6 hj z.1 z.2
  · exact mp_cin mp_ca7 hj z.1 z.2
  · exact mp_cin mp_ca8 hj z.1 z.2
  · exact mp_cin mp_ca9 hj z.1 z.2
  · exact mp_cin mp_ca10 hj z.1 z.2
  · exact mp_cin mp_ca11 hj z.1 z.2
  · exact mp_cin mp_ca12 hj z.1 z.2
def mp_ln (k : Nat) : MethodName := match k with
  | 1000 => Lib.objectInit
  | 1001 => Lib.Math.max.name
  | 1002 => Lib.Math.min.name
  | _ => arraycopyName
set_option maxRecDepth 100000 in
theorem mp_LIk : mp_LI.all (fun q => mp_w q.2 (.methodLink (mp_on q.1.1) q.1.2.1 (mp_ln q.1.2.2)) && decide (1000 ≤ q.1.2.2) && decide (q.1.2.2 ≤ 1003)) = true := by decide +kernel
theorem mp_l0 : mp_w 213 (.instanceMethod Lib.objectInit) = true := by decide +kernel
theorem mp_l1 : mp_w 214 (.code Lib.objectInit ⟨#[0xb1]⟩ 1 none) = true := by decide +kernel
theorem mp_l2 : mp_w 612 (.static Lib.Math.max.name) = true := by decide +kernel
theorem mp_l3 : mp_w 190 (.initialized "java/lang/Math") = true := by decide +kernel
theorem mp_l4 : mp_w 613 (.code Lib.Math.max.name Lib.Math.max.code 2 (some .int)) = true := by decide +kernel
theorem mp_l5 : mp_w 625 (.static Lib.Math.min.name) = true := by decide +kernel
theorem mp_l6 : mp_w 626 (.code Lib.Math.min.name Lib.Math.min.code 2 (some .int)) = true := by decide +kernel
theorem mp_l7 : mp_w 629 (.native arraycopyName) = true := by decide +kernel
theorem mp_l8 : mp_w 628 (.static arraycopyName) = true := by decide +kernel
theorem mp_l9 : mp_w 192 (.initialized "java/lang/System") = true := by decide +kernel
theorem mp_a0 : mp_w 283 (.arrayClass .int) = true := by decide +kernel
theorem mp_a1 : mp_w 326 (.arrayClass .long) = true := by decide +kernel
theorem mp_a2 : mp_w 241 (.arrayClass .char) = true := by decide +kernel
theorem mp_a3 : mp_w 327 (.arrayClass .boolean) = true := by decide +kernel
def mp_arn (t : Nat) : String := if t = 6 then "PassChain$Part" else "[" ++ (FieldType.array (mj_ty t)).toString
set_option maxRecDepth 100000 in
theorem mp_ARk : mp_AR.all (fun q => mp_w q.2 (.classLink (mp_on q.1.1) q.1.2.1 (mp_arn q.1.2.2)) && (decide (q.1.2.2 = 6) || decide (q.1.2.2 ≤ 1))) = true := by decide +kernel
def mp_ab : List Cond := [.arrayOver (.object "PassChain$Part"), .arrayOver (.array .int), .arrayOver (.array .long)]
def mp_td (w : Cond) : Bool := match w with
  | .declares y => decide (y = Bundle.initS "java/lang/RuntimeException") || decide (y = Bundle.initS "java/lang/Exception") || decide (y = Bundle.initS "java/lang/Throwable")
  | _ => false
def mp_thk (ic x ix : Nat) (rx : ByteArray) : Bool := (Bundle.ownAtomsX "PassChain" ic (mj_xn (100 + x)) ix rx mj_names).all (fun w => decide (w = .castable (mj_xn (100 + x)) (mj_xn (100 + x))) || decide (w = .laysStatic Bundle.tN "UNASSIGNED_STACK" Bundle.steD) || decide (w = .laysStatic Bundle.tN "SUPPRESSED_SENTINEL" Bundle.listD) || decide (w = .isRef (.static Bundle.tN "UNASSIGNED_STACK" Bundle.steD)) || decide (w = .isRef (.static Bundle.tN "SUPPRESSED_SENTINEL" Bundle.listD)) || mp_td w || (decide (w ∈ lw_tbl) && goodWord w))
theorem mp_di0 : mp_w 884 (.instanceMethod (Bundle.initS "java/lang/RuntimeException")) = true := by decide +kernel
theorem mp_dc0 : mp_w 885 (.code (Bundle.initS "java/lang/RuntimeException") prog_22_method_2_code 2 none) = true := by decide +kernel
theorem mp_di1 : mp_w 887 (.instanceMethod (Bundle.initS "java/lang/Exception")) = true := by decide +kernel
theorem mp_dc1 : mp_w 888 (.code (Bundle.initS "java/lang/Exception") prog_17_method_2_code 2 none) = true := by decide +kernel
theorem mp_di2 : mp_w 890 (.instanceMethod (Bundle.initS "java/lang/Throwable")) = true := by decide +kernel
theorem mp_dc2 : mp_w 891 (.code (Bundle.initS "java/lang/Throwable") prog_28_method_2_code 2 none) = true := by decide +kernel
theorem mp_thd {ic x ix : Nat} {rx : ByteArray} (h : mp_thk ic x ix rx = true) : ∀ w ∈ Bundle.ownAtomsX "PassChain" ic (mj_xn (100 + x)) ix rx mj_names, mj_Wt mp_tb (mj_xn (100 + x)) w := by
  intro w hw
  have h1 := List.all_eq_true.mp h w hw
  simp only [Bool.or_eq_true, Bool.and_eq_true, decide_eq_true_eq] at h1
  rcases h1 with (((((z | z) | z) | z) | z) | z) | z
  · exact Or.inr (Or.inl z)
  · exact Or.inr (Or.inr (Or.inl z))
  · exact Or.inr (Or.inr (Or.inr (Or.inl z)))
  · exact Or.inr (Or.inr (Or.inr (Or.inr (Or.inl z))))
  · exact Or.inr (Or.inr (Or.inr (Or.inr (Or.inr (Or.inl z)))))
  · unfold mp_td at z
    split at z
    · rename_i y
      simp only [Bool.or_eq_true, decide_eq_true_eq] at z
      rcases z with (rfl | rfl) | rfl
      · exact Or.inr (Or.inr (Or.inr (Or.inr (Or.inr (Or.inr ⟨_, _, rfl, mp_in mp_di0, mp_in mp_dc0⟩)))))
      · exact Or.inr (Or.inr (Or.inr (Or.inr (Or.inr (Or.inr ⟨_, _, rfl, mp_in mp_di1, mp_in mp_dc1⟩)))))
      · exact Or.inr (Or.inr (Or.inr (Or.inr (Or.inr (Or.inr ⟨_, _, rfl, mp_in mp_di2, mp_in mp_dc2⟩)))))
    · cases z
  · exact Or.inl (List.mem_filter.mpr z)
set_option maxRecDepth 100000 in
theorem mp_th0 : mp_thk 91 0 7 prog_18_method_2_code = true := by decide +kernel
theorem mp_tr0d : decode prog_18_method_2_code 0 = .ok (.aload_n 0, 1) ∧ decode prog_18_method_2_code 1 = .ok (.aload_n 1, 1) ∧ decode prog_18_method_2_code 2 = .ok (.invokespecial 7, 3) ∧ decode prog_18_method_2_code 5 = .ok (.return_, 1) := by decide +kernel
set_option maxRecDepth 100000 in
theorem mp_th1 : mp_thk 102 1 7 prog_19_method_2_code = true := by decide +kernel
theorem mp_tr1d : decode prog_19_method_2_code 0 = .ok (.aload_n 0, 1) ∧ decode prog_19_method_2_code 1 = .ok (.aload_n 1, 1) ∧ decode prog_19_method_2_code 2 = .ok (.invokespecial 7, 3) ∧ decode prog_19_method_2_code 5 = .ok (.return_, 1) := by decide +kernel
set_option maxRecDepth 100000 in
theorem mp_th2 : mp_thk 197 2 13 prog_30_method_4_code = true := by decide +kernel
theorem mp_tr2d : decode prog_30_method_4_code 0 = .ok (.aload_n 0, 1) ∧ decode prog_30_method_4_code 1 = .ok (.aload_n 1, 1) ∧ decode prog_30_method_4_code 2 = .ok (.invokespecial 13, 3) ∧ decode prog_30_method_4_code 5 = .ok (.return_, 1) := by decide +kernel
theorem mp_tl0 : mp_w 838 (.classLink "PassChain" 87 (mj_xn (100 + 0))) = true := by decide +kernel
theorem mp_ti0 : mp_w 196 (.initialized (mj_xn (100 + 0))) = true := by decide +kernel
theorem mp_tn0 : mp_w 839 (.instantiable (mj_xn (100 + 0)) 6) = true := by decide +kernel
theorem mp_tl1 : mp_w 923 (.classLink "PassChain" 98 (mj_xn (100 + 1))) = true := by decide +kernel
theorem mp_ti1 : mp_w 197 (.initialized (mj_xn (100 + 1))) = true := by decide +kernel
theorem mp_tn1 : mp_w 924 (.instantiable (mj_xn (100 + 1)) 6) = true := by decide +kernel
theorem mp_tl2 : mp_w 1604 (.classLink "PassChain" 193 (mj_xn (100 + 2))) = true := by decide +kernel
theorem mp_ti2 : mp_w 206 (.initialized (mj_xn (100 + 2))) = true := by decide +kernel
theorem mp_tn2 : mp_w 1605 (.instantiable (mj_xn (100 + 2)) 6) = true := by decide +kernel
def mp_tx0 (is : Nat) : Option String := (mp_tx.find? (fun q => decide (q.1 = "PassChain") && decide (q.2.1 = is))).map (fun q => q.2.2)
theorem mp_tx1 {is : Nat} (h : (mp_tx0 is).isSome = true) : ∃ text : String, ("PassChain", is, text) ∈ mp_tx := by
  obtain ⟨t, ht⟩ := Option.isSome_iff_exists.mp h
  obtain ⟨⟨a, b, c⟩, h1, h2⟩ := Option.map_eq_some_iff.mp ht
  have h3 := List.find?_some h1
  have h4 := List.mem_of_find?_eq_some h1
  simp only [Bool.and_eq_true, decide_eq_true_eq] at h3
  obtain ⟨rfl, rfl⟩ := h3
  exact ⟨c, h4⟩
theorem mp_THk : mp_TH.all (fun q => decide (q.1 = 0) && (mp_tx0 q.2.2.1).isSome && (decide (q.2.1 = 87 ∧ q.2.2.2.1 = 91 ∧ q.2.2.2.2 = 0) || decide (q.2.1 = 98 ∧ q.2.2.2.1 = 102 ∧ q.2.2.2.2 = 1) || decide (q.2.1 = 193 ∧ q.2.2.2.1 = 197 ∧ q.2.2.2.2 = 2))) = true := by decide +kernel
/-- a callee of the system -/
theorem mp_owl {own idx k way p : Nat} (h : mp_cak ((own, idx, k, way), p) = true) : (∃ r : Instr, (way = 0 ∧ r = .invokestatic idx ∨ way = 1 ∧ r = .invokestatic idx ∨ way = 2 ∧ r = .invokevirtual idx ∨ way = 3 ∧ r = .invokespecial idx ∨ way = 4 ∧ r = .invokespecial idx) ∧ mj_OwnL mp_tb mp_nb mp_cl mp_P mp_I (mp_on own) [] k r) ∧ (way = 2 → (mp_I.hd k).isEmpty = true ∧ (mp_P.rc k).isSome = true) := by
  obtain ⟨hz, h3⟩ := (Bool.and_eq_true _ _).mp h
  obtain ⟨h1, h2⟩ := (Bool.and_eq_true _ _).mp hz
  have h1 : 1 ≤ k := of_decide_eq_true h1
  have h2 : k < 309 := of_decide_eq_true h2
  dsimp only at h3
  have hk := mp_kck_all h1 h2
  have hc := mp_kcd_all h1 h2
  simp only [mp_kck, Bool.and_eq_true, decide_eq_true_eq] at hk
  obtain ⟨⟨⟨⟨⟨⟨⟨⟨⟨k1, k2⟩, k3⟩, k4⟩, k5⟩, k6⟩, k7⟩, k8⟩, k9⟩, k10⟩ := hk
  have kc1 : (mp_hd k).isEmpty = true → Cond.code (mp_nm k) (mp_bc k) (mp_mxl k) (mp_rt k) ∈ mp_tb := by
    intro z
    rw [mp_kcd, z] at hc
    exact List.mem_filter.mpr ⟨List.mem_of_getElem? hc, rfl⟩
  have kc2 : (mp_hd k).isEmpty = false → Cond.codeWith (mp_nm k) (mp_bc k) (mp_mxl k) (mp_rt k) (mp_hd k) ∈ mp_tb := by
    intro z
    rw [mp_kcd, z] at hc
    exact List.mem_filter.mpr ⟨List.mem_of_getElem? hc, rfl⟩
  have k8' : (mp_nm k).name = "<init>" → mp_rt k = none := by
    intro z
    rw [z] at k8
    simpa using k8
  have k5' : (mp_rc k).isSome = true → 1 ≤ mp_np k := by
    intro z
    rw [z] at k5
    simpa using k5
  have krc : ∀ ci, mp_rc k = some ci → ∃ (T : u_T) (N : Nat), mp_cl[ci]? = some ((mp_nm k).cls, T, N) := by
    intro ci z
    rw [z] at k9
    simp only [Bool.and_eq_true, decide_eq_true_eq] at k9
    exact ⟨_, _, k9.1.1.2 ▸ mp_clk k9.1.1.1⟩
  have mk : ∀ r : Instr, mj_Ln mp_tb mp_nb (mp_on own) (mp_nm k) (mp_np k) (!(mp_hd k).isEmpty) (mp_rc k).isSome r → mj_OwnL mp_tb mp_nb mp_cl mp_P mp_I (mp_on own) [] k r := fun r hr => ⟨hr, k6, k7, k8', krc, kc1, kc2, Or.inl rfl⟩
  have kst : (mp_rc k).isSome = false → Cond.static (mp_nm k) ∈ mp_tb := by
    intro z
    rw [Option.isSome_eq_false_iff, Option.isNone_iff_eq_none] at z
    rw [z] at k9
    exact mp_in k9
  have kin : (mp_rc k).isSome = true → Cond.instanceMethod (mp_nm k) ∈ mp_tb ∧ ((mp_nm k).name ≠ "<init>" → Cond.selects (mp_nm k).cls (mp_nm k) (mp_nm k) ∈ mp_tb) := by
    intro z
    obtain ⟨ci, z⟩ := Option.isSome_iff_exists.mp z
    rw [z] at k9
    simp only [Bool.and_eq_true, Bool.or_eq_true, decide_eq_true_eq] at k9
    exact ⟨mp_in k9.1.2, fun q => mp_in (k9.2.resolve_left q)⟩
  match way, h3 with
  | 0, h3 =>
    simp only [Bool.and_eq_true, Bool.not_eq_true'] at h3
    exact ⟨⟨_, Or.inl ⟨rfl, rfl⟩, mk _ ⟨mp_in k1, ⟨k2, k3⟩, k4, k5', idx, Or.inl ⟨h3.1, rfl, mp_in h3.2, kst h3.1⟩⟩⟩, fun z => by omega⟩
  | 1, h3 =>
    simp only [Bool.and_eq_true, Bool.not_eq_true'] at h3
    exact ⟨⟨_, Or.inr (Or.inl ⟨rfl, rfl⟩), mk _ ⟨mp_in k1, ⟨k2, k3⟩, k4, k5', idx, Or.inr (Or.inl ⟨h3.1.1, by rw [h3.1.2]; rfl, rfl, kst h3.1.1, _, mp_inb h3.2⟩)⟩⟩, fun z => by omega⟩
  | 2, h3 =>
    simp only [Bool.and_eq_true, decide_eq_true_eq] at h3
    have z := kin h3.1.1.1
    exact ⟨⟨_, Or.inr (Or.inr (Or.inl ⟨rfl, rfl⟩)), mk _ ⟨mp_in k1, ⟨k2, k3⟩, k4, k5', idx, Or.inr (Or.inr (Or.inl ⟨h3.1.1.1, by rw [h3.1.1.2]; rfl, rfl, mp_in h3.2, z.1, z.2 h3.1.2⟩))⟩⟩, fun _ => ⟨h3.1.1.2, h3.1.1.1⟩⟩
  | 3, h3 =>
    simp only [Bool.and_eq_true, decide_eq_true_eq] at h3
    have z := kin h3.1.1.1
    exact ⟨⟨_, Or.inr (Or.inr (Or.inr (Or.inl ⟨rfl, rfl⟩))), mk _ ⟨mp_in k1, ⟨k2, k3⟩, k4, k5', idx, Or.inr (Or.inr (Or.inr (Or.inl ⟨h3.1.1.1, by rw [h3.1.1.2]; rfl, rfl, h3.1.2, mp_in h3.2, z.1⟩)))⟩⟩, fun z => by omega⟩
  | 4, h3 =>
    simp only [Bool.and_eq_true, decide_eq_true_eq] at h3
    have z := kin h3.1.1.1
    exact ⟨⟨_, Or.inr (Or.inr (Or.inr (Or.inr ⟨rfl, rfl⟩))), mk _ ⟨mp_in k1, ⟨k2, k3⟩, k4, k5', idx, Or.inr (Or.inr (Or.inr (Or.inr ⟨h3.1.1.1, by rw [h3.1.1.2]; rfl, rfl, h3.1.2, z.1, _, mp_inb h3.2⟩)))⟩⟩, fun z => by omega⟩
  | _ + 5, h3 => cases h3
theorem mp_tbok : mj_TbOk mp_B mp_tb mp_nb mp_ab mp_cl mp_P mp_I mp_on mp_fin := by
  refine ⟨fun q hq => ?_, fun q hq => ?_, fun q hq => ?_, fun q hq => ?_, fun q hq => ?_, fun q hq => ?_, fun q hq => ?_, fun q hq => ?_, fun q hq => ?_, ⟨mp_in mp_a0, mp_in mp_a1, mp_in mp_a2, mp_in mp_a3⟩, _, _, mp_clk (ci := 3) (by omega)⟩
  · obtain ⟨⟨q, p⟩, h1, rfl⟩ := List.mem_map.mp hq
    have h2 := List.all_eq_true.mp mp_FLk _ h1
    simp only [Bool.and_eq_true, decide_eq_true_eq] at h2
    exact ⟨_, _, _, mp_cok h2.1.1.2, h2.1.2, mp_in h2.1.1.1, rfl, h2.2⟩
  · obtain ⟨⟨q, p⟩, h1, rfl⟩ := List.mem_map.mp hq
    have h2 := List.all_eq_true.mp mp_CLk _ h1
    simp only [Bool.and_eq_true, decide_eq_true_eq] at h2
    exact ⟨_, _, _, mp_cok h2.2, mp_in h2.1⟩
  · obtain ⟨⟨q, p⟩, h1, rfl⟩ := List.mem_map.mp hq
    exact mp_in (List.all_eq_true.mp mp_KIk _ h1)
  · obtain ⟨⟨q, p⟩, h1, rfl⟩ := List.mem_map.mp hq
    exact mp_in (List.all_eq_true.mp mp_KLk _ h1)
  · have hq : q ∈ mp_SL := hq
    simp only [mp_SL, List.mem_cons, List.not_mem_nil, or_false] at hq
    rcases hq with rfl | rfl | rfl
    · exact ⟨_, _, _, _, mp_inb mp_s0, List.mem_cons_of_mem _ (List.mem_cons_of_mem _ List.mem_cons_self)⟩
    · exact ⟨_, _, _, _, mp_inb mp_s1, List.mem_cons_self⟩
    · exact ⟨_, _, _, _, mp_inb mp_s2, List.mem_cons_of_mem _ List.mem_cons_self⟩
  · obtain ⟨⟨⟨own, idx, k, way⟩, p⟩, h1, rfl⟩ := List.mem_map.mp hq
    exact mp_owl (mp_CAk h1)
  · obtain ⟨⟨⟨own, idx, k⟩, p⟩, h1, rfl⟩ := List.mem_map.mp hq
    have h2 := List.all_eq_true.mp mp_LIk _ h1
    simp only [Bool.and_eq_true, decide_eq_true_eq] at h2
    obtain ⟨⟨h2, h3⟩, h4⟩ := h2
    rcases (by omega : k = 1000 ∨ k = 1001 ∨ k = 1002 ∨ k = 1003) with rfl | rfl | rfl | rfl
    · exact ⟨_, Or.inl ⟨rfl, rfl⟩, idx, Or.inl ⟨rfl, rfl, rfl, mp_in h2, mp_in mp_l0, mp_in mp_l1⟩⟩
    · exact ⟨_, Or.inr ⟨by dsimp only; omega, rfl⟩, idx, Or.inr (Or.inl ⟨rfl, rfl, rfl, mp_in h2, mp_in mp_l2, mp_in mp_l3, mp_in mp_l4⟩)⟩
    · exact ⟨_, Or.inr ⟨by dsimp only; omega, rfl⟩, idx, Or.inr (Or.inr (Or.inl ⟨rfl, rfl, rfl, mp_in h2, mp_in mp_l5, mp_in mp_l3, mp_in mp_l6⟩))⟩
    · exact ⟨_, Or.inr ⟨by dsimp only; omega, rfl⟩, idx, Or.inr (Or.inr (Or.inr ⟨rfl, rfl, rfl, mp_in h2, mp_in mp_l7, mp_in mp_l8, mp_in mp_l9⟩))⟩
  · have hq : q ∈ mp_TH := hq
    have h2 := List.all_eq_true.mp mp_THk _ hq
    obtain ⟨o, ik, is, ic, x⟩ := q
    simp only [Bool.and_eq_true, Bool.or_eq_true, decide_eq_true_eq] at h2
    obtain ⟨⟨rfl, ht⟩, h3⟩ := h2
    rcases h3 with (⟨rfl, rfl, rfl⟩ | ⟨rfl, rfl, rfl⟩) | ⟨rfl, rfl, rfl⟩
    · exact ⟨mp_in mp_tl0, mp_in mp_ti0, mp_tx1 ht, _, _, mp_tr0d.1, mp_tr0d.2.1, mp_tr0d.2.2.1, mp_tr0d.2.2.2, mp_thd mp_th0⟩
    · exact ⟨mp_in mp_tl1, mp_in mp_ti1, mp_tx1 ht, _, _, mp_tr1d.1, mp_tr1d.2.1, mp_tr1d.2.2.1, mp_tr1d.2.2.2, mp_thd mp_th1⟩
    · exact ⟨mp_in mp_tl2, mp_in mp_ti2, mp_tx1 ht, _, _, mp_tr2d.1, mp_tr2d.2.1, mp_tr2d.2.2.1, mp_tr2d.2.2.2, mp_thd mp_th2⟩
  · obtain ⟨⟨⟨own, idx, t⟩, p⟩, h1, rfl⟩ := List.mem_map.mp hq
    have h2 := List.all_eq_true.mp mp_ARk _ h1
    simp only [Bool.and_eq_true, Bool.or_eq_true, decide_eq_true_eq] at h2
    rcases h2.2 with rfl | ht
    · exact Or.inl ⟨rfl, mp_in h2.1, List.mem_cons_self⟩
    · rcases (by omega : t = 0 ∨ t = 1) with rfl | rfl
      · exact Or.inr ⟨ht, mp_in h2.1, List.mem_cons_of_mem _ List.mem_cons_self, mp_in mp_a0⟩
      · exact Or.inr ⟨ht, mp_in h2.1, List.mem_cons_of_mem _ (List.mem_cons_of_mem _ List.mem_cons_self), mp_in mp_a1⟩
