/-! the law's entry -/
def mp_fl : List Cond := flatC (Jvm.Cond.and given_1 narrow_1)
theorem mp_stat {args : Array Value} {s : State} {tm : Term} {vs : List Int32} (hn : vs.length < 2 ^ 31) (harr : (Cond.arrayOf tm .int).before args s = true) (hlen : (Cond.eq (.length tm) (.int (Int32.ofNat vs.length))).before args s = true) (hel : ∀ j z, vs[j]? = some z → (Cond.eq (.elem tm (.int (Int32.ofNat j))) (.int z)).before args s = true) : ∃ (t : Nat) (cell : Cell), tm.eval args s none [] s = some (.ref t) ∧ s.heap[t]? = some cell ∧ s.isArrayOf cell .int ∧ cell.vm ≠ .unknown ∧ cell.slots.toList = vs.map Value.int := by
  have hl := va_eqt hlen
  obtain ⟨t, ht, cell, hc, hof, hkn, hle, hsz, hval, -⟩ := va_Tof (N := vs.length) (f := fun j => .int (vs.getD j 0)) (A := fun _ => False) hn harr hl (fun j hj => va_eqt (hel j (vs.getD j 0) (by simp [hj]))) (fun _ _ => id)
  obtain ⟨t2, cell2, ht2, hat, -⟩ := Term.length_spec hl
  cases ht.symm.trans ht2
  obtain ⟨hc2, -, -, -⟩ := State.arrayAt?_spec hat
  cases hc.symm.trans hc2
  have hs31 : cell.slots.size < 2 ^ 31 := by
    simp only [Term.eval, ht, hat, Option.bind_eq_bind, Option.bind_some] at hl
    by_cases hlt : cell.slots.size < 2147483648
    · exact hlt
    · simp [hlt] at hl
  have hse : cell.slots.size = vs.length := by
    have h9 := congrArg Int32.toNatClampNeg hsz
    rw [Int32.toNatClampNeg_ofNat_of_lt hn] at h9
    rw [← h9]
    exact (Int32.toNatClampNeg_ofNat_of_lt hs31).symm
  refine ⟨t, cell, ht, hc, hof, hkn, List.ext_getElem? fun j => ?_⟩
  rw [Array.getElem?_toList]
  by_cases hj : j < vs.length
  · rw [hval j hj]
    simp [hj]
  · rw [Array.getElem?_eq_none (by omega), List.getElem?_eq_none (by simp; omega)]
def mp_s1v : List Int32 := [0, 1, 2, 1, 2, 0, 1, 1, 1, 0, 0, 1, 0]
set_option maxRecDepth 100000 in
theorem mp_n0a : Cond.arrayOf (.static "PassChain" "READS_OF" "[I") .int ∈ mp_fl := List.mem_of_getElem? (i := 5) (by decide +kernel)
set_option maxRecDepth 100000 in
theorem mp_n0l : Cond.eq (.length (.static "PassChain" "READS_OF" "[I")) (.int 13) ∈ mp_fl := List.mem_of_getElem? (i := 6) (by decide +kernel)
set_option maxRecDepth 100000 in
theorem mp_n0e : (List.range 13).all (fun j => decide (mp_fl[7 + j]? = some (Cond.eq (.elem (.static "PassChain" "READS_OF" "[I") (.int (Int32.ofNat j))) (.int (mp_s1v.getD j 0))))) = true := by decide +kernel
def mp_s2v : List Int32 := [0, 1, 1, 1, 0, 0, 0, 0, 0, 0, 0, 0, 0]
set_option maxRecDepth 100000 in
theorem mp_n1a : Cond.arrayOf (.static "PassChain" "FIRST_READ_OF" "[I") .int ∈ mp_fl := List.mem_of_getElem? (i := 21) (by decide +kernel)
set_option maxRecDepth 100000 in
theorem mp_n1l : Cond.eq (.length (.static "PassChain" "FIRST_READ_OF" "[I")) (.int 13) ∈ mp_fl := List.mem_of_getElem? (i := 22) (by decide +kernel)
set_option maxRecDepth 100000 in
theorem mp_n1e : (List.range 13).all (fun j => decide (mp_fl[23 + j]? = some (Cond.eq (.elem (.static "PassChain" "FIRST_READ_OF" "[I") (.int (Int32.ofNat j))) (.int (mp_s2v.getD j 0))))) = true := by decide +kernel
def mp_s3v : List Int32 := [2, 2, 4, 2, 2, 1, 1, 2, 1, 0, 0, 1, 0]
set_option maxRecDepth 100000 in
theorem mp_n2a : Cond.arrayOf (.static "PassChain" "NUMBERS_OF" "[I") .int ∈ mp_fl := List.mem_of_getElem? (i := 250) (by decide +kernel)
set_option maxRecDepth 100000 in
theorem mp_n2l : Cond.eq (.length (.static "PassChain" "NUMBERS_OF" "[I")) (.int 13) ∈ mp_fl := List.mem_of_getElem? (i := 251) (by decide +kernel)
set_option maxRecDepth 100000 in
theorem mp_n2e : (List.range 13).all (fun j => decide (mp_fl[252 + j]? = some (Cond.eq (.elem (.static "PassChain" "NUMBERS_OF" "[I") (.int (Int32.ofNat j))) (.int (mp_s3v.getD j 0))))) = true := by decide +kernel
def mp_h0 (L : Nat) (xs : Nat → Int32) : mj_H := [(true, 0, (List.range L).map (fun j => .int (xs j))), (true, 0, mp_s1v.map .int), (true, 0, mp_s2v.map .int), (true, 0, mp_s3v.map .int)]
theorem mp_n0 {args : Array Value} {s : State} (hs : ∀ w ∈ mp_fl, w.before args s = true) : ∃ (t : Nat) (cell : Cell), (Term.static "PassChain" "READS_OF" "[I").eval args s none [] s = some (.ref t) ∧ s.heap[t]? = some cell ∧ s.isArrayOf cell .int ∧ cell.vm ≠ .unknown ∧ cell.slots.toList = mp_s1v.map Value.int := by
  refine mp_stat (by decide) (hs _ mp_n0a) (hs _ mp_n0l) (fun j z hj => ?_)
  have hl : j < 13 := (List.getElem?_eq_some_iff.mp hj).1
  have h1 := List.all_eq_true.mp mp_n0e j (List.mem_range.mpr hl)
  simp only [decide_eq_true_eq] at h1
  have hz : mp_s1v.getD j 0 = z := by simp [List.getD, hj]
  rw [hz] at h1
  exact hs _ (List.mem_of_getElem? h1)
theorem mp_n1 {args : Array Value} {s : State} (hs : ∀ w ∈ mp_fl, w.before args s = true) : ∃ (t : Nat) (cell : Cell), (Term.static "PassChain" "FIRST_READ_OF" "[I").eval args s none [] s = some (.ref t) ∧ s.heap[t]? = some cell ∧ s.isArrayOf cell .int ∧ cell.vm ≠ .unknown ∧ cell.slots.toList = mp_s2v.map Value.int := by
  refine mp_stat (by decide) (hs _ mp_n1a) (hs _ mp_n1l) (fun j z hj => ?_)
  have hl : j < 13 := (List.getElem?_eq_some_iff.mp hj).1
  have h1 := List.all_eq_true.mp mp_n1e j (List.mem_range.mpr hl)
  simp only [decide_eq_true_eq] at h1
  have hz : mp_s2v.getD j 0 = z := by simp [List.getD, hj]
  rw [hz] at h1
  exact hs _ (List.mem_of_getElem? h1)
theorem mp_n2 {args : Array Value} {s : State} (hs : ∀ w ∈ mp_fl, w.before args s = true) : ∃ (t : Nat) (cell : Cell), (Term.static "PassChain" "NUMBERS_OF" "[I").eval args s none [] s = some (.ref t) ∧ s.heap[t]? = some cell ∧ s.isArrayOf cell .int ∧ cell.vm ≠ .unknown ∧ cell.slots.toList = mp_s3v.map Value.int := by
  refine mp_stat (by decide) (hs _ mp_n2a) (hs _ mp_n2l) (fun j z hj => ?_)
  have hl : j < 13 := (List.getElem?_eq_some_iff.mp hj).1
  have h1 := List.all_eq_true.mp mp_n2e j (List.mem_range.mpr hl)
  simp only [decide_eq_true_eq] at h1
  have hz : mp_s3v.getD j 0 = z := by simp [List.getD, hj]
  rw [hz] at h1
  exact hs _ (List.mem_of_getElem? h1)
set_option maxRecDepth 100000 in
theorem mp_nc01 : Cond.not (.castable (mj_xn (100 + 0)) (mj_xn (100 + 1))) ∈ mp_fl := List.mem_of_getElem? (i := 295) (by decide +kernel)
set_option maxRecDepth 100000 in
theorem mp_nc02 : Cond.not (.castable (mj_xn (100 + 0)) (mj_xn (100 + 2))) ∈ mp_fl := List.mem_of_getElem? (i := 312) (by decide +kernel)
set_option maxRecDepth 100000 in
theorem mp_nc10 : Cond.not (.castable (mj_xn (100 + 1)) (mj_xn (100 + 0))) ∈ mp_fl := List.mem_of_getElem? (i := 278) (by decide +kernel)
set_option maxRecDepth 100000 in
theorem mp_nc12 : Cond.not (.castable (mj_xn (100 + 1)) (mj_xn (100 + 2))) ∈ mp_fl := List.mem_of_getElem? (i := 313) (by decide +kernel)
set_option maxRecDepth 100000 in
theorem mp_nc20 : Cond.not (.castable (mj_xn (100 + 2)) (mj_xn (100 + 0))) ∈ mp_fl := List.mem_of_getElem? (i := 281) (by decide +kernel)
set_option maxRecDepth 100000 in
theorem mp_nc21 : Cond.not (.castable (mj_xn (100 + 2)) (mj_xn (100 + 1))) ∈ mp_fl := List.mem_of_getElem? (i := 298) (by decide +kernel)
set_option maxRecDepth 100000 in
theorem mp_nu : Cond.isRef (.static Bundle.tN "UNASSIGNED_STACK" Bundle.steD) ∈ mp_fl := List.mem_of_getElem? (i := 36) (by decide +kernel)
set_option maxRecDepth 100000 in
theorem mp_ns : Cond.isRef (.static Bundle.tN "SUPPRESSED_SENTINEL" Bundle.listD) ∈ mp_fl := List.mem_of_getElem? (i := 37) (by decide +kernel)
def mp_xp : List (Nat × Nat) := [(316, 879), (342, 932), (381, 946), (459, 1581), (509, 1594), (556, 1613), (581, 1620), (609, 1629), (648, 1645), (685, 1713)]
set_option maxRecDepth 100000 in
theorem mp_xk : (List.range 10).all (fun j => decide (mp_fl[(mp_xp.getD j (0, 0)).1]? = some (Cond.exactly (.string (mp_tx.getD j ("", 0, "")).1 (mp_tx.getD j ("", 0, "")).2.1) "java/lang/String")) && decide (lw_tbl[(mp_xp.getD j (0, 0)).2]? = some (Cond.stringRef (mp_tx.getD j ("", 0, "")).1 (mp_tx.getD j ("", 0, "")).2.1 (mp_tx.getD j ("", 0, "")).2.2))) = true := by decide +kernel
theorem mp_xs {args : Array Value} {s : State} (hs : ∀ w ∈ mp_fl, w.before args s = true) (hts : ∀ w ∈ lw_tbl, w.before args s = true) : ∀ q ∈ mp_tx, ∃ sa : Nat, vk_R q.1 q.2.1 q.2.2 sa s := by
  intro q hq
  obtain ⟨j, hj⟩ := List.mem_iff_getElem?.mp hq
  have hl : j < 10 := (List.getElem?_eq_some_iff.mp hj).1
  have h1 := List.all_eq_true.mp mp_xk j (List.mem_range.mpr hl)
  simp only [Bool.and_eq_true, decide_eq_true_eq] at h1
  have hz : mp_tx.getD j ("", 0, "") = q := by simp [List.getD, hj]
  rw [hz] at h1
  have h2 := hs _ (List.mem_of_getElem? h1.1)
  obtain ⟨a, -, -, -, h3, -⟩ := Cond.exactly_spec h2
  exact ⟨a, vk_R.of (hts _ (List.mem_of_getElem? h1.2)) h3⟩
theorem mp_ly0 : Cond.laysStatic "PassChain" "READS_OF" "[I" ∈ lw_tbl := List.mem_of_getElem? (i := 673) (by decide +kernel)
theorem mp_ly1 : Cond.laysStatic "PassChain" "FIRST_READ_OF" "[I" ∈ lw_tbl := List.mem_of_getElem? (i := 680) (by decide +kernel)
theorem mp_ly2 : Cond.laysStatic "PassChain" "NUMBERS_OF" "[I" ∈ lw_tbl := List.mem_of_getElem? (i := 1579) (by decide +kernel)
theorem mp_lyu : Cond.laysStatic Bundle.tN "UNASSIGNED_STACK" Bundle.steD ∈ lw_tbl := List.mem_of_getElem? (i := 865) (by decide +kernel)
theorem mp_lys : Cond.laysStatic Bundle.tN "SUPPRESSED_SENTINEL" Bundle.listD ∈ lw_tbl := List.mem_of_getElem? (i := 867) (by decide +kernel)
theorem mp_ao0 : Cond.arrayOver (.object "PassChain$Part") ∈ lw_tbl := List.mem_of_getElem? (i := 249) (by decide +kernel)
theorem mp_ao1 : Cond.arrayOver (.array .int) ∈ lw_tbl := List.mem_of_getElem? (i := 419) (by decide +kernel)
theorem mp_ao2 : Cond.arrayOver (.array .long) ∈ lw_tbl := List.mem_of_getElem? (i := 306) (by decide +kernel)
