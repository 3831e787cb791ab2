/-! the words, by their places -/
def mp_tb : List Cond := lw_tbl.filter goodWord
def mp_nb : List Cond := lw_tbl.filter mj_nestW
def mp_w (p : Nat) (w : Cond) : Bool := decide (lw_tbl[p]? = some w) && goodWord w
theorem mp_in {p : Nat} {w : Cond} (h : mp_w p w = true) : w ∈ mp_tb := by
  simp only [mp_w, Bool.and_eq_true, decide_eq_true_eq] at h
  exact List.mem_filter.mpr ⟨List.mem_of_getElem? h.1, h.2⟩
def mp_v (p : Nat) (w : Cond) : Bool := decide (lw_tbl[p]? = some w) && mj_nestW w
theorem mp_inb {p : Nat} {w : Cond} (h : mp_v p w = true) : w ∈ mp_nb := by
  simp only [mp_v, Bool.and_eq_true, decide_eq_true_eq] at h
  exact List.mem_filter.mpr ⟨List.mem_of_getElem? h.1, h.2⟩
def mp_Tf (ci : Nat) : u_T := fun k => (mp_fs ci).getD k ("", "", "", false)
def mp_lp (ci : Nat) : List Nat := (bif Nat.blt ci 6 then (bif Nat.blt ci 3 then (bif Nat.blt ci 1 then [553, 555, 557, 559, 561, 563, 565, 567, 569, 571, 573, 575, 577] else (bif Nat.blt ci 2 then [228, 230, 232, 234, 236, 238] else [294, 296])) else (bif Nat.blt ci 4 then [274, 276, 278, 280] else (bif Nat.blt ci 5 then [313, 315, 317, 319, 321, 323] else [363, 365, 367, 369, 371]))) else (bif Nat.blt ci 9 then (bif Nat.blt ci 7 then [347, 349, 351, 353, 355] else (bif Nat.blt ci 8 then [382, 384] else [435, 437, 439, 441, 443, 445, 447, 449, 451, 453, 455, 457, 459])) else (bif Nat.blt ci 11 then (bif Nat.blt ci 10 then [407, 409, 411, 413, 415] else [474, 476, 478, 480, 482]) else (bif Nat.blt ci 12 then [511, 513, 515, 517, 519, 521, 523, 525, 527, 529, 531, 533, 535, 537] else [1819, 1821, 1823, 1825, 1827, 1829, 1831, 1833, 1835, 1837, 1839, 1841, 1843, 1845, 1847, 1849, 1851, 1853, 1855, 1857, 1859, 1861, 1863, 1865, 1867, 1869, 1871, 1873, 1875, 1877, 1879, 1881, 1883, 1885, 1887, 1889, 1891, 1893, 1895, 1897, 1899, 1901, 1903, 1905, 1907, 1909, 1911, 1913, 1915, 1917, 1919, 1921, 1923, 1925, 1927, 1929, 1931, 1933, 1935, 1937, 1939, 1941, 1943, 1945, 1947, 1949, 1951, 1953, 1955, 1957, 1959, 1961, 1963, 1965, 1967, 1969, 1971, 1973, 1975, 1977, 1979, 1981, 1983, 1985, 1987, 1989, 1991, 1993, 1995, 1997, 1999, 2001, 2003, 2005, 2007, 2009, 2011, 2013, 2015]))))
def mp_ip (ci : Nat) : Nat × Nat := (bif Nat.blt ci 6 then (bif Nat.blt ci 3 then (bif Nat.blt ci 1 then (208, 177) else (bif Nat.blt ci 2 then (216, 178) else (243, 179))) else (bif Nat.blt ci 4 then (250, 180) else (bif Nat.blt ci 5 then (300, 181) else (329, 182)))) else (bif Nat.blt ci 9 then (bif Nat.blt ci 7 then (335, 183) else (bif Nat.blt ci 8 then (375, 184) else (388, 185))) else (bif Nat.blt ci 11 then (bif Nat.blt ci 10 then (396, 186) else (463, 187)) else (bif Nat.blt ci 12 then (486, 188) else (1715, 189)))))
def mp_cck (ci : Nat) : Bool := (List.range (mp_fs ci).length).all (fun k => mp_w ((mp_lp ci).getD k 0) (u_lay (mp_on ci) (mp_Tf ci) k) && decide (parseFieldDescriptor (mp_Tf ci k).2.2.1 = some (mp_tyf ci k))) && decide ((mp_ys ci).length = (mp_fs ci).length) && mp_w (mp_ip ci).1 (.instantiable (mp_on ci) (mp_fs ci).length) && mp_w (mp_ip ci).2 (.initialized (mp_on ci))
def mp_nd (ci : Nat) : Bool := decide (((mp_fs ci).map (fun q => q.2.1)).Pairwise (fun a b => a ≠ b))
set_option maxRecDepth 100000 in
theorem mp_cc0 : mp_cck 0 = true := by decide +kernel
set_option maxRecDepth 100000 in
theorem mp_cn0 : mp_nd 0 = true := by decide +kernel
set_option maxRecDepth 100000 in
theorem mp_cc1 : mp_cck 1 = true := by decide +kernel
set_option maxRecDepth 100000 in
theorem mp_cn1 : mp_nd 1 = true := by decide +kernel
set_option maxRecDepth 100000 in
theorem mp_cc2 : mp_cck 2 = true := by decide +kernel
set_option maxRecDepth 100000 in
theorem mp_cn2 : mp_nd 2 = true := by decide +kernel
set_option maxRecDepth 100000 in
theorem mp_cc3 : mp_cck 3 = true := by decide +kernel
set_option maxRecDepth 100000 in
theorem mp_cn3 : mp_nd 3 = true := by decide +kernel
set_option maxRecDepth 100000 in
theorem mp_cc4 : mp_cck 4 = true := by decide +kernel
set_option maxRecDepth 100000 in
theorem mp_cn4 : mp_nd 4 = true := by decide +kernel
set_option maxRecDepth 100000 in
theorem mp_cc5 : mp_cck 5 = true := by decide +kernel
set_option maxRecDepth 100000 in
theorem mp_cn5 : mp_nd 5 = true := by decide +kernel
set_option maxRecDepth 100000 in
theorem mp_cc6 : mp_cck 6 = true := by decide +kernel
set_option maxRecDepth 100000 in
theorem mp_cn6 : mp_nd 6 = true := by decide +kernel
set_option maxRecDepth 100000 in
theorem mp_cc7 : mp_cck 7 = true := by decide +kernel
set_option maxRecDepth 100000 in
theorem mp_cn7 : mp_nd 7 = true := by decide +kernel
set_option maxRecDepth 100000 in
theorem mp_cc8 : mp_cck 8 = true := by decide +kernel
set_option maxRecDepth 100000 in
theorem mp_cn8 : mp_nd 8 = true := by decide +kernel
set_option maxRecDepth 100000 in
theorem mp_cc9 : mp_cck 9 = true := by decide +kernel
set_option maxRecDepth 100000 in
theorem mp_cn9 : mp_nd 9 = true := by decide +kernel
set_option maxRecDepth 100000 in
theorem mp_cc10 : mp_cck 10 = true := by decide +kernel
set_option maxRecDepth 100000 in
theorem mp_cn10 : mp_nd 10 = true := by decide +kernel
set_option maxRecDepth 100000 in
theorem mp_cc11 : mp_cck 11 = true := by decide +kernel
set_option maxRecDepth 100000 in
theorem mp_cn11 : mp_nd 11 = true := by decide +kernel
set_option maxRecDepth 100000 in
theorem mp_cc12 : mp_cck 12 = true := by decide +kernel
set_option maxRecDepth 100000 in
theorem mp_cn12 : mp_nd 12 = true := by decide +kernel
theorem mp_ci {Q : Nat → Prop} (h0 : Q 0) (h1 : Q 1) (h2 : Q 2) (h3 : Q 3) (h4 : Q 4) (h5 : Q 5) (h6 : Q 6) (h7 : Q 7) (h8 : Q 8) (h9 : Q 9) (h10 : Q 10) (h11 : Q 11) (h12 : Q 12) {ci : Nat} (h : ci < 13) : Q ci := by
  rcases (by omega : ci = 0 ∨ ci = 1 ∨ ci = 2 ∨ ci = 3 ∨ ci = 4 ∨ ci = 5 ∨ ci = 6 ∨ ci = 7 ∨ ci = 8 ∨ ci = 9 ∨ ci = 10 ∨ ci = 11 ∨ ci = 12) with rfl | rfl | rfl | rfl | rfl | rfl | rfl | rfl | rfl | rfl | rfl | rfl | rfl
  all_goals assumption
theorem mp_clk {ci : Nat} (h : ci < 13) : mp_cl[ci]? = some (mp_on ci, mp_Tf ci, (mp_fs ci).length) := mp_ci (Q := fun ci => mp_cl[ci]? = some (mp_on ci, mp_Tf ci, (mp_fs ci).length)) rfl rfl rfl rfl rfl rfl rfl rfl rfl rfl rfl rfl rfl h
theorem mp_cca {ci : Nat} (h : ci < 13) : mp_cck ci = true := mp_ci (Q := fun ci => mp_cck ci = true) mp_cc0 mp_cc1 mp_cc2 mp_cc3 mp_cc4 mp_cc5 mp_cc6 mp_cc7 mp_cc8 mp_cc9 mp_cc10 mp_cc11 mp_cc12 h
theorem mp_cna {ci : Nat} (h : ci < 13) : mp_nd ci = true := mp_ci (Q := fun ci => mp_nd ci = true) mp_cn0 mp_cn1 mp_cn2 mp_cn3 mp_cn4 mp_cn5 mp_cn6 mp_cn7 mp_cn8 mp_cn9 mp_cn10 mp_cn11 mp_cn12 h
theorem mp_cok {ci : Nat} (h : ci < 13) : mj_ClOk mp_tb mp_cl mp_tyf mp_dfl ci (mp_on ci) (mp_Tf ci) (mp_fs ci).length := by
  have h1 := mp_cca h
  simp only [mp_cck, Bool.and_eq_true, decide_eq_true_eq, List.all_eq_true, List.mem_range] at h1
  obtain ⟨⟨⟨g1, g2⟩, g3⟩, g4⟩ := h1
  refine ⟨mp_clk h, by omega, fun w hw => ?_, fun k hk => (g1 k hk).2, fun a ha b hb hab => ?_, ?_, fun j hj => ?_, fun v hv a => ?_, mp_in g3, mp_in g4⟩
  · obtain ⟨k, hk, rfl⟩ := List.mem_map.mp hw
    exact mp_in (g1 k (List.mem_range.mp hk)).1
  · have hn := mp_cna h
    simp only [mp_nd, decide_eq_true_eq] at hn
    have key : ∀ x y, x < y → x < (mp_fs ci).length → y < (mp_fs ci).length → (mp_Tf ci x).2.1 ≠ (mp_Tf ci y).2.1 := by
      intro x y hxy hx hy
      have := List.pairwise_iff_getElem.mp hn x y (by simpa using hx) (by simpa using hy) hxy
      simpa [mp_Tf, hx, hy] using this
    rcases Nat.lt_or_gt_of_ne hab with z | z
    · exact key a b z ha hb
    · exact (key b a z hb ha).symm
  · simp [mp_dfl, g2]
  · have hj2 : j < (mp_ys ci).length := by rw [g2]; exact hj
    simp [mp_tyf, mp_dfl, vp_V, hj2]
  · obtain ⟨ty, -, rfl⟩ := List.mem_map.mp hv
    cases ty <;> simp [defaultValue]
