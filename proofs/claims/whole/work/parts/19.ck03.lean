/-! the program's links, checked -/
set_option maxRecDepth 100000 in
theorem mp_k27_200 : mp_ck 27 200 100 = true := by decide +kernel
set_option maxRecDepth 100000 in
theorem mp_k27_300 : mp_ck 27 300 100 = true := by decide +kernel
set_option maxRecDepth 100000 in
theorem mp_k27_400 : mp_ck 27 400 62 = true := by decide +kernel
set_option maxRecDepth 100000 in
theorem mp_k28_0 : mp_ck 28 0 17 = true := by decide +kernel
set_option maxRecDepth 100000 in
theorem mp_k29_0 : mp_ck 29 0 32 = true := by decide +kernel
set_option maxRecDepth 100000 in
theorem mp_k30_0 : mp_ck 30 0 112 = true := by decide +kernel
set_option maxRecDepth 100000 in
theorem mp_k31_0 : mp_ck 31 0 98 = true := by decide +kernel
set_option maxRecDepth 100000 in
theorem mp_k32_0 : mp_ck 32 0 13 = true := by decide +kernel
set_option maxRecDepth 100000 in
theorem mp_k33_0 : mp_ck 33 0 53 = true := by decide +kernel
set_option maxRecDepth 100000 in
theorem mp_k34_0 : mp_ck 34 0 46 = true := by decide +kernel
set_option maxRecDepth 100000 in
theorem mp_k35_0 : mp_ck 35 0 24 = true := by decide +kernel
set_option maxRecDepth 100000 in
theorem mp_k36_0 : mp_ck 36 0 22 = true := by decide +kernel
set_option maxRecDepth 100000 in
theorem mp_k37_0 : mp_ck 37 0 94 = true := by decide +kernel
set_option maxRecDepth 100000 in
theorem mp_k38_0 : mp_ck 38 0 39 = true := by decide +kernel
set_option maxRecDepth 100000 in
theorem mp_k39_0 : mp_ck 39 0 62 = true := by decide +kernel
set_option maxRecDepth 100000 in
theorem mp_k40_0 : mp_ck 40 0 11 = true := by decide +kernel
set_option maxRecDepth 100000 in
theorem mp_k41_0 : mp_ck 41 0 30 = true := by decide +kernel
set_option maxRecDepth 100000 in
theorem mp_k42_0 : mp_ck 42 0 104 = true := by decide +kernel
set_option maxRecDepth 100000 in
theorem mp_k43_0 : mp_ck 43 0 240 = true := by decide +kernel
set_option maxRecDepth 100000 in
theorem mp_k44_0 : mp_ck 44 0 7 = true := by decide +kernel
set_option maxRecDepth 100000 in
theorem mp_k45_0 : mp_ck 45 0 69 = true := by decide +kernel
set_option maxRecDepth 100000 in
theorem mp_k46_0 : mp_ck 46 0 157 = true := by decide +kernel
set_option maxRecDepth 100000 in
theorem mp_k47_0 : mp_ck 47 0 6 = true := by decide +kernel
set_option maxRecDepth 100000 in
theorem mp_k48_0 : mp_ck 48 0 21 = true := by decide +kernel
set_option maxRecDepth 100000 in
theorem mp_k49_0 : mp_ck 49 0 78 = true := by decide +kernel
set_option maxRecDepth 100000 in
theorem mp_k50_0 : mp_ck 50 0 23 = true := by decide +kernel
set_option maxRecDepth 100000 in
theorem mp_k51_0 : mp_ck 51 0 100 = true := by decide +kernel
set_option maxRecDepth 100000 in
theorem mp_k51_100 : mp_ck 51 100 100 = true := by decide +kernel
