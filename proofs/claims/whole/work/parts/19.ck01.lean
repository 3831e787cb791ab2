/-! the program's links, checked -/
set_option maxRecDepth 100000 in
theorem mp_k0_600 : mp_ck 0 600 100 = true := by decide +kernel
set_option maxRecDepth 100000 in
theorem mp_k0_700 : mp_ck 0 700 96 = true := by decide +kernel
set_option maxRecDepth 100000 in
theorem mp_k1_0 : mp_ck 1 0 115 = true := by decide +kernel
set_option maxRecDepth 100000 in
theorem mp_k2_0 : mp_ck 2 0 100 = true := by decide +kernel
set_option maxRecDepth 100000 in
theorem mp_k2_100 : mp_ck 2 100 100 = true := by decide +kernel
set_option maxRecDepth 100000 in
theorem mp_k2_200 : mp_ck 2 200 100 = true := by decide +kernel
set_option maxRecDepth 100000 in
theorem mp_k2_300 : mp_ck 2 300 100 = true := by decide +kernel
