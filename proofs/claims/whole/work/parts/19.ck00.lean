/-! the program's links, checked -/
set_option maxRecDepth 100000 in
theorem mp_k0_0 : mp_ck 0 0 100 = true := by decide +kernel
set_option maxRecDepth 100000 in
theorem mp_k0_100 : mp_ck 0 100 100 = true := by decide +kernel
set_option maxRecDepth 100000 in
theorem mp_k0_200 : mp_ck 0 200 100 = true := by decide +kernel
set_option maxRecDepth 100000 in
theorem mp_k0_300 : mp_ck 0 300 100 = true := by decide +kernel
set_option maxRecDepth 100000 in
theorem mp_k0_400 : mp_ck 0 400 100 = true := by decide +kernel
set_option maxRecDepth 100000 in
theorem mp_k0_500 : mp_ck 0 500 100 = true := by decide +kernel
