/-! the program's links, checked -/
set_option maxRecDepth 100000 in
theorem mp_k51_200 : mp_ck 51 200 100 = true := by decide +kernel
set_option maxRecDepth 100000 in
theorem mp_k51_300 : mp_ck 51 300 100 = true := by decide +kernel
set_option maxRecDepth 100000 in
theorem mp_k51_400 : mp_ck 51 400 92 = true := by decide +kernel
set_option maxRecDepth 100000 in
theorem mp_k52_0 : mp_ck 52 0 100 = true := by decide +kernel
set_option maxRecDepth 100000 in
theorem mp_k52_100 : mp_ck 52 100 100 = true := by decide +kernel
set_option maxRecDepth 100000 in
theorem mp_k52_200 : mp_ck 52 200 100 = true := by decide +kernel
set_option maxRecDepth 100000 in
theorem mp_k52_300 : mp_ck 52 300 96 = true := by decide +kernel
set_option maxRecDepth 100000 in
theorem mp_k53_0 : mp_ck 53 0 211 = true := by decide +kernel
set_option maxRecDepth 100000 in
theorem mp_k54_0 : mp_ck 54 0 131 = true := by decide +kernel
set_option maxRecDepth 100000 in
theorem mp_k55_0 : mp_ck 55 0 206 = true := by decide +kernel
