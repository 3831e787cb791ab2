/-! the program's links, checked -/
set_option maxRecDepth 100000 in
theorem mp_k56_0 : mp_ck 56 0 53 = true := by decide +kernel
set_option maxRecDepth 100000 in
theorem mp_k57_0 : mp_ck 57 0 54 = true := by decide +kernel
set_option maxRecDepth 100000 in
theorem mp_k58_0 : mp_ck 58 0 15 = true := by decide +kernel
set_option maxRecDepth 100000 in
theorem mp_k59_0 : mp_ck 59 0 49 = true := by decide +kernel
set_option maxRecDepth 100000 in
theorem mp_k60_0 : mp_ck 60 0 14 = true := by decide +kernel
set_option maxRecDepth 100000 in
theorem mp_k61_0 : mp_ck 61 0 87 = true := by decide +kernel
set_option maxRecDepth 100000 in
theorem mp_k62_0 : mp_ck 62 0 30 = true := by decide +kernel
set_option maxRecDepth 100000 in
theorem mp_k63_0 : mp_ck 63 0 45 = true := by decide +kernel
set_option maxRecDepth 100000 in
theorem mp_k64_0 : mp_ck 64 0 23 = true := by decide +kernel
set_option maxRecDepth 100000 in
theorem mp_k65_0 : mp_ck 65 0 105 = true := by decide +kernel
set_option maxRecDepth 100000 in
theorem mp_k66_0 : mp_ck 66 0 62 = true := by decide +kernel
set_option maxRecDepth 100000 in
theorem mp_k67_0 : mp_ck 67 0 161 = true := by decide +kernel
set_option maxRecDepth 100000 in
theorem mp_k68_0 : mp_ck 68 0 39 = true := by decide +kernel
set_option maxRecDepth 100000 in
theorem mp_k69_0 : mp_ck 69 0 111 = true := by decide +kernel
set_option maxRecDepth 100000 in
theorem mp_k70_0 : mp_ck 70 0 100 = true := by decide +kernel
set_option maxRecDepth 100000 in
theorem mp_k70_100 : mp_ck 70 100 100 = true := by decide +kernel
set_option maxRecDepth 100000 in
theorem mp_k70_200 : mp_ck 70 200 100 = true := by decide +kernel
set_option maxRecDepth 100000 in
theorem mp_k70_300 : mp_ck 70 300 100 = true := by decide +kernel
set_option maxRecDepth 100000 in
theorem mp_k70_400 : mp_ck 70 400 7 = true := by decide +kernel
set_option maxRecDepth 100000 in
theorem mp_k71_0 : mp_ck 71 0 36 = true := by decide +kernel
set_option maxRecDepth 100000 in
theorem mp_k72_0 : mp_ck 72 0 30 = true := by decide +kernel
set_option maxRecDepth 100000 in
theorem mp_k73_0 : mp_ck 73 0 35 = true := by decide +kernel
set_option maxRecDepth 100000 in
theorem mp_k74_0 : mp_ck 74 0 24 = true := by decide +kernel
set_option maxRecDepth 100000 in
theorem mp_k75_0 : mp_ck 75 0 27 = true := by decide +kernel
set_option maxRecDepth 100000 in
theorem mp_k76_0 : mp_ck 76 0 23 = true := by decide +kernel
set_option maxRecDepth 100000 in
theorem mp_k77_0 : mp_ck 77 0 23 = true := by decide +kernel
set_option maxRecDepth 100000 in
theorem mp_k78_0 : mp_ck 78 0 141 = true := by decide +kernel
set_option maxRecDepth 100000 in
theorem mp_k79_0 : mp_ck 79 0 109 = true := by decide +kernel
set_option maxRecDepth 100000 in
theorem mp_k80_0 : mp_ck 80 0 25 = true := by decide +kernel
set_option maxRecDepth 100000 in
theorem mp_k81_0 : mp_ck 81 0 99 = true := by decide +kernel
