/-! the program's links, checked -/
set_option maxRecDepth 100000 in
theorem mp_k2_400 : mp_ck 2 400 100 = true := by decide +kernel
set_option maxRecDepth 100000 in
theorem mp_k2_500 : mp_ck 2 500 100 = true := by decide +kernel
set_option maxRecDepth 100000 in
theorem mp_k2_600 : mp_ck 2 600 1 = true := by decide +kernel
set_option maxRecDepth 100000 in
theorem mp_k3_0 : mp_ck 3 0 91 = true := by decide +kernel
set_option maxRecDepth 100000 in
theorem mp_k4_0 : mp_ck 4 0 114 = true := by decide +kernel
set_option maxRecDepth 100000 in
theorem mp_k5_0 : mp_ck 5 0 19 = true := by decide +kernel
set_option maxRecDepth 100000 in
theorem mp_k6_0 : mp_ck 6 0 200 = true := by decide +kernel
set_option maxRecDepth 100000 in
theorem mp_k7_0 : mp_ck 7 0 5 = true := by decide +kernel
set_option maxRecDepth 100000 in
theorem mp_k8_0 : mp_ck 8 0 17 = true := by decide +kernel
set_option maxRecDepth 100000 in
theorem mp_k9_0 : mp_ck 9 0 129 = true := by decide +kernel
set_option maxRecDepth 100000 in
theorem mp_k10_0 : mp_ck 10 0 30 = true := by decide +kernel
set_option maxRecDepth 100000 in
theorem mp_k11_0 : mp_ck 11 0 206 = true := by decide +kernel
set_option maxRecDepth 100000 in
theorem mp_k12_0 : mp_ck 12 0 26 = true := by decide +kernel
set_option maxRecDepth 100000 in
theorem mp_k13_0 : mp_ck 13 0 136 = true := by decide +kernel
set_option maxRecDepth 100000 in
theorem mp_k14_0 : mp_ck 14 0 17 = true := by decide +kernel
set_option maxRecDepth 100000 in
theorem mp_k15_0 : mp_ck 15 0 12 = true := by decide +kernel
set_option maxRecDepth 100000 in
theorem mp_k16_0 : mp_ck 16 0 68 = true := by decide +kernel
set_option maxRecDepth 100000 in
theorem mp_k17_0 : mp_ck 17 0 52 = true := by decide +kernel
set_option maxRecDepth 100000 in
theorem mp_k18_0 : mp_ck 18 0 21 = true := by decide +kernel
set_option maxRecDepth 100000 in
theorem mp_k19_0 : mp_ck 19 0 75 = true := by decide +kernel
set_option maxRecDepth 100000 in
theorem mp_k20_0 : mp_ck 20 0 19 = true := by decide +kernel
set_option maxRecDepth 100000 in
theorem mp_k21_0 : mp_ck 21 0 56 = true := by decide +kernel
set_option maxRecDepth 100000 in
theorem mp_k22_0 : mp_ck 22 0 45 = true := by decide +kernel
set_option maxRecDepth 100000 in
theorem mp_k23_0 : mp_ck 23 0 38 = true := by decide +kernel
set_option maxRecDepth 100000 in
theorem mp_k24_0 : mp_ck 24 0 9 = true := by decide +kernel
set_option maxRecDepth 100000 in
theorem mp_k25_0 : mp_ck 25 0 11 = true := by decide +kernel
set_option maxRecDepth 100000 in
theorem mp_k26_0 : mp_ck 26 0 17 = true := by decide +kernel
set_option maxRecDepth 100000 in
theorem mp_k27_0 : mp_ck 27 0 100 = true := by decide +kernel
set_option maxRecDepth 100000 in
theorem mp_k27_100 : mp_ck 27 100 100 = true := by decide +kernel
