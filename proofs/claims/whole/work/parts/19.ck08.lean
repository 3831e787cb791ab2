/-! the program's links, checked -/
set_option maxRecDepth 100000 in
theorem mp_k133_0 : mp_ck 133 0 108 = true := by decide +kernel
set_option maxRecDepth 100000 in
theorem mp_k134_0 : mp_ck 134 0 24 = true := by decide +kernel
set_option maxRecDepth 100000 in
theorem mp_k135_0 : mp_ck 135 0 18 = true := by decide +kernel
set_option maxRecDepth 100000 in
theorem mp_k136_0 : mp_ck 136 0 89 = true := by decide +kernel
set_option maxRecDepth 100000 in
theorem mp_k137_0 : mp_ck 137 0 178 = true := by decide +kernel
set_option maxRecDepth 100000 in
theorem mp_k138_0 : mp_ck 138 0 103 = true := by decide +kernel
set_option maxRecDepth 100000 in
theorem mp_k139_0 : mp_ck 139 0 66 = true := by decide +kernel
set_option maxRecDepth 100000 in
theorem mp_k140_0 : mp_ck 140 0 82 = true := by decide +kernel
set_option maxRecDepth 100000 in
theorem mp_k141_0 : mp_ck 141 0 44 = true := by decide +kernel
set_option maxRecDepth 100000 in
theorem mp_k142_0 : mp_ck 142 0 112 = true := by decide +kernel
set_option maxRecDepth 100000 in
theorem mp_k143_0 : mp_ck 143 0 126 = true := by decide +kernel
set_option maxRecDepth 100000 in
theorem mp_k144_0 : mp_ck 144 0 134 = true := by decide +kernel
set_option maxRecDepth 100000 in
theorem mp_k145_0 : mp_ck 145 0 15 = true := by decide +kernel
set_option maxRecDepth 100000 in
theorem mp_k146_0 : mp_ck 146 0 46 = true := by decide +kernel
set_option maxRecDepth 100000 in
theorem mp_k147_0 : mp_ck 147 0 30 = true := by decide +kernel
set_option maxRecDepth 100000 in
theorem mp_k148_0 : mp_ck 148 0 100 = true := by decide +kernel
set_option maxRecDepth 100000 in
theorem mp_k148_100 : mp_ck 148 100 100 = true := by decide +kernel
set_option maxRecDepth 100000 in
theorem mp_k148_200 : mp_ck 148 200 100 = true := by decide +kernel
set_option maxRecDepth 100000 in
theorem mp_k148_300 : mp_ck 148 300 100 = true := by decide +kernel
set_option maxRecDepth 100000 in
theorem mp_k148_400 : mp_ck 148 400 18 = true := by decide +kernel
set_option maxRecDepth 100000 in
theorem mp_k149_0 : mp_ck 149 0 38 = true := by decide +kernel
set_option maxRecDepth 100000 in
theorem mp_k150_0 : mp_ck 150 0 176 = true := by decide +kernel
