/-! the program's links, checked -/
set_option maxRecDepth 100000 in
theorem mp_k82_0 : mp_ck 82 0 41 = true := by decide +kernel
set_option maxRecDepth 100000 in
theorem mp_k83_0 : mp_ck 83 0 228 = true := by decide +kernel
set_option maxRecDepth 100000 in
theorem mp_k84_0 : mp_ck 84 0 83 = true := by decide +kernel
set_option maxRecDepth 100000 in
theorem mp_k85_0 : mp_ck 85 0 129 = true := by decide +kernel
set_option maxRecDepth 100000 in
theorem mp_k86_0 : mp_ck 86 0 81 = true := by decide +kernel
set_option maxRecDepth 100000 in
theorem mp_k87_0 : mp_ck 87 0 183 = true := by decide +kernel
set_option maxRecDepth 100000 in
theorem mp_k88_0 : mp_ck 88 0 100 = true := by decide +kernel
set_option maxRecDepth 100000 in
theorem mp_k88_100 : mp_ck 88 100 100 = true := by decide +kernel
set_option maxRecDepth 100000 in
theorem mp_k88_200 : mp_ck 88 200 65 = true := by decide +kernel
set_option maxRecDepth 100000 in
theorem mp_k89_0 : mp_ck 89 0 40 = true := by decide +kernel
set_option maxRecDepth 100000 in
theorem mp_k90_0 : mp_ck 90 0 49 = true := by decide +kernel
set_option maxRecDepth 100000 in
theorem mp_k91_0 : mp_ck 91 0 49 = true := by decide +kernel
set_option maxRecDepth 100000 in
theorem mp_k92_0 : mp_ck 92 0 39 = true := by decide +kernel
set_option maxRecDepth 100000 in
theorem mp_k93_0 : mp_ck 93 0 8 = true := by decide +kernel
set_option maxRecDepth 100000 in
theorem mp_k94_0 : mp_ck 94 0 81 = true := by decide +kernel
set_option maxRecDepth 100000 in
theorem mp_k95_0 : mp_ck 95 0 35 = true := by decide +kernel
set_option maxRecDepth 100000 in
theorem mp_k96_0 : mp_ck 96 0 66 = true := by decide +kernel
set_option maxRecDepth 100000 in
theorem mp_k97_0 : mp_ck 97 0 47 = true := by decide +kernel
set_option maxRecDepth 100000 in
theorem mp_k98_0 : mp_ck 98 0 101 = true := by decide +kernel
set_option maxRecDepth 100000 in
theorem mp_k99_0 : mp_ck 99 0 27 = true := by decide +kernel
set_option maxRecDepth 100000 in
theorem mp_k100_0 : mp_ck 100 0 126 = true := by decide +kernel
set_option maxRecDepth 100000 in
theorem mp_k101_0 : mp_ck 101 0 132 = true := by decide +kernel
set_option maxRecDepth 100000 in
theorem mp_k102_0 : mp_ck 102 0 28 = true := by decide +kernel
set_option maxRecDepth 100000 in
theorem mp_k103_0 : mp_ck 103 0 35 = true := by decide +kernel
set_option maxRecDepth 100000 in
theorem mp_k104_0 : mp_ck 104 0 125 = true := by decide +kernel
set_option maxRecDepth 100000 in
theorem mp_k105_0 : mp_ck 105 0 108 = true := by decide +kernel
set_option maxRecDepth 100000 in
theorem mp_k106_0 : mp_ck 106 0 84 = true := by decide +kernel
set_option maxRecDepth 100000 in
theorem mp_k107_0 : mp_ck 107 0 168 = true := by decide +kernel
