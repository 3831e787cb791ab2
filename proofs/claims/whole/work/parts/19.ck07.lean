/-! the program's links, checked -/
set_option maxRecDepth 100000 in
theorem mp_k108_0 : mp_ck 108 0 209 = true := by decide +kernel
set_option maxRecDepth 100000 in
theorem mp_k109_0 : mp_ck 109 0 127 = true := by decide +kernel
set_option maxRecDepth 100000 in
theorem mp_k110_0 : mp_ck 110 0 35 = true := by decide +kernel
set_option maxRecDepth 100000 in
theorem mp_k111_0 : mp_ck 111 0 24 = true := by decide +kernel
set_option maxRecDepth 100000 in
theorem mp_k112_0 : mp_ck 112 0 74 = true := by decide +kernel
set_option maxRecDepth 100000 in
theorem mp_k113_0 : mp_ck 113 0 61 = true := by decide +kernel
set_option maxRecDepth 100000 in
theorem mp_k114_0 : mp_ck 114 0 18 = true := by decide +kernel
set_option maxRecDepth 100000 in
theorem mp_k115_0 : mp_ck 115 0 26 = true := by decide +kernel
set_option maxRecDepth 100000 in
theorem mp_k116_0 : mp_ck 116 0 31 = true := by decide +kernel
set_option maxRecDepth 100000 in
theorem mp_k117_0 : mp_ck 117 0 48 = true := by decide +kernel
set_option maxRecDepth 100000 in
theorem mp_k118_0 : mp_ck 118 0 24 = true := by decide +kernel
set_option maxRecDepth 100000 in
theorem mp_k119_0 : mp_ck 119 0 23 = true := by decide +kernel
set_option maxRecDepth 100000 in
theorem mp_k120_0 : mp_ck 120 0 70 = true := by decide +kernel
set_option maxRecDepth 100000 in
theorem mp_k121_0 : mp_ck 121 0 31 = true := by decide +kernel
set_option maxRecDepth 100000 in
theorem mp_k122_0 : mp_ck 122 0 100 = true := by decide +kernel
set_option maxRecDepth 100000 in
theorem mp_k122_100 : mp_ck 122 100 100 = true := by decide +kernel
set_option maxRecDepth 100000 in
theorem mp_k122_200 : mp_ck 122 200 100 = true := by decide +kernel
set_option maxRecDepth 100000 in
theorem mp_k122_300 : mp_ck 122 300 86 = true := by decide +kernel
set_option maxRecDepth 100000 in
theorem mp_k123_0 : mp_ck 123 0 110 = true := by decide +kernel
set_option maxRecDepth 100000 in
theorem mp_k124_0 : mp_ck 124 0 70 = true := by decide +kernel
set_option maxRecDepth 100000 in
theorem mp_k125_0 : mp_ck 125 0 32 = true := by decide +kernel
set_option maxRecDepth 100000 in
theorem mp_k126_0 : mp_ck 126 0 133 = true := by decide +kernel
set_option maxRecDepth 100000 in
theorem mp_k127_0 : mp_ck 127 0 30 = true := by decide +kernel
set_option maxRecDepth 100000 in
theorem mp_k128_0 : mp_ck 128 0 53 = true := by decide +kernel
set_option maxRecDepth 100000 in
theorem mp_k129_0 : mp_ck 129 0 30 = true := by decide +kernel
set_option maxRecDepth 100000 in
theorem mp_k130_0 : mp_ck 130 0 48 = true := by decide +kernel
set_option maxRecDepth 100000 in
theorem mp_k131_0 : mp_ck 131 0 162 = true := by decide +kernel
set_option maxRecDepth 100000 in
theorem mp_k132_0 : mp_ck 132 0 46 = true := by decide +kernel
