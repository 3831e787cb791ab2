/-! the callees' words, checked -/
set_option maxRecDepth 100000 in
theorem mp_ka2 : ([81, 82, 83, 84, 85, 86, 87, 88, 89, 90, 91, 92, 93, 94, 95, 96, 97, 98, 99, 100, 101, 102, 103, 104, 105, 106, 107, 108, 109, 110, 111, 112, 113, 114, 115, 116, 117, 118, 119, 120] : List Nat).all mp_kck = true := by decide +kernel
set_option maxRecDepth 100000 in
theorem mp_kb81 : mp_kcd 81 = true := by decide +kernel
set_option maxRecDepth 100000 in
theorem mp_kb82 : mp_kcd 82 = true := by decide +kernel
set_option maxRecDepth 100000 in
theorem mp_kb83 : mp_kcd 83 = true := by decide +kernel
set_option maxRecDepth 100000 in
theorem mp_kb84 : mp_kcd 84 = true := by decide +kernel
set_option maxRecDepth 100000 in
theorem mp_kb85 : mp_kcd 85 = true := by decide +kernel
set_option maxRecDepth 100000 in
theorem mp_kb86 : mp_kcd 86 = true := by decide +kernel
set_option maxRecDepth 100000 in
theorem mp_kb87 : mp_kcd 87 = true := by decide +kernel
set_option maxRecDepth 100000 in
theorem mp_kb88 : mp_kcd 88 = true := by decide +kernel
set_option maxRecDepth 100000 in
theorem mp_kb89 : mp_kcd 89 = true := by decide +kernel
set_option maxRecDepth 100000 in
theorem mp_kb90 : mp_kcd 90 = true := by decide +kernel
set_option maxRecDepth 100000 in
theorem mp_kb91 : mp_kcd 91 = true := by decide +kernel
set_option maxRecDepth 100000 in
theorem mp_kb92 : mp_kcd 92 = true := by decide +kernel
set_option maxRecDepth 100000 in
theorem mp_kb93 : mp_kcd 93 = true := by decide +kernel
set_option maxRecDepth 100000 in
theorem mp_kb94 : mp_kcd 94 = true := by decide +kernel
set_option maxRecDepth 100000 in
theorem mp_kb95 : mp_kcd 95 = true := by decide +kernel
set_option maxRecDepth 100000 in
theorem mp_kb96 : mp_kcd 96 = true := by decide +kernel
set_option maxRecDepth 100000 in
theorem mp_kb97 : mp_kcd 97 = true := by decide +kernel
set_option maxRecDepth 100000 in
theorem mp_kb98 : mp_kcd 98 = true := by decide +kernel
set_option maxRecDepth 100000 in
theorem mp_kb99 : mp_kcd 99 = true := by decide +kernel
set_option maxRecDepth 100000 in
theorem mp_kb100 : mp_kcd 100 = true := by decide +kernel
set_option maxRecDepth 100000 in
theorem mp_kb101 : mp_kcd 101 = true := by decide +kernel
set_option maxRecDepth 100000 in
theorem mp_kb102 : mp_kcd 102 = true := by decide +kernel
set_option maxRecDepth 100000 in
theorem mp_kb103 : mp_kcd 103 = true := by decide +kernel
set_option maxRecDepth 100000 in
theorem mp_kb104 : mp_kcd 104 = true := by decide +kernel
set_option maxRecDepth 100000 in
theorem mp_kb105 : mp_kcd 105 = true := by decide +kernel
set_option maxRecDepth 100000 in
theorem mp_kb106 : mp_kcd 106 = true := by decide +kernel
set_option maxRecDepth 100000 in
theorem mp_kb107 : mp_kcd 107 = true := by decide +kernel
set_option maxRecDepth 100000 in
theorem mp_kb108 : mp_kcd 108 = true := by decide +kernel
set_option maxRecDepth 100000 in
theorem mp_kb109 : mp_kcd 109 = true := by decide +kernel
set_option maxRecDepth 100000 in
theorem mp_kb110 : mp_kcd 110 = true := by decide +kernel
set_option maxRecDepth 100000 in
theorem mp_kb111 : mp_kcd 111 = true := by decide +kernel
set_option maxRecDepth 100000 in
theorem mp_kb112 : mp_kcd 112 = true := by decide +kernel
set_option maxRecDepth 100000 in
theorem mp_kb113 : mp_kcd 113 = true := by decide +kernel
set_option maxRecDepth 100000 in
theorem mp_kb114 : mp_kcd 114 = true := by decide +kernel
set_option maxRecDepth 100000 in
theorem mp_kb115 : mp_kcd 115 = true := by decide +kernel
set_option maxRecDepth 100000 in
theorem mp_kb116 : mp_kcd 116 = true := by decide +kernel
set_option maxRecDepth 100000 in
theorem mp_kb117 : mp_kcd 117 = true := by decide +kernel
set_option maxRecDepth 100000 in
theorem mp_kb118 : mp_kcd 118 = true := by decide +kernel
set_option maxRecDepth 100000 in
theorem mp_kb119 : mp_kcd 119 = true := by decide +kernel
set_option maxRecDepth 100000 in
theorem mp_kb120 : mp_kcd 120 = true := by decide +kernel
