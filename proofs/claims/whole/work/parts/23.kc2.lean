/-! the callees' words, checked -/
set_option maxRecDepth 100000 in
theorem mp_ka2 : ([81, 82, 83, 84, 85, 86, 87, 88, 89, 90, 91, 92, 93, 94, 95, 96, 97, 98, 99, 100, 101, 102, 103, 104, 105, 106, 107, 108, 109, 110, 111, 112, 113, 114, 115, 116, 117, 118, 119, 120] : List Nat).all mp_kck = true := by decide +kernel
set_option maxRecDepth 100000 in
theorem mp_kb81 : mp_kcd 81 := rfl
set_option maxRecDepth 100000 in
theorem mp_kb82 : mp_kcd 82 := rfl
set_option maxRecDepth 100000 in
theorem mp_kb83 : mp_kcd 83 := rfl
set_option maxRecDepth 100000 in
theorem mp_kb84 : mp_kcd 84 := rfl
set_option maxRecDepth 100000 in
theorem mp_kb85 : mp_kcd 85 := rfl
set_option maxRecDepth 100000 in
theorem mp_kb86 : mp_kcd 86 := rfl
set_option maxRecDepth 100000 in
theorem mp_kb87 : mp_kcd 87 := rfl
set_option maxRecDepth 100000 in
theorem mp_kb88 : mp_kcd 88 := rfl
set_option maxRecDepth 100000 in
theorem mp_kb89 : mp_kcd 89 := rfl
set_option maxRecDepth 100000 in
theorem mp_kb90 : mp_kcd 90 := rfl
set_option maxRecDepth 100000 in
theorem mp_kb91 : mp_kcd 91 := rfl
set_option maxRecDepth 100000 in
theorem mp_kb92 : mp_kcd 92 := rfl
set_option maxRecDepth 100000 in
theorem mp_kb93 : mp_kcd 93 := rfl
set_option maxRecDepth 100000 in
theorem mp_kb94 : mp_kcd 94 := rfl
set_option maxRecDepth 100000 in
theorem mp_kb95 : mp_kcd 95 := rfl
set_option maxRecDepth 100000 in
theorem mp_kb96 : mp_kcd 96 := rfl
set_option maxRecDepth 100000 in
theorem mp_kb97 : mp_kcd 97 := rfl
set_option maxRecDepth 100000 in
theorem mp_kb98 : mp_kcd 98 := rfl
set_option maxRecDepth 100000 in
theorem mp_kb99 : mp_kcd 99 := rfl
set_option maxRecDepth 100000 in
theorem mp_kb100 : mp_kcd 100 := rfl
set_option maxRecDepth 100000 in
theorem mp_kb101 : mp_kcd 101 := rfl
set_option maxRecDepth 100000 in
theorem mp_kb102 : mp_kcd 102 := rfl
set_option maxRecDepth 100000 in
theorem mp_kb103 : mp_kcd 103 := rfl
set_option maxRecDepth 100000 in
theorem mp_kb104 : mp_kcd 104 := rfl
set_option maxRecDepth 100000 in
theorem mp_kb105 : mp_kcd 105 := rfl
set_option maxRecDepth 100000 in
theorem mp_kb106 : mp_kcd 106 := rfl
set_option maxRecDepth 100000 in
theorem mp_kb107 : mp_kcd 107 := rfl
set_option maxRecDepth 100000 in
theorem mp_kb108 : mp_kcd 108 := rfl
set_option maxRecDepth 100000 in
theorem mp_kb109 : mp_kcd 109 := rfl
set_option maxRecDepth 100000 in
theorem mp_kb110 : mp_kcd 110 := rfl
set_option maxRecDepth 100000 in
theorem mp_kb111 : mp_kcd 111 := rfl
set_option maxRecDepth 100000 in
theorem mp_kb112 : mp_kcd 112 := rfl
set_option maxRecDepth 100000 in
theorem mp_kb113 : mp_kcd 113 := rfl
set_option maxRecDepth 100000 in
theorem mp_kb114 : mp_kcd 114 := rfl
set_option maxRecDepth 100000 in
theorem mp_kb115 : mp_kcd 115 := rfl
set_option maxRecDepth 100000 in
theorem mp_kb116 : mp_kcd 116 := rfl
set_option maxRecDepth 100000 in
theorem mp_kb117 : mp_kcd 117 := rfl
set_option maxRecDepth 100000 in
theorem mp_kb118 : mp_kcd 118 := rfl
set_option maxRecDepth 100000 in
theorem mp_kb119 : mp_kcd 119 := rfl
set_option maxRecDepth 100000 in
theorem mp_kb120 : mp_kcd 120 := rfl
