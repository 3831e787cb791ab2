/-! the callees' words, checked -/
set_option maxRecDepth 100000 in
theorem mp_ka1 : ([41, 42, 43, 44, 45, 46, 47, 48, 49, 50, 51, 52, 53, 54, 55, 56, 57, 58, 59, 60, 61, 62, 63, 64, 65, 66, 67, 68, 69, 70, 71, 72, 73, 74, 75, 76, 77, 78, 79, 80] : List Nat).all mp_kck = true := by decide +kernel
set_option maxRecDepth 100000 in
theorem mp_kb41 : mp_kcd 41 := rfl
set_option maxRecDepth 100000 in
theorem mp_kb42 : mp_kcd 42 := rfl
set_option maxRecDepth 100000 in
theorem mp_kb43 : mp_kcd 43 := rfl
set_option maxRecDepth 100000 in
theorem mp_kb44 : mp_kcd 44 := rfl
set_option maxRecDepth 100000 in
theorem mp_kb45 : mp_kcd 45 := rfl
set_option maxRecDepth 100000 in
theorem mp_kb46 : mp_kcd 46 := rfl
set_option maxRecDepth 100000 in
theorem mp_kb47 : mp_kcd 47 := rfl
set_option maxRecDepth 100000 in
theorem mp_kb48 : mp_kcd 48 := rfl
set_option maxRecDepth 100000 in
theorem mp_kb49 : mp_kcd 49 := rfl
set_option maxRecDepth 100000 in
theorem mp_kb50 : mp_kcd 50 := rfl
set_option maxRecDepth 100000 in
theorem mp_kb51 : mp_kcd 51 := rfl
set_option maxRecDepth 100000 in
theorem mp_kb52 : mp_kcd 52 := rfl
set_option maxRecDepth 100000 in
theorem mp_kb53 : mp_kcd 53 := rfl
set_option maxRecDepth 100000 in
theorem mp_kb54 : mp_kcd 54 := rfl
set_option maxRecDepth 100000 in
theorem mp_kb55 : mp_kcd 55 := rfl
set_option maxRecDepth 100000 in
theorem mp_kb56 : mp_kcd 56 := rfl
set_option maxRecDepth 100000 in
theorem mp_kb57 : mp_kcd 57 := rfl
set_option maxRecDepth 100000 in
theorem mp_kb58 : mp_kcd 58 := rfl
set_option maxRecDepth 100000 in
theorem mp_kb59 : mp_kcd 59 := rfl
set_option maxRecDepth 100000 in
theorem mp_kb60 : mp_kcd 60 := rfl
set_option maxRecDepth 100000 in
theorem mp_kb61 : mp_kcd 61 := rfl
set_option maxRecDepth 100000 in
theorem mp_kb62 : mp_kcd 62 := rfl
set_option maxRecDepth 100000 in
theorem mp_kb63 : mp_kcd 63 := rfl
set_option maxRecDepth 100000 in
theorem mp_kb64 : mp_kcd 64 := rfl
set_option maxRecDepth 100000 in
theorem mp_kb65 : mp_kcd 65 := rfl
set_option maxRecDepth 100000 in
theorem mp_kb66 : mp_kcd 66 := rfl
set_option maxRecDepth 100000 in
theorem mp_kb67 : mp_kcd 67 := rfl
set_option maxRecDepth 100000 in
theorem mp_kb68 : mp_kcd 68 := rfl
set_option maxRecDepth 100000 in
theorem mp_kb69 : mp_kcd 69 := rfl
set_option maxRecDepth 100000 in
theorem mp_kb70 : mp_kcd 70 := rfl
set_option maxRecDepth 100000 in
theorem mp_kb71 : mp_kcd 71 := rfl
set_option maxRecDepth 100000 in
theorem mp_kb72 : mp_kcd 72 := rfl
set_option maxRecDepth 100000 in
theorem mp_kb73 : mp_kcd 73 := rfl
set_option maxRecDepth 100000 in
theorem mp_kb74 : mp_kcd 74 := rfl
set_option maxRecDepth 100000 in
theorem mp_kb75 : mp_kcd 75 := rfl
set_option maxRecDepth 100000 in
theorem mp_kb76 : mp_kcd 76 := rfl
set_option maxRecDepth 100000 in
theorem mp_kb77 : mp_kcd 77 := rfl
set_option maxRecDepth 100000 in
theorem mp_kb78 : mp_kcd 78 := rfl
set_option maxRecDepth 100000 in
theorem mp_kb79 : mp_kcd 79 := rfl
set_option maxRecDepth 100000 in
theorem mp_kb80 : mp_kcd 80 := rfl
