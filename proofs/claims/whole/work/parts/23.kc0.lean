/-! the callees' words, checked -/
set_option maxRecDepth 100000 in
theorem mp_ka0 : ([1, 2, 3, 4, 5, 6, 7, 8, 9, 10, 11, 12, 13, 14, 15, 16, 17, 18, 19, 20, 21, 22, 23, 24, 25, 26, 27, 28, 29, 30, 31, 32, 33, 34, 35, 36, 37, 38, 39, 40] : List Nat).all mp_kck = true := by decide +kernel
set_option maxRecDepth 100000 in
theorem mp_kb1 : mp_kcd 1 := rfl
set_option maxRecDepth 100000 in
theorem mp_kb2 : mp_kcd 2 := rfl
set_option maxRecDepth 100000 in
theorem mp_kb3 : mp_kcd 3 := rfl
set_option maxRecDepth 100000 in
theorem mp_kb4 : mp_kcd 4 := rfl
set_option maxRecDepth 100000 in
theorem mp_kb5 : mp_kcd 5 := rfl
set_option maxRecDepth 100000 in
theorem mp_kb6 : mp_kcd 6 := rfl
set_option maxRecDepth 100000 in
theorem mp_kb7 : mp_kcd 7 := rfl
set_option maxRecDepth 100000 in
theorem mp_kb8 : mp_kcd 8 := rfl
set_option maxRecDepth 100000 in
theorem mp_kb9 : mp_kcd 9 := rfl
set_option maxRecDepth 100000 in
theorem mp_kb10 : mp_kcd 10 := rfl
set_option maxRecDepth 100000 in
theorem mp_kb11 : mp_kcd 11 := rfl
set_option maxRecDepth 100000 in
theorem mp_kb12 : mp_kcd 12 := rfl
set_option maxRecDepth 100000 in
theorem mp_kb13 : mp_kcd 13 := rfl
set_option maxRecDepth 100000 in
theorem mp_kb14 : mp_kcd 14 := rfl
set_option maxRecDepth 100000 in
theorem mp_kb15 : mp_kcd 15 := rfl
set_option maxRecDepth 100000 in
theorem mp_kb16 : mp_kcd 16 := rfl
set_option maxRecDepth 100000 in
theorem mp_kb17 : mp_kcd 17 := rfl
set_option maxRecDepth 100000 in
theorem mp_kb18 : mp_kcd 18 := rfl
set_option maxRecDepth 100000 in
theorem mp_kb19 : mp_kcd 19 := rfl
set_option maxRecDepth 100000 in
theorem mp_kb20 : mp_kcd 20 := rfl
set_option maxRecDepth 100000 in
theorem mp_kb21 : mp_kcd 21 := rfl
set_option maxRecDepth 100000 in
theorem mp_kb22 : mp_kcd 22 := rfl
set_option maxRecDepth 100000 in
theorem mp_kb23 : mp_kcd 23 := rfl
set_option maxRecDepth 100000 in
theorem mp_kb24 : mp_kcd 24 := rfl
set_option maxRecDepth 100000 in
theorem mp_kb25 : mp_kcd 25 := rfl
set_option maxRecDepth 100000 in
theorem mp_kb26 : mp_kcd 26 := rfl
set_option maxRecDepth 100000 in
theorem mp_kb27 : mp_kcd 27 := rfl
set_option maxRecDepth 100000 in
theorem mp_kb28 : mp_kcd 28 := rfl
set_option maxRecDepth 100000 in
theorem mp_kb29 : mp_kcd 29 := rfl
set_option maxRecDepth 100000 in
theorem mp_kb30 : mp_kcd 30 := rfl
set_option maxRecDepth 100000 in
theorem mp_kb31 : mp_kcd 31 := rfl
set_option maxRecDepth 100000 in
theorem mp_kb32 : mp_kcd 32 := rfl
set_option maxRecDepth 100000 in
theorem mp_kb33 : mp_kcd 33 := rfl
set_option maxRecDepth 100000 in
theorem mp_kb34 : mp_kcd 34 := rfl
set_option maxRecDepth 100000 in
theorem mp_kb35 : mp_kcd 35 := rfl
set_option maxRecDepth 100000 in
theorem mp_kb36 : mp_kcd 36 := rfl
set_option maxRecDepth 100000 in
theorem mp_kb37 : mp_kcd 37 := rfl
set_option maxRecDepth 100000 in
theorem mp_kb38 : mp_kcd 38 := rfl
set_option maxRecDepth 100000 in
theorem mp_kb39 : mp_kcd 39 := rfl
set_option maxRecDepth 100000 in
theorem mp_kb40 : mp_kcd 40 := rfl
