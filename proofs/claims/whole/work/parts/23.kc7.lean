/-! the callees' words, checked -/
set_option maxRecDepth 100000 in
theorem mp_ka7 : ([281, 282, 283, 284, 285, 286, 287, 288, 289, 290, 291, 292, 293, 294, 295, 296, 297, 298, 299, 300, 301, 302, 303, 304, 305, 306, 307, 308] : List Nat).all mp_kck = true := by decide +kernel
set_option maxRecDepth 100000 in
theorem mp_kb281 : mp_kcd 281 := rfl
set_option maxRecDepth 100000 in
theorem mp_kb282 : mp_kcd 282 := rfl
set_option maxRecDepth 100000 in
theorem mp_kb283 : mp_kcd 283 := rfl
set_option maxRecDepth 100000 in
theorem mp_kb284 : mp_kcd 284 := rfl
set_option maxRecDepth 100000 in
theorem mp_kb285 : mp_kcd 285 := rfl
set_option maxRecDepth 100000 in
theorem mp_kb286 : mp_kcd 286 := rfl
set_option maxRecDepth 100000 in
theorem mp_kb287 : mp_kcd 287 := rfl
set_option maxRecDepth 100000 in
theorem mp_kb288 : mp_kcd 288 := rfl
set_option maxRecDepth 100000 in
theorem mp_kb289 : mp_kcd 289 := rfl
set_option maxRecDepth 100000 in
theorem mp_kb290 : mp_kcd 290 := rfl
set_option maxRecDepth 100000 in
theorem mp_kb291 : mp_kcd 291 := rfl
set_option maxRecDepth 100000 in
theorem mp_kb292 : mp_kcd 292 := rfl
set_option maxRecDepth 100000 in
theorem mp_kb293 : mp_kcd 293 := rfl
set_option maxRecDepth 100000 in
theorem mp_kb294 : mp_kcd 294 := rfl
set_option maxRecDepth 100000 in
theorem mp_kb295 : mp_kcd 295 := rfl
set_option maxRecDepth 100000 in
theorem mp_kb296 : mp_kcd 296 := rfl
set_option maxRecDepth 100000 in
theorem mp_kb297 : mp_kcd 297 := rfl
set_option maxRecDepth 100000 in
theorem mp_kb298 : mp_kcd 298 := rfl
set_option maxRecDepth 100000 in
theorem mp_kb299 : mp_kcd 299 := rfl
set_option maxRecDepth 100000 in
theorem mp_kb300 : mp_kcd 300 := rfl
set_option maxRecDepth 100000 in
theorem mp_kb301 : mp_kcd 301 := rfl
set_option maxRecDepth 100000 in
theorem mp_kb302 : mp_kcd 302 := rfl
set_option maxRecDepth 100000 in
theorem mp_kb303 : mp_kcd 303 := rfl
set_option maxRecDepth 100000 in
theorem mp_kb304 : mp_kcd 304 := rfl
set_option maxRecDepth 100000 in
theorem mp_kb305 : mp_kcd 305 := rfl
set_option maxRecDepth 100000 in
theorem mp_kb306 : mp_kcd 306 := rfl
set_option maxRecDepth 100000 in
theorem mp_kb307 : mp_kcd 307 := rfl
set_option maxRecDepth 100000 in
theorem mp_kb308 : mp_kcd 308 := rfl
