/-! the callees' words, checked -/
set_option maxRecDepth 100000 in
theorem mp_ka5 : ([201, 202, 203, 204, 205, 206, 207, 208, 209, 210, 211, 212, 213, 214, 215, 216, 217, 218, 219, 220, 221, 222, 223, 224, 225, 226, 227, 228, 229, 230, 231, 232, 233, 234, 235, 236, 237, 238, 239, 240] : List Nat).all mp_kck = true := by decide +kernel
set_option maxRecDepth 100000 in
theorem mp_kb201 : mp_kcd 201 := rfl
set_option maxRecDepth 100000 in
theorem mp_kb202 : mp_kcd 202 := rfl
set_option maxRecDepth 100000 in
theorem mp_kb203 : mp_kcd 203 := rfl
set_option maxRecDepth 100000 in
theorem mp_kb204 : mp_kcd 204 := rfl
set_option maxRecDepth 100000 in
theorem mp_kb205 : mp_kcd 205 := rfl
set_option maxRecDepth 100000 in
theorem mp_kb206 : mp_kcd 206 := rfl
set_option maxRecDepth 100000 in
theorem mp_kb207 : mp_kcd 207 := rfl
set_option maxRecDepth 100000 in
theorem mp_kb208 : mp_kcd 208 := rfl
set_option maxRecDepth 100000 in
theorem mp_kb209 : mp_kcd 209 := rfl
set_option maxRecDepth 100000 in
theorem mp_kb210 : mp_kcd 210 := rfl
set_option maxRecDepth 100000 in
theorem mp_kb211 : mp_kcd 211 := rfl
set_option maxRecDepth 100000 in
theorem mp_kb212 : mp_kcd 212 := rfl
set_option maxRecDepth 100000 in
theorem mp_kb213 : mp_kcd 213 := rfl
set_option maxRecDepth 100000 in
theorem mp_kb214 : mp_kcd 214 := rfl
set_option maxRecDepth 100000 in
theorem mp_kb215 : mp_kcd 215 := rfl
set_option maxRecDepth 100000 in
theorem mp_kb216 : mp_kcd 216 := rfl
set_option maxRecDepth 100000 in
theorem mp_kb217 : mp_kcd 217 := rfl
set_option maxRecDepth 100000 in
theorem mp_kb218 : mp_kcd 218 := rfl
set_option maxRecDepth 100000 in
theorem mp_kb219 : mp_kcd 219 := rfl
set_option maxRecDepth 100000 in
theorem mp_kb220 : mp_kcd 220 := rfl
set_option maxRecDepth 100000 in
theorem mp_kb221 : mp_kcd 221 := rfl
set_option maxRecDepth 100000 in
theorem mp_kb222 : mp_kcd 222 := rfl
set_option maxRecDepth 100000 in
theorem mp_kb223 : mp_kcd 223 := rfl
set_option maxRecDepth 100000 in
theorem mp_kb224 : mp_kcd 224 := rfl
set_option maxRecDepth 100000 in
theorem mp_kb225 : mp_kcd 225 := rfl
set_option maxRecDepth 100000 in
theorem mp_kb226 : mp_kcd 226 := rfl
set_option maxRecDepth 100000 in
theorem mp_kb227 : mp_kcd 227 := rfl
set_option maxRecDepth 100000 in
theorem mp_kb228 : mp_kcd 228 := rfl
set_option maxRecDepth 100000 in
theorem mp_kb229 : mp_kcd 229 := rfl
set_option maxRecDepth 100000 in
theorem mp_kb230 : mp_kcd 230 := rfl
set_option maxRecDepth 100000 in
theorem mp_kb231 : mp_kcd 231 := rfl
set_option maxRecDepth 100000 in
theorem mp_kb232 : mp_kcd 232 := rfl
set_option maxRecDepth 100000 in
theorem mp_kb233 : mp_kcd 233 := rfl
set_option maxRecDepth 100000 in
theorem mp_kb234 : mp_kcd 234 := rfl
set_option maxRecDepth 100000 in
theorem mp_kb235 : mp_kcd 235 := rfl
set_option maxRecDepth 100000 in
theorem mp_kb236 : mp_kcd 236 := rfl
set_option maxRecDepth 100000 in
theorem mp_kb237 : mp_kcd 237 := rfl
set_option maxRecDepth 100000 in
theorem mp_kb238 : mp_kcd 238 := rfl
set_option maxRecDepth 100000 in
theorem mp_kb239 : mp_kcd 239 := rfl
set_option maxRecDepth 100000 in
theorem mp_kb240 : mp_kcd 240 := rfl
