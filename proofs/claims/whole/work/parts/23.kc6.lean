/-! the callees' words, checked -/
set_option maxRecDepth 100000 in
theorem mp_ka6 : ([241, 242, 243, 244, 245, 246, 247, 248, 249, 250, 251, 252, 253, 254, 255, 256, 257, 258, 259, 260, 261, 262, 263, 264, 265, 266, 267, 268, 269, 270, 271, 272, 273, 274, 275, 276, 277, 278, 279, 280] : List Nat).all mp_kck = true := by decide +kernel
set_option maxRecDepth 100000 in
theorem mp_kb241 : mp_kcd 241 := rfl
set_option maxRecDepth 100000 in
theorem mp_kb242 : mp_kcd 242 := rfl
set_option maxRecDepth 100000 in
theorem mp_kb243 : mp_kcd 243 := rfl
set_option maxRecDepth 100000 in
theorem mp_kb244 : mp_kcd 244 := rfl
set_option maxRecDepth 100000 in
theorem mp_kb245 : mp_kcd 245 := rfl
set_option maxRecDepth 100000 in
theorem mp_kb246 : mp_kcd 246 := rfl
set_option maxRecDepth 100000 in
theorem mp_kb247 : mp_kcd 247 := rfl
set_option maxRecDepth 100000 in
theorem mp_kb248 : mp_kcd 248 := rfl
set_option maxRecDepth 100000 in
theorem mp_kb249 : mp_kcd 249 := rfl
set_option maxRecDepth 100000 in
theorem mp_kb250 : mp_kcd 250 := rfl
set_option maxRecDepth 100000 in
theorem mp_kb251 : mp_kcd 251 := rfl
set_option maxRecDepth 100000 in
theorem mp_kb252 : mp_kcd 252 := rfl
set_option maxRecDepth 100000 in
theorem mp_kb253 : mp_kcd 253 := rfl
set_option maxRecDepth 100000 in
theorem mp_kb254 : mp_kcd 254 := rfl
set_option maxRecDepth 100000 in
theorem mp_kb255 : mp_kcd 255 := rfl
set_option maxRecDepth 100000 in
theorem mp_kb256 : mp_kcd 256 := rfl
set_option maxRecDepth 100000 in
theorem mp_kb257 : mp_kcd 257 := rfl
set_option maxRecDepth 100000 in
theorem mp_kb258 : mp_kcd 258 := rfl
set_option maxRecDepth 100000 in
theorem mp_kb259 : mp_kcd 259 := rfl
set_option maxRecDepth 100000 in
theorem mp_kb260 : mp_kcd 260 := rfl
set_option maxRecDepth 100000 in
theorem mp_kb261 : mp_kcd 261 := rfl
set_option maxRecDepth 100000 in
theorem mp_kb262 : mp_kcd 262 := rfl
set_option maxRecDepth 100000 in
theorem mp_kb263 : mp_kcd 263 := rfl
set_option maxRecDepth 100000 in
theorem mp_kb264 : mp_kcd 264 := rfl
set_option maxRecDepth 100000 in
theorem mp_kb265 : mp_kcd 265 := rfl
set_option maxRecDepth 100000 in
theorem mp_kb266 : mp_kcd 266 := rfl
set_option maxRecDepth 100000 in
theorem mp_kb267 : mp_kcd 267 := rfl
set_option maxRecDepth 100000 in
theorem mp_kb268 : mp_kcd 268 := rfl
set_option maxRecDepth 100000 in
theorem mp_kb269 : mp_kcd 269 := rfl
set_option maxRecDepth 100000 in
theorem mp_kb270 : mp_kcd 270 := rfl
set_option maxRecDepth 100000 in
theorem mp_kb271 : mp_kcd 271 := rfl
set_option maxRecDepth 100000 in
theorem mp_kb272 : mp_kcd 272 := rfl
set_option maxRecDepth 100000 in
theorem mp_kb273 : mp_kcd 273 := rfl
set_option maxRecDepth 100000 in
theorem mp_kb274 : mp_kcd 274 := rfl
set_option maxRecDepth 100000 in
theorem mp_kb275 : mp_kcd 275 := rfl
set_option maxRecDepth 100000 in
theorem mp_kb276 : mp_kcd 276 := rfl
set_option maxRecDepth 100000 in
theorem mp_kb277 : mp_kcd 277 := rfl
set_option maxRecDepth 100000 in
theorem mp_kb278 : mp_kcd 278 := rfl
set_option maxRecDepth 100000 in
theorem mp_kb279 : mp_kcd 279 := rfl
set_option maxRecDepth 100000 in
theorem mp_kb280 : mp_kcd 280 := rfl
