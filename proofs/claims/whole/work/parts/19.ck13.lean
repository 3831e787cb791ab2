/-! the program's links, checked -/
set_option maxRecDepth 100000 in
theorem mp_k287_0 : mp_ck 287 0 17 = true := by decide +kernel
set_option maxRecDepth 100000 in
theorem mp_k288_0 : mp_ck 288 0 227 = true := by decide +kernel
set_option maxRecDepth 100000 in
theorem mp_k289_0 : mp_ck 289 0 37 = true := by decide +kernel
set_option maxRecDepth 100000 in
theorem mp_k290_0 : mp_ck 290 0 46 = true := by decide +kernel
set_option maxRecDepth 100000 in
theorem mp_k291_0 : mp_ck 291 0 18 = true := by decide +kernel
set_option maxRecDepth 100000 in
theorem mp_k292_0 : mp_ck 292 0 131 = true := by decide +kernel
set_option maxRecDepth 100000 in
theorem mp_k293_0 : mp_ck 293 0 42 = true := by decide +kernel
set_option maxRecDepth 100000 in
theorem mp_k294_0 : mp_ck 294 0 31 = true := by decide +kernel
set_option maxRecDepth 100000 in
theorem mp_k295_0 : mp_ck 295 0 111 = true := by decide +kernel
set_option maxRecDepth 100000 in
theorem mp_k296_0 : mp_ck 296 0 26 = true := by decide +kernel
set_option maxRecDepth 100000 in
theorem mp_k297_0 : mp_ck 297 0 45 = true := by decide +kernel
set_option maxRecDepth 100000 in
theorem mp_k298_0 : mp_ck 298 0 91 = true := by decide +kernel
set_option maxRecDepth 100000 in
theorem mp_k299_0 : mp_ck 299 0 17 = true := by decide +kernel
set_option maxRecDepth 100000 in
theorem mp_k300_0 : mp_ck 300 0 41 = true := by decide +kernel
set_option maxRecDepth 100000 in
theorem mp_k301_0 : mp_ck 301 0 41 = true := by decide +kernel
set_option maxRecDepth 100000 in
theorem mp_k302_0 : mp_ck 302 0 43 = true := by decide +kernel
set_option maxRecDepth 100000 in
theorem mp_k303_0 : mp_ck 303 0 62 = true := by decide +kernel
set_option maxRecDepth 100000 in
theorem mp_k304_0 : mp_ck 304 0 108 = true := by decide +kernel
set_option maxRecDepth 100000 in
theorem mp_k305_0 : mp_ck 305 0 94 = true := by decide +kernel
set_option maxRecDepth 100000 in
theorem mp_k306_0 : mp_ck 306 0 58 = true := by decide +kernel
set_option maxRecDepth 100000 in
theorem mp_k307_0 : mp_ck 307 0 15 = true := by decide +kernel
set_option maxRecDepth 100000 in
theorem mp_k308_0 : mp_ck 308 0 122 = true := by decide +kernel
