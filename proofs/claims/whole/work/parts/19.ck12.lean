/-! the program's links, checked -/
set_option maxRecDepth 100000 in
theorem mp_k252_0 : mp_ck 252 0 192 = true := by decide +kernel
set_option maxRecDepth 100000 in
theorem mp_k253_0 : mp_ck 253 0 124 = true := by decide +kernel
set_option maxRecDepth 100000 in
theorem mp_k254_0 : mp_ck 254 0 100 = true := by decide +kernel
set_option maxRecDepth 100000 in
theorem mp_k254_100 : mp_ck 254 100 100 = true := by decide +kernel
set_option maxRecDepth 100000 in
theorem mp_k254_200 : mp_ck 254 200 87 = true := by decide +kernel
set_option maxRecDepth 100000 in
theorem mp_k255_0 : mp_ck 255 0 35 = true := by decide +kernel
set_option maxRecDepth 100000 in
theorem mp_k256_0 : mp_ck 256 0 28 = true := by decide +kernel
set_option maxRecDepth 100000 in
theorem mp_k257_0 : mp_ck 257 0 28 = true := by decide +kernel
set_option maxRecDepth 100000 in
theorem mp_k258_0 : mp_ck 258 0 115 = true := by decide +kernel
set_option maxRecDepth 100000 in
theorem mp_k259_0 : mp_ck 259 0 36 = true := by decide +kernel
set_option maxRecDepth 100000 in
theorem mp_k260_0 : mp_ck 260 0 15 = true := by decide +kernel
set_option maxRecDepth 100000 in
theorem mp_k261_0 : mp_ck 261 0 34 = true := by decide +kernel
set_option maxRecDepth 100000 in
theorem mp_k262_0 : mp_ck 262 0 33 = true := by decide +kernel
set_option maxRecDepth 100000 in
theorem mp_k263_0 : mp_ck 263 0 83 = true := by decide +kernel
set_option maxRecDepth 100000 in
theorem mp_k264_0 : mp_ck 264 0 186 = true := by decide +kernel
set_option maxRecDepth 100000 in
theorem mp_k265_0 : mp_ck 265 0 85 = true := by decide +kernel
set_option maxRecDepth 100000 in
theorem mp_k266_0 : mp_ck 266 0 74 = true := by decide +kernel
set_option maxRecDepth 100000 in
theorem mp_k267_0 : mp_ck 267 0 82 = true := by decide +kernel
set_option maxRecDepth 100000 in
theorem mp_k268_0 : mp_ck 268 0 52 = true := by decide +kernel
set_option maxRecDepth 100000 in
theorem mp_k269_0 : mp_ck 269 0 31 = true := by decide +kernel
set_option maxRecDepth 100000 in
theorem mp_k270_0 : mp_ck 270 0 24 = true := by decide +kernel
set_option maxRecDepth 100000 in
theorem mp_k271_0 : mp_ck 271 0 23 = true := by decide +kernel
set_option maxRecDepth 100000 in
theorem mp_k272_0 : mp_ck 272 0 91 = true := by decide +kernel
set_option maxRecDepth 100000 in
theorem mp_k273_0 : mp_ck 273 0 43 = true := by decide +kernel
set_option maxRecDepth 100000 in
theorem mp_k274_0 : mp_ck 274 0 18 = true := by decide +kernel
set_option maxRecDepth 100000 in
theorem mp_k275_0 : mp_ck 275 0 60 = true := by decide +kernel
set_option maxRecDepth 100000 in
theorem mp_k276_0 : mp_ck 276 0 27 = true := by decide +kernel
set_option maxRecDepth 100000 in
theorem mp_k277_0 : mp_ck 277 0 14 = true := by decide +kernel
set_option maxRecDepth 100000 in
theorem mp_k278_0 : mp_ck 278 0 23 = true := by decide +kernel
set_option maxRecDepth 100000 in
theorem mp_k279_0 : mp_ck 279 0 88 = true := by decide +kernel
set_option maxRecDepth 100000 in
theorem mp_k280_0 : mp_ck 280 0 32 = true := by decide +kernel
set_option maxRecDepth 100000 in
theorem mp_k281_0 : mp_ck 281 0 74 = true := by decide +kernel
set_option maxRecDepth 100000 in
theorem mp_k282_0 : mp_ck 282 0 40 = true := by decide +kernel
set_option maxRecDepth 100000 in
theorem mp_k283_0 : mp_ck 283 0 50 = true := by decide +kernel
set_option maxRecDepth 100000 in
theorem mp_k284_0 : mp_ck 284 0 30 = true := by decide +kernel
set_option maxRecDepth 100000 in
theorem mp_k285_0 : mp_ck 285 0 28 = true := by decide +kernel
set_option maxRecDepth 100000 in
theorem mp_k286_0 : mp_ck 286 0 10 = true := by decide +kernel
