/-! the program's links, checked -/
set_option maxRecDepth 100000 in
theorem mp_k215_0 : mp_ck 215 0 136 = true := by decide +kernel
set_option maxRecDepth 100000 in
theorem mp_k216_0 : mp_ck 216 0 46 = true := by decide +kernel
set_option maxRecDepth 100000 in
theorem mp_k217_0 : mp_ck 217 0 71 = true := by decide +kernel
set_option maxRecDepth 100000 in
theorem mp_k218_0 : mp_ck 218 0 87 = true := by decide +kernel
set_option maxRecDepth 100000 in
theorem mp_k219_0 : mp_ck 219 0 27 = true := by decide +kernel
set_option maxRecDepth 100000 in
theorem mp_k220_0 : mp_ck 220 0 46 = true := by decide +kernel
set_option maxRecDepth 100000 in
theorem mp_k221_0 : mp_ck 221 0 38 = true := by decide +kernel
set_option maxRecDepth 100000 in
theorem mp_k222_0 : mp_ck 222 0 47 = true := by decide +kernel
set_option maxRecDepth 100000 in
theorem mp_k223_0 : mp_ck 223 0 40 = true := by decide +kernel
set_option maxRecDepth 100000 in
theorem mp_k224_0 : mp_ck 224 0 18 = true := by decide +kernel
set_option maxRecDepth 100000 in
theorem mp_k225_0 : mp_ck 225 0 33 = true := by decide +kernel
set_option maxRecDepth 100000 in
theorem mp_k226_0 : mp_ck 226 0 21 = true := by decide +kernel
set_option maxRecDepth 100000 in
theorem mp_k227_0 : mp_ck 227 0 44 = true := by decide +kernel
set_option maxRecDepth 100000 in
theorem mp_k228_0 : mp_ck 228 0 50 = true := by decide +kernel
set_option maxRecDepth 100000 in
theorem mp_k229_0 : mp_ck 229 0 62 = true := by decide +kernel
set_option maxRecDepth 100000 in
theorem mp_k230_0 : mp_ck 230 0 25 = true := by decide +kernel
set_option maxRecDepth 100000 in
theorem mp_k231_0 : mp_ck 231 0 74 = true := by decide +kernel
set_option maxRecDepth 100000 in
theorem mp_k232_0 : mp_ck 232 0 121 = true := by decide +kernel
set_option maxRecDepth 100000 in
theorem mp_k233_0 : mp_ck 233 0 17 = true := by decide +kernel
set_option maxRecDepth 100000 in
theorem mp_k234_0 : mp_ck 234 0 65 = true := by decide +kernel
set_option maxRecDepth 100000 in
theorem mp_k235_0 : mp_ck 235 0 27 = true := by decide +kernel
set_option maxRecDepth 100000 in
theorem mp_k236_0 : mp_ck 236 0 79 = true := by decide +kernel
set_option maxRecDepth 100000 in
theorem mp_k237_0 : mp_ck 237 0 98 = true := by decide +kernel
set_option maxRecDepth 100000 in
theorem mp_k238_0 : mp_ck 238 0 10 = true := by decide +kernel
set_option maxRecDepth 100000 in
theorem mp_k239_0 : mp_ck 239 0 12 = true := by decide +kernel
set_option maxRecDepth 100000 in
theorem mp_k240_0 : mp_ck 240 0 68 = true := by decide +kernel
set_option maxRecDepth 100000 in
theorem mp_k241_0 : mp_ck 241 0 30 = true := by decide +kernel
set_option maxRecDepth 100000 in
theorem mp_k242_0 : mp_ck 242 0 41 = true := by decide +kernel
set_option maxRecDepth 100000 in
theorem mp_k243_0 : mp_ck 243 0 28 = true := by decide +kernel
set_option maxRecDepth 100000 in
theorem mp_k244_0 : mp_ck 244 0 125 = true := by decide +kernel
set_option maxRecDepth 100000 in
theorem mp_k245_0 : mp_ck 245 0 10 = true := by decide +kernel
set_option maxRecDepth 100000 in
theorem mp_k246_0 : mp_ck 246 0 89 = true := by decide +kernel
set_option maxRecDepth 100000 in
theorem mp_k247_0 : mp_ck 247 0 75 = true := by decide +kernel
set_option maxRecDepth 100000 in
theorem mp_k248_0 : mp_ck 248 0 78 = true := by decide +kernel
set_option maxRecDepth 100000 in
theorem mp_k249_0 : mp_ck 249 0 122 = true := by decide +kernel
set_option maxRecDepth 100000 in
theorem mp_k250_0 : mp_ck 250 0 121 = true := by decide +kernel
set_option maxRecDepth 100000 in
theorem mp_k251_0 : mp_ck 251 0 100 = true := by decide +kernel
set_option maxRecDepth 100000 in
theorem mp_k251_100 : mp_ck 251 100 100 = true := by decide +kernel
set_option maxRecDepth 100000 in
theorem mp_k251_200 : mp_ck 251 200 71 = true := by decide +kernel
