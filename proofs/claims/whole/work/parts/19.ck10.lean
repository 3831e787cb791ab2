/-! the program's links, checked -/
set_option maxRecDepth 100000 in
theorem mp_k183_0 : mp_ck 183 0 75 = true := by decide +kernel
set_option maxRecDepth 100000 in
theorem mp_k184_0 : mp_ck 184 0 11 = true := by decide +kernel
set_option maxRecDepth 100000 in
theorem mp_k185_0 : mp_ck 185 0 23 = true := by decide +kernel
set_option maxRecDepth 100000 in
theorem mp_k186_0 : mp_ck 186 0 79 = true := by decide +kernel
set_option maxRecDepth 100000 in
theorem mp_k187_0 : mp_ck 187 0 18 = true := by decide +kernel
set_option maxRecDepth 100000 in
theorem mp_k188_0 : mp_ck 188 0 124 = true := by decide +kernel
set_option maxRecDepth 100000 in
theorem mp_k189_0 : mp_ck 189 0 22 = true := by decide +kernel
set_option maxRecDepth 100000 in
theorem mp_k190_0 : mp_ck 190 0 94 = true := by decide +kernel
set_option maxRecDepth 100000 in
theorem mp_k191_0 : mp_ck 191 0 25 = true := by decide +kernel
set_option maxRecDepth 100000 in
theorem mp_k192_0 : mp_ck 192 0 216 = true := by decide +kernel
set_option maxRecDepth 100000 in
theorem mp_k193_0 : mp_ck 193 0 46 = true := by decide +kernel
set_option maxRecDepth 100000 in
theorem mp_k194_0 : mp_ck 194 0 100 = true := by decide +kernel
set_option maxRecDepth 100000 in
theorem mp_k194_100 : mp_ck 194 100 100 = true := by decide +kernel
set_option maxRecDepth 100000 in
theorem mp_k194_200 : mp_ck 194 200 77 = true := by decide +kernel
set_option maxRecDepth 100000 in
theorem mp_k195_0 : mp_ck 195 0 43 = true := by decide +kernel
set_option maxRecDepth 100000 in
theorem mp_k196_0 : mp_ck 196 0 102 = true := by decide +kernel
set_option maxRecDepth 100000 in
theorem mp_k197_0 : mp_ck 197 0 87 = true := by decide +kernel
set_option maxRecDepth 100000 in
theorem mp_k198_0 : mp_ck 198 0 70 = true := by decide +kernel
set_option maxRecDepth 100000 in
theorem mp_k199_0 : mp_ck 199 0 200 = true := by decide +kernel
set_option maxRecDepth 100000 in
theorem mp_k200_0 : mp_ck 200 0 81 = true := by decide +kernel
set_option maxRecDepth 100000 in
theorem mp_k201_0 : mp_ck 201 0 37 = true := by decide +kernel
set_option maxRecDepth 100000 in
theorem mp_k202_0 : mp_ck 202 0 33 = true := by decide +kernel
set_option maxRecDepth 100000 in
theorem mp_k203_0 : mp_ck 203 0 33 = true := by decide +kernel
set_option maxRecDepth 100000 in
theorem mp_k204_0 : mp_ck 204 0 33 = true := by decide +kernel
set_option maxRecDepth 100000 in
theorem mp_k205_0 : mp_ck 205 0 68 = true := by decide +kernel
set_option maxRecDepth 100000 in
theorem mp_k206_0 : mp_ck 206 0 29 = true := by decide +kernel
set_option maxRecDepth 100000 in
theorem mp_k207_0 : mp_ck 207 0 39 = true := by decide +kernel
set_option maxRecDepth 100000 in
theorem mp_k208_0 : mp_ck 208 0 29 = true := by decide +kernel
set_option maxRecDepth 100000 in
theorem mp_k209_0 : mp_ck 209 0 45 = true := by decide +kernel
set_option maxRecDepth 100000 in
theorem mp_k210_0 : mp_ck 210 0 24 = true := by decide +kernel
set_option maxRecDepth 100000 in
theorem mp_k211_0 : mp_ck 211 0 21 = true := by decide +kernel
set_option maxRecDepth 100000 in
theorem mp_k212_0 : mp_ck 212 0 44 = true := by decide +kernel
set_option maxRecDepth 100000 in
theorem mp_k213_0 : mp_ck 213 0 30 = true := by decide +kernel
set_option maxRecDepth 100000 in
theorem mp_k214_0 : mp_ck 214 0 193 = true := by decide +kernel
