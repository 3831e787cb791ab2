/-! the program's links, checked -/
set_option maxRecDepth 100000 in
theorem mp_k151_0 : mp_ck 151 0 48 = true := by decide +kernel
set_option maxRecDepth 100000 in
theorem mp_k152_0 : mp_ck 152 0 84 = true := by decide +kernel
set_option maxRecDepth 100000 in
theorem mp_k153_0 : mp_ck 153 0 21 = true := by decide +kernel
set_option maxRecDepth 100000 in
theorem mp_k154_0 : mp_ck 154 0 209 = true := by decide +kernel
set_option maxRecDepth 100000 in
theorem mp_k155_0 : mp_ck 155 0 42 = true := by decide +kernel
set_option maxRecDepth 100000 in
theorem mp_k156_0 : mp_ck 156 0 87 = true := by decide +kernel
set_option maxRecDepth 100000 in
theorem mp_k157_0 : mp_ck 157 0 11 = true := by decide +kernel
set_option maxRecDepth 100000 in
theorem mp_k158_0 : mp_ck 158 0 25 = true := by decide +kernel
set_option maxRecDepth 100000 in
theorem mp_k159_0 : mp_ck 159 0 27 = true := by decide +kernel
set_option maxRecDepth 100000 in
theorem mp_k160_0 : mp_ck 160 0 178 = true := by decide +kernel
set_option maxRecDepth 100000 in
theorem mp_k161_0 : mp_ck 161 0 17 = true := by decide +kernel
set_option maxRecDepth 100000 in
theorem mp_k162_0 : mp_ck 162 0 23 = true := by decide +kernel
set_option maxRecDepth 100000 in
theorem mp_k163_0 : mp_ck 163 0 249 = true := by decide +kernel
set_option maxRecDepth 100000 in
theorem mp_k164_0 : mp_ck 164 0 252 = true := by decide +kernel
set_option maxRecDepth 100000 in
theorem mp_k165_0 : mp_ck 165 0 23 = true := by decide +kernel
set_option maxRecDepth 100000 in
theorem mp_k166_0 : mp_ck 166 0 154 = true := by decide +kernel
set_option maxRecDepth 100000 in
theorem mp_k167_0 : mp_ck 167 0 53 = true := by decide +kernel
set_option maxRecDepth 100000 in
theorem mp_k168_0 : mp_ck 168 0 77 = true := by decide +kernel
set_option maxRecDepth 100000 in
theorem mp_k169_0 : mp_ck 169 0 214 = true := by decide +kernel
set_option maxRecDepth 100000 in
theorem mp_k170_0 : mp_ck 170 0 119 = true := by decide +kernel
set_option maxRecDepth 100000 in
theorem mp_k171_0 : mp_ck 171 0 36 = true := by decide +kernel
set_option maxRecDepth 100000 in
theorem mp_k172_0 : mp_ck 172 0 27 = true := by decide +kernel
set_option maxRecDepth 100000 in
theorem mp_k173_0 : mp_ck 173 0 24 = true := by decide +kernel
set_option maxRecDepth 100000 in
theorem mp_k174_0 : mp_ck 174 0 20 = true := by decide +kernel
set_option maxRecDepth 100000 in
theorem mp_k175_0 : mp_ck 175 0 60 = true := by decide +kernel
set_option maxRecDepth 100000 in
theorem mp_k176_0 : mp_ck 176 0 100 = true := by decide +kernel
set_option maxRecDepth 100000 in
theorem mp_k177_0 : mp_ck 177 0 23 = true := by decide +kernel
set_option maxRecDepth 100000 in
theorem mp_k178_0 : mp_ck 178 0 71 = true := by decide +kernel
set_option maxRecDepth 100000 in
theorem mp_k179_0 : mp_ck 179 0 50 = true := by decide +kernel
set_option maxRecDepth 100000 in
theorem mp_k180_0 : mp_ck 180 0 6 = true := by decide +kernel
set_option maxRecDepth 100000 in
theorem mp_k181_0 : mp_ck 181 0 220 = true := by decide +kernel
set_option maxRecDepth 100000 in
theorem mp_k182_0 : mp_ck 182 0 128 = true := by decide +kernel
