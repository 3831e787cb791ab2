/-! the callees' words, checked -/
set_option maxRecDepth 100000 in
theorem mp_ka4 : ([161, 162, 163, 164, 165, 166, 167, 168, 169, 170, 171, 172, 173, 174, 175, 176, 177, 178, 179, 180, 181, 182, 183, 184, 185, 186, 187, 188, 189, 190, 191, 192, 193, 194, 195, 196, 197, 198, 199, 200] : List Nat).all mp_kck = true := by decide +kernel
set_option maxRecDepth 100000 in
theorem mp_kb161 : mp_kcd 161 := rfl
set_option maxRecDepth 100000 in
theorem mp_kb162 : mp_kcd 162 := rfl
set_option maxRecDepth 100000 in
theorem mp_kb163 : mp_kcd 163 := rfl
set_option maxRecDepth 100000 in
theorem mp_kb164 : mp_kcd 164 := rfl
set_option maxRecDepth 100000 in
theorem mp_kb165 : mp_kcd 165 := rfl
set_option maxRecDepth 100000 in
theorem mp_kb166 : mp_kcd 166 := rfl
set_option maxRecDepth 100000 in
theorem mp_kb167 : mp_kcd 167 := rfl
set_option maxRecDepth 100000 in
theorem mp_kb168 : mp_kcd 168 := rfl
set_option maxRecDepth 100000 in
theorem mp_kb169 : mp_kcd 169 := rfl
set_option maxRecDepth 100000 in
theorem mp_kb170 : mp_kcd 170 := rfl
set_option maxRecDepth 100000 in
theorem mp_kb171 : mp_kcd 171 := rfl
set_option maxRecDepth 100000 in
theorem mp_kb172 : mp_kcd 172 := rfl
set_option maxRecDepth 100000 in
theorem mp_kb173 : mp_kcd 173 := rfl
set_option maxRecDepth 100000 in
theorem mp_kb174 : mp_kcd 174 := rfl
set_option maxRecDepth 100000 in
theorem mp_kb175 : mp_kcd 175 := rfl
set_option maxRecDepth 100000 in
theorem mp_kb176 : mp_kcd 176 := rfl
set_option maxRecDepth 100000 in
theorem mp_kb177 : mp_kcd 177 := rfl
set_option maxRecDepth 100000 in
theorem mp_kb178 : mp_kcd 178 := rfl
set_option maxRecDepth 100000 in
theorem mp_kb179 : mp_kcd 179 := rfl
set_option maxRecDepth 100000 in
theorem mp_kb180 : mp_kcd 180 := rfl
set_option maxRecDepth 100000 in
theorem mp_kb181 : mp_kcd 181 := rfl
set_option maxRecDepth 100000 in
theorem mp_kb182 : mp_kcd 182 := rfl
set_option maxRecDepth 100000 in
theorem mp_kb183 : mp_kcd 183 := rfl
set_option maxRecDepth 100000 in
theorem mp_kb184 : mp_kcd 184 := rfl
set_option maxRecDepth 100000 in
theorem mp_kb185 : mp_kcd 185 := rfl
set_option maxRecDepth 100000 in
theorem mp_kb186 : mp_kcd 186 := rfl
set_option maxRecDepth 100000 in
theorem mp_kb187 : mp_kcd 187 := rfl
set_option maxRecDepth 100000 in
theorem mp_kb188 : mp_kcd 188 := rfl
set_option maxRecDepth 100000 in
theorem mp_kb189 : mp_kcd 189 := rfl
set_option maxRecDepth 100000 in
theorem mp_kb190 : mp_kcd 190 := rfl
set_option maxRecDepth 100000 in
theorem mp_kb191 : mp_kcd 191 := rfl
set_option maxRecDepth 100000 in
theorem mp_kb192 : mp_kcd 192 := rfl
set_option maxRecDepth 100000 in
theorem mp_kb193 : mp_kcd 193 := rfl
set_option maxRecDepth 100000 in
theorem mp_kb194 : mp_kcd 194 := rfl
set_option maxRecDepth 100000 in
theorem mp_kb195 : mp_kcd 195 := rfl
set_option maxRecDepth 100000 in
theorem mp_kb196 : mp_kcd 196 := rfl
set_option maxRecDepth 100000 in
theorem mp_kb197 : mp_kcd 197 := rfl
set_option maxRecDepth 100000 in
theorem mp_kb198 : mp_kcd 198 := rfl
set_option maxRecDepth 100000 in
theorem mp_kb199 : mp_kcd 199 := rfl
set_option maxRecDepth 100000 in
theorem mp_kb200 : mp_kcd 200 := rfl
