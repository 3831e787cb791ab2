/-! the callees' words, checked -/
set_option maxRecDepth 100000 in
theorem mp_ka3 : ([121, 122, 123, 124, 125, 126, 127, 128, 129, 130, 131, 132, 133, 134, 135, 136, 137, 138, 139, 140, 141, 142, 143, 144, 145, 146, 147, 148, 149, 150, 151, 152, 153, 154, 155, 156, 157, 158, 159, 160] : List Nat).all mp_kck = true := by decide +kernel
set_option maxRecDepth 100000 in
theorem mp_kb121 : mp_kcd 121 := rfl
set_option maxRecDepth 100000 in
theorem mp_kb122 : mp_kcd 122 := rfl
set_option maxRecDepth 100000 in
theorem mp_kb123 : mp_kcd 123 := rfl
set_option maxRecDepth 100000 in
theorem mp_kb124 : mp_kcd 124 := rfl
set_option maxRecDepth 100000 in
theorem mp_kb125 : mp_kcd 125 := rfl
set_option maxRecDepth 100000 in
theorem mp_kb126 : mp_kcd 126 := rfl
set_option maxRecDepth 100000 in
theorem mp_kb127 : mp_kcd 127 := rfl
set_option maxRecDepth 100000 in
theorem mp_kb128 : mp_kcd 128 := rfl
set_option maxRecDepth 100000 in
theorem mp_kb129 : mp_kcd 129 := rfl
set_option maxRecDepth 100000 in
theorem mp_kb130 : mp_kcd 130 := rfl
set_option maxRecDepth 100000 in
theorem mp_kb131 : mp_kcd 131 := rfl
set_option maxRecDepth 100000 in
theorem mp_kb132 : mp_kcd 132 := rfl
set_option maxRecDepth 100000 in
theorem mp_kb133 : mp_kcd 133 := rfl
set_option maxRecDepth 100000 in
theorem mp_kb134 : mp_kcd 134 := rfl
set_option maxRecDepth 100000 in
theorem mp_kb135 : mp_kcd 135 := rfl
set_option maxRecDepth 100000 in
theorem mp_kb136 : mp_kcd 136 := rfl
set_option maxRecDepth 100000 in
theorem mp_kb137 : mp_kcd 137 := rfl
set_option maxRecDepth 100000 in
theorem mp_kb138 : mp_kcd 138 := rfl
set_option maxRecDepth 100000 in
theorem mp_kb139 : mp_kcd 139 := rfl
set_option maxRecDepth 100000 in
theorem mp_kb140 : mp_kcd 140 := rfl
set_option maxRecDepth 100000 in
theorem mp_kb141 : mp_kcd 141 := rfl
set_option maxRecDepth 100000 in
theorem mp_kb142 : mp_kcd 142 := rfl
set_option maxRecDepth 100000 in
theorem mp_kb143 : mp_kcd 143 := rfl
set_option maxRecDepth 100000 in
theorem mp_kb144 : mp_kcd 144 := rfl
set_option maxRecDepth 100000 in
theorem mp_kb145 : mp_kcd 145 := rfl
set_option maxRecDepth 100000 in
theorem mp_kb146 : mp_kcd 146 := rfl
set_option maxRecDepth 100000 in
theorem mp_kb147 : mp_kcd 147 := rfl
set_option maxRecDepth 100000 in
theorem mp_kb148 : mp_kcd 148 := rfl
set_option maxRecDepth 100000 in
theorem mp_kb149 : mp_kcd 149 := rfl
set_option maxRecDepth 100000 in
theorem mp_kb150 : mp_kcd 150 := rfl
set_option maxRecDepth 100000 in
theorem mp_kb151 : mp_kcd 151 := rfl
set_option maxRecDepth 100000 in
theorem mp_kb152 : mp_kcd 152 := rfl
set_option maxRecDepth 100000 in
theorem mp_kb153 : mp_kcd 153 := rfl
set_option maxRecDepth 100000 in
theorem mp_kb154 : mp_kcd 154 := rfl
set_option maxRecDepth 100000 in
theorem mp_kb155 : mp_kcd 155 := rfl
set_option maxRecDepth 100000 in
theorem mp_kb156 : mp_kcd 156 := rfl
set_option maxRecDepth 100000 in
theorem mp_kb157 : mp_kcd 157 := rfl
set_option maxRecDepth 100000 in
theorem mp_kb158 : mp_kcd 158 := rfl
set_option maxRecDepth 100000 in
theorem mp_kb159 : mp_kcd 159 := rfl
set_option maxRecDepth 100000 in
theorem mp_kb160 : mp_kcd 160 := rfl
