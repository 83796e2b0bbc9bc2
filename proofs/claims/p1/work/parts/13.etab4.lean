set_option maxRecDepth 100000 in
theorem mm_ew138 : mm_k138.all (mm_eb 138) = true := by decide +kernel
set_option maxRecDepth 100000 in
theorem mm_ew139 : mm_k139.all (mm_eb 139) = true := by decide +kernel
set_option maxRecDepth 100000 in
theorem mm_ew140 : mm_k140.all (mm_eb 140) = true := by decide +kernel
set_option maxRecDepth 100000 in
theorem mm_ew141 : mm_k141.all (mm_eb 141) = true := by decide +kernel
set_option maxRecDepth 100000 in
theorem mm_ew142 : mm_k142.all (mm_eb 142) = true := by decide +kernel
set_option maxRecDepth 100000 in
theorem mm_ew143 : mm_k143.all (mm_eb 143) = true := by decide +kernel
set_option maxRecDepth 100000 in
theorem mm_ew144 : mm_k144.all (mm_eb 144) = true := by decide +kernel
set_option maxRecDepth 100000 in
theorem mm_ew145 : mm_k145.all (mm_eb 145) = true := by decide +kernel
set_option maxRecDepth 100000 in
theorem mm_ew146 : mm_k146.all (mm_eb 146) = true := by decide +kernel
set_option maxRecDepth 100000 in
theorem mm_ew147 : mm_k147.all (mm_eb 147) = true := by decide +kernel
set_option maxRecDepth 100000 in
theorem mm_ew148 : mm_k148.all (mm_eb 148) = true := by decide +kernel
set_option maxRecDepth 100000 in
theorem mm_ew149 : mm_k149.all (mm_eb 149) = true := by decide +kernel
set_option maxRecDepth 100000 in
theorem mm_ew150 : mm_k150.all (mm_eb 150) = true := by decide +kernel
set_option maxRecDepth 100000 in
theorem mm_ew151 : mm_k151.all (mm_eb 151) = true := by decide +kernel
set_option maxRecDepth 100000 in
theorem mm_ew152 : mm_k152.all (mm_eb 152) = true := by decide +kernel
set_option maxRecDepth 100000 in
theorem mm_ew153 : mm_k153.all (mm_eb 153) = true := by decide +kernel
set_option maxRecDepth 100000 in
theorem mm_ew154 : mm_k154.all (mm_eb 154) = true := by decide +kernel
set_option maxRecDepth 100000 in
theorem mm_ew155 : mm_k155.all (mm_eb 155) = true := by decide +kernel
set_option maxRecDepth 100000 in
theorem mm_ew156 : mm_k156.all (mm_eb 156) = true := by decide +kernel
set_option maxRecDepth 100000 in
theorem mm_ew157 : mm_k157.all (mm_eb 157) = true := by decide +kernel
set_option maxRecDepth 100000 in
theorem mm_ew158 : mm_k158.all (mm_eb 158) = true := by decide +kernel
set_option maxRecDepth 100000 in
theorem mm_ew159 : mm_k159.all (mm_eb 159) = true := by decide +kernel
set_option maxRecDepth 100000 in
theorem mm_ew160 : mm_k160.all (mm_eb 160) = true := by decide +kernel
set_option maxRecDepth 100000 in
theorem mm_ew161 : mm_k161.all (mm_eb 161) = true := by decide +kernel
set_option maxRecDepth 100000 in
theorem mm_ew162 : mm_k162.all (mm_eb 162) = true := by decide +kernel
set_option maxRecDepth 100000 in
theorem mm_ew163 : mm_k163.all (mm_eb 163) = true := by decide +kernel
set_option maxRecDepth 100000 in
theorem mm_ew164 : mm_k164.all (mm_eb 164) = true := by decide +kernel
set_option maxRecDepth 100000 in
theorem mm_ew165 : mm_k165.all (mm_eb 165) = true := by decide +kernel
set_option maxRecDepth 100000 in
theorem mm_ew166 : mm_k166.all (mm_eb 166) = true := by decide +kernel
set_option maxRecDepth 100000 in
theorem mm_ew167 : mm_k167.all (mm_eb 167) = true := by decide +kernel
set_option maxRecDepth 100000 in
theorem mm_ew168 : mm_k168.all (mm_eb 168) = true := by decide +kernel
set_option maxRecDepth 100000 in
theorem mm_ew169 : mm_k169.all (mm_eb 169) = true := by decide +kernel
