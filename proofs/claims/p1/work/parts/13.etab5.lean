set_option maxRecDepth 100000 in
theorem mm_ew170 : mm_k170.all (mm_eb 170) = true := by decide +kernel
set_option maxRecDepth 100000 in
theorem mm_ew171 : mm_k171.all (mm_eb 171) = true := by decide +kernel
set_option maxRecDepth 100000 in
theorem mm_ew172 : mm_k172.all (mm_eb 172) = true := by decide +kernel
set_option maxRecDepth 100000 in
theorem mm_ew173 : mm_k173.all (mm_eb 173) = true := by decide +kernel
set_option maxRecDepth 100000 in
theorem mm_ew174 : mm_k174.all (mm_eb 174) = true := by decide +kernel
set_option maxRecDepth 100000 in
theorem mm_ew175 : mm_k175.all (mm_eb 175) = true := by decide +kernel
set_option maxRecDepth 100000 in
theorem mm_ew176 : mm_k176.all (mm_eb 176) = true := by decide +kernel
set_option maxRecDepth 100000 in
theorem mm_ew177 : mm_k177.all (mm_eb 177) = true := by decide +kernel
set_option maxRecDepth 100000 in
theorem mm_ew178 : mm_k178.all (mm_eb 178) = true := by decide +kernel
set_option maxRecDepth 100000 in
theorem mm_ew179 : mm_k179.all (mm_eb 179) = true := by decide +kernel
set_option maxRecDepth 100000 in
theorem mm_ew180 : mm_k180.all (mm_eb 180) = true := by decide +kernel
set_option maxRecDepth 100000 in
theorem mm_ew181 : mm_k181.all (mm_eb 181) = true := by decide +kernel
set_option maxRecDepth 100000 in
theorem mm_ew182 : mm_k182.all (mm_eb 182) = true := by decide +kernel
set_option maxRecDepth 100000 in
theorem mm_ew183 : mm_k183.all (mm_eb 183) = true := by decide +kernel
set_option maxRecDepth 100000 in
theorem mm_ew184 : mm_k184.all (mm_eb 184) = true := by decide +kernel
set_option maxRecDepth 100000 in
theorem mm_ew185 : mm_k185.all (mm_eb 185) = true := by decide +kernel
set_option maxRecDepth 100000 in
theorem mm_ew186 : mm_k186.all (mm_eb 186) = true := by decide +kernel
set_option maxRecDepth 100000 in
theorem mm_ew187 : mm_k187.all (mm_eb 187) = true := by decide +kernel
set_option maxRecDepth 100000 in
theorem mm_ew188 : mm_k188.all (mm_eb 188) = true := by decide +kernel
