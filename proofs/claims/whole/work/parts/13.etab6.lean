set_option maxRecDepth 100000 in
theorem mm_ew189 : mm_k189.all (mm_eb 189) = true := by decide +kernel
set_option maxRecDepth 100000 in
theorem mm_ew190 : mm_k190.all (mm_eb 190) = true := by decide +kernel
set_option maxRecDepth 100000 in
theorem mm_ew191 : mm_k191.all (mm_eb 191) = true := by decide +kernel
set_option maxRecDepth 100000 in
theorem mm_ew192 : mm_k192.all (mm_eb 192) = true := by decide +kernel
set_option maxRecDepth 100000 in
theorem mm_ew193 : mm_k193.all (mm_eb 193) = true := by decide +kernel
set_option maxRecDepth 100000 in
theorem mm_ew194 : mm_k194.all (mm_eb 194) = true := by decide +kernel
set_option maxRecDepth 100000 in
theorem mm_ew195 : mm_k195.all (mm_eb 195) = true := by decide +kernel
set_option maxRecDepth 100000 in
theorem mm_ew196 : mm_k196.all (mm_eb 196) = true := by decide +kernel
set_option maxRecDepth 100000 in
theorem mm_ew197 : mm_k197.all (mm_eb 197) = true := by decide +kernel
set_option maxRecDepth 100000 in
theorem mm_ew198 : mm_k198.all (mm_eb 198) = true := by decide +kernel
set_option maxRecDepth 100000 in
theorem mm_ew199 : mm_k199.all (mm_eb 199) = true := by decide +kernel
set_option maxRecDepth 100000 in
theorem mm_ew200 : mm_k200.all (mm_eb 200) = true := by decide +kernel
set_option maxRecDepth 100000 in
theorem mm_ew201 : mm_k201.all (mm_eb 201) = true := by decide +kernel
set_option maxRecDepth 100000 in
theorem mm_ew202 : mm_k202.all (mm_eb 202) = true := by decide +kernel
set_option maxRecDepth 100000 in
theorem mm_ew203 : mm_k203.all (mm_eb 203) = true := by decide +kernel
set_option maxRecDepth 100000 in
theorem mm_ew204 : mm_k204.all (mm_eb 204) = true := by decide +kernel
set_option maxRecDepth 100000 in
theorem mm_ew205 : mm_k205.all (mm_eb 205) = true := by decide +kernel
set_option maxRecDepth 100000 in
theorem mm_ew206 : mm_k206.all (mm_eb 206) = true := by decide +kernel
set_option maxRecDepth 100000 in
theorem mm_ew207 : mm_k207.all (mm_eb 207) = true := by decide +kernel
set_option maxRecDepth 100000 in
theorem mm_ew208 : mm_k208.all (mm_eb 208) = true := by decide +kernel
