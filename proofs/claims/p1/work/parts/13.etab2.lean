set_option maxRecDepth 100000 in
theorem mm_ew65 : mm_k65.all (mm_eb 65) = true := by decide +kernel
set_option maxRecDepth 100000 in
theorem mm_ew66 : mm_k66.all (mm_eb 66) = true := by decide +kernel
set_option maxRecDepth 100000 in
theorem mm_ew67 : mm_k67.all (mm_eb 67) = true := by decide +kernel
set_option maxRecDepth 100000 in
theorem mm_ew68 : mm_k68.all (mm_eb 68) = true := by decide +kernel
set_option maxRecDepth 100000 in
theorem mm_ew69 : mm_k69.all (mm_eb 69) = true := by decide +kernel
set_option maxRecDepth 100000 in
theorem mm_ew70 : mm_k70.all (mm_eb 70) = true := by decide +kernel
set_option maxRecDepth 100000 in
theorem mm_ew71 : mm_k71.all (mm_eb 71) = true := by decide +kernel
set_option maxRecDepth 100000 in
theorem mm_ew72 : mm_k72.all (mm_eb 72) = true := by decide +kernel
set_option maxRecDepth 100000 in
theorem mm_ew73 : mm_k73.all (mm_eb 73) = true := by decide +kernel
set_option maxRecDepth 100000 in
theorem mm_ew74 : mm_k74.all (mm_eb 74) = true := by decide +kernel
set_option maxRecDepth 100000 in
theorem mm_ew75 : mm_k75.all (mm_eb 75) = true := by decide +kernel
set_option maxRecDepth 100000 in
theorem mm_ew76 : mm_k76.all (mm_eb 76) = true := by decide +kernel
set_option maxRecDepth 100000 in
theorem mm_ew77 : mm_k77.all (mm_eb 77) = true := by decide +kernel
set_option maxRecDepth 100000 in
theorem mm_ew78 : mm_k78.all (mm_eb 78) = true := by decide +kernel
set_option maxRecDepth 100000 in
theorem mm_ew79 : mm_k79.all (mm_eb 79) = true := by decide +kernel
set_option maxRecDepth 100000 in
theorem mm_ew80 : mm_k80.all (mm_eb 80) = true := by decide +kernel
set_option maxRecDepth 100000 in
theorem mm_ew81 : mm_k81.all (mm_eb 81) = true := by decide +kernel
set_option maxRecDepth 100000 in
theorem mm_ew82 : mm_k82.all (mm_eb 82) = true := by decide +kernel
set_option maxRecDepth 100000 in
theorem mm_ew83 : mm_k83.all (mm_eb 83) = true := by decide +kernel
set_option maxRecDepth 100000 in
theorem mm_ew84 : mm_k84.all (mm_eb 84) = true := by decide +kernel
set_option maxRecDepth 100000 in
theorem mm_ew85 : mm_k85.all (mm_eb 85) = true := by decide +kernel
set_option maxRecDepth 100000 in
theorem mm_ew86 : mm_k86.all (mm_eb 86) = true := by decide +kernel
set_option maxRecDepth 100000 in
theorem mm_ew87 : mm_k87.all (mm_eb 87) = true := by decide +kernel
set_option maxRecDepth 100000 in
theorem mm_ew88 : mm_k88.all (mm_eb 88) = true := by decide +kernel
set_option maxRecDepth 100000 in
theorem mm_ew89 : mm_k89.all (mm_eb 89) = true := by decide +kernel
set_option maxRecDepth 100000 in
theorem mm_ew90 : mm_k90.all (mm_eb 90) = true := by decide +kernel
set_option maxRecDepth 100000 in
theorem mm_ew91 : mm_k91.all (mm_eb 91) = true := by decide +kernel
set_option maxRecDepth 100000 in
theorem mm_ew92 : mm_k92.all (mm_eb 92) = true := by decide +kernel
set_option maxRecDepth 100000 in
theorem mm_ew93 : mm_k93.all (mm_eb 93) = true := by decide +kernel
set_option maxRecDepth 100000 in
theorem mm_ew94 : mm_k94.all (mm_eb 94) = true := by decide +kernel
set_option maxRecDepth 100000 in
theorem mm_ew95 : mm_k95.all (mm_eb 95) = true := by decide +kernel
set_option maxRecDepth 100000 in
theorem mm_ew96 : mm_k96.all (mm_eb 96) = true := by decide +kernel
set_option maxRecDepth 100000 in
theorem mm_ew97 : mm_k97.all (mm_eb 97) = true := by decide +kernel
