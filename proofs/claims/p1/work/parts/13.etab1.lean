set_option maxRecDepth 100000 in
theorem mm_ew38 : mm_k38.all (mm_eb 38) = true := by decide +kernel
set_option maxRecDepth 100000 in
theorem mm_ew39 : mm_k39.all (mm_eb 39) = true := by decide +kernel
set_option maxRecDepth 100000 in
theorem mm_ew40 : mm_k40.all (mm_eb 40) = true := by decide +kernel
set_option maxRecDepth 100000 in
theorem mm_ew41 : mm_k41.all (mm_eb 41) = true := by decide +kernel
set_option maxRecDepth 100000 in
theorem mm_ew42 : mm_k42.all (mm_eb 42) = true := by decide +kernel
set_option maxRecDepth 100000 in
theorem mm_ew43 : mm_k43.all (mm_eb 43) = true := by decide +kernel
set_option maxRecDepth 100000 in
theorem mm_ew44 : mm_k44.all (mm_eb 44) = true := by decide +kernel
set_option maxRecDepth 100000 in
theorem mm_ew45 : mm_k45.all (mm_eb 45) = true := by decide +kernel
set_option maxRecDepth 100000 in
theorem mm_ew46 : mm_k46.all (mm_eb 46) = true := by decide +kernel
set_option maxRecDepth 100000 in
theorem mm_ew47 : mm_k47.all (mm_eb 47) = true := by decide +kernel
set_option maxRecDepth 100000 in
theorem mm_ew48 : mm_k48.all (mm_eb 48) = true := by decide +kernel
set_option maxRecDepth 100000 in
theorem mm_ew49 : mm_k49.all (mm_eb 49) = true := by decide +kernel
set_option maxRecDepth 100000 in
theorem mm_ew50 : mm_k50.all (mm_eb 50) = true := by decide +kernel
set_option maxRecDepth 100000 in
theorem mm_ew51 : mm_k51.all (mm_eb 51) = true := by decide +kernel
set_option maxRecDepth 100000 in
theorem mm_ew52 : mm_k52.all (mm_eb 52) = true := by decide +kernel
set_option maxRecDepth 100000 in
theorem mm_ew53 : mm_k53.all (mm_eb 53) = true := by decide +kernel
set_option maxRecDepth 100000 in
theorem mm_ew54 : mm_k54.all (mm_eb 54) = true := by decide +kernel
set_option maxRecDepth 100000 in
theorem mm_ew55 : mm_k55.all (mm_eb 55) = true := by decide +kernel
set_option maxRecDepth 100000 in
theorem mm_ew56 : mm_k56.all (mm_eb 56) = true := by decide +kernel
set_option maxRecDepth 100000 in
theorem mm_ew57 : mm_k57.all (mm_eb 57) = true := by decide +kernel
set_option maxRecDepth 100000 in
theorem mm_ew58 : mm_k58.all (mm_eb 58) = true := by decide +kernel
set_option maxRecDepth 100000 in
theorem mm_ew59 : mm_k59.all (mm_eb 59) = true := by decide +kernel
set_option maxRecDepth 100000 in
theorem mm_ew60 : mm_k60.all (mm_eb 60) = true := by decide +kernel
set_option maxRecDepth 100000 in
theorem mm_ew61 : mm_k61.all (mm_eb 61) = true := by decide +kernel
set_option maxRecDepth 100000 in
theorem mm_ew62 : mm_k62.all (mm_eb 62) = true := by decide +kernel
set_option maxRecDepth 100000 in
theorem mm_ew63 : mm_k63.all (mm_eb 63) = true := by decide +kernel
set_option maxRecDepth 100000 in
theorem mm_ew64 : mm_k64.all (mm_eb 64) = true := by decide +kernel
