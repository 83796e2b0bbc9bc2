set_option maxRecDepth 100000 in
theorem mm_ew0 : mm_k0.all (mm_eb 0) = true := by decide +kernel
set_option maxRecDepth 100000 in
theorem mm_ew1 : mm_k1.all (mm_eb 1) = true := by decide +kernel
set_option maxRecDepth 100000 in
theorem mm_ew2 : mm_k2.all (mm_eb 2) = true := by decide +kernel
set_option maxRecDepth 100000 in
theorem mm_ew3 : mm_k3.all (mm_eb 3) = true := by decide +kernel
set_option maxRecDepth 100000 in
theorem mm_ew4 : mm_k4.all (mm_eb 4) = true := by decide +kernel
set_option maxRecDepth 100000 in
theorem mm_ew5 : mm_k5.all (mm_eb 5) = true := by decide +kernel
set_option maxRecDepth 100000 in
theorem mm_ew6 : mm_k6.all (mm_eb 6) = true := by decide +kernel
set_option maxRecDepth 100000 in
theorem mm_ew7 : mm_k7.all (mm_eb 7) = true := by decide +kernel
set_option maxRecDepth 100000 in
theorem mm_ew8 : mm_k8.all (mm_eb 8) = true := by decide +kernel
set_option maxRecDepth 100000 in
theorem mm_ew9 : mm_k9.all (mm_eb 9) = true := by decide +kernel
set_option maxRecDepth 100000 in
theorem mm_ew10 : mm_k10.all (mm_eb 10) = true := by decide +kernel
set_option maxRecDepth 100000 in
theorem mm_ew11 : mm_k11.all (mm_eb 11) = true := by decide +kernel
set_option maxRecDepth 100000 in
theorem mm_ew12 : mm_k12.all (mm_eb 12) = true := by decide +kernel
set_option maxRecDepth 100000 in
theorem mm_ew13 : mm_k13.all (mm_eb 13) = true := by decide +kernel
set_option maxRecDepth 100000 in
theorem mm_ew14 : mm_k14.all (mm_eb 14) = true := by decide +kernel
set_option maxRecDepth 100000 in
theorem mm_ew15 : mm_k15.all (mm_eb 15) = true := by decide +kernel
set_option maxRecDepth 100000 in
theorem mm_ew16 : mm_k16.all (mm_eb 16) = true := by decide +kernel
set_option maxRecDepth 100000 in
theorem mm_ew17 : mm_k17.all (mm_eb 17) = true := by decide +kernel
set_option maxRecDepth 100000 in
theorem mm_ew18 : mm_k18.all (mm_eb 18) = true := by decide +kernel
set_option maxRecDepth 100000 in
theorem mm_ew19 : mm_k19.all (mm_eb 19) = true := by decide +kernel
set_option maxRecDepth 100000 in
theorem mm_ew20 : mm_k20.all (mm_eb 20) = true := by decide +kernel
set_option maxRecDepth 100000 in
theorem mm_ew21 : mm_k21.all (mm_eb 21) = true := by decide +kernel
set_option maxRecDepth 100000 in
theorem mm_ew22 : mm_k22.all (mm_eb 22) = true := by decide +kernel
set_option maxRecDepth 100000 in
theorem mm_ew23 : mm_k23.all (mm_eb 23) = true := by decide +kernel
set_option maxRecDepth 100000 in
theorem mm_ew24 : mm_k24.all (mm_eb 24) = true := by decide +kernel
set_option maxRecDepth 100000 in
theorem mm_ew25 : mm_k25.all (mm_eb 25) = true := by decide +kernel
set_option maxRecDepth 100000 in
theorem mm_ew26 : mm_k26.all (mm_eb 26) = true := by decide +kernel
set_option maxRecDepth 100000 in
theorem mm_ew27 : mm_k27.all (mm_eb 27) = true := by decide +kernel
set_option maxRecDepth 100000 in
theorem mm_ew28 : mm_k28.all (mm_eb 28) = true := by decide +kernel
set_option maxRecDepth 100000 in
theorem mm_ew29 : mm_k29.all (mm_eb 29) = true := by decide +kernel
set_option maxRecDepth 100000 in
theorem mm_ew30 : mm_k30.all (mm_eb 30) = true := by decide +kernel
set_option maxRecDepth 100000 in
theorem mm_ew31 : mm_k31.all (mm_eb 31) = true := by decide +kernel
set_option maxRecDepth 100000 in
theorem mm_ew32 : mm_k32.all (mm_eb 32) = true := by decide +kernel
set_option maxRecDepth 100000 in
theorem mm_ew33 : mm_k33.all (mm_eb 33) = true := by decide +kernel
set_option maxRecDepth 100000 in
theorem mm_ew34 : mm_k34.all (mm_eb 34) = true := by decide +kernel
set_option maxRecDepth 100000 in
theorem mm_ew35 : mm_k35.all (mm_eb 35) = true := by decide +kernel
set_option maxRecDepth 100000 in
theorem mm_ew36 : mm_k36.all (mm_eb 36) = true := by decide +kernel
set_option maxRecDepth 100000 in
theorem mm_ew37 : mm_k37.all (mm_eb 37) = true := by decide +kernel
