set_option maxRecDepth 100000 in
theorem mm_ew98 : mm_k98.all (mm_eb 98) = true := by decide +kernel
set_option maxRecDepth 100000 in
theorem mm_ew99 : mm_k99.all (mm_eb 99) = true := by decide +kernel
set_option maxRecDepth 100000 in
theorem mm_ew100 : mm_k100.all (mm_eb 100) = true := by decide +kernel
set_option maxRecDepth 100000 in
theorem mm_ew101 : mm_k101.all (mm_eb 101) = true := by decide +kernel
set_option maxRecDepth 100000 in
theorem mm_ew102 : mm_k102.all (mm_eb 102) = true := by decide +kernel
set_option maxRecDepth 100000 in
theorem mm_ew103 : mm_k103.all (mm_eb 103) = true := by decide +kernel
set_option maxRecDepth 100000 in
theorem mm_ew104 : mm_k104.all (mm_eb 104) = true := by decide +kernel
set_option maxRecDepth 100000 in
theorem mm_ew105 : mm_k105.all (mm_eb 105) = true := by decide +kernel
set_option maxRecDepth 100000 in
theorem mm_ew106 : mm_k106.all (mm_eb 106) = true := by decide +kernel
set_option maxRecDepth 100000 in
theorem mm_ew107 : mm_k107.all (mm_eb 107) = true := by decide +kernel
set_option maxRecDepth 100000 in
theorem mm_ew108 : mm_k108.all (mm_eb 108) = true := by decide +kernel
set_option maxRecDepth 100000 in
theorem mm_ew109 : mm_k109.all (mm_eb 109) = true := by decide +kernel
set_option maxRecDepth 100000 in
theorem mm_ew110 : mm_k110.all (mm_eb 110) = true := by decide +kernel
set_option maxRecDepth 100000 in
theorem mm_ew111 : mm_k111.all (mm_eb 111) = true := by decide +kernel
set_option maxRecDepth 100000 in
theorem mm_ew112 : mm_k112.all (mm_eb 112) = true := by decide +kernel
set_option maxRecDepth 100000 in
theorem mm_ew113 : mm_k113.all (mm_eb 113) = true := by decide +kernel
set_option maxRecDepth 100000 in
theorem mm_ew114 : mm_k114.all (mm_eb 114) = true := by decide +kernel
set_option maxRecDepth 100000 in
theorem mm_ew115 : mm_k115.all (mm_eb 115) = true := by decide +kernel
set_option maxRecDepth 100000 in
theorem mm_ew116 : mm_k116.all (mm_eb 116) = true := by decide +kernel
set_option maxRecDepth 100000 in
theorem mm_ew117 : mm_k117.all (mm_eb 117) = true := by decide +kernel
set_option maxRecDepth 100000 in
theorem mm_ew118 : mm_k118.all (mm_eb 118) = true := by decide +kernel
set_option maxRecDepth 100000 in
theorem mm_ew119 : mm_k119.all (mm_eb 119) = true := by decide +kernel
set_option maxRecDepth 100000 in
theorem mm_ew120 : mm_k120.all (mm_eb 120) = true := by decide +kernel
set_option maxRecDepth 100000 in
theorem mm_ew121 : mm_k121.all (mm_eb 121) = true := by decide +kernel
set_option maxRecDepth 100000 in
theorem mm_ew122 : mm_k122.all (mm_eb 122) = true := by decide +kernel
set_option maxRecDepth 100000 in
theorem mm_ew123 : mm_k123.all (mm_eb 123) = true := by decide +kernel
set_option maxRecDepth 100000 in
theorem mm_ew124 : mm_k124.all (mm_eb 124) = true := by decide +kernel
set_option maxRecDepth 100000 in
theorem mm_ew125 : mm_k125.all (mm_eb 125) = true := by decide +kernel
set_option maxRecDepth 100000 in
theorem mm_ew126 : mm_k126.all (mm_eb 126) = true := by decide +kernel
set_option maxRecDepth 100000 in
theorem mm_ew127 : mm_k127.all (mm_eb 127) = true := by decide +kernel
set_option maxRecDepth 100000 in
theorem mm_ew128 : mm_k128.all (mm_eb 128) = true := by decide +kernel
set_option maxRecDepth 100000 in
theorem mm_ew129 : mm_k129.all (mm_eb 129) = true := by decide +kernel
set_option maxRecDepth 100000 in
theorem mm_ew130 : mm_k130.all (mm_eb 130) = true := by decide +kernel
set_option maxRecDepth 100000 in
theorem mm_ew131 : mm_k131.all (mm_eb 131) = true := by decide +kernel
set_option maxRecDepth 100000 in
theorem mm_ew132 : mm_k132.all (mm_eb 132) = true := by decide +kernel
set_option maxRecDepth 100000 in
theorem mm_ew133 : mm_k133.all (mm_eb 133) = true := by decide +kernel
set_option maxRecDepth 100000 in
theorem mm_ew134 : mm_k134.all (mm_eb 134) = true := by decide +kernel
set_option maxRecDepth 100000 in
theorem mm_ew135 : mm_k135.all (mm_eb 135) = true := by decide +kernel
set_option maxRecDepth 100000 in
theorem mm_ew136 : mm_k136.all (mm_eb 136) = true := by decide +kernel
set_option maxRecDepth 100000 in
theorem mm_ew137 : mm_k137.all (mm_eb 137) = true := by decide +kernel
