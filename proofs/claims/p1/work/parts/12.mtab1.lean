set_option maxRecDepth 100000 in
theorem mm_cw70 : lw_tbl[760]? = some (.code (mm_y 70) (mm_by 70) (mm_ml 70) (mm_rt 70)) := rfl
theorem mm_bw70 : mm_mb 70 = true := by decide +kernel
set_option maxRecDepth 100000 in
theorem mm_cw71 : lw_tbl[764]? = some (.code (mm_y 71) (mm_by 71) (mm_ml 71) (mm_rt 71)) := rfl
theorem mm_bw71 : mm_mb 71 = true := by decide +kernel
set_option maxRecDepth 100000 in
theorem mm_cw72 : lw_tbl[767]? = some (.code (mm_y 72) (mm_by 72) (mm_ml 72) (mm_rt 72)) := rfl
theorem mm_bw72 : mm_mb 72 = true := by decide +kernel
set_option maxRecDepth 100000 in
theorem mm_cw73 : lw_tbl[771]? = some (.code (mm_y 73) (mm_by 73) (mm_ml 73) (mm_rt 73)) := rfl
theorem mm_bw73 : mm_mb 73 = true := by decide +kernel
set_option maxRecDepth 100000 in
theorem mm_cw74 : lw_tbl[775]? = some (.code (mm_y 74) (mm_by 74) (mm_ml 74) (mm_rt 74)) := rfl
theorem mm_bw74 : mm_mb 74 = true := by decide +kernel
set_option maxRecDepth 100000 in
theorem mm_cw75 : lw_tbl[779]? = some (.code (mm_y 75) (mm_by 75) (mm_ml 75) (mm_rt 75)) := rfl
theorem mm_bw75 : mm_mb 75 = true := by decide +kernel
set_option maxRecDepth 100000 in
theorem mm_cw76 : lw_tbl[783]? = some (.code (mm_y 76) (mm_by 76) (mm_ml 76) (mm_rt 76)) := rfl
theorem mm_bw76 : mm_mb 76 = true := by decide +kernel
set_option maxRecDepth 100000 in
theorem mm_cw77 : lw_tbl[787]? = some (.code (mm_y 77) (mm_by 77) (mm_ml 77) (mm_rt 77)) := rfl
theorem mm_bw77 : mm_mb 77 = true := by decide +kernel
set_option maxRecDepth 100000 in
theorem mm_cw78 : lw_tbl[791]? = some (.code (mm_y 78) (mm_by 78) (mm_ml 78) (mm_rt 78)) := rfl
theorem mm_bw78 : mm_mb 78 = true := by decide +kernel
set_option maxRecDepth 100000 in
theorem mm_cw79 : lw_tbl[799]? = some (.code (mm_y 79) (mm_by 79) (mm_ml 79) (mm_rt 79)) := rfl
theorem mm_bw79 : mm_mb 79 = true := by decide +kernel
set_option maxRecDepth 100000 in
theorem mm_cw80 : lw_tbl[803]? = some (.code (mm_y 80) (mm_by 80) (mm_ml 80) (mm_rt 80)) := rfl
theorem mm_bw80 : mm_mb 80 = true := by decide +kernel
set_option maxRecDepth 100000 in
theorem mm_cw81 : lw_tbl[807]? = some (.code (mm_y 81) (mm_by 81) (mm_ml 81) (mm_rt 81)) := rfl
theorem mm_bw81 : mm_mb 81 = true := by decide +kernel
set_option maxRecDepth 100000 in
theorem mm_cw82 : lw_tbl[811]? = some (.code (mm_y 82) (mm_by 82) (mm_ml 82) (mm_rt 82)) := rfl
theorem mm_bw82 : mm_mb 82 = true := by decide +kernel
set_option maxRecDepth 100000 in
theorem mm_cw83 : lw_tbl[816]? = some (.code (mm_y 83) (mm_by 83) (mm_ml 83) (mm_rt 83)) := rfl
theorem mm_bw83 : mm_mb 83 = true := by decide +kernel
set_option maxRecDepth 100000 in
theorem mm_cw84 : lw_tbl[820]? = some (.code (mm_y 84) (mm_by 84) (mm_ml 84) (mm_rt 84)) := rfl
theorem mm_bw84 : mm_mb 84 = true := by decide +kernel
set_option maxRecDepth 100000 in
theorem mm_cw85 : lw_tbl[824]? = some (.code (mm_y 85) (mm_by 85) (mm_ml 85) (mm_rt 85)) := rfl
theorem mm_bw85 : mm_mb 85 = true := by decide +kernel
set_option maxRecDepth 100000 in
theorem mm_cw86 : lw_tbl[828]? = some (.code (mm_y 86) (mm_by 86) (mm_ml 86) (mm_rt 86)) := rfl
theorem mm_bw86 : mm_mb 86 = true := by decide +kernel
set_option maxRecDepth 100000 in
theorem mm_cw87 : lw_tbl[860]? = some (.code (mm_y 87) (mm_by 87) (mm_ml 87) (mm_rt 87)) := rfl
theorem mm_bw87 : mm_mb 87 = true := by decide +kernel
set_option maxRecDepth 100000 in
theorem mm_cw88 : lw_tbl[866]? = some (.code (mm_y 88) (mm_by 88) (mm_ml 88) (mm_rt 88)) := rfl
theorem mm_bw88 : mm_mb 88 = true := by decide +kernel
set_option maxRecDepth 100000 in
theorem mm_cw89 : lw_tbl[870]? = some (.code (mm_y 89) (mm_by 89) (mm_ml 89) (mm_rt 89)) := rfl
theorem mm_bw89 : mm_mb 89 = true := by decide +kernel
set_option maxRecDepth 100000 in
theorem mm_cw90 : lw_tbl[874]? = some (.code (mm_y 90) (mm_by 90) (mm_ml 90) (mm_rt 90)) := rfl
theorem mm_bw90 : mm_mb 90 = true := by decide +kernel
set_option maxRecDepth 100000 in
theorem mm_cw91 : lw_tbl[879]? = some (.code (mm_y 91) (mm_by 91) (mm_ml 91) (mm_rt 91)) := rfl
theorem mm_bw91 : mm_mb 91 = true := by decide +kernel
set_option maxRecDepth 100000 in
theorem mm_cw92 : lw_tbl[885]? = some (.code (mm_y 92) (mm_by 92) (mm_ml 92) (mm_rt 92)) := rfl
theorem mm_bw92 : mm_mb 92 = true := by decide +kernel
set_option maxRecDepth 100000 in
theorem mm_cw93 : lw_tbl[889]? = some (.code (mm_y 93) (mm_by 93) (mm_ml 93) (mm_rt 93)) := rfl
theorem mm_bw93 : mm_mb 93 = true := by decide +kernel
set_option maxRecDepth 100000 in
theorem mm_cw94 : lw_tbl[893]? = some (.code (mm_y 94) (mm_by 94) (mm_ml 94) (mm_rt 94)) := rfl
theorem mm_bw94 : mm_mb 94 = true := by decide +kernel
set_option maxRecDepth 100000 in
theorem mm_cw95 : lw_tbl[897]? = some (.code (mm_y 95) (mm_by 95) (mm_ml 95) (mm_rt 95)) := rfl
theorem mm_bw95 : mm_mb 95 = true := by decide +kernel
set_option maxRecDepth 100000 in
theorem mm_cw96 : lw_tbl[902]? = some (.code (mm_y 96) (mm_by 96) (mm_ml 96) (mm_rt 96)) := rfl
theorem mm_bw96 : mm_mb 96 = true := by decide +kernel
set_option maxRecDepth 100000 in
theorem mm_cw97 : lw_tbl[906]? = some (.code (mm_y 97) (mm_by 97) (mm_ml 97) (mm_rt 97)) := rfl
theorem mm_bw97 : mm_mb 97 = true := by decide +kernel
set_option maxRecDepth 100000 in
theorem mm_cw98 : lw_tbl[910]? = some (.code (mm_y 98) (mm_by 98) (mm_ml 98) (mm_rt 98)) := rfl
theorem mm_bw98 : mm_mb 98 = true := by decide +kernel
set_option maxRecDepth 100000 in
theorem mm_cw99 : lw_tbl[914]? = some (.code (mm_y 99) (mm_by 99) (mm_ml 99) (mm_rt 99)) := rfl
theorem mm_bw99 : mm_mb 99 = true := by decide +kernel
set_option maxRecDepth 100000 in
theorem mm_cw100 : lw_tbl[918]? = some (.code (mm_y 100) (mm_by 100) (mm_ml 100) (mm_rt 100)) := rfl
theorem mm_bw100 : mm_mb 100 = true := by decide +kernel
set_option maxRecDepth 100000 in
theorem mm_cw101 : lw_tbl[922]? = some (.code (mm_y 101) (mm_by 101) (mm_ml 101) (mm_rt 101)) := rfl
theorem mm_bw101 : mm_mb 101 = true := by decide +kernel
set_option maxRecDepth 100000 in
theorem mm_cw102 : lw_tbl[926]? = some (.code (mm_y 102) (mm_by 102) (mm_ml 102) (mm_rt 102)) := rfl
theorem mm_bw102 : mm_mb 102 = true := by decide +kernel
set_option maxRecDepth 100000 in
theorem mm_cw103 : lw_tbl[932]? = some (.code (mm_y 103) (mm_by 103) (mm_ml 103) (mm_rt 103)) := rfl
theorem mm_bw103 : mm_mb 103 = true := by decide +kernel
set_option maxRecDepth 100000 in
theorem mm_cw104 : lw_tbl[936]? = some (.code (mm_y 104) (mm_by 104) (mm_ml 104) (mm_rt 104)) := rfl
theorem mm_bw104 : mm_mb 104 = true := by decide +kernel
set_option maxRecDepth 100000 in
theorem mm_cw105 : lw_tbl[940]? = some (.code (mm_y 105) (mm_by 105) (mm_ml 105) (mm_rt 105)) := rfl
theorem mm_bw105 : mm_mb 105 = true := by decide +kernel
set_option maxRecDepth 100000 in
theorem mm_cw106 : lw_tbl[945]? = some (.code (mm_y 106) (mm_by 106) (mm_ml 106) (mm_rt 106)) := rfl
theorem mm_bw106 : mm_mb 106 = true := by decide +kernel
set_option maxRecDepth 100000 in
theorem mm_cw107 : lw_tbl[951]? = some (.code (mm_y 107) (mm_by 107) (mm_ml 107) (mm_rt 107)) := rfl
theorem mm_bw107 : mm_mb 107 = true := by decide +kernel
set_option maxRecDepth 100000 in
theorem mm_cw108 : lw_tbl[957]? = some (.code (mm_y 108) (mm_by 108) (mm_ml 108) (mm_rt 108)) := rfl
theorem mm_bw108 : mm_mb 108 = true := by decide +kernel
set_option maxRecDepth 100000 in
theorem mm_cw109 : lw_tbl[961]? = some (.code (mm_y 109) (mm_by 109) (mm_ml 109) (mm_rt 109)) := rfl
theorem mm_bw109 : mm_mb 109 = true := by decide +kernel
set_option maxRecDepth 100000 in
theorem mm_cw110 : lw_tbl[965]? = some (.code (mm_y 110) (mm_by 110) (mm_ml 110) (mm_rt 110)) := rfl
theorem mm_bw110 : mm_mb 110 = true := by decide +kernel
set_option maxRecDepth 100000 in
theorem mm_cw111 : lw_tbl[969]? = some (.code (mm_y 111) (mm_by 111) (mm_ml 111) (mm_rt 111)) := rfl
theorem mm_bw111 : mm_mb 111 = true := by decide +kernel
set_option maxRecDepth 100000 in
theorem mm_cw112 : lw_tbl[973]? = some (.code (mm_y 112) (mm_by 112) (mm_ml 112) (mm_rt 112)) := rfl
theorem mm_bw112 : mm_mb 112 = true := by decide +kernel
set_option maxRecDepth 100000 in
theorem mm_cw113 : lw_tbl[978]? = some (.code (mm_y 113) (mm_by 113) (mm_ml 113) (mm_rt 113)) := rfl
theorem mm_bw113 : mm_mb 113 = true := by decide +kernel
set_option maxRecDepth 100000 in
theorem mm_cw114 : lw_tbl[982]? = some (.code (mm_y 114) (mm_by 114) (mm_ml 114) (mm_rt 114)) := rfl
theorem mm_bw114 : mm_mb 114 = true := by decide +kernel
set_option maxRecDepth 100000 in
theorem mm_cw115 : lw_tbl[986]? = some (.code (mm_y 115) (mm_by 115) (mm_ml 115) (mm_rt 115)) := rfl
theorem mm_bw115 : mm_mb 115 = true := by decide +kernel
set_option maxRecDepth 100000 in
theorem mm_cw116 : lw_tbl[990]? = some (.code (mm_y 116) (mm_by 116) (mm_ml 116) (mm_rt 116)) := rfl
theorem mm_bw116 : mm_mb 116 = true := by decide +kernel
set_option maxRecDepth 100000 in
theorem mm_cw117 : lw_tbl[994]? = some (.code (mm_y 117) (mm_by 117) (mm_ml 117) (mm_rt 117)) := rfl
theorem mm_bw117 : mm_mb 117 = true := by decide +kernel
set_option maxRecDepth 100000 in
theorem mm_cw118 : lw_tbl[998]? = some (.code (mm_y 118) (mm_by 118) (mm_ml 118) (mm_rt 118)) := rfl
theorem mm_bw118 : mm_mb 118 = true := by decide +kernel
set_option maxRecDepth 100000 in
theorem mm_cw119 : lw_tbl[1005]? = some (.code (mm_y 119) (mm_by 119) (mm_ml 119) (mm_rt 119)) := rfl
theorem mm_bw119 : mm_mb 119 = true := by decide +kernel
set_option maxRecDepth 100000 in
theorem mm_cw120 : lw_tbl[1010]? = some (.code (mm_y 120) (mm_by 120) (mm_ml 120) (mm_rt 120)) := rfl
theorem mm_bw120 : mm_mb 120 = true := by decide +kernel
set_option maxRecDepth 100000 in
theorem mm_cw121 : lw_tbl[1014]? = some (.code (mm_y 121) (mm_by 121) (mm_ml 121) (mm_rt 121)) := rfl
theorem mm_bw121 : mm_mb 121 = true := by decide +kernel
set_option maxRecDepth 100000 in
theorem mm_cw122 : lw_tbl[1018]? = some (.code (mm_y 122) (mm_by 122) (mm_ml 122) (mm_rt 122)) := rfl
theorem mm_bw122 : mm_mb 122 = true := by decide +kernel
set_option maxRecDepth 100000 in
theorem mm_cw123 : lw_tbl[1021]? = some (.code (mm_y 123) (mm_by 123) (mm_ml 123) (mm_rt 123)) := rfl
theorem mm_bw123 : mm_mb 123 = true := by decide +kernel
set_option maxRecDepth 100000 in
theorem mm_cw124 : lw_tbl[1163]? = some (.code (mm_y 124) (mm_by 124) (mm_ml 124) (mm_rt 124)) := rfl
theorem mm_bw124 : mm_mb 124 = true := by decide +kernel
set_option maxRecDepth 100000 in
theorem mm_cw125 : lw_tbl[1167]? = some (.code (mm_y 125) (mm_by 125) (mm_ml 125) (mm_rt 125)) := rfl
theorem mm_bw125 : mm_mb 125 = true := by decide +kernel
set_option maxRecDepth 100000 in
theorem mm_cw126 : lw_tbl[1171]? = some (.code (mm_y 126) (mm_by 126) (mm_ml 126) (mm_rt 126)) := rfl
theorem mm_bw126 : mm_mb 126 = true := by decide +kernel
set_option maxRecDepth 100000 in
theorem mm_cw127 : lw_tbl[1174]? = some (.code (mm_y 127) (mm_by 127) (mm_ml 127) (mm_rt 127)) := rfl
theorem mm_bw127 : mm_mb 127 = true := by decide +kernel
set_option maxRecDepth 100000 in
theorem mm_cw128 : lw_tbl[1178]? = some (.code (mm_y 128) (mm_by 128) (mm_ml 128) (mm_rt 128)) := rfl
theorem mm_bw128 : mm_mb 128 = true := by decide +kernel
set_option maxRecDepth 100000 in
theorem mm_cw129 : lw_tbl[1182]? = some (.code (mm_y 129) (mm_by 129) (mm_ml 129) (mm_rt 129)) := rfl
theorem mm_bw129 : mm_mb 129 = true := by decide +kernel
set_option maxRecDepth 100000 in
theorem mm_cw130 : lw_tbl[1186]? = some (.code (mm_y 130) (mm_by 130) (mm_ml 130) (mm_rt 130)) := rfl
theorem mm_bw130 : mm_mb 130 = true := by decide +kernel
set_option maxRecDepth 100000 in
theorem mm_cw131 : lw_tbl[1190]? = some (.code (mm_y 131) (mm_by 131) (mm_ml 131) (mm_rt 131)) := rfl
theorem mm_bw131 : mm_mb 131 = true := by decide +kernel
set_option maxRecDepth 100000 in
theorem mm_cw132 : lw_tbl[1194]? = some (.code (mm_y 132) (mm_by 132) (mm_ml 132) (mm_rt 132)) := rfl
theorem mm_bw132 : mm_mb 132 = true := by decide +kernel
set_option maxRecDepth 100000 in
theorem mm_cw133 : lw_tbl[1198]? = some (.code (mm_y 133) (mm_by 133) (mm_ml 133) (mm_rt 133)) := rfl
theorem mm_bw133 : mm_mb 133 = true := by decide +kernel
set_option maxRecDepth 100000 in
theorem mm_cw134 : lw_tbl[1202]? = some (.code (mm_y 134) (mm_by 134) (mm_ml 134) (mm_rt 134)) := rfl
theorem mm_bw134 : mm_mb 134 = true := by decide +kernel
set_option maxRecDepth 100000 in
theorem mm_cw135 : lw_tbl[1206]? = some (.code (mm_y 135) (mm_by 135) (mm_ml 135) (mm_rt 135)) := rfl
theorem mm_bw135 : mm_mb 135 = true := by decide +kernel
set_option maxRecDepth 100000 in
theorem mm_cw136 : lw_tbl[1210]? = some (.code (mm_y 136) (mm_by 136) (mm_ml 136) (mm_rt 136)) := rfl
theorem mm_bw136 : mm_mb 136 = true := by decide +kernel
set_option maxRecDepth 100000 in
theorem mm_cw137 : lw_tbl[1214]? = some (.code (mm_y 137) (mm_by 137) (mm_ml 137) (mm_rt 137)) := rfl
theorem mm_bw137 : mm_mb 137 = true := by decide +kernel
set_option maxRecDepth 100000 in
theorem mm_cw138 : lw_tbl[1218]? = some (.code (mm_y 138) (mm_by 138) (mm_ml 138) (mm_rt 138)) := rfl
theorem mm_bw138 : mm_mb 138 = true := by decide +kernel
set_option maxRecDepth 100000 in
theorem mm_cw139 : lw_tbl[1224]? = some (.code (mm_y 139) (mm_by 139) (mm_ml 139) (mm_rt 139)) := rfl
theorem mm_bw139 : mm_mb 139 = true := by decide +kernel
