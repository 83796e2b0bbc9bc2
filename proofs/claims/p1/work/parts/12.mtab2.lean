set_option maxRecDepth 100000 in
theorem mm_cw140 : lw_tbl[1228]? = some (.code (mm_y 140) (mm_by 140) (mm_ml 140) (mm_rt 140)) := rfl
theorem mm_bw140 : mm_mb 140 = true := by decide +kernel
set_option maxRecDepth 100000 in
theorem mm_cw141 : lw_tbl[1232]? = some (.code (mm_y 141) (mm_by 141) (mm_ml 141) (mm_rt 141)) := rfl
theorem mm_bw141 : mm_mb 141 = true := by decide +kernel
set_option maxRecDepth 100000 in
theorem mm_cw142 : lw_tbl[1236]? = some (.code (mm_y 142) (mm_by 142) (mm_ml 142) (mm_rt 142)) := rfl
theorem mm_bw142 : mm_mb 142 = true := by decide +kernel
set_option maxRecDepth 100000 in
theorem mm_cw143 : lw_tbl[1240]? = some (.code (mm_y 143) (mm_by 143) (mm_ml 143) (mm_rt 143)) := rfl
theorem mm_bw143 : mm_mb 143 = true := by decide +kernel
set_option maxRecDepth 100000 in
theorem mm_cw144 : lw_tbl[1244]? = some (.code (mm_y 144) (mm_by 144) (mm_ml 144) (mm_rt 144)) := rfl
theorem mm_bw144 : mm_mb 144 = true := by decide +kernel
set_option maxRecDepth 100000 in
theorem mm_cw145 : lw_tbl[1249]? = some (.code (mm_y 145) (mm_by 145) (mm_ml 145) (mm_rt 145)) := rfl
theorem mm_bw145 : mm_mb 145 = true := by decide +kernel
set_option maxRecDepth 100000 in
theorem mm_cw146 : lw_tbl[1254]? = some (.code (mm_y 146) (mm_by 146) (mm_ml 146) (mm_rt 146)) := rfl
theorem mm_bw146 : mm_mb 146 = true := by decide +kernel
set_option maxRecDepth 100000 in
theorem mm_cw147 : lw_tbl[1258]? = some (.code (mm_y 147) (mm_by 147) (mm_ml 147) (mm_rt 147)) := rfl
theorem mm_bw147 : mm_mb 147 = true := by decide +kernel
set_option maxRecDepth 100000 in
theorem mm_cw148 : lw_tbl[1262]? = some (.code (mm_y 148) (mm_by 148) (mm_ml 148) (mm_rt 148)) := rfl
theorem mm_bw148 : mm_mb 148 = true := by decide +kernel
set_option maxRecDepth 100000 in
theorem mm_cw149 : lw_tbl[1266]? = some (.code (mm_y 149) (mm_by 149) (mm_ml 149) (mm_rt 149)) := rfl
theorem mm_bw149 : mm_mb 149 = true := by decide +kernel
set_option maxRecDepth 100000 in
theorem mm_cw150 : lw_tbl[1270]? = some (.code (mm_y 150) (mm_by 150) (mm_ml 150) (mm_rt 150)) := rfl
theorem mm_bw150 : mm_mb 150 = true := by decide +kernel
set_option maxRecDepth 100000 in
theorem mm_cw151 : lw_tbl[1274]? = some (.code (mm_y 151) (mm_by 151) (mm_ml 151) (mm_rt 151)) := rfl
theorem mm_bw151 : mm_mb 151 = true := by decide +kernel
set_option maxRecDepth 100000 in
theorem mm_cw152 : lw_tbl[1278]? = some (.code (mm_y 152) (mm_by 152) (mm_ml 152) (mm_rt 152)) := rfl
theorem mm_bw152 : mm_mb 152 = true := by decide +kernel
set_option maxRecDepth 100000 in
theorem mm_cw153 : lw_tbl[1283]? = some (.code (mm_y 153) (mm_by 153) (mm_ml 153) (mm_rt 153)) := rfl
theorem mm_bw153 : mm_mb 153 = true := by decide +kernel
set_option maxRecDepth 100000 in
theorem mm_cw154 : lw_tbl[1287]? = some (.code (mm_y 154) (mm_by 154) (mm_ml 154) (mm_rt 154)) := rfl
theorem mm_bw154 : mm_mb 154 = true := by decide +kernel
set_option maxRecDepth 100000 in
theorem mm_cw155 : lw_tbl[1292]? = some (.code (mm_y 155) (mm_by 155) (mm_ml 155) (mm_rt 155)) := rfl
theorem mm_bw155 : mm_mb 155 = true := by decide +kernel
set_option maxRecDepth 100000 in
theorem mm_cw156 : lw_tbl[1296]? = some (.code (mm_y 156) (mm_by 156) (mm_ml 156) (mm_rt 156)) := rfl
theorem mm_bw156 : mm_mb 156 = true := by decide +kernel
set_option maxRecDepth 100000 in
theorem mm_cw157 : lw_tbl[1300]? = some (.code (mm_y 157) (mm_by 157) (mm_ml 157) (mm_rt 157)) := rfl
theorem mm_bw157 : mm_mb 157 = true := by decide +kernel
set_option maxRecDepth 100000 in
theorem mm_cw158 : lw_tbl[1304]? = some (.code (mm_y 158) (mm_by 158) (mm_ml 158) (mm_rt 158)) := rfl
theorem mm_bw158 : mm_mb 158 = true := by decide +kernel
set_option maxRecDepth 100000 in
theorem mm_cw159 : lw_tbl[1308]? = some (.code (mm_y 159) (mm_by 159) (mm_ml 159) (mm_rt 159)) := rfl
theorem mm_bw159 : mm_mb 159 = true := by decide +kernel
set_option maxRecDepth 100000 in
theorem mm_cw160 : lw_tbl[1312]? = some (.code (mm_y 160) (mm_by 160) (mm_ml 160) (mm_rt 160)) := rfl
theorem mm_bw160 : mm_mb 160 = true := by decide +kernel
set_option maxRecDepth 100000 in
theorem mm_cw161 : lw_tbl[1316]? = some (.code (mm_y 161) (mm_by 161) (mm_ml 161) (mm_rt 161)) := rfl
theorem mm_bw161 : mm_mb 161 = true := by decide +kernel
set_option maxRecDepth 100000 in
theorem mm_cw162 : lw_tbl[1320]? = some (.code (mm_y 162) (mm_by 162) (mm_ml 162) (mm_rt 162)) := rfl
theorem mm_bw162 : mm_mb 162 = true := by decide +kernel
set_option maxRecDepth 100000 in
theorem mm_cw163 : lw_tbl[1324]? = some (.code (mm_y 163) (mm_by 163) (mm_ml 163) (mm_rt 163)) := rfl
theorem mm_bw163 : mm_mb 163 = true := by decide +kernel
set_option maxRecDepth 100000 in
theorem mm_cw164 : lw_tbl[1328]? = some (.code (mm_y 164) (mm_by 164) (mm_ml 164) (mm_rt 164)) := rfl
theorem mm_bw164 : mm_mb 164 = true := by decide +kernel
set_option maxRecDepth 100000 in
theorem mm_cw165 : lw_tbl[1332]? = some (.code (mm_y 165) (mm_by 165) (mm_ml 165) (mm_rt 165)) := rfl
theorem mm_bw165 : mm_mb 165 = true := by decide +kernel
set_option maxRecDepth 100000 in
theorem mm_cw166 : lw_tbl[1336]? = some (.code (mm_y 166) (mm_by 166) (mm_ml 166) (mm_rt 166)) := rfl
theorem mm_bw166 : mm_mb 166 = true := by decide +kernel
set_option maxRecDepth 100000 in
theorem mm_cw167 : lw_tbl[1340]? = some (.code (mm_y 167) (mm_by 167) (mm_ml 167) (mm_rt 167)) := rfl
theorem mm_bw167 : mm_mb 167 = true := by decide +kernel
set_option maxRecDepth 100000 in
theorem mm_cw168 : lw_tbl[1344]? = some (.code (mm_y 168) (mm_by 168) (mm_ml 168) (mm_rt 168)) := rfl
theorem mm_bw168 : mm_mb 168 = true := by decide +kernel
set_option maxRecDepth 100000 in
theorem mm_cw169 : lw_tbl[1348]? = some (.code (mm_y 169) (mm_by 169) (mm_ml 169) (mm_rt 169)) := rfl
theorem mm_bw169 : mm_mb 169 = true := by decide +kernel
set_option maxRecDepth 100000 in
theorem mm_cw170 : lw_tbl[1352]? = some (.code (mm_y 170) (mm_by 170) (mm_ml 170) (mm_rt 170)) := rfl
theorem mm_bw170 : mm_mb 170 = true := by decide +kernel
set_option maxRecDepth 100000 in
theorem mm_cw171 : lw_tbl[1356]? = some (.code (mm_y 171) (mm_by 171) (mm_ml 171) (mm_rt 171)) := rfl
theorem mm_bw171 : mm_mb 171 = true := by decide +kernel
set_option maxRecDepth 100000 in
theorem mm_cw172 : lw_tbl[1360]? = some (.code (mm_y 172) (mm_by 172) (mm_ml 172) (mm_rt 172)) := rfl
theorem mm_bw172 : mm_mb 172 = true := by decide +kernel
set_option maxRecDepth 100000 in
theorem mm_cw173 : lw_tbl[1364]? = some (.code (mm_y 173) (mm_by 173) (mm_ml 173) (mm_rt 173)) := rfl
theorem mm_bw173 : mm_mb 173 = true := by decide +kernel
set_option maxRecDepth 100000 in
theorem mm_cw174 : lw_tbl[1368]? = some (.code (mm_y 174) (mm_by 174) (mm_ml 174) (mm_rt 174)) := rfl
theorem mm_bw174 : mm_mb 174 = true := by decide +kernel
set_option maxRecDepth 100000 in
theorem mm_cw175 : lw_tbl[1372]? = some (.code (mm_y 175) (mm_by 175) (mm_ml 175) (mm_rt 175)) := rfl
theorem mm_bw175 : mm_mb 175 = true := by decide +kernel
set_option maxRecDepth 100000 in
theorem mm_cw176 : lw_tbl[1376]? = some (.code (mm_y 176) (mm_by 176) (mm_ml 176) (mm_rt 176)) := rfl
theorem mm_bw176 : mm_mb 176 = true := by decide +kernel
set_option maxRecDepth 100000 in
theorem mm_cw177 : lw_tbl[1380]? = some (.code (mm_y 177) (mm_by 177) (mm_ml 177) (mm_rt 177)) := rfl
theorem mm_bw177 : mm_mb 177 = true := by decide +kernel
set_option maxRecDepth 100000 in
theorem mm_cw178 : lw_tbl[1384]? = some (.code (mm_y 178) (mm_by 178) (mm_ml 178) (mm_rt 178)) := rfl
theorem mm_bw178 : mm_mb 178 = true := by decide +kernel
set_option maxRecDepth 100000 in
theorem mm_cw179 : lw_tbl[1388]? = some (.code (mm_y 179) (mm_by 179) (mm_ml 179) (mm_rt 179)) := rfl
theorem mm_bw179 : mm_mb 179 = true := by decide +kernel
set_option maxRecDepth 100000 in
theorem mm_cw180 : lw_tbl[1392]? = some (.code (mm_y 180) (mm_by 180) (mm_ml 180) (mm_rt 180)) := rfl
theorem mm_bw180 : mm_mb 180 = true := by decide +kernel
set_option maxRecDepth 100000 in
theorem mm_cw181 : lw_tbl[1396]? = some (.code (mm_y 181) (mm_by 181) (mm_ml 181) (mm_rt 181)) := rfl
theorem mm_bw181 : mm_mb 181 = true := by decide +kernel
set_option maxRecDepth 100000 in
theorem mm_cw182 : lw_tbl[1400]? = some (.code (mm_y 182) (mm_by 182) (mm_ml 182) (mm_rt 182)) := rfl
theorem mm_bw182 : mm_mb 182 = true := by decide +kernel
set_option maxRecDepth 100000 in
theorem mm_cw183 : lw_tbl[1404]? = some (.code (mm_y 183) (mm_by 183) (mm_ml 183) (mm_rt 183)) := rfl
theorem mm_bw183 : mm_mb 183 = true := by decide +kernel
set_option maxRecDepth 100000 in
theorem mm_cw184 : lw_tbl[1408]? = some (.code (mm_y 184) (mm_by 184) (mm_ml 184) (mm_rt 184)) := rfl
theorem mm_bw184 : mm_mb 184 = true := by decide +kernel
set_option maxRecDepth 100000 in
theorem mm_cw185 : lw_tbl[1412]? = some (.code (mm_y 185) (mm_by 185) (mm_ml 185) (mm_rt 185)) := rfl
theorem mm_bw185 : mm_mb 185 = true := by decide +kernel
set_option maxRecDepth 100000 in
theorem mm_cw186 : lw_tbl[1416]? = some (.code (mm_y 186) (mm_by 186) (mm_ml 186) (mm_rt 186)) := rfl
theorem mm_bw186 : mm_mb 186 = true := by decide +kernel
set_option maxRecDepth 100000 in
theorem mm_cw187 : lw_tbl[1420]? = some (.code (mm_y 187) (mm_by 187) (mm_ml 187) (mm_rt 187)) := rfl
theorem mm_bw187 : mm_mb 187 = true := by decide +kernel
set_option maxRecDepth 100000 in
theorem mm_cw188 : lw_tbl[1424]? = some (.code (mm_y 188) (mm_by 188) (mm_ml 188) (mm_rt 188)) := rfl
theorem mm_bw188 : mm_mb 188 = true := by decide +kernel
set_option maxRecDepth 100000 in
theorem mm_cw189 : lw_tbl[1428]? = some (.code (mm_y 189) (mm_by 189) (mm_ml 189) (mm_rt 189)) := rfl
theorem mm_bw189 : mm_mb 189 = true := by decide +kernel
set_option maxRecDepth 100000 in
theorem mm_cw190 : lw_tbl[1432]? = some (.code (mm_y 190) (mm_by 190) (mm_ml 190) (mm_rt 190)) := rfl
theorem mm_bw190 : mm_mb 190 = true := by decide +kernel
set_option maxRecDepth 100000 in
theorem mm_cw191 : lw_tbl[1436]? = some (.code (mm_y 191) (mm_by 191) (mm_ml 191) (mm_rt 191)) := rfl
theorem mm_bw191 : mm_mb 191 = true := by decide +kernel
set_option maxRecDepth 100000 in
theorem mm_cw192 : lw_tbl[1440]? = some (.code (mm_y 192) (mm_by 192) (mm_ml 192) (mm_rt 192)) := rfl
theorem mm_bw192 : mm_mb 192 = true := by decide +kernel
set_option maxRecDepth 100000 in
theorem mm_cw193 : lw_tbl[1444]? = some (.code (mm_y 193) (mm_by 193) (mm_ml 193) (mm_rt 193)) := rfl
theorem mm_bw193 : mm_mb 193 = true := by decide +kernel
set_option maxRecDepth 100000 in
theorem mm_cw194 : lw_tbl[1448]? = some (.code (mm_y 194) (mm_by 194) (mm_ml 194) (mm_rt 194)) := rfl
theorem mm_bw194 : mm_mb 194 = true := by decide +kernel
set_option maxRecDepth 100000 in
theorem mm_cw195 : lw_tbl[1452]? = some (.code (mm_y 195) (mm_by 195) (mm_ml 195) (mm_rt 195)) := rfl
theorem mm_bw195 : mm_mb 195 = true := by decide +kernel
set_option maxRecDepth 100000 in
theorem mm_cw196 : lw_tbl[1456]? = some (.code (mm_y 196) (mm_by 196) (mm_ml 196) (mm_rt 196)) := rfl
theorem mm_bw196 : mm_mb 196 = true := by decide +kernel
set_option maxRecDepth 100000 in
theorem mm_cw197 : lw_tbl[1460]? = some (.code (mm_y 197) (mm_by 197) (mm_ml 197) (mm_rt 197)) := rfl
theorem mm_bw197 : mm_mb 197 = true := by decide +kernel
set_option maxRecDepth 100000 in
theorem mm_cw198 : lw_tbl[1464]? = some (.code (mm_y 198) (mm_by 198) (mm_ml 198) (mm_rt 198)) := rfl
theorem mm_bw198 : mm_mb 198 = true := by decide +kernel
set_option maxRecDepth 100000 in
theorem mm_cw199 : lw_tbl[1468]? = some (.code (mm_y 199) (mm_by 199) (mm_ml 199) (mm_rt 199)) := rfl
theorem mm_bw199 : mm_mb 199 = true := by decide +kernel
set_option maxRecDepth 100000 in
theorem mm_cw200 : lw_tbl[1472]? = some (.code (mm_y 200) (mm_by 200) (mm_ml 200) (mm_rt 200)) := rfl
theorem mm_bw200 : mm_mb 200 = true := by decide +kernel
set_option maxRecDepth 100000 in
theorem mm_cw201 : lw_tbl[1476]? = some (.code (mm_y 201) (mm_by 201) (mm_ml 201) (mm_rt 201)) := rfl
theorem mm_bw201 : mm_mb 201 = true := by decide +kernel
set_option maxRecDepth 100000 in
theorem mm_cw202 : lw_tbl[1482]? = some (.code (mm_y 202) (mm_by 202) (mm_ml 202) (mm_rt 202)) := rfl
theorem mm_bw202 : mm_mb 202 = true := by decide +kernel
set_option maxRecDepth 100000 in
theorem mm_cw203 : lw_tbl[1486]? = some (.code (mm_y 203) (mm_by 203) (mm_ml 203) (mm_rt 203)) := rfl
theorem mm_bw203 : mm_mb 203 = true := by decide +kernel
set_option maxRecDepth 100000 in
theorem mm_cw204 : lw_tbl[1490]? = some (.code (mm_y 204) (mm_by 204) (mm_ml 204) (mm_rt 204)) := rfl
theorem mm_bw204 : mm_mb 204 = true := by decide +kernel
set_option maxRecDepth 100000 in
theorem mm_cw205 : lw_tbl[1494]? = some (.code (mm_y 205) (mm_by 205) (mm_ml 205) (mm_rt 205)) := rfl
theorem mm_bw205 : mm_mb 205 = true := by decide +kernel
set_option maxRecDepth 100000 in
theorem mm_cw206 : lw_tbl[1498]? = some (.code (mm_y 206) (mm_by 206) (mm_ml 206) (mm_rt 206)) := rfl
theorem mm_bw206 : mm_mb 206 = true := by decide +kernel
set_option maxRecDepth 100000 in
theorem mm_cw207 : lw_tbl[1502]? = some (.code (mm_y 207) (mm_by 207) (mm_ml 207) (mm_rt 207)) := rfl
theorem mm_bw207 : mm_mb 207 = true := by decide +kernel
set_option maxRecDepth 100000 in
theorem mm_cw208 : lw_tbl[1506]? = some (.code (mm_y 208) (mm_by 208) (mm_ml 208) (mm_rt 208)) := rfl
theorem mm_bw208 : mm_mb 208 = true := by decide +kernel
