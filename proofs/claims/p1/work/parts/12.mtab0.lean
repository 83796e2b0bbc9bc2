set_option maxRecDepth 100000 in
theorem mm_cw0 : lw_tbl[120]? = some (.code (mm_y 0) (mm_by 0) (mm_ml 0) (mm_rt 0)) := rfl
theorem mm_bw0 : mm_mb 0 = true := by decide +kernel
set_option maxRecDepth 100000 in
theorem mm_cw1 : lw_tbl[128]? = some (.code (mm_y 1) (mm_by 1) (mm_ml 1) (mm_rt 1)) := rfl
theorem mm_bw1 : mm_mb 1 = true := by decide +kernel
set_option maxRecDepth 100000 in
theorem mm_cw2 : lw_tbl[145]? = some (.code (mm_y 2) (mm_by 2) (mm_ml 2) (mm_rt 2)) := rfl
theorem mm_bw2 : mm_mb 2 = true := by decide +kernel
set_option maxRecDepth 100000 in
theorem mm_cw3 : lw_tbl[161]? = some (.code (mm_y 3) (mm_by 3) (mm_ml 3) (mm_rt 3)) := rfl
theorem mm_bw3 : mm_mb 3 = true := by decide +kernel
set_option maxRecDepth 100000 in
theorem mm_cw4 : lw_tbl[192]? = some (.code (mm_y 4) (mm_by 4) (mm_ml 4) (mm_rt 4)) := rfl
theorem mm_bw4 : mm_mb 4 = true := by decide +kernel
set_option maxRecDepth 100000 in
theorem mm_cw5 : lw_tbl[239]? = some (.code (mm_y 5) (mm_by 5) (mm_ml 5) (mm_rt 5)) := rfl
theorem mm_bw5 : mm_mb 5 = true := by decide +kernel
set_option maxRecDepth 100000 in
theorem mm_cw6 : lw_tbl[245]? = some (.code (mm_y 6) (mm_by 6) (mm_ml 6) (mm_rt 6)) := rfl
theorem mm_bw6 : mm_mb 6 = true := by decide +kernel
set_option maxRecDepth 100000 in
theorem mm_cw7 : lw_tbl[250]? = some (.code (mm_y 7) (mm_by 7) (mm_ml 7) (mm_rt 7)) := rfl
theorem mm_bw7 : mm_mb 7 = true := by decide +kernel
set_option maxRecDepth 100000 in
theorem mm_cw8 : lw_tbl[260]? = some (.code (mm_y 8) (mm_by 8) (mm_ml 8) (mm_rt 8)) := rfl
theorem mm_bw8 : mm_mb 8 = true := by decide +kernel
set_option maxRecDepth 100000 in
theorem mm_cw9 : lw_tbl[264]? = some (.code (mm_y 9) (mm_by 9) (mm_ml 9) (mm_rt 9)) := rfl
theorem mm_bw9 : mm_mb 9 = true := by decide +kernel
set_option maxRecDepth 100000 in
theorem mm_cw10 : lw_tbl[268]? = some (.code (mm_y 10) (mm_by 10) (mm_ml 10) (mm_rt 10)) := rfl
theorem mm_bw10 : mm_mb 10 = true := by decide +kernel
set_option maxRecDepth 100000 in
theorem mm_cw11 : lw_tbl[309]? = some (.code (mm_y 11) (mm_by 11) (mm_ml 11) (mm_rt 11)) := rfl
theorem mm_bw11 : mm_mb 11 = true := by decide +kernel
set_option maxRecDepth 100000 in
theorem mm_cw12 : lw_tbl[419]? = some (.code (mm_y 12) (mm_by 12) (mm_ml 12) (mm_rt 12)) := rfl
theorem mm_bw12 : mm_mb 12 = true := by decide +kernel
set_option maxRecDepth 100000 in
theorem mm_cw13 : lw_tbl[423]? = some (.code (mm_y 13) (mm_by 13) (mm_ml 13) (mm_rt 13)) := rfl
theorem mm_bw13 : mm_mb 13 = true := by decide +kernel
set_option maxRecDepth 100000 in
theorem mm_cw14 : lw_tbl[426]? = some (.code (mm_y 14) (mm_by 14) (mm_ml 14) (mm_rt 14)) := rfl
theorem mm_bw14 : mm_mb 14 = true := by decide +kernel
set_option maxRecDepth 100000 in
theorem mm_cw15 : lw_tbl[430]? = some (.code (mm_y 15) (mm_by 15) (mm_ml 15) (mm_rt 15)) := rfl
theorem mm_bw15 : mm_mb 15 = true := by decide +kernel
set_option maxRecDepth 100000 in
theorem mm_cw16 : lw_tbl[434]? = some (.code (mm_y 16) (mm_by 16) (mm_ml 16) (mm_rt 16)) := rfl
theorem mm_bw16 : mm_mb 16 = true := by decide +kernel
set_option maxRecDepth 100000 in
theorem mm_cw17 : lw_tbl[438]? = some (.code (mm_y 17) (mm_by 17) (mm_ml 17) (mm_rt 17)) := rfl
theorem mm_bw17 : mm_mb 17 = true := by decide +kernel
set_option maxRecDepth 100000 in
theorem mm_cw18 : lw_tbl[469]? = some (.code (mm_y 18) (mm_by 18) (mm_ml 18) (mm_rt 18)) := rfl
theorem mm_bw18 : mm_mb 18 = true := by decide +kernel
set_option maxRecDepth 100000 in
theorem mm_cw19 : lw_tbl[473]? = some (.code (mm_y 19) (mm_by 19) (mm_ml 19) (mm_rt 19)) := rfl
theorem mm_bw19 : mm_mb 19 = true := by decide +kernel
set_option maxRecDepth 100000 in
theorem mm_cw20 : lw_tbl[477]? = some (.code (mm_y 20) (mm_by 20) (mm_ml 20) (mm_rt 20)) := rfl
theorem mm_bw20 : mm_mb 20 = true := by decide +kernel
set_option maxRecDepth 100000 in
theorem mm_cw21 : lw_tbl[481]? = some (.code (mm_y 21) (mm_by 21) (mm_ml 21) (mm_rt 21)) := rfl
theorem mm_bw21 : mm_mb 21 = true := by decide +kernel
set_option maxRecDepth 100000 in
theorem mm_cw22 : lw_tbl[535]? = some (.code (mm_y 22) (mm_by 22) (mm_ml 22) (mm_rt 22)) := rfl
theorem mm_bw22 : mm_mb 22 = true := by decide +kernel
set_option maxRecDepth 100000 in
theorem mm_cw23 : lw_tbl[539]? = some (.code (mm_y 23) (mm_by 23) (mm_ml 23) (mm_rt 23)) := rfl
theorem mm_bw23 : mm_mb 23 = true := by decide +kernel
set_option maxRecDepth 100000 in
theorem mm_cw24 : lw_tbl[542]? = some (.code (mm_y 24) (mm_by 24) (mm_ml 24) (mm_rt 24)) := rfl
theorem mm_bw24 : mm_mb 24 = true := by decide +kernel
set_option maxRecDepth 100000 in
theorem mm_cw25 : lw_tbl[546]? = some (.code (mm_y 25) (mm_by 25) (mm_ml 25) (mm_rt 25)) := rfl
theorem mm_bw25 : mm_mb 25 = true := by decide +kernel
set_option maxRecDepth 100000 in
theorem mm_cw26 : lw_tbl[551]? = some (.code (mm_y 26) (mm_by 26) (mm_ml 26) (mm_rt 26)) := rfl
theorem mm_bw26 : mm_mb 26 = true := by decide +kernel
set_option maxRecDepth 100000 in
theorem mm_cw27 : lw_tbl[555]? = some (.code (mm_y 27) (mm_by 27) (mm_ml 27) (mm_rt 27)) := rfl
theorem mm_bw27 : mm_mb 27 = true := by decide +kernel
set_option maxRecDepth 100000 in
theorem mm_cw28 : lw_tbl[559]? = some (.code (mm_y 28) (mm_by 28) (mm_ml 28) (mm_rt 28)) := rfl
theorem mm_bw28 : mm_mb 28 = true := by decide +kernel
set_option maxRecDepth 100000 in
theorem mm_cw29 : lw_tbl[563]? = some (.code (mm_y 29) (mm_by 29) (mm_ml 29) (mm_rt 29)) := rfl
theorem mm_bw29 : mm_mb 29 = true := by decide +kernel
set_option maxRecDepth 100000 in
theorem mm_cw30 : lw_tbl[567]? = some (.code (mm_y 30) (mm_by 30) (mm_ml 30) (mm_rt 30)) := rfl
theorem mm_bw30 : mm_mb 30 = true := by decide +kernel
set_option maxRecDepth 100000 in
theorem mm_cw31 : lw_tbl[571]? = some (.code (mm_y 31) (mm_by 31) (mm_ml 31) (mm_rt 31)) := rfl
theorem mm_bw31 : mm_mb 31 = true := by decide +kernel
set_option maxRecDepth 100000 in
theorem mm_cw32 : lw_tbl[576]? = some (.code (mm_y 32) (mm_by 32) (mm_ml 32) (mm_rt 32)) := rfl
theorem mm_bw32 : mm_mb 32 = true := by decide +kernel
set_option maxRecDepth 100000 in
theorem mm_cw33 : lw_tbl[580]? = some (.code (mm_y 33) (mm_by 33) (mm_ml 33) (mm_rt 33)) := rfl
theorem mm_bw33 : mm_mb 33 = true := by decide +kernel
set_option maxRecDepth 100000 in
theorem mm_cw34 : lw_tbl[585]? = some (.code (mm_y 34) (mm_by 34) (mm_ml 34) (mm_rt 34)) := rfl
theorem mm_bw34 : mm_mb 34 = true := by decide +kernel
set_option maxRecDepth 100000 in
theorem mm_cw35 : lw_tbl[589]? = some (.code (mm_y 35) (mm_by 35) (mm_ml 35) (mm_rt 35)) := rfl
theorem mm_bw35 : mm_mb 35 = true := by decide +kernel
set_option maxRecDepth 100000 in
theorem mm_cw36 : lw_tbl[597]? = some (.code (mm_y 36) (mm_by 36) (mm_ml 36) (mm_rt 36)) := rfl
theorem mm_bw36 : mm_mb 36 = true := by decide +kernel
set_option maxRecDepth 100000 in
theorem mm_cw37 : lw_tbl[600]? = some (.code (mm_y 37) (mm_by 37) (mm_ml 37) (mm_rt 37)) := rfl
theorem mm_bw37 : mm_mb 37 = true := by decide +kernel
set_option maxRecDepth 100000 in
theorem mm_cw38 : lw_tbl[603]? = some (.code (mm_y 38) (mm_by 38) (mm_ml 38) (mm_rt 38)) := rfl
theorem mm_bw38 : mm_mb 38 = true := by decide +kernel
set_option maxRecDepth 100000 in
theorem mm_cw39 : lw_tbl[609]? = some (.code (mm_y 39) (mm_by 39) (mm_ml 39) (mm_rt 39)) := rfl
theorem mm_bw39 : mm_mb 39 = true := by decide +kernel
set_option maxRecDepth 100000 in
theorem mm_cw40 : lw_tbl[613]? = some (.code (mm_y 40) (mm_by 40) (mm_ml 40) (mm_rt 40)) := rfl
theorem mm_bw40 : mm_mb 40 = true := by decide +kernel
set_option maxRecDepth 100000 in
theorem mm_cw41 : lw_tbl[619]? = some (.code (mm_y 41) (mm_by 41) (mm_ml 41) (mm_rt 41)) := rfl
theorem mm_bw41 : mm_mb 41 = true := by decide +kernel
set_option maxRecDepth 100000 in
theorem mm_cw42 : lw_tbl[623]? = some (.code (mm_y 42) (mm_by 42) (mm_ml 42) (mm_rt 42)) := rfl
theorem mm_bw42 : mm_mb 42 = true := by decide +kernel
set_option maxRecDepth 100000 in
theorem mm_cw43 : lw_tbl[626]? = some (.code (mm_y 43) (mm_by 43) (mm_ml 43) (mm_rt 43)) := rfl
theorem mm_bw43 : mm_mb 43 = true := by decide +kernel
set_option maxRecDepth 100000 in
theorem mm_cw44 : lw_tbl[632]? = some (.code (mm_y 44) (mm_by 44) (mm_ml 44) (mm_rt 44)) := rfl
theorem mm_bw44 : mm_mb 44 = true := by decide +kernel
set_option maxRecDepth 100000 in
theorem mm_cw45 : lw_tbl[651]? = some (.code (mm_y 45) (mm_by 45) (mm_ml 45) (mm_rt 45)) := rfl
theorem mm_bw45 : mm_mb 45 = true := by decide +kernel
set_option maxRecDepth 100000 in
theorem mm_cw46 : lw_tbl[657]? = some (.code (mm_y 46) (mm_by 46) (mm_ml 46) (mm_rt 46)) := rfl
theorem mm_bw46 : mm_mb 46 = true := by decide +kernel
set_option maxRecDepth 100000 in
theorem mm_cw47 : lw_tbl[662]? = some (.code (mm_y 47) (mm_by 47) (mm_ml 47) (mm_rt 47)) := rfl
theorem mm_bw47 : mm_mb 47 = true := by decide +kernel
set_option maxRecDepth 100000 in
theorem mm_cw48 : lw_tbl[667]? = some (.code (mm_y 48) (mm_by 48) (mm_ml 48) (mm_rt 48)) := rfl
theorem mm_bw48 : mm_mb 48 = true := by decide +kernel
set_option maxRecDepth 100000 in
theorem mm_cw49 : lw_tbl[671]? = some (.code (mm_y 49) (mm_by 49) (mm_ml 49) (mm_rt 49)) := rfl
theorem mm_bw49 : mm_mb 49 = true := by decide +kernel
set_option maxRecDepth 100000 in
theorem mm_cw50 : lw_tbl[675]? = some (.code (mm_y 50) (mm_by 50) (mm_ml 50) (mm_rt 50)) := rfl
theorem mm_bw50 : mm_mb 50 = true := by decide +kernel
set_option maxRecDepth 100000 in
theorem mm_cw51 : lw_tbl[679]? = some (.code (mm_y 51) (mm_by 51) (mm_ml 51) (mm_rt 51)) := rfl
theorem mm_bw51 : mm_mb 51 = true := by decide +kernel
set_option maxRecDepth 100000 in
theorem mm_cw52 : lw_tbl[683]? = some (.code (mm_y 52) (mm_by 52) (mm_ml 52) (mm_rt 52)) := rfl
theorem mm_bw52 : mm_mb 52 = true := by decide +kernel
set_option maxRecDepth 100000 in
theorem mm_cw53 : lw_tbl[687]? = some (.code (mm_y 53) (mm_by 53) (mm_ml 53) (mm_rt 53)) := rfl
theorem mm_bw53 : mm_mb 53 = true := by decide +kernel
set_option maxRecDepth 100000 in
theorem mm_cw54 : lw_tbl[691]? = some (.code (mm_y 54) (mm_by 54) (mm_ml 54) (mm_rt 54)) := rfl
theorem mm_bw54 : mm_mb 54 = true := by decide +kernel
set_option maxRecDepth 100000 in
theorem mm_cw55 : lw_tbl[695]? = some (.code (mm_y 55) (mm_by 55) (mm_ml 55) (mm_rt 55)) := rfl
theorem mm_bw55 : mm_mb 55 = true := by decide +kernel
set_option maxRecDepth 100000 in
theorem mm_cw56 : lw_tbl[699]? = some (.code (mm_y 56) (mm_by 56) (mm_ml 56) (mm_rt 56)) := rfl
theorem mm_bw56 : mm_mb 56 = true := by decide +kernel
set_option maxRecDepth 100000 in
theorem mm_cw57 : lw_tbl[703]? = some (.code (mm_y 57) (mm_by 57) (mm_ml 57) (mm_rt 57)) := rfl
theorem mm_bw57 : mm_mb 57 = true := by decide +kernel
set_option maxRecDepth 100000 in
theorem mm_cw58 : lw_tbl[708]? = some (.code (mm_y 58) (mm_by 58) (mm_ml 58) (mm_rt 58)) := rfl
theorem mm_bw58 : mm_mb 58 = true := by decide +kernel
set_option maxRecDepth 100000 in
theorem mm_cw59 : lw_tbl[712]? = some (.code (mm_y 59) (mm_by 59) (mm_ml 59) (mm_rt 59)) := rfl
theorem mm_bw59 : mm_mb 59 = true := by decide +kernel
set_option maxRecDepth 100000 in
theorem mm_cw60 : lw_tbl[716]? = some (.code (mm_y 60) (mm_by 60) (mm_ml 60) (mm_rt 60)) := rfl
theorem mm_bw60 : mm_mb 60 = true := by decide +kernel
set_option maxRecDepth 100000 in
theorem mm_cw61 : lw_tbl[721]? = some (.code (mm_y 61) (mm_by 61) (mm_ml 61) (mm_rt 61)) := rfl
theorem mm_bw61 : mm_mb 61 = true := by decide +kernel
set_option maxRecDepth 100000 in
theorem mm_cw62 : lw_tbl[725]? = some (.code (mm_y 62) (mm_by 62) (mm_ml 62) (mm_rt 62)) := rfl
theorem mm_bw62 : mm_mb 62 = true := by decide +kernel
set_option maxRecDepth 100000 in
theorem mm_cw63 : lw_tbl[729]? = some (.code (mm_y 63) (mm_by 63) (mm_ml 63) (mm_rt 63)) := rfl
theorem mm_bw63 : mm_mb 63 = true := by decide +kernel
set_option maxRecDepth 100000 in
theorem mm_cw64 : lw_tbl[733]? = some (.code (mm_y 64) (mm_by 64) (mm_ml 64) (mm_rt 64)) := rfl
theorem mm_bw64 : mm_mb 64 = true := by decide +kernel
set_option maxRecDepth 100000 in
theorem mm_cw65 : lw_tbl[738]? = some (.code (mm_y 65) (mm_by 65) (mm_ml 65) (mm_rt 65)) := rfl
theorem mm_bw65 : mm_mb 65 = true := by decide +kernel
set_option maxRecDepth 100000 in
theorem mm_cw66 : lw_tbl[742]? = some (.code (mm_y 66) (mm_by 66) (mm_ml 66) (mm_rt 66)) := rfl
theorem mm_bw66 : mm_mb 66 = true := by decide +kernel
set_option maxRecDepth 100000 in
theorem mm_cw67 : lw_tbl[746]? = some (.code (mm_y 67) (mm_by 67) (mm_ml 67) (mm_rt 67)) := rfl
theorem mm_bw67 : mm_mb 67 = true := by decide +kernel
set_option maxRecDepth 100000 in
theorem mm_cw68 : lw_tbl[751]? = some (.code (mm_y 68) (mm_by 68) (mm_ml 68) (mm_rt 68)) := rfl
theorem mm_bw68 : mm_mb 68 = true := by decide +kernel
set_option maxRecDepth 100000 in
theorem mm_cw69 : lw_tbl[756]? = some (.code (mm_y 69) (mm_by 69) (mm_ml 69) (mm_rt 69)) := rfl
theorem mm_bw69 : mm_mb 69 = true := by decide +kernel
