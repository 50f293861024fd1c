set_option maxRecDepth 100000 in
theorem q_lk12 : q_roksn q_prog q_info q_sw R_law "" code 7 ret q_law 60 q_K12 = true := by decide +kernel
set_option maxRecDepth 100000 in
theorem q_lk13 : q_roksn q_prog q_info q_sw R_law "" code 7 ret q_law 60 q_K13 = true := by decide +kernel
set_option maxRecDepth 100000 in
theorem q_lk14 : q_roksn q_prog q_info q_sw R_law "" code 7 ret q_law 60 q_K14 = true := by decide +kernel
set_option maxRecDepth 100000 in
theorem q_lk15 : q_roksn q_prog q_info q_sw R_law "" code 7 ret q_law 60 q_K15 = true := by decide +kernel
set_option maxRecDepth 100000 in
theorem q_lk16 : q_roksn q_prog q_info q_sw R_law "" code 7 ret q_law 60 q_K16 = true := by decide +kernel
set_option maxRecDepth 100000 in
theorem q_lk17 : q_roksn q_prog q_info q_sw R_law "" code 7 ret q_law 60 q_K17 = true := by decide +kernel
set_option maxRecDepth 100000 in
theorem q_lk18 : q_roksn q_prog q_info q_sw R_law "" code 7 ret q_law 60 q_K18 = true := by decide +kernel
set_option maxRecDepth 100000 in
theorem q_lk19 : q_roksn q_prog q_info q_sw R_law "" code 7 ret q_law 60 q_K19 = true := by decide +kernel
set_option maxRecDepth 100000 in
theorem q_lk20 : q_roksn q_prog q_info q_sw R_law "" code 7 ret q_law 60 q_K20 = true := by decide +kernel
set_option maxRecDepth 100000 in
theorem q_lk21 : q_roksn q_prog q_info q_sw R_law "" code 7 ret q_law 60 q_K21 = true := by decide +kernel
set_option maxRecDepth 100000 in
theorem q_lk22 : q_roksn q_prog q_info q_sw R_law "" code 7 ret q_law 60 q_K22 = true := by decide +kernel
set_option maxRecDepth 100000 in
theorem q_lk23 : q_roksn q_prog q_info q_sw R_law "" code 7 ret q_law 60 q_K23 = true := by decide +kernel
theorem q_lk24 : q_roks q_prog q_info q_sw R_law "" code 7 ret q_law q_K24 = true := by decide +kernel
