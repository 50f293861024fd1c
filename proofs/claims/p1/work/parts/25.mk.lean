set_option maxRecDepth 100000 in
theorem q_lk0 : q_roksn q_prog q_info q_sw R_law "" code 7 ret q_law 60 q_K0 = true := by decide +kernel
set_option maxRecDepth 100000 in
theorem q_lk1 : q_roksn q_prog q_info q_sw R_law "" code 7 ret q_law 60 q_K1 = true := by decide +kernel
set_option maxRecDepth 100000 in
theorem q_lk2 : q_roksn q_prog q_info q_sw R_law "" code 7 ret q_law 60 q_K2 = true := by decide +kernel
set_option maxRecDepth 100000 in
theorem q_lk3 : q_roksn q_prog q_info q_sw R_law "" code 7 ret q_law 60 q_K3 = true := by decide +kernel
set_option maxRecDepth 100000 in
theorem q_lk4 : q_roksn q_prog q_info q_sw R_law "" code 7 ret q_law 60 q_K4 = true := by decide +kernel
set_option maxRecDepth 100000 in
theorem q_lk5 : q_roksn q_prog q_info q_sw R_law "" code 7 ret q_law 60 q_K5 = true := by decide +kernel
set_option maxRecDepth 100000 in
theorem q_lk6 : q_roksn q_prog q_info q_sw R_law "" code 7 ret q_law 60 q_K6 = true := by decide +kernel
set_option maxRecDepth 100000 in
theorem q_lk7 : q_roksn q_prog q_info q_sw R_law "" code 7 ret q_law 60 q_K7 = true := by decide +kernel
set_option maxRecDepth 100000 in
theorem q_lk8 : q_roksn q_prog q_info q_sw R_law "" code 7 ret q_law 60 q_K8 = true := by decide +kernel
set_option maxRecDepth 100000 in
theorem q_lk9 : q_roksn q_prog q_info q_sw R_law "" code 7 ret q_law 60 q_K9 = true := by decide +kernel
set_option maxRecDepth 100000 in
theorem q_lk10 : q_roksn q_prog q_info q_sw R_law "" code 7 ret q_law 60 q_K10 = true := by decide +kernel
set_option maxRecDepth 100000 in
theorem q_lk11 : q_roksn q_prog q_info q_sw R_law "" code 7 ret q_law 60 q_K11 = true := by decide +kernel
