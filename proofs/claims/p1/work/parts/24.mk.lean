set_option maxRecDepth 100000 in
theorem q_mk120 : q_moks 120 8 = true := by decide +kernel
set_option maxRecDepth 100000 in
theorem q_mk128 : q_moks 128 8 = true := by decide +kernel
set_option maxRecDepth 100000 in
theorem q_mk136 : q_moks 136 8 = true := by decide +kernel
set_option maxRecDepth 100000 in
theorem q_mk144 : q_moks 144 8 = true := by decide +kernel
set_option maxRecDepth 100000 in
theorem q_mk152 : q_moks 152 8 = true := by decide +kernel
