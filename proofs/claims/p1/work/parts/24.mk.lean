set_option maxRecDepth 100000 in
theorem q_mk120 : q_moks 120 4 = true := by decide +kernel
set_option maxRecDepth 100000 in
theorem q_mk124 : q_moks 124 4 = true := by decide +kernel
set_option maxRecDepth 100000 in
theorem q_mk128 : q_moks 128 4 = true := by decide +kernel
set_option maxRecDepth 100000 in
theorem q_mk132 : q_moks 132 4 = true := by decide +kernel
set_option maxRecDepth 100000 in
theorem q_mk136 : q_moks 136 4 = true := by decide +kernel
set_option maxRecDepth 100000 in
theorem q_mk140 : q_moks 140 4 = true := by decide +kernel
set_option maxRecDepth 100000 in
theorem q_mk144 : q_moks 144 4 = true := by decide +kernel
set_option maxRecDepth 100000 in
theorem q_mk148 : q_moks 148 4 = true := by decide +kernel
set_option maxRecDepth 100000 in
theorem q_mk152 : q_moks 152 4 = true := by decide +kernel
set_option maxRecDepth 100000 in
theorem q_mk156 : q_moks 156 4 = true := by decide +kernel
