set_option maxRecDepth 100000 in
theorem q_mk0 : q_moks 0 8 = true := by decide +kernel
set_option maxRecDepth 100000 in
theorem q_mk8 : q_moks 8 8 = true := by decide +kernel
set_option maxRecDepth 100000 in
theorem q_mk16 : q_moks 16 8 = true := by decide +kernel
set_option maxRecDepth 100000 in
theorem q_mk24 : q_moks 24 8 = true := by decide +kernel
set_option maxRecDepth 100000 in
theorem q_mk32 : q_moks 32 8 = true := by decide +kernel
