set_option maxRecDepth 100000 in
theorem q_mk40 : q_moks 40 8 = true := by decide +kernel
set_option maxRecDepth 100000 in
theorem q_mk48 : q_moks 48 8 = true := by decide +kernel
set_option maxRecDepth 100000 in
theorem q_mk56 : q_moks 56 8 = true := by decide +kernel
set_option maxRecDepth 100000 in
theorem q_mk64 : q_moks 64 8 = true := by decide +kernel
set_option maxRecDepth 100000 in
theorem q_mk72 : q_moks 72 8 = true := by decide +kernel
