set_option maxRecDepth 100000 in
theorem q_mk80 : q_moks 80 8 = true := by decide +kernel
set_option maxRecDepth 100000 in
theorem q_mk88 : q_moks 88 8 = true := by decide +kernel
set_option maxRecDepth 100000 in
theorem q_mk96 : q_moks 96 8 = true := by decide +kernel
set_option maxRecDepth 100000 in
theorem q_mk104 : q_moks 104 8 = true := by decide +kernel
set_option maxRecDepth 100000 in
theorem q_mk112 : q_moks 112 8 = true := by decide +kernel
