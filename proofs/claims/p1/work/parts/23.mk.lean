set_option maxRecDepth 100000 in
theorem q_mk80 : q_moks 80 4 = true := by decide +kernel
set_option maxRecDepth 100000 in
theorem q_mk84 : q_moks 84 4 = true := by decide +kernel
set_option maxRecDepth 100000 in
theorem q_mk88 : q_moks 88 4 = true := by decide +kernel
set_option maxRecDepth 100000 in
theorem q_mk92 : q_moks 92 4 = true := by decide +kernel
set_option maxRecDepth 100000 in
theorem q_mk96 : q_moks 96 4 = true := by decide +kernel
set_option maxRecDepth 100000 in
theorem q_mk100 : q_moks 100 4 = true := by decide +kernel
set_option maxRecDepth 100000 in
theorem q_mk104 : q_moks 104 4 = true := by decide +kernel
set_option maxRecDepth 100000 in
theorem q_mk108 : q_moks 108 4 = true := by decide +kernel
set_option maxRecDepth 100000 in
theorem q_mk112 : q_moks 112 4 = true := by decide +kernel
set_option maxRecDepth 100000 in
theorem q_mk116 : q_moks 116 4 = true := by decide +kernel
