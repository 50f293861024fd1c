set_option maxRecDepth 100000 in
theorem q_mk0 : q_moks 0 4 = true := by decide +kernel
set_option maxRecDepth 100000 in
theorem q_mk4 : q_moks 4 4 = true := by decide +kernel
set_option maxRecDepth 100000 in
theorem q_mk8 : q_moks 8 4 = true := by decide +kernel
set_option maxRecDepth 100000 in
theorem q_mk12 : q_moks 12 4 = true := by decide +kernel
set_option maxRecDepth 100000 in
theorem q_mk16 : q_moks 16 4 = true := by decide +kernel
set_option maxRecDepth 100000 in
theorem q_mk20 : q_moks 20 4 = true := by decide +kernel
set_option maxRecDepth 100000 in
theorem q_mk24 : q_moks 24 4 = true := by decide +kernel
set_option maxRecDepth 100000 in
theorem q_mk28 : q_moks 28 4 = true := by decide +kernel
set_option maxRecDepth 100000 in
theorem q_mk32 : q_moks 32 4 = true := by decide +kernel
set_option maxRecDepth 100000 in
theorem q_mk36 : q_moks 36 4 = true := by decide +kernel
