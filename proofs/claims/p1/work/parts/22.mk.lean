set_option maxRecDepth 100000 in
theorem q_mk40 : q_moks 40 4 = true := by decide +kernel
set_option maxRecDepth 100000 in
theorem q_mk44 : q_moks 44 4 = true := by decide +kernel
set_option maxRecDepth 100000 in
theorem q_mk48 : q_moks 48 4 = true := by decide +kernel
set_option maxRecDepth 100000 in
theorem q_mk52 : q_moks 52 4 = true := by decide +kernel
set_option maxRecDepth 100000 in
theorem q_mk56 : q_moks 56 4 = true := by decide +kernel
set_option maxRecDepth 100000 in
theorem q_mk60 : q_moks 60 4 = true := by decide +kernel
set_option maxRecDepth 100000 in
theorem q_mk64 : q_moks 64 4 = true := by decide +kernel
set_option maxRecDepth 100000 in
theorem q_mk68 : q_moks 68 4 = true := by decide +kernel
set_option maxRecDepth 100000 in
theorem q_mk72 : q_moks 72 4 = true := by decide +kernel
set_option maxRecDepth 100000 in
theorem q_mk76 : q_moks 76 4 = true := by decide +kernel
