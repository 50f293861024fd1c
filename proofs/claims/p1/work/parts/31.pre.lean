set_option maxRecDepth 100000 in
theorem q_prefix : q_isR (q_pre 13 q_law (q_loc 7 [.inr (.inl (some 0))]) [] (true, [])) = true := by decide +kernel
set_option maxRecDepth 100000 in
theorem q_g0 : q_go 60 q_E0 = true := by decide +kernel
