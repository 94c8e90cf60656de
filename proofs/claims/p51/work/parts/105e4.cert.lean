set_option maxRecDepth 100000 in
theorem q_xok12 : q_m12.all q_xok = true := by decide +kernel
set_option maxRecDepth 100000 in
theorem q_xok13 : q_m13.all q_xok = true := by decide +kernel
set_option maxRecDepth 100000 in
theorem q_xok14 : q_m14.all q_xok = true := by decide +kernel
