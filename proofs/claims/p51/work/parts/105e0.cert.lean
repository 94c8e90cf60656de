set_option maxRecDepth 100000 in
theorem q_xok0 : q_m0.all q_xok = true := by decide +kernel
set_option maxRecDepth 100000 in
theorem q_xok1 : q_m1.all q_xok = true := by decide +kernel
set_option maxRecDepth 100000 in
theorem q_xok2 : q_m2.all q_xok = true := by decide +kernel
