set_option maxRecDepth 100000 in
theorem q_xok6 : q_m6.all q_xok = true := by decide +kernel
set_option maxRecDepth 100000 in
theorem q_xok7 : q_m7.all q_xok = true := by decide +kernel
set_option maxRecDepth 100000 in
theorem q_xok8 : q_m8.all q_xok = true := by decide +kernel
