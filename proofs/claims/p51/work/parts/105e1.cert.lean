set_option maxRecDepth 100000 in
theorem q_xok3 : q_m3.all q_xok = true := by decide +kernel
set_option maxRecDepth 100000 in
theorem q_xok4 : q_m4.all q_xok = true := by decide +kernel
set_option maxRecDepth 100000 in
theorem q_xok5 : q_m5.all q_xok = true := by decide +kernel
