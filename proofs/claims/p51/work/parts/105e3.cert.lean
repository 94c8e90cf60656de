set_option maxRecDepth 100000 in
theorem q_xok9a : (q_m9.take 1).all q_xok = true := by decide +kernel
set_option maxRecDepth 100000 in
theorem q_xok9b : (q_m9.drop 4).all q_xok = true := by decide +kernel
set_option maxRecDepth 100000 in
theorem q_xok10 : q_m10.all q_xok = true := by decide +kernel
set_option maxRecDepth 100000 in
theorem q_xok11 : q_m11.all q_xok = true := by decide +kernel
