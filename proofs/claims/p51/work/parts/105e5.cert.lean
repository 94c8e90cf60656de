set_option maxRecDepth 100000 in
theorem q_xok15 : q_m15.all q_xok = true := by decide +kernel
set_option maxRecDepth 100000 in
theorem q_xok16 : q_m16.all q_xok = true := by decide +kernel
set_option maxRecDepth 100000 in
theorem q_xl0 : ((q_k351.drop 0).take 100).all (q_xe code 11) = true := by decide +kernel
set_option maxRecDepth 100000 in
theorem q_xok17a : (q_m17.take 11).all q_xok = true := by decide +kernel
set_option maxRecDepth 100000 in
theorem q_xok17b : (q_m17.drop 12).all q_xok = true := by decide +kernel
