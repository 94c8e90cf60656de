set_option maxRecDepth 100000 in
theorem q_xp183_0 : ((q_k183.drop 0).take 50).all (q_xe method_15_code 11) = true := by decide +kernel
set_option maxRecDepth 100000 in
theorem q_xp183_1 : ((q_k183.drop 50).take 50).all (q_xe method_15_code 11) = true := by decide +kernel
