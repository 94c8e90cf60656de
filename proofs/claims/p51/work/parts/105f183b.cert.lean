set_option maxRecDepth 100000 in
theorem q_xp183_2 : ((q_k183.drop 100).take 50).all (q_xe method_15_code 11) = true := by decide +kernel
set_option maxRecDepth 100000 in
theorem q_xp183_3 : ((q_k183.drop 150).take 50).all (q_xe method_15_code 11) = true := by decide +kernel
