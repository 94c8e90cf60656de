set_option maxRecDepth 100000 in
theorem q_xp183_4 : ((q_k183.drop 200).take 50).all (q_xe method_15_code 11) = true := by decide +kernel
set_option maxRecDepth 100000 in
theorem q_xp183_5 : ((q_k183.drop 250).take 50).all (q_xe method_15_code 11) = true := by decide +kernel
