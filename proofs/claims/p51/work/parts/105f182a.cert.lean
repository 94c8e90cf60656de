set_option maxRecDepth 100000 in
theorem q_xp182_0 : ((q_k182.drop 0).take 50).all (q_xe method_14_code 11) = true := by decide +kernel
set_option maxRecDepth 100000 in
theorem q_xp182_1 : ((q_k182.drop 50).take 50).all (q_xe method_14_code 11) = true := by decide +kernel
