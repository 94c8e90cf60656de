set_option maxRecDepth 100000 in
theorem q_xp182_2 : ((q_k182.drop 100).take 50).all (q_xe method_14_code 11) = true := by decide +kernel
set_option maxRecDepth 100000 in
theorem q_xp182_3 : ((q_k182.drop 150).take 50).all (q_xe method_14_code 11) = true := by decide +kernel
