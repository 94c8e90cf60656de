set_option maxRecDepth 100000 in
theorem q_xp182_4 : ((q_k182.drop 200).take 50).all (q_xe method_14_code 11) = true := by decide +kernel
