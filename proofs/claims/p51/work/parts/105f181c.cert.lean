set_option maxRecDepth 100000 in
theorem q_xp181_4 : ((q_k181.drop 200).take 50).all (q_xe method_13_code 11) = true := by decide +kernel
set_option maxRecDepth 100000 in
theorem q_xp181_5 : ((q_k181.drop 250).take 50).all (q_xe method_13_code 11) = true := by decide +kernel
