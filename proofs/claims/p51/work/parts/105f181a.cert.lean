set_option maxRecDepth 100000 in
theorem q_xp181_0 : ((q_k181.drop 0).take 50).all (q_xe method_13_code 11) = true := by decide +kernel
set_option maxRecDepth 100000 in
theorem q_xp181_1 : ((q_k181.drop 50).take 50).all (q_xe method_13_code 11) = true := by decide +kernel
