set_option maxRecDepth 100000 in
theorem q_xp181_2 : ((q_k181.drop 100).take 50).all (q_xe method_13_code 11) = true := by decide +kernel
set_option maxRecDepth 100000 in
theorem q_xp181_3 : ((q_k181.drop 150).take 50).all (q_xe method_13_code 11) = true := by decide +kernel
