set_option maxRecDepth 100000 in
theorem q_xl8 : ((q_k351.drop 800).take 100).all (q_xe code 13) = true := by decide +kernel
set_option maxRecDepth 100000 in
theorem q_xl9 : ((q_k351.drop 900).take 100).all (q_xe code 13) = true := by decide +kernel
set_option maxRecDepth 100000 in
theorem q_xl10 : ((q_k351.drop 1000).take 100).all (q_xe code 13) = true := by decide +kernel
set_option maxRecDepth 100000 in
theorem q_xl11 : ((q_k351.drop 1100).take 100).all (q_xe code 13) = true := by decide +kernel
