set_option maxRecDepth 100000 in
theorem q_xl4 : ((q_k351.drop 400).take 100).all (q_xe code 13) = true := by decide +kernel
set_option maxRecDepth 100000 in
theorem q_xl5 : ((q_k351.drop 500).take 100).all (q_xe code 13) = true := by decide +kernel
set_option maxRecDepth 100000 in
theorem q_xl6 : ((q_k351.drop 600).take 100).all (q_xe code 13) = true := by decide +kernel
set_option maxRecDepth 100000 in
theorem q_xl7 : ((q_k351.drop 700).take 100).all (q_xe code 13) = true := by decide +kernel
