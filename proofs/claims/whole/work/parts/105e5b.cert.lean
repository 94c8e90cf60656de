set_option maxRecDepth 100000 in
theorem q_xl0 : ((q_k351.drop 0).take 100).all (q_xe code 13) = true := by decide +kernel
set_option maxRecDepth 100000 in
theorem q_xl1 : ((q_k351.drop 100).take 100).all (q_xe code 13) = true := by decide +kernel
set_option maxRecDepth 100000 in
theorem q_xl2 : ((q_k351.drop 200).take 100).all (q_xe code 13) = true := by decide +kernel
set_option maxRecDepth 100000 in
theorem q_xl3 : ((q_k351.drop 300).take 100).all (q_xe code 13) = true := by decide +kernel
