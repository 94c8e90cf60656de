set_option maxRecDepth 100000 in
theorem q_xl12 : ((q_k351.drop 1200).take 100).all (q_xe code 13) = true := by decide +kernel
