set_option maxRecDepth 100000 in
theorem q_xl14a : (((q_k351.drop 1400).take 100).take 25).all (q_xe code 13) = true := by decide +kernel
