set_option maxRecDepth 100000 in
theorem q_xl15a : (((q_k351.drop 1500).take 100).take 25).all (q_xe code 13) = true := by decide +kernel
