set_option maxRecDepth 100000 in
theorem bt_yesB : bt_okB = true := by decide +kernel
