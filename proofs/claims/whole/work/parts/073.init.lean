set_option maxRecDepth 1000000 in
theorem init_ok : ckH hInit = true := by decide +kernel
