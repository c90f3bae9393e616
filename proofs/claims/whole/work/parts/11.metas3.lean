theorem zkl_2 : zcode zk0_2 0 180 = true := by decide +kernel
theorem zkl_5 : zcode zk0_5 0 450 = true := by decide +kernel
theorem zkl_8 : zcode zk0_8 0 720 = true := by decide +kernel
theorem zkl_11 : zcode zk0_11 0 990 = true := by decide +kernel
theorem zkl_14 : zcode zk0_14 0 1260 = true := by decide +kernel
theorem zkl_17 : zcode zk0_17 0 1530 = true := by decide +kernel
theorem zkl_20 : zcode zk0_20 0 1800 = true := by decide +kernel
theorem zkl_23 : zcode zk0_23 0 2070 = true := by decide +kernel
