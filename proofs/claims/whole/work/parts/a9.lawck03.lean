theorem zcl_12 : zall (zck zv_law zm_L_law) 1656 138 = true := by decide +kernel
theorem zcl_13 : zall (zck zv_law zm_L_law) 1794 138 = true := by decide +kernel
theorem zcl_14 : zall (zck zv_law zm_L_law) 1932 138 = true := by decide +kernel
theorem zcl_15 : zall (zck zv_law zm_L_law) 2070 138 = true := by decide +kernel
