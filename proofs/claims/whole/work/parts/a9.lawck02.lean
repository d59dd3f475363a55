theorem zcl_8 : zall (zck zv_law zm_L_law) 1104 138 = true := by decide +kernel
theorem zcl_9 : zall (zck zv_law zm_L_law) 1242 138 = true := by decide +kernel
theorem zcl_10 : zall (zck zv_law zm_L_law) 1380 138 = true := by decide +kernel
theorem zcl_11 : zall (zck zv_law zm_L_law) 1518 138 = true := by decide +kernel
