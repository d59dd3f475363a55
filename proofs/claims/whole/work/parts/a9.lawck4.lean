theorem zcl_16 : zall (zck zv_law zm_L_law) 2208 138 = true := by decide +kernel
theorem zcl_17 : zall (zck zv_law zm_L_law) 2346 138 = true := by decide +kernel
theorem zcl_18 : zall (zck zv_law zm_L_law) 2484 138 = true := by decide +kernel
theorem zcl_19 : zall (zck zv_law zm_L_law) 2622 119 = true := by decide +kernel
