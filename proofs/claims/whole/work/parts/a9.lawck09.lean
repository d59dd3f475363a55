theorem zcl_21 : zall (zck zv_law zm_L_law) 2508 60 = true := by decide +kernel
