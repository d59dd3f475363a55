theorem zcl_23 : zall (zck zv_law zm_L_law) 2628 60 = true := by decide +kernel
