theorem zcl_20 : zall (zck zv_law zm_L_law) 2448 60 = true := by decide +kernel
