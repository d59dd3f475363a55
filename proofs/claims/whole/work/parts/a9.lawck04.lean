theorem zcl_16 : zall (zck zv_law zm_L_law) 2208 60 = true := by decide +kernel
