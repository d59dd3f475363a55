theorem zcl_19 : zall (zck zv_law zm_L_law) 2388 60 = true := by decide +kernel
