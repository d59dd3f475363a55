theorem zcl_18 : zall (zck zv_law zm_L_law) 2328 60 = true := by decide +kernel
