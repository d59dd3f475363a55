theorem zcl_17 : zall (zck zv_law zm_L_law) 2268 60 = true := by decide +kernel
