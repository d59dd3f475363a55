theorem zcl_24 : zall (zck zv_law zm_L_law) 2688 53 = true := by decide +kernel
