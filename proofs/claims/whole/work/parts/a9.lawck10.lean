theorem zcl_22 : zall (zck zv_law zm_L_law) 2568 60 = true := by decide +kernel
