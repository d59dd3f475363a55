theorem zcl_4 : zall (zck zv_law zm_L_law) 552 138 = true := by decide +kernel
theorem zcl_5 : zall (zck zv_law zm_L_law) 690 138 = true := by decide +kernel
theorem zcl_6 : zall (zck zv_law zm_L_law) 828 138 = true := by decide +kernel
theorem zcl_7 : zall (zck zv_law zm_L_law) 966 138 = true := by decide +kernel
