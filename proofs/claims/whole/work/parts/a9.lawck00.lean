/-! the law's own rows, checked -/
def zv_law : zY := (yL_law, code, 7, ret, [])
theorem zcl_0 : zall (zck zv_law zm_L_law) 0 138 = true := by decide +kernel
theorem zcl_1 : zall (zck zv_law zm_L_law) 138 138 = true := by decide +kernel
theorem zcl_2 : zall (zck zv_law zm_L_law) 276 138 = true := by decide +kernel
theorem zcl_3 : zall (zck zv_law zm_L_law) 414 138 = true := by decide +kernel
