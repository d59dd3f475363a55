theorem zc_L_law : zCK zv_law zm_L_law := fun pc e he => by
  have hp : pc < 2741 := zcut_lt he
  have : zck zv_law zm_L_law pc = true := by
    by_cases q0 : pc < 138
    · exact zall_ok 138 0 zcl_0 pc (by omega) (by omega)
    by_cases q1 : pc < 276
    · exact zall_ok 138 138 zcl_1 pc (by omega) (by omega)
    by_cases q2 : pc < 414
    · exact zall_ok 138 276 zcl_2 pc (by omega) (by omega)
    by_cases q3 : pc < 552
    · exact zall_ok 138 414 zcl_3 pc (by omega) (by omega)
    by_cases q4 : pc < 690
    · exact zall_ok 138 552 zcl_4 pc (by omega) (by omega)
    by_cases q5 : pc < 828
    · exact zall_ok 138 690 zcl_5 pc (by omega) (by omega)
    by_cases q6 : pc < 966
    · exact zall_ok 138 828 zcl_6 pc (by omega) (by omega)
    by_cases q7 : pc < 1104
    · exact zall_ok 138 966 zcl_7 pc (by omega) (by omega)
    by_cases q8 : pc < 1242
    · exact zall_ok 138 1104 zcl_8 pc (by omega) (by omega)
    by_cases q9 : pc < 1380
    · exact zall_ok 138 1242 zcl_9 pc (by omega) (by omega)
    by_cases q10 : pc < 1518
    · exact zall_ok 138 1380 zcl_10 pc (by omega) (by omega)
    by_cases q11 : pc < 1656
    · exact zall_ok 138 1518 zcl_11 pc (by omega) (by omega)
    by_cases q12 : pc < 1794
    · exact zall_ok 138 1656 zcl_12 pc (by omega) (by omega)
    by_cases q13 : pc < 1932
    · exact zall_ok 138 1794 zcl_13 pc (by omega) (by omega)
    by_cases q14 : pc < 2070
    · exact zall_ok 138 1932 zcl_14 pc (by omega) (by omega)
    by_cases q15 : pc < 2208
    · exact zall_ok 138 2070 zcl_15 pc (by omega) (by omega)
    by_cases q16 : pc < 2268
    · exact zall_ok 60 2208 zcl_16 pc (by omega) (by omega)
    by_cases q17 : pc < 2328
    · exact zall_ok 60 2268 zcl_17 pc (by omega) (by omega)
    by_cases q18 : pc < 2388
    · exact zall_ok 60 2328 zcl_18 pc (by omega) (by omega)
    by_cases q19 : pc < 2448
    · exact zall_ok 60 2388 zcl_19 pc (by omega) (by omega)
    by_cases q20 : pc < 2508
    · exact zall_ok 60 2448 zcl_20 pc (by omega) (by omega)
    by_cases q21 : pc < 2568
    · exact zall_ok 60 2508 zcl_21 pc (by omega) (by omega)
    by_cases q22 : pc < 2628
    · exact zall_ok 60 2568 zcl_22 pc (by omega) (by omega)
    by_cases q23 : pc < 2688
    · exact zall_ok 60 2628 zcl_23 pc (by omega) (by omega)
    exact zall_ok 53 2688 zcl_24 pc (by omega) (by omega)
  unfold zck at this
  rw [show zm_L_law.2.1 pc = some e from he] at this
  exact this
/-- the law's walk, of the machine -/
theorem law_zP {G : zG} {l : Launch} {n : Nat} {xs : Nat → Int32} {h0 : zH} (hn : n ≤ 600000) : zP G l 70 zv_law (hqi (fun v _ _ => v = 1) (fun _ _ _ => False)) h0 (0, [(0, .ref 997)], [], (1, 0, 0, hsc n xs)) := zwalk (fun n q as h Q => zsound 70 n q as h Q) zc_L_law (law_walk hn)
