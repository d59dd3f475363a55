theorem zr_X8_init_0 {d : Nat} {Q : zR → zH → Prop} {p0 : Nat} {h : zH} (H :
    ∃ h1, zna h 4 2 = some h1 ∧
    ∃ h2, zas h1 (999 + h.1) 0 30 = some h2 ∧
    ∃ h3, zas h2 (999 + h.1) 1 32 = some h3 ∧
    ∃ h4, zpf h3 p0 8 0 (.ref (999 + h.1)) = some h4 ∧
    ∃ h5, zna h4 4 5 = some h5 ∧
    ∃ h6, zas h5 (999 + h4.1) 0 34 = some h6 ∧
    ∃ h7, zas h6 (999 + h4.1) 1 36 = some h7 ∧
    ∃ h8, zas h7 (999 + h4.1) 2 38 = some h8 ∧
    ∃ h9, zas h8 (999 + h4.1) 3 40 = some h9 ∧
    ∃ h10, zas h9 (999 + h4.1) 4 42 = some h10 ∧
    ∃ h11, zpf h10 p0 8 1 (.ref (999 + h4.1)) = some h11 ∧
    ∃ h12, zna h11 4 5 = some h12 ∧
    ∃ h13, zas h12 (999 + h11.1) 0 34 = some h13 ∧
    ∃ h14, zas h13 (999 + h11.1) 1 36 = some h14 ∧
    ∃ h15, zas h14 (999 + h11.1) 2 38 = some h15 ∧
    ∃ h16, zas h15 (999 + h11.1) 3 40 = some h16 ∧
    ∃ h17, zas h16 (999 + h11.1) 4 44 = some h17 ∧
    ∃ h18, zpf h17 p0 8 2 (.ref (999 + h11.1)) = some h18 ∧
    ∃ a19 : Nat, zgf h18 p0 8 1 = some (.ref a19) ∧
    ∃ h20, zpf h18 p0 8 3 (.ref a19) = some h20 ∧
    ∃ h21, zna h20 0 8 = some h21 ∧
    ∃ h22, zpf h21 p0 8 5 (.ref (999 + h20.1)) = some h22 ∧
    ∃ h23, zna h22 0 8 = some h23 ∧
    ∃ h24, zpf h23 p0 8 6 (.ref (999 + h22.1)) = some h24 ∧
    ∃ h25, zna h24 0 8 = some h25 ∧
    ∃ h26, zpf h25 p0 8 7 (.ref (999 + h24.1)) = some h26 ∧
    ∃ h27, zna h26 0 128 = some h27 ∧
    ∃ h28, zpf h27 p0 8 8 (.ref (999 + h26.1)) = some h28 ∧
    ∃ h29, zna h28 0 128 = some h29 ∧
    ∃ h30, zpf h29 p0 8 9 (.ref (999 + h28.1)) = some h30 ∧
    ∃ h31, zna h30 0 16 = some h31 ∧
    ∃ h32, zpf h31 p0 8 10 (.ref (999 + h30.1)) = some h32 ∧
    ∃ h33, zna h32 0 1400 = some h33 ∧
    ∃ h34, zpf h33 p0 8 11 (.ref (999 + h32.1)) = some h34 ∧
    ∃ h35, zna h34 0 1400 = some h35 ∧
    ∃ h36, zpf h35 p0 8 12 (.ref (999 + h34.1)) = some h36 ∧
    ∃ h37, zna h36 0 3 = some h37 ∧
    ∃ h38, zpf h37 p0 8 13 (.ref (999 + h36.1)) = some h38 ∧
    ∃ h39, zna h38 0 700 = some h39 ∧
    ∃ h40, zpf h39 p0 8 14 (.ref (999 + h38.1)) = some h40 ∧
    ∃ h41, zpf h40 p0 8 24 (.int (-1)) = some h41 ∧
    ∃ h42, zna h41 0 64 = some h42 ∧
    ∃ h43, zpf h42 p0 8 26 (.ref (999 + h41.1)) = some h43 ∧
    ∃ h44, zna h43 0 64 = some h44 ∧
    ∃ h45, zpf h44 p0 8 27 (.ref (999 + h43.1)) = some h45 ∧
    ∃ h46, zna h45 0 4 = some h46 ∧
    ∃ h47, zpf h46 p0 8 28 (.ref (999 + h45.1)) = some h47 ∧
    ∃ h48, zna h47 0 4 = some h48 ∧
    ∃ h49, zpf h48 p0 8 29 (.ref (999 + h47.1)) = some h49 ∧
    ∃ h50, zna h49 0 5480 = some h50 ∧
    ∃ h51, zpf h50 p0 8 30 (.ref (999 + h49.1)) = some h51 ∧
    ∃ h52, zna h51 0 5 = some h52 ∧
    ∃ h53, zpf h52 p0 8 34 (.ref (999 + h51.1)) = some h53 ∧
    ∃ h54, zna h53 0 64 = some h54 ∧
    ∃ h55, zpf h54 p0 8 35 (.ref (999 + h53.1)) = some h55 ∧
    ∃ h56, zna h55 0 4 = some h56 ∧
    ∃ h57, zpf h56 p0 8 36 (.ref (999 + h55.1)) = some h57 ∧
    ∃ h58, zna h57 0 4 = some h58 ∧
    ∃ h59, zpf h58 p0 8 37 (.ref (999 + h57.1)) = some h59 ∧
    ∃ h60, zna h59 0 4 = some h60 ∧
    ∃ h61, zpf h60 p0 8 38 (.ref (999 + h59.1)) = some h61 ∧
    ∃ h62, zna h61 0 137 = some h62 ∧
    ∃ h63, zpf h62 p0 8 39 (.ref (999 + h61.1)) = some h63 ∧
    ∃ h64, zna h63 0 324 = some h64 ∧
    ∃ h65, zpf h64 p0 8 40 (.ref (999 + h63.1)) = some h65 ∧
    ∃ h66, zna h65 0 80 = some h66 ∧
    ∃ h67, zpf h66 p0 8 41 (.ref (999 + h65.1)) = some h67 ∧
    ∃ h68, zna h67 0 8 = some h68 ∧
    ∃ h69, zpf h68 p0 8 42 (.ref (999 + h67.1)) = some h69 ∧
    ∃ h70, zna h69 0 8 = some h70 ∧
    ∃ h71, zpf h70 p0 8 43 (.ref (999 + h69.1)) = some h71 ∧
    ∃ h72, zna h71 0 8 = some h72 ∧
    ∃ h73, zpf h72 p0 8 44 (.ref (999 + h71.1)) = some h73 ∧
    ∃ h74, zna h73 0 8 = some h74 ∧
    ∃ h75, zpf h74 p0 8 45 (.ref (999 + h73.1)) = some h75 ∧
    ∃ h76, zna h75 0 137 = some h76 ∧
    ∃ h77, zpf h76 p0 8 46 (.ref (999 + h75.1)) = some h77 ∧
    ∃ h78, zna h77 0 80 = some h78 ∧
    ∃ h79, zpf h78 p0 8 47 (.ref (999 + h77.1)) = some h79 ∧
    ∃ h80, zna h79 0 4 = some h80 ∧
    ∃ h81, zpf h80 p0 8 48 (.ref (999 + h79.1)) = some h81 ∧
    ∃ h82, zna h81 0 8 = some h82 ∧
    ∃ h83, zpf h82 p0 8 50 (.ref (999 + h81.1)) = some h83 ∧
    ∃ h84, zna h83 0 137 = some h84 ∧
    ∃ h85, zpf h84 p0 8 55 (.ref (999 + h83.1)) = some h85 ∧
    ∃ h86, zna h85 0 5480 = some h86 ∧
    ∃ h87, zpf h86 p0 8 56 (.ref (999 + h85.1)) = some h87 ∧
    ∃ h88, zna h87 0 8 = some h88 ∧
    ∃ h89, zpf h88 p0 8 57 (.ref (999 + h87.1)) = some h89 ∧
    ∃ h90, zna h89 0 8 = some h90 ∧
    ∃ h91, zpf h90 p0 8 58 (.ref (999 + h89.1)) = some h91 ∧
    ∃ h92, zna h91 0 8 = some h92 ∧
    ∃ h93, zpf h92 p0 8 59 (.ref (999 + h91.1)) = some h93 ∧
    ∃ h94, zna h93 0 8 = some h94 ∧
    ∃ h95, zpf h94 p0 8 60 (.ref (999 + h93.1)) = some h95 ∧
    ∃ h96, zna h95 0 3 = some h96 ∧
    ∃ h97, zpf h96 p0 8 61 (.ref (999 + h95.1)) = some h97 ∧
    Q (.inl none) h97) : zW (zE d) zm_X8_init Q (0, [(0, .ref p0)], [], h) := by
  refine zq_aload (pc' := 1) rfl rfl rfl rfl ?_
  refine zq_nop (pc' := 4) rfl rfl rfl rfl rfl ?_
  refine zq_aload (pc' := 5) rfl rfl rfl rfl ?_
  refine zq_ipush (pc' := 6) rfl rfl rfl ?_
  obtain ⟨h1, e0, H⟩ := H
  refine zq_newa (pc' := 9) rfl rfl rfl e0 ?_
  refine zq_dup (pc' := 10) rfl rfl rfl rfl ?_
  refine zq_ipush (pc' := 11) rfl rfl rfl ?_
  refine zq_rpush (pc' := 13) rfl rfl rfl ?_
  obtain ⟨h2, e0, H⟩ := H
  refine zq_aast (pc' := 14) rfl rfl rfl e0 ?_
  refine zq_dup (pc' := 15) rfl rfl rfl rfl ?_
  refine zq_ipush (pc' := 16) rfl rfl rfl ?_
  refine zq_rpush (pc' := 18) rfl rfl rfl ?_
  obtain ⟨h3, e0, H⟩ := H
  refine zq_aast (pc' := 19) rfl rfl rfl e0 ?_
  obtain ⟨h4, e0, H⟩ := H
  refine zq_put (pc' := 22) rfl rfl rfl trivial e0 ?_
  refine zq_aload (pc' := 23) rfl rfl rfl rfl ?_
  refine zq_ipush (pc' := 24) rfl rfl rfl ?_
  obtain ⟨h5, e0, H⟩ := H
  refine zq_newa (pc' := 27) rfl rfl rfl e0 ?_
  refine zq_dup (pc' := 28) rfl rfl rfl rfl ?_
  refine zq_ipush (pc' := 29) rfl rfl rfl ?_
  refine zq_rpush (pc' := 31) rfl rfl rfl ?_
  obtain ⟨h6, e0, H⟩ := H
  refine zq_aast (pc' := 32) rfl rfl rfl e0 ?_
  refine zq_dup (pc' := 33) rfl rfl rfl rfl ?_
  refine zq_ipush (pc' := 34) rfl rfl rfl ?_
  refine zq_rpush (pc' := 36) rfl rfl rfl ?_
  obtain ⟨h7, e0, H⟩ := H
  refine zq_aast (pc' := 37) rfl rfl rfl e0 ?_
  refine zq_dup (pc' := 38) rfl rfl rfl rfl ?_
  refine zq_ipush (pc' := 39) rfl rfl rfl ?_
  refine zq_rpush (pc' := 41) rfl rfl rfl ?_
  obtain ⟨h8, e0, H⟩ := H
  refine zq_aast (pc' := 42) rfl rfl rfl e0 ?_
  refine zq_dup (pc' := 43) rfl rfl rfl rfl ?_
  refine zq_ipush (pc' := 44) rfl rfl rfl ?_
  refine zq_rpush (pc' := 46) rfl rfl rfl ?_
  obtain ⟨h9, e0, H⟩ := H
  refine zq_aast (pc' := 47) rfl rfl rfl e0 ?_
  refine zq_dup (pc' := 48) rfl rfl rfl rfl ?_
  refine zq_ipush (pc' := 49) rfl rfl rfl ?_
  refine zq_rpush (pc' := 51) rfl rfl rfl ?_
  obtain ⟨h10, e0, H⟩ := H
  refine zq_aast (pc' := 52) rfl rfl rfl e0 ?_
  obtain ⟨h11, e0, H⟩ := H
  refine zq_put (pc' := 55) rfl rfl rfl trivial e0 ?_
  refine zq_aload (pc' := 56) rfl rfl rfl rfl ?_
  refine zq_ipush (pc' := 57) rfl rfl rfl ?_
  obtain ⟨h12, e0, H⟩ := H
  refine zq_newa (pc' := 60) rfl rfl rfl e0 ?_
  refine zq_dup (pc' := 61) rfl rfl rfl rfl ?_
  refine zq_ipush (pc' := 62) rfl rfl rfl ?_
  refine zq_rpush (pc' := 64) rfl rfl rfl ?_
  obtain ⟨h13, e0, H⟩ := H
  refine zq_aast (pc' := 65) rfl rfl rfl e0 ?_
  refine zq_dup (pc' := 66) rfl rfl rfl rfl ?_
  refine zq_ipush (pc' := 67) rfl rfl rfl ?_
  refine zq_rpush (pc' := 69) rfl rfl rfl ?_
  obtain ⟨h14, e0, H⟩ := H
  refine zq_aast (pc' := 70) rfl rfl rfl e0 ?_
  refine zq_dup (pc' := 71) rfl rfl rfl rfl ?_
  refine zq_ipush (pc' := 72) rfl rfl rfl ?_
  refine zq_rpush (pc' := 74) rfl rfl rfl ?_
  obtain ⟨h15, e0, H⟩ := H
  refine zq_aast (pc' := 75) rfl rfl rfl e0 ?_
  refine zq_dup (pc' := 76) rfl rfl rfl rfl ?_
  refine zq_ipush (pc' := 77) rfl rfl rfl ?_
  refine zq_rpush (pc' := 79) rfl rfl rfl ?_
  obtain ⟨h16, e0, H⟩ := H
  refine zq_aast (pc' := 80) rfl rfl rfl e0 ?_
  refine zq_dup (pc' := 81) rfl rfl rfl rfl ?_
  refine zq_ipush (pc' := 82) rfl rfl rfl ?_
  refine zq_rpush (pc' := 84) rfl rfl rfl ?_
  obtain ⟨h17, e0, H⟩ := H
  refine zq_aast (pc' := 85) rfl rfl rfl e0 ?_
  obtain ⟨h18, e0, H⟩ := H
  refine zq_put (pc' := 88) rfl rfl rfl trivial e0 ?_
  refine zq_aload (pc' := 89) rfl rfl rfl rfl ?_
  refine zq_aload (pc' := 90) rfl rfl rfl rfl ?_
  obtain ⟨a19, e0, H⟩ := H
  refine zq_getR (pc' := 93) rfl rfl rfl e0 ?_
  obtain ⟨h20, e0, H⟩ := H
  refine zq_put (pc' := 96) rfl rfl rfl trivial e0 ?_
  refine zq_aload (pc' := 97) rfl rfl rfl rfl ?_
  refine zq_ipush (pc' := 99) rfl rfl rfl ?_
  obtain ⟨h21, e0, H⟩ := H
  refine zq_newa (pc' := 101) rfl rfl rfl e0 ?_
  obtain ⟨h22, e0, H⟩ := H
  refine zq_put (pc' := 104) rfl rfl rfl trivial e0 ?_
  refine zq_aload (pc' := 105) rfl rfl rfl rfl ?_
  refine zq_ipush (pc' := 107) rfl rfl rfl ?_
  obtain ⟨h23, e0, H⟩ := H
  refine zq_newa (pc' := 109) rfl rfl rfl e0 ?_
  obtain ⟨h24, e0, H⟩ := H
  refine zq_put (pc' := 112) rfl rfl rfl trivial e0 ?_
  refine zq_aload (pc' := 113) rfl rfl rfl rfl ?_
  refine zq_ipush (pc' := 115) rfl rfl rfl ?_
  obtain ⟨h25, e0, H⟩ := H
  refine zq_newa (pc' := 117) rfl rfl rfl e0 ?_
  obtain ⟨h26, e0, H⟩ := H
  refine zq_put (pc' := 120) rfl rfl rfl trivial e0 ?_
  refine zq_aload (pc' := 121) rfl rfl rfl rfl ?_
  refine zq_ipush (pc' := 124) rfl rfl rfl ?_
  obtain ⟨h27, e0, H⟩ := H
  refine zq_newa (pc' := 126) rfl rfl rfl e0 ?_
  obtain ⟨h28, e0, H⟩ := H
  refine zq_put (pc' := 129) rfl rfl rfl trivial e0 ?_
  refine zq_aload (pc' := 130) rfl rfl rfl rfl ?_
  refine zq_ipush (pc' := 133) rfl rfl rfl ?_
  obtain ⟨h29, e0, H⟩ := H
  refine zq_newa (pc' := 135) rfl rfl rfl e0 ?_
  obtain ⟨h30, e0, H⟩ := H
  refine zq_put (pc' := 138) rfl rfl rfl trivial e0 ?_
  refine zq_aload (pc' := 139) rfl rfl rfl rfl ?_
  refine zq_ipush (pc' := 141) rfl rfl rfl ?_
  obtain ⟨h31, e0, H⟩ := H
  refine zq_newa (pc' := 143) rfl rfl rfl e0 ?_
  obtain ⟨h32, e0, H⟩ := H
  refine zq_put (pc' := 146) rfl rfl rfl trivial e0 ?_
  refine zq_aload (pc' := 147) rfl rfl rfl rfl ?_
  refine zq_ipush (pc' := 150) rfl rfl rfl ?_
  obtain ⟨h33, e0, H⟩ := H
  refine zq_newa (pc' := 152) rfl rfl rfl e0 ?_
  obtain ⟨h34, e0, H⟩ := H
  refine zq_put (pc' := 155) rfl rfl rfl trivial e0 ?_
  refine zq_aload (pc' := 156) rfl rfl rfl rfl ?_
  refine zq_ipush (pc' := 159) rfl rfl rfl ?_
  obtain ⟨h35, e0, H⟩ := H
  refine zq_newa (pc' := 161) rfl rfl rfl e0 ?_
  obtain ⟨h36, e0, H⟩ := H
  refine zq_put (pc' := 164) rfl rfl rfl trivial e0 ?_
  refine zq_aload (pc' := 165) rfl rfl rfl rfl ?_
  refine zq_ipush (pc' := 166) rfl rfl rfl ?_
  obtain ⟨h37, e0, H⟩ := H
  refine zq_newa (pc' := 168) rfl rfl rfl e0 ?_
  obtain ⟨h38, e0, H⟩ := H
  refine zq_put (pc' := 171) rfl rfl rfl trivial e0 ?_
  refine zq_aload (pc' := 172) rfl rfl rfl rfl ?_
  refine zq_ipush (pc' := 175) rfl rfl rfl ?_
  obtain ⟨h39, e0, H⟩ := H
  refine zq_newa (pc' := 177) rfl rfl rfl e0 ?_
  obtain ⟨h40, e0, H⟩ := H
  refine zq_put (pc' := 180) rfl rfl rfl trivial e0 ?_
  refine zq_aload (pc' := 181) rfl rfl rfl rfl ?_
  refine zq_ipushn (pc' := 182) rfl rfl rfl ?_
  obtain ⟨h41, e0, H⟩ := H
  refine zq_put (pc' := 185) rfl rfl rfl trivial e0 ?_
  refine zq_aload (pc' := 186) rfl rfl rfl rfl ?_
  refine zq_ipush (pc' := 188) rfl rfl rfl ?_
  obtain ⟨h42, e0, H⟩ := H
  refine zq_newa (pc' := 190) rfl rfl rfl e0 ?_
  obtain ⟨h43, e0, H⟩ := H
  refine zq_put (pc' := 193) rfl rfl rfl trivial e0 ?_
  refine zq_aload (pc' := 194) rfl rfl rfl rfl ?_
  refine zq_ipush (pc' := 196) rfl rfl rfl ?_
  obtain ⟨h44, e0, H⟩ := H
  refine zq_newa (pc' := 198) rfl rfl rfl e0 ?_
  obtain ⟨h45, e0, H⟩ := H
  refine zq_put (pc' := 201) rfl rfl rfl trivial e0 ?_
  refine zq_aload (pc' := 202) rfl rfl rfl rfl ?_
  refine zq_ipush (pc' := 203) rfl rfl rfl ?_
  obtain ⟨h46, e0, H⟩ := H
  refine zq_newa (pc' := 205) rfl rfl rfl e0 ?_
  obtain ⟨h47, e0, H⟩ := H
  refine zq_put (pc' := 208) rfl rfl rfl trivial e0 ?_
  refine zq_aload (pc' := 209) rfl rfl rfl rfl ?_
  refine zq_ipush (pc' := 210) rfl rfl rfl ?_
  obtain ⟨h48, e0, H⟩ := H
  refine zq_newa (pc' := 212) rfl rfl rfl e0 ?_
  obtain ⟨h49, e0, H⟩ := H
  refine zq_put (pc' := 215) rfl rfl rfl trivial e0 ?_
  refine zq_aload (pc' := 216) rfl rfl rfl rfl ?_
  refine zq_ipush (pc' := 219) rfl rfl rfl ?_
  obtain ⟨h50, e0, H⟩ := H
  refine zq_newa (pc' := 221) rfl rfl rfl e0 ?_
  obtain ⟨h51, e0, H⟩ := H
  refine zq_put (pc' := 224) rfl rfl rfl trivial e0 ?_
  refine zq_aload (pc' := 225) rfl rfl rfl rfl ?_
  refine zq_ipush (pc' := 226) rfl rfl rfl ?_
  obtain ⟨h52, e0, H⟩ := H
  refine zq_newa (pc' := 228) rfl rfl rfl e0 ?_
  obtain ⟨h53, e0, H⟩ := H
  refine zq_put (pc' := 231) rfl rfl rfl trivial e0 ?_
  refine zq_aload (pc' := 232) rfl rfl rfl rfl ?_
  refine zq_ipush (pc' := 234) rfl rfl rfl ?_
  obtain ⟨h54, e0, H⟩ := H
  refine zq_newa (pc' := 236) rfl rfl rfl e0 ?_
  obtain ⟨h55, e0, H⟩ := H
  refine zq_put (pc' := 239) rfl rfl rfl trivial e0 ?_
  refine zq_aload (pc' := 240) rfl rfl rfl rfl ?_
  refine zq_ipush (pc' := 241) rfl rfl rfl ?_
  obtain ⟨h56, e0, H⟩ := H
  refine zq_newa (pc' := 243) rfl rfl rfl e0 ?_
  obtain ⟨h57, e0, H⟩ := H
  refine zq_put (pc' := 246) rfl rfl rfl trivial e0 ?_
  refine zq_aload (pc' := 247) rfl rfl rfl rfl ?_
  refine zq_ipush (pc' := 248) rfl rfl rfl ?_
  obtain ⟨h58, e0, H⟩ := H
  refine zq_newa (pc' := 250) rfl rfl rfl e0 ?_
  obtain ⟨h59, e0, H⟩ := H
  refine zq_put (pc' := 253) rfl rfl rfl trivial e0 ?_
  refine zq_aload (pc' := 254) rfl rfl rfl rfl ?_
  refine zq_ipush (pc' := 255) rfl rfl rfl ?_
  obtain ⟨h60, e0, H⟩ := H
  refine zq_newa (pc' := 257) rfl rfl rfl e0 ?_
  obtain ⟨h61, e0, H⟩ := H
  refine zq_put (pc' := 260) rfl rfl rfl trivial e0 ?_
  refine zq_aload (pc' := 261) rfl rfl rfl rfl ?_
  refine zq_ipush (pc' := 264) rfl rfl rfl ?_
  obtain ⟨h62, e0, H⟩ := H
  refine zq_newa (pc' := 266) rfl rfl rfl e0 ?_
  obtain ⟨h63, e0, H⟩ := H
  refine zq_put (pc' := 269) rfl rfl rfl trivial e0 ?_
  refine zq_aload (pc' := 270) rfl rfl rfl rfl ?_
  refine zq_ipush (pc' := 273) rfl rfl rfl ?_
  obtain ⟨h64, e0, H⟩ := H
  refine zq_newa (pc' := 275) rfl rfl rfl e0 ?_
  obtain ⟨h65, e0, H⟩ := H
  refine zq_put (pc' := 278) rfl rfl rfl trivial e0 ?_
  refine zq_aload (pc' := 279) rfl rfl rfl rfl ?_
  refine zq_ipush (pc' := 281) rfl rfl rfl ?_
  obtain ⟨h66, e0, H⟩ := H
  refine zq_newa (pc' := 283) rfl rfl rfl e0 ?_
  obtain ⟨h67, e0, H⟩ := H
  refine zq_put (pc' := 286) rfl rfl rfl trivial e0 ?_
  refine zq_aload (pc' := 287) rfl rfl rfl rfl ?_
  refine zq_ipush (pc' := 289) rfl rfl rfl ?_
  obtain ⟨h68, e0, H⟩ := H
  refine zq_newa (pc' := 291) rfl rfl rfl e0 ?_
  obtain ⟨h69, e0, H⟩ := H
  refine zq_put (pc' := 294) rfl rfl rfl trivial e0 ?_
  refine zq_aload (pc' := 295) rfl rfl rfl rfl ?_
  refine zq_ipush (pc' := 297) rfl rfl rfl ?_
  obtain ⟨h70, e0, H⟩ := H
  refine zq_newa (pc' := 299) rfl rfl rfl e0 ?_
  obtain ⟨h71, e0, H⟩ := H
  refine zq_put (pc' := 302) rfl rfl rfl trivial e0 ?_
  refine zq_aload (pc' := 303) rfl rfl rfl rfl ?_
  refine zq_ipush (pc' := 305) rfl rfl rfl ?_
  obtain ⟨h72, e0, H⟩ := H
  refine zq_newa (pc' := 307) rfl rfl rfl e0 ?_
  obtain ⟨h73, e0, H⟩ := H
  refine zq_put (pc' := 310) rfl rfl rfl trivial e0 ?_
  refine zq_aload (pc' := 311) rfl rfl rfl rfl ?_
  refine zq_ipush (pc' := 313) rfl rfl rfl ?_
  obtain ⟨h74, e0, H⟩ := H
  refine zq_newa (pc' := 315) rfl rfl rfl e0 ?_
  obtain ⟨h75, e0, H⟩ := H
  refine zq_put (pc' := 318) rfl rfl rfl trivial e0 ?_
  refine zq_aload (pc' := 319) rfl rfl rfl rfl ?_
  refine zq_ipush (pc' := 322) rfl rfl rfl ?_
  obtain ⟨h76, e0, H⟩ := H
  refine zq_newa (pc' := 324) rfl rfl rfl e0 ?_
  obtain ⟨h77, e0, H⟩ := H
  refine zq_put (pc' := 327) rfl rfl rfl trivial e0 ?_
  refine zq_aload (pc' := 328) rfl rfl rfl rfl ?_
  refine zq_ipush (pc' := 330) rfl rfl rfl ?_
  obtain ⟨h78, e0, H⟩ := H
  refine zq_newa (pc' := 332) rfl rfl rfl e0 ?_
  obtain ⟨h79, e0, H⟩ := H
  refine zq_put (pc' := 335) rfl rfl rfl trivial e0 ?_
  refine zq_aload (pc' := 336) rfl rfl rfl rfl ?_
  refine zq_ipush (pc' := 337) rfl rfl rfl ?_
  obtain ⟨h80, e0, H⟩ := H
  refine zq_newa (pc' := 339) rfl rfl rfl e0 ?_
  obtain ⟨h81, e0, H⟩ := H
  refine zq_put (pc' := 342) rfl rfl rfl trivial e0 ?_
  refine zq_aload (pc' := 343) rfl rfl rfl rfl ?_
  refine zq_ipush (pc' := 345) rfl rfl rfl ?_
  obtain ⟨h82, e0, H⟩ := H
  refine zq_newa (pc' := 347) rfl rfl rfl e0 ?_
  obtain ⟨h83, e0, H⟩ := H
  refine zq_put (pc' := 350) rfl rfl rfl trivial e0 ?_
  refine zq_aload (pc' := 351) rfl rfl rfl rfl ?_
  refine zq_ipush (pc' := 354) rfl rfl rfl ?_
  obtain ⟨h84, e0, H⟩ := H
  refine zq_newa (pc' := 356) rfl rfl rfl e0 ?_
  obtain ⟨h85, e0, H⟩ := H
  refine zq_put (pc' := 359) rfl rfl rfl trivial e0 ?_
  refine zq_aload (pc' := 360) rfl rfl rfl rfl ?_
  refine zq_ipush (pc' := 363) rfl rfl rfl ?_
  obtain ⟨h86, e0, H⟩ := H
  refine zq_newa (pc' := 365) rfl rfl rfl e0 ?_
  obtain ⟨h87, e0, H⟩ := H
  refine zq_put (pc' := 368) rfl rfl rfl trivial e0 ?_
  refine zq_aload (pc' := 369) rfl rfl rfl rfl ?_
  refine zq_ipush (pc' := 371) rfl rfl rfl ?_
  obtain ⟨h88, e0, H⟩ := H
  refine zq_newa (pc' := 373) rfl rfl rfl e0 ?_
  obtain ⟨h89, e0, H⟩ := H
  refine zq_put (pc' := 376) rfl rfl rfl trivial e0 ?_
  refine zq_aload (pc' := 377) rfl rfl rfl rfl ?_
  refine zq_ipush (pc' := 379) rfl rfl rfl ?_
  obtain ⟨h90, e0, H⟩ := H
  refine zq_newa (pc' := 381) rfl rfl rfl e0 ?_
  obtain ⟨h91, e0, H⟩ := H
  refine zq_put (pc' := 384) rfl rfl rfl trivial e0 ?_
  refine zq_aload (pc' := 385) rfl rfl rfl rfl ?_
  refine zq_ipush (pc' := 387) rfl rfl rfl ?_
  obtain ⟨h92, e0, H⟩ := H
  refine zq_newa (pc' := 389) rfl rfl rfl e0 ?_
  obtain ⟨h93, e0, H⟩ := H
  refine zq_put (pc' := 392) rfl rfl rfl trivial e0 ?_
  refine zq_aload (pc' := 393) rfl rfl rfl rfl ?_
  refine zq_ipush (pc' := 395) rfl rfl rfl ?_
  obtain ⟨h94, e0, H⟩ := H
  refine zq_newa (pc' := 397) rfl rfl rfl e0 ?_
  obtain ⟨h95, e0, H⟩ := H
  refine zq_put (pc' := 400) rfl rfl rfl trivial e0 ?_
  refine zq_aload (pc' := 401) rfl rfl rfl rfl ?_
  refine zq_ipush (pc' := 402) rfl rfl rfl ?_
  obtain ⟨h96, e0, H⟩ := H
  refine zq_newa (pc' := 404) rfl rfl rfl e0 ?_
  obtain ⟨h97, e0, H⟩ := H
  refine zq_put (pc' := 407) rfl rfl rfl trivial e0 ?_
  exact zq_vret rfl H
theorem zr_X8_thrown_0 {d : Nat} {Q : zR → zH → Prop} {p0 : Nat} {h : zH} (H :
    ∃ x1 : Int32, zgf h p0 8 4 = some (.int x1) ∧
    Q (.inl (some (.int x1))) h) : zW (zE d) zm_X8_thrown Q (0, [(0, .ref p0)], [], h) := by
  refine zq_aload (pc' := 1) rfl rfl rfl rfl ?_
  obtain ⟨x1, e0, H⟩ := H
  refine zq_getI (pc' := 4) rfl rfl rfl e0 ?_
  exact zq_iret rfl trivial H
theorem zr_X8_fail_0 {d : Nat} {Q : zR → zH → Prop} {p0 : Nat} {p1 : Int32} {h : zH} (H :
    ∃ h1, zpf h p0 8 4 (.int p1) = some h1 ∧
    Q (.inl (some (.int 0))) h1) : zW (zE d) zm_X8_fail Q (0, [(0, .ref p0), (1, .int p1)], [], h) := by
  refine zq_aload (pc' := 1) rfl rfl rfl rfl ?_
  refine zq_iload (pc' := 2) rfl rfl rfl rfl ?_
  obtain ⟨h1, e0, H⟩ := H
  refine zq_put (pc' := 5) rfl rfl rfl trivial e0 ?_
  refine zq_ipush (pc' := 6) rfl rfl rfl ?_
  exact zq_iret rfl trivial H
theorem zr_X8_failing_0 {d : Nat} {Q : zR → zH → Prop} {p0 : Nat} {p1 : Int32} {h : zH} (H :
    ∃ h1, zpf h p0 8 4 (.int p1) = some h1 ∧
    Q (.inl (some (.int 0))) h1) : zW (zE d) zm_X8_failing Q (0, [(0, .ref p0), (1, .int p1)], [], h) := by
  refine zq_aload (pc' := 1) rfl rfl rfl rfl ?_
  refine zq_iload (pc' := 2) rfl rfl rfl rfl ?_
  obtain ⟨h1, e0, H⟩ := H
  refine zq_put (pc' := 5) rfl rfl rfl trivial e0 ?_
  refine zq_ipush (pc' := 6) rfl rfl rfl ?_
  exact zq_iret rfl (Or.inl rfl) H
theorem zr_X8_isIn_0 {d : Nat} {Q : zR → zH → Prop} {p0 : Int64} {p1 : Int64} {p2 : Int64} {h : zH} (H :
    zbr ((lg_cmp p0 p1) < 0)
    (Q (.inl (some (.int 0))) h)
    (zbr (0 < (lg_cmp p0 p2))
      (Q (.inl (some (.int 0))) h)
      (Q (.inl (some (.int 1))) h))) : zW (zE d) zm_X8_isIn Q (0, [(0, .long p0), (2, .long p1), (4, .long p2)], [], h) := by
  refine zq_lload (pc' := 1) rfl rfl rfl rfl ?_
  refine zq_lload (pc' := 2) rfl rfl rfl rfl ?_
  refine zq_lcmp (pc' := 3) rfl rfl rfl ?_
  refine zq_iflt (pc' := 6) rfl rfl rfl rfl (And.intro (fun c => ?_) (fun c => ?_))
  · have H := H.1 c
    refine zq_ipush (pc' := 18) rfl rfl rfl ?_
    exact zq_iret rfl (Or.inl rfl) H
  · have H := H.2 c
    refine zq_lload (pc' := 7) rfl rfl rfl rfl ?_
    refine zq_lload (pc' := 9) rfl rfl rfl rfl ?_
    refine zq_lcmp (pc' := 10) rfl rfl rfl ?_
    refine zq_ifgt (pc' := 13) rfl rfl rfl rfl (And.intro (fun c => ?_) (fun c => ?_))
    · have H := H.1 c
      refine zq_ipush (pc' := 18) rfl rfl rfl ?_
      exact zq_iret rfl (Or.inl rfl) H
    · have H := H.2 c
      refine zq_ipush (pc' := 14) rfl rfl rfl ?_
      refine zq_goto (pc' := 18) rfl rfl rfl ?_
      exact zq_iret rfl (Or.inr rfl) H
theorem zr_X8_isOf_0 {d : Nat} {Q : zR → zH → Prop} {p0 : Int32} {p1 : Int32} {h : zH} (H :
    zbr (((p0 >>> (p1 &&& 31)) &&& 1) = 1)
    (Q (.inl (some (.int 1))) h)
    (Q (.inl (some (.int 0))) h)) : zW (zE d) zm_X8_isOf Q (0, [(0, .int p0), (1, .int p1)], [], h) := by
  refine zq_iload (pc' := 1) rfl rfl rfl rfl ?_
  refine zq_iload (pc' := 2) rfl rfl rfl rfl ?_
  refine zq_ishr (pc' := 3) rfl rfl rfl ?_
  refine zq_ipush (pc' := 4) rfl rfl rfl ?_
  refine zq_iand (pc' := 5) rfl rfl rfl ?_
  refine zq_ipush (pc' := 6) rfl rfl rfl ?_
  refine zq_icne (pc' := 9) rfl rfl rfl rfl (And.intro (fun c => ?_) (fun c => ?_))
  · have H := H.1 c
    refine zq_ipush (pc' := 10) rfl rfl rfl ?_
    refine zq_goto (pc' := 14) rfl rfl rfl ?_
    exact zq_iret rfl (Or.inr rfl) H
  · have H := H.2 c
    refine zq_ipush (pc' := 14) rfl rfl rfl ?_
    exact zq_iret rfl (Or.inl rfl) H
theorem zr_X8_bitsOf_0 {d : Nat} {Q : zR → zH → Prop} {p0 : Int32} {h : zH} (H :
    zW (zE d) zm_X8_bitsOf Q (4, [(1, .int 0), (2, .int p0)], [], h)) : zW (zE d) zm_X8_bitsOf Q (0, [(0, .int p0)], [], h) := by
  refine zq_ipush (pc' := 1) rfl rfl rfl ?_
  refine zq_istore (pc' := 2) rfl rfl rfl ?_
  refine zq_iload (pc' := 3) rfl rfl rfl rfl ?_
  refine zq_istore_c (pc' := 4) rfl rfl ?_
  exact H
theorem zr_X8_bitsOf_4 {d : Nat} {Q : zR → zH → Prop} {l1 : Int32} {l2 : Int32} {h : zH} (H :
    zbr (l2 = 0)
    (Q (.inl (some (.int l1))) h)
    (zW (zE d) zm_X8_bitsOf Q (4, [(1, .int (l1 + 1)), (2, .int (l2 &&& (l2 - 1)))], [], h))) : zW (zE d) zm_X8_bitsOf Q (4, [(1, .int l1), (2, .int l2)], [], h) := by
  refine zq_iload (pc' := 5) rfl rfl rfl rfl ?_
  refine zq_ifeq (pc' := 8) rfl rfl rfl rfl (And.intro (fun c => ?_) (fun c => ?_))
  · have H := H.1 c
    refine zq_iload (pc' := 21) rfl rfl rfl rfl ?_
    exact zq_iret rfl trivial H
  · have H := H.2 c
    refine zq_iinc (pc' := 11) rfl rfl rfl rfl ?_
    refine zq_iload (pc' := 12) rfl rfl rfl rfl ?_
    refine zq_iload (pc' := 13) rfl rfl rfl rfl ?_
    refine zq_ipush (pc' := 14) rfl rfl rfl ?_
    refine zq_isub (pc' := 15) rfl rfl rfl ?_
    refine zq_iand (pc' := 16) rfl rfl rfl ?_
    refine zq_istore (pc' := 17) rfl rfl rfl ?_
    refine zq_goto_c (pc' := 4) rfl rfl ?_
    exact H
theorem zr_X8_isZip_0 {d : Nat} {Q : zR → zH → Prop} {p0 : Nat} {p1 : Int32} {h : zH} (H :
    ∃ a1 : Nat, zgf h p0 8 5 = some (.ref a1) ∧
    ∃ x2, zia h a1 0 = some x2 ∧
    zE d 217 [.long ((p1 : Int32).toInt64), .long 0, .long ((x2 - 1 : Int32).toInt64)] h (fun r4 h3 => match r4 with
      | .inl v5 => ∃ x7 : Int32, v5 = some (.int x7) ∧ (x7 = 0 ∨ x7 = 1) ∧ Q (.inl (some (.int x7))) h3
      | .inr e6 => Q (.inr e6) h3)) : zW (zE d) zm_X8_isZip Q (0, [(0, .ref p0), (1, .int p1)], [], h) := by
  refine zq_iload (pc' := 1) rfl rfl rfl rfl ?_
  refine zq_i2l (pc' := 2) rfl rfl rfl ?_
  refine zq_lpush (pc' := 3) rfl rfl rfl ?_
  refine zq_aload (pc' := 4) rfl rfl rfl rfl ?_
  obtain ⟨a1, e0, H⟩ := H
  refine zq_getR (pc' := 7) rfl rfl rfl e0 ?_
  refine zq_ipush (pc' := 8) rfl rfl rfl ?_
  obtain ⟨x2, e0, H⟩ := H
  refine zq_iald (pc' := 9) rfl rfl rfl e0 ?_
  refine zq_ipush (pc' := 10) rfl rfl rfl ?_
  refine zq_isub (pc' := 11) rfl rfl rfl ?_
  refine zq_i2l (pc' := 12) rfl rfl rfl ?_
  refine zq_calli (pc' := 15) rfl rfl rfl rfl rfl rfl (zE_mono H (fun r4 h3 H => ?_))
  rcases r4 with v5 | e6
  · obtain ⟨x7, e0, H⟩ := H
    refine Exists.intro x7 (And.intro e0 ?_)
    exact zq_iret rfl H.1 H.2
  · exact H
theorem zr_X8_isPlace_0 {d : Nat} {Q : zR → zH → Prop} {p0 : Nat} {p1 : Int32} {p2 : Int32} {h : zH} (H :
    zE d 220 [.ref p0, .int p1] h (fun r2 h1 => match r2 with
      | .inl v3 => ∃ x5 : Int32, v3 = some (.int x5) ∧ zbr (x5 = 0)
        (Q (.inl (some (.int 0))) h1)
        (∃ a6 : Nat, zgf h1 p0 8 7 = some (.ref a6) ∧
          ∃ x7, zia h1 a6 p1 = some x7 ∧
          zE d 217 [.long ((p2 : Int32).toInt64), .long 0, .long ((x7 - 1 : Int32).toInt64)] h1 (fun r9 h8 => match r9 with
            | .inl v10 => ∃ x12 : Int32, v10 = some (.int x12) ∧ zbr (x12 = 0)
              (Q (.inl (some (.int 0))) h8)
              (Q (.inl (some (.int 1))) h8)
            | .inr e11 => Q (.inr e11) h8))
      | .inr e4 => Q (.inr e4) h1)) : zW (zE d) zm_X8_isPlace Q (0, [(0, .ref p0), (1, .int p1), (2, .int p2)], [], h) := by
  refine zq_aload (pc' := 1) rfl rfl rfl rfl ?_
  refine zq_iload (pc' := 2) rfl rfl rfl rfl ?_
  refine zq_calli (pc' := 5) rfl rfl rfl rfl rfl rfl (zE_mono H (fun r2 h1 H => ?_))
  rcases r2 with v3 | e4
  · obtain ⟨x5, e0, H⟩ := H
    refine Exists.intro x5 (And.intro e0 ?_)
    refine zq_ifeq (pc' := 8) rfl rfl rfl rfl (And.intro (fun c => ?_) (fun c => ?_))
    · have H := H.1 c
      refine zq_ipush (pc' := 31) rfl rfl rfl ?_
      exact zq_iret rfl (Or.inl rfl) H
    · have H := H.2 c
      refine zq_iload (pc' := 9) rfl rfl rfl rfl ?_
      refine zq_i2l (pc' := 10) rfl rfl rfl ?_
      refine zq_lpush (pc' := 11) rfl rfl rfl ?_
      refine zq_aload (pc' := 12) rfl rfl rfl rfl ?_
      obtain ⟨a6, e0, H⟩ := H
      refine zq_getR (pc' := 15) rfl rfl rfl e0 ?_
      refine zq_iload (pc' := 16) rfl rfl rfl rfl ?_
      obtain ⟨x7, e0, H⟩ := H
      refine zq_iald (pc' := 17) rfl rfl rfl e0 ?_
      refine zq_ipush (pc' := 18) rfl rfl rfl ?_
      refine zq_isub (pc' := 19) rfl rfl rfl ?_
      refine zq_i2l (pc' := 20) rfl rfl rfl ?_
      refine zq_calli (pc' := 23) rfl rfl rfl rfl rfl rfl (zE_mono H (fun r9 h8 H => ?_))
      rcases r9 with v10 | e11
      · obtain ⟨x12, e0, H⟩ := H
        refine Exists.intro x12 (And.intro e0 ?_)
        refine zq_ifeq (pc' := 26) rfl rfl rfl rfl (And.intro (fun c => ?_) (fun c => ?_))
        · have H := H.1 c
          refine zq_ipush (pc' := 31) rfl rfl rfl ?_
          exact zq_iret rfl (Or.inl rfl) H
        · have H := H.2 c
          refine zq_ipush (pc' := 27) rfl rfl rfl ?_
          refine zq_goto (pc' := 31) rfl rfl rfl ?_
          exact zq_iret rfl (Or.inr rfl) H
      · exact H
  · exact H
theorem zr_X8_feed_0 {d : Nat} {Q : zR → zH → Prop} {p0 : Nat} {p1 : Int32} {p2 : Int32} {p3 : Int32} {p4 : Int32} {p5 : Int32} {h : zH} (H :
    ∃ h1, zpf h p0 8 4 (.int 0) = some h1 ∧
    ∃ x2 : Int32, zgf h1 p0 8 15 = some (.int x2) ∧
    zbr ((x2 + 20) ≤ 700)
    (zW (zE d) zm_X8_feed Q (23, [(0, .ref p0), (1, .int p1), (2, .int p2), (3, .int p3), (4, .int p4), (5, .int p5), (6, .int 0)], [], h1))
    (Q (.inl (some (.int (-1)))) h1)) : zW (zE d) zm_X8_feed Q (0, [(0, .ref p0), (1, .int p1), (2, .int p2), (3, .int p3), (4, .int p4), (5, .int p5)], [], h) := by
  refine zq_aload (pc' := 1) rfl rfl rfl rfl ?_
  refine zq_ipush (pc' := 2) rfl rfl rfl ?_
  obtain ⟨h1, e0, H⟩ := H
  refine zq_put (pc' := 5) rfl rfl rfl trivial e0 ?_
  refine zq_aload (pc' := 6) rfl rfl rfl rfl ?_
  obtain ⟨x2, e0, H⟩ := H
  refine zq_getI (pc' := 9) rfl rfl rfl e0 ?_
  refine zq_ipush (pc' := 11) rfl rfl rfl ?_
  refine zq_iadd (pc' := 12) rfl rfl rfl ?_
  refine zq_ipush (pc' := 15) rfl rfl rfl ?_
  refine zq_icle (pc' := 18) rfl rfl rfl rfl (And.intro (fun c => ?_) (fun c => ?_))
  · have H := H.1 c
    refine zq_ipush (pc' := 21) rfl rfl rfl ?_
    refine zq_istore_c (pc' := 23) rfl rfl ?_
    exact H
  · have H := H.2 c
    refine zq_ipushn (pc' := 19) rfl rfl rfl ?_
    exact zq_iret rfl trivial H
theorem zr_X8_feed_23 {d : Nat} {Q : zR → zH → Prop} {l0 : Nat} {l1 : Int32} {l2 : Int32} {l3 : Int32} {l4 : Int32} {l5 : Int32} {l6 : Int32} {h : zH} (H :
    zbr (20 ≤ l6)
    (∃ x1 : Int32, zgf h l0 8 15 = some (.int x1) ∧
      Q (.inl (some (.int x1))) h)
    (zbr (4 ≤ l6)
      (zbr (8 ≤ l6)
        (zbr (12 ≤ l6)
          (zbr (16 ≤ l6)
            (∃ a2 : Nat, zgf h l0 8 14 = some (.ref a2) ∧
              ∃ x3 : Int32, zgf h l0 8 15 = some (.int x3) ∧
              ∃ h4, zis h a2 x3 ((l5 >>> ((24 - (8 * (l6 - l6 / 4 * 4))) &&& 31)) &&& 255) = some h4 ∧
              ∃ x5 : Int32, zgf h4 l0 8 15 = some (.int x5) ∧
              ∃ h6, zpf h4 l0 8 15 (.int (x5 + 1)) = some h6 ∧
              zW (zE d) zm_X8_feed Q (23, [(0, .ref l0), (1, .int l1), (2, .int l2), (3, .int l3), (4, .int l4), (5, .int l5), (6, .int (l6 + 1))], [], h6))
            (∃ a7 : Nat, zgf h l0 8 14 = some (.ref a7) ∧
              ∃ x8 : Int32, zgf h l0 8 15 = some (.int x8) ∧
              ∃ h9, zis h a7 x8 ((l4 >>> ((24 - (8 * (l6 - l6 / 4 * 4))) &&& 31)) &&& 255) = some h9 ∧
              ∃ x10 : Int32, zgf h9 l0 8 15 = some (.int x10) ∧
              ∃ h11, zpf h9 l0 8 15 (.int (x10 + 1)) = some h11 ∧
              zW (zE d) zm_X8_feed Q (23, [(0, .ref l0), (1, .int l1), (2, .int l2), (3, .int l3), (4, .int l4), (5, .int l5), (6, .int (l6 + 1))], [], h11)))
          (∃ a12 : Nat, zgf h l0 8 14 = some (.ref a12) ∧
            ∃ x13 : Int32, zgf h l0 8 15 = some (.int x13) ∧
            ∃ h14, zis h a12 x13 ((l3 >>> ((24 - (8 * (l6 - l6 / 4 * 4))) &&& 31)) &&& 255) = some h14 ∧
            ∃ x15 : Int32, zgf h14 l0 8 15 = some (.int x15) ∧
            ∃ h16, zpf h14 l0 8 15 (.int (x15 + 1)) = some h16 ∧
            zW (zE d) zm_X8_feed Q (23, [(0, .ref l0), (1, .int l1), (2, .int l2), (3, .int l3), (4, .int l4), (5, .int l5), (6, .int (l6 + 1))], [], h16)))
        (∃ a17 : Nat, zgf h l0 8 14 = some (.ref a17) ∧
          ∃ x18 : Int32, zgf h l0 8 15 = some (.int x18) ∧
          ∃ h19, zis h a17 x18 ((l2 >>> ((24 - (8 * (l6 - l6 / 4 * 4))) &&& 31)) &&& 255) = some h19 ∧
          ∃ x20 : Int32, zgf h19 l0 8 15 = some (.int x20) ∧
          ∃ h21, zpf h19 l0 8 15 (.int (x20 + 1)) = some h21 ∧
          zW (zE d) zm_X8_feed Q (23, [(0, .ref l0), (1, .int l1), (2, .int l2), (3, .int l3), (4, .int l4), (5, .int l5), (6, .int (l6 + 1))], [], h21)))
      (∃ a22 : Nat, zgf h l0 8 14 = some (.ref a22) ∧
        ∃ x23 : Int32, zgf h l0 8 15 = some (.int x23) ∧
        ∃ h24, zis h a22 x23 ((l1 >>> ((24 - (8 * (l6 - l6 / 4 * 4))) &&& 31)) &&& 255) = some h24 ∧
        ∃ x25 : Int32, zgf h24 l0 8 15 = some (.int x25) ∧
        ∃ h26, zpf h24 l0 8 15 (.int (x25 + 1)) = some h26 ∧
        zW (zE d) zm_X8_feed Q (23, [(0, .ref l0), (1, .int l1), (2, .int l2), (3, .int l3), (4, .int l4), (5, .int l5), (6, .int (l6 + 1))], [], h26)))) : zW (zE d) zm_X8_feed Q (23, [(0, .ref l0), (1, .int l1), (2, .int l2), (3, .int l3), (4, .int l4), (5, .int l5), (6, .int l6)], [], h) := by
  refine zq_iload (pc' := 25) rfl rfl rfl rfl ?_
  refine zq_ipush (pc' := 27) rfl rfl rfl ?_
  refine zq_icge (pc' := 30) rfl rfl rfl rfl (And.intro (fun c => ?_) (fun c => ?_))
  · have H := H.1 c
    refine zq_aload (pc' := 121) rfl rfl rfl rfl ?_
    obtain ⟨x1, e0, H⟩ := H
    refine zq_getI (pc' := 124) rfl rfl rfl e0 ?_
    exact zq_iret rfl trivial H
  · have H := H.2 c
    refine zq_iload (pc' := 32) rfl rfl rfl rfl ?_
    refine zq_ipush (pc' := 33) rfl rfl rfl ?_
    refine zq_icge (pc' := 36) rfl rfl rfl rfl (And.intro (fun c => ?_) (fun c => ?_))
    · have H := H.1 c
      refine zq_iload (pc' := 42) rfl rfl rfl rfl ?_
      refine zq_ipush (pc' := 44) rfl rfl rfl ?_
      refine zq_icge (pc' := 47) rfl rfl rfl rfl (And.intro (fun c => ?_) (fun c => ?_))
      · have H := H.1 c
        refine zq_iload (pc' := 53) rfl rfl rfl rfl ?_
        refine zq_ipush (pc' := 55) rfl rfl rfl ?_
        refine zq_icge (pc' := 58) rfl rfl rfl rfl (And.intro (fun c => ?_) (fun c => ?_))
        · have H := H.1 c
          refine zq_iload (pc' := 64) rfl rfl rfl rfl ?_
          refine zq_ipush (pc' := 66) rfl rfl rfl ?_
          refine zq_icge (pc' := 69) rfl rfl rfl rfl (And.intro (fun c => ?_) (fun c => ?_))
          · have H := H.1 c
            refine zq_iload (pc' := 76) rfl rfl rfl rfl ?_
            refine zq_istore (pc' := 78) rfl rfl rfl ?_
            refine zq_aload (pc' := 79) rfl rfl rfl rfl ?_
            obtain ⟨a2, e0, H⟩ := H
            refine zq_getR (pc' := 82) rfl rfl rfl e0 ?_
            refine zq_aload (pc' := 83) rfl rfl rfl rfl ?_
            obtain ⟨x3, e0, H⟩ := H
            refine zq_getI (pc' := 86) rfl rfl rfl e0 ?_
            refine zq_iload (pc' := 88) rfl rfl rfl rfl ?_
            refine zq_ipush (pc' := 90) rfl rfl rfl ?_
            refine zq_ipush (pc' := 92) rfl rfl rfl ?_
            refine zq_iload (pc' := 94) rfl rfl rfl rfl ?_
            refine zq_ipush (pc' := 95) rfl rfl rfl ?_
            refine zq_irem (pc' := 96) rfl rfl rfl (by decide) ?_
            refine zq_imul (pc' := 97) rfl rfl rfl ?_
            refine zq_isub (pc' := 98) rfl rfl rfl ?_
            refine zq_ishr (pc' := 99) rfl rfl rfl ?_
            refine zq_ipush (pc' := 102) rfl rfl rfl ?_
            refine zq_iand (pc' := 103) rfl rfl rfl ?_
            obtain ⟨h4, e0, H⟩ := H
            refine zq_iast (pc' := 104) rfl rfl rfl e0 ?_
            refine zq_aload (pc' := 105) rfl rfl rfl rfl ?_
            refine zq_dup (pc' := 106) rfl rfl rfl rfl ?_
            obtain ⟨x5, e0, H⟩ := H
            refine zq_getI (pc' := 109) rfl rfl rfl e0 ?_
            refine zq_ipush (pc' := 110) rfl rfl rfl ?_
            refine zq_iadd (pc' := 111) rfl rfl rfl ?_
            obtain ⟨h6, e0, H⟩ := H
            refine zq_put (pc' := 114) rfl rfl rfl trivial e0 ?_
            refine zq_iinc (pc' := 117) rfl rfl rfl rfl ?_
            refine zq_goto_c (pc' := 23) rfl rfl ?_
            exact H
          · have H := H.2 c
            refine zq_iload (pc' := 71) rfl rfl rfl rfl ?_
            refine zq_goto (pc' := 76) rfl rfl rfl ?_
            refine zq_istore (pc' := 78) rfl rfl rfl ?_
            refine zq_aload (pc' := 79) rfl rfl rfl rfl ?_
            obtain ⟨a7, e0, H⟩ := H
            refine zq_getR (pc' := 82) rfl rfl rfl e0 ?_
            refine zq_aload (pc' := 83) rfl rfl rfl rfl ?_
            obtain ⟨x8, e0, H⟩ := H
            refine zq_getI (pc' := 86) rfl rfl rfl e0 ?_
            refine zq_iload (pc' := 88) rfl rfl rfl rfl ?_
            refine zq_ipush (pc' := 90) rfl rfl rfl ?_
            refine zq_ipush (pc' := 92) rfl rfl rfl ?_
            refine zq_iload (pc' := 94) rfl rfl rfl rfl ?_
            refine zq_ipush (pc' := 95) rfl rfl rfl ?_
            refine zq_irem (pc' := 96) rfl rfl rfl (by decide) ?_
            refine zq_imul (pc' := 97) rfl rfl rfl ?_
            refine zq_isub (pc' := 98) rfl rfl rfl ?_
            refine zq_ishr (pc' := 99) rfl rfl rfl ?_
            refine zq_ipush (pc' := 102) rfl rfl rfl ?_
            refine zq_iand (pc' := 103) rfl rfl rfl ?_
            obtain ⟨h9, e0, H⟩ := H
            refine zq_iast (pc' := 104) rfl rfl rfl e0 ?_
            refine zq_aload (pc' := 105) rfl rfl rfl rfl ?_
            refine zq_dup (pc' := 106) rfl rfl rfl rfl ?_
            obtain ⟨x10, e0, H⟩ := H
            refine zq_getI (pc' := 109) rfl rfl rfl e0 ?_
            refine zq_ipush (pc' := 110) rfl rfl rfl ?_
            refine zq_iadd (pc' := 111) rfl rfl rfl ?_
            obtain ⟨h11, e0, H⟩ := H
            refine zq_put (pc' := 114) rfl rfl rfl trivial e0 ?_
            refine zq_iinc (pc' := 117) rfl rfl rfl rfl ?_
            refine zq_goto_c (pc' := 23) rfl rfl ?_
            exact H
        · have H := H.2 c
          refine zq_iload (pc' := 59) rfl rfl rfl rfl ?_
          refine zq_goto (pc' := 76) rfl rfl rfl ?_
          refine zq_istore (pc' := 78) rfl rfl rfl ?_
          refine zq_aload (pc' := 79) rfl rfl rfl rfl ?_
          obtain ⟨a12, e0, H⟩ := H
          refine zq_getR (pc' := 82) rfl rfl rfl e0 ?_
          refine zq_aload (pc' := 83) rfl rfl rfl rfl ?_
          obtain ⟨x13, e0, H⟩ := H
          refine zq_getI (pc' := 86) rfl rfl rfl e0 ?_
          refine zq_iload (pc' := 88) rfl rfl rfl rfl ?_
          refine zq_ipush (pc' := 90) rfl rfl rfl ?_
          refine zq_ipush (pc' := 92) rfl rfl rfl ?_
          refine zq_iload (pc' := 94) rfl rfl rfl rfl ?_
          refine zq_ipush (pc' := 95) rfl rfl rfl ?_
          refine zq_irem (pc' := 96) rfl rfl rfl (by decide) ?_
          refine zq_imul (pc' := 97) rfl rfl rfl ?_
          refine zq_isub (pc' := 98) rfl rfl rfl ?_
          refine zq_ishr (pc' := 99) rfl rfl rfl ?_
          refine zq_ipush (pc' := 102) rfl rfl rfl ?_
          refine zq_iand (pc' := 103) rfl rfl rfl ?_
          obtain ⟨h14, e0, H⟩ := H
          refine zq_iast (pc' := 104) rfl rfl rfl e0 ?_
          refine zq_aload (pc' := 105) rfl rfl rfl rfl ?_
          refine zq_dup (pc' := 106) rfl rfl rfl rfl ?_
          obtain ⟨x15, e0, H⟩ := H
          refine zq_getI (pc' := 109) rfl rfl rfl e0 ?_
          refine zq_ipush (pc' := 110) rfl rfl rfl ?_
          refine zq_iadd (pc' := 111) rfl rfl rfl ?_
          obtain ⟨h16, e0, H⟩ := H
          refine zq_put (pc' := 114) rfl rfl rfl trivial e0 ?_
          refine zq_iinc (pc' := 117) rfl rfl rfl rfl ?_
          refine zq_goto_c (pc' := 23) rfl rfl ?_
          exact H
      · have H := H.2 c
        refine zq_iload (pc' := 48) rfl rfl rfl rfl ?_
        refine zq_goto (pc' := 76) rfl rfl rfl ?_
        refine zq_istore (pc' := 78) rfl rfl rfl ?_
        refine zq_aload (pc' := 79) rfl rfl rfl rfl ?_
        obtain ⟨a17, e0, H⟩ := H
        refine zq_getR (pc' := 82) rfl rfl rfl e0 ?_
        refine zq_aload (pc' := 83) rfl rfl rfl rfl ?_
        obtain ⟨x18, e0, H⟩ := H
        refine zq_getI (pc' := 86) rfl rfl rfl e0 ?_
        refine zq_iload (pc' := 88) rfl rfl rfl rfl ?_
        refine zq_ipush (pc' := 90) rfl rfl rfl ?_
        refine zq_ipush (pc' := 92) rfl rfl rfl ?_
        refine zq_iload (pc' := 94) rfl rfl rfl rfl ?_
        refine zq_ipush (pc' := 95) rfl rfl rfl ?_
        refine zq_irem (pc' := 96) rfl rfl rfl (by decide) ?_
        refine zq_imul (pc' := 97) rfl rfl rfl ?_
        refine zq_isub (pc' := 98) rfl rfl rfl ?_
        refine zq_ishr (pc' := 99) rfl rfl rfl ?_
        refine zq_ipush (pc' := 102) rfl rfl rfl ?_
        refine zq_iand (pc' := 103) rfl rfl rfl ?_
        obtain ⟨h19, e0, H⟩ := H
        refine zq_iast (pc' := 104) rfl rfl rfl e0 ?_
        refine zq_aload (pc' := 105) rfl rfl rfl rfl ?_
        refine zq_dup (pc' := 106) rfl rfl rfl rfl ?_
        obtain ⟨x20, e0, H⟩ := H
        refine zq_getI (pc' := 109) rfl rfl rfl e0 ?_
        refine zq_ipush (pc' := 110) rfl rfl rfl ?_
        refine zq_iadd (pc' := 111) rfl rfl rfl ?_
        obtain ⟨h21, e0, H⟩ := H
        refine zq_put (pc' := 114) rfl rfl rfl trivial e0 ?_
        refine zq_iinc (pc' := 117) rfl rfl rfl rfl ?_
        refine zq_goto_c (pc' := 23) rfl rfl ?_
        exact H
    · have H := H.2 c
      refine zq_iload (pc' := 37) rfl rfl rfl rfl ?_
      refine zq_goto (pc' := 76) rfl rfl rfl ?_
      refine zq_istore (pc' := 78) rfl rfl rfl ?_
      refine zq_aload (pc' := 79) rfl rfl rfl rfl ?_
      obtain ⟨a22, e0, H⟩ := H
      refine zq_getR (pc' := 82) rfl rfl rfl e0 ?_
      refine zq_aload (pc' := 83) rfl rfl rfl rfl ?_
      obtain ⟨x23, e0, H⟩ := H
      refine zq_getI (pc' := 86) rfl rfl rfl e0 ?_
      refine zq_iload (pc' := 88) rfl rfl rfl rfl ?_
      refine zq_ipush (pc' := 90) rfl rfl rfl ?_
      refine zq_ipush (pc' := 92) rfl rfl rfl ?_
      refine zq_iload (pc' := 94) rfl rfl rfl rfl ?_
      refine zq_ipush (pc' := 95) rfl rfl rfl ?_
      refine zq_irem (pc' := 96) rfl rfl rfl (by decide) ?_
      refine zq_imul (pc' := 97) rfl rfl rfl ?_
      refine zq_isub (pc' := 98) rfl rfl rfl ?_
      refine zq_ishr (pc' := 99) rfl rfl rfl ?_
      refine zq_ipush (pc' := 102) rfl rfl rfl ?_
      refine zq_iand (pc' := 103) rfl rfl rfl ?_
      obtain ⟨h24, e0, H⟩ := H
      refine zq_iast (pc' := 104) rfl rfl rfl e0 ?_
      refine zq_aload (pc' := 105) rfl rfl rfl rfl ?_
      refine zq_dup (pc' := 106) rfl rfl rfl rfl ?_
      obtain ⟨x25, e0, H⟩ := H
      refine zq_getI (pc' := 109) rfl rfl rfl e0 ?_
      refine zq_ipush (pc' := 110) rfl rfl rfl ?_
      refine zq_iadd (pc' := 111) rfl rfl rfl ?_
      obtain ⟨h26, e0, H⟩ := H
      refine zq_put (pc' := 114) rfl rfl rfl trivial e0 ?_
      refine zq_iinc (pc' := 117) rfl rfl rfl rfl ?_
      refine zq_goto_c (pc' := 23) rfl rfl ?_
      exact H
theorem zr_X8_byteAt_0 {d : Nat} {Q : zR → zH → Prop} {p0 : Nat} {p1 : Int32} {h : zH} (H :
    ∃ x1 : Int32, zgf h p0 8 17 = some (.int x1) ∧
    zbr (x1 ≤ p1)
    (Q (.inl (some (.int (-1)))) h)
    (∃ a2 : Nat, zgf h p0 8 14 = some (.ref a2) ∧
      ∃ x3, zia h a2 p1 = some x3 ∧
      Q (.inl (some (.int x3))) h)) : zW (zE d) zm_X8_byteAt Q (0, [(0, .ref p0), (1, .int p1)], [], h) := by
  refine zq_iload (pc' := 1) rfl rfl rfl rfl ?_
  refine zq_aload (pc' := 2) rfl rfl rfl rfl ?_
  obtain ⟨x1, e0, H⟩ := H
  refine zq_getI (pc' := 5) rfl rfl rfl e0 ?_
  refine zq_icge (pc' := 8) rfl rfl rfl rfl (And.intro (fun c => ?_) (fun c => ?_))
  · have H := H.1 c
    refine zq_ipushn (pc' := 18) rfl rfl rfl ?_
    exact zq_iret rfl trivial H
  · have H := H.2 c
    refine zq_aload (pc' := 9) rfl rfl rfl rfl ?_
    obtain ⟨a2, e0, H⟩ := H
    refine zq_getR (pc' := 12) rfl rfl rfl e0 ?_
    refine zq_iload (pc' := 13) rfl rfl rfl rfl ?_
    obtain ⟨x3, e0, H⟩ := H
    refine zq_iald (pc' := 14) rfl rfl rfl e0 ?_
    refine zq_goto (pc' := 18) rfl rfl rfl ?_
    exact zq_iret rfl trivial H
theorem zr_X8_isLetter_0 {d : Nat} {Q : zR → zH → Prop} {p0 : Int32} {h : zH} (H :
    zbr (p0 < 97)
    (Q (.inl (some (.int 0))) h)
    (zbr (122 < p0)
      (Q (.inl (some (.int 0))) h)
      (Q (.inl (some (.int 1))) h))) : zW (zE d) zm_X8_isLetter Q (0, [(0, .int p0)], [], h) := by
  refine zq_iload (pc' := 1) rfl rfl rfl rfl ?_
  refine zq_ipush (pc' := 3) rfl rfl rfl ?_
  refine zq_iclt (pc' := 6) rfl rfl rfl rfl (And.intro (fun c => ?_) (fun c => ?_))
  · have H := H.1 c
    refine zq_ipush (pc' := 17) rfl rfl rfl ?_
    exact zq_iret rfl (Or.inl rfl) H
  · have H := H.2 c
    refine zq_iload (pc' := 7) rfl rfl rfl rfl ?_
    refine zq_ipush (pc' := 9) rfl rfl rfl ?_
    refine zq_icgt (pc' := 12) rfl rfl rfl rfl (And.intro (fun c => ?_) (fun c => ?_))
    · have H := H.1 c
      refine zq_ipush (pc' := 17) rfl rfl rfl ?_
      exact zq_iret rfl (Or.inl rfl) H
    · have H := H.2 c
      refine zq_ipush (pc' := 13) rfl rfl rfl ?_
      refine zq_goto (pc' := 17) rfl rfl rfl ?_
      exact zq_iret rfl (Or.inr rfl) H
theorem zr_X8_isDigit_0 {d : Nat} {Q : zR → zH → Prop} {p0 : Int32} {h : zH} (H :
    zbr (p0 < 48)
    (Q (.inl (some (.int 0))) h)
    (zbr (57 < p0)
      (Q (.inl (some (.int 0))) h)
      (Q (.inl (some (.int 1))) h))) : zW (zE d) zm_X8_isDigit Q (0, [(0, .int p0)], [], h) := by
  refine zq_iload (pc' := 1) rfl rfl rfl rfl ?_
  refine zq_ipush (pc' := 3) rfl rfl rfl ?_
  refine zq_iclt (pc' := 6) rfl rfl rfl rfl (And.intro (fun c => ?_) (fun c => ?_))
  · have H := H.1 c
    refine zq_ipush (pc' := 17) rfl rfl rfl ?_
    exact zq_iret rfl (Or.inl rfl) H
  · have H := H.2 c
    refine zq_iload (pc' := 7) rfl rfl rfl rfl ?_
    refine zq_ipush (pc' := 9) rfl rfl rfl ?_
    refine zq_icgt (pc' := 12) rfl rfl rfl rfl (And.intro (fun c => ?_) (fun c => ?_))
    · have H := H.1 c
      refine zq_ipush (pc' := 17) rfl rfl rfl ?_
      exact zq_iret rfl (Or.inl rfl) H
    · have H := H.2 c
      refine zq_ipush (pc' := 13) rfl rfl rfl ?_
      refine zq_goto (pc' := 17) rfl rfl rfl ?_
      exact zq_iret rfl (Or.inr rfl) H
theorem zr_X8_isMark_0 {d : Nat} {Q : zR → zH → Prop} {p0 : Int32} {h : zH} (H :
    zbr (p0 = 59)
    (Q (.inl (some (.int 1))) h)
    (zbr (p0 = 40)
      (Q (.inl (some (.int 1))) h)
      (zbr (p0 = 41)
        (Q (.inl (some (.int 1))) h)
        (zbr (p0 = 43)
          (Q (.inl (some (.int 1))) h)
          (zbr (p0 = 45)
            (Q (.inl (some (.int 1))) h)
            (zbr (p0 = 42)
              (Q (.inl (some (.int 1))) h)
              (zbr (p0 = 47)
                (Q (.inl (some (.int 1))) h)
                (zbr (p0 = 60)
                  (Q (.inl (some (.int 1))) h)
                  (zbr (p0 = 61)
                    (Q (.inl (some (.int 1))) h)
                    (Q (.inl (some (.int 0))) h)))))))))) : zW (zE d) zm_X8_isMark Q (0, [(0, .int p0)], [], h) := by
  refine zq_iload (pc' := 1) rfl rfl rfl rfl ?_
  refine zq_ipush (pc' := 3) rfl rfl rfl ?_
  refine zq_iceq (pc' := 6) rfl rfl rfl rfl (And.intro (fun c => ?_) (fun c => ?_))
  · have H := H.1 c
    refine zq_ipush (pc' := 55) rfl rfl rfl ?_
    refine zq_goto (pc' := 59) rfl rfl rfl ?_
    exact zq_iret rfl (Or.inr rfl) H
  · have H := H.2 c
    refine zq_iload (pc' := 7) rfl rfl rfl rfl ?_
    refine zq_ipush (pc' := 9) rfl rfl rfl ?_
    refine zq_iceq (pc' := 12) rfl rfl rfl rfl (And.intro (fun c => ?_) (fun c => ?_))
    · have H := H.1 c
      refine zq_ipush (pc' := 55) rfl rfl rfl ?_
      refine zq_goto (pc' := 59) rfl rfl rfl ?_
      exact zq_iret rfl (Or.inr rfl) H
    · have H := H.2 c
      refine zq_iload (pc' := 13) rfl rfl rfl rfl ?_
      refine zq_ipush (pc' := 15) rfl rfl rfl ?_
      refine zq_iceq (pc' := 18) rfl rfl rfl rfl (And.intro (fun c => ?_) (fun c => ?_))
      · have H := H.1 c
        refine zq_ipush (pc' := 55) rfl rfl rfl ?_
        refine zq_goto (pc' := 59) rfl rfl rfl ?_
        exact zq_iret rfl (Or.inr rfl) H
      · have H := H.2 c
        refine zq_iload (pc' := 19) rfl rfl rfl rfl ?_
        refine zq_ipush (pc' := 21) rfl rfl rfl ?_
        refine zq_iceq (pc' := 24) rfl rfl rfl rfl (And.intro (fun c => ?_) (fun c => ?_))
        · have H := H.1 c
          refine zq_ipush (pc' := 55) rfl rfl rfl ?_
          refine zq_goto (pc' := 59) rfl rfl rfl ?_
          exact zq_iret rfl (Or.inr rfl) H
        · have H := H.2 c
          refine zq_iload (pc' := 25) rfl rfl rfl rfl ?_
          refine zq_ipush (pc' := 27) rfl rfl rfl ?_
          refine zq_iceq (pc' := 30) rfl rfl rfl rfl (And.intro (fun c => ?_) (fun c => ?_))
          · have H := H.1 c
            refine zq_ipush (pc' := 55) rfl rfl rfl ?_
            refine zq_goto (pc' := 59) rfl rfl rfl ?_
            exact zq_iret rfl (Or.inr rfl) H
          · have H := H.2 c
            refine zq_iload (pc' := 31) rfl rfl rfl rfl ?_
            refine zq_ipush (pc' := 33) rfl rfl rfl ?_
            refine zq_iceq (pc' := 36) rfl rfl rfl rfl (And.intro (fun c => ?_) (fun c => ?_))
            · have H := H.1 c
              refine zq_ipush (pc' := 55) rfl rfl rfl ?_
              refine zq_goto (pc' := 59) rfl rfl rfl ?_
              exact zq_iret rfl (Or.inr rfl) H
            · have H := H.2 c
              refine zq_iload (pc' := 37) rfl rfl rfl rfl ?_
              refine zq_ipush (pc' := 39) rfl rfl rfl ?_
              refine zq_iceq (pc' := 42) rfl rfl rfl rfl (And.intro (fun c => ?_) (fun c => ?_))
              · have H := H.1 c
                refine zq_ipush (pc' := 55) rfl rfl rfl ?_
                refine zq_goto (pc' := 59) rfl rfl rfl ?_
                exact zq_iret rfl (Or.inr rfl) H
              · have H := H.2 c
                refine zq_iload (pc' := 43) rfl rfl rfl rfl ?_
                refine zq_ipush (pc' := 45) rfl rfl rfl ?_
                refine zq_iceq (pc' := 48) rfl rfl rfl rfl (And.intro (fun c => ?_) (fun c => ?_))
                · have H := H.1 c
                  refine zq_ipush (pc' := 55) rfl rfl rfl ?_
                  refine zq_goto (pc' := 59) rfl rfl rfl ?_
                  exact zq_iret rfl (Or.inr rfl) H
                · have H := H.2 c
                  refine zq_iload (pc' := 49) rfl rfl rfl rfl ?_
                  refine zq_ipush (pc' := 51) rfl rfl rfl ?_
                  refine zq_icne (pc' := 54) rfl rfl rfl rfl (And.intro (fun c => ?_) (fun c => ?_))
                  · have H := H.1 c
                    refine zq_ipush (pc' := 55) rfl rfl rfl ?_
                    refine zq_goto (pc' := 59) rfl rfl rfl ?_
                    exact zq_iret rfl (Or.inr rfl) H
                  · have H := H.2 c
                    refine zq_ipush (pc' := 59) rfl rfl rfl ?_
                    exact zq_iret rfl (Or.inl rfl) H
theorem zr_X8_stepOn_0 {d : Nat} {Q : zR → zH → Prop} {l0 : Nat} {h : zH} (H :
    ∃ x1 : Int32, zgf h l0 8 16 = some (.int x1) ∧
    zE d 223 [.ref l0, .int x1] h (fun r3 h2 => match r3 with
      | .inl v4 => ∃ x6 : Int32, v4 = some (.int x6) ∧ zbr (x6 = 32)
        (∃ x7 : Int32, zgf h2 l0 8 16 = some (.int x7) ∧
          ∃ h8, zpf h2 l0 8 16 (.int (x7 + 1)) = some h8 ∧
          zW (zE d) zm_X8_stepOn Q (0, [(0, .ref l0)], [], h8))
        (∃ x9 : Int32, zgf h2 l0 8 16 = some (.int x9) ∧
          zE d 223 [.ref l0, .int x9] h2 (fun r11 h10 => match r11 with
            | .inl v12 => ∃ x14 : Int32, v12 = some (.int x14) ∧ zbr (x14 = 10)
              (∃ x15 : Int32, zgf h10 l0 8 16 = some (.int x15) ∧
                ∃ h16, zpf h10 l0 8 16 (.int (x15 + 1)) = some h16 ∧
                zW (zE d) zm_X8_stepOn Q (0, [(0, .ref l0)], [], h16))
              (∃ x17 : Int32, zgf h10 l0 8 16 = some (.int x17) ∧
                ∃ h18, zpf h10 l0 8 20 (.int x17) = some h18 ∧
                ∃ x19 : Int32, zgf h18 l0 8 16 = some (.int x19) ∧
                zE d 223 [.ref l0, .int x19] h18 (fun r21 h20 => match r21 with
                  | .inl v22 => ∃ x24 : Int32, v22 = some (.int x24) ∧ zbr (x24 = (-1))
                    (∃ h25, zpf h20 l0 8 18 (.int 0) = some h25 ∧
                      ∃ x26 : Int32, zgf h25 l0 8 16 = some (.int x26) ∧
                      ∃ h27, zpf h25 l0 8 21 (.int x26) = some h27 ∧
                      Q (.inl none) h27)
                    (zE d 224 [.int x24] h20 (fun r29 h28 => match r29 with
                        | .inl v30 => ∃ x32 : Int32, v30 = some (.int x32) ∧ zbr (x32 = 0)
                          (zE d 225 [.int x24] h28 (fun r34 h33 => match r34 with
                              | .inl v35 => ∃ x37 : Int32, v35 = some (.int x37) ∧ zbr (x37 = 0)
                                (∃ x38 : Int32, zgf h33 l0 8 16 = some (.int x38) ∧
                                  ∃ h39, zpf h33 l0 8 16 (.int (x38 + 1)) = some h39 ∧
                                  zE d 226 [.int x24] h39 (fun r41 h40 => match r41 with
                                    | .inl v42 => ∃ x44 : Int32, v42 = some (.int x44) ∧ zbr (x44 = 0)
                                      (∃ h45, zpf h40 l0 8 18 (.int 4) = some h45 ∧
                                        ∃ x46 : Int32, zgf h45 l0 8 16 = some (.int x46) ∧
                                        ∃ h47, zpf h45 l0 8 21 (.int x46) = some h47 ∧
                                        Q (.inl none) h47)
                                      (∃ h48, zpf h40 l0 8 18 (.int 3) = some h48 ∧
                                        ∃ x49 : Int32, zgf h48 l0 8 16 = some (.int x49) ∧
                                        ∃ h50, zpf h48 l0 8 21 (.int x49) = some h50 ∧
                                        Q (.inl none) h50)
                                    | .inr e43 => Q (.inr e43) h40))
                                (∃ h51, zpf h33 l0 8 19 (.int 0) = some h51 ∧
                                  zW (zE d) zm_X8_stepOn Q (123, [(0, .ref l0)], [], h51))
                              | .inr e36 => Q (.inr e36) h33))
                          (zW (zE d) zm_X8_stepOn Q (76, [(0, .ref l0)], [], h28))
                        | .inr e31 => Q (.inr e31) h28))
                  | .inr e23 => Q (.inr e23) h20))
            | .inr e13 => Q (.inr e13) h10))
      | .inr e5 => Q (.inr e5) h2)) : zW (zE d) zm_X8_stepOn Q (0, [(0, .ref l0)], [], h) := by
  refine zq_aload (pc' := 1) rfl rfl rfl rfl ?_
  refine zq_aload (pc' := 2) rfl rfl rfl rfl ?_
  obtain ⟨x1, e0, H⟩ := H
  refine zq_getI (pc' := 5) rfl rfl rfl e0 ?_
  refine zq_calli (pc' := 8) rfl rfl rfl rfl rfl rfl (zE_mono H (fun r3 h2 H => ?_))
  rcases r3 with v4 | e5
  · obtain ⟨x6, e0, H⟩ := H
    refine Exists.intro x6 (And.intro e0 ?_)
    refine zq_ipush (pc' := 10) rfl rfl rfl ?_
    refine zq_iceq (pc' := 13) rfl rfl rfl rfl (And.intro (fun c => ?_) (fun c => ?_))
    · have H := H.1 c
      refine zq_aload (pc' := 27) rfl rfl rfl rfl ?_
      refine zq_dup (pc' := 28) rfl rfl rfl rfl ?_
      obtain ⟨x7, e0, H⟩ := H
      refine zq_getI (pc' := 31) rfl rfl rfl e0 ?_
      refine zq_ipush (pc' := 32) rfl rfl rfl ?_
      refine zq_iadd (pc' := 33) rfl rfl rfl ?_
      obtain ⟨h8, e0, H⟩ := H
      refine zq_put (pc' := 36) rfl rfl rfl trivial e0 ?_
      refine zq_goto_c (pc' := 0) rfl rfl ?_
      exact H
    · have H := H.2 c
      refine zq_aload (pc' := 14) rfl rfl rfl rfl ?_
      refine zq_aload (pc' := 15) rfl rfl rfl rfl ?_
      obtain ⟨x9, e0, H⟩ := H
      refine zq_getI (pc' := 18) rfl rfl rfl e0 ?_
      refine zq_calli (pc' := 21) rfl rfl rfl rfl rfl rfl (zE_mono H (fun r11 h10 H => ?_))
      rcases r11 with v12 | e13
      · obtain ⟨x14, e0, H⟩ := H
        refine Exists.intro x14 (And.intro e0 ?_)
        refine zq_ipush (pc' := 23) rfl rfl rfl ?_
        refine zq_icne (pc' := 26) rfl rfl rfl rfl (And.intro (fun c => ?_) (fun c => ?_))
        · have H := H.1 c
          refine zq_aload (pc' := 27) rfl rfl rfl rfl ?_
          refine zq_dup (pc' := 28) rfl rfl rfl rfl ?_
          obtain ⟨x15, e0, H⟩ := H
          refine zq_getI (pc' := 31) rfl rfl rfl e0 ?_
          refine zq_ipush (pc' := 32) rfl rfl rfl ?_
          refine zq_iadd (pc' := 33) rfl rfl rfl ?_
          obtain ⟨h16, e0, H⟩ := H
          refine zq_put (pc' := 36) rfl rfl rfl trivial e0 ?_
          refine zq_goto_c (pc' := 0) rfl rfl ?_
          exact H
        · have H := H.2 c
          refine zq_aload (pc' := 40) rfl rfl rfl rfl ?_
          refine zq_aload (pc' := 41) rfl rfl rfl rfl ?_
          obtain ⟨x17, e0, H⟩ := H
          refine zq_getI (pc' := 44) rfl rfl rfl e0 ?_
          obtain ⟨h18, e0, H⟩ := H
          refine zq_put (pc' := 47) rfl rfl rfl trivial e0 ?_
          refine zq_aload (pc' := 48) rfl rfl rfl rfl ?_
          refine zq_aload (pc' := 49) rfl rfl rfl rfl ?_
          obtain ⟨x19, e0, H⟩ := H
          refine zq_getI (pc' := 52) rfl rfl rfl e0 ?_
          refine zq_calli (pc' := 55) rfl rfl rfl rfl rfl rfl (zE_mono H (fun r21 h20 H => ?_))
          rcases r21 with v22 | e23
          · obtain ⟨x24, e0, H⟩ := H
            refine Exists.intro x24 (And.intro e0 ?_)
            refine zq_istore (pc' := 56) rfl rfl rfl ?_
            refine zq_iload (pc' := 57) rfl rfl rfl rfl ?_
            refine zq_ipushn (pc' := 58) rfl rfl rfl ?_
            refine zq_icne (pc' := 61) rfl rfl rfl rfl (And.intro (fun c => ?_) (fun c => ?_))
            · have H := H.1 c
              refine zq_aload (pc' := 62) rfl rfl rfl rfl ?_
              refine zq_ipush (pc' := 63) rfl rfl rfl ?_
              obtain ⟨h25, e0, H⟩ := H
              refine zq_put (pc' := 66) rfl rfl rfl trivial e0 ?_
              refine zq_goto (pc' := 212) rfl rfl rfl ?_
              refine zq_aload (pc' := 213) rfl rfl rfl rfl ?_
              refine zq_aload (pc' := 214) rfl rfl rfl rfl ?_
              obtain ⟨x26, e0, H⟩ := H
              refine zq_getI (pc' := 217) rfl rfl rfl e0 ?_
              obtain ⟨h27, e0, H⟩ := H
              refine zq_put (pc' := 220) rfl rfl rfl trivial e0 ?_
              exact zq_vret rfl H
            · have H := H.2 c
              refine zq_iload (pc' := 70) rfl rfl rfl rfl ?_
              refine zq_calli (pc' := 73) rfl rfl rfl rfl rfl rfl (zE_mono H (fun r29 h28 H => ?_))
              rcases r29 with v30 | e31
              · obtain ⟨x32, e0, H⟩ := H
                refine Exists.intro x32 (And.intro e0 ?_)
                refine zq_ifeq_c (pc' := 76) (lt := [(1, .int x24), (0, .ref l0)]) (lf := [(0, .ref l0)]) rfl rfl rfl rfl (And.intro (fun c => ?_) (fun c => ?_))
                · have H := H.1 c
                  refine zq_iload (pc' := 112) rfl rfl rfl rfl ?_
                  refine zq_calli (pc' := 115) rfl rfl rfl rfl rfl rfl (zE_mono H (fun r34 h33 H => ?_))
                  rcases r34 with v35 | e36
                  · obtain ⟨x37, e0, H⟩ := H
                    refine Exists.intro x37 (And.intro e0 ?_)
                    refine zq_ifeq (pc' := 118) rfl rfl rfl rfl (And.intro (fun c => ?_) (fun c => ?_))
                    · have H := H.1 c
                      refine zq_aload (pc' := 187) rfl rfl rfl rfl ?_
                      refine zq_dup (pc' := 188) rfl rfl rfl rfl ?_
                      obtain ⟨x38, e0, H⟩ := H
                      refine zq_getI (pc' := 191) rfl rfl rfl e0 ?_
                      refine zq_ipush (pc' := 192) rfl rfl rfl ?_
                      refine zq_iadd (pc' := 193) rfl rfl rfl ?_
                      obtain ⟨h39, e0, H⟩ := H
                      refine zq_put (pc' := 196) rfl rfl rfl trivial e0 ?_
                      refine zq_aload (pc' := 197) rfl rfl rfl rfl ?_
                      refine zq_iload (pc' := 198) rfl rfl rfl rfl ?_
                      refine zq_calli (pc' := 201) rfl rfl rfl rfl rfl rfl (zE_mono H (fun r41 h40 H => ?_))
                      rcases r41 with v42 | e43
                      · obtain ⟨x44, e0, H⟩ := H
                        refine Exists.intro x44 (And.intro e0 ?_)
                        refine zq_ifeq (pc' := 204) rfl rfl rfl rfl (And.intro (fun c => ?_) (fun c => ?_))
                        · have H := H.1 c
                          refine zq_ipush (pc' := 209) rfl rfl rfl ?_
                          obtain ⟨h45, e0, H⟩ := H
                          refine zq_put (pc' := 212) rfl rfl rfl trivial e0 ?_
                          refine zq_aload (pc' := 213) rfl rfl rfl rfl ?_
                          refine zq_aload (pc' := 214) rfl rfl rfl rfl ?_
                          obtain ⟨x46, e0, H⟩ := H
                          refine zq_getI (pc' := 217) rfl rfl rfl e0 ?_
                          obtain ⟨h47, e0, H⟩ := H
                          refine zq_put (pc' := 220) rfl rfl rfl trivial e0 ?_
                          exact zq_vret rfl H
                        · have H := H.2 c
                          refine zq_ipush (pc' := 205) rfl rfl rfl ?_
                          refine zq_goto (pc' := 209) rfl rfl rfl ?_
                          obtain ⟨h48, e0, H⟩ := H
                          refine zq_put (pc' := 212) rfl rfl rfl trivial e0 ?_
                          refine zq_aload (pc' := 213) rfl rfl rfl rfl ?_
                          refine zq_aload (pc' := 214) rfl rfl rfl rfl ?_
                          obtain ⟨x49, e0, H⟩ := H
                          refine zq_getI (pc' := 217) rfl rfl rfl e0 ?_
                          obtain ⟨h50, e0, H⟩ := H
                          refine zq_put (pc' := 220) rfl rfl rfl trivial e0 ?_
                          exact zq_vret rfl H
                      · exact H
                    · have H := H.2 c
                      refine zq_aload (pc' := 119) rfl rfl rfl rfl ?_
                      refine zq_ipush (pc' := 120) rfl rfl rfl ?_
                      obtain ⟨h51, e0, H⟩ := H
                      refine zq_put_c (pc' := 123) rfl rfl trivial e0 ?_
                      exact H
                  · exact H
                · have H := H.2 c
                  exact H
              · exact H
          · exact H
      · exact H
  · exact H
theorem zr_X8_stepOn_76 {d : Nat} {Q : zR → zH → Prop} {l0 : Nat} {h : zH} (H :
    ∃ x1 : Int32, zgf h l0 8 16 = some (.int x1) ∧
    zE d 223 [.ref l0, .int x1] h (fun r3 h2 => match r3 with
      | .inl v4 => ∃ x6 : Int32, v4 = some (.int x6) ∧ zE d 224 [.int x6] h2 (fun r8 h7 => match r8 with
          | .inl v9 => ∃ x11 : Int32, v9 = some (.int x11) ∧ zbr (x11 = 0)
            (∃ h12, zpf h7 l0 8 18 (.int 1) = some h12 ∧
              ∃ x13 : Int32, zgf h12 l0 8 16 = some (.int x13) ∧
              ∃ h14, zpf h12 l0 8 21 (.int x13) = some h14 ∧
              Q (.inl none) h14)
            (∃ x15 : Int32, zgf h7 l0 8 16 = some (.int x15) ∧
              ∃ h16, zpf h7 l0 8 16 (.int (x15 + 1)) = some h16 ∧
              zW (zE d) zm_X8_stepOn Q (76, [(0, .ref l0)], [], h16))
          | .inr e10 => Q (.inr e10) h7)
      | .inr e5 => Q (.inr e5) h2)) : zW (zE d) zm_X8_stepOn Q (76, [(0, .ref l0)], [], h) := by
  refine zq_aload (pc' := 77) rfl rfl rfl rfl ?_
  refine zq_aload (pc' := 78) rfl rfl rfl rfl ?_
  obtain ⟨x1, e0, H⟩ := H
  refine zq_getI (pc' := 81) rfl rfl rfl e0 ?_
  refine zq_calli (pc' := 84) rfl rfl rfl rfl rfl rfl (zE_mono H (fun r3 h2 H => ?_))
  rcases r3 with v4 | e5
  · obtain ⟨x6, e0, H⟩ := H
    refine Exists.intro x6 (And.intro e0 ?_)
    refine zq_calli (pc' := 87) rfl rfl rfl rfl rfl rfl (zE_mono H (fun r8 h7 H => ?_))
    rcases r8 with v9 | e10
    · obtain ⟨x11, e0, H⟩ := H
      refine Exists.intro x11 (And.intro e0 ?_)
      refine zq_ifeq (pc' := 90) rfl rfl rfl rfl (And.intro (fun c => ?_) (fun c => ?_))
      · have H := H.1 c
        refine zq_aload (pc' := 104) rfl rfl rfl rfl ?_
        refine zq_ipush (pc' := 105) rfl rfl rfl ?_
        obtain ⟨h12, e0, H⟩ := H
        refine zq_put (pc' := 108) rfl rfl rfl trivial e0 ?_
        refine zq_goto (pc' := 212) rfl rfl rfl ?_
        refine zq_aload (pc' := 213) rfl rfl rfl rfl ?_
        refine zq_aload (pc' := 214) rfl rfl rfl rfl ?_
        obtain ⟨x13, e0, H⟩ := H
        refine zq_getI (pc' := 217) rfl rfl rfl e0 ?_
        obtain ⟨h14, e0, H⟩ := H
        refine zq_put (pc' := 220) rfl rfl rfl trivial e0 ?_
        exact zq_vret rfl H
      · have H := H.2 c
        refine zq_aload (pc' := 91) rfl rfl rfl rfl ?_
        refine zq_dup (pc' := 92) rfl rfl rfl rfl ?_
        obtain ⟨x15, e0, H⟩ := H
        refine zq_getI (pc' := 95) rfl rfl rfl e0 ?_
        refine zq_ipush (pc' := 96) rfl rfl rfl ?_
        refine zq_iadd (pc' := 97) rfl rfl rfl ?_
        obtain ⟨h16, e0, H⟩ := H
        refine zq_put (pc' := 100) rfl rfl rfl trivial e0 ?_
        refine zq_goto_c (pc' := 76) rfl rfl ?_
        exact H
    · exact H
  · exact H
theorem zr_X8_stepOn_123 {d : Nat} {Q : zR → zH → Prop} {l0 : Nat} {h : zH} (H :
    ∃ x1 : Int32, zgf h l0 8 16 = some (.int x1) ∧
    zE d 223 [.ref l0, .int x1] h (fun r3 h2 => match r3 with
      | .inl v4 => ∃ x6 : Int32, v4 = some (.int x6) ∧ zE d 225 [.int x6] h2 (fun r8 h7 => match r8 with
          | .inl v9 => ∃ x11 : Int32, v9 = some (.int x11) ∧ zbr (x11 = 0)
            (∃ h12, zpf h7 l0 8 18 (.int 2) = some h12 ∧
              ∃ x13 : Int32, zgf h12 l0 8 16 = some (.int x13) ∧
              ∃ h14, zpf h12 l0 8 21 (.int x13) = some h14 ∧
              Q (.inl none) h14)
            (∃ x15 : Int32, zgf h7 l0 8 19 = some (.int x15) ∧
              ∃ x16 : Int32, zgf h7 l0 8 16 = some (.int x16) ∧
              zE d 223 [.ref l0, .int x16] h7 (fun r18 h17 => match r18 with
                | .inl v19 => ∃ x21 : Int32, v19 = some (.int x21) ∧ zE d 3 [.int 100000, .int (((10 * x15) + x21) - 48)] h17 (fun r23 h22 => match r23 with
                    | .inl v24 => ∃ x26 : Int32, v24 = some (.int x26) ∧ ∃ h27, zpf h22 l0 8 19 (.int x26) = some h27 ∧
                      ∃ x28 : Int32, zgf h27 l0 8 16 = some (.int x28) ∧
                      ∃ h29, zpf h27 l0 8 16 (.int (x28 + 1)) = some h29 ∧
                      zW (zE d) zm_X8_stepOn Q (123, [(0, .ref l0)], [], h29)
                    | .inr e25 => Q (.inr e25) h22)
                | .inr e20 => Q (.inr e20) h17))
          | .inr e10 => Q (.inr e10) h7)
      | .inr e5 => Q (.inr e5) h2)) : zW (zE d) zm_X8_stepOn Q (123, [(0, .ref l0)], [], h) := by
  refine zq_aload (pc' := 124) rfl rfl rfl rfl ?_
  refine zq_aload (pc' := 125) rfl rfl rfl rfl ?_
  obtain ⟨x1, e0, H⟩ := H
  refine zq_getI (pc' := 128) rfl rfl rfl e0 ?_
  refine zq_calli (pc' := 131) rfl rfl rfl rfl rfl rfl (zE_mono H (fun r3 h2 H => ?_))
  rcases r3 with v4 | e5
  · obtain ⟨x6, e0, H⟩ := H
    refine Exists.intro x6 (And.intro e0 ?_)
    refine zq_calli (pc' := 134) rfl rfl rfl rfl rfl rfl (zE_mono H (fun r8 h7 H => ?_))
    rcases r8 with v9 | e10
    · obtain ⟨x11, e0, H⟩ := H
      refine Exists.intro x11 (And.intro e0 ?_)
      refine zq_ifeq (pc' := 137) rfl rfl rfl rfl (And.intro (fun c => ?_) (fun c => ?_))
      · have H := H.1 c
        refine zq_aload (pc' := 179) rfl rfl rfl rfl ?_
        refine zq_ipush (pc' := 180) rfl rfl rfl ?_
        obtain ⟨h12, e0, H⟩ := H
        refine zq_put (pc' := 183) rfl rfl rfl trivial e0 ?_
        refine zq_goto (pc' := 212) rfl rfl rfl ?_
        refine zq_aload (pc' := 213) rfl rfl rfl rfl ?_
        refine zq_aload (pc' := 214) rfl rfl rfl rfl ?_
        obtain ⟨x13, e0, H⟩ := H
        refine zq_getI (pc' := 217) rfl rfl rfl e0 ?_
        obtain ⟨h14, e0, H⟩ := H
        refine zq_put (pc' := 220) rfl rfl rfl trivial e0 ?_
        exact zq_vret rfl H
      · have H := H.2 c
        refine zq_aload (pc' := 138) rfl rfl rfl rfl ?_
        refine zq_ipush (pc' := 140) rfl rfl rfl ?_
        refine zq_ipush (pc' := 142) rfl rfl rfl ?_
        refine zq_aload (pc' := 143) rfl rfl rfl rfl ?_
        obtain ⟨x15, e0, H⟩ := H
        refine zq_getI (pc' := 146) rfl rfl rfl e0 ?_
        refine zq_imul (pc' := 147) rfl rfl rfl ?_
        refine zq_aload (pc' := 148) rfl rfl rfl rfl ?_
        refine zq_aload (pc' := 149) rfl rfl rfl rfl ?_
        obtain ⟨x16, e0, H⟩ := H
        refine zq_getI (pc' := 152) rfl rfl rfl e0 ?_
        refine zq_calli (pc' := 155) rfl rfl rfl rfl rfl rfl (zE_mono H (fun r18 h17 H => ?_))
        rcases r18 with v19 | e20
        · obtain ⟨x21, e0, H⟩ := H
          refine Exists.intro x21 (And.intro e0 ?_)
          refine zq_iadd (pc' := 156) rfl rfl rfl ?_
          refine zq_ipush (pc' := 158) rfl rfl rfl ?_
          refine zq_isub (pc' := 159) rfl rfl rfl ?_
          refine zq_calli (pc' := 162) rfl rfl rfl rfl rfl rfl (zE_mono H (fun r23 h22 H => ?_))
          rcases r23 with v24 | e25
          · obtain ⟨x26, e0, H⟩ := H
            refine Exists.intro x26 (And.intro e0 ?_)
            obtain ⟨h27, e0, H⟩ := H
            refine zq_put (pc' := 165) rfl rfl rfl trivial e0 ?_
            refine zq_aload (pc' := 166) rfl rfl rfl rfl ?_
            refine zq_dup (pc' := 167) rfl rfl rfl rfl ?_
            obtain ⟨x28, e0, H⟩ := H
            refine zq_getI (pc' := 170) rfl rfl rfl e0 ?_
            refine zq_ipush (pc' := 171) rfl rfl rfl ?_
            refine zq_iadd (pc' := 172) rfl rfl rfl ?_
            obtain ⟨h29, e0, H⟩ := H
            refine zq_put (pc' := 175) rfl rfl rfl trivial e0 ?_
            refine zq_goto_c (pc' := 123) rfl rfl ?_
            exact H
          · exact H
        · exact H
    · exact H
  · exact H
theorem zr_X8_wrong_0 {d : Nat} {Q : zR → zH → Prop} {p0 : Nat} {p1 : Int32} {h : zH} (H :
    ∃ x1 : Int32, zgf h p0 8 22 = some (.int x1) ∧
    zbr (x1 = 0)
    (∃ h2, zpf h p0 8 22 (.int p1) = some h2 ∧
      ∃ x3 : Int32, zgf h2 p0 8 20 = some (.int x3) ∧
      ∃ h4, zpf h2 p0 8 23 (.int x3) = some h4 ∧
      Q (.inl none) h4)
    (Q (.inl none) h)) : zW (zE d) zm_X8_wrong Q (0, [(0, .ref p0), (1, .int p1)], [], h) := by
  refine zq_aload (pc' := 1) rfl rfl rfl rfl ?_
  obtain ⟨x1, e0, H⟩ := H
  refine zq_getI (pc' := 4) rfl rfl rfl e0 ?_
  refine zq_ifeq (pc' := 7) rfl rfl rfl rfl (And.intro (fun c => ?_) (fun c => ?_))
  · have H := H.1 c
    refine zq_aload (pc' := 9) rfl rfl rfl rfl ?_
    refine zq_iload (pc' := 10) rfl rfl rfl rfl ?_
    obtain ⟨h2, e0, H⟩ := H
    refine zq_put (pc' := 13) rfl rfl rfl trivial e0 ?_
    refine zq_aload (pc' := 14) rfl rfl rfl rfl ?_
    refine zq_aload (pc' := 15) rfl rfl rfl rfl ?_
    obtain ⟨x3, e0, H⟩ := H
    refine zq_getI (pc' := 18) rfl rfl rfl e0 ?_
    obtain ⟨h4, e0, H⟩ := H
    refine zq_put (pc' := 21) rfl rfl rfl trivial e0 ?_
    exact zq_vret rfl H
  · have H := H.2 c
    exact zq_vret rfl H
theorem zr_X8_is_0 {d : Nat} {Q : zR → zH → Prop} {p0 : Nat} {p1 : Nat} {h : zH} (H :
    ∃ x1 : Int32, zgf h p0 8 22 = some (.int x1) ∧
    zbr (x1 = 0)
    (∃ x2 : Int32, zgf h p0 8 18 = some (.int x2) ∧
      zbr (x2 = 1)
      (zE d 4 [.ref p1] h (fun r4 h3 => match r4 with
          | .inl v5 => ∃ x7 : Int32, v5 = some (.int x7) ∧ ∃ x8 : Int32, zgf h3 p0 8 21 = some (.int x8) ∧
            ∃ x9 : Int32, zgf h3 p0 8 20 = some (.int x9) ∧
            zbr (x7 = (x8 - x9))
            (zW (zE d) zm_X8_is Q (39, [(0, .ref p0), (1, .ref p1), (2, .int 1), (3, .int 0)], [], h3))
            (zW (zE d) zm_X8_is Q (39, [(0, .ref p0), (1, .ref p1), (2, .int 0), (3, .int 0)], [], h3))
          | .inr e6 => Q (.inr e6) h3))
      (zW (zE d) zm_X8_is Q (39, [(0, .ref p0), (1, .ref p1), (2, .int 0), (3, .int 0)], [], h)))
    (zW (zE d) zm_X8_is Q (39, [(0, .ref p0), (1, .ref p1), (2, .int 0), (3, .int 0)], [], h))) : zW (zE d) zm_X8_is Q (0, [(0, .ref p0), (1, .ref p1)], [], h) := by
  refine zq_aload (pc' := 1) rfl rfl rfl rfl ?_
  obtain ⟨x1, e0, H⟩ := H
  refine zq_getI (pc' := 4) rfl rfl rfl e0 ?_
  refine zq_ifne (pc' := 7) rfl rfl rfl rfl (And.intro (fun c => ?_) (fun c => ?_))
  · have H := H.1 c
    refine zq_aload (pc' := 8) rfl rfl rfl rfl ?_
    obtain ⟨x2, e0, H⟩ := H
    refine zq_getI (pc' := 11) rfl rfl rfl e0 ?_
    refine zq_ipush (pc' := 12) rfl rfl rfl ?_
    refine zq_icne (pc' := 15) rfl rfl rfl rfl (And.intro (fun c => ?_) (fun c => ?_))
    · have H := H.1 c
      refine zq_aload (pc' := 16) rfl rfl rfl rfl ?_
      refine zq_calli (pc' := 19) rfl rfl rfl rfl rfl rfl (zE_mono H (fun r4 h3 H => ?_))
      rcases r4 with v5 | e6
      · obtain ⟨x7, e0, H⟩ := H
        refine Exists.intro x7 (And.intro e0 ?_)
        refine zq_aload (pc' := 20) rfl rfl rfl rfl ?_
        obtain ⟨x8, e0, H⟩ := H
        refine zq_getI (pc' := 23) rfl rfl rfl e0 ?_
        refine zq_aload (pc' := 24) rfl rfl rfl rfl ?_
        obtain ⟨x9, e0, H⟩ := H
        refine zq_getI (pc' := 27) rfl rfl rfl e0 ?_
        refine zq_isub (pc' := 28) rfl rfl rfl ?_
        refine zq_icne (pc' := 31) rfl rfl rfl rfl (And.intro (fun c => ?_) (fun c => ?_))
        · have H := H.1 c
          refine zq_ipush (pc' := 32) rfl rfl rfl ?_
          refine zq_goto (pc' := 36) rfl rfl rfl ?_
          refine zq_istore (pc' := 37) rfl rfl rfl ?_
          refine zq_ipush (pc' := 38) rfl rfl rfl ?_
          refine zq_istore_c (pc' := 39) rfl rfl ?_
          exact H
        · have H := H.2 c
          refine zq_ipush (pc' := 36) rfl rfl rfl ?_
          refine zq_istore (pc' := 37) rfl rfl rfl ?_
          refine zq_ipush (pc' := 38) rfl rfl rfl ?_
          refine zq_istore_c (pc' := 39) rfl rfl ?_
          exact H
      · exact H
    · have H := H.2 c
      refine zq_ipush (pc' := 36) rfl rfl rfl ?_
      refine zq_istore (pc' := 37) rfl rfl rfl ?_
      refine zq_ipush (pc' := 38) rfl rfl rfl ?_
      refine zq_istore_c (pc' := 39) rfl rfl ?_
      exact H
  · have H := H.2 c
    refine zq_ipush (pc' := 36) rfl rfl rfl ?_
    refine zq_istore (pc' := 37) rfl rfl rfl ?_
    refine zq_ipush (pc' := 38) rfl rfl rfl ?_
    refine zq_istore_c (pc' := 39) rfl rfl ?_
    exact H
theorem zr_X8_is_39 {d : Nat} {Q : zR → zH → Prop} {l0 : Nat} {l1 : Nat} {l2 : Int32} {l3 : Int32} {h : zH} (H :
    zbr (l2 = 0)
    ((l2 = 0 ∨ l2 = 1) ∧ Q (.inl (some (.int l2))) h)
    (zE d 4 [.ref l1] h (fun r2 h1 => match r2 with
        | .inl v3 => ∃ x5 : Int32, v3 = some (.int x5) ∧ zbr (x5 ≤ l3)
          ((l2 = 0 ∨ l2 = 1) ∧ Q (.inl (some (.int l2))) h1)
          (zE d 5 [.ref l1, .int l3] h1 (fun r7 h6 => match r7 with
              | .inl v8 => ∃ x10 : Int32, v8 = some (.int x10) ∧ ∃ a11 : Nat, zgf h6 l0 8 14 = some (.ref a11) ∧
                ∃ x12 : Int32, zgf h6 l0 8 20 = some (.int x12) ∧
                ∃ x13, zia h6 a11 (x12 + l3) = some x13 ∧
                zbr (x10 = x13)
                (zW (zE d) zm_X8_is Q (39, [(0, .ref l0), (1, .ref l1), (2, .int 1), (3, .int (l3 + 1))], [], h6))
                (zW (zE d) zm_X8_is Q (39, [(0, .ref l0), (1, .ref l1), (2, .int 0), (3, .int (l3 + 1))], [], h6))
              | .inr e9 => Q (.inr e9) h6))
        | .inr e4 => Q (.inr e4) h1))) : zW (zE d) zm_X8_is Q (39, [(0, .ref l0), (1, .ref l1), (2, .int l2), (3, .int l3)], [], h) := by
  refine zq_iload (pc' := 40) rfl rfl rfl rfl ?_
  refine zq_ifeq (pc' := 43) rfl rfl rfl rfl (And.intro (fun c => ?_) (fun c => ?_))
  · have H := H.1 c
    refine zq_iload (pc' := 83) rfl rfl rfl rfl ?_
    exact zq_iret rfl H.1 H.2
  · have H := H.2 c
    refine zq_iload (pc' := 44) rfl rfl rfl rfl ?_
    refine zq_aload (pc' := 45) rfl rfl rfl rfl ?_
    refine zq_calli (pc' := 48) rfl rfl rfl rfl rfl rfl (zE_mono H (fun r2 h1 H => ?_))
    rcases r2 with v3 | e4
    · obtain ⟨x5, e0, H⟩ := H
      refine Exists.intro x5 (And.intro e0 ?_)
      refine zq_icge (pc' := 51) rfl rfl rfl rfl (And.intro (fun c => ?_) (fun c => ?_))
      · have H := H.1 c
        refine zq_iload (pc' := 83) rfl rfl rfl rfl ?_
        exact zq_iret rfl H.1 H.2
      · have H := H.2 c
        refine zq_aload (pc' := 52) rfl rfl rfl rfl ?_
        refine zq_iload (pc' := 53) rfl rfl rfl rfl ?_
        refine zq_calli (pc' := 56) rfl rfl rfl rfl rfl rfl (zE_mono H (fun r7 h6 H => ?_))
        rcases r7 with v8 | e9
        · obtain ⟨x10, e0, H⟩ := H
          refine Exists.intro x10 (And.intro e0 ?_)
          refine zq_aload (pc' := 57) rfl rfl rfl rfl ?_
          obtain ⟨a11, e0, H⟩ := H
          refine zq_getR (pc' := 60) rfl rfl rfl e0 ?_
          refine zq_aload (pc' := 61) rfl rfl rfl rfl ?_
          obtain ⟨x12, e0, H⟩ := H
          refine zq_getI (pc' := 64) rfl rfl rfl e0 ?_
          refine zq_iload (pc' := 65) rfl rfl rfl rfl ?_
          refine zq_iadd (pc' := 66) rfl rfl rfl ?_
          obtain ⟨x13, e0, H⟩ := H
          refine zq_iald (pc' := 67) rfl rfl rfl e0 ?_
          refine zq_icne (pc' := 70) rfl rfl rfl rfl (And.intro (fun c => ?_) (fun c => ?_))
          · have H := H.1 c
            refine zq_ipush (pc' := 71) rfl rfl rfl ?_
            refine zq_goto (pc' := 75) rfl rfl rfl ?_
            refine zq_istore (pc' := 76) rfl rfl rfl ?_
            refine zq_iinc (pc' := 79) rfl rfl rfl rfl ?_
            refine zq_goto_c (pc' := 39) rfl rfl ?_
            exact H
          · have H := H.2 c
            refine zq_ipush (pc' := 75) rfl rfl rfl ?_
            refine zq_istore (pc' := 76) rfl rfl rfl ?_
            refine zq_iinc (pc' := 79) rfl rfl rfl rfl ?_
            refine zq_goto_c (pc' := 39) rfl rfl ?_
            exact H
        · exact H
    · exact H
theorem zr_X8_which_0 {d : Nat} {Q : zR → zH → Prop} {p0 : Nat} {p1 : Nat} {h : zH} (H :
    zW (zE d) zm_X8_which Q (2, [(0, .ref p0), (1, .ref p1), (2, .int 0)], [], h)) : zW (zE d) zm_X8_which Q (0, [(0, .ref p0), (1, .ref p1)], [], h) := by
  refine zq_ipush (pc' := 1) rfl rfl rfl ?_
  refine zq_istore_c (pc' := 2) rfl rfl ?_
  exact H
theorem zr_X8_which_2 {d : Nat} {Q : zR → zH → Prop} {l0 : Nat} {l1 : Nat} {l2 : Int32} {h : zH} (H :
    ∃ x1, zal h l1 = some x1 ∧
    zbr (x1 ≤ l2)
    (Q (.inl (some (.int (-1)))) h)
    (∃ a2, zaa h l1 l2 = some a2 ∧
      zE d 229 [.ref l0, .ref a2] h (fun r4 h3 => match r4 with
        | .inl v5 => ∃ x7 : Int32, v5 = some (.int x7) ∧ zbr (x7 = 0)
          (zW (zE d) zm_X8_which Q (2, [(0, .ref l0), (1, .ref l1), (2, .int (l2 + 1))], [], h3))
          (Q (.inl (some (.int l2))) h3)
        | .inr e6 => Q (.inr e6) h3))) : zW (zE d) zm_X8_which Q (2, [(0, .ref l0), (1, .ref l1), (2, .int l2)], [], h) := by
  refine zq_iload (pc' := 3) rfl rfl rfl rfl ?_
  refine zq_aload (pc' := 4) rfl rfl rfl rfl ?_
  obtain ⟨x1, e0, H⟩ := H
  refine zq_alen (pc' := 5) rfl rfl rfl e0 ?_
  refine zq_icge (pc' := 8) rfl rfl rfl rfl (And.intro (fun c => ?_) (fun c => ?_))
  · have H := H.1 c
    refine zq_ipushn (pc' := 27) rfl rfl rfl ?_
    exact zq_iret rfl trivial H
  · have H := H.2 c
    refine zq_aload (pc' := 9) rfl rfl rfl rfl ?_
    refine zq_aload (pc' := 10) rfl rfl rfl rfl ?_
    refine zq_iload (pc' := 11) rfl rfl rfl rfl ?_
    obtain ⟨a2, e0, H⟩ := H
    refine zq_aald (pc' := 12) rfl rfl rfl e0 ?_
    refine zq_calli (pc' := 15) rfl rfl rfl rfl rfl rfl (zE_mono H (fun r4 h3 H => ?_))
    rcases r4 with v5 | e6
    · obtain ⟨x7, e0, H⟩ := H
      refine Exists.intro x7 (And.intro e0 ?_)
      refine zq_ifeq (pc' := 18) rfl rfl rfl rfl (And.intro (fun c => ?_) (fun c => ?_))
      · have H := H.1 c
        refine zq_iinc (pc' := 23) rfl rfl rfl rfl ?_
        refine zq_goto_c (pc' := 2) rfl rfl ?_
        exact H
      · have H := H.2 c
        refine zq_iload (pc' := 19) rfl rfl rfl rfl ?_
        exact zq_iret rfl trivial H
    · exact H
theorem zr_X8_isMarked_0 {d : Nat} {Q : zR → zH → Prop} {p0 : Nat} {p1 : Int32} {h : zH} (H :
    ∃ x1 : Int32, zgf h p0 8 22 = some (.int x1) ∧
    zbr (x1 = 0)
    (∃ x2 : Int32, zgf h p0 8 18 = some (.int x2) ∧
      zbr (x2 = 3)
      (∃ a3 : Nat, zgf h p0 8 14 = some (.ref a3) ∧
        ∃ x4 : Int32, zgf h p0 8 20 = some (.int x4) ∧
        ∃ x5, zia h a3 x4 = some x5 ∧
        zbr (x5 = p1)
        (Q (.inl (some (.int 1))) h)
        (Q (.inl (some (.int 0))) h))
      (Q (.inl (some (.int 0))) h))
    (Q (.inl (some (.int 0))) h)) : zW (zE d) zm_X8_isMarked Q (0, [(0, .ref p0), (1, .int p1)], [], h) := by
  refine zq_aload (pc' := 1) rfl rfl rfl rfl ?_
  obtain ⟨x1, e0, H⟩ := H
  refine zq_getI (pc' := 4) rfl rfl rfl e0 ?_
  refine zq_ifne (pc' := 7) rfl rfl rfl rfl (And.intro (fun c => ?_) (fun c => ?_))
  · have H := H.1 c
    refine zq_aload (pc' := 8) rfl rfl rfl rfl ?_
    obtain ⟨x2, e0, H⟩ := H
    refine zq_getI (pc' := 11) rfl rfl rfl e0 ?_
    refine zq_ipush (pc' := 12) rfl rfl rfl ?_
    refine zq_icne (pc' := 15) rfl rfl rfl rfl (And.intro (fun c => ?_) (fun c => ?_))
    · have H := H.1 c
      refine zq_aload (pc' := 16) rfl rfl rfl rfl ?_
      obtain ⟨a3, e0, H⟩ := H
      refine zq_getR (pc' := 19) rfl rfl rfl e0 ?_
      refine zq_aload (pc' := 20) rfl rfl rfl rfl ?_
      obtain ⟨x4, e0, H⟩ := H
      refine zq_getI (pc' := 23) rfl rfl rfl e0 ?_
      obtain ⟨x5, e0, H⟩ := H
      refine zq_iald (pc' := 24) rfl rfl rfl e0 ?_
      refine zq_iload (pc' := 25) rfl rfl rfl rfl ?_
      refine zq_icne (pc' := 28) rfl rfl rfl rfl (And.intro (fun c => ?_) (fun c => ?_))
      · have H := H.1 c
        refine zq_ipush (pc' := 29) rfl rfl rfl ?_
        refine zq_goto (pc' := 33) rfl rfl rfl ?_
        exact zq_iret rfl (Or.inr rfl) H
      · have H := H.2 c
        refine zq_ipush (pc' := 33) rfl rfl rfl ?_
        exact zq_iret rfl (Or.inl rfl) H
    · have H := H.2 c
      refine zq_ipush (pc' := 33) rfl rfl rfl ?_
      exact zq_iret rfl (Or.inl rfl) H
  · have H := H.2 c
    refine zq_ipush (pc' := 33) rfl rfl rfl ?_
    exact zq_iret rfl (Or.inl rfl) H
theorem zr_X8_mark_0 {d : Nat} {Q : zR → zH → Prop} {p0 : Nat} {p1 : Int32} {h : zH} (H :
    ∃ x1 : Int32, zgf h p0 8 22 = some (.int x1) ∧
    zbr (x1 = 0)
    (zE d 231 [.ref p0, .int p1] h (fun r3 h2 => match r3 with
        | .inl v4 => ∃ x6 : Int32, v4 = some (.int x6) ∧ zbr (x6 = 0)
          (zE d 228 [.ref p0, .int 1] h2 (fun r8 h7 => match r8 with
              | .inl v9 => v9 = none ∧ ∃ x11 : Int32, zgf h7 p0 8 22 = some (.int x11) ∧
                zbr (x11 = 0)
                (zE d 227 [.ref p0] h7 (fun r13 h12 => match r13 with
                    | .inl v14 => v14 = none ∧ Q (.inl none) h12
                    | .inr e15 => Q (.inr e15) h12))
                (Q (.inl none) h7)
              | .inr e10 => Q (.inr e10) h7))
          (∃ x16 : Int32, zgf h2 p0 8 22 = some (.int x16) ∧
            zbr (x16 = 0)
            (zE d 227 [.ref p0] h2 (fun r18 h17 => match r18 with
                | .inl v19 => v19 = none ∧ Q (.inl none) h17
                | .inr e20 => Q (.inr e20) h17))
            (Q (.inl none) h2))
        | .inr e5 => Q (.inr e5) h2))
    (∃ x21 : Int32, zgf h p0 8 22 = some (.int x21) ∧
      zbr (x21 = 0)
      (zE d 227 [.ref p0] h (fun r23 h22 => match r23 with
          | .inl v24 => v24 = none ∧ Q (.inl none) h22
          | .inr e25 => Q (.inr e25) h22))
      (Q (.inl none) h))) : zW (zE d) zm_X8_mark Q (0, [(0, .ref p0), (1, .int p1)], [], h) := by
  refine zq_aload (pc' := 1) rfl rfl rfl rfl ?_
  obtain ⟨x1, e0, H⟩ := H
  refine zq_getI (pc' := 4) rfl rfl rfl e0 ?_
  refine zq_ifne (pc' := 7) rfl rfl rfl rfl (And.intro (fun c => ?_) (fun c => ?_))
  · have H := H.1 c
    refine zq_aload (pc' := 8) rfl rfl rfl rfl ?_
    refine zq_iload (pc' := 9) rfl rfl rfl rfl ?_
    refine zq_calli (pc' := 12) rfl rfl rfl rfl rfl rfl (zE_mono H (fun r3 h2 H => ?_))
    rcases r3 with v4 | e5
    · obtain ⟨x6, e0, H⟩ := H
      refine Exists.intro x6 (And.intro e0 ?_)
      refine zq_ifne (pc' := 15) rfl rfl rfl rfl (And.intro (fun c => ?_) (fun c => ?_))
      · have H := H.1 c
        refine zq_aload (pc' := 16) rfl rfl rfl rfl ?_
        refine zq_ipush (pc' := 17) rfl rfl rfl ?_
        refine zq_callv (pc' := 20) rfl rfl rfl rfl rfl rfl (zE_mono H (fun r8 h7 H => ?_))
        rcases r8 with v9 | e10
        · obtain ⟨e0, H⟩ := H
          refine And.intro e0 ?_
          refine zq_aload (pc' := 21) rfl rfl rfl rfl ?_
          obtain ⟨x11, e0, H⟩ := H
          refine zq_getI (pc' := 24) rfl rfl rfl e0 ?_
          refine zq_ifne (pc' := 27) rfl rfl rfl rfl (And.intro (fun c => ?_) (fun c => ?_))
          · have H := H.1 c
            refine zq_aload (pc' := 28) rfl rfl rfl rfl ?_
            refine zq_callv (pc' := 31) rfl rfl rfl rfl rfl rfl (zE_mono H (fun r13 h12 H => ?_))
            rcases r13 with v14 | e15
            · obtain ⟨e0, H⟩ := H
              refine And.intro e0 ?_
              exact zq_vret rfl H
            · exact H
          · have H := H.2 c
            exact zq_vret rfl H
        · exact H
      · have H := H.2 c
        refine zq_aload (pc' := 21) rfl rfl rfl rfl ?_
        obtain ⟨x16, e0, H⟩ := H
        refine zq_getI (pc' := 24) rfl rfl rfl e0 ?_
        refine zq_ifne (pc' := 27) rfl rfl rfl rfl (And.intro (fun c => ?_) (fun c => ?_))
        · have H := H.1 c
          refine zq_aload (pc' := 28) rfl rfl rfl rfl ?_
          refine zq_callv (pc' := 31) rfl rfl rfl rfl rfl rfl (zE_mono H (fun r18 h17 H => ?_))
          rcases r18 with v19 | e20
          · obtain ⟨e0, H⟩ := H
            refine And.intro e0 ?_
            exact zq_vret rfl H
          · exact H
        · have H := H.2 c
          exact zq_vret rfl H
    · exact H
  · have H := H.2 c
    refine zq_aload (pc' := 21) rfl rfl rfl rfl ?_
    obtain ⟨x21, e0, H⟩ := H
    refine zq_getI (pc' := 24) rfl rfl rfl e0 ?_
    refine zq_ifne (pc' := 27) rfl rfl rfl rfl (And.intro (fun c => ?_) (fun c => ?_))
    · have H := H.1 c
      refine zq_aload (pc' := 28) rfl rfl rfl rfl ?_
      refine zq_callv (pc' := 31) rfl rfl rfl rfl rfl rfl (zE_mono H (fun r23 h22 H => ?_))
      rcases r23 with v24 | e25
      · obtain ⟨e0, H⟩ := H
        refine And.intro e0 ?_
        exact zq_vret rfl H
      · exact H
    · have H := H.2 c
      exact zq_vret rfl H
theorem zr_X8_readNumber_0 {d : Nat} {Q : zR → zH → Prop} {p0 : Nat} {p1 : Int32} {p2 : Int32} {h : zH} (H :
    ∃ x1 : Int32, zgf h p0 8 22 = some (.int x1) ∧
    zbr (x1 = 0)
    (∃ x2 : Int32, zgf h p0 8 18 = some (.int x2) ∧
      zbr (x2 = 2)
      (∃ x3 : Int32, zgf h p0 8 21 = some (.int x3) ∧
        ∃ x4 : Int32, zgf h p0 8 20 = some (.int x4) ∧
        zbr (4 < (x3 - x4))
        (zE d 228 [.ref p0, .int 2] h (fun r6 h5 => match r6 with
            | .inl v7 => v7 = none ∧ zW (zE d) zm_X8_readNumber Q (59, [(0, .ref p0)], [], h5)
            | .inr e8 => Q (.inr e8) h5))
        (∃ x9 : Int32, zgf h p0 8 19 = some (.int x9) ∧
          zbr (x9 < p1)
          (zE d 228 [.ref p0, .int 2] h (fun r11 h10 => match r11 with
              | .inl v12 => v12 = none ∧ zW (zE d) zm_X8_readNumber Q (59, [(0, .ref p0)], [], h10)
              | .inr e13 => Q (.inr e13) h10))
          (∃ x14 : Int32, zgf h p0 8 19 = some (.int x14) ∧
            zbr (x14 ≤ p2)
            (zW (zE d) zm_X8_readNumber Q (59, [(0, .ref p0)], [], h))
            (zE d 228 [.ref p0, .int 2] h (fun r16 h15 => match r16 with
                | .inl v17 => v17 = none ∧ zW (zE d) zm_X8_readNumber Q (59, [(0, .ref p0)], [], h15)
                | .inr e18 => Q (.inr e18) h15)))))
      (zE d 228 [.ref p0, .int 1] h (fun r20 h19 => match r20 with
          | .inl v21 => v21 = none ∧ zW (zE d) zm_X8_readNumber Q (59, [(0, .ref p0)], [], h19)
          | .inr e22 => Q (.inr e22) h19)))
    (Q (.inl (some (.int 0))) h)) : zW (zE d) zm_X8_readNumber Q (0, [(0, .ref p0), (1, .int p1), (2, .int p2)], [], h) := by
  refine zq_aload (pc' := 1) rfl rfl rfl rfl ?_
  obtain ⟨x1, e0, H⟩ := H
  refine zq_getI (pc' := 4) rfl rfl rfl e0 ?_
  refine zq_ifeq (pc' := 7) rfl rfl rfl rfl (And.intro (fun c => ?_) (fun c => ?_))
  · have H := H.1 c
    refine zq_aload (pc' := 10) rfl rfl rfl rfl ?_
    obtain ⟨x2, e0, H⟩ := H
    refine zq_getI (pc' := 13) rfl rfl rfl e0 ?_
    refine zq_ipush (pc' := 14) rfl rfl rfl ?_
    refine zq_iceq (pc' := 17) rfl rfl rfl rfl (And.intro (fun c => ?_) (fun c => ?_))
    · have H := H.1 c
      refine zq_aload (pc' := 26) rfl rfl rfl rfl ?_
      obtain ⟨x3, e0, H⟩ := H
      refine zq_getI (pc' := 29) rfl rfl rfl e0 ?_
      refine zq_aload (pc' := 30) rfl rfl rfl rfl ?_
      obtain ⟨x4, e0, H⟩ := H
      refine zq_getI (pc' := 33) rfl rfl rfl e0 ?_
      refine zq_isub (pc' := 34) rfl rfl rfl ?_
      refine zq_ipush (pc' := 35) rfl rfl rfl ?_
      refine zq_icgt (pc' := 38) rfl rfl rfl rfl (And.intro (fun c => ?_) (fun c => ?_))
      · have H := H.1 c
        refine zq_aload (pc' := 55) rfl rfl rfl rfl ?_
        refine zq_ipush (pc' := 56) rfl rfl rfl ?_
        refine zq_callv_c (pc' := 59) rfl rfl rfl rfl rfl (zE_mono H (fun r6 h5 H => ?_))
        rcases r6 with v7 | e8
        · obtain ⟨e0, H⟩ := H
          refine And.intro e0 ?_
          exact H
        · exact H
      · have H := H.2 c
        refine zq_aload (pc' := 39) rfl rfl rfl rfl ?_
        obtain ⟨x9, e0, H⟩ := H
        refine zq_getI (pc' := 42) rfl rfl rfl e0 ?_
        refine zq_iload (pc' := 43) rfl rfl rfl rfl ?_
        refine zq_iclt (pc' := 46) rfl rfl rfl rfl (And.intro (fun c => ?_) (fun c => ?_))
        · have H := H.1 c
          refine zq_aload (pc' := 55) rfl rfl rfl rfl ?_
          refine zq_ipush (pc' := 56) rfl rfl rfl ?_
          refine zq_callv_c (pc' := 59) rfl rfl rfl rfl rfl (zE_mono H (fun r11 h10 H => ?_))
          rcases r11 with v12 | e13
          · obtain ⟨e0, H⟩ := H
            refine And.intro e0 ?_
            exact H
          · exact H
        · have H := H.2 c
          refine zq_aload (pc' := 47) rfl rfl rfl rfl ?_
          obtain ⟨x14, e0, H⟩ := H
          refine zq_getI (pc' := 50) rfl rfl rfl e0 ?_
          refine zq_iload (pc' := 51) rfl rfl rfl rfl ?_
          refine zq_icle_c (pc' := 54) (lt := [(0, .ref p0)]) (lf := [(0, .ref p0), (1, .int p1), (2, .int p2)]) rfl rfl rfl rfl (And.intro (fun c => ?_) (fun c => ?_))
          · have H := H.1 c
            exact H
          · have H := H.2 c
            refine zq_aload (pc' := 55) rfl rfl rfl rfl ?_
            refine zq_ipush (pc' := 56) rfl rfl rfl ?_
            refine zq_callv_c (pc' := 59) rfl rfl rfl rfl rfl (zE_mono H (fun r16 h15 H => ?_))
            rcases r16 with v17 | e18
            · obtain ⟨e0, H⟩ := H
              refine And.intro e0 ?_
              exact H
            · exact H
    · have H := H.2 c
      refine zq_aload (pc' := 18) rfl rfl rfl rfl ?_
      refine zq_ipush (pc' := 19) rfl rfl rfl ?_
      refine zq_callv (pc' := 22) rfl rfl rfl rfl rfl rfl (zE_mono H (fun r20 h19 H => ?_))
      rcases r20 with v21 | e22
      · obtain ⟨e0, H⟩ := H
        refine And.intro e0 ?_
        refine zq_goto_c (pc' := 59) rfl rfl ?_
        exact H
      · exact H
  · have H := H.2 c
    refine zq_ipush (pc' := 8) rfl rfl rfl ?_
    exact zq_iret rfl trivial H
theorem zr_X8_readNumber_59 {d : Nat} {Q : zR → zH → Prop} {l0 : Nat} {h : zH} (H :
    ∃ x1 : Int32, zgf h l0 8 22 = some (.int x1) ∧
    zbr (x1 = 0)
    (∃ x2 : Int32, zgf h l0 8 19 = some (.int x2) ∧
      ∃ x3 : Int32, zgf h l0 8 22 = some (.int x3) ∧
      zbr (x3 = 0)
      (zE d 227 [.ref l0] h (fun r5 h4 => match r5 with
          | .inl v6 => v6 = none ∧ Q (.inl (some (.int x2))) h4
          | .inr e7 => Q (.inr e7) h4))
      (Q (.inl (some (.int x2))) h))
    (∃ x8 : Int32, zgf h l0 8 22 = some (.int x8) ∧
      zbr (x8 = 0)
      (zE d 227 [.ref l0] h (fun r10 h9 => match r10 with
          | .inl v11 => v11 = none ∧ Q (.inl (some (.int 0))) h9
          | .inr e12 => Q (.inr e12) h9))
      (Q (.inl (some (.int 0))) h))) : zW (zE d) zm_X8_readNumber Q (59, [(0, .ref l0)], [], h) := by
  refine zq_aload (pc' := 60) rfl rfl rfl rfl ?_
  obtain ⟨x1, e0, H⟩ := H
  refine zq_getI (pc' := 63) rfl rfl rfl e0 ?_
  refine zq_ifne (pc' := 66) rfl rfl rfl rfl (And.intro (fun c => ?_) (fun c => ?_))
  · have H := H.1 c
    refine zq_aload (pc' := 67) rfl rfl rfl rfl ?_
    obtain ⟨x2, e0, H⟩ := H
    refine zq_getI (pc' := 70) rfl rfl rfl e0 ?_
    refine zq_goto (pc' := 74) rfl rfl rfl ?_
    refine zq_istore (pc' := 75) rfl rfl rfl ?_
    refine zq_aload (pc' := 76) rfl rfl rfl rfl ?_
    obtain ⟨x3, e0, H⟩ := H
    refine zq_getI (pc' := 79) rfl rfl rfl e0 ?_
    refine zq_ifne (pc' := 82) rfl rfl rfl rfl (And.intro (fun c => ?_) (fun c => ?_))
    · have H := H.1 c
      refine zq_aload (pc' := 83) rfl rfl rfl rfl ?_
      refine zq_callv (pc' := 86) rfl rfl rfl rfl rfl rfl (zE_mono H (fun r5 h4 H => ?_))
      rcases r5 with v6 | e7
      · obtain ⟨e0, H⟩ := H
        refine And.intro e0 ?_
        refine zq_iload (pc' := 87) rfl rfl rfl rfl ?_
        exact zq_iret rfl trivial H
      · exact H
    · have H := H.2 c
      refine zq_iload (pc' := 87) rfl rfl rfl rfl ?_
      exact zq_iret rfl trivial H
  · have H := H.2 c
    refine zq_ipush (pc' := 74) rfl rfl rfl ?_
    refine zq_istore (pc' := 75) rfl rfl rfl ?_
    refine zq_aload (pc' := 76) rfl rfl rfl rfl ?_
    obtain ⟨x8, e0, H⟩ := H
    refine zq_getI (pc' := 79) rfl rfl rfl e0 ?_
    refine zq_ifne (pc' := 82) rfl rfl rfl rfl (And.intro (fun c => ?_) (fun c => ?_))
    · have H := H.1 c
      refine zq_aload (pc' := 83) rfl rfl rfl rfl ?_
      refine zq_callv (pc' := 86) rfl rfl rfl rfl rfl rfl (zE_mono H (fun r10 h9 H => ?_))
      rcases r10 with v11 | e12
      · obtain ⟨e0, H⟩ := H
        refine And.intro e0 ?_
        refine zq_iload (pc' := 87) rfl rfl rfl rfl ?_
        exact zq_iret rfl trivial H
      · exact H
    · have H := H.2 c
      refine zq_iload (pc' := 87) rfl rfl rfl rfl ?_
      exact zq_iret rfl trivial H
theorem zr_X8_lay_0 {d : Nat} {Q : zR → zH → Prop} {p0 : Nat} {p1 : Int32} {h : zH} (H :
    ∃ x1 : Int32, zgf h p0 8 22 = some (.int x1) ∧
    zbr (x1 = 0)
    (∃ x2 : Int32, zgf h p0 8 25 = some (.int x2) ∧
      zbr (x2 = 0)
      (∃ x3 : Int32, zgf h p0 8 25 = some (.int x3) ∧
        zbr (x3 = 0)
        (∃ a4 : Nat, zgf h p0 8 11 = some (.ref a4) ∧
          ∃ a5 : Nat, zgf h p0 8 5 = some (.ref a5) ∧
          ∃ x6, zia h a5 (4 + 2) = some x6 ∧
          ∃ h7, zis h a4 (700 + x6) p1 = some h7 ∧
          ∃ a8 : Nat, zgf h7 p0 8 5 = some (.ref a8) ∧
          ∃ x9, zia h7 a8 (4 + 2) = some x9 ∧
          ∃ h10, zis h7 a8 (4 + 2) (x9 + 1) = some h10 ∧
          Q (.inl none) h10)
        (∃ a11 : Nat, zgf h p0 8 12 = some (.ref a11) ∧
          ∃ a12 : Nat, zgf h p0 8 5 = some (.ref a12) ∧
          ∃ x13, zia h a12 (4 + 2) = some x13 ∧
          ∃ h14, zis h a11 (700 + x13) p1 = some h14 ∧
          ∃ a15 : Nat, zgf h14 p0 8 5 = some (.ref a15) ∧
          ∃ x16, zia h14 a15 (4 + 2) = some x16 ∧
          ∃ h17, zis h14 a15 (4 + 2) (x16 + 1) = some h17 ∧
          Q (.inl none) h17))
      (∃ x18 : Int32, zgf h p0 8 25 = some (.int x18) ∧
        zbr (x18 = 0)
        (∃ a19 : Nat, zgf h p0 8 11 = some (.ref a19) ∧
          ∃ a20 : Nat, zgf h p0 8 5 = some (.ref a20) ∧
          ∃ x21, zia h a20 (4 + 3) = some x21 ∧
          ∃ h22, zis h a19 (700 + x21) p1 = some h22 ∧
          ∃ a23 : Nat, zgf h22 p0 8 5 = some (.ref a23) ∧
          ∃ x24, zia h22 a23 (4 + 3) = some x24 ∧
          ∃ h25, zis h22 a23 (4 + 3) (x24 + 1) = some h25 ∧
          Q (.inl none) h25)
        (∃ a26 : Nat, zgf h p0 8 12 = some (.ref a26) ∧
          ∃ a27 : Nat, zgf h p0 8 5 = some (.ref a27) ∧
          ∃ x28, zia h a27 (4 + 3) = some x28 ∧
          ∃ h29, zis h a26 (700 + x28) p1 = some h29 ∧
          ∃ a30 : Nat, zgf h29 p0 8 5 = some (.ref a30) ∧
          ∃ x31, zia h29 a30 (4 + 3) = some x31 ∧
          ∃ h32, zis h29 a30 (4 + 3) (x31 + 1) = some h32 ∧
          Q (.inl none) h32)))
    (Q (.inl none) h)) : zW (zE d) zm_X8_lay Q (0, [(0, .ref p0), (1, .int p1)], [], h) := by
  refine zq_aload (pc' := 1) rfl rfl rfl rfl ?_
  obtain ⟨x1, e0, H⟩ := H
  refine zq_getI (pc' := 4) rfl rfl rfl e0 ?_
  refine zq_ifeq (pc' := 7) rfl rfl rfl rfl (And.intro (fun c => ?_) (fun c => ?_))
  · have H := H.1 c
    refine zq_ipush (pc' := 9) rfl rfl rfl ?_
    refine zq_aload (pc' := 10) rfl rfl rfl rfl ?_
    obtain ⟨x2, e0, H⟩ := H
    refine zq_getI (pc' := 13) rfl rfl rfl e0 ?_
    refine zq_ifeq (pc' := 16) rfl rfl rfl rfl (And.intro (fun c => ?_) (fun c => ?_))
    · have H := H.1 c
      refine zq_ipush (pc' := 21) rfl rfl rfl ?_
      refine zq_iadd (pc' := 22) rfl rfl rfl ?_
      refine zq_istore (pc' := 23) rfl rfl rfl ?_
      refine zq_aload (pc' := 24) rfl rfl rfl rfl ?_
      obtain ⟨x3, e0, H⟩ := H
      refine zq_getI (pc' := 27) rfl rfl rfl e0 ?_
      refine zq_ifeq (pc' := 30) rfl rfl rfl rfl (And.intro (fun c => ?_) (fun c => ?_))
      · have H := H.1 c
        refine zq_aload (pc' := 38) rfl rfl rfl rfl ?_
        obtain ⟨a4, e0, H⟩ := H
        refine zq_getR (pc' := 41) rfl rfl rfl e0 ?_
        refine zq_astore (pc' := 42) rfl rfl rfl ?_
        refine zq_aload (pc' := 43) rfl rfl rfl rfl ?_
        refine zq_ipush (pc' := 46) rfl rfl rfl ?_
        refine zq_aload (pc' := 47) rfl rfl rfl rfl ?_
        obtain ⟨a5, e0, H⟩ := H
        refine zq_getR (pc' := 50) rfl rfl rfl e0 ?_
        refine zq_iload (pc' := 51) rfl rfl rfl rfl ?_
        obtain ⟨x6, e0, H⟩ := H
        refine zq_iald (pc' := 52) rfl rfl rfl e0 ?_
        refine zq_iadd (pc' := 53) rfl rfl rfl ?_
        refine zq_iload (pc' := 54) rfl rfl rfl rfl ?_
        obtain ⟨h7, e0, H⟩ := H
        refine zq_iast (pc' := 55) rfl rfl rfl e0 ?_
        refine zq_aload (pc' := 56) rfl rfl rfl rfl ?_
        obtain ⟨a8, e0, H⟩ := H
        refine zq_getR (pc' := 59) rfl rfl rfl e0 ?_
        refine zq_iload (pc' := 60) rfl rfl rfl rfl ?_
        refine zq_dup2 (pc' := 61) rfl rfl rfl rfl rfl ?_
        obtain ⟨x9, e0, H⟩ := H
        refine zq_iald (pc' := 62) rfl rfl rfl e0 ?_
        refine zq_ipush (pc' := 63) rfl rfl rfl ?_
        refine zq_iadd (pc' := 64) rfl rfl rfl ?_
        obtain ⟨h10, e0, H⟩ := H
        refine zq_iast (pc' := 65) rfl rfl rfl e0 ?_
        exact zq_vret rfl H
      · have H := H.2 c
        refine zq_aload (pc' := 31) rfl rfl rfl rfl ?_
        obtain ⟨a11, e0, H⟩ := H
        refine zq_getR (pc' := 34) rfl rfl rfl e0 ?_
        refine zq_goto (pc' := 41) rfl rfl rfl ?_
        refine zq_astore (pc' := 42) rfl rfl rfl ?_
        refine zq_aload (pc' := 43) rfl rfl rfl rfl ?_
        refine zq_ipush (pc' := 46) rfl rfl rfl ?_
        refine zq_aload (pc' := 47) rfl rfl rfl rfl ?_
        obtain ⟨a12, e0, H⟩ := H
        refine zq_getR (pc' := 50) rfl rfl rfl e0 ?_
        refine zq_iload (pc' := 51) rfl rfl rfl rfl ?_
        obtain ⟨x13, e0, H⟩ := H
        refine zq_iald (pc' := 52) rfl rfl rfl e0 ?_
        refine zq_iadd (pc' := 53) rfl rfl rfl ?_
        refine zq_iload (pc' := 54) rfl rfl rfl rfl ?_
        obtain ⟨h14, e0, H⟩ := H
        refine zq_iast (pc' := 55) rfl rfl rfl e0 ?_
        refine zq_aload (pc' := 56) rfl rfl rfl rfl ?_
        obtain ⟨a15, e0, H⟩ := H
        refine zq_getR (pc' := 59) rfl rfl rfl e0 ?_
        refine zq_iload (pc' := 60) rfl rfl rfl rfl ?_
        refine zq_dup2 (pc' := 61) rfl rfl rfl rfl rfl ?_
        obtain ⟨x16, e0, H⟩ := H
        refine zq_iald (pc' := 62) rfl rfl rfl e0 ?_
        refine zq_ipush (pc' := 63) rfl rfl rfl ?_
        refine zq_iadd (pc' := 64) rfl rfl rfl ?_
        obtain ⟨h17, e0, H⟩ := H
        refine zq_iast (pc' := 65) rfl rfl rfl e0 ?_
        exact zq_vret rfl H
    · have H := H.2 c
      refine zq_ipush (pc' := 17) rfl rfl rfl ?_
      refine zq_goto (pc' := 21) rfl rfl rfl ?_
      refine zq_iadd (pc' := 22) rfl rfl rfl ?_
      refine zq_istore (pc' := 23) rfl rfl rfl ?_
      refine zq_aload (pc' := 24) rfl rfl rfl rfl ?_
      obtain ⟨x18, e0, H⟩ := H
      refine zq_getI (pc' := 27) rfl rfl rfl e0 ?_
      refine zq_ifeq (pc' := 30) rfl rfl rfl rfl (And.intro (fun c => ?_) (fun c => ?_))
      · have H := H.1 c
        refine zq_aload (pc' := 38) rfl rfl rfl rfl ?_
        obtain ⟨a19, e0, H⟩ := H
        refine zq_getR (pc' := 41) rfl rfl rfl e0 ?_
        refine zq_astore (pc' := 42) rfl rfl rfl ?_
        refine zq_aload (pc' := 43) rfl rfl rfl rfl ?_
        refine zq_ipush (pc' := 46) rfl rfl rfl ?_
        refine zq_aload (pc' := 47) rfl rfl rfl rfl ?_
        obtain ⟨a20, e0, H⟩ := H
        refine zq_getR (pc' := 50) rfl rfl rfl e0 ?_
        refine zq_iload (pc' := 51) rfl rfl rfl rfl ?_
        obtain ⟨x21, e0, H⟩ := H
        refine zq_iald (pc' := 52) rfl rfl rfl e0 ?_
        refine zq_iadd (pc' := 53) rfl rfl rfl ?_
        refine zq_iload (pc' := 54) rfl rfl rfl rfl ?_
        obtain ⟨h22, e0, H⟩ := H
        refine zq_iast (pc' := 55) rfl rfl rfl e0 ?_
        refine zq_aload (pc' := 56) rfl rfl rfl rfl ?_
        obtain ⟨a23, e0, H⟩ := H
        refine zq_getR (pc' := 59) rfl rfl rfl e0 ?_
        refine zq_iload (pc' := 60) rfl rfl rfl rfl ?_
        refine zq_dup2 (pc' := 61) rfl rfl rfl rfl rfl ?_
        obtain ⟨x24, e0, H⟩ := H
        refine zq_iald (pc' := 62) rfl rfl rfl e0 ?_
        refine zq_ipush (pc' := 63) rfl rfl rfl ?_
        refine zq_iadd (pc' := 64) rfl rfl rfl ?_
        obtain ⟨h25, e0, H⟩ := H
        refine zq_iast (pc' := 65) rfl rfl rfl e0 ?_
        exact zq_vret rfl H
      · have H := H.2 c
        refine zq_aload (pc' := 31) rfl rfl rfl rfl ?_
        obtain ⟨a26, e0, H⟩ := H
        refine zq_getR (pc' := 34) rfl rfl rfl e0 ?_
        refine zq_goto (pc' := 41) rfl rfl rfl ?_
        refine zq_astore (pc' := 42) rfl rfl rfl ?_
        refine zq_aload (pc' := 43) rfl rfl rfl rfl ?_
        refine zq_ipush (pc' := 46) rfl rfl rfl ?_
        refine zq_aload (pc' := 47) rfl rfl rfl rfl ?_
        obtain ⟨a27, e0, H⟩ := H
        refine zq_getR (pc' := 50) rfl rfl rfl e0 ?_
        refine zq_iload (pc' := 51) rfl rfl rfl rfl ?_
        obtain ⟨x28, e0, H⟩ := H
        refine zq_iald (pc' := 52) rfl rfl rfl e0 ?_
        refine zq_iadd (pc' := 53) rfl rfl rfl ?_
        refine zq_iload (pc' := 54) rfl rfl rfl rfl ?_
        obtain ⟨h29, e0, H⟩ := H
        refine zq_iast (pc' := 55) rfl rfl rfl e0 ?_
        refine zq_aload (pc' := 56) rfl rfl rfl rfl ?_
        obtain ⟨a30, e0, H⟩ := H
        refine zq_getR (pc' := 59) rfl rfl rfl e0 ?_
        refine zq_iload (pc' := 60) rfl rfl rfl rfl ?_
        refine zq_dup2 (pc' := 61) rfl rfl rfl rfl rfl ?_
        obtain ⟨x31, e0, H⟩ := H
        refine zq_iald (pc' := 62) rfl rfl rfl e0 ?_
        refine zq_ipush (pc' := 63) rfl rfl rfl ?_
        refine zq_iadd (pc' := 64) rfl rfl rfl ?_
        obtain ⟨h32, e0, H⟩ := H
        refine zq_iast (pc' := 65) rfl rfl rfl e0 ?_
        exact zq_vret rfl H
  · have H := H.2 c
    exact zq_vret rfl H
theorem zr_X8_readPart_0 {d : Nat} {Q : zR → zH → Prop} {p0 : Nat} {p1 : Int32} {h : zH} (H :
    ∃ x1 : Int32, zgf h p0 8 22 = some (.int x1) ∧
    zbr (x1 = 0)
    (∃ x2 : Int32, zgf h p0 8 18 = some (.int x2) ∧
      zbr (x2 = 2)
      (zE d 233 [.ref p0, .int 0, .int 9999] h (fun r4 h3 => match r4 with
          | .inl v5 => ∃ x7 : Int32, v5 = some (.int x7) ∧ zE d 234 [.ref p0, .int x7] h3 (fun r9 h8 => match r9 with
              | .inl v10 => v10 = none ∧ Q (.inl none) h8
              | .inr e11 => Q (.inr e11) h8)
          | .inr e6 => Q (.inr e6) h3))
      (∃ x12 : Int32, zgf h p0 8 18 = some (.int x12) ∧
        zbr (x12 = 1)
        (∃ a13 : Nat, zgf h p0 8 3 = some (.ref a13) ∧
          zE d 230 [.ref p0, .ref a13] h (fun r15 h14 => match r15 with
            | .inl v16 => ∃ x18 : Int32, v16 = some (.int x18) ∧ zbr (x18 = (-1))
              (zE d 228 [.ref p0, .int 3] h14 (fun r20 h19 => match r20 with
                  | .inl v21 => v21 = none ∧ zE d 234 [.ref p0, .int ((-1) - x18)] h19 (fun r24 h23 => match r24 with
                      | .inl v25 => v25 = none ∧ ∃ x27 : Int32, zgf h23 p0 8 22 = some (.int x27) ∧
                        zbr (x27 = 0)
                        (zE d 227 [.ref p0] h23 (fun r29 h28 => match r29 with
                            | .inl v30 => v30 = none ∧ Q (.inl none) h28
                            | .inr e31 => Q (.inr e31) h28))
                        (Q (.inl none) h23)
                      | .inr e26 => Q (.inr e26) h23)
                  | .inr e22 => Q (.inr e22) h19))
              (zE d 234 [.ref p0, .int ((-1) - x18)] h14 (fun r33 h32 => match r33 with
                  | .inl v34 => v34 = none ∧ ∃ x36 : Int32, zgf h32 p0 8 22 = some (.int x36) ∧
                    zbr (x36 = 0)
                    (zE d 227 [.ref p0] h32 (fun r38 h37 => match r38 with
                        | .inl v39 => v39 = none ∧ Q (.inl none) h37
                        | .inr e40 => Q (.inr e40) h37))
                    (Q (.inl none) h32)
                  | .inr e35 => Q (.inr e35) h32))
            | .inr e17 => Q (.inr e17) h14))
        (zE d 232 [.ref p0, .int 40] h (fun r42 h41 => match r42 with
            | .inl v43 => v43 = none ∧ zE d 240 [.ref p0, .int (p1 + 1)] h41 (fun r46 h45 => match r46 with
                | .inl v47 => v47 = none ∧ zE d 232 [.ref p0, .int 41] h45 (fun r50 h49 => match r50 with
                    | .inl v51 => v51 = none ∧ Q (.inl none) h49
                    | .inr e52 => Q (.inr e52) h49)
                | .inr e48 => Q (.inr e48) h45)
            | .inr e44 => Q (.inr e44) h41))))
    (Q (.inl none) h)) : zW (zE d) zm_X8_readPart Q (0, [(0, .ref p0), (1, .int p1)], [], h) := by
  refine zq_aload (pc' := 1) rfl rfl rfl rfl ?_
  obtain ⟨x1, e0, H⟩ := H
  refine zq_getI (pc' := 4) rfl rfl rfl e0 ?_
  refine zq_ifeq (pc' := 7) rfl rfl rfl rfl (And.intro (fun c => ?_) (fun c => ?_))
  · have H := H.1 c
    refine zq_aload (pc' := 9) rfl rfl rfl rfl ?_
    obtain ⟨x2, e0, H⟩ := H
    refine zq_getI (pc' := 12) rfl rfl rfl e0 ?_
    refine zq_ipush (pc' := 13) rfl rfl rfl ?_
    refine zq_icne (pc' := 16) rfl rfl rfl rfl (And.intro (fun c => ?_) (fun c => ?_))
    · have H := H.1 c
      refine zq_aload (pc' := 17) rfl rfl rfl rfl ?_
      refine zq_aload (pc' := 18) rfl rfl rfl rfl ?_
      refine zq_ipush (pc' := 19) rfl rfl rfl ?_
      refine zq_ipush (pc' := 22) rfl rfl rfl ?_
      refine zq_calli (pc' := 25) rfl rfl rfl rfl rfl rfl (zE_mono H (fun r4 h3 H => ?_))
      rcases r4 with v5 | e6
      · obtain ⟨x7, e0, H⟩ := H
        refine Exists.intro x7 (And.intro e0 ?_)
        refine zq_callv (pc' := 28) rfl rfl rfl rfl rfl rfl (zE_mono H (fun r9 h8 H => ?_))
        rcases r9 with v10 | e11
        · obtain ⟨e0, H⟩ := H
          refine And.intro e0 ?_
          exact zq_vret rfl H
        · exact H
      · exact H
    · have H := H.2 c
      refine zq_aload (pc' := 30) rfl rfl rfl rfl ?_
      obtain ⟨x12, e0, H⟩ := H
      refine zq_getI (pc' := 33) rfl rfl rfl e0 ?_
      refine zq_ipush (pc' := 34) rfl rfl rfl ?_
      refine zq_icne (pc' := 37) rfl rfl rfl rfl (And.intro (fun c => ?_) (fun c => ?_))
      · have H := H.1 c
        refine zq_aload (pc' := 38) rfl rfl rfl rfl ?_
        refine zq_aload (pc' := 39) rfl rfl rfl rfl ?_
        obtain ⟨a13, e0, H⟩ := H
        refine zq_getR (pc' := 42) rfl rfl rfl e0 ?_
        refine zq_calli (pc' := 45) rfl rfl rfl rfl rfl rfl (zE_mono H (fun r15 h14 H => ?_))
        rcases r15 with v16 | e17
        · obtain ⟨x18, e0, H⟩ := H
          refine Exists.intro x18 (And.intro e0 ?_)
          refine zq_istore (pc' := 46) rfl rfl rfl ?_
          refine zq_iload (pc' := 47) rfl rfl rfl rfl ?_
          refine zq_ipushn (pc' := 48) rfl rfl rfl ?_
          refine zq_icne (pc' := 51) rfl rfl rfl rfl (And.intro (fun c => ?_) (fun c => ?_))
          · have H := H.1 c
            refine zq_aload (pc' := 52) rfl rfl rfl rfl ?_
            refine zq_ipush (pc' := 53) rfl rfl rfl ?_
            refine zq_callv (pc' := 56) rfl rfl rfl rfl rfl rfl (zE_mono H (fun r20 h19 H => ?_))
            rcases r20 with v21 | e22
            · obtain ⟨e0, H⟩ := H
              refine And.intro e0 ?_
              refine zq_aload (pc' := 57) rfl rfl rfl rfl ?_
              refine zq_ipushn (pc' := 58) rfl rfl rfl ?_
              refine zq_iload (pc' := 59) rfl rfl rfl rfl ?_
              refine zq_isub (pc' := 60) rfl rfl rfl ?_
              refine zq_callv (pc' := 63) rfl rfl rfl rfl rfl rfl (zE_mono H (fun r24 h23 H => ?_))
              rcases r24 with v25 | e26
              · obtain ⟨e0, H⟩ := H
                refine And.intro e0 ?_
                refine zq_aload (pc' := 64) rfl rfl rfl rfl ?_
                obtain ⟨x27, e0, H⟩ := H
                refine zq_getI (pc' := 67) rfl rfl rfl e0 ?_
                refine zq_ifne (pc' := 70) rfl rfl rfl rfl (And.intro (fun c => ?_) (fun c => ?_))
                · have H := H.1 c
                  refine zq_aload (pc' := 71) rfl rfl rfl rfl ?_
                  refine zq_callv (pc' := 74) rfl rfl rfl rfl rfl rfl (zE_mono H (fun r29 h28 H => ?_))
                  rcases r29 with v30 | e31
                  · obtain ⟨e0, H⟩ := H
                    refine And.intro e0 ?_
                    exact zq_vret rfl H
                  · exact H
                · have H := H.2 c
                  exact zq_vret rfl H
              · exact H
            · exact H
          · have H := H.2 c
            refine zq_aload (pc' := 57) rfl rfl rfl rfl ?_
            refine zq_ipushn (pc' := 58) rfl rfl rfl ?_
            refine zq_iload (pc' := 59) rfl rfl rfl rfl ?_
            refine zq_isub (pc' := 60) rfl rfl rfl ?_
            refine zq_callv (pc' := 63) rfl rfl rfl rfl rfl rfl (zE_mono H (fun r33 h32 H => ?_))
            rcases r33 with v34 | e35
            · obtain ⟨e0, H⟩ := H
              refine And.intro e0 ?_
              refine zq_aload (pc' := 64) rfl rfl rfl rfl ?_
              obtain ⟨x36, e0, H⟩ := H
              refine zq_getI (pc' := 67) rfl rfl rfl e0 ?_
              refine zq_ifne (pc' := 70) rfl rfl rfl rfl (And.intro (fun c => ?_) (fun c => ?_))
              · have H := H.1 c
                refine zq_aload (pc' := 71) rfl rfl rfl rfl ?_
                refine zq_callv (pc' := 74) rfl rfl rfl rfl rfl rfl (zE_mono H (fun r38 h37 H => ?_))
                rcases r38 with v39 | e40
                · obtain ⟨e0, H⟩ := H
                  refine And.intro e0 ?_
                  exact zq_vret rfl H
                · exact H
              · have H := H.2 c
                exact zq_vret rfl H
            · exact H
        · exact H
      · have H := H.2 c
        refine zq_aload (pc' := 76) rfl rfl rfl rfl ?_
        refine zq_ipush (pc' := 78) rfl rfl rfl ?_
        refine zq_callv (pc' := 81) rfl rfl rfl rfl rfl rfl (zE_mono H (fun r42 h41 H => ?_))
        rcases r42 with v43 | e44
        · obtain ⟨e0, H⟩ := H
          refine And.intro e0 ?_
          refine zq_aload (pc' := 82) rfl rfl rfl rfl ?_
          refine zq_iload (pc' := 83) rfl rfl rfl rfl ?_
          refine zq_ipush (pc' := 84) rfl rfl rfl ?_
          refine zq_iadd (pc' := 85) rfl rfl rfl ?_
          refine zq_callv (pc' := 88) rfl rfl rfl rfl rfl rfl (zE_mono H (fun r46 h45 H => ?_))
          rcases r46 with v47 | e48
          · obtain ⟨e0, H⟩ := H
            refine And.intro e0 ?_
            refine zq_aload (pc' := 89) rfl rfl rfl rfl ?_
            refine zq_ipush (pc' := 91) rfl rfl rfl ?_
            refine zq_callv (pc' := 94) rfl rfl rfl rfl rfl rfl (zE_mono H (fun r50 h49 H => ?_))
            rcases r50 with v51 | e52
            · obtain ⟨e0, H⟩ := H
              refine And.intro e0 ?_
              exact zq_vret rfl H
            · exact H
          · exact H
        · exact H
  · have H := H.2 c
    exact zq_vret rfl H
theorem zr_X8_readProduct_0 {d : Nat} {Q : zR → zH → Prop} {p0 : Nat} {p1 : Int32} {h : zH} (H :
    zE d 235 [.ref p0, .int p1] h (fun r2 h1 => match r2 with
      | .inl v3 => v3 = none ∧ zW (zE d) zm_X8_readProduct Q (5, [(0, .ref p0), (1, .int p1)], [], h1)
      | .inr e4 => Q (.inr e4) h1)) : zW (zE d) zm_X8_readProduct Q (0, [(0, .ref p0), (1, .int p1)], [], h) := by
  refine zq_aload (pc' := 1) rfl rfl rfl rfl ?_
  refine zq_iload (pc' := 2) rfl rfl rfl rfl ?_
  refine zq_callv_c (pc' := 5) rfl rfl rfl rfl rfl (zE_mono H (fun r2 h1 H => ?_))
  rcases r2 with v3 | e4
  · obtain ⟨e0, H⟩ := H
    refine And.intro e0 ?_
    exact H
  · exact H
theorem zr_X8_readProduct_5 {d : Nat} {Q : zR → zH → Prop} {l0 : Nat} {l1 : Int32} {h : zH} (H :
    zE d 231 [.ref l0, .int 42] h (fun r2 h1 => match r2 with
      | .inl v3 => ∃ x5 : Int32, v3 = some (.int x5) ∧ zbr (x5 = 0)
        (zE d 231 [.ref l0, .int 47] h1 (fun r7 h6 => match r7 with
            | .inl v8 => ∃ x10 : Int32, v8 = some (.int x10) ∧ zbr (x10 = 0)
              (Q (.inl none) h6)
              (zW (zE d) zm_X8_readProduct Q (23, [(0, .ref l0), (1, .int l1)], [], h6))
            | .inr e9 => Q (.inr e9) h6))
        (zW (zE d) zm_X8_readProduct Q (23, [(0, .ref l0), (1, .int l1)], [], h1))
      | .inr e4 => Q (.inr e4) h1)) : zW (zE d) zm_X8_readProduct Q (5, [(0, .ref l0), (1, .int l1)], [], h) := by
  refine zq_aload (pc' := 6) rfl rfl rfl rfl ?_
  refine zq_ipush (pc' := 8) rfl rfl rfl ?_
  refine zq_calli (pc' := 11) rfl rfl rfl rfl rfl rfl (zE_mono H (fun r2 h1 H => ?_))
  rcases r2 with v3 | e4
  · obtain ⟨x5, e0, H⟩ := H
    refine Exists.intro x5 (And.intro e0 ?_)
    refine zq_ifne_c (pc' := 14) (lt := [(0, .ref l0), (1, .int l1)]) (lf := [(0, .ref l0), (1, .int l1)]) rfl rfl rfl rfl (And.intro (fun c => ?_) (fun c => ?_))
    · have H := H.1 c
      refine zq_aload (pc' := 15) rfl rfl rfl rfl ?_
      refine zq_ipush (pc' := 17) rfl rfl rfl ?_
      refine zq_calli (pc' := 20) rfl rfl rfl rfl rfl rfl (zE_mono H (fun r7 h6 H => ?_))
      rcases r7 with v8 | e9
      · obtain ⟨x10, e0, H⟩ := H
        refine Exists.intro x10 (And.intro e0 ?_)
        refine zq_ifeq_c (pc' := 23) (lt := [(0, .ref l0), (1, .int l1)]) (lf := [(0, .ref l0), (1, .int l1)]) rfl rfl rfl rfl (And.intro (fun c => ?_) (fun c => ?_))
        · have H := H.1 c
          exact zq_vret rfl H
        · have H := H.2 c
          exact H
      · exact H
    · have H := H.2 c
      exact H
  · exact H
theorem zr_X8_readProduct_23 {d : Nat} {Q : zR → zH → Prop} {l0 : Nat} {l1 : Int32} {h : zH} (H :
    zE d 231 [.ref l0, .int 42] h (fun r2 h1 => match r2 with
      | .inl v3 => ∃ x5 : Int32, v3 = some (.int x5) ∧ zbr (x5 = 0)
        (zE d 227 [.ref l0] h1 (fun r7 h6 => match r7 with
            | .inl v8 => v8 = none ∧ zE d 235 [.ref l0, .int l1] h6 (fun r11 h10 => match r11 with
                | .inl v12 => v12 = none ∧ zE d 234 [.ref l0, .int (-23)] h10 (fun r15 h14 => match r15 with
                    | .inl v16 => v16 = none ∧ zW (zE d) zm_X8_readProduct Q (5, [(0, .ref l0), (1, .int l1)], [], h14)
                    | .inr e17 => Q (.inr e17) h14)
                | .inr e13 => Q (.inr e13) h10)
            | .inr e9 => Q (.inr e9) h6))
        (zE d 227 [.ref l0] h1 (fun r19 h18 => match r19 with
            | .inl v20 => v20 = none ∧ zE d 235 [.ref l0, .int l1] h18 (fun r23 h22 => match r23 with
                | .inl v24 => v24 = none ∧ zE d 234 [.ref l0, .int (-22)] h22 (fun r27 h26 => match r27 with
                    | .inl v28 => v28 = none ∧ zW (zE d) zm_X8_readProduct Q (5, [(0, .ref l0), (1, .int l1)], [], h26)
                    | .inr e29 => Q (.inr e29) h26)
                | .inr e25 => Q (.inr e25) h22)
            | .inr e21 => Q (.inr e21) h18))
      | .inr e4 => Q (.inr e4) h1)) : zW (zE d) zm_X8_readProduct Q (23, [(0, .ref l0), (1, .int l1)], [], h) := by
  refine zq_aload (pc' := 24) rfl rfl rfl rfl ?_
  refine zq_ipush (pc' := 26) rfl rfl rfl ?_
  refine zq_calli (pc' := 29) rfl rfl rfl rfl rfl rfl (zE_mono H (fun r2 h1 H => ?_))
  rcases r2 with v3 | e4
  · obtain ⟨x5, e0, H⟩ := H
    refine Exists.intro x5 (And.intro e0 ?_)
    refine zq_ifeq (pc' := 32) rfl rfl rfl rfl (And.intro (fun c => ?_) (fun c => ?_))
    · have H := H.1 c
      refine zq_ipushn (pc' := 39) rfl rfl rfl ?_
      refine zq_istore (pc' := 40) rfl rfl rfl ?_
      refine zq_aload (pc' := 41) rfl rfl rfl rfl ?_
      refine zq_callv (pc' := 44) rfl rfl rfl rfl rfl rfl (zE_mono H (fun r7 h6 H => ?_))
      rcases r7 with v8 | e9
      · obtain ⟨e0, H⟩ := H
        refine And.intro e0 ?_
        refine zq_aload (pc' := 45) rfl rfl rfl rfl ?_
        refine zq_iload (pc' := 46) rfl rfl rfl rfl ?_
        refine zq_callv (pc' := 49) rfl rfl rfl rfl rfl rfl (zE_mono H (fun r11 h10 H => ?_))
        rcases r11 with v12 | e13
        · obtain ⟨e0, H⟩ := H
          refine And.intro e0 ?_
          refine zq_aload (pc' := 50) rfl rfl rfl rfl ?_
          refine zq_iload (pc' := 51) rfl rfl rfl rfl ?_
          refine zq_callv (pc' := 54) rfl rfl rfl rfl rfl rfl (zE_mono H (fun r15 h14 H => ?_))
          rcases r15 with v16 | e17
          · obtain ⟨e0, H⟩ := H
            refine And.intro e0 ?_
            refine zq_goto_c (pc' := 5) rfl rfl ?_
            exact H
          · exact H
        · exact H
      · exact H
    · have H := H.2 c
      refine zq_ipushn (pc' := 34) rfl rfl rfl ?_
      refine zq_goto (pc' := 39) rfl rfl rfl ?_
      refine zq_istore (pc' := 40) rfl rfl rfl ?_
      refine zq_aload (pc' := 41) rfl rfl rfl rfl ?_
      refine zq_callv (pc' := 44) rfl rfl rfl rfl rfl rfl (zE_mono H (fun r19 h18 H => ?_))
      rcases r19 with v20 | e21
      · obtain ⟨e0, H⟩ := H
        refine And.intro e0 ?_
        refine zq_aload (pc' := 45) rfl rfl rfl rfl ?_
        refine zq_iload (pc' := 46) rfl rfl rfl rfl ?_
        refine zq_callv (pc' := 49) rfl rfl rfl rfl rfl rfl (zE_mono H (fun r23 h22 H => ?_))
        rcases r23 with v24 | e25
        · obtain ⟨e0, H⟩ := H
          refine And.intro e0 ?_
          refine zq_aload (pc' := 50) rfl rfl rfl rfl ?_
          refine zq_iload (pc' := 51) rfl rfl rfl rfl ?_
          refine zq_callv (pc' := 54) rfl rfl rfl rfl rfl rfl (zE_mono H (fun r27 h26 H => ?_))
          rcases r27 with v28 | e29
          · obtain ⟨e0, H⟩ := H
            refine And.intro e0 ?_
            refine zq_goto_c (pc' := 5) rfl rfl ?_
            exact H
          · exact H
        · exact H
      · exact H
  · exact H
theorem zr_X8_readSum_0 {d : Nat} {Q : zR → zH → Prop} {p0 : Nat} {p1 : Int32} {h : zH} (H :
    zE d 236 [.ref p0, .int p1] h (fun r2 h1 => match r2 with
      | .inl v3 => v3 = none ∧ zW (zE d) zm_X8_readSum Q (5, [(0, .ref p0), (1, .int p1)], [], h1)
      | .inr e4 => Q (.inr e4) h1)) : zW (zE d) zm_X8_readSum Q (0, [(0, .ref p0), (1, .int p1)], [], h) := by
  refine zq_aload (pc' := 1) rfl rfl rfl rfl ?_
  refine zq_iload (pc' := 2) rfl rfl rfl rfl ?_
  refine zq_callv_c (pc' := 5) rfl rfl rfl rfl rfl (zE_mono H (fun r2 h1 H => ?_))
  rcases r2 with v3 | e4
  · obtain ⟨e0, H⟩ := H
    refine And.intro e0 ?_
    exact H
  · exact H
theorem zr_X8_readSum_5 {d : Nat} {Q : zR → zH → Prop} {l0 : Nat} {l1 : Int32} {h : zH} (H :
    zE d 231 [.ref l0, .int 43] h (fun r2 h1 => match r2 with
      | .inl v3 => ∃ x5 : Int32, v3 = some (.int x5) ∧ zbr (x5 = 0)
        (zE d 231 [.ref l0, .int 45] h1 (fun r7 h6 => match r7 with
            | .inl v8 => ∃ x10 : Int32, v8 = some (.int x10) ∧ zbr (x10 = 0)
              (Q (.inl none) h6)
              (zW (zE d) zm_X8_readSum Q (23, [(0, .ref l0), (1, .int l1)], [], h6))
            | .inr e9 => Q (.inr e9) h6))
        (zW (zE d) zm_X8_readSum Q (23, [(0, .ref l0), (1, .int l1)], [], h1))
      | .inr e4 => Q (.inr e4) h1)) : zW (zE d) zm_X8_readSum Q (5, [(0, .ref l0), (1, .int l1)], [], h) := by
  refine zq_aload (pc' := 6) rfl rfl rfl rfl ?_
  refine zq_ipush (pc' := 8) rfl rfl rfl ?_
  refine zq_calli (pc' := 11) rfl rfl rfl rfl rfl rfl (zE_mono H (fun r2 h1 H => ?_))
  rcases r2 with v3 | e4
  · obtain ⟨x5, e0, H⟩ := H
    refine Exists.intro x5 (And.intro e0 ?_)
    refine zq_ifne_c (pc' := 14) (lt := [(0, .ref l0), (1, .int l1)]) (lf := [(0, .ref l0), (1, .int l1)]) rfl rfl rfl rfl (And.intro (fun c => ?_) (fun c => ?_))
    · have H := H.1 c
      refine zq_aload (pc' := 15) rfl rfl rfl rfl ?_
      refine zq_ipush (pc' := 17) rfl rfl rfl ?_
      refine zq_calli (pc' := 20) rfl rfl rfl rfl rfl rfl (zE_mono H (fun r7 h6 H => ?_))
      rcases r7 with v8 | e9
      · obtain ⟨x10, e0, H⟩ := H
        refine Exists.intro x10 (And.intro e0 ?_)
        refine zq_ifeq_c (pc' := 23) (lt := [(0, .ref l0), (1, .int l1)]) (lf := [(0, .ref l0), (1, .int l1)]) rfl rfl rfl rfl (And.intro (fun c => ?_) (fun c => ?_))
        · have H := H.1 c
          exact zq_vret rfl H
        · have H := H.2 c
          exact H
      · exact H
    · have H := H.2 c
      exact H
  · exact H
theorem zr_X8_readSum_23 {d : Nat} {Q : zR → zH → Prop} {l0 : Nat} {l1 : Int32} {h : zH} (H :
    zE d 231 [.ref l0, .int 43] h (fun r2 h1 => match r2 with
      | .inl v3 => ∃ x5 : Int32, v3 = some (.int x5) ∧ zbr (x5 = 0)
        (zE d 227 [.ref l0] h1 (fun r7 h6 => match r7 with
            | .inl v8 => v8 = none ∧ zE d 236 [.ref l0, .int l1] h6 (fun r11 h10 => match r11 with
                | .inl v12 => v12 = none ∧ zE d 234 [.ref l0, .int (-21)] h10 (fun r15 h14 => match r15 with
                    | .inl v16 => v16 = none ∧ zW (zE d) zm_X8_readSum Q (5, [(0, .ref l0), (1, .int l1)], [], h14)
                    | .inr e17 => Q (.inr e17) h14)
                | .inr e13 => Q (.inr e13) h10)
            | .inr e9 => Q (.inr e9) h6))
        (zE d 227 [.ref l0] h1 (fun r19 h18 => match r19 with
            | .inl v20 => v20 = none ∧ zE d 236 [.ref l0, .int l1] h18 (fun r23 h22 => match r23 with
                | .inl v24 => v24 = none ∧ zE d 234 [.ref l0, .int (-20)] h22 (fun r27 h26 => match r27 with
                    | .inl v28 => v28 = none ∧ zW (zE d) zm_X8_readSum Q (5, [(0, .ref l0), (1, .int l1)], [], h26)
                    | .inr e29 => Q (.inr e29) h26)
                | .inr e25 => Q (.inr e25) h22)
            | .inr e21 => Q (.inr e21) h18))
      | .inr e4 => Q (.inr e4) h1)) : zW (zE d) zm_X8_readSum Q (23, [(0, .ref l0), (1, .int l1)], [], h) := by
  refine zq_aload (pc' := 24) rfl rfl rfl rfl ?_
  refine zq_ipush (pc' := 26) rfl rfl rfl ?_
  refine zq_calli (pc' := 29) rfl rfl rfl rfl rfl rfl (zE_mono H (fun r2 h1 H => ?_))
  rcases r2 with v3 | e4
  · obtain ⟨x5, e0, H⟩ := H
    refine Exists.intro x5 (And.intro e0 ?_)
    refine zq_ifeq (pc' := 32) rfl rfl rfl rfl (And.intro (fun c => ?_) (fun c => ?_))
    · have H := H.1 c
      refine zq_ipushn (pc' := 39) rfl rfl rfl ?_
      refine zq_istore (pc' := 40) rfl rfl rfl ?_
      refine zq_aload (pc' := 41) rfl rfl rfl rfl ?_
      refine zq_callv (pc' := 44) rfl rfl rfl rfl rfl rfl (zE_mono H (fun r7 h6 H => ?_))
      rcases r7 with v8 | e9
      · obtain ⟨e0, H⟩ := H
        refine And.intro e0 ?_
        refine zq_aload (pc' := 45) rfl rfl rfl rfl ?_
        refine zq_iload (pc' := 46) rfl rfl rfl rfl ?_
        refine zq_callv (pc' := 49) rfl rfl rfl rfl rfl rfl (zE_mono H (fun r11 h10 H => ?_))
        rcases r11 with v12 | e13
        · obtain ⟨e0, H⟩ := H
          refine And.intro e0 ?_
          refine zq_aload (pc' := 50) rfl rfl rfl rfl ?_
          refine zq_iload (pc' := 51) rfl rfl rfl rfl ?_
          refine zq_callv (pc' := 54) rfl rfl rfl rfl rfl rfl (zE_mono H (fun r15 h14 H => ?_))
          rcases r15 with v16 | e17
          · obtain ⟨e0, H⟩ := H
            refine And.intro e0 ?_
            refine zq_goto_c (pc' := 5) rfl rfl ?_
            exact H
          · exact H
        · exact H
      · exact H
    · have H := H.2 c
      refine zq_ipushn (pc' := 34) rfl rfl rfl ?_
      refine zq_goto (pc' := 39) rfl rfl rfl ?_
      refine zq_istore (pc' := 40) rfl rfl rfl ?_
      refine zq_aload (pc' := 41) rfl rfl rfl rfl ?_
      refine zq_callv (pc' := 44) rfl rfl rfl rfl rfl rfl (zE_mono H (fun r19 h18 H => ?_))
      rcases r19 with v20 | e21
      · obtain ⟨e0, H⟩ := H
        refine And.intro e0 ?_
        refine zq_aload (pc' := 45) rfl rfl rfl rfl ?_
        refine zq_iload (pc' := 46) rfl rfl rfl rfl ?_
        refine zq_callv (pc' := 49) rfl rfl rfl rfl rfl rfl (zE_mono H (fun r23 h22 H => ?_))
        rcases r23 with v24 | e25
        · obtain ⟨e0, H⟩ := H
          refine And.intro e0 ?_
          refine zq_aload (pc' := 50) rfl rfl rfl rfl ?_
          refine zq_iload (pc' := 51) rfl rfl rfl rfl ?_
          refine zq_callv (pc' := 54) rfl rfl rfl rfl rfl rfl (zE_mono H (fun r27 h26 H => ?_))
          rcases r27 with v28 | e29
          · obtain ⟨e0, H⟩ := H
            refine And.intro e0 ?_
            refine zq_goto_c (pc' := 5) rfl rfl ?_
            exact H
          · exact H
        · exact H
      · exact H
  · exact H
theorem zr_X8_readNot_0 {d : Nat} {Q : zR → zH → Prop} {p0 : Nat} {p1 : Int32} {h : zH} (H :
    zW (zE d) zm_X8_readNot Q (2, [(0, .ref p0), (1, .int p1), (2, .int 0)], [], h)) : zW (zE d) zm_X8_readNot Q (0, [(0, .ref p0), (1, .int p1)], [], h) := by
  refine zq_ipush (pc' := 1) rfl rfl rfl ?_
  refine zq_istore_c (pc' := 2) rfl rfl ?_
  exact H
theorem zr_X8_readNot_2 {d : Nat} {Q : zR → zH → Prop} {l0 : Nat} {l1 : Int32} {l2 : Int32} {h : zH} (H :
    zE d 229 [.ref l0, .ref 46] h (fun r2 h1 => match r2 with
      | .inl v3 => ∃ x5 : Int32, v3 = some (.int x5) ∧ zbr (x5 = 0)
        (zE d 237 [.ref l0, .int l1] h1 (fun r7 h6 => match r7 with
            | .inl v8 => v8 = none ∧ zE d 231 [.ref l0, .int 60] h6 (fun r11 h10 => match r11 with
                | .inl v12 => ∃ x14 : Int32, v12 = some (.int x14) ∧ zbr (x14 = 0)
                  (zE d 231 [.ref l0, .int 61] h10 (fun r16 h15 => match r16 with
                      | .inl v17 => ∃ x19 : Int32, v17 = some (.int x19) ∧ zbr (x19 = 0)
                        (zW (zE d) zm_X8_readNot Q (96, [(0, .ref l0), (2, .int l2), (3, .int 0)], [], h15))
                        (zW (zE d) zm_X8_readNot Q (63, [(0, .ref l0), (1, .int l1), (2, .int l2)], [], h15))
                      | .inr e18 => Q (.inr e18) h15))
                  (zW (zE d) zm_X8_readNot Q (63, [(0, .ref l0), (1, .int l1), (2, .int l2)], [], h10))
                | .inr e13 => Q (.inr e13) h10)
            | .inr e9 => Q (.inr e9) h6))
        (zbr (l2 = 6)
          (zE d 228 [.ref l0, .int 2] h1 (fun r21 h20 => match r21 with
              | .inl v22 => v22 = none ∧ ∃ x24 : Int32, zgf h20 l0 8 22 = some (.int x24) ∧
                zbr (x24 = 0)
                (zE d 227 [.ref l0] h20 (fun r26 h25 => match r26 with
                    | .inl v27 => v27 = none ∧ zW (zE d) zm_X8_readNot Q (2, [(0, .ref l0), (1, .int l1), (2, .int (l2 + 1))], [], h25)
                    | .inr e28 => Q (.inr e28) h25))
                (zW (zE d) zm_X8_readNot Q (2, [(0, .ref l0), (1, .int l1), (2, .int (l2 + 1))], [], h20))
              | .inr e23 => Q (.inr e23) h20))
          (∃ x29 : Int32, zgf h1 l0 8 22 = some (.int x29) ∧
            zbr (x29 = 0)
            (zE d 227 [.ref l0] h1 (fun r31 h30 => match r31 with
                | .inl v32 => v32 = none ∧ zW (zE d) zm_X8_readNot Q (2, [(0, .ref l0), (1, .int l1), (2, .int (l2 + 1))], [], h30)
                | .inr e33 => Q (.inr e33) h30))
            (zW (zE d) zm_X8_readNot Q (2, [(0, .ref l0), (1, .int l1), (2, .int (l2 + 1))], [], h1))))
      | .inr e4 => Q (.inr e4) h1)) : zW (zE d) zm_X8_readNot Q (2, [(0, .ref l0), (1, .int l1), (2, .int l2)], [], h) := by
  refine zq_aload (pc' := 3) rfl rfl rfl rfl ?_
  refine zq_rpush (pc' := 6) rfl rfl rfl ?_
  refine zq_calli (pc' := 9) rfl rfl rfl rfl rfl rfl (zE_mono H (fun r2 h1 H => ?_))
  rcases r2 with v3 | e4
  · obtain ⟨x5, e0, H⟩ := H
    refine Exists.intro x5 (And.intro e0 ?_)
    refine zq_ifeq (pc' := 12) rfl rfl rfl rfl (And.intro (fun c => ?_) (fun c => ?_))
    · have H := H.1 c
      refine zq_aload (pc' := 41) rfl rfl rfl rfl ?_
      refine zq_iload (pc' := 42) rfl rfl rfl rfl ?_
      refine zq_callv (pc' := 45) rfl rfl rfl rfl rfl rfl (zE_mono H (fun r7 h6 H => ?_))
      rcases r7 with v8 | e9
      · obtain ⟨e0, H⟩ := H
        refine And.intro e0 ?_
        refine zq_aload (pc' := 46) rfl rfl rfl rfl ?_
        refine zq_ipush (pc' := 48) rfl rfl rfl ?_
        refine zq_calli (pc' := 51) rfl rfl rfl rfl rfl rfl (zE_mono H (fun r11 h10 H => ?_))
        rcases r11 with v12 | e13
        · obtain ⟨x14, e0, H⟩ := H
          refine Exists.intro x14 (And.intro e0 ?_)
          refine zq_ifne_c (pc' := 54) (lt := [(0, .ref l0), (1, .int l1), (2, .int l2)]) (lf := [(0, .ref l0), (1, .int l1), (2, .int l2)]) rfl rfl rfl rfl (And.intro (fun c => ?_) (fun c => ?_))
          · have H := H.1 c
            refine zq_aload (pc' := 55) rfl rfl rfl rfl ?_
            refine zq_ipush (pc' := 57) rfl rfl rfl ?_
            refine zq_calli (pc' := 60) rfl rfl rfl rfl rfl rfl (zE_mono H (fun r16 h15 H => ?_))
            rcases r16 with v17 | e18
            · obtain ⟨x19, e0, H⟩ := H
              refine Exists.intro x19 (And.intro e0 ?_)
              refine zq_ifeq_c (pc' := 63) (lt := [(0, .ref l0), (1, .int l1), (2, .int l2)]) (lf := [(0, .ref l0), (1, .int l1), (2, .int l2)]) rfl rfl rfl rfl (And.intro (fun c => ?_) (fun c => ?_))
              · have H := H.1 c
                refine zq_ipush (pc' := 95) rfl rfl rfl ?_
                refine zq_istore_c (pc' := 96) rfl rfl ?_
                exact H
              · have H := H.2 c
                exact H
            · exact H
          · have H := H.2 c
            exact H
        · exact H
      · exact H
    · have H := H.2 c
      refine zq_iload (pc' := 13) rfl rfl rfl rfl ?_
      refine zq_ipush (pc' := 15) rfl rfl rfl ?_
      refine zq_icne (pc' := 18) rfl rfl rfl rfl (And.intro (fun c => ?_) (fun c => ?_))
      · have H := H.1 c
        refine zq_aload (pc' := 19) rfl rfl rfl rfl ?_
        refine zq_ipush (pc' := 20) rfl rfl rfl ?_
        refine zq_callv (pc' := 23) rfl rfl rfl rfl rfl rfl (zE_mono H (fun r21 h20 H => ?_))
        rcases r21 with v22 | e23
        · obtain ⟨e0, H⟩ := H
          refine And.intro e0 ?_
          refine zq_iinc (pc' := 26) rfl rfl rfl rfl ?_
          refine zq_aload (pc' := 27) rfl rfl rfl rfl ?_
          obtain ⟨x24, e0, H⟩ := H
          refine zq_getI (pc' := 30) rfl rfl rfl e0 ?_
          refine zq_ifne_c (pc' := 33) (lt := [(0, .ref l0), (1, .int l1), (2, .int (l2 + 1))]) (lf := [(2, .int (l2 + 1)), (0, .ref l0), (1, .int l1)]) rfl rfl rfl rfl (And.intro (fun c => ?_) (fun c => ?_))
          · have H := H.1 c
            refine zq_aload (pc' := 34) rfl rfl rfl rfl ?_
            refine zq_callv (pc' := 37) rfl rfl rfl rfl rfl rfl (zE_mono H (fun r26 h25 H => ?_))
            rcases r26 with v27 | e28
            · obtain ⟨e0, H⟩ := H
              refine And.intro e0 ?_
              refine zq_goto_c (pc' := 2) rfl rfl ?_
              exact H
            · exact H
          · have H := H.2 c
            exact H
        · exact H
      · have H := H.2 c
        refine zq_iinc (pc' := 26) rfl rfl rfl rfl ?_
        refine zq_aload (pc' := 27) rfl rfl rfl rfl ?_
        obtain ⟨x29, e0, H⟩ := H
        refine zq_getI (pc' := 30) rfl rfl rfl e0 ?_
        refine zq_ifne_c (pc' := 33) (lt := [(0, .ref l0), (1, .int l1), (2, .int (l2 + 1))]) (lf := [(2, .int (l2 + 1)), (0, .ref l0), (1, .int l1)]) rfl rfl rfl rfl (And.intro (fun c => ?_) (fun c => ?_))
        · have H := H.1 c
          refine zq_aload (pc' := 34) rfl rfl rfl rfl ?_
          refine zq_callv (pc' := 37) rfl rfl rfl rfl rfl rfl (zE_mono H (fun r31 h30 H => ?_))
          rcases r31 with v32 | e33
          · obtain ⟨e0, H⟩ := H
            refine And.intro e0 ?_
            refine zq_goto_c (pc' := 2) rfl rfl ?_
            exact H
          · exact H
        · have H := H.2 c
          exact H
  · exact H
theorem zr_X8_readNot_63 {d : Nat} {Q : zR → zH → Prop} {l0 : Nat} {l1 : Int32} {l2 : Int32} {h : zH} (H :
    zE d 231 [.ref l0, .int 60] h (fun r2 h1 => match r2 with
      | .inl v3 => ∃ x5 : Int32, v3 = some (.int x5) ∧ zbr (x5 = 0)
        (zE d 227 [.ref l0] h1 (fun r7 h6 => match r7 with
            | .inl v8 => v8 = none ∧ zE d 237 [.ref l0, .int l1] h6 (fun r11 h10 => match r11 with
                | .inl v12 => v12 = none ∧ zE d 234 [.ref l0, .int (-25)] h10 (fun r15 h14 => match r15 with
                    | .inl v16 => v16 = none ∧ zW (zE d) zm_X8_readNot Q (96, [(0, .ref l0), (2, .int l2), (3, .int 0)], [], h14)
                    | .inr e17 => Q (.inr e17) h14)
                | .inr e13 => Q (.inr e13) h10)
            | .inr e9 => Q (.inr e9) h6))
        (zE d 227 [.ref l0] h1 (fun r19 h18 => match r19 with
            | .inl v20 => v20 = none ∧ zE d 237 [.ref l0, .int l1] h18 (fun r23 h22 => match r23 with
                | .inl v24 => v24 = none ∧ zE d 234 [.ref l0, .int (-24)] h22 (fun r27 h26 => match r27 with
                    | .inl v28 => v28 = none ∧ zW (zE d) zm_X8_readNot Q (96, [(0, .ref l0), (2, .int l2), (3, .int 0)], [], h26)
                    | .inr e29 => Q (.inr e29) h26)
                | .inr e25 => Q (.inr e25) h22)
            | .inr e21 => Q (.inr e21) h18))
      | .inr e4 => Q (.inr e4) h1)) : zW (zE d) zm_X8_readNot Q (63, [(0, .ref l0), (1, .int l1), (2, .int l2)], [], h) := by
  refine zq_aload (pc' := 64) rfl rfl rfl rfl ?_
  refine zq_ipush (pc' := 66) rfl rfl rfl ?_
  refine zq_calli (pc' := 69) rfl rfl rfl rfl rfl rfl (zE_mono H (fun r2 h1 H => ?_))
  rcases r2 with v3 | e4
  · obtain ⟨x5, e0, H⟩ := H
    refine Exists.intro x5 (And.intro e0 ?_)
    refine zq_ifeq (pc' := 72) rfl rfl rfl rfl (And.intro (fun c => ?_) (fun c => ?_))
    · have H := H.1 c
      refine zq_ipushn (pc' := 79) rfl rfl rfl ?_
      refine zq_istore (pc' := 80) rfl rfl rfl ?_
      refine zq_aload (pc' := 81) rfl rfl rfl rfl ?_
      refine zq_callv (pc' := 84) rfl rfl rfl rfl rfl rfl (zE_mono H (fun r7 h6 H => ?_))
      rcases r7 with v8 | e9
      · obtain ⟨e0, H⟩ := H
        refine And.intro e0 ?_
        refine zq_aload (pc' := 85) rfl rfl rfl rfl ?_
        refine zq_iload (pc' := 86) rfl rfl rfl rfl ?_
        refine zq_callv (pc' := 89) rfl rfl rfl rfl rfl rfl (zE_mono H (fun r11 h10 H => ?_))
        rcases r11 with v12 | e13
        · obtain ⟨e0, H⟩ := H
          refine And.intro e0 ?_
          refine zq_aload (pc' := 90) rfl rfl rfl rfl ?_
          refine zq_iload (pc' := 91) rfl rfl rfl rfl ?_
          refine zq_callv (pc' := 94) rfl rfl rfl rfl rfl rfl (zE_mono H (fun r15 h14 H => ?_))
          rcases r15 with v16 | e17
          · obtain ⟨e0, H⟩ := H
            refine And.intro e0 ?_
            refine zq_ipush (pc' := 95) rfl rfl rfl ?_
            refine zq_istore_c (pc' := 96) rfl rfl ?_
            exact H
          · exact H
        · exact H
      · exact H
    · have H := H.2 c
      refine zq_ipushn (pc' := 74) rfl rfl rfl ?_
      refine zq_goto (pc' := 79) rfl rfl rfl ?_
      refine zq_istore (pc' := 80) rfl rfl rfl ?_
      refine zq_aload (pc' := 81) rfl rfl rfl rfl ?_
      refine zq_callv (pc' := 84) rfl rfl rfl rfl rfl rfl (zE_mono H (fun r19 h18 H => ?_))
      rcases r19 with v20 | e21
      · obtain ⟨e0, H⟩ := H
        refine And.intro e0 ?_
        refine zq_aload (pc' := 85) rfl rfl rfl rfl ?_
        refine zq_iload (pc' := 86) rfl rfl rfl rfl ?_
        refine zq_callv (pc' := 89) rfl rfl rfl rfl rfl rfl (zE_mono H (fun r23 h22 H => ?_))
        rcases r23 with v24 | e25
        · obtain ⟨e0, H⟩ := H
          refine And.intro e0 ?_
          refine zq_aload (pc' := 90) rfl rfl rfl rfl ?_
          refine zq_iload (pc' := 91) rfl rfl rfl rfl ?_
          refine zq_callv (pc' := 94) rfl rfl rfl rfl rfl rfl (zE_mono H (fun r27 h26 H => ?_))
          rcases r27 with v28 | e29
          · obtain ⟨e0, H⟩ := H
            refine And.intro e0 ?_
            refine zq_ipush (pc' := 95) rfl rfl rfl ?_
            refine zq_istore_c (pc' := 96) rfl rfl ?_
            exact H
          · exact H
        · exact H
      · exact H
  · exact H
theorem zr_X8_readNot_96 {d : Nat} {Q : zR → zH → Prop} {l0 : Nat} {l2 : Int32} {l3 : Int32} {h : zH} (H :
    zbr (l2 ≤ l3)
    (Q (.inl none) h)
    (zE d 234 [.ref l0, .int (-28)] h (fun r2 h1 => match r2 with
        | .inl v3 => v3 = none ∧ zW (zE d) zm_X8_readNot Q (96, [(0, .ref l0), (2, .int l2), (3, .int (l3 + 1))], [], h1)
        | .inr e4 => Q (.inr e4) h1))) : zW (zE d) zm_X8_readNot Q (96, [(0, .ref l0), (2, .int l2), (3, .int l3)], [], h) := by
  refine zq_iload (pc' := 97) rfl rfl rfl rfl ?_
  refine zq_iload (pc' := 98) rfl rfl rfl rfl ?_
  refine zq_icge (pc' := 101) rfl rfl rfl rfl (And.intro (fun c => ?_) (fun c => ?_))
  · have H := H.1 c
    exact zq_vret rfl H
  · have H := H.2 c
    refine zq_aload (pc' := 102) rfl rfl rfl rfl ?_
    refine zq_ipushn (pc' := 104) rfl rfl rfl ?_
    refine zq_callv (pc' := 107) rfl rfl rfl rfl rfl rfl (zE_mono H (fun r2 h1 H => ?_))
    rcases r2 with v3 | e4
    · obtain ⟨e0, H⟩ := H
      refine And.intro e0 ?_
      refine zq_iinc (pc' := 110) rfl rfl rfl rfl ?_
      refine zq_goto_c (pc' := 96) rfl rfl ?_
      exact H
    · exact H
theorem zr_X8_readAnd_0 {d : Nat} {Q : zR → zH → Prop} {p0 : Nat} {p1 : Int32} {h : zH} (H :
    zE d 238 [.ref p0, .int p1] h (fun r2 h1 => match r2 with
      | .inl v3 => v3 = none ∧ zW (zE d) zm_X8_readAnd Q (5, [(0, .ref p0), (1, .int p1)], [], h1)
      | .inr e4 => Q (.inr e4) h1)) : zW (zE d) zm_X8_readAnd Q (0, [(0, .ref p0), (1, .int p1)], [], h) := by
  refine zq_aload (pc' := 1) rfl rfl rfl rfl ?_
  refine zq_iload (pc' := 2) rfl rfl rfl rfl ?_
  refine zq_callv_c (pc' := 5) rfl rfl rfl rfl rfl (zE_mono H (fun r2 h1 H => ?_))
  rcases r2 with v3 | e4
  · obtain ⟨e0, H⟩ := H
    refine And.intro e0 ?_
    exact H
  · exact H
theorem zr_X8_readAnd_5 {d : Nat} {Q : zR → zH → Prop} {l0 : Nat} {l1 : Int32} {h : zH} (H :
    zE d 229 [.ref l0, .ref 48] h (fun r2 h1 => match r2 with
      | .inl v3 => ∃ x5 : Int32, v3 = some (.int x5) ∧ zbr (x5 = 0)
        (Q (.inl none) h1)
        (zE d 227 [.ref l0] h1 (fun r7 h6 => match r7 with
            | .inl v8 => v8 = none ∧ zE d 238 [.ref l0, .int l1] h6 (fun r11 h10 => match r11 with
                | .inl v12 => v12 = none ∧ zE d 234 [.ref l0, .int (-26)] h10 (fun r15 h14 => match r15 with
                    | .inl v16 => v16 = none ∧ zW (zE d) zm_X8_readAnd Q (5, [(0, .ref l0), (1, .int l1)], [], h14)
                    | .inr e17 => Q (.inr e17) h14)
                | .inr e13 => Q (.inr e13) h10)
            | .inr e9 => Q (.inr e9) h6))
      | .inr e4 => Q (.inr e4) h1)) : zW (zE d) zm_X8_readAnd Q (5, [(0, .ref l0), (1, .int l1)], [], h) := by
  refine zq_aload (pc' := 6) rfl rfl rfl rfl ?_
  refine zq_rpush (pc' := 9) rfl rfl rfl ?_
  refine zq_calli (pc' := 12) rfl rfl rfl rfl rfl rfl (zE_mono H (fun r2 h1 H => ?_))
  rcases r2 with v3 | e4
  · obtain ⟨x5, e0, H⟩ := H
    refine Exists.intro x5 (And.intro e0 ?_)
    refine zq_ifeq (pc' := 15) rfl rfl rfl rfl (And.intro (fun c => ?_) (fun c => ?_))
    · have H := H.1 c
      exact zq_vret rfl H
    · have H := H.2 c
      refine zq_aload (pc' := 16) rfl rfl rfl rfl ?_
      refine zq_callv (pc' := 19) rfl rfl rfl rfl rfl rfl (zE_mono H (fun r7 h6 H => ?_))
      rcases r7 with v8 | e9
      · obtain ⟨e0, H⟩ := H
        refine And.intro e0 ?_
        refine zq_aload (pc' := 20) rfl rfl rfl rfl ?_
        refine zq_iload (pc' := 21) rfl rfl rfl rfl ?_
        refine zq_callv (pc' := 24) rfl rfl rfl rfl rfl rfl (zE_mono H (fun r11 h10 H => ?_))
        rcases r11 with v12 | e13
        · obtain ⟨e0, H⟩ := H
          refine And.intro e0 ?_
          refine zq_aload (pc' := 25) rfl rfl rfl rfl ?_
          refine zq_ipushn (pc' := 27) rfl rfl rfl ?_
          refine zq_callv (pc' := 30) rfl rfl rfl rfl rfl rfl (zE_mono H (fun r15 h14 H => ?_))
          rcases r15 with v16 | e17
          · obtain ⟨e0, H⟩ := H
            refine And.intro e0 ?_
            refine zq_goto_c (pc' := 5) rfl rfl ?_
            exact H
          · exact H
        · exact H
      · exact H
  · exact H
theorem zr_X8_readExpression_0 {d : Nat} {Q : zR → zH → Prop} {p0 : Nat} {p1 : Int32} {h : zH} (H :
    ∃ x1 : Int32, zgf h p0 8 22 = some (.int x1) ∧
    zbr (x1 = 0)
    (∃ x2 : Int32, zgf h p0 8 18 = some (.int x2) ∧
      zbr (x2 = 2)
      (zW (zE d) zm_X8_readExpression Q (33, [(0, .ref p0), (1, .int p1)], [], h))
      (∃ x3 : Int32, zgf h p0 8 18 = some (.int x3) ∧
        zbr (x3 = 1)
        (zW (zE d) zm_X8_readExpression Q (33, [(0, .ref p0), (1, .int p1)], [], h))
        (zE d 231 [.ref p0, .int 40] h (fun r5 h4 => match r5 with
            | .inl v6 => ∃ x8 : Int32, v6 = some (.int x8) ∧ zbr (x8 = 0)
              (zbr ((0 : Int32) = 0)
                (zE d 228 [.ref p0, .int 1] h4 (fun r10 h9 => match r10 with
                    | .inl v11 => v11 = none ∧ zE d 239 [.ref p0, .int p1] h9 (fun r14 h13 => match r14 with
                        | .inl v15 => v15 = none ∧ zW (zE d) zm_X8_readExpression Q (67, [(0, .ref p0), (1, .int p1)], [], h13)
                        | .inr e16 => Q (.inr e16) h13)
                    | .inr e12 => Q (.inr e12) h9))
                (zbr (p1 = 6)
                  (zE d 228 [.ref p0, .int 2] h4 (fun r18 h17 => match r18 with
                      | .inl v19 => v19 = none ∧ zE d 239 [.ref p0, .int p1] h17 (fun r22 h21 => match r22 with
                          | .inl v23 => v23 = none ∧ zW (zE d) zm_X8_readExpression Q (67, [(0, .ref p0), (1, .int p1)], [], h21)
                          | .inr e24 => Q (.inr e24) h21)
                      | .inr e20 => Q (.inr e20) h17))
                  (zE d 239 [.ref p0, .int p1] h4 (fun r26 h25 => match r26 with
                      | .inl v27 => v27 = none ∧ zW (zE d) zm_X8_readExpression Q (67, [(0, .ref p0), (1, .int p1)], [], h25)
                      | .inr e28 => Q (.inr e28) h25))))
              (zW (zE d) zm_X8_readExpression Q (33, [(0, .ref p0), (1, .int p1)], [], h4))
            | .inr e7 => Q (.inr e7) h4))))
    (Q (.inl none) h)) : zW (zE d) zm_X8_readExpression Q (0, [(0, .ref p0), (1, .int p1)], [], h) := by
  refine zq_aload (pc' := 1) rfl rfl rfl rfl ?_
  obtain ⟨x1, e0, H⟩ := H
  refine zq_getI (pc' := 4) rfl rfl rfl e0 ?_
  refine zq_ifeq (pc' := 7) rfl rfl rfl rfl (And.intro (fun c => ?_) (fun c => ?_))
  · have H := H.1 c
    refine zq_aload (pc' := 9) rfl rfl rfl rfl ?_
    obtain ⟨x2, e0, H⟩ := H
    refine zq_getI (pc' := 12) rfl rfl rfl e0 ?_
    refine zq_ipush (pc' := 13) rfl rfl rfl ?_
    refine zq_iceq_c (pc' := 16) (lt := [(0, .ref p0), (1, .int p1)]) (lf := [(0, .ref p0), (1, .int p1)]) rfl rfl rfl rfl (And.intro (fun c => ?_) (fun c => ?_))
    · have H := H.1 c
      exact H
    · have H := H.2 c
      refine zq_aload (pc' := 17) rfl rfl rfl rfl ?_
      obtain ⟨x3, e0, H⟩ := H
      refine zq_getI (pc' := 20) rfl rfl rfl e0 ?_
      refine zq_ipush (pc' := 21) rfl rfl rfl ?_
      refine zq_iceq_c (pc' := 24) (lt := [(0, .ref p0), (1, .int p1)]) (lf := [(0, .ref p0), (1, .int p1)]) rfl rfl rfl rfl (And.intro (fun c => ?_) (fun c => ?_))
      · have H := H.1 c
        exact H
      · have H := H.2 c
        refine zq_aload (pc' := 25) rfl rfl rfl rfl ?_
        refine zq_ipush (pc' := 27) rfl rfl rfl ?_
        refine zq_calli (pc' := 30) rfl rfl rfl rfl rfl rfl (zE_mono H (fun r5 h4 H => ?_))
        rcases r5 with v6 | e7
        · obtain ⟨x8, e0, H⟩ := H
          refine Exists.intro x8 (And.intro e0 ?_)
          refine zq_ifeq_c (pc' := 33) (lt := [(0, .ref p0), (1, .int p1)]) (lf := [(0, .ref p0), (1, .int p1)]) rfl rfl rfl rfl (And.intro (fun c => ?_) (fun c => ?_))
          · have H := H.1 c
            refine zq_ipush (pc' := 38) rfl rfl rfl ?_
            refine zq_istore (pc' := 39) rfl rfl rfl ?_
            refine zq_iload (pc' := 40) rfl rfl rfl rfl ?_
            refine zq_ifne (pc' := 43) rfl rfl rfl rfl (And.intro (fun c => ?_) (fun c => ?_))
            · have H := H.1 c
              refine zq_aload (pc' := 44) rfl rfl rfl rfl ?_
              refine zq_ipush (pc' := 45) rfl rfl rfl ?_
              refine zq_callv (pc' := 48) rfl rfl rfl rfl rfl rfl (zE_mono H (fun r10 h9 H => ?_))
              rcases r10 with v11 | e12
              · obtain ⟨e0, H⟩ := H
                refine And.intro e0 ?_
                refine zq_goto (pc' := 62) rfl rfl rfl ?_
                refine zq_aload (pc' := 63) rfl rfl rfl rfl ?_
                refine zq_iload (pc' := 64) rfl rfl rfl rfl ?_
                refine zq_callv_c (pc' := 67) rfl rfl rfl rfl rfl (zE_mono H (fun r14 h13 H => ?_))
                rcases r14 with v15 | e16
                · obtain ⟨e0, H⟩ := H
                  refine And.intro e0 ?_
                  exact H
                · exact H
              · exact H
            · have H := H.2 c
              refine zq_iload (pc' := 52) rfl rfl rfl rfl ?_
              refine zq_ipush (pc' := 54) rfl rfl rfl ?_
              refine zq_icne (pc' := 57) rfl rfl rfl rfl (And.intro (fun c => ?_) (fun c => ?_))
              · have H := H.1 c
                refine zq_aload (pc' := 58) rfl rfl rfl rfl ?_
                refine zq_ipush (pc' := 59) rfl rfl rfl ?_
                refine zq_callv (pc' := 62) rfl rfl rfl rfl rfl rfl (zE_mono H (fun r18 h17 H => ?_))
                rcases r18 with v19 | e20
                · obtain ⟨e0, H⟩ := H
                  refine And.intro e0 ?_
                  refine zq_aload (pc' := 63) rfl rfl rfl rfl ?_
                  refine zq_iload (pc' := 64) rfl rfl rfl rfl ?_
                  refine zq_callv_c (pc' := 67) rfl rfl rfl rfl rfl (zE_mono H (fun r22 h21 H => ?_))
                  rcases r22 with v23 | e24
                  · obtain ⟨e0, H⟩ := H
                    refine And.intro e0 ?_
                    exact H
                  · exact H
                · exact H
              · have H := H.2 c
                refine zq_aload (pc' := 63) rfl rfl rfl rfl ?_
                refine zq_iload (pc' := 64) rfl rfl rfl rfl ?_
                refine zq_callv_c (pc' := 67) rfl rfl rfl rfl rfl (zE_mono H (fun r26 h25 H => ?_))
                rcases r26 with v27 | e28
                · obtain ⟨e0, H⟩ := H
                  refine And.intro e0 ?_
                  exact H
                · exact H
          · have H := H.2 c
            exact H
        · exact H
  · have H := H.2 c
    exact zq_vret rfl H
theorem zr_X8_readExpression_33 {d : Nat} {Q : zR → zH → Prop} {l0 : Nat} {l1 : Int32} {h : zH} (H :
    zbr ((1 : Int32) = 0)
    (zE d 228 [.ref l0, .int 1] h (fun r2 h1 => match r2 with
        | .inl v3 => v3 = none ∧ zE d 239 [.ref l0, .int l1] h1 (fun r6 h5 => match r6 with
            | .inl v7 => v7 = none ∧ zW (zE d) zm_X8_readExpression Q (67, [(0, .ref l0), (1, .int l1)], [], h5)
            | .inr e8 => Q (.inr e8) h5)
        | .inr e4 => Q (.inr e4) h1))
    (zbr (l1 = 6)
      (zE d 228 [.ref l0, .int 2] h (fun r10 h9 => match r10 with
          | .inl v11 => v11 = none ∧ zE d 239 [.ref l0, .int l1] h9 (fun r14 h13 => match r14 with
              | .inl v15 => v15 = none ∧ zW (zE d) zm_X8_readExpression Q (67, [(0, .ref l0), (1, .int l1)], [], h13)
              | .inr e16 => Q (.inr e16) h13)
          | .inr e12 => Q (.inr e12) h9))
      (zE d 239 [.ref l0, .int l1] h (fun r18 h17 => match r18 with
          | .inl v19 => v19 = none ∧ zW (zE d) zm_X8_readExpression Q (67, [(0, .ref l0), (1, .int l1)], [], h17)
          | .inr e20 => Q (.inr e20) h17)))) : zW (zE d) zm_X8_readExpression Q (33, [(0, .ref l0), (1, .int l1)], [], h) := by
  refine zq_ipush (pc' := 34) rfl rfl rfl ?_
  refine zq_goto (pc' := 38) rfl rfl rfl ?_
  refine zq_istore (pc' := 39) rfl rfl rfl ?_
  refine zq_iload (pc' := 40) rfl rfl rfl rfl ?_
  refine zq_ifne (pc' := 43) rfl rfl rfl rfl (And.intro (fun c => ?_) (fun c => ?_))
  · have H := H.1 c
    refine zq_aload (pc' := 44) rfl rfl rfl rfl ?_
    refine zq_ipush (pc' := 45) rfl rfl rfl ?_
    refine zq_callv (pc' := 48) rfl rfl rfl rfl rfl rfl (zE_mono H (fun r2 h1 H => ?_))
    rcases r2 with v3 | e4
    · obtain ⟨e0, H⟩ := H
      refine And.intro e0 ?_
      refine zq_goto (pc' := 62) rfl rfl rfl ?_
      refine zq_aload (pc' := 63) rfl rfl rfl rfl ?_
      refine zq_iload (pc' := 64) rfl rfl rfl rfl ?_
      refine zq_callv_c (pc' := 67) rfl rfl rfl rfl rfl (zE_mono H (fun r6 h5 H => ?_))
      rcases r6 with v7 | e8
      · obtain ⟨e0, H⟩ := H
        refine And.intro e0 ?_
        exact H
      · exact H
    · exact H
  · have H := H.2 c
    refine zq_iload (pc' := 52) rfl rfl rfl rfl ?_
    refine zq_ipush (pc' := 54) rfl rfl rfl ?_
    refine zq_icne (pc' := 57) rfl rfl rfl rfl (And.intro (fun c => ?_) (fun c => ?_))
    · have H := H.1 c
      refine zq_aload (pc' := 58) rfl rfl rfl rfl ?_
      refine zq_ipush (pc' := 59) rfl rfl rfl ?_
      refine zq_callv (pc' := 62) rfl rfl rfl rfl rfl rfl (zE_mono H (fun r10 h9 H => ?_))
      rcases r10 with v11 | e12
      · obtain ⟨e0, H⟩ := H
        refine And.intro e0 ?_
        refine zq_aload (pc' := 63) rfl rfl rfl rfl ?_
        refine zq_iload (pc' := 64) rfl rfl rfl rfl ?_
        refine zq_callv_c (pc' := 67) rfl rfl rfl rfl rfl (zE_mono H (fun r14 h13 H => ?_))
        rcases r14 with v15 | e16
        · obtain ⟨e0, H⟩ := H
          refine And.intro e0 ?_
          exact H
        · exact H
      · exact H
    · have H := H.2 c
      refine zq_aload (pc' := 63) rfl rfl rfl rfl ?_
      refine zq_iload (pc' := 64) rfl rfl rfl rfl ?_
      refine zq_callv_c (pc' := 67) rfl rfl rfl rfl rfl (zE_mono H (fun r18 h17 H => ?_))
      rcases r18 with v19 | e20
      · obtain ⟨e0, H⟩ := H
        refine And.intro e0 ?_
        exact H
      · exact H
theorem zr_X8_readExpression_67 {d : Nat} {Q : zR → zH → Prop} {l0 : Nat} {l1 : Int32} {h : zH} (H :
    zE d 229 [.ref l0, .ref 50] h (fun r2 h1 => match r2 with
      | .inl v3 => ∃ x5 : Int32, v3 = some (.int x5) ∧ zbr (x5 = 0)
        (Q (.inl none) h1)
        (zE d 227 [.ref l0] h1 (fun r7 h6 => match r7 with
            | .inl v8 => v8 = none ∧ zE d 239 [.ref l0, .int l1] h6 (fun r11 h10 => match r11 with
                | .inl v12 => v12 = none ∧ zE d 234 [.ref l0, .int (-27)] h10 (fun r15 h14 => match r15 with
                    | .inl v16 => v16 = none ∧ zW (zE d) zm_X8_readExpression Q (67, [(0, .ref l0), (1, .int l1)], [], h14)
                    | .inr e17 => Q (.inr e17) h14)
                | .inr e13 => Q (.inr e13) h10)
            | .inr e9 => Q (.inr e9) h6))
      | .inr e4 => Q (.inr e4) h1)) : zW (zE d) zm_X8_readExpression Q (67, [(0, .ref l0), (1, .int l1)], [], h) := by
  refine zq_aload (pc' := 68) rfl rfl rfl rfl ?_
  refine zq_rpush (pc' := 71) rfl rfl rfl ?_
  refine zq_calli (pc' := 74) rfl rfl rfl rfl rfl rfl (zE_mono H (fun r2 h1 H => ?_))
  rcases r2 with v3 | e4
  · obtain ⟨x5, e0, H⟩ := H
    refine Exists.intro x5 (And.intro e0 ?_)
    refine zq_ifeq (pc' := 77) rfl rfl rfl rfl (And.intro (fun c => ?_) (fun c => ?_))
    · have H := H.1 c
      exact zq_vret rfl H
    · have H := H.2 c
      refine zq_aload (pc' := 78) rfl rfl rfl rfl ?_
      refine zq_callv (pc' := 81) rfl rfl rfl rfl rfl rfl (zE_mono H (fun r7 h6 H => ?_))
      rcases r7 with v8 | e9
      · obtain ⟨e0, H⟩ := H
        refine And.intro e0 ?_
        refine zq_aload (pc' := 82) rfl rfl rfl rfl ?_
        refine zq_iload (pc' := 83) rfl rfl rfl rfl ?_
        refine zq_callv (pc' := 86) rfl rfl rfl rfl rfl rfl (zE_mono H (fun r11 h10 H => ?_))
        rcases r11 with v12 | e13
        · obtain ⟨e0, H⟩ := H
          refine And.intro e0 ?_
          refine zq_aload (pc' := 87) rfl rfl rfl rfl ?_
          refine zq_ipushn (pc' := 89) rfl rfl rfl ?_
          refine zq_callv (pc' := 92) rfl rfl rfl rfl rfl rfl (zE_mono H (fun r15 h14 H => ?_))
          rcases r15 with v16 | e17
          · obtain ⟨e0, H⟩ := H
            refine And.intro e0 ?_
            refine zq_goto_c (pc' := 67) rfl rfl ?_
            exact H
          · exact H
        · exact H
      · exact H
  · exact H
theorem zr_X8_sayZip_0 {d : Nat} {Q : zR → zH → Prop} {p0 : Nat} {p1 : Int32} {h : zH} (H :
    ∃ a1 : Nat, zgf h p0 8 5 = some (.ref a1) ∧
    ∃ x2, zia h a1 4 = some x2 ∧
    zbr (x2 = 4)
    (zE d 228 [.ref p0, .int 2] h (fun r4 h3 => match r4 with
        | .inl v5 => v5 = none ∧ zW (zE d) zm_X8_sayZip Q (15, [(0, .ref p0), (1, .int p1)], [], h3)
        | .inr e6 => Q (.inr e6) h3))
    (zW (zE d) zm_X8_sayZip Q (15, [(0, .ref p0), (1, .int p1)], [], h))) : zW (zE d) zm_X8_sayZip Q (0, [(0, .ref p0), (1, .int p1)], [], h) := by
  refine zq_aload (pc' := 1) rfl rfl rfl rfl ?_
  obtain ⟨a1, e0, H⟩ := H
  refine zq_getR (pc' := 4) rfl rfl rfl e0 ?_
  refine zq_ipush (pc' := 5) rfl rfl rfl ?_
  obtain ⟨x2, e0, H⟩ := H
  refine zq_iald (pc' := 6) rfl rfl rfl e0 ?_
  refine zq_ipush (pc' := 7) rfl rfl rfl ?_
  refine zq_icne_c (pc' := 10) (lt := [(0, .ref p0), (1, .int p1)]) (lf := [(0, .ref p0), (1, .int p1)]) rfl rfl rfl rfl (And.intro (fun c => ?_) (fun c => ?_))
  · have H := H.1 c
    refine zq_aload (pc' := 11) rfl rfl rfl rfl ?_
    refine zq_ipush (pc' := 12) rfl rfl rfl ?_
    refine zq_callv_c (pc' := 15) rfl rfl rfl rfl rfl (zE_mono H (fun r4 h3 H => ?_))
    rcases r4 with v5 | e6
    · obtain ⟨e0, H⟩ := H
      refine And.intro e0 ?_
      exact H
    · exact H
  · have H := H.2 c
    exact H
theorem zr_X8_sayZip_15 {d : Nat} {Q : zR → zH → Prop} {l0 : Nat} {l1 : Int32} {h : zH} (H :
    ∃ x1 : Int32, zgf h l0 8 22 = some (.int x1) ∧
    zbr (x1 = 0)
    (zE d 227 [.ref l0] h (fun r3 h2 => match r3 with
        | .inl v4 => v4 = none ∧ ∃ a6 : Nat, zgf h2 l0 8 5 = some (.ref a6) ∧
          ∃ x7, zia h2 a6 4 = some x7 ∧
          ∃ a8 : Nat, zgf h2 l0 8 6 = some (.ref a8) ∧
          ∃ h9, zis h2 a8 (4 + x7) l1 = some h9 ∧
          ∃ x10 : Int32, zgf h9 l0 8 18 = some (.int x10) ∧
          zbr (x10 = 2)
          (zW (zE d) zm_X8_sayZip Q (58, [(0, .ref l0), (2, .int (4 + x7)), (3, .int 0)], [], h9))
          (zE d 228 [.ref l0, .int 1] h9 (fun r12 h11 => match r12 with
              | .inl v13 => v13 = none ∧ zW (zE d) zm_X8_sayZip Q (58, [(0, .ref l0), (2, .int (4 + x7)), (3, .int 0)], [], h11)
              | .inr e14 => Q (.inr e14) h11))
        | .inr e5 => Q (.inr e5) h2))
    (Q (.inl none) h)) : zW (zE d) zm_X8_sayZip Q (15, [(0, .ref l0), (1, .int l1)], [], h) := by
  refine zq_aload (pc' := 16) rfl rfl rfl rfl ?_
  obtain ⟨x1, e0, H⟩ := H
  refine zq_getI (pc' := 19) rfl rfl rfl e0 ?_
  refine zq_ifeq (pc' := 22) rfl rfl rfl rfl (And.intro (fun c => ?_) (fun c => ?_))
  · have H := H.1 c
    refine zq_aload (pc' := 24) rfl rfl rfl rfl ?_
    refine zq_callv (pc' := 27) rfl rfl rfl rfl rfl rfl (zE_mono H (fun r3 h2 H => ?_))
    rcases r3 with v4 | e5
    · obtain ⟨e0, H⟩ := H
      refine And.intro e0 ?_
      refine zq_ipush (pc' := 28) rfl rfl rfl ?_
      refine zq_aload (pc' := 29) rfl rfl rfl rfl ?_
      obtain ⟨a6, e0, H⟩ := H
      refine zq_getR (pc' := 32) rfl rfl rfl e0 ?_
      refine zq_ipush (pc' := 33) rfl rfl rfl ?_
      obtain ⟨x7, e0, H⟩ := H
      refine zq_iald (pc' := 34) rfl rfl rfl e0 ?_
      refine zq_iadd (pc' := 35) rfl rfl rfl ?_
      refine zq_istore (pc' := 36) rfl rfl rfl ?_
      refine zq_aload (pc' := 37) rfl rfl rfl rfl ?_
      obtain ⟨a8, e0, H⟩ := H
      refine zq_getR (pc' := 40) rfl rfl rfl e0 ?_
      refine zq_iload (pc' := 41) rfl rfl rfl rfl ?_
      refine zq_iload (pc' := 42) rfl rfl rfl rfl ?_
      obtain ⟨h9, e0, H⟩ := H
      refine zq_iast (pc' := 43) rfl rfl rfl e0 ?_
      refine zq_ipush (pc' := 44) rfl rfl rfl ?_
      refine zq_istore (pc' := 45) rfl rfl rfl ?_
      refine zq_aload (pc' := 46) rfl rfl rfl rfl ?_
      obtain ⟨x10, e0, H⟩ := H
      refine zq_getI (pc' := 49) rfl rfl rfl e0 ?_
      refine zq_ipush (pc' := 50) rfl rfl rfl ?_
      refine zq_iceq_c (pc' := 53) (lt := [(0, .ref l0), (2, .int (4 + x7)), (3, .int 0)]) (lf := [(3, .int 0), (2, .int (4 + x7)), (0, .ref l0), (1, .int l1)]) rfl rfl rfl rfl (And.intro (fun c => ?_) (fun c => ?_))
      · have H := H.1 c
        exact H
      · have H := H.2 c
        refine zq_aload (pc' := 54) rfl rfl rfl rfl ?_
        refine zq_ipush (pc' := 55) rfl rfl rfl ?_
        refine zq_callv_c (pc' := 58) rfl rfl rfl rfl rfl (zE_mono H (fun r12 h11 H => ?_))
        rcases r12 with v13 | e14
        · obtain ⟨e0, H⟩ := H
          refine And.intro e0 ?_
          exact H
        · exact H
    · exact H
  · have H := H.2 c
    exact zq_vret rfl H
theorem zr_X8_sayZip_58 {d : Nat} {Q : zR → zH → Prop} {l0 : Nat} {l2 : Int32} {l3 : Int32} {h : zH} (H :
    ∃ x1 : Int32, zgf h l0 8 22 = some (.int x1) ∧
    zbr (x1 = 0)
    (∃ x2 : Int32, zgf h l0 8 18 = some (.int x2) ∧
      zbr (x2 = 2)
      (zbr (l3 = 16)
        (zE d 228 [.ref l0, .int 2] h (fun r4 h3 => match r4 with
            | .inl v5 => v5 = none ∧ zW (zE d) zm_X8_sayZip Q (84, [(0, .ref l0), (2, .int l2), (3, .int l3)], [], h3)
            | .inr e6 => Q (.inr e6) h3))
        (zW (zE d) zm_X8_sayZip Q (84, [(0, .ref l0), (2, .int l2), (3, .int l3)], [], h)))
      (zW (zE d) zm_X8_sayZip Q (119, [(0, .ref l0), (2, .int l2), (3, .int l3)], [], h)))
    (zW (zE d) zm_X8_sayZip Q (119, [(0, .ref l0), (2, .int l2), (3, .int l3)], [], h))) : zW (zE d) zm_X8_sayZip Q (58, [(0, .ref l0), (2, .int l2), (3, .int l3)], [], h) := by
  refine zq_aload (pc' := 59) rfl rfl rfl rfl ?_
  obtain ⟨x1, e0, H⟩ := H
  refine zq_getI (pc' := 62) rfl rfl rfl e0 ?_
  refine zq_ifne_c (pc' := 65) (lt := [(0, .ref l0), (2, .int l2), (3, .int l3)]) (lf := [(0, .ref l0), (2, .int l2), (3, .int l3)]) rfl rfl rfl rfl (And.intro (fun c => ?_) (fun c => ?_))
  · have H := H.1 c
    refine zq_aload (pc' := 66) rfl rfl rfl rfl ?_
    obtain ⟨x2, e0, H⟩ := H
    refine zq_getI (pc' := 69) rfl rfl rfl e0 ?_
    refine zq_ipush (pc' := 70) rfl rfl rfl ?_
    refine zq_icne_c (pc' := 73) (lt := [(0, .ref l0), (2, .int l2), (3, .int l3)]) (lf := [(0, .ref l0), (2, .int l2), (3, .int l3)]) rfl rfl rfl rfl (And.intro (fun c => ?_) (fun c => ?_))
    · have H := H.1 c
      refine zq_iload (pc' := 74) rfl rfl rfl rfl ?_
      refine zq_ipush (pc' := 76) rfl rfl rfl ?_
      refine zq_icne_c (pc' := 79) (lt := [(0, .ref l0), (2, .int l2), (3, .int l3)]) (lf := [(0, .ref l0), (2, .int l2), (3, .int l3)]) rfl rfl rfl rfl (And.intro (fun c => ?_) (fun c => ?_))
      · have H := H.1 c
        refine zq_aload (pc' := 80) rfl rfl rfl rfl ?_
        refine zq_ipush (pc' := 81) rfl rfl rfl ?_
        refine zq_callv_c (pc' := 84) rfl rfl rfl rfl rfl (zE_mono H (fun r4 h3 H => ?_))
        rcases r4 with v5 | e6
        · obtain ⟨e0, H⟩ := H
          refine And.intro e0 ?_
          exact H
        · exact H
      · have H := H.2 c
        exact H
    · have H := H.2 c
      exact H
  · have H := H.2 c
    exact H
theorem zr_X8_sayZip_84 {d : Nat} {Q : zR → zH → Prop} {l0 : Nat} {l2 : Int32} {l3 : Int32} {h : zH} (H :
    zE d 233 [.ref l0, .int 0, .int 9] h (fun r2 h1 => match r2 with
      | .inl v3 => ∃ x5 : Int32, v3 = some (.int x5) ∧ ∃ x6 : Int32, zgf h1 l0 8 22 = some (.int x6) ∧
        zbr (x6 = 0)
        (∃ a7 : Nat, zgf h1 l0 8 8 = some (.ref a7) ∧
          ∃ h8, zis h1 a7 ((16 * l2) + l3) x5 = some h8 ∧
          zW (zE d) zm_X8_sayZip Q (58, [(0, .ref l0), (2, .int l2), (3, .int (l3 + 1))], [], h8))
        (zW (zE d) zm_X8_sayZip Q (58, [(0, .ref l0), (2, .int l2), (3, .int (l3 + 1))], [], h1))
      | .inr e4 => Q (.inr e4) h1)) : zW (zE d) zm_X8_sayZip Q (84, [(0, .ref l0), (2, .int l2), (3, .int l3)], [], h) := by
  refine zq_aload (pc' := 85) rfl rfl rfl rfl ?_
  refine zq_ipush (pc' := 86) rfl rfl rfl ?_
  refine zq_ipush (pc' := 88) rfl rfl rfl ?_
  refine zq_calli (pc' := 91) rfl rfl rfl rfl rfl rfl (zE_mono H (fun r2 h1 H => ?_))
  rcases r2 with v3 | e4
  · obtain ⟨x5, e0, H⟩ := H
    refine Exists.intro x5 (And.intro e0 ?_)
    refine zq_istore (pc' := 93) rfl rfl rfl ?_
    refine zq_aload (pc' := 94) rfl rfl rfl rfl ?_
    obtain ⟨x6, e0, H⟩ := H
    refine zq_getI (pc' := 97) rfl rfl rfl e0 ?_
    refine zq_ifne (pc' := 100) rfl rfl rfl rfl (And.intro (fun c => ?_) (fun c => ?_))
    · have H := H.1 c
      refine zq_aload (pc' := 101) rfl rfl rfl rfl ?_
      obtain ⟨a7, e0, H⟩ := H
      refine zq_getR (pc' := 104) rfl rfl rfl e0 ?_
      refine zq_ipush (pc' := 106) rfl rfl rfl ?_
      refine zq_iload (pc' := 107) rfl rfl rfl rfl ?_
      refine zq_imul (pc' := 108) rfl rfl rfl ?_
      refine zq_iload (pc' := 109) rfl rfl rfl rfl ?_
      refine zq_iadd (pc' := 110) rfl rfl rfl ?_
      refine zq_iload (pc' := 112) rfl rfl rfl rfl ?_
      obtain ⟨h8, e0, H⟩ := H
      refine zq_iast (pc' := 113) rfl rfl rfl e0 ?_
      refine zq_iinc (pc' := 116) rfl rfl rfl rfl ?_
      refine zq_goto_c (pc' := 58) rfl rfl ?_
      exact H
    · have H := H.2 c
      refine zq_iinc (pc' := 116) rfl rfl rfl rfl ?_
      refine zq_goto_c (pc' := 58) rfl rfl ?_
      exact H
  · exact H
theorem zr_X8_sayZip_119 {d : Nat} {Q : zR → zH → Prop} {l0 : Nat} {l2 : Int32} {l3 : Int32} {h : zH} (H :
    ∃ x1 : Int32, zgf h l0 8 22 = some (.int x1) ∧
    zbr (x1 = 0)
    (zE d 229 [.ref l0, .ref 52] h (fun r3 h2 => match r3 with
        | .inl v4 => ∃ x6 : Int32, v4 = some (.int x6) ∧ zbr (x6 = 0)
          (zE d 228 [.ref l0, .int 1] h2 (fun r8 h7 => match r8 with
              | .inl v9 => v9 = none ∧ ∃ x11 : Int32, zgf h7 l0 8 22 = some (.int x11) ∧
                zbr (x11 = 0)
                (zE d 227 [.ref l0] h7 (fun r13 h12 => match r13 with
                    | .inl v14 => v14 = none ∧ zW (zE d) zm_X8_sayZip Q (155, [(0, .ref l0), (2, .int l2), (3, .int l3), (4, .int 0)], [], h12)
                    | .inr e15 => Q (.inr e15) h12))
                (zW (zE d) zm_X8_sayZip Q (155, [(0, .ref l0), (2, .int l2), (3, .int l3), (4, .int 0)], [], h7))
              | .inr e10 => Q (.inr e10) h7))
          (∃ x16 : Int32, zgf h2 l0 8 22 = some (.int x16) ∧
            zbr (x16 = 0)
            (zE d 227 [.ref l0] h2 (fun r18 h17 => match r18 with
                | .inl v19 => v19 = none ∧ zW (zE d) zm_X8_sayZip Q (155, [(0, .ref l0), (2, .int l2), (3, .int l3), (4, .int 0)], [], h17)
                | .inr e20 => Q (.inr e20) h17))
            (zW (zE d) zm_X8_sayZip Q (155, [(0, .ref l0), (2, .int l2), (3, .int l3), (4, .int 0)], [], h2)))
        | .inr e5 => Q (.inr e5) h2))
    (∃ x21 : Int32, zgf h l0 8 22 = some (.int x21) ∧
      zbr (x21 = 0)
      (zE d 227 [.ref l0] h (fun r23 h22 => match r23 with
          | .inl v24 => v24 = none ∧ zW (zE d) zm_X8_sayZip Q (155, [(0, .ref l0), (2, .int l2), (3, .int l3), (4, .int 0)], [], h22)
          | .inr e25 => Q (.inr e25) h22))
      (zW (zE d) zm_X8_sayZip Q (155, [(0, .ref l0), (2, .int l2), (3, .int l3), (4, .int 0)], [], h)))) : zW (zE d) zm_X8_sayZip Q (119, [(0, .ref l0), (2, .int l2), (3, .int l3)], [], h) := by
  refine zq_aload (pc' := 120) rfl rfl rfl rfl ?_
  obtain ⟨x1, e0, H⟩ := H
  refine zq_getI (pc' := 123) rfl rfl rfl e0 ?_
  refine zq_ifne (pc' := 126) rfl rfl rfl rfl (And.intro (fun c => ?_) (fun c => ?_))
  · have H := H.1 c
    refine zq_aload (pc' := 127) rfl rfl rfl rfl ?_
    refine zq_rpush (pc' := 130) rfl rfl rfl ?_
    refine zq_calli (pc' := 133) rfl rfl rfl rfl rfl rfl (zE_mono H (fun r3 h2 H => ?_))
    rcases r3 with v4 | e5
    · obtain ⟨x6, e0, H⟩ := H
      refine Exists.intro x6 (And.intro e0 ?_)
      refine zq_ifne (pc' := 136) rfl rfl rfl rfl (And.intro (fun c => ?_) (fun c => ?_))
      · have H := H.1 c
        refine zq_aload (pc' := 137) rfl rfl rfl rfl ?_
        refine zq_ipush (pc' := 138) rfl rfl rfl ?_
        refine zq_callv (pc' := 141) rfl rfl rfl rfl rfl rfl (zE_mono H (fun r8 h7 H => ?_))
        rcases r8 with v9 | e10
        · obtain ⟨e0, H⟩ := H
          refine And.intro e0 ?_
          refine zq_aload (pc' := 142) rfl rfl rfl rfl ?_
          obtain ⟨x11, e0, H⟩ := H
          refine zq_getI (pc' := 145) rfl rfl rfl e0 ?_
          refine zq_ifne (pc' := 148) rfl rfl rfl rfl (And.intro (fun c => ?_) (fun c => ?_))
          · have H := H.1 c
            refine zq_aload (pc' := 149) rfl rfl rfl rfl ?_
            refine zq_callv (pc' := 152) rfl rfl rfl rfl rfl rfl (zE_mono H (fun r13 h12 H => ?_))
            rcases r13 with v14 | e15
            · obtain ⟨e0, H⟩ := H
              refine And.intro e0 ?_
              refine zq_ipush (pc' := 153) rfl rfl rfl ?_
              refine zq_istore_c (pc' := 155) rfl rfl ?_
              exact H
            · exact H
          · have H := H.2 c
            refine zq_ipush (pc' := 153) rfl rfl rfl ?_
            refine zq_istore_c (pc' := 155) rfl rfl ?_
            exact H
        · exact H
      · have H := H.2 c
        refine zq_aload (pc' := 142) rfl rfl rfl rfl ?_
        obtain ⟨x16, e0, H⟩ := H
        refine zq_getI (pc' := 145) rfl rfl rfl e0 ?_
        refine zq_ifne (pc' := 148) rfl rfl rfl rfl (And.intro (fun c => ?_) (fun c => ?_))
        · have H := H.1 c
          refine zq_aload (pc' := 149) rfl rfl rfl rfl ?_
          refine zq_callv (pc' := 152) rfl rfl rfl rfl rfl rfl (zE_mono H (fun r18 h17 H => ?_))
          rcases r18 with v19 | e20
          · obtain ⟨e0, H⟩ := H
            refine And.intro e0 ?_
            refine zq_ipush (pc' := 153) rfl rfl rfl ?_
            refine zq_istore_c (pc' := 155) rfl rfl ?_
            exact H
          · exact H
        · have H := H.2 c
          refine zq_ipush (pc' := 153) rfl rfl rfl ?_
          refine zq_istore_c (pc' := 155) rfl rfl ?_
          exact H
    · exact H
  · have H := H.2 c
    refine zq_aload (pc' := 142) rfl rfl rfl rfl ?_
    obtain ⟨x21, e0, H⟩ := H
    refine zq_getI (pc' := 145) rfl rfl rfl e0 ?_
    refine zq_ifne (pc' := 148) rfl rfl rfl rfl (And.intro (fun c => ?_) (fun c => ?_))
    · have H := H.1 c
      refine zq_aload (pc' := 149) rfl rfl rfl rfl ?_
      refine zq_callv (pc' := 152) rfl rfl rfl rfl rfl rfl (zE_mono H (fun r23 h22 H => ?_))
      rcases r23 with v24 | e25
      · obtain ⟨e0, H⟩ := H
        refine And.intro e0 ?_
        refine zq_ipush (pc' := 153) rfl rfl rfl ?_
        refine zq_istore_c (pc' := 155) rfl rfl ?_
        exact H
      · exact H
    · have H := H.2 c
      refine zq_ipush (pc' := 153) rfl rfl rfl ?_
      refine zq_istore_c (pc' := 155) rfl rfl ?_
      exact H
theorem zr_X8_sayZip_155 {d : Nat} {Q : zR → zH → Prop} {l0 : Nat} {l2 : Int32} {l3 : Int32} {l4 : Int32} {h : zH} (H :
    zbr (l3 ≤ l4)
    (zW (zE d) zm_X8_sayZip Q (193, [(0, .ref l0), (2, .int l2), (3, .int l3)], [], h))
    (∃ x1 : Int32, zgf h l0 8 22 = some (.int x1) ∧
      zbr (x1 = 0)
      (∃ a2 : Nat, zgf h l0 8 9 = some (.ref a2) ∧
        zE d 233 [.ref l0, .int 0, .int 9] h (fun r4 h3 => match r4 with
          | .inl v5 => ∃ x7 : Int32, v5 = some (.int x7) ∧ ∃ h8, zis h3 a2 ((16 * l2) + l4) x7 = some h8 ∧
            zW (zE d) zm_X8_sayZip Q (155, [(0, .ref l0), (2, .int l2), (3, .int l3), (4, .int (l4 + 1))], [], h8)
          | .inr e6 => Q (.inr e6) h3))
      (zW (zE d) zm_X8_sayZip Q (193, [(0, .ref l0), (2, .int l2), (3, .int l3)], [], h)))) : zW (zE d) zm_X8_sayZip Q (155, [(0, .ref l0), (2, .int l2), (3, .int l3), (4, .int l4)], [], h) := by
  refine zq_iload (pc' := 157) rfl rfl rfl rfl ?_
  refine zq_iload (pc' := 158) rfl rfl rfl rfl ?_
  refine zq_icge_c (pc' := 161) (lt := [(0, .ref l0), (2, .int l2), (3, .int l3)]) (lf := [(0, .ref l0), (2, .int l2), (3, .int l3), (4, .int l4)]) rfl rfl rfl rfl (And.intro (fun c => ?_) (fun c => ?_))
  · have H := H.1 c
    exact H
  · have H := H.2 c
    refine zq_aload (pc' := 162) rfl rfl rfl rfl ?_
    obtain ⟨x1, e0, H⟩ := H
    refine zq_getI (pc' := 165) rfl rfl rfl e0 ?_
    refine zq_ifne_c (pc' := 168) (lt := [(0, .ref l0), (2, .int l2), (3, .int l3)]) (lf := [(0, .ref l0), (2, .int l2), (3, .int l3), (4, .int l4)]) rfl rfl rfl rfl (And.intro (fun c => ?_) (fun c => ?_))
    · have H := H.1 c
      refine zq_aload (pc' := 169) rfl rfl rfl rfl ?_
      obtain ⟨a2, e0, H⟩ := H
      refine zq_getR (pc' := 172) rfl rfl rfl e0 ?_
      refine zq_ipush (pc' := 174) rfl rfl rfl ?_
      refine zq_iload (pc' := 175) rfl rfl rfl rfl ?_
      refine zq_imul (pc' := 176) rfl rfl rfl ?_
      refine zq_iload (pc' := 178) rfl rfl rfl rfl ?_
      refine zq_iadd (pc' := 179) rfl rfl rfl ?_
      refine zq_aload (pc' := 180) rfl rfl rfl rfl ?_
      refine zq_ipush (pc' := 181) rfl rfl rfl ?_
      refine zq_ipush (pc' := 183) rfl rfl rfl ?_
      refine zq_calli (pc' := 186) rfl rfl rfl rfl rfl rfl (zE_mono H (fun r4 h3 H => ?_))
      rcases r4 with v5 | e6
      · obtain ⟨x7, e0, H⟩ := H
        refine Exists.intro x7 (And.intro e0 ?_)
        obtain ⟨h8, e0, H⟩ := H
        refine zq_iast (pc' := 187) rfl rfl rfl e0 ?_
        refine zq_iinc (pc' := 190) rfl rfl rfl rfl ?_
        refine zq_goto_c (pc' := 155) rfl rfl ?_
        exact H
      · exact H
    · have H := H.2 c
      exact H
theorem zr_X8_sayZip_193 {d : Nat} {Q : zR → zH → Prop} {l0 : Nat} {l2 : Int32} {l3 : Int32} {h : zH} (H :
    ∃ a1 : Nat, zgf h l0 8 7 = some (.ref a1) ∧
    ∃ h2, zis h a1 l2 l3 = some h2 ∧
    ∃ a3 : Nat, zgf h2 l0 8 5 = some (.ref a3) ∧
    ∃ x4, zia h2 a3 4 = some x4 ∧
    ∃ h5, zis h2 a3 4 (x4 + 1) = some h5 ∧
    Q (.inl none) h5) : zW (zE d) zm_X8_sayZip Q (193, [(0, .ref l0), (2, .int l2), (3, .int l3)], [], h) := by
  refine zq_aload (pc' := 194) rfl rfl rfl rfl ?_
  obtain ⟨a1, e0, H⟩ := H
  refine zq_getR (pc' := 197) rfl rfl rfl e0 ?_
  refine zq_iload (pc' := 198) rfl rfl rfl rfl ?_
  refine zq_iload (pc' := 199) rfl rfl rfl rfl ?_
  obtain ⟨h2, e0, H⟩ := H
  refine zq_iast (pc' := 200) rfl rfl rfl e0 ?_
  refine zq_aload (pc' := 201) rfl rfl rfl rfl ?_
  obtain ⟨a3, e0, H⟩ := H
  refine zq_getR (pc' := 204) rfl rfl rfl e0 ?_
  refine zq_ipush (pc' := 205) rfl rfl rfl ?_
  refine zq_dup2 (pc' := 206) rfl rfl rfl rfl rfl ?_
  obtain ⟨x4, e0, H⟩ := H
  refine zq_iald (pc' := 207) rfl rfl rfl e0 ?_
  refine zq_ipush (pc' := 208) rfl rfl rfl ?_
  refine zq_iadd (pc' := 209) rfl rfl rfl ?_
  obtain ⟨h5, e0, H⟩ := H
  refine zq_iast (pc' := 210) rfl rfl rfl e0 ?_
  exact zq_vret rfl H
theorem zr_X8_sayStrain_0 {d : Nat} {Q : zR → zH → Prop} {p0 : Nat} {h : zH} (H :
    ∃ x1 : Int32, zgf h p0 8 18 = some (.int x1) ∧
    zbr (x1 = 2)
    (zW (zE d) zm_X8_sayStrain Q (13, [(0, .ref p0)], [], h))
    (zE d 228 [.ref p0, .int 1] h (fun r3 h2 => match r3 with
        | .inl v4 => v4 = none ∧ zW (zE d) zm_X8_sayStrain Q (13, [(0, .ref p0)], [], h2)
        | .inr e5 => Q (.inr e5) h2))) : zW (zE d) zm_X8_sayStrain Q (0, [(0, .ref p0)], [], h) := by
  refine zq_aload (pc' := 1) rfl rfl rfl rfl ?_
  obtain ⟨x1, e0, H⟩ := H
  refine zq_getI (pc' := 4) rfl rfl rfl e0 ?_
  refine zq_ipush (pc' := 5) rfl rfl rfl ?_
  refine zq_iceq_c (pc' := 8) (lt := [(0, .ref p0)]) (lf := [(0, .ref p0)]) rfl rfl rfl rfl (And.intro (fun c => ?_) (fun c => ?_))
  · have H := H.1 c
    exact H
  · have H := H.2 c
    refine zq_aload (pc' := 9) rfl rfl rfl rfl ?_
    refine zq_ipush (pc' := 10) rfl rfl rfl ?_
    refine zq_callv_c (pc' := 13) rfl rfl rfl rfl rfl (zE_mono H (fun r3 h2 H => ?_))
    rcases r3 with v4 | e5
    · obtain ⟨e0, H⟩ := H
      refine And.intro e0 ?_
      exact H
    · exact H
theorem zr_X8_sayStrain_13 {d : Nat} {Q : zR → zH → Prop} {l0 : Nat} {h : zH} (H :
    ∃ x1 : Int32, zgf h l0 8 22 = some (.int x1) ∧
    zbr (x1 = 0)
    (∃ x2 : Int32, zgf h l0 8 18 = some (.int x2) ∧
      zbr (x2 = 2)
      (∃ a3 : Nat, zgf h l0 8 5 = some (.ref a3) ∧
        ∃ x4, zia h a3 5 = some x4 ∧
        zbr (x4 = 8)
        (zE d 228 [.ref l0, .int 2] h (fun r6 h5 => match r6 with
            | .inl v7 => v7 = none ∧ zW (zE d) zm_X8_sayStrain Q (44, [(0, .ref l0)], [], h5)
            | .inr e8 => Q (.inr e8) h5))
        (zW (zE d) zm_X8_sayStrain Q (44, [(0, .ref l0)], [], h)))
      (Q (.inl none) h))
    (Q (.inl none) h)) : zW (zE d) zm_X8_sayStrain Q (13, [(0, .ref l0)], [], h) := by
  refine zq_aload (pc' := 14) rfl rfl rfl rfl ?_
  obtain ⟨x1, e0, H⟩ := H
  refine zq_getI (pc' := 17) rfl rfl rfl e0 ?_
  refine zq_ifne (pc' := 20) rfl rfl rfl rfl (And.intro (fun c => ?_) (fun c => ?_))
  · have H := H.1 c
    refine zq_aload (pc' := 21) rfl rfl rfl rfl ?_
    obtain ⟨x2, e0, H⟩ := H
    refine zq_getI (pc' := 24) rfl rfl rfl e0 ?_
    refine zq_ipush (pc' := 25) rfl rfl rfl ?_
    refine zq_icne (pc' := 28) rfl rfl rfl rfl (And.intro (fun c => ?_) (fun c => ?_))
    · have H := H.1 c
      refine zq_aload (pc' := 29) rfl rfl rfl rfl ?_
      obtain ⟨a3, e0, H⟩ := H
      refine zq_getR (pc' := 32) rfl rfl rfl e0 ?_
      refine zq_ipush (pc' := 33) rfl rfl rfl ?_
      obtain ⟨x4, e0, H⟩ := H
      refine zq_iald (pc' := 34) rfl rfl rfl e0 ?_
      refine zq_ipush (pc' := 36) rfl rfl rfl ?_
      refine zq_icne_c (pc' := 39) (lt := [(0, .ref l0)]) (lf := [(0, .ref l0)]) rfl rfl rfl rfl (And.intro (fun c => ?_) (fun c => ?_))
      · have H := H.1 c
        refine zq_aload (pc' := 40) rfl rfl rfl rfl ?_
        refine zq_ipush (pc' := 41) rfl rfl rfl ?_
        refine zq_callv_c (pc' := 44) rfl rfl rfl rfl rfl (zE_mono H (fun r6 h5 H => ?_))
        rcases r6 with v7 | e8
        · obtain ⟨e0, H⟩ := H
          refine And.intro e0 ?_
          exact H
        · exact H
      · have H := H.2 c
        exact H
    · have H := H.2 c
      exact zq_vret rfl H
  · have H := H.2 c
    exact zq_vret rfl H
theorem zr_X8_sayStrain_44 {d : Nat} {Q : zR → zH → Prop} {l0 : Nat} {h : zH} (H :
    zE d 233 [.ref l0, .int 0, .int 9] h (fun r2 h1 => match r2 with
      | .inl v3 => ∃ x5 : Int32, v3 = some (.int x5) ∧ ∃ x6 : Int32, zgf h1 l0 8 22 = some (.int x6) ∧
        zbr (x6 = 0)
        (∃ a7 : Nat, zgf h1 l0 8 10 = some (.ref a7) ∧
          ∃ a8 : Nat, zgf h1 l0 8 5 = some (.ref a8) ∧
          ∃ x9, zia h1 a8 5 = some x9 ∧
          ∃ h10, zis h1 a7 (8 + x9) x5 = some h10 ∧
          zW (zE d) zm_X8_sayStrain Q (74, [(0, .ref l0)], [], h10))
        (zW (zE d) zm_X8_sayStrain Q (74, [(0, .ref l0)], [], h1))
      | .inr e4 => Q (.inr e4) h1)) : zW (zE d) zm_X8_sayStrain Q (44, [(0, .ref l0)], [], h) := by
  refine zq_aload (pc' := 45) rfl rfl rfl rfl ?_
  refine zq_ipush (pc' := 46) rfl rfl rfl ?_
  refine zq_ipush (pc' := 48) rfl rfl rfl ?_
  refine zq_calli (pc' := 51) rfl rfl rfl rfl rfl rfl (zE_mono H (fun r2 h1 H => ?_))
  rcases r2 with v3 | e4
  · obtain ⟨x5, e0, H⟩ := H
    refine Exists.intro x5 (And.intro e0 ?_)
    refine zq_istore (pc' := 52) rfl rfl rfl ?_
    refine zq_aload (pc' := 53) rfl rfl rfl rfl ?_
    obtain ⟨x6, e0, H⟩ := H
    refine zq_getI (pc' := 56) rfl rfl rfl e0 ?_
    refine zq_ifne_c (pc' := 59) (lt := [(0, .ref l0)]) (lf := [(1, .int x5), (0, .ref l0)]) rfl rfl rfl rfl (And.intro (fun c => ?_) (fun c => ?_))
    · have H := H.1 c
      refine zq_aload (pc' := 60) rfl rfl rfl rfl ?_
      obtain ⟨a7, e0, H⟩ := H
      refine zq_getR (pc' := 63) rfl rfl rfl e0 ?_
      refine zq_ipush (pc' := 65) rfl rfl rfl ?_
      refine zq_aload (pc' := 66) rfl rfl rfl rfl ?_
      obtain ⟨a8, e0, H⟩ := H
      refine zq_getR (pc' := 69) rfl rfl rfl e0 ?_
      refine zq_ipush (pc' := 70) rfl rfl rfl ?_
      obtain ⟨x9, e0, H⟩ := H
      refine zq_iald (pc' := 71) rfl rfl rfl e0 ?_
      refine zq_iadd (pc' := 72) rfl rfl rfl ?_
      refine zq_iload (pc' := 73) rfl rfl rfl rfl ?_
      obtain ⟨h10, e0, H⟩ := H
      refine zq_iast_c (pc' := 74) rfl rfl e0 ?_
      exact H
    · have H := H.2 c
      exact H
  · exact H
theorem zr_X8_sayStrain_74 {d : Nat} {Q : zR → zH → Prop} {l0 : Nat} {h : zH} (H :
    ∃ a1 : Nat, zgf h l0 8 5 = some (.ref a1) ∧
    ∃ x2, zia h a1 5 = some x2 ∧
    ∃ x3 : Int32, zgf h l0 8 22 = some (.int x3) ∧
    zbr (x3 = 0)
    (∃ h4, zis h a1 5 (x2 + 1) = some h4 ∧
      zW (zE d) zm_X8_sayStrain Q (13, [(0, .ref l0)], [], h4))
    (∃ h5, zis h a1 5 (x2 + 0) = some h5 ∧
      zW (zE d) zm_X8_sayStrain Q (13, [(0, .ref l0)], [], h5))) : zW (zE d) zm_X8_sayStrain Q (74, [(0, .ref l0)], [], h) := by
  refine zq_aload (pc' := 75) rfl rfl rfl rfl ?_
  obtain ⟨a1, e0, H⟩ := H
  refine zq_getR (pc' := 78) rfl rfl rfl e0 ?_
  refine zq_ipush (pc' := 79) rfl rfl rfl ?_
  refine zq_dup2 (pc' := 80) rfl rfl rfl rfl rfl ?_
  obtain ⟨x2, e0, H⟩ := H
  refine zq_iald (pc' := 81) rfl rfl rfl e0 ?_
  refine zq_aload (pc' := 82) rfl rfl rfl rfl ?_
  obtain ⟨x3, e0, H⟩ := H
  refine zq_getI (pc' := 85) rfl rfl rfl e0 ?_
  refine zq_ifne (pc' := 88) rfl rfl rfl rfl (And.intro (fun c => ?_) (fun c => ?_))
  · have H := H.1 c
    refine zq_ipush (pc' := 89) rfl rfl rfl ?_
    refine zq_goto (pc' := 93) rfl rfl rfl ?_
    refine zq_iadd (pc' := 94) rfl rfl rfl ?_
    obtain ⟨h4, e0, H⟩ := H
    refine zq_iast (pc' := 95) rfl rfl rfl e0 ?_
    refine zq_goto_c (pc' := 13) rfl rfl ?_
    exact H
  · have H := H.2 c
    refine zq_ipush (pc' := 93) rfl rfl rfl ?_
    refine zq_iadd (pc' := 94) rfl rfl rfl ?_
    obtain ⟨h5, e0, H⟩ := H
    refine zq_iast (pc' := 95) rfl rfl rfl e0 ?_
    refine zq_goto_c (pc' := 13) rfl rfl ?_
    exact H
theorem zr_X8_sayOnce_0 {d : Nat} {Q : zR → zH → Prop} {p0 : Nat} {p1 : Int32} {h : zH} (H :
    zE d 227 [.ref p0] h (fun r2 h1 => match r2 with
      | .inl v3 => v3 = none ∧ zbr (p1 = 1)
        (zE d 242 [.ref p0] h1 (fun r6 h5 => match r6 with
            | .inl v7 => v7 = none ∧ Q (.inl none) h5
            | .inr e8 => Q (.inr e8) h5))
        (zbr (p1 = 4)
          (∃ h9, zpf h1 p0 8 25 (.int 1) = some h9 ∧
            ∃ x10 : Int32, zgf h9 p0 8 25 = some (.int x10) ∧
            zbr (x10 = 0)
            (∃ a11 : Nat, zgf h9 p0 8 1 = some (.ref a11) ∧
              ∃ h12, zpf h9 p0 8 3 (.ref a11) = some h12 ∧
              zE d 240 [.ref p0, .int 0] h12 (fun r14 h13 => match r14 with
                | .inl v15 => v15 = none ∧ Q (.inl none) h13
                | .inr e16 => Q (.inr e16) h13))
            (∃ a17 : Nat, zgf h9 p0 8 2 = some (.ref a17) ∧
              ∃ h18, zpf h9 p0 8 3 (.ref a17) = some h18 ∧
              zE d 240 [.ref p0, .int 0] h18 (fun r20 h19 => match r20 with
                | .inl v21 => v21 = none ∧ Q (.inl none) h19
                | .inr e22 => Q (.inr e22) h19)))
          (∃ h23, zpf h1 p0 8 25 (.int 0) = some h23 ∧
            ∃ x24 : Int32, zgf h23 p0 8 25 = some (.int x24) ∧
            zbr (x24 = 0)
            (∃ a25 : Nat, zgf h23 p0 8 1 = some (.ref a25) ∧
              ∃ h26, zpf h23 p0 8 3 (.ref a25) = some h26 ∧
              zE d 240 [.ref p0, .int 0] h26 (fun r28 h27 => match r28 with
                | .inl v29 => v29 = none ∧ Q (.inl none) h27
                | .inr e30 => Q (.inr e30) h27))
            (∃ a31 : Nat, zgf h23 p0 8 2 = some (.ref a31) ∧
              ∃ h32, zpf h23 p0 8 3 (.ref a31) = some h32 ∧
              zE d 240 [.ref p0, .int 0] h32 (fun r34 h33 => match r34 with
                | .inl v35 => v35 = none ∧ Q (.inl none) h33
                | .inr e36 => Q (.inr e36) h33))))
      | .inr e4 => Q (.inr e4) h1)) : zW (zE d) zm_X8_sayOnce Q (0, [(0, .ref p0), (1, .int p1)], [], h) := by
  refine zq_aload (pc' := 1) rfl rfl rfl rfl ?_
  refine zq_callv (pc' := 4) rfl rfl rfl rfl rfl rfl (zE_mono H (fun r2 h1 H => ?_))
  rcases r2 with v3 | e4
  · obtain ⟨e0, H⟩ := H
    refine And.intro e0 ?_
    refine zq_iload (pc' := 5) rfl rfl rfl rfl ?_
    refine zq_ipush (pc' := 6) rfl rfl rfl ?_
    refine zq_icne (pc' := 9) rfl rfl rfl rfl (And.intro (fun c => ?_) (fun c => ?_))
    · have H := H.1 c
      refine zq_aload (pc' := 10) rfl rfl rfl rfl ?_
      refine zq_callv (pc' := 13) rfl rfl rfl rfl rfl rfl (zE_mono H (fun r6 h5 H => ?_))
      rcases r6 with v7 | e8
      · obtain ⟨e0, H⟩ := H
        refine And.intro e0 ?_
        exact zq_vret rfl H
      · exact H
    · have H := H.2 c
      refine zq_aload (pc' := 15) rfl rfl rfl rfl ?_
      refine zq_iload (pc' := 16) rfl rfl rfl rfl ?_
      refine zq_ipush (pc' := 17) rfl rfl rfl ?_
      refine zq_icne (pc' := 20) rfl rfl rfl rfl (And.intro (fun c => ?_) (fun c => ?_))
      · have H := H.1 c
        refine zq_ipush (pc' := 21) rfl rfl rfl ?_
        refine zq_goto (pc' := 25) rfl rfl rfl ?_
        obtain ⟨h9, e0, H⟩ := H
        refine zq_put (pc' := 28) rfl rfl rfl (Or.inr rfl) e0 ?_
        refine zq_aload (pc' := 29) rfl rfl rfl rfl ?_
        refine zq_aload (pc' := 30) rfl rfl rfl rfl ?_
        obtain ⟨x10, e0, H⟩ := H
        refine zq_getI (pc' := 33) rfl rfl rfl e0 ?_
        refine zq_ifeq (pc' := 36) rfl rfl rfl rfl (And.intro (fun c => ?_) (fun c => ?_))
        · have H := H.1 c
          refine zq_aload (pc' := 44) rfl rfl rfl rfl ?_
          obtain ⟨a11, e0, H⟩ := H
          refine zq_getR (pc' := 47) rfl rfl rfl e0 ?_
          obtain ⟨h12, e0, H⟩ := H
          refine zq_put (pc' := 50) rfl rfl rfl trivial e0 ?_
          refine zq_aload (pc' := 51) rfl rfl rfl rfl ?_
          refine zq_ipush (pc' := 52) rfl rfl rfl ?_
          refine zq_callv (pc' := 55) rfl rfl rfl rfl rfl rfl (zE_mono H (fun r14 h13 H => ?_))
          rcases r14 with v15 | e16
          · obtain ⟨e0, H⟩ := H
            refine And.intro e0 ?_
            exact zq_vret rfl H
          · exact H
        · have H := H.2 c
          refine zq_aload (pc' := 37) rfl rfl rfl rfl ?_
          obtain ⟨a17, e0, H⟩ := H
          refine zq_getR (pc' := 40) rfl rfl rfl e0 ?_
          refine zq_goto (pc' := 47) rfl rfl rfl ?_
          obtain ⟨h18, e0, H⟩ := H
          refine zq_put (pc' := 50) rfl rfl rfl trivial e0 ?_
          refine zq_aload (pc' := 51) rfl rfl rfl rfl ?_
          refine zq_ipush (pc' := 52) rfl rfl rfl ?_
          refine zq_callv (pc' := 55) rfl rfl rfl rfl rfl rfl (zE_mono H (fun r20 h19 H => ?_))
          rcases r20 with v21 | e22
          · obtain ⟨e0, H⟩ := H
            refine And.intro e0 ?_
            exact zq_vret rfl H
          · exact H
      · have H := H.2 c
        refine zq_ipush (pc' := 25) rfl rfl rfl ?_
        obtain ⟨h23, e0, H⟩ := H
        refine zq_put (pc' := 28) rfl rfl rfl (Or.inl rfl) e0 ?_
        refine zq_aload (pc' := 29) rfl rfl rfl rfl ?_
        refine zq_aload (pc' := 30) rfl rfl rfl rfl ?_
        obtain ⟨x24, e0, H⟩ := H
        refine zq_getI (pc' := 33) rfl rfl rfl e0 ?_
        refine zq_ifeq (pc' := 36) rfl rfl rfl rfl (And.intro (fun c => ?_) (fun c => ?_))
        · have H := H.1 c
          refine zq_aload (pc' := 44) rfl rfl rfl rfl ?_
          obtain ⟨a25, e0, H⟩ := H
          refine zq_getR (pc' := 47) rfl rfl rfl e0 ?_
          obtain ⟨h26, e0, H⟩ := H
          refine zq_put (pc' := 50) rfl rfl rfl trivial e0 ?_
          refine zq_aload (pc' := 51) rfl rfl rfl rfl ?_
          refine zq_ipush (pc' := 52) rfl rfl rfl ?_
          refine zq_callv (pc' := 55) rfl rfl rfl rfl rfl rfl (zE_mono H (fun r28 h27 H => ?_))
          rcases r28 with v29 | e30
          · obtain ⟨e0, H⟩ := H
            refine And.intro e0 ?_
            exact zq_vret rfl H
          · exact H
        · have H := H.2 c
          refine zq_aload (pc' := 37) rfl rfl rfl rfl ?_
          obtain ⟨a31, e0, H⟩ := H
          refine zq_getR (pc' := 40) rfl rfl rfl e0 ?_
          refine zq_goto (pc' := 47) rfl rfl rfl ?_
          obtain ⟨h32, e0, H⟩ := H
          refine zq_put (pc' := 50) rfl rfl rfl trivial e0 ?_
          refine zq_aload (pc' := 51) rfl rfl rfl rfl ?_
          refine zq_ipush (pc' := 52) rfl rfl rfl ?_
          refine zq_callv (pc' := 55) rfl rfl rfl rfl rfl rfl (zE_mono H (fun r34 h33 H => ?_))
          rcases r34 with v35 | e36
          · obtain ⟨e0, H⟩ := H
            refine And.intro e0 ?_
            exact zq_vret rfl H
          · exact H
  · exact H
theorem zr_X8_readLine_0 {d : Nat} {Q : zR → zH → Prop} {p0 : Nat} {p1 : Int32} {h : zH} (H :
    ∃ a1 : Nat, zgf h p0 8 0 = some (.ref a1) ∧
    zE d 230 [.ref p0, .ref a1] h (fun r3 h2 => match r3 with
      | .inl v4 => ∃ x6 : Int32, v4 = some (.int x6) ∧ zE d 229 [.ref p0, .ref 34] h2 (fun r8 h7 => match r8 with
          | .inl v9 => ∃ x11 : Int32, v9 = some (.int x11) ∧ zbr (x11 = 0)
            (zE d 229 [.ref p0, .ref 54] h7 (fun r13 h12 => match r13 with
                | .inl v14 => ∃ x16 : Int32, v14 = some (.int x16) ∧ zbr (x16 = 0)
                  (zE d 229 [.ref p0, .ref 56] h12 (fun r18 h17 => match r18 with
                      | .inl v19 => ∃ x21 : Int32, v19 = some (.int x21) ∧ zbr (x21 = 0)
                        (zbr ((0 &&& p1) = 0)
                          (zW (zE d) zm_X8_readLine Q (63, [(0, .ref p0), (1, .int p1), (2, .int x6), (3, .int 0)], [], h17))
                          (zE d 228 [.ref p0, .int 5] h17 (fun r23 h22 => match r23 with
                              | .inl v24 => v24 = none ∧ zW (zE d) zm_X8_readLine Q (63, [(0, .ref p0), (1, .int p1), (2, .int x6), (3, .int 0)], [], h22)
                              | .inr e25 => Q (.inr e25) h22)))
                        (zbr ((4 &&& p1) = 0)
                          (zW (zE d) zm_X8_readLine Q (63, [(0, .ref p0), (1, .int p1), (2, .int x6), (3, .int 4)], [], h17))
                          (zE d 228 [.ref p0, .int 5] h17 (fun r27 h26 => match r27 with
                              | .inl v28 => v28 = none ∧ zW (zE d) zm_X8_readLine Q (63, [(0, .ref p0), (1, .int p1), (2, .int x6), (3, .int 4)], [], h26)
                              | .inr e29 => Q (.inr e29) h26)))
                      | .inr e20 => Q (.inr e20) h17))
                  (zbr ((2 &&& p1) = 0)
                    (zW (zE d) zm_X8_readLine Q (63, [(0, .ref p0), (1, .int p1), (2, .int x6), (3, .int 2)], [], h12))
                    (zE d 228 [.ref p0, .int 5] h12 (fun r31 h30 => match r31 with
                        | .inl v32 => v32 = none ∧ zW (zE d) zm_X8_readLine Q (63, [(0, .ref p0), (1, .int p1), (2, .int x6), (3, .int 2)], [], h30)
                        | .inr e33 => Q (.inr e33) h30)))
                | .inr e15 => Q (.inr e15) h12))
            (zbr ((1 &&& p1) = 0)
              (zW (zE d) zm_X8_readLine Q (63, [(0, .ref p0), (1, .int p1), (2, .int x6), (3, .int 1)], [], h7))
              (zE d 228 [.ref p0, .int 5] h7 (fun r35 h34 => match r35 with
                  | .inl v36 => v36 = none ∧ zW (zE d) zm_X8_readLine Q (63, [(0, .ref p0), (1, .int p1), (2, .int x6), (3, .int 1)], [], h34)
                  | .inr e37 => Q (.inr e37) h34)))
          | .inr e10 => Q (.inr e10) h7)
      | .inr e5 => Q (.inr e5) h2)) : zW (zE d) zm_X8_readLine Q (0, [(0, .ref p0), (1, .int p1)], [], h) := by
  refine zq_aload (pc' := 1) rfl rfl rfl rfl ?_
  refine zq_aload (pc' := 2) rfl rfl rfl rfl ?_
  obtain ⟨a1, e0, H⟩ := H
  refine zq_getR (pc' := 5) rfl rfl rfl e0 ?_
  refine zq_calli (pc' := 8) rfl rfl rfl rfl rfl rfl (zE_mono H (fun r3 h2 H => ?_))
  rcases r3 with v4 | e5
  · obtain ⟨x6, e0, H⟩ := H
    refine Exists.intro x6 (And.intro e0 ?_)
    refine zq_istore (pc' := 9) rfl rfl rfl ?_
    refine zq_aload (pc' := 10) rfl rfl rfl rfl ?_
    refine zq_rpush (pc' := 12) rfl rfl rfl ?_
    refine zq_calli (pc' := 15) rfl rfl rfl rfl rfl rfl (zE_mono H (fun r8 h7 H => ?_))
    rcases r8 with v9 | e10
    · obtain ⟨x11, e0, H⟩ := H
      refine Exists.intro x11 (And.intro e0 ?_)
      refine zq_ifeq (pc' := 18) rfl rfl rfl rfl (And.intro (fun c => ?_) (fun c => ?_))
      · have H := H.1 c
        refine zq_aload (pc' := 23) rfl rfl rfl rfl ?_
        refine zq_rpush (pc' := 26) rfl rfl rfl ?_
        refine zq_calli (pc' := 29) rfl rfl rfl rfl rfl rfl (zE_mono H (fun r13 h12 H => ?_))
        rcases r13 with v14 | e15
        · obtain ⟨x16, e0, H⟩ := H
          refine Exists.intro x16 (And.intro e0 ?_)
          refine zq_ifeq (pc' := 32) rfl rfl rfl rfl (And.intro (fun c => ?_) (fun c => ?_))
          · have H := H.1 c
            refine zq_aload (pc' := 37) rfl rfl rfl rfl ?_
            refine zq_rpush (pc' := 40) rfl rfl rfl ?_
            refine zq_calli (pc' := 43) rfl rfl rfl rfl rfl rfl (zE_mono H (fun r18 h17 H => ?_))
            rcases r18 with v19 | e20
            · obtain ⟨x21, e0, H⟩ := H
              refine Exists.intro x21 (And.intro e0 ?_)
              refine zq_ifeq (pc' := 46) rfl rfl rfl rfl (And.intro (fun c => ?_) (fun c => ?_))
              · have H := H.1 c
                refine zq_ipush (pc' := 51) rfl rfl rfl ?_
                refine zq_istore (pc' := 52) rfl rfl rfl ?_
                refine zq_iload (pc' := 53) rfl rfl rfl rfl ?_
                refine zq_iload (pc' := 54) rfl rfl rfl rfl ?_
                refine zq_iand (pc' := 55) rfl rfl rfl ?_
                refine zq_ifeq_c (pc' := 58) (lt := [(0, .ref p0), (1, .int p1), (2, .int x6), (3, .int 0)]) (lf := [(3, .int 0), (2, .int x6), (0, .ref p0), (1, .int p1)]) rfl rfl rfl rfl (And.intro (fun c => ?_) (fun c => ?_))
                · have H := H.1 c
                  exact H
                · have H := H.2 c
                  refine zq_aload (pc' := 59) rfl rfl rfl rfl ?_
                  refine zq_ipush (pc' := 60) rfl rfl rfl ?_
                  refine zq_callv_c (pc' := 63) rfl rfl rfl rfl rfl (zE_mono H (fun r23 h22 H => ?_))
                  rcases r23 with v24 | e25
                  · obtain ⟨e0, H⟩ := H
                    refine And.intro e0 ?_
                    exact H
                  · exact H
              · have H := H.2 c
                refine zq_ipush (pc' := 47) rfl rfl rfl ?_
                refine zq_goto (pc' := 51) rfl rfl rfl ?_
                refine zq_istore (pc' := 52) rfl rfl rfl ?_
                refine zq_iload (pc' := 53) rfl rfl rfl rfl ?_
                refine zq_iload (pc' := 54) rfl rfl rfl rfl ?_
                refine zq_iand (pc' := 55) rfl rfl rfl ?_
                refine zq_ifeq_c (pc' := 58) (lt := [(0, .ref p0), (1, .int p1), (2, .int x6), (3, .int 4)]) (lf := [(3, .int 4), (2, .int x6), (0, .ref p0), (1, .int p1)]) rfl rfl rfl rfl (And.intro (fun c => ?_) (fun c => ?_))
                · have H := H.1 c
                  exact H
                · have H := H.2 c
                  refine zq_aload (pc' := 59) rfl rfl rfl rfl ?_
                  refine zq_ipush (pc' := 60) rfl rfl rfl ?_
                  refine zq_callv_c (pc' := 63) rfl rfl rfl rfl rfl (zE_mono H (fun r27 h26 H => ?_))
                  rcases r27 with v28 | e29
                  · obtain ⟨e0, H⟩ := H
                    refine And.intro e0 ?_
                    exact H
                  · exact H
            · exact H
          · have H := H.2 c
            refine zq_ipush (pc' := 33) rfl rfl rfl ?_
            refine zq_goto (pc' := 51) rfl rfl rfl ?_
            refine zq_istore (pc' := 52) rfl rfl rfl ?_
            refine zq_iload (pc' := 53) rfl rfl rfl rfl ?_
            refine zq_iload (pc' := 54) rfl rfl rfl rfl ?_
            refine zq_iand (pc' := 55) rfl rfl rfl ?_
            refine zq_ifeq_c (pc' := 58) (lt := [(0, .ref p0), (1, .int p1), (2, .int x6), (3, .int 2)]) (lf := [(3, .int 2), (2, .int x6), (0, .ref p0), (1, .int p1)]) rfl rfl rfl rfl (And.intro (fun c => ?_) (fun c => ?_))
            · have H := H.1 c
              exact H
            · have H := H.2 c
              refine zq_aload (pc' := 59) rfl rfl rfl rfl ?_
              refine zq_ipush (pc' := 60) rfl rfl rfl ?_
              refine zq_callv_c (pc' := 63) rfl rfl rfl rfl rfl (zE_mono H (fun r31 h30 H => ?_))
              rcases r31 with v32 | e33
              · obtain ⟨e0, H⟩ := H
                refine And.intro e0 ?_
                exact H
              · exact H
        · exact H
      · have H := H.2 c
        refine zq_ipush (pc' := 19) rfl rfl rfl ?_
        refine zq_goto (pc' := 51) rfl rfl rfl ?_
        refine zq_istore (pc' := 52) rfl rfl rfl ?_
        refine zq_iload (pc' := 53) rfl rfl rfl rfl ?_
        refine zq_iload (pc' := 54) rfl rfl rfl rfl ?_
        refine zq_iand (pc' := 55) rfl rfl rfl ?_
        refine zq_ifeq_c (pc' := 58) (lt := [(0, .ref p0), (1, .int p1), (2, .int x6), (3, .int 1)]) (lf := [(3, .int 1), (2, .int x6), (0, .ref p0), (1, .int p1)]) rfl rfl rfl rfl (And.intro (fun c => ?_) (fun c => ?_))
        · have H := H.1 c
          exact H
        · have H := H.2 c
          refine zq_aload (pc' := 59) rfl rfl rfl rfl ?_
          refine zq_ipush (pc' := 60) rfl rfl rfl ?_
          refine zq_callv_c (pc' := 63) rfl rfl rfl rfl rfl (zE_mono H (fun r35 h34 H => ?_))
          rcases r35 with v36 | e37
          · obtain ⟨e0, H⟩ := H
            refine And.intro e0 ?_
            exact H
          · exact H
    · exact H
  · exact H
theorem zr_X8_readLine_63 {d : Nat} {Q : zR → zH → Prop} {l0 : Nat} {l1 : Int32} {l2 : Int32} {l3 : Int32} {h : zH} (H :
    zbr (l3 ≤ 0)
    (zW (zE d) zm_X8_readLine Q (82, [(0, .ref l0), (1, .int l1), (2, .int l2), (3, .int l3)], [], h))
    (∃ x1 : Int32, zgf h l0 8 22 = some (.int x1) ∧
      zbr (x1 = 0)
      (zE d 243 [.ref l0, .int l3] h (fun r3 h2 => match r3 with
          | .inl v4 => v4 = none ∧ zE d 232 [.ref l0, .int 59] h2 (fun r7 h6 => match r7 with
              | .inl v8 => v8 = none ∧ Q (.inl (some (.int (l1 ||| l3)))) h6
              | .inr e9 => Q (.inr e9) h6)
          | .inr e5 => Q (.inr e5) h2))
      (zW (zE d) zm_X8_readLine Q (82, [(0, .ref l0), (1, .int l1), (2, .int l2), (3, .int l3)], [], h)))) : zW (zE d) zm_X8_readLine Q (63, [(0, .ref l0), (1, .int l1), (2, .int l2), (3, .int l3)], [], h) := by
  refine zq_iload (pc' := 64) rfl rfl rfl rfl ?_
  refine zq_ifle_c (pc' := 67) (lt := [(0, .ref l0), (1, .int l1), (2, .int l2), (3, .int l3)]) (lf := [(0, .ref l0), (1, .int l1), (2, .int l2), (3, .int l3)]) rfl rfl rfl rfl (And.intro (fun c => ?_) (fun c => ?_))
  · have H := H.1 c
    exact H
  · have H := H.2 c
    refine zq_aload (pc' := 68) rfl rfl rfl rfl ?_
    obtain ⟨x1, e0, H⟩ := H
    refine zq_getI (pc' := 71) rfl rfl rfl e0 ?_
    refine zq_ifne_c (pc' := 74) (lt := [(0, .ref l0), (1, .int l1), (2, .int l2), (3, .int l3)]) (lf := [(0, .ref l0), (1, .int l1), (2, .int l2), (3, .int l3)]) rfl rfl rfl rfl (And.intro (fun c => ?_) (fun c => ?_))
    · have H := H.1 c
      refine zq_aload (pc' := 75) rfl rfl rfl rfl ?_
      refine zq_iload (pc' := 76) rfl rfl rfl rfl ?_
      refine zq_callv (pc' := 79) rfl rfl rfl rfl rfl rfl (zE_mono H (fun r3 h2 H => ?_))
      rcases r3 with v4 | e5
      · obtain ⟨e0, H⟩ := H
        refine And.intro e0 ?_
        refine zq_goto (pc' := 100) rfl rfl rfl ?_
        refine zq_aload (pc' := 101) rfl rfl rfl rfl ?_
        refine zq_ipush (pc' := 103) rfl rfl rfl ?_
        refine zq_callv (pc' := 106) rfl rfl rfl rfl rfl rfl (zE_mono H (fun r7 h6 H => ?_))
        rcases r7 with v8 | e9
        · obtain ⟨e0, H⟩ := H
          refine And.intro e0 ?_
          refine zq_iload (pc' := 107) rfl rfl rfl rfl ?_
          refine zq_iload (pc' := 108) rfl rfl rfl rfl ?_
          refine zq_ior (pc' := 109) rfl rfl rfl ?_
          exact zq_iret rfl trivial H
        · exact H
      · exact H
    · have H := H.2 c
      exact H
theorem zr_X8_readLine_82 {d : Nat} {Q : zR → zH → Prop} {l0 : Nat} {l1 : Int32} {l2 : Int32} {l3 : Int32} {h : zH} (H :
    zbr (l2 = (-1))
    (zE d 228 [.ref l0, .int 1] h (fun r2 h1 => match r2 with
        | .inl v3 => v3 = none ∧ zE d 232 [.ref l0, .int 59] h1 (fun r6 h5 => match r6 with
            | .inl v7 => v7 = none ∧ Q (.inl (some (.int (l1 ||| l3)))) h5
            | .inr e8 => Q (.inr e8) h5)
        | .inr e4 => Q (.inr e4) h1))
    (zE d 241 [.ref l0, .int l2] h (fun r10 h9 => match r10 with
        | .inl v11 => v11 = none ∧ zE d 232 [.ref l0, .int 59] h9 (fun r14 h13 => match r14 with
            | .inl v15 => v15 = none ∧ Q (.inl (some (.int (l1 ||| l3)))) h13
            | .inr e16 => Q (.inr e16) h13)
        | .inr e12 => Q (.inr e12) h9))) : zW (zE d) zm_X8_readLine Q (82, [(0, .ref l0), (1, .int l1), (2, .int l2), (3, .int l3)], [], h) := by
  refine zq_iload (pc' := 83) rfl rfl rfl rfl ?_
  refine zq_ipushn (pc' := 84) rfl rfl rfl ?_
  refine zq_iceq (pc' := 87) rfl rfl rfl rfl (And.intro (fun c => ?_) (fun c => ?_))
  · have H := H.1 c
    refine zq_aload (pc' := 96) rfl rfl rfl rfl ?_
    refine zq_ipush (pc' := 97) rfl rfl rfl ?_
    refine zq_callv (pc' := 100) rfl rfl rfl rfl rfl rfl (zE_mono H (fun r2 h1 H => ?_))
    rcases r2 with v3 | e4
    · obtain ⟨e0, H⟩ := H
      refine And.intro e0 ?_
      refine zq_aload (pc' := 101) rfl rfl rfl rfl ?_
      refine zq_ipush (pc' := 103) rfl rfl rfl ?_
      refine zq_callv (pc' := 106) rfl rfl rfl rfl rfl rfl (zE_mono H (fun r6 h5 H => ?_))
      rcases r6 with v7 | e8
      · obtain ⟨e0, H⟩ := H
        refine And.intro e0 ?_
        refine zq_iload (pc' := 107) rfl rfl rfl rfl ?_
        refine zq_iload (pc' := 108) rfl rfl rfl rfl ?_
        refine zq_ior (pc' := 109) rfl rfl rfl ?_
        exact zq_iret rfl trivial H
      · exact H
    · exact H
  · have H := H.2 c
    refine zq_aload (pc' := 88) rfl rfl rfl rfl ?_
    refine zq_iload (pc' := 89) rfl rfl rfl rfl ?_
    refine zq_callv (pc' := 92) rfl rfl rfl rfl rfl rfl (zE_mono H (fun r10 h9 H => ?_))
    rcases r10 with v11 | e12
    · obtain ⟨e0, H⟩ := H
      refine And.intro e0 ?_
      refine zq_goto (pc' := 100) rfl rfl rfl ?_
      refine zq_aload (pc' := 101) rfl rfl rfl rfl ?_
      refine zq_ipush (pc' := 103) rfl rfl rfl ?_
      refine zq_callv (pc' := 106) rfl rfl rfl rfl rfl rfl (zE_mono H (fun r14 h13 H => ?_))
      rcases r14 with v15 | e16
      · obtain ⟨e0, H⟩ := H
        refine And.intro e0 ?_
        refine zq_iload (pc' := 107) rfl rfl rfl rfl ?_
        refine zq_iload (pc' := 108) rfl rfl rfl rfl ?_
        refine zq_ior (pc' := 109) rfl rfl rfl ?_
        exact zq_iret rfl trivial H
      · exact H
    · exact H
theorem zr_X8_drawer_0 {d : Nat} {Q : zR → zH → Prop} {p0 : Nat} {p1 : Int32} {h : zH} (H :
    ∃ h1, zpf h p0 8 4 (.int 0) = some h1 ∧
    zbr (p1 < 0)
    (zE d 215 [.ref p0, .int 1] h1 (fun r3 h2 => match r3 with
        | .inl v4 => ∃ x6 : Int32, v4 = some (.int x6) ∧ Q (.inl (some (.int x6))) h2
        | .inr e5 => Q (.inr e5) h2))
    (∃ x7 : Int32, zgf h1 p0 8 15 = some (.int x7) ∧
      zbr (p1 ≤ x7)
      (∃ h8, zpf h1 p0 8 15 (.int 0) = some h8 ∧
        ∃ h9, zpf h8 p0 8 17 (.int p1) = some h9 ∧
        ∃ h10, zpf h9 p0 8 16 (.int 0) = some h10 ∧
        ∃ h11, zpf h10 p0 8 22 (.int 0) = some h11 ∧
        ∃ h12, zpf h11 p0 8 24 (.int (-1)) = some h12 ∧
        zW (zE d) zm_X8_drawer Q (50, [(0, .ref p0), (2, .int 0)], [], h12))
      (zE d 215 [.ref p0, .int 1] h1 (fun r14 h13 => match r14 with
          | .inl v15 => ∃ x17 : Int32, v15 = some (.int x17) ∧ Q (.inl (some (.int x17))) h13
          | .inr e16 => Q (.inr e16) h13)))) : zW (zE d) zm_X8_drawer Q (0, [(0, .ref p0), (1, .int p1)], [], h) := by
  refine zq_aload (pc' := 1) rfl rfl rfl rfl ?_
  refine zq_ipush (pc' := 2) rfl rfl rfl ?_
  obtain ⟨h1, e0, H⟩ := H
  refine zq_put (pc' := 5) rfl rfl rfl trivial e0 ?_
  refine zq_iload (pc' := 6) rfl rfl rfl rfl ?_
  refine zq_iflt (pc' := 9) rfl rfl rfl rfl (And.intro (fun c => ?_) (fun c => ?_))
  · have H := H.1 c
    refine zq_aload (pc' := 18) rfl rfl rfl rfl ?_
    refine zq_ipush (pc' := 19) rfl rfl rfl ?_
    refine zq_calli (pc' := 22) rfl rfl rfl rfl rfl rfl (zE_mono H (fun r3 h2 H => ?_))
    rcases r3 with v4 | e5
    · obtain ⟨x6, e0, H⟩ := H
      refine Exists.intro x6 (And.intro e0 ?_)
      exact zq_iret rfl trivial H
    · exact H
  · have H := H.2 c
    refine zq_iload (pc' := 10) rfl rfl rfl rfl ?_
    refine zq_aload (pc' := 11) rfl rfl rfl rfl ?_
    obtain ⟨x7, e0, H⟩ := H
    refine zq_getI (pc' := 14) rfl rfl rfl e0 ?_
    refine zq_icle (pc' := 17) rfl rfl rfl rfl (And.intro (fun c => ?_) (fun c => ?_))
    · have H := H.1 c
      refine zq_aload (pc' := 24) rfl rfl rfl rfl ?_
      refine zq_ipush (pc' := 25) rfl rfl rfl ?_
      obtain ⟨h8, e0, H⟩ := H
      refine zq_put (pc' := 28) rfl rfl rfl trivial e0 ?_
      refine zq_aload (pc' := 29) rfl rfl rfl rfl ?_
      refine zq_iload (pc' := 30) rfl rfl rfl rfl ?_
      obtain ⟨h9, e0, H⟩ := H
      refine zq_put (pc' := 33) rfl rfl rfl trivial e0 ?_
      refine zq_aload (pc' := 34) rfl rfl rfl rfl ?_
      refine zq_ipush (pc' := 35) rfl rfl rfl ?_
      obtain ⟨h10, e0, H⟩ := H
      refine zq_put (pc' := 38) rfl rfl rfl trivial e0 ?_
      refine zq_aload (pc' := 39) rfl rfl rfl rfl ?_
      refine zq_ipush (pc' := 40) rfl rfl rfl ?_
      obtain ⟨h11, e0, H⟩ := H
      refine zq_put (pc' := 43) rfl rfl rfl trivial e0 ?_
      refine zq_aload (pc' := 44) rfl rfl rfl rfl ?_
      refine zq_ipushn (pc' := 45) rfl rfl rfl ?_
      obtain ⟨h12, e0, H⟩ := H
      refine zq_put (pc' := 48) rfl rfl rfl trivial e0 ?_
      refine zq_ipush (pc' := 49) rfl rfl rfl ?_
      refine zq_istore_c (pc' := 50) rfl rfl ?_
      exact H
    · have H := H.2 c
      refine zq_aload (pc' := 18) rfl rfl rfl rfl ?_
      refine zq_ipush (pc' := 19) rfl rfl rfl ?_
      refine zq_calli (pc' := 22) rfl rfl rfl rfl rfl rfl (zE_mono H (fun r14 h13 H => ?_))
      rcases r14 with v15 | e16
      · obtain ⟨x17, e0, H⟩ := H
        refine Exists.intro x17 (And.intro e0 ?_)
        exact zq_iret rfl trivial H
      · exact H
theorem zr_X8_drawer_50 {d : Nat} {Q : zR → zH → Prop} {l0 : Nat} {l2 : Int32} {h : zH} (H :
    zbr (4 ≤ l2)
    (zE d 227 [.ref l0] h (fun r2 h1 => match r2 with
        | .inl v3 => v3 = none ∧ zW (zE d) zm_X8_drawer Q (76, [(0, .ref l0), (2, .int 0)], [], h1)
        | .inr e4 => Q (.inr e4) h1))
    (∃ a5 : Nat, zgf h l0 8 5 = some (.ref a5) ∧
      ∃ h6, zis h a5 (4 + l2) 0 = some h6 ∧
      zW (zE d) zm_X8_drawer Q (50, [(0, .ref l0), (2, .int (l2 + 1))], [], h6))) : zW (zE d) zm_X8_drawer Q (50, [(0, .ref l0), (2, .int l2)], [], h) := by
  refine zq_iload (pc' := 51) rfl rfl rfl rfl ?_
  refine zq_ipush (pc' := 52) rfl rfl rfl ?_
  refine zq_icge (pc' := 55) rfl rfl rfl rfl (And.intro (fun c => ?_) (fun c => ?_))
  · have H := H.1 c
    refine zq_aload (pc' := 71) rfl rfl rfl rfl ?_
    refine zq_callv (pc' := 74) rfl rfl rfl rfl rfl rfl (zE_mono H (fun r2 h1 H => ?_))
    rcases r2 with v3 | e4
    · obtain ⟨e0, H⟩ := H
      refine And.intro e0 ?_
      refine zq_ipush (pc' := 75) rfl rfl rfl ?_
      refine zq_istore_c (pc' := 76) rfl rfl ?_
      exact H
    · exact H
  · have H := H.2 c
    refine zq_aload (pc' := 56) rfl rfl rfl rfl ?_
    obtain ⟨a5, e0, H⟩ := H
    refine zq_getR (pc' := 59) rfl rfl rfl e0 ?_
    refine zq_ipush (pc' := 60) rfl rfl rfl ?_
    refine zq_iload (pc' := 61) rfl rfl rfl rfl ?_
    refine zq_iadd (pc' := 62) rfl rfl rfl ?_
    refine zq_ipush (pc' := 63) rfl rfl rfl ?_
    obtain ⟨h6, e0, H⟩ := H
    refine zq_iast (pc' := 64) rfl rfl rfl e0 ?_
    refine zq_iinc (pc' := 67) rfl rfl rfl rfl ?_
    refine zq_goto_c (pc' := 50) rfl rfl ?_
    exact H
theorem zr_X8_drawer_76 {d : Nat} {Q : zR → zH → Prop} {l0 : Nat} {l2 : Int32} {h : zH} (H :
    ∃ x1 : Int32, zgf h l0 8 22 = some (.int x1) ∧
    zbr (x1 = 0)
    (∃ x2 : Int32, zgf h l0 8 18 = some (.int x2) ∧
      zbr (x2 = 0)
      (zW (zE d) zm_X8_drawer Q (99, [(0, .ref l0)], [], h))
      (zE d 244 [.ref l0, .int l2] h (fun r4 h3 => match r4 with
          | .inl v5 => ∃ x7 : Int32, v5 = some (.int x7) ∧ zW (zE d) zm_X8_drawer Q (76, [(0, .ref l0), (2, .int x7)], [], h3)
          | .inr e6 => Q (.inr e6) h3)))
    (zW (zE d) zm_X8_drawer Q (99, [(0, .ref l0)], [], h))) : zW (zE d) zm_X8_drawer Q (76, [(0, .ref l0), (2, .int l2)], [], h) := by
  refine zq_aload (pc' := 77) rfl rfl rfl rfl ?_
  obtain ⟨x1, e0, H⟩ := H
  refine zq_getI (pc' := 80) rfl rfl rfl e0 ?_
  refine zq_ifne_c (pc' := 83) (lt := [(0, .ref l0)]) (lf := [(0, .ref l0), (2, .int l2)]) rfl rfl rfl rfl (And.intro (fun c => ?_) (fun c => ?_))
  · have H := H.1 c
    refine zq_aload (pc' := 84) rfl rfl rfl rfl ?_
    obtain ⟨x2, e0, H⟩ := H
    refine zq_getI (pc' := 87) rfl rfl rfl e0 ?_
    refine zq_ifeq_c (pc' := 90) (lt := [(0, .ref l0)]) (lf := [(0, .ref l0), (2, .int l2)]) rfl rfl rfl rfl (And.intro (fun c => ?_) (fun c => ?_))
    · have H := H.1 c
      exact H
    · have H := H.2 c
      refine zq_aload (pc' := 91) rfl rfl rfl rfl ?_
      refine zq_iload (pc' := 92) rfl rfl rfl rfl ?_
      refine zq_calli (pc' := 95) rfl rfl rfl rfl rfl rfl (zE_mono H (fun r4 h3 H => ?_))
      rcases r4 with v5 | e6
      · obtain ⟨x7, e0, H⟩ := H
        refine Exists.intro x7 (And.intro e0 ?_)
        refine zq_istore (pc' := 96) rfl rfl rfl ?_
        refine zq_goto_c (pc' := 76) rfl rfl ?_
        exact H
      · exact H
  · have H := H.2 c
    exact H
theorem zr_X8_drawer_99 {d : Nat} {Q : zR → zH → Prop} {l0 : Nat} {h : zH} (H :
    ∃ x1 : Int32, zgf h l0 8 22 = some (.int x1) ∧
    zbr (x1 = 0)
    (zE d 247 [.ref l0] h (fun r3 h2 => match r3 with
        | .inl v4 => v4 = none ∧ Q (.inl (some (.int 0))) h2
        | .inr e5 => Q (.inr e5) h2))
    (∃ x6 : Int32, zgf h l0 8 23 = some (.int x6) ∧
      ∃ h7, zpf h l0 8 24 (.int x6) = some h7 ∧
      ∃ a8 : Nat, zgf h7 l0 8 13 = some (.ref a8) ∧
      ∃ x9, zia h7 a8 0 = some x9 ∧
      ∃ h10, zis h7 a8 0 (x9 + 1) = some h10 ∧
      ∃ x11 : Int32, zgf h10 l0 8 22 = some (.int x11) ∧
      Q (.inl (some (.int x11))) h10)) : zW (zE d) zm_X8_drawer Q (99, [(0, .ref l0)], [], h) := by
  refine zq_aload (pc' := 100) rfl rfl rfl rfl ?_
  obtain ⟨x1, e0, H⟩ := H
  refine zq_getI (pc' := 103) rfl rfl rfl e0 ?_
  refine zq_ifeq (pc' := 106) rfl rfl rfl rfl (And.intro (fun c => ?_) (fun c => ?_))
  · have H := H.1 c
    refine zq_aload (pc' := 130) rfl rfl rfl rfl ?_
    refine zq_callv (pc' := 133) rfl rfl rfl rfl rfl rfl (zE_mono H (fun r3 h2 H => ?_))
    rcases r3 with v4 | e5
    · obtain ⟨e0, H⟩ := H
      refine And.intro e0 ?_
      refine zq_ipush (pc' := 134) rfl rfl rfl ?_
      exact zq_iret rfl trivial H
    · exact H
  · have H := H.2 c
    refine zq_aload (pc' := 107) rfl rfl rfl rfl ?_
    refine zq_aload (pc' := 108) rfl rfl rfl rfl ?_
    obtain ⟨x6, e0, H⟩ := H
    refine zq_getI (pc' := 111) rfl rfl rfl e0 ?_
    obtain ⟨h7, e0, H⟩ := H
    refine zq_put (pc' := 114) rfl rfl rfl trivial e0 ?_
    refine zq_aload (pc' := 115) rfl rfl rfl rfl ?_
    obtain ⟨a8, e0, H⟩ := H
    refine zq_getR (pc' := 118) rfl rfl rfl e0 ?_
    refine zq_ipush (pc' := 119) rfl rfl rfl ?_
    refine zq_dup2 (pc' := 120) rfl rfl rfl rfl rfl ?_
    obtain ⟨x9, e0, H⟩ := H
    refine zq_iald (pc' := 121) rfl rfl rfl e0 ?_
    refine zq_ipush (pc' := 122) rfl rfl rfl ?_
    refine zq_iadd (pc' := 123) rfl rfl rfl ?_
    obtain ⟨h10, e0, H⟩ := H
    refine zq_iast (pc' := 124) rfl rfl rfl e0 ?_
    refine zq_aload (pc' := 125) rfl rfl rfl rfl ?_
    obtain ⟨x11, e0, H⟩ := H
    refine zq_getI (pc' := 128) rfl rfl rfl e0 ?_
    exact zq_iret rfl trivial H
theorem zr_X8_takeHalf_0 {d : Nat} {Q : zR → zH → Prop} {p0 : Nat} {h : zH} (H :
    zW (zE d) zm_X8_takeHalf Q (2, [(0, .ref p0), (1, .int 0)], [], h)) : zW (zE d) zm_X8_takeHalf Q (0, [(0, .ref p0)], [], h) := by
  refine zq_ipush (pc' := 1) rfl rfl rfl ?_
  refine zq_istore_c (pc' := 2) rfl rfl ?_
  exact H
theorem zr_X8_takeHalf_2 {d : Nat} {Q : zR → zH → Prop} {l0 : Nat} {l1 : Int32} {h : zH} (H :
    ∃ x1, zal h l0 = some x1 ∧
    zbr ((x1 / 2) ≤ l1)
    (Q (.inl none) h)
    (∃ x2, zal h l0 = some x2 ∧
      ∃ x3, zia h l0 ((x2 / 2) + l1) = some x3 ∧
      ∃ h4, zis h l0 l1 x3 = some h4 ∧
      zW (zE d) zm_X8_takeHalf Q (2, [(0, .ref l0), (1, .int (l1 + 1))], [], h4))) : zW (zE d) zm_X8_takeHalf Q (2, [(0, .ref l0), (1, .int l1)], [], h) := by
  refine zq_iload (pc' := 3) rfl rfl rfl rfl ?_
  refine zq_aload (pc' := 4) rfl rfl rfl rfl ?_
  obtain ⟨x1, e0, H⟩ := H
  refine zq_alen (pc' := 5) rfl rfl rfl e0 ?_
  refine zq_ipush (pc' := 6) rfl rfl rfl ?_
  refine zq_idiv (pc' := 7) rfl rfl rfl (by decide) ?_
  refine zq_icge (pc' := 10) rfl rfl rfl rfl (And.intro (fun c => ?_) (fun c => ?_))
  · have H := H.1 c
    exact zq_vret rfl H
  · have H := H.2 c
    refine zq_aload (pc' := 11) rfl rfl rfl rfl ?_
    refine zq_iload (pc' := 12) rfl rfl rfl rfl ?_
    refine zq_aload (pc' := 13) rfl rfl rfl rfl ?_
    refine zq_aload (pc' := 14) rfl rfl rfl rfl ?_
    obtain ⟨x2, e0, H⟩ := H
    refine zq_alen (pc' := 15) rfl rfl rfl e0 ?_
    refine zq_ipush (pc' := 16) rfl rfl rfl ?_
    refine zq_idiv (pc' := 17) rfl rfl rfl (by decide) ?_
    refine zq_iload (pc' := 18) rfl rfl rfl rfl ?_
    refine zq_iadd (pc' := 19) rfl rfl rfl ?_
    obtain ⟨x3, e0, H⟩ := H
    refine zq_iald (pc' := 20) rfl rfl rfl e0 ?_
    obtain ⟨h4, e0, H⟩ := H
    refine zq_iast (pc' := 21) rfl rfl rfl e0 ?_
    refine zq_iinc (pc' := 24) rfl rfl rfl rfl ?_
    refine zq_goto_c (pc' := 2) rfl rfl ?_
    exact H
theorem zr_X8_takeOver_0 {d : Nat} {Q : zR → zH → Prop} {p0 : Nat} {h : zH} (H :
    ∃ a1 : Nat, zgf h p0 8 5 = some (.ref a1) ∧
    zE d 246 [.ref a1] h (fun r3 h2 => match r3 with
      | .inl v4 => v4 = none ∧ ∃ a6 : Nat, zgf h2 p0 8 6 = some (.ref a6) ∧
        zE d 246 [.ref a6] h2 (fun r8 h7 => match r8 with
          | .inl v9 => v9 = none ∧ ∃ a11 : Nat, zgf h7 p0 8 7 = some (.ref a11) ∧
            zE d 246 [.ref a11] h7 (fun r13 h12 => match r13 with
              | .inl v14 => v14 = none ∧ ∃ a16 : Nat, zgf h12 p0 8 8 = some (.ref a16) ∧
                zE d 246 [.ref a16] h12 (fun r18 h17 => match r18 with
                  | .inl v19 => v19 = none ∧ ∃ a21 : Nat, zgf h17 p0 8 9 = some (.ref a21) ∧
                    zE d 246 [.ref a21] h17 (fun r23 h22 => match r23 with
                      | .inl v24 => v24 = none ∧ ∃ a26 : Nat, zgf h22 p0 8 10 = some (.ref a26) ∧
                        zE d 246 [.ref a26] h22 (fun r28 h27 => match r28 with
                          | .inl v29 => v29 = none ∧ ∃ a31 : Nat, zgf h27 p0 8 11 = some (.ref a31) ∧
                            zE d 246 [.ref a31] h27 (fun r33 h32 => match r33 with
                              | .inl v34 => v34 = none ∧ ∃ a36 : Nat, zgf h32 p0 8 12 = some (.ref a36) ∧
                                zE d 246 [.ref a36] h32 (fun r38 h37 => match r38 with
                                  | .inl v39 => v39 = none ∧ ∃ h41, zpf h37 p0 8 31 (.int 0) = some h41 ∧
                                    zW (zE d) zm_X8_takeOver Q (63, [(0, .ref p0), (1, .int 0)], [], h41)
                                  | .inr e40 => Q (.inr e40) h37)
                              | .inr e35 => Q (.inr e35) h32)
                          | .inr e30 => Q (.inr e30) h27)
                      | .inr e25 => Q (.inr e25) h22)
                  | .inr e20 => Q (.inr e20) h17)
              | .inr e15 => Q (.inr e15) h12)
          | .inr e10 => Q (.inr e10) h7)
      | .inr e5 => Q (.inr e5) h2)) : zW (zE d) zm_X8_takeOver Q (0, [(0, .ref p0)], [], h) := by
  refine zq_aload (pc' := 1) rfl rfl rfl rfl ?_
  obtain ⟨a1, e0, H⟩ := H
  refine zq_getR (pc' := 4) rfl rfl rfl e0 ?_
  refine zq_callv (pc' := 7) rfl rfl rfl rfl rfl rfl (zE_mono H (fun r3 h2 H => ?_))
  rcases r3 with v4 | e5
  · obtain ⟨e0, H⟩ := H
    refine And.intro e0 ?_
    refine zq_aload (pc' := 8) rfl rfl rfl rfl ?_
    obtain ⟨a6, e0, H⟩ := H
    refine zq_getR (pc' := 11) rfl rfl rfl e0 ?_
    refine zq_callv (pc' := 14) rfl rfl rfl rfl rfl rfl (zE_mono H (fun r8 h7 H => ?_))
    rcases r8 with v9 | e10
    · obtain ⟨e0, H⟩ := H
      refine And.intro e0 ?_
      refine zq_aload (pc' := 15) rfl rfl rfl rfl ?_
      obtain ⟨a11, e0, H⟩ := H
      refine zq_getR (pc' := 18) rfl rfl rfl e0 ?_
      refine zq_callv (pc' := 21) rfl rfl rfl rfl rfl rfl (zE_mono H (fun r13 h12 H => ?_))
      rcases r13 with v14 | e15
      · obtain ⟨e0, H⟩ := H
        refine And.intro e0 ?_
        refine zq_aload (pc' := 22) rfl rfl rfl rfl ?_
        obtain ⟨a16, e0, H⟩ := H
        refine zq_getR (pc' := 25) rfl rfl rfl e0 ?_
        refine zq_callv (pc' := 28) rfl rfl rfl rfl rfl rfl (zE_mono H (fun r18 h17 H => ?_))
        rcases r18 with v19 | e20
        · obtain ⟨e0, H⟩ := H
          refine And.intro e0 ?_
          refine zq_aload (pc' := 29) rfl rfl rfl rfl ?_
          obtain ⟨a21, e0, H⟩ := H
          refine zq_getR (pc' := 32) rfl rfl rfl e0 ?_
          refine zq_callv (pc' := 35) rfl rfl rfl rfl rfl rfl (zE_mono H (fun r23 h22 H => ?_))
          rcases r23 with v24 | e25
          · obtain ⟨e0, H⟩ := H
            refine And.intro e0 ?_
            refine zq_aload (pc' := 36) rfl rfl rfl rfl ?_
            obtain ⟨a26, e0, H⟩ := H
            refine zq_getR (pc' := 39) rfl rfl rfl e0 ?_
            refine zq_callv (pc' := 42) rfl rfl rfl rfl rfl rfl (zE_mono H (fun r28 h27 H => ?_))
            rcases r28 with v29 | e30
            · obtain ⟨e0, H⟩ := H
              refine And.intro e0 ?_
              refine zq_aload (pc' := 43) rfl rfl rfl rfl ?_
              obtain ⟨a31, e0, H⟩ := H
              refine zq_getR (pc' := 46) rfl rfl rfl e0 ?_
              refine zq_callv (pc' := 49) rfl rfl rfl rfl rfl rfl (zE_mono H (fun r33 h32 H => ?_))
              rcases r33 with v34 | e35
              · obtain ⟨e0, H⟩ := H
                refine And.intro e0 ?_
                refine zq_aload (pc' := 50) rfl rfl rfl rfl ?_
                obtain ⟨a36, e0, H⟩ := H
                refine zq_getR (pc' := 53) rfl rfl rfl e0 ?_
                refine zq_callv (pc' := 56) rfl rfl rfl rfl rfl rfl (zE_mono H (fun r38 h37 H => ?_))
                rcases r38 with v39 | e40
                · obtain ⟨e0, H⟩ := H
                  refine And.intro e0 ?_
                  refine zq_aload (pc' := 57) rfl rfl rfl rfl ?_
                  refine zq_ipush (pc' := 58) rfl rfl rfl ?_
                  obtain ⟨h41, e0, H⟩ := H
                  refine zq_put (pc' := 61) rfl rfl rfl trivial e0 ?_
                  refine zq_ipush (pc' := 62) rfl rfl rfl ?_
                  refine zq_istore_c (pc' := 63) rfl rfl ?_
                  exact H
                · exact H
              · exact H
            · exact H
          · exact H
        · exact H
      · exact H
    · exact H
  · exact H
theorem zr_X8_takeOver_63 {d : Nat} {Q : zR → zH → Prop} {l0 : Nat} {l1 : Int32} {h : zH} (H :
    zbr (4 ≤ l1)
    (∃ h1, zpf h l0 8 32 (.int 0) = some h1 ∧
      ∃ h2, zpf h1 l0 8 33 (.int 0) = some h2 ∧
      ∃ h3, zpf h2 l0 8 52 (.int 0) = some h3 ∧
      Q (.inl none) h3)
    (zW (zE d) zm_X8_takeOver Q (70, [(0, .ref l0), (1, .int l1), (2, .int 0)], [], h))) : zW (zE d) zm_X8_takeOver Q (63, [(0, .ref l0), (1, .int l1)], [], h) := by
  refine zq_iload (pc' := 64) rfl rfl rfl rfl ?_
  refine zq_ipush (pc' := 65) rfl rfl rfl ?_
  refine zq_icge (pc' := 68) rfl rfl rfl rfl (And.intro (fun c => ?_) (fun c => ?_))
  · have H := H.1 c
    refine zq_aload (pc' := 210) rfl rfl rfl rfl ?_
    refine zq_ipush (pc' := 211) rfl rfl rfl ?_
    obtain ⟨h1, e0, H⟩ := H
    refine zq_put (pc' := 214) rfl rfl rfl trivial e0 ?_
    refine zq_aload (pc' := 215) rfl rfl rfl rfl ?_
    refine zq_ipush (pc' := 216) rfl rfl rfl ?_
    obtain ⟨h2, e0, H⟩ := H
    refine zq_put (pc' := 219) rfl rfl rfl trivial e0 ?_
    refine zq_aload (pc' := 220) rfl rfl rfl rfl ?_
    refine zq_ipush (pc' := 221) rfl rfl rfl ?_
    obtain ⟨h3, e0, H⟩ := H
    refine zq_put (pc' := 224) rfl rfl rfl (Or.inl rfl) e0 ?_
    exact zq_vret rfl H
  · have H := H.2 c
    refine zq_ipush (pc' := 69) rfl rfl rfl ?_
    refine zq_istore_c (pc' := 70) rfl rfl ?_
    exact H
theorem zr_X8_takeOver_70 {d : Nat} {Q : zR → zH → Prop} {l0 : Nat} {l1 : Int32} {l2 : Int32} {h : zH} (H :
    zbr (16 ≤ l2)
    (∃ a1 : Nat, zgf h l0 8 28 = some (.ref a1) ∧
      ∃ h2, zis h a1 l1 0 = some h2 ∧
      ∃ a3 : Nat, zgf h2 l0 8 29 = some (.ref a3) ∧
      ∃ h4, zis h2 a3 l1 0 = some h4 ∧
      ∃ a5 : Nat, zgf h4 l0 8 5 = some (.ref a5) ∧
      ∃ x6, zia h4 a5 0 = some x6 ∧
      zbr (x6 ≤ l1)
      (zW (zE d) zm_X8_takeOver Q (63, [(0, .ref l0), (1, .int (l1 + 1))], [], h4))
      (∃ a7 : Nat, zgf h4 l0 8 7 = some (.ref a7) ∧
        ∃ x8, zia h4 a7 l1 = some x8 ∧
        zE d 253 [.ref l0, .int l1, .int x8] h4 (fun r10 h9 => match r10 with
          | .inl v11 => v11 = none ∧ zW (zE d) zm_X8_takeOver Q (63, [(0, .ref l0), (1, .int (l1 + 1))], [], h9)
          | .inr e12 => Q (.inr e12) h9)))
    (∃ a13 : Nat, zgf h l0 8 5 = some (.ref a13) ∧
      ∃ x14, zia h a13 0 = some x14 ∧
      zbr (x14 ≤ l1)
      (zW (zE d) zm_X8_takeOver Q (100, [(0, .ref l0), (1, .int l1), (2, .int l2)], [], h))
      (∃ a15 : Nat, zgf h l0 8 7 = some (.ref a15) ∧
        ∃ x16, zia h a15 l1 = some x16 ∧
        zbr (x16 ≤ l2)
        (zW (zE d) zm_X8_takeOver Q (100, [(0, .ref l0), (1, .int l1), (2, .int l2)], [], h))
        (∃ a17 : Nat, zgf h l0 8 26 = some (.ref a17) ∧
          zbr ((1 : Int32) = 0)
          (∃ h18, zis h a17 ((16 * l1) + l2) 0 = some h18 ∧
            ∃ a19 : Nat, zgf h18 l0 8 27 = some (.ref a19) ∧
            zbr ((1 : Int32) = 0)
            (∃ h20, zis h18 a19 ((16 * l1) + l2) 0 = some h20 ∧
              zW (zE d) zm_X8_takeOver Q (70, [(0, .ref l0), (1, .int l1), (2, .int (l2 + 1))], [], h20))
            (∃ a21 : Nat, zgf h18 l0 8 9 = some (.ref a21) ∧
              ∃ x22, zia h18 a21 ((16 * l1) + l2) = some x22 ∧
              ∃ h23, zis h18 a19 ((16 * l1) + l2) x22 = some h23 ∧
              zW (zE d) zm_X8_takeOver Q (70, [(0, .ref l0), (1, .int l1), (2, .int (l2 + 1))], [], h23)))
          (∃ a24 : Nat, zgf h l0 8 8 = some (.ref a24) ∧
            ∃ x25, zia h a24 ((16 * l1) + l2) = some x25 ∧
            ∃ h26, zis h a17 ((16 * l1) + l2) x25 = some h26 ∧
            ∃ a27 : Nat, zgf h26 l0 8 27 = some (.ref a27) ∧
            zbr ((1 : Int32) = 0)
            (∃ h28, zis h26 a27 ((16 * l1) + l2) 0 = some h28 ∧
              zW (zE d) zm_X8_takeOver Q (70, [(0, .ref l0), (1, .int l1), (2, .int (l2 + 1))], [], h28))
            (∃ a29 : Nat, zgf h26 l0 8 9 = some (.ref a29) ∧
              ∃ x30, zia h26 a29 ((16 * l1) + l2) = some x30 ∧
              ∃ h31, zis h26 a27 ((16 * l1) + l2) x30 = some h31 ∧
              zW (zE d) zm_X8_takeOver Q (70, [(0, .ref l0), (1, .int l1), (2, .int (l2 + 1))], [], h31))))))) : zW (zE d) zm_X8_takeOver Q (70, [(0, .ref l0), (1, .int l1), (2, .int l2)], [], h) := by
  refine zq_iload (pc' := 71) rfl rfl rfl rfl ?_
  refine zq_ipush (pc' := 73) rfl rfl rfl ?_
  refine zq_icge (pc' := 76) rfl rfl rfl rfl (And.intro (fun c => ?_) (fun c => ?_))
  · have H := H.1 c
    refine zq_aload (pc' := 169) rfl rfl rfl rfl ?_
    obtain ⟨a1, e0, H⟩ := H
    refine zq_getR (pc' := 172) rfl rfl rfl e0 ?_
    refine zq_iload (pc' := 173) rfl rfl rfl rfl ?_
    refine zq_ipush (pc' := 174) rfl rfl rfl ?_
    obtain ⟨h2, e0, H⟩ := H
    refine zq_iast (pc' := 175) rfl rfl rfl e0 ?_
    refine zq_aload (pc' := 176) rfl rfl rfl rfl ?_
    obtain ⟨a3, e0, H⟩ := H
    refine zq_getR (pc' := 179) rfl rfl rfl e0 ?_
    refine zq_iload (pc' := 180) rfl rfl rfl rfl ?_
    refine zq_ipush (pc' := 181) rfl rfl rfl ?_
    obtain ⟨h4, e0, H⟩ := H
    refine zq_iast (pc' := 182) rfl rfl rfl e0 ?_
    refine zq_iload (pc' := 183) rfl rfl rfl rfl ?_
    refine zq_aload (pc' := 184) rfl rfl rfl rfl ?_
    obtain ⟨a5, e0, H⟩ := H
    refine zq_getR (pc' := 187) rfl rfl rfl e0 ?_
    refine zq_ipush (pc' := 188) rfl rfl rfl ?_
    obtain ⟨x6, e0, H⟩ := H
    refine zq_iald (pc' := 189) rfl rfl rfl e0 ?_
    refine zq_icge (pc' := 192) rfl rfl rfl rfl (And.intro (fun c => ?_) (fun c => ?_))
    · have H := H.1 c
      refine zq_iinc (pc' := 206) rfl rfl rfl rfl ?_
      refine zq_goto_c (pc' := 63) rfl rfl ?_
      exact H
    · have H := H.2 c
      refine zq_aload (pc' := 193) rfl rfl rfl rfl ?_
      refine zq_iload (pc' := 194) rfl rfl rfl rfl ?_
      refine zq_aload (pc' := 195) rfl rfl rfl rfl ?_
      obtain ⟨a7, e0, H⟩ := H
      refine zq_getR (pc' := 198) rfl rfl rfl e0 ?_
      refine zq_iload (pc' := 199) rfl rfl rfl rfl ?_
      obtain ⟨x8, e0, H⟩ := H
      refine zq_iald (pc' := 200) rfl rfl rfl e0 ?_
      refine zq_callv (pc' := 203) rfl rfl rfl rfl rfl rfl (zE_mono H (fun r10 h9 H => ?_))
      rcases r10 with v11 | e12
      · obtain ⟨e0, H⟩ := H
        refine And.intro e0 ?_
        refine zq_iinc (pc' := 206) rfl rfl rfl rfl ?_
        refine zq_goto_c (pc' := 63) rfl rfl ?_
        exact H
      · exact H
  · have H := H.2 c
    refine zq_iload (pc' := 77) rfl rfl rfl rfl ?_
    refine zq_aload (pc' := 78) rfl rfl rfl rfl ?_
    obtain ⟨a13, e0, H⟩ := H
    refine zq_getR (pc' := 81) rfl rfl rfl e0 ?_
    refine zq_ipush (pc' := 82) rfl rfl rfl ?_
    obtain ⟨x14, e0, H⟩ := H
    refine zq_iald (pc' := 83) rfl rfl rfl e0 ?_
    refine zq_icge_c (pc' := 86) (lt := [(0, .ref l0), (1, .int l1), (2, .int l2)]) (lf := [(0, .ref l0), (1, .int l1), (2, .int l2)]) rfl rfl rfl rfl (And.intro (fun c => ?_) (fun c => ?_))
    · have H := H.1 c
      exact H
    · have H := H.2 c
      refine zq_iload (pc' := 87) rfl rfl rfl rfl ?_
      refine zq_aload (pc' := 88) rfl rfl rfl rfl ?_
      obtain ⟨a15, e0, H⟩ := H
      refine zq_getR (pc' := 91) rfl rfl rfl e0 ?_
      refine zq_iload (pc' := 92) rfl rfl rfl rfl ?_
      obtain ⟨x16, e0, H⟩ := H
      refine zq_iald (pc' := 93) rfl rfl rfl e0 ?_
      refine zq_icge_c (pc' := 96) (lt := [(0, .ref l0), (1, .int l1), (2, .int l2)]) (lf := [(0, .ref l0), (1, .int l1), (2, .int l2)]) rfl rfl rfl rfl (And.intro (fun c => ?_) (fun c => ?_))
      · have H := H.1 c
        exact H
      · have H := H.2 c
        refine zq_ipush (pc' := 97) rfl rfl rfl ?_
        refine zq_goto (pc' := 101) rfl rfl rfl ?_
        refine zq_istore (pc' := 102) rfl rfl rfl ?_
        refine zq_aload (pc' := 103) rfl rfl rfl rfl ?_
        obtain ⟨a17, e0, H⟩ := H
        refine zq_getR (pc' := 106) rfl rfl rfl e0 ?_
        refine zq_ipush (pc' := 108) rfl rfl rfl ?_
        refine zq_iload (pc' := 109) rfl rfl rfl rfl ?_
        refine zq_imul (pc' := 110) rfl rfl rfl ?_
        refine zq_iload (pc' := 111) rfl rfl rfl rfl ?_
        refine zq_iadd (pc' := 112) rfl rfl rfl ?_
        refine zq_iload (pc' := 113) rfl rfl rfl rfl ?_
        refine zq_ifeq (pc' := 116) rfl rfl rfl rfl (And.intro (fun c => ?_) (fun c => ?_))
        · have H := H.1 c
          refine zq_ipush (pc' := 131) rfl rfl rfl ?_
          obtain ⟨h18, e0, H⟩ := H
          refine zq_iast (pc' := 132) rfl rfl rfl e0 ?_
          refine zq_aload (pc' := 133) rfl rfl rfl rfl ?_
          obtain ⟨a19, e0, H⟩ := H
          refine zq_getR (pc' := 136) rfl rfl rfl e0 ?_
          refine zq_ipush (pc' := 138) rfl rfl rfl ?_
          refine zq_iload (pc' := 139) rfl rfl rfl rfl ?_
          refine zq_imul (pc' := 140) rfl rfl rfl ?_
          refine zq_iload (pc' := 141) rfl rfl rfl rfl ?_
          refine zq_iadd (pc' := 142) rfl rfl rfl ?_
          refine zq_iload (pc' := 143) rfl rfl rfl rfl ?_
          refine zq_ifeq (pc' := 146) rfl rfl rfl rfl (And.intro (fun c => ?_) (fun c => ?_))
          · have H := H.1 c
            refine zq_ipush (pc' := 161) rfl rfl rfl ?_
            obtain ⟨h20, e0, H⟩ := H
            refine zq_iast (pc' := 162) rfl rfl rfl e0 ?_
            refine zq_iinc (pc' := 165) rfl rfl rfl rfl ?_
            refine zq_goto_c (pc' := 70) rfl rfl ?_
            exact H
          · have H := H.2 c
            refine zq_aload (pc' := 147) rfl rfl rfl rfl ?_
            obtain ⟨a21, e0, H⟩ := H
            refine zq_getR (pc' := 150) rfl rfl rfl e0 ?_
            refine zq_ipush (pc' := 152) rfl rfl rfl ?_
            refine zq_iload (pc' := 153) rfl rfl rfl rfl ?_
            refine zq_imul (pc' := 154) rfl rfl rfl ?_
            refine zq_iload (pc' := 155) rfl rfl rfl rfl ?_
            refine zq_iadd (pc' := 156) rfl rfl rfl ?_
            obtain ⟨x22, e0, H⟩ := H
            refine zq_iald (pc' := 157) rfl rfl rfl e0 ?_
            refine zq_goto (pc' := 161) rfl rfl rfl ?_
            obtain ⟨h23, e0, H⟩ := H
            refine zq_iast (pc' := 162) rfl rfl rfl e0 ?_
            refine zq_iinc (pc' := 165) rfl rfl rfl rfl ?_
            refine zq_goto_c (pc' := 70) rfl rfl ?_
            exact H
        · have H := H.2 c
          refine zq_aload (pc' := 117) rfl rfl rfl rfl ?_
          obtain ⟨a24, e0, H⟩ := H
          refine zq_getR (pc' := 120) rfl rfl rfl e0 ?_
          refine zq_ipush (pc' := 122) rfl rfl rfl ?_
          refine zq_iload (pc' := 123) rfl rfl rfl rfl ?_
          refine zq_imul (pc' := 124) rfl rfl rfl ?_
          refine zq_iload (pc' := 125) rfl rfl rfl rfl ?_
          refine zq_iadd (pc' := 126) rfl rfl rfl ?_
          obtain ⟨x25, e0, H⟩ := H
          refine zq_iald (pc' := 127) rfl rfl rfl e0 ?_
          refine zq_goto (pc' := 131) rfl rfl rfl ?_
          obtain ⟨h26, e0, H⟩ := H
          refine zq_iast (pc' := 132) rfl rfl rfl e0 ?_
          refine zq_aload (pc' := 133) rfl rfl rfl rfl ?_
          obtain ⟨a27, e0, H⟩ := H
          refine zq_getR (pc' := 136) rfl rfl rfl e0 ?_
          refine zq_ipush (pc' := 138) rfl rfl rfl ?_
          refine zq_iload (pc' := 139) rfl rfl rfl rfl ?_
          refine zq_imul (pc' := 140) rfl rfl rfl ?_
          refine zq_iload (pc' := 141) rfl rfl rfl rfl ?_
          refine zq_iadd (pc' := 142) rfl rfl rfl ?_
          refine zq_iload (pc' := 143) rfl rfl rfl rfl ?_
          refine zq_ifeq (pc' := 146) rfl rfl rfl rfl (And.intro (fun c => ?_) (fun c => ?_))
          · have H := H.1 c
            refine zq_ipush (pc' := 161) rfl rfl rfl ?_
            obtain ⟨h28, e0, H⟩ := H
            refine zq_iast (pc' := 162) rfl rfl rfl e0 ?_
            refine zq_iinc (pc' := 165) rfl rfl rfl rfl ?_
            refine zq_goto_c (pc' := 70) rfl rfl ?_
            exact H
          · have H := H.2 c
            refine zq_aload (pc' := 147) rfl rfl rfl rfl ?_
            obtain ⟨a29, e0, H⟩ := H
            refine zq_getR (pc' := 150) rfl rfl rfl e0 ?_
            refine zq_ipush (pc' := 152) rfl rfl rfl ?_
            refine zq_iload (pc' := 153) rfl rfl rfl rfl ?_
            refine zq_imul (pc' := 154) rfl rfl rfl ?_
            refine zq_iload (pc' := 155) rfl rfl rfl rfl ?_
            refine zq_iadd (pc' := 156) rfl rfl rfl ?_
            obtain ⟨x30, e0, H⟩ := H
            refine zq_iald (pc' := 157) rfl rfl rfl e0 ?_
            refine zq_goto (pc' := 161) rfl rfl rfl ?_
            obtain ⟨h31, e0, H⟩ := H
            refine zq_iast (pc' := 162) rfl rfl rfl e0 ?_
            refine zq_iinc (pc' := 165) rfl rfl rfl rfl ?_
            refine zq_goto_c (pc' := 70) rfl rfl ?_
            exact H
theorem zr_X8_takeOver_100 {d : Nat} {Q : zR → zH → Prop} {l0 : Nat} {l1 : Int32} {l2 : Int32} {h : zH} (H :
    ∃ a1 : Nat, zgf h l0 8 26 = some (.ref a1) ∧
    zbr ((0 : Int32) = 0)
    (∃ h2, zis h a1 ((16 * l1) + l2) 0 = some h2 ∧
      ∃ a3 : Nat, zgf h2 l0 8 27 = some (.ref a3) ∧
      zbr ((0 : Int32) = 0)
      (∃ h4, zis h2 a3 ((16 * l1) + l2) 0 = some h4 ∧
        zW (zE d) zm_X8_takeOver Q (70, [(0, .ref l0), (1, .int l1), (2, .int (l2 + 1))], [], h4))
      (∃ a5 : Nat, zgf h2 l0 8 9 = some (.ref a5) ∧
        ∃ x6, zia h2 a5 ((16 * l1) + l2) = some x6 ∧
        ∃ h7, zis h2 a3 ((16 * l1) + l2) x6 = some h7 ∧
        zW (zE d) zm_X8_takeOver Q (70, [(0, .ref l0), (1, .int l1), (2, .int (l2 + 1))], [], h7)))
    (∃ a8 : Nat, zgf h l0 8 8 = some (.ref a8) ∧
      ∃ x9, zia h a8 ((16 * l1) + l2) = some x9 ∧
      ∃ h10, zis h a1 ((16 * l1) + l2) x9 = some h10 ∧
      ∃ a11 : Nat, zgf h10 l0 8 27 = some (.ref a11) ∧
      zbr ((0 : Int32) = 0)
      (∃ h12, zis h10 a11 ((16 * l1) + l2) 0 = some h12 ∧
        zW (zE d) zm_X8_takeOver Q (70, [(0, .ref l0), (1, .int l1), (2, .int (l2 + 1))], [], h12))
      (∃ a13 : Nat, zgf h10 l0 8 9 = some (.ref a13) ∧
        ∃ x14, zia h10 a13 ((16 * l1) + l2) = some x14 ∧
        ∃ h15, zis h10 a11 ((16 * l1) + l2) x14 = some h15 ∧
        zW (zE d) zm_X8_takeOver Q (70, [(0, .ref l0), (1, .int l1), (2, .int (l2 + 1))], [], h15)))) : zW (zE d) zm_X8_takeOver Q (100, [(0, .ref l0), (1, .int l1), (2, .int l2)], [], h) := by
  refine zq_ipush (pc' := 101) rfl rfl rfl ?_
  refine zq_istore (pc' := 102) rfl rfl rfl ?_
  refine zq_aload (pc' := 103) rfl rfl rfl rfl ?_
  obtain ⟨a1, e0, H⟩ := H
  refine zq_getR (pc' := 106) rfl rfl rfl e0 ?_
  refine zq_ipush (pc' := 108) rfl rfl rfl ?_
  refine zq_iload (pc' := 109) rfl rfl rfl rfl ?_
  refine zq_imul (pc' := 110) rfl rfl rfl ?_
  refine zq_iload (pc' := 111) rfl rfl rfl rfl ?_
  refine zq_iadd (pc' := 112) rfl rfl rfl ?_
  refine zq_iload (pc' := 113) rfl rfl rfl rfl ?_
  refine zq_ifeq (pc' := 116) rfl rfl rfl rfl (And.intro (fun c => ?_) (fun c => ?_))
  · have H := H.1 c
    refine zq_ipush (pc' := 131) rfl rfl rfl ?_
    obtain ⟨h2, e0, H⟩ := H
    refine zq_iast (pc' := 132) rfl rfl rfl e0 ?_
    refine zq_aload (pc' := 133) rfl rfl rfl rfl ?_
    obtain ⟨a3, e0, H⟩ := H
    refine zq_getR (pc' := 136) rfl rfl rfl e0 ?_
    refine zq_ipush (pc' := 138) rfl rfl rfl ?_
    refine zq_iload (pc' := 139) rfl rfl rfl rfl ?_
    refine zq_imul (pc' := 140) rfl rfl rfl ?_
    refine zq_iload (pc' := 141) rfl rfl rfl rfl ?_
    refine zq_iadd (pc' := 142) rfl rfl rfl ?_
    refine zq_iload (pc' := 143) rfl rfl rfl rfl ?_
    refine zq_ifeq (pc' := 146) rfl rfl rfl rfl (And.intro (fun c => ?_) (fun c => ?_))
    · have H := H.1 c
      refine zq_ipush (pc' := 161) rfl rfl rfl ?_
      obtain ⟨h4, e0, H⟩ := H
      refine zq_iast (pc' := 162) rfl rfl rfl e0 ?_
      refine zq_iinc (pc' := 165) rfl rfl rfl rfl ?_
      refine zq_goto_c (pc' := 70) rfl rfl ?_
      exact H
    · have H := H.2 c
      refine zq_aload (pc' := 147) rfl rfl rfl rfl ?_
      obtain ⟨a5, e0, H⟩ := H
      refine zq_getR (pc' := 150) rfl rfl rfl e0 ?_
      refine zq_ipush (pc' := 152) rfl rfl rfl ?_
      refine zq_iload (pc' := 153) rfl rfl rfl rfl ?_
      refine zq_imul (pc' := 154) rfl rfl rfl ?_
      refine zq_iload (pc' := 155) rfl rfl rfl rfl ?_
      refine zq_iadd (pc' := 156) rfl rfl rfl ?_
      obtain ⟨x6, e0, H⟩ := H
      refine zq_iald (pc' := 157) rfl rfl rfl e0 ?_
      refine zq_goto (pc' := 161) rfl rfl rfl ?_
      obtain ⟨h7, e0, H⟩ := H
      refine zq_iast (pc' := 162) rfl rfl rfl e0 ?_
      refine zq_iinc (pc' := 165) rfl rfl rfl rfl ?_
      refine zq_goto_c (pc' := 70) rfl rfl ?_
      exact H
  · have H := H.2 c
    refine zq_aload (pc' := 117) rfl rfl rfl rfl ?_
    obtain ⟨a8, e0, H⟩ := H
    refine zq_getR (pc' := 120) rfl rfl rfl e0 ?_
    refine zq_ipush (pc' := 122) rfl rfl rfl ?_
    refine zq_iload (pc' := 123) rfl rfl rfl rfl ?_
    refine zq_imul (pc' := 124) rfl rfl rfl ?_
    refine zq_iload (pc' := 125) rfl rfl rfl rfl ?_
    refine zq_iadd (pc' := 126) rfl rfl rfl ?_
    obtain ⟨x9, e0, H⟩ := H
    refine zq_iald (pc' := 127) rfl rfl rfl e0 ?_
    refine zq_goto (pc' := 131) rfl rfl rfl ?_
    obtain ⟨h10, e0, H⟩ := H
    refine zq_iast (pc' := 132) rfl rfl rfl e0 ?_
    refine zq_aload (pc' := 133) rfl rfl rfl rfl ?_
    obtain ⟨a11, e0, H⟩ := H
    refine zq_getR (pc' := 136) rfl rfl rfl e0 ?_
    refine zq_ipush (pc' := 138) rfl rfl rfl ?_
    refine zq_iload (pc' := 139) rfl rfl rfl rfl ?_
    refine zq_imul (pc' := 140) rfl rfl rfl ?_
    refine zq_iload (pc' := 141) rfl rfl rfl rfl ?_
    refine zq_iadd (pc' := 142) rfl rfl rfl ?_
    refine zq_iload (pc' := 143) rfl rfl rfl rfl ?_
    refine zq_ifeq (pc' := 146) rfl rfl rfl rfl (And.intro (fun c => ?_) (fun c => ?_))
    · have H := H.1 c
      refine zq_ipush (pc' := 161) rfl rfl rfl ?_
      obtain ⟨h12, e0, H⟩ := H
      refine zq_iast (pc' := 162) rfl rfl rfl e0 ?_
      refine zq_iinc (pc' := 165) rfl rfl rfl rfl ?_
      refine zq_goto_c (pc' := 70) rfl rfl ?_
      exact H
    · have H := H.2 c
      refine zq_aload (pc' := 147) rfl rfl rfl rfl ?_
      obtain ⟨a13, e0, H⟩ := H
      refine zq_getR (pc' := 150) rfl rfl rfl e0 ?_
      refine zq_ipush (pc' := 152) rfl rfl rfl ?_
      refine zq_iload (pc' := 153) rfl rfl rfl rfl ?_
      refine zq_imul (pc' := 154) rfl rfl rfl ?_
      refine zq_iload (pc' := 155) rfl rfl rfl rfl ?_
      refine zq_iadd (pc' := 156) rfl rfl rfl ?_
      obtain ⟨x14, e0, H⟩ := H
      refine zq_iald (pc' := 157) rfl rfl rfl e0 ?_
      refine zq_goto (pc' := 161) rfl rfl rfl ?_
      obtain ⟨h15, e0, H⟩ := H
      refine zq_iast (pc' := 162) rfl rfl rfl e0 ?_
      refine zq_iinc (pc' := 165) rfl rfl rfl rfl ?_
      refine zq_goto_c (pc' := 70) rfl rfl ?_
      exact H
theorem zr_X8_fault_0 {d : Nat} {Q : zR → zH → Prop} {p0 : Nat} {h : zH} (H :
    ∃ h1, zpf h p0 8 4 (.int 0) = some h1 ∧
    ∃ x2 : Int32, zgf h1 p0 8 24 = some (.int x2) ∧
    Q (.inl (some (.int x2))) h1) : zW (zE d) zm_X8_fault Q (0, [(0, .ref p0)], [], h) := by
  refine zq_aload (pc' := 1) rfl rfl rfl rfl ?_
  refine zq_ipush (pc' := 2) rfl rfl rfl ?_
  obtain ⟨h1, e0, H⟩ := H
  refine zq_put (pc' := 5) rfl rfl rfl trivial e0 ?_
  refine zq_aload (pc' := 6) rfl rfl rfl rfl ?_
  obtain ⟨x2, e0, H⟩ := H
  refine zq_getI (pc' := 9) rfl rfl rfl e0 ?_
  exact zq_iret rfl trivial H
theorem zr_X8_pack_0 {d : Nat} {Q : zR → zH → Prop} {p0 : Nat} {p1 : Nat} {p2 : Int32} {h : zH} (H :
    ∃ x1 : Int32, zgf h p0 8 31 = some (.int x1) ∧
    ∃ h2, zis h p1 p2 x1 = some h2 ∧
    zW (zE d) zm_X8_pack Q (9, [(0, .ref p0), (1, .ref p1), (2, .int p2), (3, .int 0)], [], h2)) : zW (zE d) zm_X8_pack Q (0, [(0, .ref p0), (1, .ref p1), (2, .int p2)], [], h) := by
  refine zq_aload (pc' := 1) rfl rfl rfl rfl ?_
  refine zq_iload (pc' := 2) rfl rfl rfl rfl ?_
  refine zq_aload (pc' := 3) rfl rfl rfl rfl ?_
  obtain ⟨x1, e0, H⟩ := H
  refine zq_getI (pc' := 6) rfl rfl rfl e0 ?_
  obtain ⟨h2, e0, H⟩ := H
  refine zq_iast (pc' := 7) rfl rfl rfl e0 ?_
  refine zq_ipush (pc' := 8) rfl rfl rfl ?_
  refine zq_istore_c (pc' := 9) rfl rfl ?_
  exact H
theorem zr_X8_pack_9 {d : Nat} {Q : zR → zH → Prop} {l0 : Nat} {l1 : Nat} {l2 : Int32} {l3 : Int32} {h : zH} (H :
    zbr (4 ≤ l3)
    (zW (zE d) zm_X8_pack Q (58, [(0, .ref l0), (1, .ref l1), (3, .int ((l2 + 1) + 8)), (4, .int 0)], [], h))
    (∃ a1 : Nat, zgf h l0 8 28 = some (.ref a1) ∧
      ∃ x2, zia h a1 l3 = some x2 ∧
      ∃ h3, zis h l1 ((l2 + 1) + l3) x2 = some h3 ∧
      ∃ a4 : Nat, zgf h3 l0 8 29 = some (.ref a4) ∧
      ∃ x5, zia h3 a4 l3 = some x5 ∧
      ∃ h6, zis h3 l1 (((l2 + 1) + 4) + l3) x5 = some h6 ∧
      zW (zE d) zm_X8_pack Q (9, [(0, .ref l0), (1, .ref l1), (2, .int l2), (3, .int (l3 + 1))], [], h6))) : zW (zE d) zm_X8_pack Q (9, [(0, .ref l0), (1, .ref l1), (2, .int l2), (3, .int l3)], [], h) := by
  refine zq_iload (pc' := 10) rfl rfl rfl rfl ?_
  refine zq_ipush (pc' := 11) rfl rfl rfl ?_
  refine zq_icge (pc' := 14) rfl rfl rfl rfl (And.intro (fun c => ?_) (fun c => ?_))
  · have H := H.1 c
    refine zq_iload (pc' := 49) rfl rfl rfl rfl ?_
    refine zq_ipush (pc' := 50) rfl rfl rfl ?_
    refine zq_iadd (pc' := 51) rfl rfl rfl ?_
    refine zq_ipush (pc' := 53) rfl rfl rfl ?_
    refine zq_iadd (pc' := 54) rfl rfl rfl ?_
    refine zq_istore (pc' := 55) rfl rfl rfl ?_
    refine zq_ipush (pc' := 56) rfl rfl rfl ?_
    refine zq_istore_c (pc' := 58) rfl rfl ?_
    exact H
  · have H := H.2 c
    refine zq_aload (pc' := 15) rfl rfl rfl rfl ?_
    refine zq_iload (pc' := 16) rfl rfl rfl rfl ?_
    refine zq_ipush (pc' := 17) rfl rfl rfl ?_
    refine zq_iadd (pc' := 18) rfl rfl rfl ?_
    refine zq_iload (pc' := 19) rfl rfl rfl rfl ?_
    refine zq_iadd (pc' := 20) rfl rfl rfl ?_
    refine zq_aload (pc' := 21) rfl rfl rfl rfl ?_
    obtain ⟨a1, e0, H⟩ := H
    refine zq_getR (pc' := 24) rfl rfl rfl e0 ?_
    refine zq_iload (pc' := 25) rfl rfl rfl rfl ?_
    obtain ⟨x2, e0, H⟩ := H
    refine zq_iald (pc' := 26) rfl rfl rfl e0 ?_
    obtain ⟨h3, e0, H⟩ := H
    refine zq_iast (pc' := 27) rfl rfl rfl e0 ?_
    refine zq_aload (pc' := 28) rfl rfl rfl rfl ?_
    refine zq_iload (pc' := 29) rfl rfl rfl rfl ?_
    refine zq_ipush (pc' := 30) rfl rfl rfl ?_
    refine zq_iadd (pc' := 31) rfl rfl rfl ?_
    refine zq_ipush (pc' := 32) rfl rfl rfl ?_
    refine zq_iadd (pc' := 33) rfl rfl rfl ?_
    refine zq_iload (pc' := 34) rfl rfl rfl rfl ?_
    refine zq_iadd (pc' := 35) rfl rfl rfl ?_
    refine zq_aload (pc' := 36) rfl rfl rfl rfl ?_
    obtain ⟨a4, e0, H⟩ := H
    refine zq_getR (pc' := 39) rfl rfl rfl e0 ?_
    refine zq_iload (pc' := 40) rfl rfl rfl rfl ?_
    obtain ⟨x5, e0, H⟩ := H
    refine zq_iald (pc' := 41) rfl rfl rfl e0 ?_
    obtain ⟨h6, e0, H⟩ := H
    refine zq_iast (pc' := 42) rfl rfl rfl e0 ?_
    refine zq_iinc (pc' := 45) rfl rfl rfl rfl ?_
    refine zq_goto_c (pc' := 9) rfl rfl ?_
    exact H
theorem zr_X8_pack_58 {d : Nat} {Q : zR → zH → Prop} {l0 : Nat} {l1 : Nat} {l3 : Int32} {l4 : Int32} {h : zH} (H :
    zbr (64 ≤ l4)
    (Q (.inl none) h)
    (∃ a1 : Nat, zgf h l0 8 26 = some (.ref a1) ∧
      ∃ x2, zia h a1 l4 = some x2 ∧
      ∃ h3, zis h l1 l3 x2 = some h3 ∧
      ∃ a4 : Nat, zgf h3 l0 8 27 = some (.ref a4) ∧
      ∃ x5, zia h3 a4 l4 = some x5 ∧
      ∃ h6, zis h3 l1 (l3 + 1) x5 = some h6 ∧
      zW (zE d) zm_X8_pack Q (58, [(0, .ref l0), (1, .ref l1), (3, .int (l3 + 2)), (4, .int (l4 + 1))], [], h6))) : zW (zE d) zm_X8_pack Q (58, [(0, .ref l0), (1, .ref l1), (3, .int l3), (4, .int l4)], [], h) := by
  refine zq_iload (pc' := 60) rfl rfl rfl rfl ?_
  refine zq_ipush (pc' := 62) rfl rfl rfl ?_
  refine zq_icge (pc' := 65) rfl rfl rfl rfl (And.intro (fun c => ?_) (fun c => ?_))
  · have H := H.1 c
    exact zq_vret rfl H
  · have H := H.2 c
    refine zq_aload (pc' := 66) rfl rfl rfl rfl ?_
    refine zq_iload (pc' := 67) rfl rfl rfl rfl ?_
    refine zq_aload (pc' := 68) rfl rfl rfl rfl ?_
    obtain ⟨a1, e0, H⟩ := H
    refine zq_getR (pc' := 71) rfl rfl rfl e0 ?_
    refine zq_iload (pc' := 73) rfl rfl rfl rfl ?_
    obtain ⟨x2, e0, H⟩ := H
    refine zq_iald (pc' := 74) rfl rfl rfl e0 ?_
    obtain ⟨h3, e0, H⟩ := H
    refine zq_iast (pc' := 75) rfl rfl rfl e0 ?_
    refine zq_aload (pc' := 76) rfl rfl rfl rfl ?_
    refine zq_iload (pc' := 77) rfl rfl rfl rfl ?_
    refine zq_ipush (pc' := 78) rfl rfl rfl ?_
    refine zq_iadd (pc' := 79) rfl rfl rfl ?_
    refine zq_aload (pc' := 80) rfl rfl rfl rfl ?_
    obtain ⟨a4, e0, H⟩ := H
    refine zq_getR (pc' := 83) rfl rfl rfl e0 ?_
    refine zq_iload (pc' := 85) rfl rfl rfl rfl ?_
    obtain ⟨x5, e0, H⟩ := H
    refine zq_iald (pc' := 86) rfl rfl rfl e0 ?_
    obtain ⟨h6, e0, H⟩ := H
    refine zq_iast (pc' := 87) rfl rfl rfl e0 ?_
    refine zq_iinc (pc' := 90) rfl rfl rfl rfl ?_
    refine zq_iinc (pc' := 93) rfl rfl rfl rfl ?_
    refine zq_goto_c (pc' := 58) rfl rfl ?_
    exact H
theorem zr_X8_unpack_0 {d : Nat} {Q : zR → zH → Prop} {p0 : Nat} {p1 : Nat} {p2 : Int32} {h : zH} (H :
    ∃ x1, zia h p1 p2 = some x1 ∧
    ∃ h2, zpf h p0 8 31 (.int x1) = some h2 ∧
    zW (zE d) zm_X8_unpack Q (9, [(0, .ref p0), (1, .ref p1), (2, .int p2), (3, .int 0)], [], h2)) : zW (zE d) zm_X8_unpack Q (0, [(0, .ref p0), (1, .ref p1), (2, .int p2)], [], h) := by
  refine zq_aload (pc' := 1) rfl rfl rfl rfl ?_
  refine zq_aload (pc' := 2) rfl rfl rfl rfl ?_
  refine zq_iload (pc' := 3) rfl rfl rfl rfl ?_
  obtain ⟨x1, e0, H⟩ := H
  refine zq_iald (pc' := 4) rfl rfl rfl e0 ?_
  obtain ⟨h2, e0, H⟩ := H
  refine zq_put (pc' := 7) rfl rfl rfl trivial e0 ?_
  refine zq_ipush (pc' := 8) rfl rfl rfl ?_
  refine zq_istore_c (pc' := 9) rfl rfl ?_
  exact H
theorem zr_X8_unpack_9 {d : Nat} {Q : zR → zH → Prop} {l0 : Nat} {l1 : Nat} {l2 : Int32} {l3 : Int32} {h : zH} (H :
    zbr (4 ≤ l3)
    (zW (zE d) zm_X8_unpack Q (58, [(0, .ref l0), (1, .ref l1), (3, .int ((l2 + 1) + 8)), (4, .int 0)], [], h))
    (∃ a1 : Nat, zgf h l0 8 28 = some (.ref a1) ∧
      ∃ x2, zia h l1 ((l2 + 1) + l3) = some x2 ∧
      ∃ h3, zis h a1 l3 x2 = some h3 ∧
      ∃ a4 : Nat, zgf h3 l0 8 29 = some (.ref a4) ∧
      ∃ x5, zia h3 l1 (((l2 + 1) + 4) + l3) = some x5 ∧
      ∃ h6, zis h3 a4 l3 x5 = some h6 ∧
      zW (zE d) zm_X8_unpack Q (9, [(0, .ref l0), (1, .ref l1), (2, .int l2), (3, .int (l3 + 1))], [], h6))) : zW (zE d) zm_X8_unpack Q (9, [(0, .ref l0), (1, .ref l1), (2, .int l2), (3, .int l3)], [], h) := by
  refine zq_iload (pc' := 10) rfl rfl rfl rfl ?_
  refine zq_ipush (pc' := 11) rfl rfl rfl ?_
  refine zq_icge (pc' := 14) rfl rfl rfl rfl (And.intro (fun c => ?_) (fun c => ?_))
  · have H := H.1 c
    refine zq_iload (pc' := 49) rfl rfl rfl rfl ?_
    refine zq_ipush (pc' := 50) rfl rfl rfl ?_
    refine zq_iadd (pc' := 51) rfl rfl rfl ?_
    refine zq_ipush (pc' := 53) rfl rfl rfl ?_
    refine zq_iadd (pc' := 54) rfl rfl rfl ?_
    refine zq_istore (pc' := 55) rfl rfl rfl ?_
    refine zq_ipush (pc' := 56) rfl rfl rfl ?_
    refine zq_istore_c (pc' := 58) rfl rfl ?_
    exact H
  · have H := H.2 c
    refine zq_aload (pc' := 15) rfl rfl rfl rfl ?_
    obtain ⟨a1, e0, H⟩ := H
    refine zq_getR (pc' := 18) rfl rfl rfl e0 ?_
    refine zq_iload (pc' := 19) rfl rfl rfl rfl ?_
    refine zq_aload (pc' := 20) rfl rfl rfl rfl ?_
    refine zq_iload (pc' := 21) rfl rfl rfl rfl ?_
    refine zq_ipush (pc' := 22) rfl rfl rfl ?_
    refine zq_iadd (pc' := 23) rfl rfl rfl ?_
    refine zq_iload (pc' := 24) rfl rfl rfl rfl ?_
    refine zq_iadd (pc' := 25) rfl rfl rfl ?_
    obtain ⟨x2, e0, H⟩ := H
    refine zq_iald (pc' := 26) rfl rfl rfl e0 ?_
    obtain ⟨h3, e0, H⟩ := H
    refine zq_iast (pc' := 27) rfl rfl rfl e0 ?_
    refine zq_aload (pc' := 28) rfl rfl rfl rfl ?_
    obtain ⟨a4, e0, H⟩ := H
    refine zq_getR (pc' := 31) rfl rfl rfl e0 ?_
    refine zq_iload (pc' := 32) rfl rfl rfl rfl ?_
    refine zq_aload (pc' := 33) rfl rfl rfl rfl ?_
    refine zq_iload (pc' := 34) rfl rfl rfl rfl ?_
    refine zq_ipush (pc' := 35) rfl rfl rfl ?_
    refine zq_iadd (pc' := 36) rfl rfl rfl ?_
    refine zq_ipush (pc' := 37) rfl rfl rfl ?_
    refine zq_iadd (pc' := 38) rfl rfl rfl ?_
    refine zq_iload (pc' := 39) rfl rfl rfl rfl ?_
    refine zq_iadd (pc' := 40) rfl rfl rfl ?_
    obtain ⟨x5, e0, H⟩ := H
    refine zq_iald (pc' := 41) rfl rfl rfl e0 ?_
    obtain ⟨h6, e0, H⟩ := H
    refine zq_iast (pc' := 42) rfl rfl rfl e0 ?_
    refine zq_iinc (pc' := 45) rfl rfl rfl rfl ?_
    refine zq_goto_c (pc' := 9) rfl rfl ?_
    exact H
theorem zr_X8_unpack_58 {d : Nat} {Q : zR → zH → Prop} {l0 : Nat} {l1 : Nat} {l3 : Int32} {l4 : Int32} {h : zH} (H :
    zbr (64 ≤ l4)
    (Q (.inl none) h)
    (∃ a1 : Nat, zgf h l0 8 26 = some (.ref a1) ∧
      ∃ x2, zia h l1 l3 = some x2 ∧
      ∃ h3, zis h a1 l4 x2 = some h3 ∧
      ∃ a4 : Nat, zgf h3 l0 8 27 = some (.ref a4) ∧
      ∃ x5, zia h3 l1 (l3 + 1) = some x5 ∧
      ∃ h6, zis h3 a4 l4 x5 = some h6 ∧
      zW (zE d) zm_X8_unpack Q (58, [(0, .ref l0), (1, .ref l1), (3, .int (l3 + 2)), (4, .int (l4 + 1))], [], h6))) : zW (zE d) zm_X8_unpack Q (58, [(0, .ref l0), (1, .ref l1), (3, .int l3), (4, .int l4)], [], h) := by
  refine zq_iload (pc' := 60) rfl rfl rfl rfl ?_
  refine zq_ipush (pc' := 62) rfl rfl rfl ?_
  refine zq_icge (pc' := 65) rfl rfl rfl rfl (And.intro (fun c => ?_) (fun c => ?_))
  · have H := H.1 c
    exact zq_vret rfl H
  · have H := H.2 c
    refine zq_aload (pc' := 66) rfl rfl rfl rfl ?_
    obtain ⟨a1, e0, H⟩ := H
    refine zq_getR (pc' := 69) rfl rfl rfl e0 ?_
    refine zq_iload (pc' := 71) rfl rfl rfl rfl ?_
    refine zq_aload (pc' := 72) rfl rfl rfl rfl ?_
    refine zq_iload (pc' := 73) rfl rfl rfl rfl ?_
    obtain ⟨x2, e0, H⟩ := H
    refine zq_iald (pc' := 74) rfl rfl rfl e0 ?_
    obtain ⟨h3, e0, H⟩ := H
    refine zq_iast (pc' := 75) rfl rfl rfl e0 ?_
    refine zq_aload (pc' := 76) rfl rfl rfl rfl ?_
    obtain ⟨a4, e0, H⟩ := H
    refine zq_getR (pc' := 79) rfl rfl rfl e0 ?_
    refine zq_iload (pc' := 81) rfl rfl rfl rfl ?_
    refine zq_aload (pc' := 82) rfl rfl rfl rfl ?_
    refine zq_iload (pc' := 83) rfl rfl rfl rfl ?_
    refine zq_ipush (pc' := 84) rfl rfl rfl ?_
    refine zq_iadd (pc' := 85) rfl rfl rfl ?_
    obtain ⟨x5, e0, H⟩ := H
    refine zq_iald (pc' := 86) rfl rfl rfl e0 ?_
    obtain ⟨h6, e0, H⟩ := H
    refine zq_iast (pc' := 87) rfl rfl rfl e0 ?_
    refine zq_iinc (pc' := 90) rfl rfl rfl rfl ?_
    refine zq_iinc (pc' := 93) rfl rfl rfl rfl ?_
    refine zq_goto_c (pc' := 58) rfl rfl ?_
    exact H
theorem zr_X8_holdOf_0 {d : Nat} {Q : zR → zH → Prop} {p0 : Nat} {p1 : Int32} {p2 : Int32} {h : zH} (H :
    ∃ a1 : Nat, zgf h p0 8 26 = some (.ref a1) ∧
    ∃ x2, zia h a1 ((16 * p1) + p2) = some x2 ∧
    ∃ a3 : Nat, zgf h p0 8 27 = some (.ref a3) ∧
    ∃ x4, zia h a3 ((16 * p1) + p2) = some x4 ∧
    zE d 3 [.int x2, .int x4] h (fun r6 h5 => match r6 with
      | .inl v7 => ∃ x9 : Int32, v7 = some (.int x9) ∧ Q (.inl (some (.int x9))) h5
      | .inr e8 => Q (.inr e8) h5)) : zW (zE d) zm_X8_holdOf Q (0, [(0, .ref p0), (1, .int p1), (2, .int p2)], [], h) := by
  refine zq_aload (pc' := 1) rfl rfl rfl rfl ?_
  obtain ⟨a1, e0, H⟩ := H
  refine zq_getR (pc' := 4) rfl rfl rfl e0 ?_
  refine zq_ipush (pc' := 6) rfl rfl rfl ?_
  refine zq_iload (pc' := 7) rfl rfl rfl rfl ?_
  refine zq_imul (pc' := 8) rfl rfl rfl ?_
  refine zq_iload (pc' := 9) rfl rfl rfl rfl ?_
  refine zq_iadd (pc' := 10) rfl rfl rfl ?_
  obtain ⟨x2, e0, H⟩ := H
  refine zq_iald (pc' := 11) rfl rfl rfl e0 ?_
  refine zq_aload (pc' := 12) rfl rfl rfl rfl ?_
  obtain ⟨a3, e0, H⟩ := H
  refine zq_getR (pc' := 15) rfl rfl rfl e0 ?_
  refine zq_ipush (pc' := 17) rfl rfl rfl ?_
  refine zq_iload (pc' := 18) rfl rfl rfl rfl ?_
  refine zq_imul (pc' := 19) rfl rfl rfl ?_
  refine zq_iload (pc' := 20) rfl rfl rfl rfl ?_
  refine zq_iadd (pc' := 21) rfl rfl rfl ?_
  obtain ⟨x4, e0, H⟩ := H
  refine zq_iald (pc' := 22) rfl rfl rfl e0 ?_
  refine zq_calli (pc' := 25) rfl rfl rfl rfl rfl rfl (zE_mono H (fun r6 h5 H => ?_))
  rcases r6 with v7 | e8
  · obtain ⟨x9, e0, H⟩ := H
    refine Exists.intro x9 (And.intro e0 ?_)
    exact zq_iret rfl trivial H
  · exact H
theorem zr_X8_holding_0 {d : Nat} {Q : zR → zH → Prop} {p0 : Nat} {p1 : Int32} {h : zH} (H :
    zW (zE d) zm_X8_holding Q (4, [(0, .ref p0), (1, .int p1), (2, .int 0), (3, .int 0)], [], h)) : zW (zE d) zm_X8_holding Q (0, [(0, .ref p0), (1, .int p1)], [], h) := by
  refine zq_ipush (pc' := 1) rfl rfl rfl ?_
  refine zq_istore (pc' := 2) rfl rfl rfl ?_
  refine zq_ipush (pc' := 3) rfl rfl rfl ?_
  refine zq_istore_c (pc' := 4) rfl rfl ?_
  exact H
theorem zr_X8_holding_4 {d : Nat} {Q : zR → zH → Prop} {l0 : Nat} {l1 : Int32} {l2 : Int32} {l3 : Int32} {h : zH} (H :
    ∃ a1 : Nat, zgf h l0 8 7 = some (.ref a1) ∧
    ∃ x2, zia h a1 l1 = some x2 ∧
    zbr (x2 ≤ l3)
    (Q (.inl (some (.int l2))) h)
    (zE d 251 [.ref l0, .int l1, .int l3] h (fun r4 h3 => match r4 with
        | .inl v5 => ∃ x7 : Int32, v5 = some (.int x7) ∧ zbr (x7 ≤ 0)
          (zW (zE d) zm_X8_holding Q (4, [(0, .ref l0), (1, .int l1), (2, .int (l2 ||| 0)), (3, .int (l3 + 1))], [], h3))
          (zW (zE d) zm_X8_holding Q (4, [(0, .ref l0), (1, .int l1), (2, .int (l2 ||| (1 <<< (l3 &&& 31)))), (3, .int (l3 + 1))], [], h3))
        | .inr e6 => Q (.inr e6) h3))) : zW (zE d) zm_X8_holding Q (4, [(0, .ref l0), (1, .int l1), (2, .int l2), (3, .int l3)], [], h) := by
  refine zq_iload (pc' := 5) rfl rfl rfl rfl ?_
  refine zq_aload (pc' := 6) rfl rfl rfl rfl ?_
  obtain ⟨a1, e0, H⟩ := H
  refine zq_getR (pc' := 9) rfl rfl rfl e0 ?_
  refine zq_iload (pc' := 10) rfl rfl rfl rfl ?_
  obtain ⟨x2, e0, H⟩ := H
  refine zq_iald (pc' := 11) rfl rfl rfl e0 ?_
  refine zq_icge (pc' := 14) rfl rfl rfl rfl (And.intro (fun c => ?_) (fun c => ?_))
  · have H := H.1 c
    refine zq_iload (pc' := 40) rfl rfl rfl rfl ?_
    exact zq_iret rfl trivial H
  · have H := H.2 c
    refine zq_iload (pc' := 15) rfl rfl rfl rfl ?_
    refine zq_aload (pc' := 16) rfl rfl rfl rfl ?_
    refine zq_iload (pc' := 17) rfl rfl rfl rfl ?_
    refine zq_iload (pc' := 18) rfl rfl rfl rfl ?_
    refine zq_calli (pc' := 21) rfl rfl rfl rfl rfl rfl (zE_mono H (fun r4 h3 H => ?_))
    rcases r4 with v5 | e6
    · obtain ⟨x7, e0, H⟩ := H
      refine Exists.intro x7 (And.intro e0 ?_)
      refine zq_ifle (pc' := 24) rfl rfl rfl rfl (And.intro (fun c => ?_) (fun c => ?_))
      · have H := H.1 c
        refine zq_ipush (pc' := 31) rfl rfl rfl ?_
        refine zq_ior (pc' := 32) rfl rfl rfl ?_
        refine zq_istore (pc' := 33) rfl rfl rfl ?_
        refine zq_iinc (pc' := 36) rfl rfl rfl rfl ?_
        refine zq_goto_c (pc' := 4) rfl rfl ?_
        exact H
      · have H := H.2 c
        refine zq_ipush (pc' := 25) rfl rfl rfl ?_
        refine zq_iload (pc' := 26) rfl rfl rfl rfl ?_
        refine zq_ishl (pc' := 27) rfl rfl rfl ?_
        refine zq_goto (pc' := 31) rfl rfl rfl ?_
        refine zq_ior (pc' := 32) rfl rfl rfl ?_
        refine zq_istore (pc' := 33) rfl rfl rfl ?_
        refine zq_iinc (pc' := 36) rfl rfl rfl rfl ?_
        refine zq_goto_c (pc' := 4) rfl rfl ?_
        exact H
    · exact H
theorem zr_X8_slideTo_0 {d : Nat} {Q : zR → zH → Prop} {p0 : Nat} {p1 : Int32} {p2 : Int32} {h : zH} (H :
    ∃ a1 : Nat, zgf h p0 8 28 = some (.ref a1) ∧
    ∃ h2, zis h a1 p1 p2 = some h2 ∧
    ∃ a3 : Nat, zgf h2 p0 8 29 = some (.ref a3) ∧
    zE d 252 [.ref p0, .int p1] h2 (fun r5 h4 => match r5 with
      | .inl v6 => ∃ x8 : Int32, v6 = some (.int x8) ∧ ∃ h9, zis h4 a3 p1 (x8 &&& ((1 <<< (p2 &&& 31)) - 1)) = some h9 ∧
        Q (.inl none) h9
      | .inr e7 => Q (.inr e7) h4)) : zW (zE d) zm_X8_slideTo Q (0, [(0, .ref p0), (1, .int p1), (2, .int p2)], [], h) := by
  refine zq_aload (pc' := 1) rfl rfl rfl rfl ?_
  obtain ⟨a1, e0, H⟩ := H
  refine zq_getR (pc' := 4) rfl rfl rfl e0 ?_
  refine zq_iload (pc' := 5) rfl rfl rfl rfl ?_
  refine zq_iload (pc' := 6) rfl rfl rfl rfl ?_
  obtain ⟨h2, e0, H⟩ := H
  refine zq_iast (pc' := 7) rfl rfl rfl e0 ?_
  refine zq_aload (pc' := 8) rfl rfl rfl rfl ?_
  obtain ⟨a3, e0, H⟩ := H
  refine zq_getR (pc' := 11) rfl rfl rfl e0 ?_
  refine zq_iload (pc' := 12) rfl rfl rfl rfl ?_
  refine zq_aload (pc' := 13) rfl rfl rfl rfl ?_
  refine zq_iload (pc' := 14) rfl rfl rfl rfl ?_
  refine zq_calli (pc' := 17) rfl rfl rfl rfl rfl rfl (zE_mono H (fun r5 h4 H => ?_))
  rcases r5 with v6 | e7
  · obtain ⟨x8, e0, H⟩ := H
    refine Exists.intro x8 (And.intro e0 ?_)
    refine zq_ipush (pc' := 18) rfl rfl rfl ?_
    refine zq_iload (pc' := 19) rfl rfl rfl rfl ?_
    refine zq_ishl (pc' := 20) rfl rfl rfl ?_
    refine zq_ipush (pc' := 21) rfl rfl rfl ?_
    refine zq_isub (pc' := 22) rfl rfl rfl ?_
    refine zq_iand (pc' := 23) rfl rfl rfl ?_
    obtain ⟨h9, e0, H⟩ := H
    refine zq_iast (pc' := 24) rfl rfl rfl e0 ?_
    exact zq_vret rfl H
  · exact H
theorem zr_X8_openBeside_0 {d : Nat} {Q : zR → zH → Prop} {p0 : Nat} {p1 : Int32} {p2 : Int32} {h : zH} (H :
    zbr (p2 ≤ 0)
    (zW (zE d) zm_X8_openBeside Q (29, [(0, .ref p0), (1, .int p1), (2, .int p2), (3, .int 0)], [], h))
    (∃ a1 : Nat, zgf h p0 8 29 = some (.ref a1) ∧
      ∃ x2, zia h a1 p1 = some x2 ∧
      zE d 218 [.int x2, .int (p2 - 1)] h (fun r4 h3 => match r4 with
        | .inl v5 => ∃ x7 : Int32, v5 = some (.int x7) ∧ zbr (x7 = 0)
          (zW (zE d) zm_X8_openBeside Q (29, [(0, .ref p0), (1, .int p1), (2, .int p2), (3, .int (0 + 1))], [], h3))
          (zW (zE d) zm_X8_openBeside Q (29, [(0, .ref p0), (1, .int p1), (2, .int p2), (3, .int (0 + 0))], [], h3))
        | .inr e6 => Q (.inr e6) h3))) : zW (zE d) zm_X8_openBeside Q (0, [(0, .ref p0), (1, .int p1), (2, .int p2)], [], h) := by
  refine zq_ipush (pc' := 1) rfl rfl rfl ?_
  refine zq_istore (pc' := 2) rfl rfl rfl ?_
  refine zq_iload (pc' := 3) rfl rfl rfl rfl ?_
  refine zq_ifle_c (pc' := 6) (lt := [(0, .ref p0), (1, .int p1), (2, .int p2), (3, .int 0)]) (lf := [(3, .int 0), (0, .ref p0), (1, .int p1), (2, .int p2)]) rfl rfl rfl rfl (And.intro (fun c => ?_) (fun c => ?_))
  · have H := H.1 c
    exact H
  · have H := H.2 c
    refine zq_iload (pc' := 7) rfl rfl rfl rfl ?_
    refine zq_aload (pc' := 8) rfl rfl rfl rfl ?_
    obtain ⟨a1, e0, H⟩ := H
    refine zq_getR (pc' := 11) rfl rfl rfl e0 ?_
    refine zq_iload (pc' := 12) rfl rfl rfl rfl ?_
    obtain ⟨x2, e0, H⟩ := H
    refine zq_iald (pc' := 13) rfl rfl rfl e0 ?_
    refine zq_iload (pc' := 14) rfl rfl rfl rfl ?_
    refine zq_ipush (pc' := 15) rfl rfl rfl ?_
    refine zq_isub (pc' := 16) rfl rfl rfl ?_
    refine zq_calli (pc' := 19) rfl rfl rfl rfl rfl rfl (zE_mono H (fun r4 h3 H => ?_))
    rcases r4 with v5 | e6
    · obtain ⟨x7, e0, H⟩ := H
      refine Exists.intro x7 (And.intro e0 ?_)
      refine zq_ifeq (pc' := 22) rfl rfl rfl rfl (And.intro (fun c => ?_) (fun c => ?_))
      · have H := H.1 c
        refine zq_ipush (pc' := 27) rfl rfl rfl ?_
        refine zq_iadd (pc' := 28) rfl rfl rfl ?_
        refine zq_istore_c (pc' := 29) rfl rfl ?_
        exact H
      · have H := H.2 c
        refine zq_ipush (pc' := 23) rfl rfl rfl ?_
        refine zq_goto (pc' := 27) rfl rfl rfl ?_
        refine zq_iadd (pc' := 28) rfl rfl rfl ?_
        refine zq_istore_c (pc' := 29) rfl rfl ?_
        exact H
    · exact H
theorem zr_X8_openBeside_29 {d : Nat} {Q : zR → zH → Prop} {l0 : Nat} {l1 : Int32} {l2 : Int32} {l3 : Int32} {h : zH} (H :
    ∃ a1 : Nat, zgf h l0 8 7 = some (.ref a1) ∧
    ∃ x2, zia h a1 l1 = some x2 ∧
    zbr (x2 ≤ (l2 + 1))
    (Q (.inl (some (.int l3))) h)
    (∃ a3 : Nat, zgf h l0 8 29 = some (.ref a3) ∧
      ∃ x4, zia h a3 l1 = some x4 ∧
      zE d 218 [.int x4, .int (l2 + 1)] h (fun r6 h5 => match r6 with
        | .inl v7 => ∃ x9 : Int32, v7 = some (.int x9) ∧ zbr (x9 = 0)
          (Q (.inl (some (.int (l3 + 1)))) h5)
          (Q (.inl (some (.int (l3 + 0)))) h5)
        | .inr e8 => Q (.inr e8) h5))) : zW (zE d) zm_X8_openBeside Q (29, [(0, .ref l0), (1, .int l1), (2, .int l2), (3, .int l3)], [], h) := by
  refine zq_iload (pc' := 30) rfl rfl rfl rfl ?_
  refine zq_ipush (pc' := 31) rfl rfl rfl ?_
  refine zq_iadd (pc' := 32) rfl rfl rfl ?_
  refine zq_aload (pc' := 33) rfl rfl rfl rfl ?_
  obtain ⟨a1, e0, H⟩ := H
  refine zq_getR (pc' := 36) rfl rfl rfl e0 ?_
  refine zq_iload (pc' := 37) rfl rfl rfl rfl ?_
  obtain ⟨x2, e0, H⟩ := H
  refine zq_iald (pc' := 38) rfl rfl rfl e0 ?_
  refine zq_icge (pc' := 41) rfl rfl rfl rfl (And.intro (fun c => ?_) (fun c => ?_))
  · have H := H.1 c
    refine zq_iload (pc' := 65) rfl rfl rfl rfl ?_
    exact zq_iret rfl trivial H
  · have H := H.2 c
    refine zq_iload (pc' := 42) rfl rfl rfl rfl ?_
    refine zq_aload (pc' := 43) rfl rfl rfl rfl ?_
    obtain ⟨a3, e0, H⟩ := H
    refine zq_getR (pc' := 46) rfl rfl rfl e0 ?_
    refine zq_iload (pc' := 47) rfl rfl rfl rfl ?_
    obtain ⟨x4, e0, H⟩ := H
    refine zq_iald (pc' := 48) rfl rfl rfl e0 ?_
    refine zq_iload (pc' := 49) rfl rfl rfl rfl ?_
    refine zq_ipush (pc' := 50) rfl rfl rfl ?_
    refine zq_iadd (pc' := 51) rfl rfl rfl ?_
    refine zq_calli (pc' := 54) rfl rfl rfl rfl rfl rfl (zE_mono H (fun r6 h5 H => ?_))
    rcases r6 with v7 | e8
    · obtain ⟨x9, e0, H⟩ := H
      refine Exists.intro x9 (And.intro e0 ?_)
      refine zq_ifeq (pc' := 57) rfl rfl rfl rfl (And.intro (fun c => ?_) (fun c => ?_))
      · have H := H.1 c
        refine zq_ipush (pc' := 62) rfl rfl rfl ?_
        refine zq_iadd (pc' := 63) rfl rfl rfl ?_
        refine zq_istore (pc' := 64) rfl rfl rfl ?_
        refine zq_iload (pc' := 65) rfl rfl rfl rfl ?_
        exact zq_iret rfl trivial H
      · have H := H.2 c
        refine zq_ipush (pc' := 58) rfl rfl rfl ?_
        refine zq_goto (pc' := 62) rfl rfl rfl ?_
        refine zq_iadd (pc' := 63) rfl rfl rfl ?_
        refine zq_istore (pc' := 64) rfl rfl rfl ?_
        refine zq_iload (pc' := 65) rfl rfl rfl rfl ?_
        exact zq_iret rfl trivial H
    · exact H
theorem zr_X8_gripsOf_0 {d : Nat} {Q : zR → zH → Prop} {p0 : Nat} {p1 : Int32} {h : zH} (H :
    zW (zE d) zm_X8_gripsOf Q (4, [(0, .ref p0), (1, .int p1), (2, .int 0), (3, .int 0)], [], h)) : zW (zE d) zm_X8_gripsOf Q (0, [(0, .ref p0), (1, .int p1)], [], h) := by
  refine zq_ipush (pc' := 1) rfl rfl rfl ?_
  refine zq_istore (pc' := 2) rfl rfl rfl ?_
  refine zq_ipush (pc' := 3) rfl rfl rfl ?_
  refine zq_istore_c (pc' := 4) rfl rfl ?_
  exact H
theorem zr_X8_gripsOf_4 {d : Nat} {Q : zR → zH → Prop} {l0 : Nat} {l1 : Int32} {l2 : Int32} {l3 : Int32} {h : zH} (H :
    ∃ a1 : Nat, zgf h l0 8 7 = some (.ref a1) ∧
    ∃ x2, zia h a1 l1 = some x2 ∧
    zbr (x2 ≤ l3)
    (Q (.inl (some (.int l2))) h)
    (∃ a3 : Nat, zgf h l0 8 26 = some (.ref a3) ∧
      ∃ x4, zia h a3 ((16 * l1) + l3) = some x4 ∧
      ∃ a5 : Nat, zgf h l0 8 27 = some (.ref a5) ∧
      ∃ x6, zia h a5 ((16 * l1) + l3) = some x6 ∧
      zW (zE d) zm_X8_gripsOf Q (4, [(0, .ref l0), (1, .int l1), (2, .int (l2 + (x4 + x6))), (3, .int (l3 + 1))], [], h))) : zW (zE d) zm_X8_gripsOf Q (4, [(0, .ref l0), (1, .int l1), (2, .int l2), (3, .int l3)], [], h) := by
  refine zq_iload (pc' := 5) rfl rfl rfl rfl ?_
  refine zq_aload (pc' := 6) rfl rfl rfl rfl ?_
  obtain ⟨a1, e0, H⟩ := H
  refine zq_getR (pc' := 9) rfl rfl rfl e0 ?_
  refine zq_iload (pc' := 10) rfl rfl rfl rfl ?_
  obtain ⟨x2, e0, H⟩ := H
  refine zq_iald (pc' := 11) rfl rfl rfl e0 ?_
  refine zq_icge (pc' := 14) rfl rfl rfl rfl (And.intro (fun c => ?_) (fun c => ?_))
  · have H := H.1 c
    refine zq_iload (pc' := 47) rfl rfl rfl rfl ?_
    exact zq_iret rfl trivial H
  · have H := H.2 c
    refine zq_iload (pc' := 15) rfl rfl rfl rfl ?_
    refine zq_aload (pc' := 16) rfl rfl rfl rfl ?_
    obtain ⟨a3, e0, H⟩ := H
    refine zq_getR (pc' := 19) rfl rfl rfl e0 ?_
    refine zq_ipush (pc' := 21) rfl rfl rfl ?_
    refine zq_iload (pc' := 22) rfl rfl rfl rfl ?_
    refine zq_imul (pc' := 23) rfl rfl rfl ?_
    refine zq_iload (pc' := 24) rfl rfl rfl rfl ?_
    refine zq_iadd (pc' := 25) rfl rfl rfl ?_
    obtain ⟨x4, e0, H⟩ := H
    refine zq_iald (pc' := 26) rfl rfl rfl e0 ?_
    refine zq_aload (pc' := 27) rfl rfl rfl rfl ?_
    obtain ⟨a5, e0, H⟩ := H
    refine zq_getR (pc' := 30) rfl rfl rfl e0 ?_
    refine zq_ipush (pc' := 32) rfl rfl rfl ?_
    refine zq_iload (pc' := 33) rfl rfl rfl rfl ?_
    refine zq_imul (pc' := 34) rfl rfl rfl ?_
    refine zq_iload (pc' := 35) rfl rfl rfl rfl ?_
    refine zq_iadd (pc' := 36) rfl rfl rfl ?_
    obtain ⟨x6, e0, H⟩ := H
    refine zq_iald (pc' := 37) rfl rfl rfl e0 ?_
    refine zq_iadd (pc' := 38) rfl rfl rfl ?_
    refine zq_iadd (pc' := 39) rfl rfl rfl ?_
    refine zq_istore (pc' := 40) rfl rfl rfl ?_
    refine zq_iinc (pc' := 43) rfl rfl rfl rfl ?_
    refine zq_goto_c (pc' := 4) rfl rfl ?_
    exact H
theorem zr_X8_allGrips_0 {d : Nat} {Q : zR → zH → Prop} {p0 : Nat} {h : zH} (H :
    zW (zE d) zm_X8_allGrips Q (4, [(0, .ref p0), (1, .int 0), (2, .int 0)], [], h)) : zW (zE d) zm_X8_allGrips Q (0, [(0, .ref p0)], [], h) := by
  refine zq_ipush (pc' := 1) rfl rfl rfl ?_
  refine zq_istore (pc' := 2) rfl rfl rfl ?_
  refine zq_ipush (pc' := 3) rfl rfl rfl ?_
  refine zq_istore_c (pc' := 4) rfl rfl ?_
  exact H
theorem zr_X8_allGrips_4 {d : Nat} {Q : zR → zH → Prop} {l0 : Nat} {l1 : Int32} {l2 : Int32} {h : zH} (H :
    ∃ a1 : Nat, zgf h l0 8 5 = some (.ref a1) ∧
    ∃ x2, zia h a1 0 = some x2 ∧
    zbr (x2 ≤ l2)
    (Q (.inl (some (.int l1))) h)
    (zE d 255 [.ref l0, .int l2] h (fun r4 h3 => match r4 with
        | .inl v5 => ∃ x7 : Int32, v5 = some (.int x7) ∧ zW (zE d) zm_X8_allGrips Q (4, [(0, .ref l0), (1, .int (l1 + x7)), (2, .int (l2 + 1))], [], h3)
        | .inr e6 => Q (.inr e6) h3))) : zW (zE d) zm_X8_allGrips Q (4, [(0, .ref l0), (1, .int l1), (2, .int l2)], [], h) := by
  refine zq_iload (pc' := 5) rfl rfl rfl rfl ?_
  refine zq_aload (pc' := 6) rfl rfl rfl rfl ?_
  obtain ⟨a1, e0, H⟩ := H
  refine zq_getR (pc' := 9) rfl rfl rfl e0 ?_
  refine zq_ipush (pc' := 10) rfl rfl rfl ?_
  obtain ⟨x2, e0, H⟩ := H
  refine zq_iald (pc' := 11) rfl rfl rfl e0 ?_
  refine zq_icge (pc' := 14) rfl rfl rfl rfl (And.intro (fun c => ?_) (fun c => ?_))
  · have H := H.1 c
    refine zq_iload (pc' := 29) rfl rfl rfl rfl ?_
    exact zq_iret rfl trivial H
  · have H := H.2 c
    refine zq_iload (pc' := 15) rfl rfl rfl rfl ?_
    refine zq_aload (pc' := 16) rfl rfl rfl rfl ?_
    refine zq_iload (pc' := 17) rfl rfl rfl rfl ?_
    refine zq_calli (pc' := 20) rfl rfl rfl rfl rfl rfl (zE_mono H (fun r4 h3 H => ?_))
    rcases r4 with v5 | e6
    · obtain ⟨x7, e0, H⟩ := H
      refine Exists.intro x7 (And.intro e0 ?_)
      refine zq_iadd (pc' := 21) rfl rfl rfl ?_
      refine zq_istore (pc' := 22) rfl rfl rfl ?_
      refine zq_iinc (pc' := 25) rfl rfl rfl rfl ?_
      refine zq_goto_c (pc' := 4) rfl rfl ?_
      exact H
    · exact H
theorem zr_X8_allClosed_0 {d : Nat} {Q : zR → zH → Prop} {p0 : Nat} {h : zH} (H :
    zW (zE d) zm_X8_allClosed Q (4, [(0, .ref p0), (1, .int 0), (2, .int 0)], [], h)) : zW (zE d) zm_X8_allClosed Q (0, [(0, .ref p0)], [], h) := by
  refine zq_ipush (pc' := 1) rfl rfl rfl ?_
  refine zq_istore (pc' := 2) rfl rfl rfl ?_
  refine zq_ipush (pc' := 3) rfl rfl rfl ?_
  refine zq_istore_c (pc' := 4) rfl rfl ?_
  exact H
theorem zr_X8_allClosed_4 {d : Nat} {Q : zR → zH → Prop} {l0 : Nat} {l1 : Int32} {l2 : Int32} {h : zH} (H :
    ∃ a1 : Nat, zgf h l0 8 5 = some (.ref a1) ∧
    ∃ x2, zia h a1 0 = some x2 ∧
    zbr (x2 ≤ l2)
    (Q (.inl (some (.int l1))) h)
    (∃ a3 : Nat, zgf h l0 8 29 = some (.ref a3) ∧
      ∃ x4, zia h a3 l2 = some x4 ∧
      zE d 219 [.int x4] h (fun r6 h5 => match r6 with
        | .inl v7 => ∃ x9 : Int32, v7 = some (.int x9) ∧ zW (zE d) zm_X8_allClosed Q (4, [(0, .ref l0), (1, .int (l1 + x9)), (2, .int (l2 + 1))], [], h5)
        | .inr e8 => Q (.inr e8) h5))) : zW (zE d) zm_X8_allClosed Q (4, [(0, .ref l0), (1, .int l1), (2, .int l2)], [], h) := by
  refine zq_iload (pc' := 5) rfl rfl rfl rfl ?_
  refine zq_aload (pc' := 6) rfl rfl rfl rfl ?_
  obtain ⟨a1, e0, H⟩ := H
  refine zq_getR (pc' := 9) rfl rfl rfl e0 ?_
  refine zq_ipush (pc' := 10) rfl rfl rfl ?_
  obtain ⟨x2, e0, H⟩ := H
  refine zq_iald (pc' := 11) rfl rfl rfl e0 ?_
  refine zq_icge (pc' := 14) rfl rfl rfl rfl (And.intro (fun c => ?_) (fun c => ?_))
  · have H := H.1 c
    refine zq_iload (pc' := 33) rfl rfl rfl rfl ?_
    exact zq_iret rfl trivial H
  · have H := H.2 c
    refine zq_iload (pc' := 15) rfl rfl rfl rfl ?_
    refine zq_aload (pc' := 16) rfl rfl rfl rfl ?_
    obtain ⟨a3, e0, H⟩ := H
    refine zq_getR (pc' := 19) rfl rfl rfl e0 ?_
    refine zq_iload (pc' := 20) rfl rfl rfl rfl ?_
    obtain ⟨x4, e0, H⟩ := H
    refine zq_iald (pc' := 21) rfl rfl rfl e0 ?_
    refine zq_calli (pc' := 24) rfl rfl rfl rfl rfl rfl (zE_mono H (fun r6 h5 H => ?_))
    rcases r6 with v7 | e8
    · obtain ⟨x9, e0, H⟩ := H
      refine Exists.intro x9 (And.intro e0 ?_)
      refine zq_iadd (pc' := 25) rfl rfl rfl ?_
      refine zq_istore (pc' := 26) rfl rfl rfl ?_
      refine zq_iinc (pc' := 29) rfl rfl rfl rfl ?_
      refine zq_goto_c (pc' := 4) rfl rfl ?_
      exact H
    · exact H
theorem zr_X8_reckon_0 {d : Nat} {Q : zR → zH → Prop} {p0 : Int32} {p1 : Int32} {p2 : Int32} {h : zH} (H :
    zbr (p0 = -nI 26)
    (zbr (p1 = 0)
      (Q (.inl (some (.int 0))) h)
      (zbr (p2 = 0)
        (Q (.inl (some (.int 0))) h)
        (Q (.inl (some (.int 1))) h)))
    (zbr (p0 = -nI 25)
    (zbr (p1 = p2)
      (Q (.inl (some (.int 1))) h)
      (Q (.inl (some (.int 0))) h))
    (zbr (p0 = -nI 24)
    (zbr (p2 ≤ p1)
      (Q (.inl (some (.int 0))) h)
      (Q (.inl (some (.int 1))) h))
    (zbr (p0 = -nI 23)
    (zbr (p2 = 0)
      (Q (.inl (some (.int 0))) h)
      (¬ p2 = 0 ∧ Q (.inl (some (.int (p1 / p2)))) h))
    (zbr (p0 = -nI 22)
    (Q (.inl (some (.int (p1 * p2)))) h)
    (zbr (p0 = -nI 21)
    (Q (.inl (some (.int (p1 - p2)))) h)
    (zbr (p0 = -nI 20)
    (Q (.inl (some (.int (p1 + p2)))) h)
    (zbr (p1 = 0)
      (zbr (p2 = 0)
        (Q (.inl (some (.int 0))) h)
        (Q (.inl (some (.int 1))) h))
      (Q (.inl (some (.int 1))) h))))))))) : zW (zE d) zm_X8_reckon Q (0, [(0, .int p0), (1, .int p1), (2, .int p2)], [], h) := by
  refine zq_iload (pc' := 1) rfl rfl rfl rfl ?_
  refine zq_switchn rfl ?_
  refine And.intro (fun c => ?_) (fun c => ?_)
  · have H := H.1 c
    show zW (zE d) zm_X8_reckon Q (90, [(0, .int p0), (1, .int p1), (2, .int p2)], [], h)
    refine zq_iload (pc' := 91) rfl rfl rfl rfl ?_
    refine zq_ifeq (pc' := 94) rfl rfl rfl rfl (And.intro (fun c => ?_) (fun c => ?_))
    · have H := H.1 c
      refine zq_ipush (pc' := 103) rfl rfl rfl ?_
      exact zq_iret rfl trivial H
    · have H := H.2 c
      refine zq_iload (pc' := 95) rfl rfl rfl rfl ?_
      refine zq_ifeq (pc' := 98) rfl rfl rfl rfl (And.intro (fun c => ?_) (fun c => ?_))
      · have H := H.1 c
        refine zq_ipush (pc' := 103) rfl rfl rfl ?_
        exact zq_iret rfl trivial H
      · have H := H.2 c
        refine zq_ipush (pc' := 99) rfl rfl rfl ?_
        refine zq_goto (pc' := 103) rfl rfl rfl ?_
        exact zq_iret rfl trivial H
  · have H := H.2 c
    refine And.intro (fun c => ?_) (fun c => ?_)
    · have H := H.1 c
      show zW (zE d) zm_X8_reckon Q (79, [(0, .int p0), (1, .int p1), (2, .int p2)], [], h)
      refine zq_iload (pc' := 80) rfl rfl rfl rfl ?_
      refine zq_iload (pc' := 81) rfl rfl rfl rfl ?_
      refine zq_icne (pc' := 84) rfl rfl rfl rfl (And.intro (fun c => ?_) (fun c => ?_))
      · have H := H.1 c
        refine zq_ipush (pc' := 85) rfl rfl rfl ?_
        refine zq_goto (pc' := 89) rfl rfl rfl ?_
        exact zq_iret rfl trivial H
      · have H := H.2 c
        refine zq_ipush (pc' := 89) rfl rfl rfl ?_
        exact zq_iret rfl trivial H
    · have H := H.2 c
      refine And.intro (fun c => ?_) (fun c => ?_)
      · have H := H.1 c
        show zW (zE d) zm_X8_reckon Q (68, [(0, .int p0), (1, .int p1), (2, .int p2)], [], h)
        refine zq_iload (pc' := 69) rfl rfl rfl rfl ?_
        refine zq_iload (pc' := 70) rfl rfl rfl rfl ?_
        refine zq_icge (pc' := 73) rfl rfl rfl rfl (And.intro (fun c => ?_) (fun c => ?_))
        · have H := H.1 c
          refine zq_ipush (pc' := 78) rfl rfl rfl ?_
          exact zq_iret rfl trivial H
        · have H := H.2 c
          refine zq_ipush (pc' := 74) rfl rfl rfl ?_
          refine zq_goto (pc' := 78) rfl rfl rfl ?_
          exact zq_iret rfl trivial H
      · have H := H.2 c
        refine And.intro (fun c => ?_) (fun c => ?_)
        · have H := H.1 c
          show zW (zE d) zm_X8_reckon Q (56, [(0, .int p0), (1, .int p1), (2, .int p2)], [], h)
          refine zq_iload (pc' := 57) rfl rfl rfl rfl ?_
          refine zq_ifne (pc' := 60) rfl rfl rfl rfl (And.intro (fun c => ?_) (fun c => ?_))
          · have H := H.1 c
            refine zq_ipush (pc' := 61) rfl rfl rfl ?_
            refine zq_goto (pc' := 67) rfl rfl rfl ?_
            exact zq_iret rfl trivial H
          · have H := H.2 c
            refine zq_iload (pc' := 65) rfl rfl rfl rfl ?_
            refine zq_iload (pc' := 66) rfl rfl rfl rfl ?_
            obtain ⟨e0, H⟩ := H
            refine zq_idiv (pc' := 67) rfl rfl rfl e0 ?_
            exact zq_iret rfl trivial H
        · have H := H.2 c
          refine And.intro (fun c => ?_) (fun c => ?_)
          · have H := H.1 c
            show zW (zE d) zm_X8_reckon Q (52, [(0, .int p0), (1, .int p1), (2, .int p2)], [], h)
            refine zq_iload (pc' := 53) rfl rfl rfl rfl ?_
            refine zq_iload (pc' := 54) rfl rfl rfl rfl ?_
            refine zq_imul (pc' := 55) rfl rfl rfl ?_
            exact zq_iret rfl trivial H
          · have H := H.2 c
            refine And.intro (fun c => ?_) (fun c => ?_)
            · have H := H.1 c
              show zW (zE d) zm_X8_reckon Q (48, [(0, .int p0), (1, .int p1), (2, .int p2)], [], h)
              refine zq_iload (pc' := 49) rfl rfl rfl rfl ?_
              refine zq_iload (pc' := 50) rfl rfl rfl rfl ?_
              refine zq_isub (pc' := 51) rfl rfl rfl ?_
              exact zq_iret rfl trivial H
            · have H := H.2 c
              refine And.intro (fun c => ?_) (fun c => ?_)
              · have H := H.1 c
                show zW (zE d) zm_X8_reckon Q (44, [(0, .int p0), (1, .int p1), (2, .int p2)], [], h)
                refine zq_iload (pc' := 45) rfl rfl rfl rfl ?_
                refine zq_iload (pc' := 46) rfl rfl rfl rfl ?_
                refine zq_iadd (pc' := 47) rfl rfl rfl ?_
                exact zq_iret rfl trivial H
              · have H := H.2 c
                show zW (zE d) zm_X8_reckon Q (104, [(0, .int p0), (1, .int p1), (2, .int p2)], [], h)
                refine zq_iload (pc' := 105) rfl rfl rfl rfl ?_
                refine zq_ifne (pc' := 108) rfl rfl rfl rfl (And.intro (fun c => ?_) (fun c => ?_))
                · have H := H.1 c
                  refine zq_iload (pc' := 109) rfl rfl rfl rfl ?_
                  refine zq_ifeq (pc' := 112) rfl rfl rfl rfl (And.intro (fun c => ?_) (fun c => ?_))
                  · have H := H.1 c
                    refine zq_ipush (pc' := 117) rfl rfl rfl ?_
                    exact zq_iret rfl trivial H
                  · have H := H.2 c
                    refine zq_ipush (pc' := 113) rfl rfl rfl ?_
                    refine zq_goto (pc' := 117) rfl rfl rfl ?_
                    exact zq_iret rfl trivial H
                · have H := H.2 c
                  refine zq_ipush (pc' := 113) rfl rfl rfl ?_
                  refine zq_goto (pc' := 117) rfl rfl rfl ?_
                  exact zq_iret rfl trivial H
theorem zr_X8_valueNow_0 {d : Nat} {Q : zR → zH → Prop} {p0 : Nat} {p1 : Nat} {p2 : Int32} {h : zH} (H :
    zW (zE d) zm_X8_valueNow Q (5, [(0, .ref p0), (1, .ref p1), (2, .int p2), (3, .int 0), (4, .int 0)], [], h)) : zW (zE d) zm_X8_valueNow Q (0, [(0, .ref p0), (1, .ref p1), (2, .int p2)], [], h) := by
  refine zq_ipush (pc' := 1) rfl rfl rfl ?_
  refine zq_istore (pc' := 2) rfl rfl rfl ?_
  refine zq_ipush (pc' := 3) rfl rfl rfl ?_
  refine zq_istore_c (pc' := 5) rfl rfl ?_
  exact H
theorem zr_X8_valueNow_5 {d : Nat} {Q : zR → zH → Prop} {l0 : Nat} {l1 : Nat} {l2 : Int32} {l3 : Int32} {l4 : Int32} {h : zH} (H :
    zbr (l2 ≤ l4)
    (∃ a1 : Nat, zgf h l0 8 35 = some (.ref a1) ∧
      ∃ x2, zia h a1 0 = some x2 ∧
      Q (.inl (some (.int x2))) h)
    (∃ x3, zia h l1 l4 = some x3 ∧
      zbr (x3 ≤ (-20))
      (zbr (x3 = (-28))
        (∃ a4 : Nat, zgf h l0 8 35 = some (.ref a4) ∧
          ∃ a5 : Nat, zgf h l0 8 35 = some (.ref a5) ∧
          ∃ x6, zia h a5 (l3 - 1) = some x6 ∧
          zbr (x6 = 0)
          (∃ h7, zis h a4 (l3 - 1) 1 = some h7 ∧
            zW (zE d) zm_X8_valueNow Q (5, [(0, .ref l0), (1, .ref l1), (2, .int l2), (3, .int l3), (4, .int (l4 + 1))], [], h7))
          (∃ h8, zis h a4 (l3 - 1) 0 = some h8 ∧
            zW (zE d) zm_X8_valueNow Q (5, [(0, .ref l0), (1, .ref l1), (2, .int l2), (3, .int l3), (4, .int (l4 + 1))], [], h8)))
        (∃ a9 : Nat, zgf h l0 8 35 = some (.ref a9) ∧
          ∃ a10 : Nat, zgf h l0 8 35 = some (.ref a10) ∧
          ∃ x11, zia h a10 ((l3 + (-1)) - 1) = some x11 ∧
          ∃ a12 : Nat, zgf h l0 8 35 = some (.ref a12) ∧
          ∃ x13, zia h a12 (l3 + (-1)) = some x13 ∧
          zE d 258 [.int x3, .int x11, .int x13] h (fun r15 h14 => match r15 with
            | .inl v16 => ∃ x18 : Int32, v16 = some (.int x18) ∧ ∃ h19, zis h14 a9 ((l3 + (-1)) - 1) x18 = some h19 ∧
              zW (zE d) zm_X8_valueNow Q (5, [(0, .ref l0), (1, .ref l1), (2, .int l2), (3, .int (l3 + (-1))), (4, .int (l4 + 1))], [], h19)
            | .inr e17 => Q (.inr e17) h14)))
      (∃ a20 : Nat, zgf h l0 8 35 = some (.ref a20) ∧
        zbr (x3 < 0)
        (∃ a21 : Nat, zgf h l0 8 34 = some (.ref a21) ∧
          ∃ x22, zia h a21 ((-1) - x3) = some x22 ∧
          ∃ h23, zis h a20 l3 x22 = some h23 ∧
          zW (zE d) zm_X8_valueNow Q (5, [(0, .ref l0), (1, .ref l1), (2, .int l2), (3, .int (l3 + 1)), (4, .int (l4 + 1))], [], h23))
        (∃ h24, zis h a20 l3 x3 = some h24 ∧
          zW (zE d) zm_X8_valueNow Q (5, [(0, .ref l0), (1, .ref l1), (2, .int l2), (3, .int (l3 + 1)), (4, .int (l4 + 1))], [], h24))))) : zW (zE d) zm_X8_valueNow Q (5, [(0, .ref l0), (1, .ref l1), (2, .int l2), (3, .int l3), (4, .int l4)], [], h) := by
  refine zq_iload (pc' := 7) rfl rfl rfl rfl ?_
  refine zq_iload (pc' := 8) rfl rfl rfl rfl ?_
  refine zq_icge (pc' := 11) rfl rfl rfl rfl (And.intro (fun c => ?_) (fun c => ?_))
  · have H := H.1 c
    refine zq_aload (pc' := 126) rfl rfl rfl rfl ?_
    obtain ⟨a1, e0, H⟩ := H
    refine zq_getR (pc' := 129) rfl rfl rfl e0 ?_
    refine zq_ipush (pc' := 130) rfl rfl rfl ?_
    obtain ⟨x2, e0, H⟩ := H
    refine zq_iald (pc' := 131) rfl rfl rfl e0 ?_
    exact zq_iret rfl trivial H
  · have H := H.2 c
    refine zq_aload (pc' := 12) rfl rfl rfl rfl ?_
    refine zq_iload (pc' := 14) rfl rfl rfl rfl ?_
    obtain ⟨x3, e0, H⟩ := H
    refine zq_iald (pc' := 15) rfl rfl rfl e0 ?_
    refine zq_istore (pc' := 17) rfl rfl rfl ?_
    refine zq_iload (pc' := 19) rfl rfl rfl rfl ?_
    refine zq_ipushn (pc' := 21) rfl rfl rfl ?_
    refine zq_icle (pc' := 24) rfl rfl rfl rfl (And.intro (fun c => ?_) (fun c => ?_))
    · have H := H.1 c
      refine zq_iload (pc' := 57) rfl rfl rfl rfl ?_
      refine zq_ipushn (pc' := 59) rfl rfl rfl ?_
      refine zq_icne (pc' := 62) rfl rfl rfl rfl (And.intro (fun c => ?_) (fun c => ?_))
      · have H := H.1 c
        refine zq_aload (pc' := 63) rfl rfl rfl rfl ?_
        obtain ⟨a4, e0, H⟩ := H
        refine zq_getR (pc' := 66) rfl rfl rfl e0 ?_
        refine zq_iload (pc' := 67) rfl rfl rfl rfl ?_
        refine zq_ipush (pc' := 68) rfl rfl rfl ?_
        refine zq_isub (pc' := 69) rfl rfl rfl ?_
        refine zq_aload (pc' := 70) rfl rfl rfl rfl ?_
        obtain ⟨a5, e0, H⟩ := H
        refine zq_getR (pc' := 73) rfl rfl rfl e0 ?_
        refine zq_iload (pc' := 74) rfl rfl rfl rfl ?_
        refine zq_ipush (pc' := 75) rfl rfl rfl ?_
        refine zq_isub (pc' := 76) rfl rfl rfl ?_
        obtain ⟨x6, e0, H⟩ := H
        refine zq_iald (pc' := 77) rfl rfl rfl e0 ?_
        refine zq_ifeq (pc' := 80) rfl rfl rfl rfl (And.intro (fun c => ?_) (fun c => ?_))
        · have H := H.1 c
          refine zq_ipush (pc' := 85) rfl rfl rfl ?_
          obtain ⟨h7, e0, H⟩ := H
          refine zq_iast (pc' := 86) rfl rfl rfl e0 ?_
          refine zq_goto (pc' := 119) rfl rfl rfl ?_
          refine zq_iinc (pc' := 122) rfl rfl rfl rfl ?_
          refine zq_goto_c (pc' := 5) rfl rfl ?_
          exact H
        · have H := H.2 c
          refine zq_ipush (pc' := 81) rfl rfl rfl ?_
          refine zq_goto (pc' := 85) rfl rfl rfl ?_
          obtain ⟨h8, e0, H⟩ := H
          refine zq_iast (pc' := 86) rfl rfl rfl e0 ?_
          refine zq_goto (pc' := 119) rfl rfl rfl ?_
          refine zq_iinc (pc' := 122) rfl rfl rfl rfl ?_
          refine zq_goto_c (pc' := 5) rfl rfl ?_
          exact H
      · have H := H.2 c
        refine zq_iincn (pc' := 92) rfl rfl rfl rfl ?_
        refine zq_aload (pc' := 93) rfl rfl rfl rfl ?_
        obtain ⟨a9, e0, H⟩ := H
        refine zq_getR (pc' := 96) rfl rfl rfl e0 ?_
        refine zq_iload (pc' := 97) rfl rfl rfl rfl ?_
        refine zq_ipush (pc' := 98) rfl rfl rfl ?_
        refine zq_isub (pc' := 99) rfl rfl rfl ?_
        refine zq_iload (pc' := 101) rfl rfl rfl rfl ?_
        refine zq_aload (pc' := 102) rfl rfl rfl rfl ?_
        obtain ⟨a10, e0, H⟩ := H
        refine zq_getR (pc' := 105) rfl rfl rfl e0 ?_
        refine zq_iload (pc' := 106) rfl rfl rfl rfl ?_
        refine zq_ipush (pc' := 107) rfl rfl rfl ?_
        refine zq_isub (pc' := 108) rfl rfl rfl ?_
        obtain ⟨x11, e0, H⟩ := H
        refine zq_iald (pc' := 109) rfl rfl rfl e0 ?_
        refine zq_aload (pc' := 110) rfl rfl rfl rfl ?_
        obtain ⟨a12, e0, H⟩ := H
        refine zq_getR (pc' := 113) rfl rfl rfl e0 ?_
        refine zq_iload (pc' := 114) rfl rfl rfl rfl ?_
        obtain ⟨x13, e0, H⟩ := H
        refine zq_iald (pc' := 115) rfl rfl rfl e0 ?_
        refine zq_calli (pc' := 118) rfl rfl rfl rfl rfl rfl (zE_mono H (fun r15 h14 H => ?_))
        rcases r15 with v16 | e17
        · obtain ⟨x18, e0, H⟩ := H
          refine Exists.intro x18 (And.intro e0 ?_)
          obtain ⟨h19, e0, H⟩ := H
          refine zq_iast (pc' := 119) rfl rfl rfl e0 ?_
          refine zq_iinc (pc' := 122) rfl rfl rfl rfl ?_
          refine zq_goto_c (pc' := 5) rfl rfl ?_
          exact H
        · exact H
    · have H := H.2 c
      refine zq_aload (pc' := 25) rfl rfl rfl rfl ?_
      obtain ⟨a20, e0, H⟩ := H
      refine zq_getR (pc' := 28) rfl rfl rfl e0 ?_
      refine zq_iload (pc' := 29) rfl rfl rfl rfl ?_
      refine zq_iload (pc' := 31) rfl rfl rfl rfl ?_
      refine zq_iflt (pc' := 34) rfl rfl rfl rfl (And.intro (fun c => ?_) (fun c => ?_))
      · have H := H.1 c
        refine zq_aload (pc' := 40) rfl rfl rfl rfl ?_
        obtain ⟨a21, e0, H⟩ := H
        refine zq_getR (pc' := 43) rfl rfl rfl e0 ?_
        refine zq_ipushn (pc' := 44) rfl rfl rfl ?_
        refine zq_iload (pc' := 46) rfl rfl rfl rfl ?_
        refine zq_isub (pc' := 47) rfl rfl rfl ?_
        obtain ⟨x22, e0, H⟩ := H
        refine zq_iald (pc' := 48) rfl rfl rfl e0 ?_
        obtain ⟨h23, e0, H⟩ := H
        refine zq_iast (pc' := 49) rfl rfl rfl e0 ?_
        refine zq_iinc (pc' := 52) rfl rfl rfl rfl ?_
        refine zq_goto (pc' := 119) rfl rfl rfl ?_
        refine zq_iinc (pc' := 122) rfl rfl rfl rfl ?_
        refine zq_goto_c (pc' := 5) rfl rfl ?_
        exact H
      · have H := H.2 c
        refine zq_iload (pc' := 36) rfl rfl rfl rfl ?_
        refine zq_goto (pc' := 48) rfl rfl rfl ?_
        obtain ⟨h24, e0, H⟩ := H
        refine zq_iast (pc' := 49) rfl rfl rfl e0 ?_
        refine zq_iinc (pc' := 52) rfl rfl rfl rfl ?_
        refine zq_goto (pc' := 119) rfl rfl rfl ?_
        refine zq_iinc (pc' := 122) rfl rfl rfl rfl ?_
        refine zq_goto_c (pc' := 5) rfl rfl ?_
        exact H
theorem zr_X8_strainOf_0 {d : Nat} {Q : zR → zH → Prop} {p0 : Nat} {p1 : Int32} {h : zH} (H :
    ∃ a1 : Nat, zgf h p0 8 5 = some (.ref a1) ∧
    ∃ x2, zia h a1 1 = some x2 ∧
    zbr (x2 = 0)
    (Q (.inl (some (.int 4))) h)
    (∃ a3 : Nat, zgf h p0 8 10 = some (.ref a3) ∧
      ∃ a4 : Nat, zgf h p0 8 5 = some (.ref a4) ∧
      ∃ x5, zia h a4 1 = some x5 ∧
      ¬ x5 = 0 ∧ ∃ x6, zia h a3 (p1 - p1 / x5 * x5) = some x6 ∧
      Q (.inl (some (.int x6))) h)) : zW (zE d) zm_X8_strainOf Q (0, [(0, .ref p0), (1, .int p1)], [], h) := by
  refine zq_aload (pc' := 1) rfl rfl rfl rfl ?_
  obtain ⟨a1, e0, H⟩ := H
  refine zq_getR (pc' := 4) rfl rfl rfl e0 ?_
  refine zq_ipush (pc' := 5) rfl rfl rfl ?_
  obtain ⟨x2, e0, H⟩ := H
  refine zq_iald (pc' := 6) rfl rfl rfl e0 ?_
  refine zq_ifne (pc' := 9) rfl rfl rfl rfl (And.intro (fun c => ?_) (fun c => ?_))
  · have H := H.1 c
    refine zq_ipush (pc' := 10) rfl rfl rfl ?_
    refine zq_goto (pc' := 26) rfl rfl rfl ?_
    exact zq_iret rfl trivial H
  · have H := H.2 c
    refine zq_aload (pc' := 14) rfl rfl rfl rfl ?_
    obtain ⟨a3, e0, H⟩ := H
    refine zq_getR (pc' := 17) rfl rfl rfl e0 ?_
    refine zq_iload (pc' := 18) rfl rfl rfl rfl ?_
    refine zq_aload (pc' := 19) rfl rfl rfl rfl ?_
    obtain ⟨a4, e0, H⟩ := H
    refine zq_getR (pc' := 22) rfl rfl rfl e0 ?_
    refine zq_ipush (pc' := 23) rfl rfl rfl ?_
    obtain ⟨x5, e0, H⟩ := H
    refine zq_iald (pc' := 24) rfl rfl rfl e0 ?_
    obtain ⟨e0, H⟩ := H
    refine zq_irem (pc' := 25) rfl rfl rfl e0 ?_
    obtain ⟨x6, e0, H⟩ := H
    refine zq_iald (pc' := 26) rfl rfl rfl e0 ?_
    exact zq_iret rfl trivial H
theorem zr_X8_ruleOf_0 {d : Nat} {Q : zR → zH → Prop} {p0 : Nat} {p1 : Nat} {p2 : Int32} {p3 : Int32} {p4 : Int32} {p5 : Int32} {p6 : Int32} {h : zH} (H :
    ∃ a1 : Nat, zgf h p0 8 34 = some (.ref a1) ∧
    ∃ h2, zis h a1 0 p5 = some h2 ∧
    ∃ a3 : Nat, zgf h2 p0 8 34 = some (.ref a3) ∧
    ∃ h4, zis h2 a3 1 p4 = some h4 ∧
    ∃ a5 : Nat, zgf h4 p0 8 34 = some (.ref a5) ∧
    zE d 251 [.ref p0, .int p3, .int p4] h4 (fun r7 h6 => match r7 with
      | .inl v8 => ∃ x10 : Int32, v8 = some (.int x10) ∧ ∃ h11, zis h6 a5 2 x10 = some h11 ∧
        ∃ a12 : Nat, zgf h11 p0 8 34 = some (.ref a12) ∧
        ∃ x13 : Int32, zgf h11 p0 8 31 = some (.int x13) ∧
        ∃ h14, zis h11 a12 3 x13 = some h14 ∧
        ∃ a15 : Nat, zgf h14 p0 8 34 = some (.ref a15) ∧
        ∃ h16, zis h14 a15 4 p6 = some h16 ∧
        zE d 259 [.ref p0, .ref p1, .int p2] h16 (fun r18 h17 => match r18 with
          | .inl v19 => ∃ x21 : Int32, v19 = some (.int x21) ∧ Q (.inl (some (.int x21))) h17
          | .inr e20 => Q (.inr e20) h17)
      | .inr e9 => Q (.inr e9) h6)) : zW (zE d) zm_X8_ruleOf Q (0, [(0, .ref p0), (1, .ref p1), (2, .int p2), (3, .int p3), (4, .int p4), (5, .int p5), (6, .int p6)], [], h) := by
  refine zq_aload (pc' := 1) rfl rfl rfl rfl ?_
  obtain ⟨a1, e0, H⟩ := H
  refine zq_getR (pc' := 4) rfl rfl rfl e0 ?_
  refine zq_ipush (pc' := 5) rfl rfl rfl ?_
  refine zq_iload (pc' := 7) rfl rfl rfl rfl ?_
  obtain ⟨h2, e0, H⟩ := H
  refine zq_iast (pc' := 8) rfl rfl rfl e0 ?_
  refine zq_aload (pc' := 9) rfl rfl rfl rfl ?_
  obtain ⟨a3, e0, H⟩ := H
  refine zq_getR (pc' := 12) rfl rfl rfl e0 ?_
  refine zq_ipush (pc' := 13) rfl rfl rfl ?_
  refine zq_iload (pc' := 15) rfl rfl rfl rfl ?_
  obtain ⟨h4, e0, H⟩ := H
  refine zq_iast (pc' := 16) rfl rfl rfl e0 ?_
  refine zq_aload (pc' := 17) rfl rfl rfl rfl ?_
  obtain ⟨a5, e0, H⟩ := H
  refine zq_getR (pc' := 20) rfl rfl rfl e0 ?_
  refine zq_ipush (pc' := 21) rfl rfl rfl ?_
  refine zq_aload (pc' := 22) rfl rfl rfl rfl ?_
  refine zq_iload (pc' := 23) rfl rfl rfl rfl ?_
  refine zq_iload (pc' := 25) rfl rfl rfl rfl ?_
  refine zq_calli (pc' := 28) rfl rfl rfl rfl rfl rfl (zE_mono H (fun r7 h6 H => ?_))
  rcases r7 with v8 | e9
  · obtain ⟨x10, e0, H⟩ := H
    refine Exists.intro x10 (And.intro e0 ?_)
    obtain ⟨h11, e0, H⟩ := H
    refine zq_iast (pc' := 29) rfl rfl rfl e0 ?_
    refine zq_aload (pc' := 30) rfl rfl rfl rfl ?_
    obtain ⟨a12, e0, H⟩ := H
    refine zq_getR (pc' := 33) rfl rfl rfl e0 ?_
    refine zq_ipush (pc' := 34) rfl rfl rfl ?_
    refine zq_aload (pc' := 35) rfl rfl rfl rfl ?_
    obtain ⟨x13, e0, H⟩ := H
    refine zq_getI (pc' := 38) rfl rfl rfl e0 ?_
    obtain ⟨h14, e0, H⟩ := H
    refine zq_iast (pc' := 39) rfl rfl rfl e0 ?_
    refine zq_aload (pc' := 40) rfl rfl rfl rfl ?_
    obtain ⟨a15, e0, H⟩ := H
    refine zq_getR (pc' := 43) rfl rfl rfl e0 ?_
    refine zq_ipush (pc' := 44) rfl rfl rfl ?_
    refine zq_iload (pc' := 46) rfl rfl rfl rfl ?_
    obtain ⟨h16, e0, H⟩ := H
    refine zq_iast (pc' := 47) rfl rfl rfl e0 ?_
    refine zq_aload (pc' := 48) rfl rfl rfl rfl ?_
    refine zq_aload (pc' := 49) rfl rfl rfl rfl ?_
    refine zq_iload (pc' := 50) rfl rfl rfl rfl ?_
    refine zq_calli (pc' := 53) rfl rfl rfl rfl rfl rfl (zE_mono H (fun r18 h17 H => ?_))
    rcases r18 with v19 | e20
    · obtain ⟨x21, e0, H⟩ := H
      refine Exists.intro x21 (And.intro e0 ?_)
      exact zq_iret rfl trivial H
    · exact H
  · exact H
theorem zr_X8_wouldBurst_0 {d : Nat} {Q : zR → zH → Prop} {p0 : Nat} {p1 : Int32} {p2 : Int32} {p3 : Int32} {h : zH} (H :
    zE d 254 [.ref p0, .int p1, .int p2] h (fun r2 h1 => match r2 with
      | .inl v3 => ∃ x5 : Int32, v3 = some (.int x5) ∧ ∃ a6 : Nat, zgf h1 p0 8 5 = some (.ref a6) ∧
        ∃ x7, zia h1 a6 2 = some x7 ∧
        zbr (x7 ≤ 0)
        (zE d 3 [.int 99, .int (p3 + (2 * x5))] h1 (fun r9 h8 => match r9 with
            | .inl v10 => ∃ x12 : Int32, v10 = some (.int x12) ∧ zE d 2 [.int 0, .int x12] h8 (fun r14 h13 => match r14 with
                | .inl v15 => ∃ x17 : Int32, v15 = some (.int x17) ∧ zE d 251 [.ref p0, .int p1, .int p2] h13 (fun r19 h18 => match r19 with
                    | .inl v20 => ∃ x22 : Int32, v20 = some (.int x22) ∧ zbr (x17 ≤ x22)
                      (Q (.inl (some (.int 0))) h18)
                      (Q (.inl (some (.int 1))) h18)
                    | .inr e21 => Q (.inr e21) h18)
                | .inr e16 => Q (.inr e16) h13)
            | .inr e11 => Q (.inr e11) h8))
        (∃ a23 : Nat, zgf h1 p0 8 11 = some (.ref a23) ∧
          ∃ a24 : Nat, zgf h1 p0 8 5 = some (.ref a24) ∧
          ∃ x25, zia h1 a24 2 = some x25 ∧
          zE d 261 [.ref p0, .ref a23, .int x25, .int p1, .int p2, .int p3, .int x5] h1 (fun r27 h26 => match r27 with
            | .inl v28 => ∃ x30 : Int32, v28 = some (.int x30) ∧ zE d 3 [.int 99, .int x30] h26 (fun r32 h31 => match r32 with
                | .inl v33 => ∃ x35 : Int32, v33 = some (.int x35) ∧ zE d 2 [.int 0, .int x35] h31 (fun r37 h36 => match r37 with
                    | .inl v38 => ∃ x40 : Int32, v38 = some (.int x40) ∧ zE d 251 [.ref p0, .int p1, .int p2] h36 (fun r42 h41 => match r42 with
                        | .inl v43 => ∃ x45 : Int32, v43 = some (.int x45) ∧ zbr (x40 ≤ x45)
                          (Q (.inl (some (.int 0))) h41)
                          (Q (.inl (some (.int 1))) h41)
                        | .inr e44 => Q (.inr e44) h41)
                    | .inr e39 => Q (.inr e39) h36)
                | .inr e34 => Q (.inr e34) h31)
            | .inr e29 => Q (.inr e29) h26))
      | .inr e4 => Q (.inr e4) h1)) : zW (zE d) zm_X8_wouldBurst Q (0, [(0, .ref p0), (1, .int p1), (2, .int p2), (3, .int p3)], [], h) := by
  refine zq_aload (pc' := 1) rfl rfl rfl rfl ?_
  refine zq_iload (pc' := 2) rfl rfl rfl rfl ?_
  refine zq_iload (pc' := 3) rfl rfl rfl rfl ?_
  refine zq_calli (pc' := 6) rfl rfl rfl rfl rfl rfl (zE_mono H (fun r2 h1 H => ?_))
  rcases r2 with v3 | e4
  · obtain ⟨x5, e0, H⟩ := H
    refine Exists.intro x5 (And.intro e0 ?_)
    refine zq_istore (pc' := 8) rfl rfl rfl ?_
    refine zq_aload (pc' := 9) rfl rfl rfl rfl ?_
    obtain ⟨a6, e0, H⟩ := H
    refine zq_getR (pc' := 12) rfl rfl rfl e0 ?_
    refine zq_ipush (pc' := 13) rfl rfl rfl ?_
    obtain ⟨x7, e0, H⟩ := H
    refine zq_iald (pc' := 14) rfl rfl rfl e0 ?_
    refine zq_ifle (pc' := 17) rfl rfl rfl rfl (And.intro (fun c => ?_) (fun c => ?_))
    · have H := H.1 c
      refine zq_iload (pc' := 40) rfl rfl rfl rfl ?_
      refine zq_ipush (pc' := 41) rfl rfl rfl ?_
      refine zq_iload (pc' := 43) rfl rfl rfl rfl ?_
      refine zq_imul (pc' := 44) rfl rfl rfl ?_
      refine zq_iadd (pc' := 45) rfl rfl rfl ?_
      refine zq_istore (pc' := 47) rfl rfl rfl ?_
      refine zq_ipush (pc' := 48) rfl rfl rfl ?_
      refine zq_ipush (pc' := 50) rfl rfl rfl ?_
      refine zq_iload (pc' := 52) rfl rfl rfl rfl ?_
      refine zq_calli (pc' := 55) rfl rfl rfl rfl rfl rfl (zE_mono H (fun r9 h8 H => ?_))
      rcases r9 with v10 | e11
      · obtain ⟨x12, e0, H⟩ := H
        refine Exists.intro x12 (And.intro e0 ?_)
        refine zq_calli (pc' := 58) rfl rfl rfl rfl rfl rfl (zE_mono H (fun r14 h13 H => ?_))
        rcases r14 with v15 | e16
        · obtain ⟨x17, e0, H⟩ := H
          refine Exists.intro x17 (And.intro e0 ?_)
          refine zq_aload (pc' := 59) rfl rfl rfl rfl ?_
          refine zq_iload (pc' := 60) rfl rfl rfl rfl ?_
          refine zq_iload (pc' := 61) rfl rfl rfl rfl ?_
          refine zq_calli (pc' := 64) rfl rfl rfl rfl rfl rfl (zE_mono H (fun r19 h18 H => ?_))
          rcases r19 with v20 | e21
          · obtain ⟨x22, e0, H⟩ := H
            refine Exists.intro x22 (And.intro e0 ?_)
            refine zq_icle (pc' := 67) rfl rfl rfl rfl (And.intro (fun c => ?_) (fun c => ?_))
            · have H := H.1 c
              refine zq_ipush (pc' := 72) rfl rfl rfl ?_
              exact zq_iret rfl (Or.inl rfl) H
            · have H := H.2 c
              refine zq_ipush (pc' := 68) rfl rfl rfl ?_
              refine zq_goto (pc' := 72) rfl rfl rfl ?_
              exact zq_iret rfl (Or.inr rfl) H
          · exact H
        · exact H
      · exact H
    · have H := H.2 c
      refine zq_aload (pc' := 18) rfl rfl rfl rfl ?_
      refine zq_aload (pc' := 19) rfl rfl rfl rfl ?_
      obtain ⟨a23, e0, H⟩ := H
      refine zq_getR (pc' := 22) rfl rfl rfl e0 ?_
      refine zq_aload (pc' := 23) rfl rfl rfl rfl ?_
      obtain ⟨a24, e0, H⟩ := H
      refine zq_getR (pc' := 26) rfl rfl rfl e0 ?_
      refine zq_ipush (pc' := 27) rfl rfl rfl ?_
      obtain ⟨x25, e0, H⟩ := H
      refine zq_iald (pc' := 28) rfl rfl rfl e0 ?_
      refine zq_iload (pc' := 29) rfl rfl rfl rfl ?_
      refine zq_iload (pc' := 30) rfl rfl rfl rfl ?_
      refine zq_iload (pc' := 31) rfl rfl rfl rfl ?_
      refine zq_iload (pc' := 33) rfl rfl rfl rfl ?_
      refine zq_calli (pc' := 36) rfl rfl rfl rfl rfl rfl (zE_mono H (fun r27 h26 H => ?_))
      rcases r27 with v28 | e29
      · obtain ⟨x30, e0, H⟩ := H
        refine Exists.intro x30 (And.intro e0 ?_)
        refine zq_goto (pc' := 45) rfl rfl rfl ?_
        refine zq_istore (pc' := 47) rfl rfl rfl ?_
        refine zq_ipush (pc' := 48) rfl rfl rfl ?_
        refine zq_ipush (pc' := 50) rfl rfl rfl ?_
        refine zq_iload (pc' := 52) rfl rfl rfl rfl ?_
        refine zq_calli (pc' := 55) rfl rfl rfl rfl rfl rfl (zE_mono H (fun r32 h31 H => ?_))
        rcases r32 with v33 | e34
        · obtain ⟨x35, e0, H⟩ := H
          refine Exists.intro x35 (And.intro e0 ?_)
          refine zq_calli (pc' := 58) rfl rfl rfl rfl rfl rfl (zE_mono H (fun r37 h36 H => ?_))
          rcases r37 with v38 | e39
          · obtain ⟨x40, e0, H⟩ := H
            refine Exists.intro x40 (And.intro e0 ?_)
            refine zq_aload (pc' := 59) rfl rfl rfl rfl ?_
            refine zq_iload (pc' := 60) rfl rfl rfl rfl ?_
            refine zq_iload (pc' := 61) rfl rfl rfl rfl ?_
            refine zq_calli (pc' := 64) rfl rfl rfl rfl rfl rfl (zE_mono H (fun r42 h41 H => ?_))
            rcases r42 with v43 | e44
            · obtain ⟨x45, e0, H⟩ := H
              refine Exists.intro x45 (And.intro e0 ?_)
              refine zq_icle (pc' := 67) rfl rfl rfl rfl (And.intro (fun c => ?_) (fun c => ?_))
              · have H := H.1 c
                refine zq_ipush (pc' := 72) rfl rfl rfl ?_
                exact zq_iret rfl (Or.inl rfl) H
              · have H := H.2 c
                refine zq_ipush (pc' := 68) rfl rfl rfl ?_
                refine zq_goto (pc' := 72) rfl rfl rfl ?_
                exact zq_iret rfl (Or.inr rfl) H
            · exact H
          · exact H
        · exact H
      · exact H
  · exact H
theorem zr_X8_burstAt_0 {d : Nat} {Q : zR → zH → Prop} {p0 : Nat} {p1 : Int32} {p2 : Int32} {p3 : Int32} {h : zH} (H :
    ∃ a1 : Nat, zgf h p0 8 5 = some (.ref a1) ∧
    ∃ x2, zia h a1 3 = some x2 ∧
    zbr (x2 ≤ 0)
    (∃ a3 : Nat, zgf h p0 8 6 = some (.ref a3) ∧
      ∃ x4, zia h a3 p1 = some x4 ∧
      zbr (x4 = 1)
      (∃ a5 : Nat, zgf h p0 8 26 = some (.ref a5) ∧
        ∃ a6 : Nat, zgf h p0 8 26 = some (.ref a6) ∧
        ∃ x7, zia h a6 ((16 * p1) + p2) = some x7 ∧
        zE d 2 [.int 0, .int (x7 - 0)] h (fun r9 h8 => match r9 with
          | .inl v10 => ∃ x12 : Int32, v10 = some (.int x12) ∧ ∃ h13, zis h8 a5 ((16 * p1) + p2) x12 = some h13 ∧
            ∃ a14 : Nat, zgf h13 p0 8 27 = some (.ref a14) ∧
            ∃ a15 : Nat, zgf h13 p0 8 27 = some (.ref a15) ∧
            ∃ x16, zia h13 a15 ((16 * p1) + p2) = some x16 ∧
            zE d 2 [.int 0, .int (x16 - 0)] h13 (fun r18 h17 => match r18 with
              | .inl v19 => ∃ x21 : Int32, v19 = some (.int x21) ∧ ∃ h22, zis h17 a14 ((16 * p1) + p2) x21 = some h22 ∧
                ∃ a23 : Nat, zgf h22 p0 8 29 = some (.ref a23) ∧
                ∃ x24, zia h22 a23 p1 = some x24 ∧
                ∃ h25, zis h22 a23 p1 (x24 &&& ((1 <<< (p2 &&& 31)) ^^^ (-1))) = some h25 ∧
                ∃ a26 : Nat, zgf h25 p0 8 36 = some (.ref a26) ∧
                ∃ x27, zia h25 a26 p1 = some x27 ∧
                zbr (x27 = 0)
                (∃ a28 : Nat, zgf h25 p0 8 37 = some (.ref a28) ∧
                  ∃ h29, zis h25 a28 p1 p2 = some h29 ∧
                  zW (zE d) zm_X8_burstAt Q (148, [(0, .ref p0), (1, .int p1), (2, .int p2)], [], h29))
                (zW (zE d) zm_X8_burstAt Q (148, [(0, .ref p0), (1, .int p1), (2, .int p2)], [], h25))
              | .inr e20 => Q (.inr e20) h17)
          | .inr e11 => Q (.inr e11) h8))
      (zE d 3 [.int 9, .int 1] h (fun r31 h30 => match r31 with
          | .inl v32 => ∃ x34 : Int32, v32 = some (.int x34) ∧ zE d 2 [.int 0, .int x34] h30 (fun r36 h35 => match r36 with
              | .inl v37 => ∃ x39 : Int32, v37 = some (.int x39) ∧ ∃ a40 : Nat, zgf h35 p0 8 26 = some (.ref a40) ∧
                ∃ a41 : Nat, zgf h35 p0 8 26 = some (.ref a41) ∧
                ∃ x42, zia h35 a41 ((16 * p1) + p2) = some x42 ∧
                zE d 2 [.int 0, .int (x42 - x39)] h35 (fun r44 h43 => match r44 with
                  | .inl v45 => ∃ x47 : Int32, v45 = some (.int x47) ∧ ∃ h48, zis h43 a40 ((16 * p1) + p2) x47 = some h48 ∧
                    ∃ a49 : Nat, zgf h48 p0 8 27 = some (.ref a49) ∧
                    ∃ a50 : Nat, zgf h48 p0 8 27 = some (.ref a50) ∧
                    ∃ x51, zia h48 a50 ((16 * p1) + p2) = some x51 ∧
                    zE d 2 [.int 0, .int (x51 - x39)] h48 (fun r53 h52 => match r53 with
                      | .inl v54 => ∃ x56 : Int32, v54 = some (.int x56) ∧ ∃ h57, zis h52 a49 ((16 * p1) + p2) x56 = some h57 ∧
                        ∃ a58 : Nat, zgf h57 p0 8 29 = some (.ref a58) ∧
                        ∃ x59, zia h57 a58 p1 = some x59 ∧
                        ∃ h60, zis h57 a58 p1 (x59 &&& ((1 <<< (p2 &&& 31)) ^^^ (-1))) = some h60 ∧
                        ∃ a61 : Nat, zgf h60 p0 8 36 = some (.ref a61) ∧
                        ∃ x62, zia h60 a61 p1 = some x62 ∧
                        zbr (x62 = 0)
                        (∃ a63 : Nat, zgf h60 p0 8 37 = some (.ref a63) ∧
                          ∃ h64, zis h60 a63 p1 p2 = some h64 ∧
                          zW (zE d) zm_X8_burstAt Q (148, [(0, .ref p0), (1, .int p1), (2, .int p2)], [], h64))
                        (zW (zE d) zm_X8_burstAt Q (148, [(0, .ref p0), (1, .int p1), (2, .int p2)], [], h60))
                      | .inr e55 => Q (.inr e55) h52)
                  | .inr e46 => Q (.inr e46) h43)
              | .inr e38 => Q (.inr e38) h35)
          | .inr e33 => Q (.inr e33) h30)))
    (∃ a65 : Nat, zgf h p0 8 12 = some (.ref a65) ∧
      ∃ a66 : Nat, zgf h p0 8 5 = some (.ref a66) ∧
      ∃ x67, zia h a66 3 = some x67 ∧
      ∃ a68 : Nat, zgf h p0 8 36 = some (.ref a68) ∧
      ∃ x69, zia h a68 p1 = some x69 ∧
      zE d 219 [.int x69] h (fun r71 h70 => match r71 with
        | .inl v72 => ∃ x74 : Int32, v72 = some (.int x74) ∧ zE d 261 [.ref p0, .ref a65, .int x67, .int p1, .int p2, .int p3, .int x74] h70 (fun r76 h75 => match r76 with
            | .inl v77 => ∃ x79 : Int32, v77 = some (.int x79) ∧ ∃ a80 : Nat, zgf h75 p0 8 6 = some (.ref a80) ∧
              ∃ x81, zia h75 a80 p1 = some x81 ∧
              zbr (x81 = 1)
              (∃ a82 : Nat, zgf h75 p0 8 26 = some (.ref a82) ∧
                ∃ a83 : Nat, zgf h75 p0 8 26 = some (.ref a83) ∧
                ∃ x84, zia h75 a83 ((16 * p1) + p2) = some x84 ∧
                zE d 2 [.int 0, .int (x84 - 0)] h75 (fun r86 h85 => match r86 with
                  | .inl v87 => ∃ x89 : Int32, v87 = some (.int x89) ∧ ∃ h90, zis h85 a82 ((16 * p1) + p2) x89 = some h90 ∧
                    ∃ a91 : Nat, zgf h90 p0 8 27 = some (.ref a91) ∧
                    ∃ a92 : Nat, zgf h90 p0 8 27 = some (.ref a92) ∧
                    ∃ x93, zia h90 a92 ((16 * p1) + p2) = some x93 ∧
                    zE d 2 [.int 0, .int (x93 - 0)] h90 (fun r95 h94 => match r95 with
                      | .inl v96 => ∃ x98 : Int32, v96 = some (.int x98) ∧ ∃ h99, zis h94 a91 ((16 * p1) + p2) x98 = some h99 ∧
                        ∃ a100 : Nat, zgf h99 p0 8 29 = some (.ref a100) ∧
                        ∃ x101, zia h99 a100 p1 = some x101 ∧
                        ∃ h102, zis h99 a100 p1 (x101 &&& ((1 <<< (p2 &&& 31)) ^^^ (-1))) = some h102 ∧
                        ∃ a103 : Nat, zgf h102 p0 8 36 = some (.ref a103) ∧
                        ∃ x104, zia h102 a103 p1 = some x104 ∧
                        zbr (x104 = 0)
                        (∃ a105 : Nat, zgf h102 p0 8 37 = some (.ref a105) ∧
                          ∃ h106, zis h102 a105 p1 p2 = some h106 ∧
                          zW (zE d) zm_X8_burstAt Q (148, [(0, .ref p0), (1, .int p1), (2, .int p2)], [], h106))
                        (zW (zE d) zm_X8_burstAt Q (148, [(0, .ref p0), (1, .int p1), (2, .int p2)], [], h102))
                      | .inr e97 => Q (.inr e97) h94)
                  | .inr e88 => Q (.inr e88) h85))
              (zE d 3 [.int 9, .int x79] h75 (fun r108 h107 => match r108 with
                  | .inl v109 => ∃ x111 : Int32, v109 = some (.int x111) ∧ zE d 2 [.int 0, .int x111] h107 (fun r113 h112 => match r113 with
                      | .inl v114 => ∃ x116 : Int32, v114 = some (.int x116) ∧ ∃ a117 : Nat, zgf h112 p0 8 26 = some (.ref a117) ∧
                        ∃ a118 : Nat, zgf h112 p0 8 26 = some (.ref a118) ∧
                        ∃ x119, zia h112 a118 ((16 * p1) + p2) = some x119 ∧
                        zE d 2 [.int 0, .int (x119 - x116)] h112 (fun r121 h120 => match r121 with
                          | .inl v122 => ∃ x124 : Int32, v122 = some (.int x124) ∧ ∃ h125, zis h120 a117 ((16 * p1) + p2) x124 = some h125 ∧
                            ∃ a126 : Nat, zgf h125 p0 8 27 = some (.ref a126) ∧
                            ∃ a127 : Nat, zgf h125 p0 8 27 = some (.ref a127) ∧
                            ∃ x128, zia h125 a127 ((16 * p1) + p2) = some x128 ∧
                            zE d 2 [.int 0, .int (x128 - x116)] h125 (fun r130 h129 => match r130 with
                              | .inl v131 => ∃ x133 : Int32, v131 = some (.int x133) ∧ ∃ h134, zis h129 a126 ((16 * p1) + p2) x133 = some h134 ∧
                                ∃ a135 : Nat, zgf h134 p0 8 29 = some (.ref a135) ∧
                                ∃ x136, zia h134 a135 p1 = some x136 ∧
                                ∃ h137, zis h134 a135 p1 (x136 &&& ((1 <<< (p2 &&& 31)) ^^^ (-1))) = some h137 ∧
                                ∃ a138 : Nat, zgf h137 p0 8 36 = some (.ref a138) ∧
                                ∃ x139, zia h137 a138 p1 = some x139 ∧
                                zbr (x139 = 0)
                                (∃ a140 : Nat, zgf h137 p0 8 37 = some (.ref a140) ∧
                                  ∃ h141, zis h137 a140 p1 p2 = some h141 ∧
                                  zW (zE d) zm_X8_burstAt Q (148, [(0, .ref p0), (1, .int p1), (2, .int p2)], [], h141))
                                (zW (zE d) zm_X8_burstAt Q (148, [(0, .ref p0), (1, .int p1), (2, .int p2)], [], h137))
                              | .inr e132 => Q (.inr e132) h129)
                          | .inr e123 => Q (.inr e123) h120)
                      | .inr e115 => Q (.inr e115) h112)
                  | .inr e110 => Q (.inr e110) h107))
            | .inr e78 => Q (.inr e78) h75)
        | .inr e73 => Q (.inr e73) h70))) : zW (zE d) zm_X8_burstAt Q (0, [(0, .ref p0), (1, .int p1), (2, .int p2), (3, .int p3)], [], h) := by
  refine zq_aload (pc' := 1) rfl rfl rfl rfl ?_
  obtain ⟨a1, e0, H⟩ := H
  refine zq_getR (pc' := 4) rfl rfl rfl e0 ?_
  refine zq_ipush (pc' := 5) rfl rfl rfl ?_
  obtain ⟨x2, e0, H⟩ := H
  refine zq_iald (pc' := 6) rfl rfl rfl e0 ?_
  refine zq_ifle (pc' := 9) rfl rfl rfl rfl (And.intro (fun c => ?_) (fun c => ?_))
  · have H := H.1 c
    refine zq_ipush (pc' := 39) rfl rfl rfl ?_
    refine zq_istore (pc' := 41) rfl rfl rfl ?_
    refine zq_aload (pc' := 42) rfl rfl rfl rfl ?_
    obtain ⟨a3, e0, H⟩ := H
    refine zq_getR (pc' := 45) rfl rfl rfl e0 ?_
    refine zq_iload (pc' := 46) rfl rfl rfl rfl ?_
    obtain ⟨x4, e0, H⟩ := H
    refine zq_iald (pc' := 47) rfl rfl rfl e0 ?_
    refine zq_ipush (pc' := 48) rfl rfl rfl ?_
    refine zq_icne (pc' := 51) rfl rfl rfl rfl (And.intro (fun c => ?_) (fun c => ?_))
    · have H := H.1 c
      refine zq_ipush (pc' := 52) rfl rfl rfl ?_
      refine zq_goto (pc' := 66) rfl rfl rfl ?_
      refine zq_istore (pc' := 68) rfl rfl rfl ?_
      refine zq_ipush (pc' := 70) rfl rfl rfl ?_
      refine zq_iload (pc' := 71) rfl rfl rfl rfl ?_
      refine zq_imul (pc' := 72) rfl rfl rfl ?_
      refine zq_iload (pc' := 73) rfl rfl rfl rfl ?_
      refine zq_iadd (pc' := 74) rfl rfl rfl ?_
      refine zq_istore (pc' := 76) rfl rfl rfl ?_
      refine zq_aload (pc' := 77) rfl rfl rfl rfl ?_
      obtain ⟨a5, e0, H⟩ := H
      refine zq_getR (pc' := 80) rfl rfl rfl e0 ?_
      refine zq_iload (pc' := 82) rfl rfl rfl rfl ?_
      refine zq_ipush (pc' := 83) rfl rfl rfl ?_
      refine zq_aload (pc' := 84) rfl rfl rfl rfl ?_
      obtain ⟨a6, e0, H⟩ := H
      refine zq_getR (pc' := 87) rfl rfl rfl e0 ?_
      refine zq_iload (pc' := 89) rfl rfl rfl rfl ?_
      obtain ⟨x7, e0, H⟩ := H
      refine zq_iald (pc' := 90) rfl rfl rfl e0 ?_
      refine zq_iload (pc' := 92) rfl rfl rfl rfl ?_
      refine zq_isub (pc' := 93) rfl rfl rfl ?_
      refine zq_calli (pc' := 96) rfl rfl rfl rfl rfl rfl (zE_mono H (fun r9 h8 H => ?_))
      rcases r9 with v10 | e11
      · obtain ⟨x12, e0, H⟩ := H
        refine Exists.intro x12 (And.intro e0 ?_)
        obtain ⟨h13, e0, H⟩ := H
        refine zq_iast (pc' := 97) rfl rfl rfl e0 ?_
        refine zq_aload (pc' := 98) rfl rfl rfl rfl ?_
        obtain ⟨a14, e0, H⟩ := H
        refine zq_getR (pc' := 101) rfl rfl rfl e0 ?_
        refine zq_iload (pc' := 103) rfl rfl rfl rfl ?_
        refine zq_ipush (pc' := 104) rfl rfl rfl ?_
        refine zq_aload (pc' := 105) rfl rfl rfl rfl ?_
        obtain ⟨a15, e0, H⟩ := H
        refine zq_getR (pc' := 108) rfl rfl rfl e0 ?_
        refine zq_iload (pc' := 110) rfl rfl rfl rfl ?_
        obtain ⟨x16, e0, H⟩ := H
        refine zq_iald (pc' := 111) rfl rfl rfl e0 ?_
        refine zq_iload (pc' := 113) rfl rfl rfl rfl ?_
        refine zq_isub (pc' := 114) rfl rfl rfl ?_
        refine zq_calli (pc' := 117) rfl rfl rfl rfl rfl rfl (zE_mono H (fun r18 h17 H => ?_))
        rcases r18 with v19 | e20
        · obtain ⟨x21, e0, H⟩ := H
          refine Exists.intro x21 (And.intro e0 ?_)
          obtain ⟨h22, e0, H⟩ := H
          refine zq_iast (pc' := 118) rfl rfl rfl e0 ?_
          refine zq_aload (pc' := 119) rfl rfl rfl rfl ?_
          obtain ⟨a23, e0, H⟩ := H
          refine zq_getR (pc' := 122) rfl rfl rfl e0 ?_
          refine zq_iload (pc' := 123) rfl rfl rfl rfl ?_
          refine zq_dup2 (pc' := 124) rfl rfl rfl rfl rfl ?_
          obtain ⟨x24, e0, H⟩ := H
          refine zq_iald (pc' := 125) rfl rfl rfl e0 ?_
          refine zq_ipush (pc' := 126) rfl rfl rfl ?_
          refine zq_iload (pc' := 127) rfl rfl rfl rfl ?_
          refine zq_ishl (pc' := 128) rfl rfl rfl ?_
          refine zq_ipushn (pc' := 129) rfl rfl rfl ?_
          refine zq_ixor (pc' := 130) rfl rfl rfl ?_
          refine zq_iand (pc' := 131) rfl rfl rfl ?_
          obtain ⟨h25, e0, H⟩ := H
          refine zq_iast (pc' := 132) rfl rfl rfl e0 ?_
          refine zq_aload (pc' := 133) rfl rfl rfl rfl ?_
          obtain ⟨a26, e0, H⟩ := H
          refine zq_getR (pc' := 136) rfl rfl rfl e0 ?_
          refine zq_iload (pc' := 137) rfl rfl rfl rfl ?_
          obtain ⟨x27, e0, H⟩ := H
          refine zq_iald (pc' := 138) rfl rfl rfl e0 ?_
          refine zq_ifne_c (pc' := 141) (lt := [(0, .ref p0), (1, .int p1), (2, .int p2)]) (lf := [(6, .int ((16 * p1) + p2)), (5, .int 0), (4, .int 1), (0, .ref p0), (1, .int p1), (2, .int p2), (3, .int p3)]) rfl rfl rfl rfl (And.intro (fun c => ?_) (fun c => ?_))
          · have H := H.1 c
            refine zq_aload (pc' := 142) rfl rfl rfl rfl ?_
            obtain ⟨a28, e0, H⟩ := H
            refine zq_getR (pc' := 145) rfl rfl rfl e0 ?_
            refine zq_iload (pc' := 146) rfl rfl rfl rfl ?_
            refine zq_iload (pc' := 147) rfl rfl rfl rfl ?_
            obtain ⟨h29, e0, H⟩ := H
            refine zq_iast_c (pc' := 148) rfl rfl e0 ?_
            exact H
          · have H := H.2 c
            exact H
        · exact H
      · exact H
    · have H := H.2 c
      refine zq_ipush (pc' := 56) rfl rfl rfl ?_
      refine zq_ipush (pc' := 58) rfl rfl rfl ?_
      refine zq_iload (pc' := 60) rfl rfl rfl rfl ?_
      refine zq_calli (pc' := 63) rfl rfl rfl rfl rfl rfl (zE_mono H (fun r31 h30 H => ?_))
      rcases r31 with v32 | e33
      · obtain ⟨x34, e0, H⟩ := H
        refine Exists.intro x34 (And.intro e0 ?_)
        refine zq_calli (pc' := 66) rfl rfl rfl rfl rfl rfl (zE_mono H (fun r36 h35 H => ?_))
        rcases r36 with v37 | e38
        · obtain ⟨x39, e0, H⟩ := H
          refine Exists.intro x39 (And.intro e0 ?_)
          refine zq_istore (pc' := 68) rfl rfl rfl ?_
          refine zq_ipush (pc' := 70) rfl rfl rfl ?_
          refine zq_iload (pc' := 71) rfl rfl rfl rfl ?_
          refine zq_imul (pc' := 72) rfl rfl rfl ?_
          refine zq_iload (pc' := 73) rfl rfl rfl rfl ?_
          refine zq_iadd (pc' := 74) rfl rfl rfl ?_
          refine zq_istore (pc' := 76) rfl rfl rfl ?_
          refine zq_aload (pc' := 77) rfl rfl rfl rfl ?_
          obtain ⟨a40, e0, H⟩ := H
          refine zq_getR (pc' := 80) rfl rfl rfl e0 ?_
          refine zq_iload (pc' := 82) rfl rfl rfl rfl ?_
          refine zq_ipush (pc' := 83) rfl rfl rfl ?_
          refine zq_aload (pc' := 84) rfl rfl rfl rfl ?_
          obtain ⟨a41, e0, H⟩ := H
          refine zq_getR (pc' := 87) rfl rfl rfl e0 ?_
          refine zq_iload (pc' := 89) rfl rfl rfl rfl ?_
          obtain ⟨x42, e0, H⟩ := H
          refine zq_iald (pc' := 90) rfl rfl rfl e0 ?_
          refine zq_iload (pc' := 92) rfl rfl rfl rfl ?_
          refine zq_isub (pc' := 93) rfl rfl rfl ?_
          refine zq_calli (pc' := 96) rfl rfl rfl rfl rfl rfl (zE_mono H (fun r44 h43 H => ?_))
          rcases r44 with v45 | e46
          · obtain ⟨x47, e0, H⟩ := H
            refine Exists.intro x47 (And.intro e0 ?_)
            obtain ⟨h48, e0, H⟩ := H
            refine zq_iast (pc' := 97) rfl rfl rfl e0 ?_
            refine zq_aload (pc' := 98) rfl rfl rfl rfl ?_
            obtain ⟨a49, e0, H⟩ := H
            refine zq_getR (pc' := 101) rfl rfl rfl e0 ?_
            refine zq_iload (pc' := 103) rfl rfl rfl rfl ?_
            refine zq_ipush (pc' := 104) rfl rfl rfl ?_
            refine zq_aload (pc' := 105) rfl rfl rfl rfl ?_
            obtain ⟨a50, e0, H⟩ := H
            refine zq_getR (pc' := 108) rfl rfl rfl e0 ?_
            refine zq_iload (pc' := 110) rfl rfl rfl rfl ?_
            obtain ⟨x51, e0, H⟩ := H
            refine zq_iald (pc' := 111) rfl rfl rfl e0 ?_
            refine zq_iload (pc' := 113) rfl rfl rfl rfl ?_
            refine zq_isub (pc' := 114) rfl rfl rfl ?_
            refine zq_calli (pc' := 117) rfl rfl rfl rfl rfl rfl (zE_mono H (fun r53 h52 H => ?_))
            rcases r53 with v54 | e55
            · obtain ⟨x56, e0, H⟩ := H
              refine Exists.intro x56 (And.intro e0 ?_)
              obtain ⟨h57, e0, H⟩ := H
              refine zq_iast (pc' := 118) rfl rfl rfl e0 ?_
              refine zq_aload (pc' := 119) rfl rfl rfl rfl ?_
              obtain ⟨a58, e0, H⟩ := H
              refine zq_getR (pc' := 122) rfl rfl rfl e0 ?_
              refine zq_iload (pc' := 123) rfl rfl rfl rfl ?_
              refine zq_dup2 (pc' := 124) rfl rfl rfl rfl rfl ?_
              obtain ⟨x59, e0, H⟩ := H
              refine zq_iald (pc' := 125) rfl rfl rfl e0 ?_
              refine zq_ipush (pc' := 126) rfl rfl rfl ?_
              refine zq_iload (pc' := 127) rfl rfl rfl rfl ?_
              refine zq_ishl (pc' := 128) rfl rfl rfl ?_
              refine zq_ipushn (pc' := 129) rfl rfl rfl ?_
              refine zq_ixor (pc' := 130) rfl rfl rfl ?_
              refine zq_iand (pc' := 131) rfl rfl rfl ?_
              obtain ⟨h60, e0, H⟩ := H
              refine zq_iast (pc' := 132) rfl rfl rfl e0 ?_
              refine zq_aload (pc' := 133) rfl rfl rfl rfl ?_
              obtain ⟨a61, e0, H⟩ := H
              refine zq_getR (pc' := 136) rfl rfl rfl e0 ?_
              refine zq_iload (pc' := 137) rfl rfl rfl rfl ?_
              obtain ⟨x62, e0, H⟩ := H
              refine zq_iald (pc' := 138) rfl rfl rfl e0 ?_
              refine zq_ifne_c (pc' := 141) (lt := [(0, .ref p0), (1, .int p1), (2, .int p2)]) (lf := [(6, .int ((16 * p1) + p2)), (5, .int x39), (4, .int 1), (0, .ref p0), (1, .int p1), (2, .int p2), (3, .int p3)]) rfl rfl rfl rfl (And.intro (fun c => ?_) (fun c => ?_))
              · have H := H.1 c
                refine zq_aload (pc' := 142) rfl rfl rfl rfl ?_
                obtain ⟨a63, e0, H⟩ := H
                refine zq_getR (pc' := 145) rfl rfl rfl e0 ?_
                refine zq_iload (pc' := 146) rfl rfl rfl rfl ?_
                refine zq_iload (pc' := 147) rfl rfl rfl rfl ?_
                obtain ⟨h64, e0, H⟩ := H
                refine zq_iast_c (pc' := 148) rfl rfl e0 ?_
                exact H
              · have H := H.2 c
                exact H
            · exact H
          · exact H
        · exact H
      · exact H
  · have H := H.2 c
    refine zq_aload (pc' := 10) rfl rfl rfl rfl ?_
    refine zq_aload (pc' := 11) rfl rfl rfl rfl ?_
    obtain ⟨a65, e0, H⟩ := H
    refine zq_getR (pc' := 14) rfl rfl rfl e0 ?_
    refine zq_aload (pc' := 15) rfl rfl rfl rfl ?_
    obtain ⟨a66, e0, H⟩ := H
    refine zq_getR (pc' := 18) rfl rfl rfl e0 ?_
    refine zq_ipush (pc' := 19) rfl rfl rfl ?_
    obtain ⟨x67, e0, H⟩ := H
    refine zq_iald (pc' := 20) rfl rfl rfl e0 ?_
    refine zq_iload (pc' := 21) rfl rfl rfl rfl ?_
    refine zq_iload (pc' := 22) rfl rfl rfl rfl ?_
    refine zq_iload (pc' := 23) rfl rfl rfl rfl ?_
    refine zq_aload (pc' := 24) rfl rfl rfl rfl ?_
    obtain ⟨a68, e0, H⟩ := H
    refine zq_getR (pc' := 27) rfl rfl rfl e0 ?_
    refine zq_iload (pc' := 28) rfl rfl rfl rfl ?_
    obtain ⟨x69, e0, H⟩ := H
    refine zq_iald (pc' := 29) rfl rfl rfl e0 ?_
    refine zq_calli (pc' := 32) rfl rfl rfl rfl rfl rfl (zE_mono H (fun r71 h70 H => ?_))
    rcases r71 with v72 | e73
    · obtain ⟨x74, e0, H⟩ := H
      refine Exists.intro x74 (And.intro e0 ?_)
      refine zq_calli (pc' := 35) rfl rfl rfl rfl rfl rfl (zE_mono H (fun r76 h75 H => ?_))
      rcases r76 with v77 | e78
      · obtain ⟨x79, e0, H⟩ := H
        refine Exists.intro x79 (And.intro e0 ?_)
        refine zq_goto (pc' := 39) rfl rfl rfl ?_
        refine zq_istore (pc' := 41) rfl rfl rfl ?_
        refine zq_aload (pc' := 42) rfl rfl rfl rfl ?_
        obtain ⟨a80, e0, H⟩ := H
        refine zq_getR (pc' := 45) rfl rfl rfl e0 ?_
        refine zq_iload (pc' := 46) rfl rfl rfl rfl ?_
        obtain ⟨x81, e0, H⟩ := H
        refine zq_iald (pc' := 47) rfl rfl rfl e0 ?_
        refine zq_ipush (pc' := 48) rfl rfl rfl ?_
        refine zq_icne (pc' := 51) rfl rfl rfl rfl (And.intro (fun c => ?_) (fun c => ?_))
        · have H := H.1 c
          refine zq_ipush (pc' := 52) rfl rfl rfl ?_
          refine zq_goto (pc' := 66) rfl rfl rfl ?_
          refine zq_istore (pc' := 68) rfl rfl rfl ?_
          refine zq_ipush (pc' := 70) rfl rfl rfl ?_
          refine zq_iload (pc' := 71) rfl rfl rfl rfl ?_
          refine zq_imul (pc' := 72) rfl rfl rfl ?_
          refine zq_iload (pc' := 73) rfl rfl rfl rfl ?_
          refine zq_iadd (pc' := 74) rfl rfl rfl ?_
          refine zq_istore (pc' := 76) rfl rfl rfl ?_
          refine zq_aload (pc' := 77) rfl rfl rfl rfl ?_
          obtain ⟨a82, e0, H⟩ := H
          refine zq_getR (pc' := 80) rfl rfl rfl e0 ?_
          refine zq_iload (pc' := 82) rfl rfl rfl rfl ?_
          refine zq_ipush (pc' := 83) rfl rfl rfl ?_
          refine zq_aload (pc' := 84) rfl rfl rfl rfl ?_
          obtain ⟨a83, e0, H⟩ := H
          refine zq_getR (pc' := 87) rfl rfl rfl e0 ?_
          refine zq_iload (pc' := 89) rfl rfl rfl rfl ?_
          obtain ⟨x84, e0, H⟩ := H
          refine zq_iald (pc' := 90) rfl rfl rfl e0 ?_
          refine zq_iload (pc' := 92) rfl rfl rfl rfl ?_
          refine zq_isub (pc' := 93) rfl rfl rfl ?_
          refine zq_calli (pc' := 96) rfl rfl rfl rfl rfl rfl (zE_mono H (fun r86 h85 H => ?_))
          rcases r86 with v87 | e88
          · obtain ⟨x89, e0, H⟩ := H
            refine Exists.intro x89 (And.intro e0 ?_)
            obtain ⟨h90, e0, H⟩ := H
            refine zq_iast (pc' := 97) rfl rfl rfl e0 ?_
            refine zq_aload (pc' := 98) rfl rfl rfl rfl ?_
            obtain ⟨a91, e0, H⟩ := H
            refine zq_getR (pc' := 101) rfl rfl rfl e0 ?_
            refine zq_iload (pc' := 103) rfl rfl rfl rfl ?_
            refine zq_ipush (pc' := 104) rfl rfl rfl ?_
            refine zq_aload (pc' := 105) rfl rfl rfl rfl ?_
            obtain ⟨a92, e0, H⟩ := H
            refine zq_getR (pc' := 108) rfl rfl rfl e0 ?_
            refine zq_iload (pc' := 110) rfl rfl rfl rfl ?_
            obtain ⟨x93, e0, H⟩ := H
            refine zq_iald (pc' := 111) rfl rfl rfl e0 ?_
            refine zq_iload (pc' := 113) rfl rfl rfl rfl ?_
            refine zq_isub (pc' := 114) rfl rfl rfl ?_
            refine zq_calli (pc' := 117) rfl rfl rfl rfl rfl rfl (zE_mono H (fun r95 h94 H => ?_))
            rcases r95 with v96 | e97
            · obtain ⟨x98, e0, H⟩ := H
              refine Exists.intro x98 (And.intro e0 ?_)
              obtain ⟨h99, e0, H⟩ := H
              refine zq_iast (pc' := 118) rfl rfl rfl e0 ?_
              refine zq_aload (pc' := 119) rfl rfl rfl rfl ?_
              obtain ⟨a100, e0, H⟩ := H
              refine zq_getR (pc' := 122) rfl rfl rfl e0 ?_
              refine zq_iload (pc' := 123) rfl rfl rfl rfl ?_
              refine zq_dup2 (pc' := 124) rfl rfl rfl rfl rfl ?_
              obtain ⟨x101, e0, H⟩ := H
              refine zq_iald (pc' := 125) rfl rfl rfl e0 ?_
              refine zq_ipush (pc' := 126) rfl rfl rfl ?_
              refine zq_iload (pc' := 127) rfl rfl rfl rfl ?_
              refine zq_ishl (pc' := 128) rfl rfl rfl ?_
              refine zq_ipushn (pc' := 129) rfl rfl rfl ?_
              refine zq_ixor (pc' := 130) rfl rfl rfl ?_
              refine zq_iand (pc' := 131) rfl rfl rfl ?_
              obtain ⟨h102, e0, H⟩ := H
              refine zq_iast (pc' := 132) rfl rfl rfl e0 ?_
              refine zq_aload (pc' := 133) rfl rfl rfl rfl ?_
              obtain ⟨a103, e0, H⟩ := H
              refine zq_getR (pc' := 136) rfl rfl rfl e0 ?_
              refine zq_iload (pc' := 137) rfl rfl rfl rfl ?_
              obtain ⟨x104, e0, H⟩ := H
              refine zq_iald (pc' := 138) rfl rfl rfl e0 ?_
              refine zq_ifne_c (pc' := 141) (lt := [(0, .ref p0), (1, .int p1), (2, .int p2)]) (lf := [(6, .int ((16 * p1) + p2)), (5, .int 0), (4, .int x79), (0, .ref p0), (1, .int p1), (2, .int p2), (3, .int p3)]) rfl rfl rfl rfl (And.intro (fun c => ?_) (fun c => ?_))
              · have H := H.1 c
                refine zq_aload (pc' := 142) rfl rfl rfl rfl ?_
                obtain ⟨a105, e0, H⟩ := H
                refine zq_getR (pc' := 145) rfl rfl rfl e0 ?_
                refine zq_iload (pc' := 146) rfl rfl rfl rfl ?_
                refine zq_iload (pc' := 147) rfl rfl rfl rfl ?_
                obtain ⟨h106, e0, H⟩ := H
                refine zq_iast_c (pc' := 148) rfl rfl e0 ?_
                exact H
              · have H := H.2 c
                exact H
            · exact H
          · exact H
        · have H := H.2 c
          refine zq_ipush (pc' := 56) rfl rfl rfl ?_
          refine zq_ipush (pc' := 58) rfl rfl rfl ?_
          refine zq_iload (pc' := 60) rfl rfl rfl rfl ?_
          refine zq_calli (pc' := 63) rfl rfl rfl rfl rfl rfl (zE_mono H (fun r108 h107 H => ?_))
          rcases r108 with v109 | e110
          · obtain ⟨x111, e0, H⟩ := H
            refine Exists.intro x111 (And.intro e0 ?_)
            refine zq_calli (pc' := 66) rfl rfl rfl rfl rfl rfl (zE_mono H (fun r113 h112 H => ?_))
            rcases r113 with v114 | e115
            · obtain ⟨x116, e0, H⟩ := H
              refine Exists.intro x116 (And.intro e0 ?_)
              refine zq_istore (pc' := 68) rfl rfl rfl ?_
              refine zq_ipush (pc' := 70) rfl rfl rfl ?_
              refine zq_iload (pc' := 71) rfl rfl rfl rfl ?_
              refine zq_imul (pc' := 72) rfl rfl rfl ?_
              refine zq_iload (pc' := 73) rfl rfl rfl rfl ?_
              refine zq_iadd (pc' := 74) rfl rfl rfl ?_
              refine zq_istore (pc' := 76) rfl rfl rfl ?_
              refine zq_aload (pc' := 77) rfl rfl rfl rfl ?_
              obtain ⟨a117, e0, H⟩ := H
              refine zq_getR (pc' := 80) rfl rfl rfl e0 ?_
              refine zq_iload (pc' := 82) rfl rfl rfl rfl ?_
              refine zq_ipush (pc' := 83) rfl rfl rfl ?_
              refine zq_aload (pc' := 84) rfl rfl rfl rfl ?_
              obtain ⟨a118, e0, H⟩ := H
              refine zq_getR (pc' := 87) rfl rfl rfl e0 ?_
              refine zq_iload (pc' := 89) rfl rfl rfl rfl ?_
              obtain ⟨x119, e0, H⟩ := H
              refine zq_iald (pc' := 90) rfl rfl rfl e0 ?_
              refine zq_iload (pc' := 92) rfl rfl rfl rfl ?_
              refine zq_isub (pc' := 93) rfl rfl rfl ?_
              refine zq_calli (pc' := 96) rfl rfl rfl rfl rfl rfl (zE_mono H (fun r121 h120 H => ?_))
              rcases r121 with v122 | e123
              · obtain ⟨x124, e0, H⟩ := H
                refine Exists.intro x124 (And.intro e0 ?_)
                obtain ⟨h125, e0, H⟩ := H
                refine zq_iast (pc' := 97) rfl rfl rfl e0 ?_
                refine zq_aload (pc' := 98) rfl rfl rfl rfl ?_
                obtain ⟨a126, e0, H⟩ := H
                refine zq_getR (pc' := 101) rfl rfl rfl e0 ?_
                refine zq_iload (pc' := 103) rfl rfl rfl rfl ?_
                refine zq_ipush (pc' := 104) rfl rfl rfl ?_
                refine zq_aload (pc' := 105) rfl rfl rfl rfl ?_
                obtain ⟨a127, e0, H⟩ := H
                refine zq_getR (pc' := 108) rfl rfl rfl e0 ?_
                refine zq_iload (pc' := 110) rfl rfl rfl rfl ?_
                obtain ⟨x128, e0, H⟩ := H
                refine zq_iald (pc' := 111) rfl rfl rfl e0 ?_
                refine zq_iload (pc' := 113) rfl rfl rfl rfl ?_
                refine zq_isub (pc' := 114) rfl rfl rfl ?_
                refine zq_calli (pc' := 117) rfl rfl rfl rfl rfl rfl (zE_mono H (fun r130 h129 H => ?_))
                rcases r130 with v131 | e132
                · obtain ⟨x133, e0, H⟩ := H
                  refine Exists.intro x133 (And.intro e0 ?_)
                  obtain ⟨h134, e0, H⟩ := H
                  refine zq_iast (pc' := 118) rfl rfl rfl e0 ?_
                  refine zq_aload (pc' := 119) rfl rfl rfl rfl ?_
                  obtain ⟨a135, e0, H⟩ := H
                  refine zq_getR (pc' := 122) rfl rfl rfl e0 ?_
                  refine zq_iload (pc' := 123) rfl rfl rfl rfl ?_
                  refine zq_dup2 (pc' := 124) rfl rfl rfl rfl rfl ?_
                  obtain ⟨x136, e0, H⟩ := H
                  refine zq_iald (pc' := 125) rfl rfl rfl e0 ?_
                  refine zq_ipush (pc' := 126) rfl rfl rfl ?_
                  refine zq_iload (pc' := 127) rfl rfl rfl rfl ?_
                  refine zq_ishl (pc' := 128) rfl rfl rfl ?_
                  refine zq_ipushn (pc' := 129) rfl rfl rfl ?_
                  refine zq_ixor (pc' := 130) rfl rfl rfl ?_
                  refine zq_iand (pc' := 131) rfl rfl rfl ?_
                  obtain ⟨h137, e0, H⟩ := H
                  refine zq_iast (pc' := 132) rfl rfl rfl e0 ?_
                  refine zq_aload (pc' := 133) rfl rfl rfl rfl ?_
                  obtain ⟨a138, e0, H⟩ := H
                  refine zq_getR (pc' := 136) rfl rfl rfl e0 ?_
                  refine zq_iload (pc' := 137) rfl rfl rfl rfl ?_
                  obtain ⟨x139, e0, H⟩ := H
                  refine zq_iald (pc' := 138) rfl rfl rfl e0 ?_
                  refine zq_ifne_c (pc' := 141) (lt := [(0, .ref p0), (1, .int p1), (2, .int p2)]) (lf := [(6, .int ((16 * p1) + p2)), (5, .int x116), (4, .int x79), (0, .ref p0), (1, .int p1), (2, .int p2), (3, .int p3)]) rfl rfl rfl rfl (And.intro (fun c => ?_) (fun c => ?_))
                  · have H := H.1 c
                    refine zq_aload (pc' := 142) rfl rfl rfl rfl ?_
                    obtain ⟨a140, e0, H⟩ := H
                    refine zq_getR (pc' := 145) rfl rfl rfl e0 ?_
                    refine zq_iload (pc' := 146) rfl rfl rfl rfl ?_
                    refine zq_iload (pc' := 147) rfl rfl rfl rfl ?_
                    obtain ⟨h141, e0, H⟩ := H
                    refine zq_iast_c (pc' := 148) rfl rfl e0 ?_
                    exact H
                  · have H := H.2 c
                    exact H
                · exact H
              · exact H
            · exact H
          · exact H
      · exact H
    · exact H
theorem zr_X8_burstAt_148 {d : Nat} {Q : zR → zH → Prop} {l0 : Nat} {l1 : Int32} {l2 : Int32} {h : zH} (H :
    ∃ a1 : Nat, zgf h l0 8 36 = some (.ref a1) ∧
    ∃ x2, zia h a1 l1 = some x2 ∧
    ∃ h3, zis h a1 l1 (x2 ||| (1 <<< (l2 &&& 31))) = some h3 ∧
    ∃ a4 : Nat, zgf h3 l0 8 38 = some (.ref a4) ∧
    ∃ x5, zia h3 a4 l1 = some x5 ∧
    ∃ h6, zis h3 a4 l1 (x5 + 1) = some h6 ∧
    Q (.inl none) h6) : zW (zE d) zm_X8_burstAt Q (148, [(0, .ref l0), (1, .int l1), (2, .int l2)], [], h) := by
  refine zq_aload (pc' := 149) rfl rfl rfl rfl ?_
  obtain ⟨a1, e0, H⟩ := H
  refine zq_getR (pc' := 152) rfl rfl rfl e0 ?_
  refine zq_iload (pc' := 153) rfl rfl rfl rfl ?_
  refine zq_dup2 (pc' := 154) rfl rfl rfl rfl rfl ?_
  obtain ⟨x2, e0, H⟩ := H
  refine zq_iald (pc' := 155) rfl rfl rfl e0 ?_
  refine zq_ipush (pc' := 156) rfl rfl rfl ?_
  refine zq_iload (pc' := 157) rfl rfl rfl rfl ?_
  refine zq_ishl (pc' := 158) rfl rfl rfl ?_
  refine zq_ior (pc' := 159) rfl rfl rfl ?_
  obtain ⟨h3, e0, H⟩ := H
  refine zq_iast (pc' := 160) rfl rfl rfl e0 ?_
  refine zq_aload (pc' := 161) rfl rfl rfl rfl ?_
  obtain ⟨a4, e0, H⟩ := H
  refine zq_getR (pc' := 164) rfl rfl rfl e0 ?_
  refine zq_iload (pc' := 165) rfl rfl rfl rfl ?_
  refine zq_dup2 (pc' := 166) rfl rfl rfl rfl rfl ?_
  obtain ⟨x5, e0, H⟩ := H
  refine zq_iald (pc' := 167) rfl rfl rfl e0 ?_
  refine zq_ipush (pc' := 168) rfl rfl rfl ?_
  refine zq_iadd (pc' := 169) rfl rfl rfl ?_
  obtain ⟨h6, e0, H⟩ := H
  refine zq_iast (pc' := 170) rfl rfl rfl e0 ?_
  exact zq_vret rfl H
theorem zr_X8_aDayOf_0 {d : Nat} {Q : zR → zH → Prop} {p0 : Nat} {p1 : Int32} {h : zH} (H :
    zW (zE d) zm_X8_aDayOf Q (2, [(0, .ref p0), (1, .int p1), (2, .int 0)], [], h)) : zW (zE d) zm_X8_aDayOf Q (0, [(0, .ref p0), (1, .int p1)], [], h) := by
  refine zq_ipush (pc' := 1) rfl rfl rfl ?_
  refine zq_istore_c (pc' := 2) rfl rfl ?_
  exact H
theorem zr_X8_aDayOf_2 {d : Nat} {Q : zR → zH → Prop} {l0 : Nat} {l1 : Int32} {l2 : Int32} {h : zH} (H :
    ∃ a1 : Nat, zgf h l0 8 5 = some (.ref a1) ∧
    ∃ x2, zia h a1 0 = some x2 ∧
    zbr (x2 ≤ l2)
    (∃ x3 : Int32, zgf h l0 8 31 = some (.int x3) ∧
      ∃ h4, zpf h l0 8 31 (.int (x3 + 1)) = some h4 ∧
      Q (.inl none) h4)
    (∃ a5 : Nat, zgf h l0 8 36 = some (.ref a5) ∧
      ∃ h6, zis h a5 l2 0 = some h6 ∧
      ∃ a7 : Nat, zgf h6 l0 8 37 = some (.ref a7) ∧
      ∃ h8, zis h6 a7 l2 (-1) = some h8 ∧
      zW (zE d) zm_X8_aDayOf Q (28, [(0, .ref l0), (1, .int l1), (2, .int l2), (3, .int 1)], [], h8))) : zW (zE d) zm_X8_aDayOf Q (2, [(0, .ref l0), (1, .int l1), (2, .int l2)], [], h) := by
  refine zq_iload (pc' := 3) rfl rfl rfl rfl ?_
  refine zq_aload (pc' := 4) rfl rfl rfl rfl ?_
  obtain ⟨a1, e0, H⟩ := H
  refine zq_getR (pc' := 7) rfl rfl rfl e0 ?_
  refine zq_ipush (pc' := 8) rfl rfl rfl ?_
  obtain ⟨x2, e0, H⟩ := H
  refine zq_iald (pc' := 9) rfl rfl rfl e0 ?_
  refine zq_icge (pc' := 12) rfl rfl rfl rfl (And.intro (fun c => ?_) (fun c => ?_))
  · have H := H.1 c
    refine zq_aload (pc' := 102) rfl rfl rfl rfl ?_
    refine zq_dup (pc' := 103) rfl rfl rfl rfl ?_
    obtain ⟨x3, e0, H⟩ := H
    refine zq_getI (pc' := 106) rfl rfl rfl e0 ?_
    refine zq_ipush (pc' := 107) rfl rfl rfl ?_
    refine zq_iadd (pc' := 108) rfl rfl rfl ?_
    obtain ⟨h4, e0, H⟩ := H
    refine zq_put (pc' := 111) rfl rfl rfl trivial e0 ?_
    exact zq_vret rfl H
  · have H := H.2 c
    refine zq_aload (pc' := 13) rfl rfl rfl rfl ?_
    obtain ⟨a5, e0, H⟩ := H
    refine zq_getR (pc' := 16) rfl rfl rfl e0 ?_
    refine zq_iload (pc' := 17) rfl rfl rfl rfl ?_
    refine zq_ipush (pc' := 18) rfl rfl rfl ?_
    obtain ⟨h6, e0, H⟩ := H
    refine zq_iast (pc' := 19) rfl rfl rfl e0 ?_
    refine zq_aload (pc' := 20) rfl rfl rfl rfl ?_
    obtain ⟨a7, e0, H⟩ := H
    refine zq_getR (pc' := 23) rfl rfl rfl e0 ?_
    refine zq_iload (pc' := 24) rfl rfl rfl rfl ?_
    refine zq_ipushn (pc' := 25) rfl rfl rfl ?_
    obtain ⟨h8, e0, H⟩ := H
    refine zq_iast (pc' := 26) rfl rfl rfl e0 ?_
    refine zq_ipush (pc' := 27) rfl rfl rfl ?_
    refine zq_istore_c (pc' := 28) rfl rfl ?_
    exact H
theorem zr_X8_aDayOf_28 {d : Nat} {Q : zR → zH → Prop} {l0 : Nat} {l1 : Int32} {l2 : Int32} {l3 : Int32} {h : zH} (H :
    zbr (l3 = 0)
    (zW (zE d) zm_X8_aDayOf Q (2, [(0, .ref l0), (1, .int l1), (2, .int (l2 + 1))], [], h))
    (zW (zE d) zm_X8_aDayOf Q (37, [(0, .ref l0), (1, .int l1), (2, .int l2), (3, .int 0), (4, .int 0)], [], h))) : zW (zE d) zm_X8_aDayOf Q (28, [(0, .ref l0), (1, .int l1), (2, .int l2), (3, .int l3)], [], h) := by
  refine zq_iload (pc' := 29) rfl rfl rfl rfl ?_
  refine zq_ifeq (pc' := 32) rfl rfl rfl rfl (And.intro (fun c => ?_) (fun c => ?_))
  · have H := H.1 c
    refine zq_iinc (pc' := 98) rfl rfl rfl rfl ?_
    refine zq_goto_c (pc' := 2) rfl rfl ?_
    exact H
  · have H := H.2 c
    refine zq_ipush (pc' := 33) rfl rfl rfl ?_
    refine zq_istore (pc' := 34) rfl rfl rfl ?_
    refine zq_ipush (pc' := 35) rfl rfl rfl ?_
    refine zq_istore_c (pc' := 37) rfl rfl ?_
    exact H
theorem zr_X8_aDayOf_37 {d : Nat} {Q : zR → zH → Prop} {l0 : Nat} {l1 : Int32} {l2 : Int32} {l3 : Int32} {l4 : Int32} {h : zH} (H :
    ∃ a1 : Nat, zgf h l0 8 7 = some (.ref a1) ∧
    ∃ x2, zia h a1 l2 = some x2 ∧
    zbr (x2 ≤ l4)
    (zW (zE d) zm_X8_aDayOf Q (28, [(0, .ref l0), (1, .int l1), (2, .int l2), (3, .int l3)], [], h))
    (∃ a3 : Nat, zgf h l0 8 29 = some (.ref a3) ∧
      ∃ x4, zia h a3 l2 = some x4 ∧
      zE d 218 [.int x4, .int l4] h (fun r6 h5 => match r6 with
        | .inl v7 => ∃ x9 : Int32, v7 = some (.int x9) ∧ zbr (x9 = 0)
          (zW (zE d) zm_X8_aDayOf Q (37, [(0, .ref l0), (1, .int l1), (2, .int l2), (3, .int l3), (4, .int (l4 + 1))], [], h5))
          (zE d 262 [.ref l0, .int l2, .int l4, .int l1] h5 (fun r11 h10 => match r11 with
              | .inl v12 => ∃ x14 : Int32, v12 = some (.int x14) ∧ zbr (x14 = 0)
                (zW (zE d) zm_X8_aDayOf Q (37, [(0, .ref l0), (1, .int l1), (2, .int l2), (3, .int l3), (4, .int (l4 + 1))], [], h10))
                (zE d 263 [.ref l0, .int l2, .int l4, .int l1] h10 (fun r16 h15 => match r16 with
                    | .inl v17 => v17 = none ∧ zW (zE d) zm_X8_aDayOf Q (37, [(0, .ref l0), (1, .int l1), (2, .int l2), (3, .int 1), (4, .int (l4 + 1))], [], h15)
                    | .inr e18 => Q (.inr e18) h15))
              | .inr e13 => Q (.inr e13) h10))
        | .inr e8 => Q (.inr e8) h5))) : zW (zE d) zm_X8_aDayOf Q (37, [(0, .ref l0), (1, .int l1), (2, .int l2), (3, .int l3), (4, .int l4)], [], h) := by
  refine zq_iload (pc' := 39) rfl rfl rfl rfl ?_
  refine zq_aload (pc' := 40) rfl rfl rfl rfl ?_
  obtain ⟨a1, e0, H⟩ := H
  refine zq_getR (pc' := 43) rfl rfl rfl e0 ?_
  refine zq_iload (pc' := 44) rfl rfl rfl rfl ?_
  obtain ⟨x2, e0, H⟩ := H
  refine zq_iald (pc' := 45) rfl rfl rfl e0 ?_
  refine zq_icge (pc' := 48) rfl rfl rfl rfl (And.intro (fun c => ?_) (fun c => ?_))
  · have H := H.1 c
    refine zq_goto_c (pc' := 28) rfl rfl ?_
    exact H
  · have H := H.2 c
    refine zq_aload (pc' := 49) rfl rfl rfl rfl ?_
    obtain ⟨a3, e0, H⟩ := H
    refine zq_getR (pc' := 52) rfl rfl rfl e0 ?_
    refine zq_iload (pc' := 53) rfl rfl rfl rfl ?_
    obtain ⟨x4, e0, H⟩ := H
    refine zq_iald (pc' := 54) rfl rfl rfl e0 ?_
    refine zq_iload (pc' := 56) rfl rfl rfl rfl ?_
    refine zq_calli (pc' := 59) rfl rfl rfl rfl rfl rfl (zE_mono H (fun r6 h5 H => ?_))
    rcases r6 with v7 | e8
    · obtain ⟨x9, e0, H⟩ := H
      refine Exists.intro x9 (And.intro e0 ?_)
      refine zq_ifeq (pc' := 62) rfl rfl rfl rfl (And.intro (fun c => ?_) (fun c => ?_))
      · have H := H.1 c
        refine zq_iinc (pc' := 89) rfl rfl rfl rfl ?_
        refine zq_goto_c (pc' := 37) rfl rfl ?_
        exact H
      · have H := H.2 c
        refine zq_aload (pc' := 63) rfl rfl rfl rfl ?_
        refine zq_iload (pc' := 64) rfl rfl rfl rfl ?_
        refine zq_iload (pc' := 66) rfl rfl rfl rfl ?_
        refine zq_iload (pc' := 67) rfl rfl rfl rfl ?_
        refine zq_calli (pc' := 70) rfl rfl rfl rfl rfl rfl (zE_mono H (fun r11 h10 H => ?_))
        rcases r11 with v12 | e13
        · obtain ⟨x14, e0, H⟩ := H
          refine Exists.intro x14 (And.intro e0 ?_)
          refine zq_ifne (pc' := 73) rfl rfl rfl rfl (And.intro (fun c => ?_) (fun c => ?_))
          · have H := H.1 c
            refine zq_goto (pc' := 86) rfl rfl rfl ?_
            refine zq_iinc (pc' := 89) rfl rfl rfl rfl ?_
            refine zq_goto_c (pc' := 37) rfl rfl ?_
            exact H
          · have H := H.2 c
            refine zq_aload (pc' := 77) rfl rfl rfl rfl ?_
            refine zq_iload (pc' := 78) rfl rfl rfl rfl ?_
            refine zq_iload (pc' := 80) rfl rfl rfl rfl ?_
            refine zq_iload (pc' := 81) rfl rfl rfl rfl ?_
            refine zq_callv (pc' := 84) rfl rfl rfl rfl rfl rfl (zE_mono H (fun r16 h15 H => ?_))
            rcases r16 with v17 | e18
            · obtain ⟨e0, H⟩ := H
              refine And.intro e0 ?_
              refine zq_ipush (pc' := 85) rfl rfl rfl ?_
              refine zq_istore (pc' := 86) rfl rfl rfl ?_
              refine zq_iinc (pc' := 89) rfl rfl rfl rfl ?_
              refine zq_goto_c (pc' := 37) rfl rfl ?_
              exact H
            · exact H
        · exact H
    · exact H
theorem zr_X8_goOn_0 {d : Nat} {Q : zR → zH → Prop} {p0 : Nat} {p1 : Int32} {h : zH} (H :
    zW (zE d) zm_X8_goOn Q (2, [(0, .ref p0), (1, .int p1), (2, .int 0)], [], h)) : zW (zE d) zm_X8_goOn Q (0, [(0, .ref p0), (1, .int p1)], [], h) := by
  refine zq_ipush (pc' := 1) rfl rfl rfl ?_
  refine zq_istore_c (pc' := 2) rfl rfl ?_
  exact H
theorem zr_X8_goOn_2 {d : Nat} {Q : zR → zH → Prop} {l0 : Nat} {l1 : Int32} {l2 : Int32} {h : zH} (H :
    zbr (l1 ≤ l2)
    (Q (.inl none) h)
    (∃ x1 : Int32, zgf h l0 8 31 = some (.int x1) ∧
      zE d 260 [.ref l0, .int x1] h (fun r3 h2 => match r3 with
        | .inl v4 => ∃ x6 : Int32, v4 = some (.int x6) ∧ zE d 264 [.ref l0, .int x6] h2 (fun r8 h7 => match r8 with
            | .inl v9 => v9 = none ∧ zW (zE d) zm_X8_goOn Q (2, [(0, .ref l0), (1, .int l1), (2, .int (l2 + 1))], [], h7)
            | .inr e10 => Q (.inr e10) h7)
        | .inr e5 => Q (.inr e5) h2))) : zW (zE d) zm_X8_goOn Q (2, [(0, .ref l0), (1, .int l1), (2, .int l2)], [], h) := by
  refine zq_iload (pc' := 3) rfl rfl rfl rfl ?_
  refine zq_iload (pc' := 4) rfl rfl rfl rfl ?_
  refine zq_icge (pc' := 7) rfl rfl rfl rfl (And.intro (fun c => ?_) (fun c => ?_))
  · have H := H.1 c
    exact zq_vret rfl H
  · have H := H.2 c
    refine zq_aload (pc' := 8) rfl rfl rfl rfl ?_
    refine zq_aload (pc' := 9) rfl rfl rfl rfl ?_
    refine zq_aload (pc' := 10) rfl rfl rfl rfl ?_
    obtain ⟨x1, e0, H⟩ := H
    refine zq_getI (pc' := 13) rfl rfl rfl e0 ?_
    refine zq_calli (pc' := 16) rfl rfl rfl rfl rfl rfl (zE_mono H (fun r3 h2 H => ?_))
    rcases r3 with v4 | e5
    · obtain ⟨x6, e0, H⟩ := H
      refine Exists.intro x6 (And.intro e0 ?_)
      refine zq_callv (pc' := 19) rfl rfl rfl rfl rfl rfl (zE_mono H (fun r8 h7 H => ?_))
      rcases r8 with v9 | e10
      · obtain ⟨e0, H⟩ := H
        refine And.intro e0 ?_
        refine zq_iinc (pc' := 22) rfl rfl rfl rfl ?_
        refine zq_goto_c (pc' := 2) rfl rfl ?_
        exact H
      · exact H
    · exact H
theorem zr_X8_beginAnew_0 {d : Nat} {Q : zR → zH → Prop} {p0 : Nat} {h : zH} (H :
    zW (zE d) zm_X8_beginAnew Q (2, [(0, .ref p0), (1, .int 0)], [], h)) : zW (zE d) zm_X8_beginAnew Q (0, [(0, .ref p0)], [], h) := by
  refine zq_ipush (pc' := 1) rfl rfl rfl ?_
  refine zq_istore_c (pc' := 2) rfl rfl ?_
  exact H
theorem zr_X8_beginAnew_2 {d : Nat} {Q : zR → zH → Prop} {l0 : Nat} {l1 : Int32} {h : zH} (H :
    zbr (4 ≤ l1)
    (Q (.inl none) h)
    (∃ a1 : Nat, zgf h l0 8 38 = some (.ref a1) ∧
      ∃ h2, zis h a1 l1 0 = some h2 ∧
      zW (zE d) zm_X8_beginAnew Q (2, [(0, .ref l0), (1, .int (l1 + 1))], [], h2))) : zW (zE d) zm_X8_beginAnew Q (2, [(0, .ref l0), (1, .int l1)], [], h) := by
  refine zq_iload (pc' := 3) rfl rfl rfl rfl ?_
  refine zq_ipush (pc' := 4) rfl rfl rfl ?_
  refine zq_icge (pc' := 7) rfl rfl rfl rfl (And.intro (fun c => ?_) (fun c => ?_))
  · have H := H.1 c
    exact zq_vret rfl H
  · have H := H.2 c
    refine zq_aload (pc' := 8) rfl rfl rfl rfl ?_
    obtain ⟨a1, e0, H⟩ := H
    refine zq_getR (pc' := 11) rfl rfl rfl e0 ?_
    refine zq_iload (pc' := 12) rfl rfl rfl rfl ?_
    refine zq_ipush (pc' := 13) rfl rfl rfl ?_
    obtain ⟨h2, e0, H⟩ := H
    refine zq_iast (pc' := 14) rfl rfl rfl e0 ?_
    refine zq_iinc (pc' := 17) rfl rfl rfl rfl ?_
    refine zq_goto_c (pc' := 2) rfl rfl ?_
    exact H
theorem zr_X8_burstsToday_0 {d : Nat} {Q : zR → zH → Prop} {p0 : Nat} {h : zH} (H :
    zW (zE d) zm_X8_burstsToday Q (4, [(0, .ref p0), (1, .int 0), (2, .int 0)], [], h)) : zW (zE d) zm_X8_burstsToday Q (0, [(0, .ref p0)], [], h) := by
  refine zq_ipush (pc' := 1) rfl rfl rfl ?_
  refine zq_istore (pc' := 2) rfl rfl rfl ?_
  refine zq_ipush (pc' := 3) rfl rfl rfl ?_
  refine zq_istore_c (pc' := 4) rfl rfl ?_
  exact H
theorem zr_X8_burstsToday_4 {d : Nat} {Q : zR → zH → Prop} {l0 : Nat} {l1 : Int32} {l2 : Int32} {h : zH} (H :
    ∃ a1 : Nat, zgf h l0 8 5 = some (.ref a1) ∧
    ∃ x2, zia h a1 0 = some x2 ∧
    zbr (x2 ≤ l2)
    (Q (.inl (some (.int l1))) h)
    (∃ a3 : Nat, zgf h l0 8 36 = some (.ref a3) ∧
      ∃ x4, zia h a3 l2 = some x4 ∧
      zE d 219 [.int x4] h (fun r6 h5 => match r6 with
        | .inl v7 => ∃ x9 : Int32, v7 = some (.int x9) ∧ zW (zE d) zm_X8_burstsToday Q (4, [(0, .ref l0), (1, .int (l1 + x9)), (2, .int (l2 + 1))], [], h5)
        | .inr e8 => Q (.inr e8) h5))) : zW (zE d) zm_X8_burstsToday Q (4, [(0, .ref l0), (1, .int l1), (2, .int l2)], [], h) := by
  refine zq_iload (pc' := 5) rfl rfl rfl rfl ?_
  refine zq_aload (pc' := 6) rfl rfl rfl rfl ?_
  obtain ⟨a1, e0, H⟩ := H
  refine zq_getR (pc' := 9) rfl rfl rfl e0 ?_
  refine zq_ipush (pc' := 10) rfl rfl rfl ?_
  obtain ⟨x2, e0, H⟩ := H
  refine zq_iald (pc' := 11) rfl rfl rfl e0 ?_
  refine zq_icge (pc' := 14) rfl rfl rfl rfl (And.intro (fun c => ?_) (fun c => ?_))
  · have H := H.1 c
    refine zq_iload (pc' := 33) rfl rfl rfl rfl ?_
    exact zq_iret rfl trivial H
  · have H := H.2 c
    refine zq_iload (pc' := 15) rfl rfl rfl rfl ?_
    refine zq_aload (pc' := 16) rfl rfl rfl rfl ?_
    obtain ⟨a3, e0, H⟩ := H
    refine zq_getR (pc' := 19) rfl rfl rfl e0 ?_
    refine zq_iload (pc' := 20) rfl rfl rfl rfl ?_
    obtain ⟨x4, e0, H⟩ := H
    refine zq_iald (pc' := 21) rfl rfl rfl e0 ?_
    refine zq_calli (pc' := 24) rfl rfl rfl rfl rfl rfl (zE_mono H (fun r6 h5 H => ?_))
    rcases r6 with v7 | e8
    · obtain ⟨x9, e0, H⟩ := H
      refine Exists.intro x9 (And.intro e0 ?_)
      refine zq_iadd (pc' := 25) rfl rfl rfl ?_
      refine zq_istore (pc' := 26) rfl rfl rfl ?_
      refine zq_iinc (pc' := 29) rfl rfl rfl rfl ?_
      refine zq_goto_c (pc' := 4) rfl rfl ?_
      exact H
    · exact H
theorem zr_X8_runsOf_0 {d : Nat} {Q : zR → zH → Prop} {p0 : Nat} {p1 : Int32} {h : zH} (H :
    zW (zE d) zm_X8_runsOf Q (4, [(0, .ref p0), (1, .int p1), (2, .int 0), (3, .int 0)], [], h)) : zW (zE d) zm_X8_runsOf Q (0, [(0, .ref p0), (1, .int p1)], [], h) := by
  refine zq_ipush (pc' := 1) rfl rfl rfl ?_
  refine zq_istore (pc' := 2) rfl rfl rfl ?_
  refine zq_ipush (pc' := 3) rfl rfl rfl ?_
  refine zq_istore_c (pc' := 4) rfl rfl ?_
  exact H
theorem zr_X8_runsOf_4 {d : Nat} {Q : zR → zH → Prop} {l0 : Nat} {l1 : Int32} {l2 : Int32} {l3 : Int32} {h : zH} (H :
    ∃ a1 : Nat, zgf h l0 8 7 = some (.ref a1) ∧
    ∃ x2, zia h a1 l1 = some x2 ∧
    zbr (x2 ≤ l3)
    (Q (.inl (some (.int l2))) h)
    (∃ a3 : Nat, zgf h l0 8 29 = some (.ref a3) ∧
      ∃ x4, zia h a3 l1 = some x4 ∧
      zE d 218 [.int x4, .int l3] h (fun r6 h5 => match r6 with
        | .inl v7 => ∃ x9 : Int32, v7 = some (.int x9) ∧ zbr (x9 = 0)
          (zW (zE d) zm_X8_runsOf Q (4, [(0, .ref l0), (1, .int l1), (2, .int (l2 + 0)), (3, .int (l3 + 1))], [], h5))
          (zbr (l3 = 0)
            (zW (zE d) zm_X8_runsOf Q (4, [(0, .ref l0), (1, .int l1), (2, .int (l2 + 1)), (3, .int (l3 + 1))], [], h5))
            (∃ a10 : Nat, zgf h5 l0 8 29 = some (.ref a10) ∧
              ∃ x11, zia h5 a10 l1 = some x11 ∧
              zE d 218 [.int x11, .int (l3 - 1)] h5 (fun r13 h12 => match r13 with
                | .inl v14 => ∃ x16 : Int32, v14 = some (.int x16) ∧ zbr (x16 = 0)
                  (zW (zE d) zm_X8_runsOf Q (4, [(0, .ref l0), (1, .int l1), (2, .int (l2 + 1)), (3, .int (l3 + 1))], [], h12))
                  (zW (zE d) zm_X8_runsOf Q (4, [(0, .ref l0), (1, .int l1), (2, .int (l2 + 0)), (3, .int (l3 + 1))], [], h12))
                | .inr e15 => Q (.inr e15) h12)))
        | .inr e8 => Q (.inr e8) h5))) : zW (zE d) zm_X8_runsOf Q (4, [(0, .ref l0), (1, .int l1), (2, .int l2), (3, .int l3)], [], h) := by
  refine zq_iload (pc' := 5) rfl rfl rfl rfl ?_
  refine zq_aload (pc' := 6) rfl rfl rfl rfl ?_
  obtain ⟨a1, e0, H⟩ := H
  refine zq_getR (pc' := 9) rfl rfl rfl e0 ?_
  refine zq_iload (pc' := 10) rfl rfl rfl rfl ?_
  obtain ⟨x2, e0, H⟩ := H
  refine zq_iald (pc' := 11) rfl rfl rfl e0 ?_
  refine zq_icge (pc' := 14) rfl rfl rfl rfl (And.intro (fun c => ?_) (fun c => ?_))
  · have H := H.1 c
    refine zq_iload (pc' := 61) rfl rfl rfl rfl ?_
    exact zq_iret rfl trivial H
  · have H := H.2 c
    refine zq_iload (pc' := 15) rfl rfl rfl rfl ?_
    refine zq_aload (pc' := 16) rfl rfl rfl rfl ?_
    obtain ⟨a3, e0, H⟩ := H
    refine zq_getR (pc' := 19) rfl rfl rfl e0 ?_
    refine zq_iload (pc' := 20) rfl rfl rfl rfl ?_
    obtain ⟨x4, e0, H⟩ := H
    refine zq_iald (pc' := 21) rfl rfl rfl e0 ?_
    refine zq_iload (pc' := 22) rfl rfl rfl rfl ?_
    refine zq_calli (pc' := 25) rfl rfl rfl rfl rfl rfl (zE_mono H (fun r6 h5 H => ?_))
    rcases r6 with v7 | e8
    · obtain ⟨x9, e0, H⟩ := H
      refine Exists.intro x9 (And.intro e0 ?_)
      refine zq_ifeq (pc' := 28) rfl rfl rfl rfl (And.intro (fun c => ?_) (fun c => ?_))
      · have H := H.1 c
        refine zq_ipush (pc' := 52) rfl rfl rfl ?_
        refine zq_iadd (pc' := 53) rfl rfl rfl ?_
        refine zq_istore (pc' := 54) rfl rfl rfl ?_
        refine zq_iinc (pc' := 57) rfl rfl rfl rfl ?_
        refine zq_goto_c (pc' := 4) rfl rfl ?_
        exact H
      · have H := H.2 c
        refine zq_iload (pc' := 29) rfl rfl rfl rfl ?_
        refine zq_ifeq (pc' := 32) rfl rfl rfl rfl (And.intro (fun c => ?_) (fun c => ?_))
        · have H := H.1 c
          refine zq_ipush (pc' := 48) rfl rfl rfl ?_
          refine zq_goto (pc' := 52) rfl rfl rfl ?_
          refine zq_iadd (pc' := 53) rfl rfl rfl ?_
          refine zq_istore (pc' := 54) rfl rfl rfl ?_
          refine zq_iinc (pc' := 57) rfl rfl rfl rfl ?_
          refine zq_goto_c (pc' := 4) rfl rfl ?_
          exact H
        · have H := H.2 c
          refine zq_aload (pc' := 33) rfl rfl rfl rfl ?_
          obtain ⟨a10, e0, H⟩ := H
          refine zq_getR (pc' := 36) rfl rfl rfl e0 ?_
          refine zq_iload (pc' := 37) rfl rfl rfl rfl ?_
          obtain ⟨x11, e0, H⟩ := H
          refine zq_iald (pc' := 38) rfl rfl rfl e0 ?_
          refine zq_iload (pc' := 39) rfl rfl rfl rfl ?_
          refine zq_ipush (pc' := 40) rfl rfl rfl ?_
          refine zq_isub (pc' := 41) rfl rfl rfl ?_
          refine zq_calli (pc' := 44) rfl rfl rfl rfl rfl rfl (zE_mono H (fun r13 h12 H => ?_))
          rcases r13 with v14 | e15
          · obtain ⟨x16, e0, H⟩ := H
            refine Exists.intro x16 (And.intro e0 ?_)
            refine zq_ifne (pc' := 47) rfl rfl rfl rfl (And.intro (fun c => ?_) (fun c => ?_))
            · have H := H.1 c
              refine zq_ipush (pc' := 48) rfl rfl rfl ?_
              refine zq_goto (pc' := 52) rfl rfl rfl ?_
              refine zq_iadd (pc' := 53) rfl rfl rfl ?_
              refine zq_istore (pc' := 54) rfl rfl rfl ?_
              refine zq_iinc (pc' := 57) rfl rfl rfl rfl ?_
              refine zq_goto_c (pc' := 4) rfl rfl ?_
              exact H
            · have H := H.2 c
              refine zq_ipush (pc' := 52) rfl rfl rfl ?_
              refine zq_iadd (pc' := 53) rfl rfl rfl ?_
              refine zq_istore (pc' := 54) rfl rfl rfl ?_
              refine zq_iinc (pc' := 57) rfl rfl rfl rfl ?_
              refine zq_goto_c (pc' := 4) rfl rfl ?_
              exact H
          · exact H
    · exact H
theorem zr_X8_longestOf_0 {d : Nat} {Q : zR → zH → Prop} {p0 : Nat} {p1 : Int32} {p2 : Int32} {h : zH} (H :
    zW (zE d) zm_X8_longestOf Q (11, [(0, .ref p0), (1, .int p1), (2, .int p2), (3, .int 0), (4, .int (-1)), (5, .int 0), (6, .int 0)], [], h)) : zW (zE d) zm_X8_longestOf Q (0, [(0, .ref p0), (1, .int p1), (2, .int p2)], [], h) := by
  refine zq_ipush (pc' := 1) rfl rfl rfl ?_
  refine zq_istore (pc' := 2) rfl rfl rfl ?_
  refine zq_ipushn (pc' := 3) rfl rfl rfl ?_
  refine zq_istore (pc' := 5) rfl rfl rfl ?_
  refine zq_ipush (pc' := 6) rfl rfl rfl ?_
  refine zq_istore (pc' := 8) rfl rfl rfl ?_
  refine zq_ipush (pc' := 9) rfl rfl rfl ?_
  refine zq_istore_c (pc' := 11) rfl rfl ?_
  exact H
theorem zr_X8_longestOf_11 {d : Nat} {Q : zR → zH → Prop} {l0 : Nat} {l1 : Int32} {l2 : Int32} {l3 : Int32} {l4 : Int32} {l5 : Int32} {l6 : Int32} {h : zH} (H :
    ∃ a1 : Nat, zgf h l0 8 7 = some (.ref a1) ∧
    ∃ x2, zia h a1 l1 = some x2 ∧
    zbr (x2 ≤ l6)
    (zbr (l2 = 0)
      (Q (.inl (some (.int l3))) h)
      (Q (.inl (some (.int l4))) h))
    (∃ a3 : Nat, zgf h l0 8 29 = some (.ref a3) ∧
      ∃ x4, zia h a3 l1 = some x4 ∧
      zE d 218 [.int x4, .int l6] h (fun r6 h5 => match r6 with
        | .inl v7 => ∃ x9 : Int32, v7 = some (.int x9) ∧ zbr (x9 = 0)
          (zbr (l3 < (0 : Int32))
            (zW (zE d) zm_X8_longestOf Q (11, [(0, .ref l0), (1, .int l1), (2, .int l2), (3, .int 0), (4, .int ((l6 - 0) + 1)), (5, .int 0), (6, .int (l6 + 1))], [], h5))
            (zW (zE d) zm_X8_longestOf Q (11, [(0, .ref l0), (1, .int l1), (2, .int l2), (3, .int l3), (4, .int l4), (5, .int 0), (6, .int (l6 + 1))], [], h5)))
          (zbr (l3 < (l5 + 1))
            (zW (zE d) zm_X8_longestOf Q (11, [(0, .ref l0), (1, .int l1), (2, .int l2), (3, .int (l5 + 1)), (4, .int ((l6 - (l5 + 1)) + 1)), (5, .int (l5 + 1)), (6, .int (l6 + 1))], [], h5))
            (zW (zE d) zm_X8_longestOf Q (11, [(0, .ref l0), (1, .int l1), (2, .int l2), (3, .int l3), (4, .int l4), (5, .int (l5 + 1)), (6, .int (l6 + 1))], [], h5)))
        | .inr e8 => Q (.inr e8) h5))) : zW (zE d) zm_X8_longestOf Q (11, [(0, .ref l0), (1, .int l1), (2, .int l2), (3, .int l3), (4, .int l4), (5, .int l5), (6, .int l6)], [], h) := by
  refine zq_iload (pc' := 13) rfl rfl rfl rfl ?_
  refine zq_aload (pc' := 14) rfl rfl rfl rfl ?_
  obtain ⟨a1, e0, H⟩ := H
  refine zq_getR (pc' := 17) rfl rfl rfl e0 ?_
  refine zq_iload (pc' := 18) rfl rfl rfl rfl ?_
  obtain ⟨x2, e0, H⟩ := H
  refine zq_iald (pc' := 19) rfl rfl rfl e0 ?_
  refine zq_icge (pc' := 22) rfl rfl rfl rfl (And.intro (fun c => ?_) (fun c => ?_))
  · have H := H.1 c
    refine zq_iload (pc' := 74) rfl rfl rfl rfl ?_
    refine zq_ifeq (pc' := 77) rfl rfl rfl rfl (And.intro (fun c => ?_) (fun c => ?_))
    · have H := H.1 c
      refine zq_iload (pc' := 83) rfl rfl rfl rfl ?_
      exact zq_iret rfl trivial H
    · have H := H.2 c
      refine zq_iload (pc' := 79) rfl rfl rfl rfl ?_
      refine zq_goto (pc' := 83) rfl rfl rfl ?_
      exact zq_iret rfl trivial H
  · have H := H.2 c
    refine zq_aload (pc' := 23) rfl rfl rfl rfl ?_
    obtain ⟨a3, e0, H⟩ := H
    refine zq_getR (pc' := 26) rfl rfl rfl e0 ?_
    refine zq_iload (pc' := 27) rfl rfl rfl rfl ?_
    obtain ⟨x4, e0, H⟩ := H
    refine zq_iald (pc' := 28) rfl rfl rfl e0 ?_
    refine zq_iload (pc' := 30) rfl rfl rfl rfl ?_
    refine zq_calli (pc' := 33) rfl rfl rfl rfl rfl rfl (zE_mono H (fun r6 h5 H => ?_))
    rcases r6 with v7 | e8
    · obtain ⟨x9, e0, H⟩ := H
      refine Exists.intro x9 (And.intro e0 ?_)
      refine zq_ifeq (pc' := 36) rfl rfl rfl rfl (And.intro (fun c => ?_) (fun c => ?_))
      · have H := H.1 c
        refine zq_ipush (pc' := 44) rfl rfl rfl ?_
        refine zq_istore (pc' := 46) rfl rfl rfl ?_
        refine zq_iload (pc' := 48) rfl rfl rfl rfl ?_
        refine zq_iload (pc' := 49) rfl rfl rfl rfl ?_
        refine zq_icgt (pc' := 52) rfl rfl rfl rfl (And.intro (fun c => ?_) (fun c => ?_))
        · have H := H.1 c
          refine zq_iload (pc' := 57) rfl rfl rfl rfl ?_
          refine zq_istore (pc' := 58) rfl rfl rfl ?_
          refine zq_iload (pc' := 60) rfl rfl rfl rfl ?_
          refine zq_iload (pc' := 62) rfl rfl rfl rfl ?_
          refine zq_isub (pc' := 63) rfl rfl rfl ?_
          refine zq_ipush (pc' := 64) rfl rfl rfl ?_
          refine zq_iadd (pc' := 65) rfl rfl rfl ?_
          refine zq_istore (pc' := 67) rfl rfl rfl ?_
          refine zq_iinc (pc' := 70) rfl rfl rfl rfl ?_
          refine zq_goto_c (pc' := 11) rfl rfl ?_
          exact H
        · have H := H.2 c
          refine zq_goto (pc' := 67) rfl rfl rfl ?_
          refine zq_iinc (pc' := 70) rfl rfl rfl rfl ?_
          refine zq_goto_c (pc' := 11) rfl rfl ?_
          exact H
      · have H := H.2 c
        refine zq_iload (pc' := 38) rfl rfl rfl rfl ?_
        refine zq_ipush (pc' := 39) rfl rfl rfl ?_
        refine zq_iadd (pc' := 40) rfl rfl rfl ?_
        refine zq_goto (pc' := 44) rfl rfl rfl ?_
        refine zq_istore (pc' := 46) rfl rfl rfl ?_
        refine zq_iload (pc' := 48) rfl rfl rfl rfl ?_
        refine zq_iload (pc' := 49) rfl rfl rfl rfl ?_
        refine zq_icgt (pc' := 52) rfl rfl rfl rfl (And.intro (fun c => ?_) (fun c => ?_))
        · have H := H.1 c
          refine zq_iload (pc' := 57) rfl rfl rfl rfl ?_
          refine zq_istore (pc' := 58) rfl rfl rfl ?_
          refine zq_iload (pc' := 60) rfl rfl rfl rfl ?_
          refine zq_iload (pc' := 62) rfl rfl rfl rfl ?_
          refine zq_isub (pc' := 63) rfl rfl rfl ?_
          refine zq_ipush (pc' := 64) rfl rfl rfl ?_
          refine zq_iadd (pc' := 65) rfl rfl rfl ?_
          refine zq_istore (pc' := 67) rfl rfl rfl ?_
          refine zq_iinc (pc' := 70) rfl rfl rfl rfl ?_
          refine zq_goto_c (pc' := 11) rfl rfl ?_
          exact H
        · have H := H.2 c
          refine zq_goto (pc' := 67) rfl rfl rfl ?_
          refine zq_iinc (pc' := 70) rfl rfl rfl rfl ?_
          refine zq_goto_c (pc' := 11) rfl rfl ?_
          exact H
    · exact H
theorem zr_X8_weakestOf_0 {d : Nat} {Q : zR → zH → Prop} {p0 : Nat} {p1 : Int32} {h : zH} (H :
    zW (zE d) zm_X8_weakestOf Q (4, [(0, .ref p0), (1, .int p1), (2, .int (-1)), (3, .int 0)], [], h)) : zW (zE d) zm_X8_weakestOf Q (0, [(0, .ref p0), (1, .int p1)], [], h) := by
  refine zq_ipushn (pc' := 1) rfl rfl rfl ?_
  refine zq_istore (pc' := 2) rfl rfl rfl ?_
  refine zq_ipush (pc' := 3) rfl rfl rfl ?_
  refine zq_istore_c (pc' := 4) rfl rfl ?_
  exact H
theorem zr_X8_weakestOf_4 {d : Nat} {Q : zR → zH → Prop} {l0 : Nat} {l1 : Int32} {l2 : Int32} {l3 : Int32} {h : zH} (H :
    ∃ a1 : Nat, zgf h l0 8 7 = some (.ref a1) ∧
    ∃ x2, zia h a1 l1 = some x2 ∧
    zbr (x2 ≤ l3)
    (Q (.inl (some (.int l2))) h)
    (∃ a3 : Nat, zgf h l0 8 29 = some (.ref a3) ∧
      ∃ x4, zia h a3 l1 = some x4 ∧
      zE d 218 [.int x4, .int l3] h (fun r6 h5 => match r6 with
        | .inl v7 => ∃ x9 : Int32, v7 = some (.int x9) ∧ zbr (x9 = 0)
          (zW (zE d) zm_X8_weakestOf Q (4, [(0, .ref l0), (1, .int l1), (2, .int l2), (3, .int (l3 + 1))], [], h5))
          (zbr (l2 = (-1))
            (zW (zE d) zm_X8_weakestOf Q (4, [(0, .ref l0), (1, .int l1), (2, .int l3), (3, .int (l3 + 1))], [], h5))
            (zE d 251 [.ref l0, .int l1, .int l3] h5 (fun r11 h10 => match r11 with
                | .inl v12 => ∃ x14 : Int32, v12 = some (.int x14) ∧ zE d 251 [.ref l0, .int l1, .int l2] h10 (fun r16 h15 => match r16 with
                    | .inl v17 => ∃ x19 : Int32, v17 = some (.int x19) ∧ zbr (x19 ≤ x14)
                      (zW (zE d) zm_X8_weakestOf Q (4, [(0, .ref l0), (1, .int l1), (2, .int l2), (3, .int (l3 + 1))], [], h15))
                      (zW (zE d) zm_X8_weakestOf Q (4, [(0, .ref l0), (1, .int l1), (2, .int l3), (3, .int (l3 + 1))], [], h15))
                    | .inr e18 => Q (.inr e18) h15)
                | .inr e13 => Q (.inr e13) h10)))
        | .inr e8 => Q (.inr e8) h5))) : zW (zE d) zm_X8_weakestOf Q (4, [(0, .ref l0), (1, .int l1), (2, .int l2), (3, .int l3)], [], h) := by
  refine zq_iload (pc' := 5) rfl rfl rfl rfl ?_
  refine zq_aload (pc' := 6) rfl rfl rfl rfl ?_
  obtain ⟨a1, e0, H⟩ := H
  refine zq_getR (pc' := 9) rfl rfl rfl e0 ?_
  refine zq_iload (pc' := 10) rfl rfl rfl rfl ?_
  obtain ⟨x2, e0, H⟩ := H
  refine zq_iald (pc' := 11) rfl rfl rfl e0 ?_
  refine zq_icge (pc' := 14) rfl rfl rfl rfl (And.intro (fun c => ?_) (fun c => ?_))
  · have H := H.1 c
    refine zq_iload (pc' := 56) rfl rfl rfl rfl ?_
    exact zq_iret rfl trivial H
  · have H := H.2 c
    refine zq_aload (pc' := 15) rfl rfl rfl rfl ?_
    obtain ⟨a3, e0, H⟩ := H
    refine zq_getR (pc' := 18) rfl rfl rfl e0 ?_
    refine zq_iload (pc' := 19) rfl rfl rfl rfl ?_
    obtain ⟨x4, e0, H⟩ := H
    refine zq_iald (pc' := 20) rfl rfl rfl e0 ?_
    refine zq_iload (pc' := 21) rfl rfl rfl rfl ?_
    refine zq_calli (pc' := 24) rfl rfl rfl rfl rfl rfl (zE_mono H (fun r6 h5 H => ?_))
    rcases r6 with v7 | e8
    · obtain ⟨x9, e0, H⟩ := H
      refine Exists.intro x9 (And.intro e0 ?_)
      refine zq_ifeq (pc' := 27) rfl rfl rfl rfl (And.intro (fun c => ?_) (fun c => ?_))
      · have H := H.1 c
        refine zq_iinc (pc' := 52) rfl rfl rfl rfl ?_
        refine zq_goto_c (pc' := 4) rfl rfl ?_
        exact H
      · have H := H.2 c
        refine zq_iload (pc' := 28) rfl rfl rfl rfl ?_
        refine zq_ipushn (pc' := 29) rfl rfl rfl ?_
        refine zq_iceq (pc' := 32) rfl rfl rfl rfl (And.intro (fun c => ?_) (fun c => ?_))
        · have H := H.1 c
          refine zq_iload (pc' := 48) rfl rfl rfl rfl ?_
          refine zq_istore (pc' := 49) rfl rfl rfl ?_
          refine zq_iinc (pc' := 52) rfl rfl rfl rfl ?_
          refine zq_goto_c (pc' := 4) rfl rfl ?_
          exact H
        · have H := H.2 c
          refine zq_aload (pc' := 33) rfl rfl rfl rfl ?_
          refine zq_iload (pc' := 34) rfl rfl rfl rfl ?_
          refine zq_iload (pc' := 35) rfl rfl rfl rfl ?_
          refine zq_calli (pc' := 38) rfl rfl rfl rfl rfl rfl (zE_mono H (fun r11 h10 H => ?_))
          rcases r11 with v12 | e13
          · obtain ⟨x14, e0, H⟩ := H
            refine Exists.intro x14 (And.intro e0 ?_)
            refine zq_aload (pc' := 39) rfl rfl rfl rfl ?_
            refine zq_iload (pc' := 40) rfl rfl rfl rfl ?_
            refine zq_iload (pc' := 41) rfl rfl rfl rfl ?_
            refine zq_calli (pc' := 44) rfl rfl rfl rfl rfl rfl (zE_mono H (fun r16 h15 H => ?_))
            rcases r16 with v17 | e18
            · obtain ⟨x19, e0, H⟩ := H
              refine Exists.intro x19 (And.intro e0 ?_)
              refine zq_icge (pc' := 47) rfl rfl rfl rfl (And.intro (fun c => ?_) (fun c => ?_))
              · have H := H.1 c
                refine zq_iinc (pc' := 52) rfl rfl rfl rfl ?_
                refine zq_goto_c (pc' := 4) rfl rfl ?_
                exact H
              · have H := H.2 c
                refine zq_iload (pc' := 48) rfl rfl rfl rfl ?_
                refine zq_istore (pc' := 49) rfl rfl rfl ?_
                refine zq_iinc (pc' := 52) rfl rfl rfl rfl ?_
                refine zq_goto_c (pc' := 4) rfl rfl ?_
                exact H
            · exact H
          · exact H
    · exact H
theorem zr_X8_bearsOf_0 {d : Nat} {Q : zR → zH → Prop} {p0 : Nat} {p1 : Int32} {h : zH} (H :
    ∃ a1 : Nat, zgf h p0 8 39 = some (.ref a1) ∧
    zE d 249 [.ref p0, .ref a1, .int 0] h (fun r3 h2 => match r3 with
      | .inl v4 => v4 = none ∧ zW (zE d) zm_X8_bearsOf Q (16, [(0, .ref p0), (1, .int p1), (2, .int (-1)), (3, .int 1), (4, .int 0)], [], h2)
      | .inr e5 => Q (.inr e5) h2)) : zW (zE d) zm_X8_bearsOf Q (0, [(0, .ref p0), (1, .int p1)], [], h) := by
  refine zq_aload (pc' := 1) rfl rfl rfl rfl ?_
  refine zq_aload (pc' := 2) rfl rfl rfl rfl ?_
  obtain ⟨a1, e0, H⟩ := H
  refine zq_getR (pc' := 5) rfl rfl rfl e0 ?_
  refine zq_ipush (pc' := 6) rfl rfl rfl ?_
  refine zq_callv (pc' := 9) rfl rfl rfl rfl rfl rfl (zE_mono H (fun r3 h2 H => ?_))
  rcases r3 with v4 | e5
  · obtain ⟨e0, H⟩ := H
    refine And.intro e0 ?_
    refine zq_ipushn (pc' := 10) rfl rfl rfl ?_
    refine zq_istore (pc' := 11) rfl rfl rfl ?_
    refine zq_ipush (pc' := 12) rfl rfl rfl ?_
    refine zq_istore (pc' := 13) rfl rfl rfl ?_
    refine zq_ipush (pc' := 14) rfl rfl rfl ?_
    refine zq_istore_c (pc' := 16) rfl rfl ?_
    exact H
  · exact H
theorem zr_X8_bearsOf_16 {d : Nat} {Q : zR → zH → Prop} {l0 : Nat} {l1 : Int32} {l2 : Int32} {l3 : Int32} {l4 : Int32} {h : zH} (H :
    zbr (99 < l4)
    (Q (.inl (some (.int l2))) h)
    (zbr (l3 = 0)
      (Q (.inl (some (.int l2))) h)
      (zE d 264 [.ref l0, .int l4] h (fun r2 h1 => match r2 with
          | .inl v3 => v3 = none ∧ ∃ a5 : Nat, zgf h1 l0 8 36 = some (.ref a5) ∧
            ∃ x6, zia h1 a5 l1 = some x6 ∧
            zbr (x6 = 0)
            (zbr ((1 : Int32) = 0)
              (∃ a7 : Nat, zgf h1 l0 8 39 = some (.ref a7) ∧
                zE d 250 [.ref l0, .ref a7, .int 0] h1 (fun r9 h8 => match r9 with
                  | .inl v10 => v10 = none ∧ zW (zE d) zm_X8_bearsOf Q (16, [(0, .ref l0), (1, .int l1), (2, .int l2), (3, .int 1), (4, .int (l4 + 1))], [], h8)
                  | .inr e11 => Q (.inr e11) h8))
              (∃ a12 : Nat, zgf h1 l0 8 39 = some (.ref a12) ∧
                zE d 250 [.ref l0, .ref a12, .int 0] h1 (fun r14 h13 => match r14 with
                  | .inl v15 => v15 = none ∧ zW (zE d) zm_X8_bearsOf Q (16, [(0, .ref l0), (1, .int l1), (2, .int l4), (3, .int 1), (4, .int (l4 + 1))], [], h13)
                  | .inr e16 => Q (.inr e16) h13)))
            (zbr ((0 : Int32) = 0)
              (∃ a17 : Nat, zgf h1 l0 8 39 = some (.ref a17) ∧
                zE d 250 [.ref l0, .ref a17, .int 0] h1 (fun r19 h18 => match r19 with
                  | .inl v20 => v20 = none ∧ zW (zE d) zm_X8_bearsOf Q (16, [(0, .ref l0), (1, .int l1), (2, .int l2), (3, .int 0), (4, .int (l4 + 1))], [], h18)
                  | .inr e21 => Q (.inr e21) h18))
              (∃ a22 : Nat, zgf h1 l0 8 39 = some (.ref a22) ∧
                zE d 250 [.ref l0, .ref a22, .int 0] h1 (fun r24 h23 => match r24 with
                  | .inl v25 => v25 = none ∧ zW (zE d) zm_X8_bearsOf Q (16, [(0, .ref l0), (1, .int l1), (2, .int l4), (3, .int 0), (4, .int (l4 + 1))], [], h23)
                  | .inr e26 => Q (.inr e26) h23)))
          | .inr e4 => Q (.inr e4) h1)))) : zW (zE d) zm_X8_bearsOf Q (16, [(0, .ref l0), (1, .int l1), (2, .int l2), (3, .int l3), (4, .int l4)], [], h) := by
  refine zq_iload (pc' := 18) rfl rfl rfl rfl ?_
  refine zq_ipush (pc' := 20) rfl rfl rfl ?_
  refine zq_icgt (pc' := 23) rfl rfl rfl rfl (And.intro (fun c => ?_) (fun c => ?_))
  · have H := H.1 c
    refine zq_iload (pc' := 71) rfl rfl rfl rfl ?_
    exact zq_iret rfl trivial H
  · have H := H.2 c
    refine zq_iload (pc' := 24) rfl rfl rfl rfl ?_
    refine zq_ifeq (pc' := 27) rfl rfl rfl rfl (And.intro (fun c => ?_) (fun c => ?_))
    · have H := H.1 c
      refine zq_iload (pc' := 71) rfl rfl rfl rfl ?_
      exact zq_iret rfl trivial H
    · have H := H.2 c
      refine zq_aload (pc' := 28) rfl rfl rfl rfl ?_
      refine zq_iload (pc' := 30) rfl rfl rfl rfl ?_
      refine zq_callv (pc' := 33) rfl rfl rfl rfl rfl rfl (zE_mono H (fun r2 h1 H => ?_))
      rcases r2 with v3 | e4
      · obtain ⟨e0, H⟩ := H
        refine And.intro e0 ?_
        refine zq_aload (pc' := 34) rfl rfl rfl rfl ?_
        obtain ⟨a5, e0, H⟩ := H
        refine zq_getR (pc' := 37) rfl rfl rfl e0 ?_
        refine zq_iload (pc' := 38) rfl rfl rfl rfl ?_
        obtain ⟨x6, e0, H⟩ := H
        refine zq_iald (pc' := 39) rfl rfl rfl e0 ?_
        refine zq_ifne (pc' := 42) rfl rfl rfl rfl (And.intro (fun c => ?_) (fun c => ?_))
        · have H := H.1 c
          refine zq_ipush (pc' := 43) rfl rfl rfl ?_
          refine zq_goto (pc' := 47) rfl rfl rfl ?_
          refine zq_istore (pc' := 48) rfl rfl rfl ?_
          refine zq_iload (pc' := 49) rfl rfl rfl rfl ?_
          refine zq_ifeq (pc' := 52) rfl rfl rfl rfl (And.intro (fun c => ?_) (fun c => ?_))
          · have H := H.1 c
            refine zq_aload (pc' := 56) rfl rfl rfl rfl ?_
            refine zq_aload (pc' := 57) rfl rfl rfl rfl ?_
            obtain ⟨a7, e0, H⟩ := H
            refine zq_getR (pc' := 60) rfl rfl rfl e0 ?_
            refine zq_ipush (pc' := 61) rfl rfl rfl ?_
            refine zq_callv (pc' := 64) rfl rfl rfl rfl rfl rfl (zE_mono H (fun r9 h8 H => ?_))
            rcases r9 with v10 | e11
            · obtain ⟨e0, H⟩ := H
              refine And.intro e0 ?_
              refine zq_iinc (pc' := 67) rfl rfl rfl rfl ?_
              refine zq_goto_c (pc' := 16) rfl rfl ?_
              exact H
            · exact H
          · have H := H.2 c
            refine zq_iload (pc' := 54) rfl rfl rfl rfl ?_
            refine zq_istore (pc' := 55) rfl rfl rfl ?_
            refine zq_aload (pc' := 56) rfl rfl rfl rfl ?_
            refine zq_aload (pc' := 57) rfl rfl rfl rfl ?_
            obtain ⟨a12, e0, H⟩ := H
            refine zq_getR (pc' := 60) rfl rfl rfl e0 ?_
            refine zq_ipush (pc' := 61) rfl rfl rfl ?_
            refine zq_callv (pc' := 64) rfl rfl rfl rfl rfl rfl (zE_mono H (fun r14 h13 H => ?_))
            rcases r14 with v15 | e16
            · obtain ⟨e0, H⟩ := H
              refine And.intro e0 ?_
              refine zq_iinc (pc' := 67) rfl rfl rfl rfl ?_
              refine zq_goto_c (pc' := 16) rfl rfl ?_
              exact H
            · exact H
        · have H := H.2 c
          refine zq_ipush (pc' := 47) rfl rfl rfl ?_
          refine zq_istore (pc' := 48) rfl rfl rfl ?_
          refine zq_iload (pc' := 49) rfl rfl rfl rfl ?_
          refine zq_ifeq (pc' := 52) rfl rfl rfl rfl (And.intro (fun c => ?_) (fun c => ?_))
          · have H := H.1 c
            refine zq_aload (pc' := 56) rfl rfl rfl rfl ?_
            refine zq_aload (pc' := 57) rfl rfl rfl rfl ?_
            obtain ⟨a17, e0, H⟩ := H
            refine zq_getR (pc' := 60) rfl rfl rfl e0 ?_
            refine zq_ipush (pc' := 61) rfl rfl rfl ?_
            refine zq_callv (pc' := 64) rfl rfl rfl rfl rfl rfl (zE_mono H (fun r19 h18 H => ?_))
            rcases r19 with v20 | e21
            · obtain ⟨e0, H⟩ := H
              refine And.intro e0 ?_
              refine zq_iinc (pc' := 67) rfl rfl rfl rfl ?_
              refine zq_goto_c (pc' := 16) rfl rfl ?_
              exact H
            · exact H
          · have H := H.2 c
            refine zq_iload (pc' := 54) rfl rfl rfl rfl ?_
            refine zq_istore (pc' := 55) rfl rfl rfl ?_
            refine zq_aload (pc' := 56) rfl rfl rfl rfl ?_
            refine zq_aload (pc' := 57) rfl rfl rfl rfl ?_
            obtain ⟨a22, e0, H⟩ := H
            refine zq_getR (pc' := 60) rfl rfl rfl e0 ?_
            refine zq_ipush (pc' := 61) rfl rfl rfl ?_
            refine zq_callv (pc' := 64) rfl rfl rfl rfl rfl rfl (zE_mono H (fun r24 h23 H => ?_))
            rcases r24 with v25 | e26
            · obtain ⟨e0, H⟩ := H
              refine And.intro e0 ?_
              refine zq_iinc (pc' := 67) rfl rfl rfl rfl ?_
              refine zq_goto_c (pc' := 16) rfl rfl ?_
              exact H
            · exact H
      · exact H
theorem zr_X8_unlikeOf_0 {d : Nat} {Q : zR → zH → Prop} {p0 : Nat} {p1 : Int32} {p2 : Int32} {h : zH} (H :
    zW (zE d) zm_X8_unlikeOf Q (5, [(0, .ref p0), (1, .int p1), (2, .int p2), (3, .int 0), (4, .int 0)], [], h)) : zW (zE d) zm_X8_unlikeOf Q (0, [(0, .ref p0), (1, .int p1), (2, .int p2)], [], h) := by
  refine zq_ipush (pc' := 1) rfl rfl rfl ?_
  refine zq_istore (pc' := 2) rfl rfl rfl ?_
  refine zq_ipush (pc' := 3) rfl rfl rfl ?_
  refine zq_istore_c (pc' := 5) rfl rfl ?_
  exact H
theorem zr_X8_unlikeOf_5 {d : Nat} {Q : zR → zH → Prop} {l0 : Nat} {l1 : Int32} {l2 : Int32} {l3 : Int32} {l4 : Int32} {h : zH} (H :
    ∃ a1 : Nat, zgf h l0 8 7 = some (.ref a1) ∧
    ∃ x2, zia h a1 l1 = some x2 ∧
    zbr (x2 ≤ l4)
    (Q (.inl (some (.int l3))) h)
    (∃ a3 : Nat, zgf h l0 8 26 = some (.ref a3) ∧
      ∃ x4, zia h a3 ((16 * l1) + l4) = some x4 ∧
      ∃ a5 : Nat, zgf h l0 8 26 = some (.ref a5) ∧
      ∃ x6, zia h a5 ((16 * l2) + l4) = some x6 ∧
      zE d 1 [.int (x4 - x6)] h (fun r8 h7 => match r8 with
        | .inl v9 => ∃ x11 : Int32, v9 = some (.int x11) ∧ ∃ a12 : Nat, zgf h7 l0 8 27 = some (.ref a12) ∧
          ∃ x13, zia h7 a12 ((16 * l1) + l4) = some x13 ∧
          ∃ a14 : Nat, zgf h7 l0 8 27 = some (.ref a14) ∧
          ∃ x15, zia h7 a14 ((16 * l2) + l4) = some x15 ∧
          zE d 1 [.int (x13 - x15)] h7 (fun r17 h16 => match r17 with
            | .inl v18 => ∃ x20 : Int32, v18 = some (.int x20) ∧ zW (zE d) zm_X8_unlikeOf Q (5, [(0, .ref l0), (1, .int l1), (2, .int l2), (3, .int (l3 + (x11 + x20))), (4, .int (l4 + 1))], [], h16)
            | .inr e19 => Q (.inr e19) h16)
        | .inr e10 => Q (.inr e10) h7))) : zW (zE d) zm_X8_unlikeOf Q (5, [(0, .ref l0), (1, .int l1), (2, .int l2), (3, .int l3), (4, .int l4)], [], h) := by
  refine zq_iload (pc' := 7) rfl rfl rfl rfl ?_
  refine zq_aload (pc' := 8) rfl rfl rfl rfl ?_
  obtain ⟨a1, e0, H⟩ := H
  refine zq_getR (pc' := 11) rfl rfl rfl e0 ?_
  refine zq_iload (pc' := 12) rfl rfl rfl rfl ?_
  obtain ⟨x2, e0, H⟩ := H
  refine zq_iald (pc' := 13) rfl rfl rfl e0 ?_
  refine zq_icge (pc' := 16) rfl rfl rfl rfl (And.intro (fun c => ?_) (fun c => ?_))
  · have H := H.1 c
    refine zq_iload (pc' := 83) rfl rfl rfl rfl ?_
    exact zq_iret rfl trivial H
  · have H := H.2 c
    refine zq_iload (pc' := 17) rfl rfl rfl rfl ?_
    refine zq_aload (pc' := 18) rfl rfl rfl rfl ?_
    obtain ⟨a3, e0, H⟩ := H
    refine zq_getR (pc' := 21) rfl rfl rfl e0 ?_
    refine zq_ipush (pc' := 23) rfl rfl rfl ?_
    refine zq_iload (pc' := 24) rfl rfl rfl rfl ?_
    refine zq_imul (pc' := 25) rfl rfl rfl ?_
    refine zq_iload (pc' := 27) rfl rfl rfl rfl ?_
    refine zq_iadd (pc' := 28) rfl rfl rfl ?_
    obtain ⟨x4, e0, H⟩ := H
    refine zq_iald (pc' := 29) rfl rfl rfl e0 ?_
    refine zq_aload (pc' := 30) rfl rfl rfl rfl ?_
    obtain ⟨a5, e0, H⟩ := H
    refine zq_getR (pc' := 33) rfl rfl rfl e0 ?_
    refine zq_ipush (pc' := 35) rfl rfl rfl ?_
    refine zq_iload (pc' := 36) rfl rfl rfl rfl ?_
    refine zq_imul (pc' := 37) rfl rfl rfl ?_
    refine zq_iload (pc' := 39) rfl rfl rfl rfl ?_
    refine zq_iadd (pc' := 40) rfl rfl rfl ?_
    obtain ⟨x6, e0, H⟩ := H
    refine zq_iald (pc' := 41) rfl rfl rfl e0 ?_
    refine zq_isub (pc' := 42) rfl rfl rfl ?_
    refine zq_calli (pc' := 45) rfl rfl rfl rfl rfl rfl (zE_mono H (fun r8 h7 H => ?_))
    rcases r8 with v9 | e10
    · obtain ⟨x11, e0, H⟩ := H
      refine Exists.intro x11 (And.intro e0 ?_)
      refine zq_aload (pc' := 46) rfl rfl rfl rfl ?_
      obtain ⟨a12, e0, H⟩ := H
      refine zq_getR (pc' := 49) rfl rfl rfl e0 ?_
      refine zq_ipush (pc' := 51) rfl rfl rfl ?_
      refine zq_iload (pc' := 52) rfl rfl rfl rfl ?_
      refine zq_imul (pc' := 53) rfl rfl rfl ?_
      refine zq_iload (pc' := 55) rfl rfl rfl rfl ?_
      refine zq_iadd (pc' := 56) rfl rfl rfl ?_
      obtain ⟨x13, e0, H⟩ := H
      refine zq_iald (pc' := 57) rfl rfl rfl e0 ?_
      refine zq_aload (pc' := 58) rfl rfl rfl rfl ?_
      obtain ⟨a14, e0, H⟩ := H
      refine zq_getR (pc' := 61) rfl rfl rfl e0 ?_
      refine zq_ipush (pc' := 63) rfl rfl rfl ?_
      refine zq_iload (pc' := 64) rfl rfl rfl rfl ?_
      refine zq_imul (pc' := 65) rfl rfl rfl ?_
      refine zq_iload (pc' := 67) rfl rfl rfl rfl ?_
      refine zq_iadd (pc' := 68) rfl rfl rfl ?_
      obtain ⟨x15, e0, H⟩ := H
      refine zq_iald (pc' := 69) rfl rfl rfl e0 ?_
      refine zq_isub (pc' := 70) rfl rfl rfl ?_
      refine zq_calli (pc' := 73) rfl rfl rfl rfl rfl rfl (zE_mono H (fun r17 h16 H => ?_))
      rcases r17 with v18 | e19
      · obtain ⟨x20, e0, H⟩ := H
        refine Exists.intro x20 (And.intro e0 ?_)
        refine zq_iadd (pc' := 74) rfl rfl rfl ?_
        refine zq_iadd (pc' := 75) rfl rfl rfl ?_
        refine zq_istore (pc' := 76) rfl rfl rfl ?_
        refine zq_iinc (pc' := 79) rfl rfl rfl rfl ?_
        refine zq_goto_c (pc' := 5) rfl rfl ?_
        exact H
      · exact H
    · exact H
theorem zr_X8_twins_0 {d : Nat} {Q : zR → zH → Prop} {p0 : Nat} {h : zH} (H :
    zW (zE d) zm_X8_twins Q (4, [(0, .ref p0), (1, .int 0), (2, .int 0)], [], h)) : zW (zE d) zm_X8_twins Q (0, [(0, .ref p0)], [], h) := by
  refine zq_ipush (pc' := 1) rfl rfl rfl ?_
  refine zq_istore (pc' := 2) rfl rfl rfl ?_
  refine zq_ipush (pc' := 3) rfl rfl rfl ?_
  refine zq_istore_c (pc' := 4) rfl rfl ?_
  exact H
theorem zr_X8_twins_4 {d : Nat} {Q : zR → zH → Prop} {l0 : Nat} {l1 : Int32} {l2 : Int32} {h : zH} (H :
    ∃ a1 : Nat, zgf h l0 8 5 = some (.ref a1) ∧
    ∃ x2, zia h a1 0 = some x2 ∧
    zbr (x2 ≤ l2)
    (Q (.inl (some (.int l1))) h)
    (zW (zE d) zm_X8_twins Q (16, [(0, .ref l0), (1, .int l1), (2, .int l2), (3, .int 0)], [], h))) : zW (zE d) zm_X8_twins Q (4, [(0, .ref l0), (1, .int l1), (2, .int l2)], [], h) := by
  refine zq_iload (pc' := 5) rfl rfl rfl rfl ?_
  refine zq_aload (pc' := 6) rfl rfl rfl rfl ?_
  obtain ⟨a1, e0, H⟩ := H
  refine zq_getR (pc' := 9) rfl rfl rfl e0 ?_
  refine zq_ipush (pc' := 10) rfl rfl rfl ?_
  obtain ⟨x2, e0, H⟩ := H
  refine zq_iald (pc' := 11) rfl rfl rfl e0 ?_
  refine zq_icge (pc' := 14) rfl rfl rfl rfl (And.intro (fun c => ?_) (fun c => ?_))
  · have H := H.1 c
    refine zq_iload (pc' := 66) rfl rfl rfl rfl ?_
    exact zq_iret rfl trivial H
  · have H := H.2 c
    refine zq_ipush (pc' := 15) rfl rfl rfl ?_
    refine zq_istore_c (pc' := 16) rfl rfl ?_
    exact H
theorem zr_X8_twins_16 {d : Nat} {Q : zR → zH → Prop} {l0 : Nat} {l1 : Int32} {l2 : Int32} {l3 : Int32} {h : zH} (H :
    zbr (l2 ≤ l3)
    (zW (zE d) zm_X8_twins Q (4, [(0, .ref l0), (1, .int l1), (2, .int (l2 + 1))], [], h))
    (∃ a1 : Nat, zgf h l0 8 7 = some (.ref a1) ∧
      ∃ x2, zia h a1 l2 = some x2 ∧
      ∃ a3 : Nat, zgf h l0 8 7 = some (.ref a3) ∧
      ∃ x4, zia h a3 l3 = some x4 ∧
      zbr (x2 = x4)
      (zE d 272 [.ref l0, .int l2, .int l3] h (fun r6 h5 => match r6 with
          | .inl v7 => ∃ x9 : Int32, v7 = some (.int x9) ∧ zbr (x9 = 0)
            (zW (zE d) zm_X8_twins Q (16, [(0, .ref l0), (1, .int (l1 + 1)), (2, .int l2), (3, .int (l3 + 1))], [], h5))
            (zW (zE d) zm_X8_twins Q (16, [(0, .ref l0), (1, .int (l1 + 0)), (2, .int l2), (3, .int (l3 + 1))], [], h5))
          | .inr e8 => Q (.inr e8) h5))
      (zW (zE d) zm_X8_twins Q (16, [(0, .ref l0), (1, .int (l1 + 0)), (2, .int l2), (3, .int (l3 + 1))], [], h)))) : zW (zE d) zm_X8_twins Q (16, [(0, .ref l0), (1, .int l1), (2, .int l2), (3, .int l3)], [], h) := by
  refine zq_iload (pc' := 17) rfl rfl rfl rfl ?_
  refine zq_iload (pc' := 18) rfl rfl rfl rfl ?_
  refine zq_icge (pc' := 21) rfl rfl rfl rfl (And.intro (fun c => ?_) (fun c => ?_))
  · have H := H.1 c
    refine zq_iinc (pc' := 62) rfl rfl rfl rfl ?_
    refine zq_goto_c (pc' := 4) rfl rfl ?_
    exact H
  · have H := H.2 c
    refine zq_iload (pc' := 22) rfl rfl rfl rfl ?_
    refine zq_aload (pc' := 23) rfl rfl rfl rfl ?_
    obtain ⟨a1, e0, H⟩ := H
    refine zq_getR (pc' := 26) rfl rfl rfl e0 ?_
    refine zq_iload (pc' := 27) rfl rfl rfl rfl ?_
    obtain ⟨x2, e0, H⟩ := H
    refine zq_iald (pc' := 28) rfl rfl rfl e0 ?_
    refine zq_aload (pc' := 29) rfl rfl rfl rfl ?_
    obtain ⟨a3, e0, H⟩ := H
    refine zq_getR (pc' := 32) rfl rfl rfl e0 ?_
    refine zq_iload (pc' := 33) rfl rfl rfl rfl ?_
    obtain ⟨x4, e0, H⟩ := H
    refine zq_iald (pc' := 34) rfl rfl rfl e0 ?_
    refine zq_icne (pc' := 37) rfl rfl rfl rfl (And.intro (fun c => ?_) (fun c => ?_))
    · have H := H.1 c
      refine zq_aload (pc' := 38) rfl rfl rfl rfl ?_
      refine zq_iload (pc' := 39) rfl rfl rfl rfl ?_
      refine zq_iload (pc' := 40) rfl rfl rfl rfl ?_
      refine zq_calli (pc' := 43) rfl rfl rfl rfl rfl rfl (zE_mono H (fun r6 h5 H => ?_))
      rcases r6 with v7 | e8
      · obtain ⟨x9, e0, H⟩ := H
        refine Exists.intro x9 (And.intro e0 ?_)
        refine zq_ifne (pc' := 46) rfl rfl rfl rfl (And.intro (fun c => ?_) (fun c => ?_))
        · have H := H.1 c
          refine zq_ipush (pc' := 47) rfl rfl rfl ?_
          refine zq_goto (pc' := 51) rfl rfl rfl ?_
          refine zq_iadd (pc' := 52) rfl rfl rfl ?_
          refine zq_istore (pc' := 53) rfl rfl rfl ?_
          refine zq_iinc (pc' := 56) rfl rfl rfl rfl ?_
          refine zq_goto_c (pc' := 16) rfl rfl ?_
          exact H
        · have H := H.2 c
          refine zq_ipush (pc' := 51) rfl rfl rfl ?_
          refine zq_iadd (pc' := 52) rfl rfl rfl ?_
          refine zq_istore (pc' := 53) rfl rfl rfl ?_
          refine zq_iinc (pc' := 56) rfl rfl rfl rfl ?_
          refine zq_goto_c (pc' := 16) rfl rfl ?_
          exact H
      · exact H
    · have H := H.2 c
      refine zq_ipush (pc' := 51) rfl rfl rfl ?_
      refine zq_iadd (pc' := 52) rfl rfl rfl ?_
      refine zq_istore (pc' := 53) rfl rfl rfl ?_
      refine zq_iinc (pc' := 56) rfl rfl rfl rfl ?_
      refine zq_goto_c (pc' := 16) rfl rfl ?_
      exact H
theorem zr_X8_count_0 {d : Nat} {Q : zR → zH → Prop} {p0 : Nat} {p1 : Int32} {h : zH} (H :
    ∃ h1, zpf h p0 8 4 (.int 0) = some h1 ∧
    zbr (p1 = nI 0)
    (∃ a2 : Nat, zgf h1 p0 8 5 = some (.ref a2) ∧
      ∃ x3, zia h1 a2 0 = some x3 ∧
      Q (.inl (some (.int x3))) h1)
    (zbr (p1 = nI 1)
    (∃ x4 : Int32, zgf h1 p0 8 31 = some (.int x4) ∧
      Q (.inl (some (.int x4))) h1)
    (zbr (p1 = nI 2)
    (∃ x5 : Int32, zgf h1 p0 8 31 = some (.int x5) ∧
      zE d 260 [.ref p0, .int x5] h1 (fun r7 h6 => match r7 with
        | .inl v8 => ∃ x10 : Int32, v8 = some (.int x10) ∧ Q (.inl (some (.int x10))) h6
        | .inr e9 => Q (.inr e9) h6))
    (zbr (p1 = nI 3)
    (zE d 257 [.ref p0] h1 (fun r12 h11 => match r12 with
        | .inl v13 => ∃ x15 : Int32, v13 = some (.int x15) ∧ Q (.inl (some (.int x15))) h11
        | .inr e14 => Q (.inr e14) h11))
    (zbr (p1 = nI 4)
    (zE d 256 [.ref p0] h1 (fun r17 h16 => match r17 with
        | .inl v18 => ∃ x20 : Int32, v18 = some (.int x20) ∧ Q (.inl (some (.int x20))) h16
        | .inr e19 => Q (.inr e19) h16))
    (zbr (p1 = nI 5)
    (zE d 273 [.ref p0] h1 (fun r22 h21 => match r22 with
        | .inl v23 => ∃ x25 : Int32, v23 = some (.int x25) ∧ Q (.inl (some (.int x25))) h21
        | .inr e24 => Q (.inr e24) h21))
    (zbr (p1 = nI 6)
    (∃ x26 : Int32, zgf h1 p0 8 32 = some (.int x26) ∧
      Q (.inl (some (.int x26))) h1)
    (zbr (p1 = nI 7)
    (∃ x27 : Int32, zgf h1 p0 8 33 = some (.int x27) ∧
      Q (.inl (some (.int x27))) h1)
    (zbr (p1 = nI 8)
    (∃ x28 : Int32, zgf h1 p0 8 15 = some (.int x28) ∧
      Q (.inl (some (.int x28))) h1)
    (zbr (p1 = nI 9)
    (∃ a29 : Nat, zgf h1 p0 8 13 = some (.ref a29) ∧
      ∃ x30, zia h1 a29 (p1 - 9) = some x30 ∧
      Q (.inl (some (.int x30))) h1)
    (zbr (p1 = nI 10)
    (∃ a31 : Nat, zgf h1 p0 8 13 = some (.ref a31) ∧
      ∃ x32, zia h1 a31 (p1 - 9) = some x32 ∧
      Q (.inl (some (.int x32))) h1)
    (zbr (p1 = nI 11)
    (∃ a33 : Nat, zgf h1 p0 8 13 = some (.ref a33) ∧
      ∃ x34, zia h1 a33 (p1 - 9) = some x34 ∧
      Q (.inl (some (.int x34))) h1)
    (zE d 215 [.ref p0, .int 1] h1 (fun r36 h35 => match r36 with
        | .inl v37 => ∃ x39 : Int32, v37 = some (.int x39) ∧ Q (.inl (some (.int x39))) h35
        | .inr e38 => Q (.inr e38) h35)))))))))))))) : zW (zE d) zm_X8_count Q (0, [(0, .ref p0), (1, .int p1)], [], h) := by
  refine zq_aload (pc' := 1) rfl rfl rfl rfl ?_
  refine zq_ipush (pc' := 2) rfl rfl rfl ?_
  obtain ⟨h1, e0, H⟩ := H
  refine zq_put (pc' := 5) rfl rfl rfl trivial e0 ?_
  refine zq_iload (pc' := 6) rfl rfl rfl rfl ?_
  refine zq_switch rfl ?_
  refine And.intro (fun c => ?_) (fun c => ?_)
  · have H := H.1 c
    show zW (zE d) zm_X8_count Q (68, [(0, .ref p0), (1, .int p1)], [], h1)
    refine zq_aload (pc' := 69) rfl rfl rfl rfl ?_
    obtain ⟨a2, e0, H⟩ := H
    refine zq_getR (pc' := 72) rfl rfl rfl e0 ?_
    refine zq_ipush (pc' := 73) rfl rfl rfl ?_
    obtain ⟨x3, e0, H⟩ := H
    refine zq_iald (pc' := 74) rfl rfl rfl e0 ?_
    exact zq_iret rfl trivial H
  · have H := H.2 c
    refine And.intro (fun c => ?_) (fun c => ?_)
    · have H := H.1 c
      show zW (zE d) zm_X8_count Q (75, [(0, .ref p0), (1, .int p1)], [], h1)
      refine zq_aload (pc' := 76) rfl rfl rfl rfl ?_
      obtain ⟨x4, e0, H⟩ := H
      refine zq_getI (pc' := 79) rfl rfl rfl e0 ?_
      exact zq_iret rfl trivial H
    · have H := H.2 c
      refine And.intro (fun c => ?_) (fun c => ?_)
      · have H := H.1 c
        show zW (zE d) zm_X8_count Q (80, [(0, .ref p0), (1, .int p1)], [], h1)
        refine zq_aload (pc' := 81) rfl rfl rfl rfl ?_
        refine zq_aload (pc' := 82) rfl rfl rfl rfl ?_
        obtain ⟨x5, e0, H⟩ := H
        refine zq_getI (pc' := 85) rfl rfl rfl e0 ?_
        refine zq_calli (pc' := 88) rfl rfl rfl rfl rfl rfl (zE_mono H (fun r7 h6 H => ?_))
        rcases r7 with v8 | e9
        · obtain ⟨x10, e0, H⟩ := H
          refine Exists.intro x10 (And.intro e0 ?_)
          exact zq_iret rfl trivial H
        · exact H
      · have H := H.2 c
        refine And.intro (fun c => ?_) (fun c => ?_)
        · have H := H.1 c
          show zW (zE d) zm_X8_count Q (89, [(0, .ref p0), (1, .int p1)], [], h1)
          refine zq_aload (pc' := 90) rfl rfl rfl rfl ?_
          refine zq_calli (pc' := 93) rfl rfl rfl rfl rfl rfl (zE_mono H (fun r12 h11 H => ?_))
          rcases r12 with v13 | e14
          · obtain ⟨x15, e0, H⟩ := H
            refine Exists.intro x15 (And.intro e0 ?_)
            exact zq_iret rfl trivial H
          · exact H
        · have H := H.2 c
          refine And.intro (fun c => ?_) (fun c => ?_)
          · have H := H.1 c
            show zW (zE d) zm_X8_count Q (94, [(0, .ref p0), (1, .int p1)], [], h1)
            refine zq_aload (pc' := 95) rfl rfl rfl rfl ?_
            refine zq_calli (pc' := 98) rfl rfl rfl rfl rfl rfl (zE_mono H (fun r17 h16 H => ?_))
            rcases r17 with v18 | e19
            · obtain ⟨x20, e0, H⟩ := H
              refine Exists.intro x20 (And.intro e0 ?_)
              exact zq_iret rfl trivial H
            · exact H
          · have H := H.2 c
            refine And.intro (fun c => ?_) (fun c => ?_)
            · have H := H.1 c
              show zW (zE d) zm_X8_count Q (99, [(0, .ref p0), (1, .int p1)], [], h1)
              refine zq_aload (pc' := 100) rfl rfl rfl rfl ?_
              refine zq_calli (pc' := 103) rfl rfl rfl rfl rfl rfl (zE_mono H (fun r22 h21 H => ?_))
              rcases r22 with v23 | e24
              · obtain ⟨x25, e0, H⟩ := H
                refine Exists.intro x25 (And.intro e0 ?_)
                exact zq_iret rfl trivial H
              · exact H
            · have H := H.2 c
              refine And.intro (fun c => ?_) (fun c => ?_)
              · have H := H.1 c
                show zW (zE d) zm_X8_count Q (104, [(0, .ref p0), (1, .int p1)], [], h1)
                refine zq_aload (pc' := 105) rfl rfl rfl rfl ?_
                obtain ⟨x26, e0, H⟩ := H
                refine zq_getI (pc' := 108) rfl rfl rfl e0 ?_
                exact zq_iret rfl trivial H
              · have H := H.2 c
                refine And.intro (fun c => ?_) (fun c => ?_)
                · have H := H.1 c
                  show zW (zE d) zm_X8_count Q (109, [(0, .ref p0), (1, .int p1)], [], h1)
                  refine zq_aload (pc' := 110) rfl rfl rfl rfl ?_
                  obtain ⟨x27, e0, H⟩ := H
                  refine zq_getI (pc' := 113) rfl rfl rfl e0 ?_
                  exact zq_iret rfl trivial H
                · have H := H.2 c
                  refine And.intro (fun c => ?_) (fun c => ?_)
                  · have H := H.1 c
                    show zW (zE d) zm_X8_count Q (114, [(0, .ref p0), (1, .int p1)], [], h1)
                    refine zq_aload (pc' := 115) rfl rfl rfl rfl ?_
                    obtain ⟨x28, e0, H⟩ := H
                    refine zq_getI (pc' := 118) rfl rfl rfl e0 ?_
                    exact zq_iret rfl trivial H
                  · have H := H.2 c
                    refine And.intro (fun c => ?_) (fun c => ?_)
                    · have H := H.1 c
                      show zW (zE d) zm_X8_count Q (119, [(0, .ref p0), (1, .int p1)], [], h1)
                      refine zq_aload (pc' := 120) rfl rfl rfl rfl ?_
                      obtain ⟨a29, e0, H⟩ := H
                      refine zq_getR (pc' := 123) rfl rfl rfl e0 ?_
                      refine zq_iload (pc' := 124) rfl rfl rfl rfl ?_
                      refine zq_ipush (pc' := 126) rfl rfl rfl ?_
                      refine zq_isub (pc' := 127) rfl rfl rfl ?_
                      obtain ⟨x30, e0, H⟩ := H
                      refine zq_iald (pc' := 128) rfl rfl rfl e0 ?_
                      exact zq_iret rfl trivial H
                    · have H := H.2 c
                      refine And.intro (fun c => ?_) (fun c => ?_)
                      · have H := H.1 c
                        show zW (zE d) zm_X8_count Q (119, [(0, .ref p0), (1, .int p1)], [], h1)
                        refine zq_aload (pc' := 120) rfl rfl rfl rfl ?_
                        obtain ⟨a31, e0, H⟩ := H
                        refine zq_getR (pc' := 123) rfl rfl rfl e0 ?_
                        refine zq_iload (pc' := 124) rfl rfl rfl rfl ?_
                        refine zq_ipush (pc' := 126) rfl rfl rfl ?_
                        refine zq_isub (pc' := 127) rfl rfl rfl ?_
                        obtain ⟨x32, e0, H⟩ := H
                        refine zq_iald (pc' := 128) rfl rfl rfl e0 ?_
                        exact zq_iret rfl trivial H
                      · have H := H.2 c
                        refine And.intro (fun c => ?_) (fun c => ?_)
                        · have H := H.1 c
                          show zW (zE d) zm_X8_count Q (119, [(0, .ref p0), (1, .int p1)], [], h1)
                          refine zq_aload (pc' := 120) rfl rfl rfl rfl ?_
                          obtain ⟨a33, e0, H⟩ := H
                          refine zq_getR (pc' := 123) rfl rfl rfl e0 ?_
                          refine zq_iload (pc' := 124) rfl rfl rfl rfl ?_
                          refine zq_ipush (pc' := 126) rfl rfl rfl ?_
                          refine zq_isub (pc' := 127) rfl rfl rfl ?_
                          obtain ⟨x34, e0, H⟩ := H
                          refine zq_iald (pc' := 128) rfl rfl rfl e0 ?_
                          exact zq_iret rfl trivial H
                        · have H := H.2 c
                          show zW (zE d) zm_X8_count Q (129, [(0, .ref p0), (1, .int p1)], [], h1)
                          refine zq_aload (pc' := 130) rfl rfl rfl rfl ?_
                          refine zq_ipush (pc' := 131) rfl rfl rfl ?_
                          refine zq_calli (pc' := 134) rfl rfl rfl rfl rfl rfl (zE_mono H (fun r36 h35 H => ?_))
                          rcases r36 with v37 | e38
                          · obtain ⟨x39, e0, H⟩ := H
                            refine Exists.intro x39 (And.intro e0 ?_)
                            exact zq_iret rfl trivial H
                          · exact H
theorem zr_X8_zip_0 {d : Nat} {Q : zR → zH → Prop} {p0 : Nat} {p1 : Int32} {p2 : Int32} {h : zH} (H :
    ∃ h1, zpf h p0 8 4 (.int 0) = some h1 ∧
    zE d 220 [.ref p0, .int p1] h1 (fun r3 h2 => match r3 with
      | .inl v4 => ∃ x6 : Int32, v4 = some (.int x6) ∧ zbr (x6 = 0)
        (zE d 215 [.ref p0, .int 1] h2 (fun r8 h7 => match r8 with
            | .inl v9 => ∃ x11 : Int32, v9 = some (.int x11) ∧ Q (.inl (some (.int x11))) h7
            | .inr e10 => Q (.inr e10) h7))
        (zbr (p2 = nI 0)
          (∃ a12 : Nat, zgf h2 p0 8 7 = some (.ref a12) ∧
            ∃ x13, zia h2 a12 p1 = some x13 ∧
            Q (.inl (some (.int x13))) h2)
          (zbr (p2 = nI 1)
          (∃ a14 : Nat, zgf h2 p0 8 28 = some (.ref a14) ∧
            ∃ x15, zia h2 a14 p1 = some x15 ∧
            Q (.inl (some (.int x15))) h2)
          (zbr (p2 = nI 2)
          (∃ a16 : Nat, zgf h2 p0 8 29 = some (.ref a16) ∧
            ∃ x17, zia h2 a16 p1 = some x17 ∧
            Q (.inl (some (.int x17))) h2)
          (zbr (p2 = nI 3)
          (zE d 252 [.ref p0, .int p1] h2 (fun r19 h18 => match r19 with
              | .inl v20 => ∃ x22 : Int32, v20 = some (.int x22) ∧ Q (.inl (some (.int x22))) h18
              | .inr e21 => Q (.inr e21) h18))
          (zbr (p2 = nI 4)
          (∃ a23 : Nat, zgf h2 p0 8 6 = some (.ref a23) ∧
            ∃ x24, zia h2 a23 p1 = some x24 ∧
            Q (.inl (some (.int x24))) h2)
          (zbr (p2 = nI 5)
          (zE d 268 [.ref p0, .int p1] h2 (fun r26 h25 => match r26 with
              | .inl v27 => ∃ x29 : Int32, v27 = some (.int x29) ∧ Q (.inl (some (.int x29))) h25
              | .inr e28 => Q (.inr e28) h25))
          (zbr (p2 = nI 6)
          (zbr (p2 = 7)
            (zE d 269 [.ref p0, .int p1, .int 1] h2 (fun r31 h30 => match r31 with
                | .inl v32 => ∃ x34 : Int32, v32 = some (.int x34) ∧ Q (.inl (some (.int x34))) h30
                | .inr e33 => Q (.inr e33) h30))
            (zE d 269 [.ref p0, .int p1, .int 0] h2 (fun r36 h35 => match r36 with
                | .inl v37 => ∃ x39 : Int32, v37 = some (.int x39) ∧ Q (.inl (some (.int x39))) h35
                | .inr e38 => Q (.inr e38) h35)))
          (zbr (p2 = nI 7)
          (zbr (p2 = 7)
            (zE d 269 [.ref p0, .int p1, .int 1] h2 (fun r41 h40 => match r41 with
                | .inl v42 => ∃ x44 : Int32, v42 = some (.int x44) ∧ Q (.inl (some (.int x44))) h40
                | .inr e43 => Q (.inr e43) h40))
            (zE d 269 [.ref p0, .int p1, .int 0] h2 (fun r46 h45 => match r46 with
                | .inl v47 => ∃ x49 : Int32, v47 = some (.int x49) ∧ Q (.inl (some (.int x49))) h45
                | .inr e48 => Q (.inr e48) h45)))
          (zbr (p2 = nI 8)
          (zE d 270 [.ref p0, .int p1] h2 (fun r51 h50 => match r51 with
              | .inl v52 => ∃ x54 : Int32, v52 = some (.int x54) ∧ Q (.inl (some (.int x54))) h50
              | .inr e53 => Q (.inr e53) h50))
          (zbr (p2 = nI 9)
          (zE d 271 [.ref p0, .int p1] h2 (fun r56 h55 => match r56 with
              | .inl v57 => ∃ x59 : Int32, v57 = some (.int x59) ∧ Q (.inl (some (.int x59))) h55
              | .inr e58 => Q (.inr e58) h55))
          (zE d 215 [.ref p0, .int 1] h2 (fun r61 h60 => match r61 with
              | .inl v62 => ∃ x64 : Int32, v62 = some (.int x64) ∧ Q (.inl (some (.int x64))) h60
              | .inr e63 => Q (.inr e63) h60))))))))))))
      | .inr e5 => Q (.inr e5) h2)) : zW (zE d) zm_X8_zip Q (0, [(0, .ref p0), (1, .int p1), (2, .int p2)], [], h) := by
  refine zq_aload (pc' := 1) rfl rfl rfl rfl ?_
  refine zq_ipush (pc' := 2) rfl rfl rfl ?_
  obtain ⟨h1, e0, H⟩ := H
  refine zq_put (pc' := 5) rfl rfl rfl trivial e0 ?_
  refine zq_aload (pc' := 6) rfl rfl rfl rfl ?_
  refine zq_iload (pc' := 7) rfl rfl rfl rfl ?_
  refine zq_calli (pc' := 10) rfl rfl rfl rfl rfl rfl (zE_mono H (fun r3 h2 H => ?_))
  rcases r3 with v4 | e5
  · obtain ⟨x6, e0, H⟩ := H
    refine Exists.intro x6 (And.intro e0 ?_)
    refine zq_ifne (pc' := 13) rfl rfl rfl rfl (And.intro (fun c => ?_) (fun c => ?_))
    · have H := H.1 c
      refine zq_aload (pc' := 14) rfl rfl rfl rfl ?_
      refine zq_ipush (pc' := 15) rfl rfl rfl ?_
      refine zq_calli (pc' := 18) rfl rfl rfl rfl rfl rfl (zE_mono H (fun r8 h7 H => ?_))
      rcases r8 with v9 | e10
      · obtain ⟨x11, e0, H⟩ := H
        refine Exists.intro x11 (And.intro e0 ?_)
        exact zq_iret rfl trivial H
      · exact H
    · have H := H.2 c
      refine zq_iload (pc' := 20) rfl rfl rfl rfl ?_
      refine zq_switch rfl ?_
      refine And.intro (fun c => ?_) (fun c => ?_)
      · have H := H.1 c
        show zW (zE d) zm_X8_zip Q (76, [(0, .ref p0), (1, .int p1), (2, .int p2)], [], h2)
        refine zq_aload (pc' := 77) rfl rfl rfl rfl ?_
        obtain ⟨a12, e0, H⟩ := H
        refine zq_getR (pc' := 80) rfl rfl rfl e0 ?_
        refine zq_iload (pc' := 81) rfl rfl rfl rfl ?_
        obtain ⟨x13, e0, H⟩ := H
        refine zq_iald (pc' := 82) rfl rfl rfl e0 ?_
        exact zq_iret rfl trivial H
      · have H := H.2 c
        refine And.intro (fun c => ?_) (fun c => ?_)
        · have H := H.1 c
          show zW (zE d) zm_X8_zip Q (83, [(0, .ref p0), (1, .int p1), (2, .int p2)], [], h2)
          refine zq_aload (pc' := 84) rfl rfl rfl rfl ?_
          obtain ⟨a14, e0, H⟩ := H
          refine zq_getR (pc' := 87) rfl rfl rfl e0 ?_
          refine zq_iload (pc' := 88) rfl rfl rfl rfl ?_
          obtain ⟨x15, e0, H⟩ := H
          refine zq_iald (pc' := 89) rfl rfl rfl e0 ?_
          exact zq_iret rfl trivial H
        · have H := H.2 c
          refine And.intro (fun c => ?_) (fun c => ?_)
          · have H := H.1 c
            show zW (zE d) zm_X8_zip Q (90, [(0, .ref p0), (1, .int p1), (2, .int p2)], [], h2)
            refine zq_aload (pc' := 91) rfl rfl rfl rfl ?_
            obtain ⟨a16, e0, H⟩ := H
            refine zq_getR (pc' := 94) rfl rfl rfl e0 ?_
            refine zq_iload (pc' := 95) rfl rfl rfl rfl ?_
            obtain ⟨x17, e0, H⟩ := H
            refine zq_iald (pc' := 96) rfl rfl rfl e0 ?_
            exact zq_iret rfl trivial H
          · have H := H.2 c
            refine And.intro (fun c => ?_) (fun c => ?_)
            · have H := H.1 c
              show zW (zE d) zm_X8_zip Q (97, [(0, .ref p0), (1, .int p1), (2, .int p2)], [], h2)
              refine zq_aload (pc' := 98) rfl rfl rfl rfl ?_
              refine zq_iload (pc' := 99) rfl rfl rfl rfl ?_
              refine zq_calli (pc' := 102) rfl rfl rfl rfl rfl rfl (zE_mono H (fun r19 h18 H => ?_))
              rcases r19 with v20 | e21
              · obtain ⟨x22, e0, H⟩ := H
                refine Exists.intro x22 (And.intro e0 ?_)
                exact zq_iret rfl trivial H
              · exact H
            · have H := H.2 c
              refine And.intro (fun c => ?_) (fun c => ?_)
              · have H := H.1 c
                show zW (zE d) zm_X8_zip Q (103, [(0, .ref p0), (1, .int p1), (2, .int p2)], [], h2)
                refine zq_aload (pc' := 104) rfl rfl rfl rfl ?_
                obtain ⟨a23, e0, H⟩ := H
                refine zq_getR (pc' := 107) rfl rfl rfl e0 ?_
                refine zq_iload (pc' := 108) rfl rfl rfl rfl ?_
                obtain ⟨x24, e0, H⟩ := H
                refine zq_iald (pc' := 109) rfl rfl rfl e0 ?_
                exact zq_iret rfl trivial H
              · have H := H.2 c
                refine And.intro (fun c => ?_) (fun c => ?_)
                · have H := H.1 c
                  show zW (zE d) zm_X8_zip Q (110, [(0, .ref p0), (1, .int p1), (2, .int p2)], [], h2)
                  refine zq_aload (pc' := 111) rfl rfl rfl rfl ?_
                  refine zq_iload (pc' := 112) rfl rfl rfl rfl ?_
                  refine zq_calli (pc' := 115) rfl rfl rfl rfl rfl rfl (zE_mono H (fun r26 h25 H => ?_))
                  rcases r26 with v27 | e28
                  · obtain ⟨x29, e0, H⟩ := H
                    refine Exists.intro x29 (And.intro e0 ?_)
                    exact zq_iret rfl trivial H
                  · exact H
                · have H := H.2 c
                  refine And.intro (fun c => ?_) (fun c => ?_)
                  · have H := H.1 c
                    show zW (zE d) zm_X8_zip Q (116, [(0, .ref p0), (1, .int p1), (2, .int p2)], [], h2)
                    refine zq_aload (pc' := 117) rfl rfl rfl rfl ?_
                    refine zq_iload (pc' := 118) rfl rfl rfl rfl ?_
                    refine zq_iload (pc' := 119) rfl rfl rfl rfl ?_
                    refine zq_ipush (pc' := 121) rfl rfl rfl ?_
                    refine zq_icne (pc' := 124) rfl rfl rfl rfl (And.intro (fun c => ?_) (fun c => ?_))
                    · have H := H.1 c
                      refine zq_ipush (pc' := 125) rfl rfl rfl ?_
                      refine zq_goto (pc' := 129) rfl rfl rfl ?_
                      refine zq_calli (pc' := 132) rfl rfl rfl rfl rfl rfl (zE_mono H (fun r31 h30 H => ?_))
                      rcases r31 with v32 | e33
                      · obtain ⟨x34, e0, H⟩ := H
                        refine Exists.intro x34 (And.intro e0 ?_)
                        exact zq_iret rfl trivial H
                      · exact H
                    · have H := H.2 c
                      refine zq_ipush (pc' := 129) rfl rfl rfl ?_
                      refine zq_calli (pc' := 132) rfl rfl rfl rfl rfl rfl (zE_mono H (fun r36 h35 H => ?_))
                      rcases r36 with v37 | e38
                      · obtain ⟨x39, e0, H⟩ := H
                        refine Exists.intro x39 (And.intro e0 ?_)
                        exact zq_iret rfl trivial H
                      · exact H
                  · have H := H.2 c
                    refine And.intro (fun c => ?_) (fun c => ?_)
                    · have H := H.1 c
                      show zW (zE d) zm_X8_zip Q (116, [(0, .ref p0), (1, .int p1), (2, .int p2)], [], h2)
                      refine zq_aload (pc' := 117) rfl rfl rfl rfl ?_
                      refine zq_iload (pc' := 118) rfl rfl rfl rfl ?_
                      refine zq_iload (pc' := 119) rfl rfl rfl rfl ?_
                      refine zq_ipush (pc' := 121) rfl rfl rfl ?_
                      refine zq_icne (pc' := 124) rfl rfl rfl rfl (And.intro (fun c => ?_) (fun c => ?_))
                      · have H := H.1 c
                        refine zq_ipush (pc' := 125) rfl rfl rfl ?_
                        refine zq_goto (pc' := 129) rfl rfl rfl ?_
                        refine zq_calli (pc' := 132) rfl rfl rfl rfl rfl rfl (zE_mono H (fun r41 h40 H => ?_))
                        rcases r41 with v42 | e43
                        · obtain ⟨x44, e0, H⟩ := H
                          refine Exists.intro x44 (And.intro e0 ?_)
                          exact zq_iret rfl trivial H
                        · exact H
                      · have H := H.2 c
                        refine zq_ipush (pc' := 129) rfl rfl rfl ?_
                        refine zq_calli (pc' := 132) rfl rfl rfl rfl rfl rfl (zE_mono H (fun r46 h45 H => ?_))
                        rcases r46 with v47 | e48
                        · obtain ⟨x49, e0, H⟩ := H
                          refine Exists.intro x49 (And.intro e0 ?_)
                          exact zq_iret rfl trivial H
                        · exact H
                    · have H := H.2 c
                      refine And.intro (fun c => ?_) (fun c => ?_)
                      · have H := H.1 c
                        show zW (zE d) zm_X8_zip Q (133, [(0, .ref p0), (1, .int p1), (2, .int p2)], [], h2)
                        refine zq_aload (pc' := 134) rfl rfl rfl rfl ?_
                        refine zq_iload (pc' := 135) rfl rfl rfl rfl ?_
                        refine zq_calli (pc' := 138) rfl rfl rfl rfl rfl rfl (zE_mono H (fun r51 h50 H => ?_))
                        rcases r51 with v52 | e53
                        · obtain ⟨x54, e0, H⟩ := H
                          refine Exists.intro x54 (And.intro e0 ?_)
                          exact zq_iret rfl trivial H
                        · exact H
                      · have H := H.2 c
                        refine And.intro (fun c => ?_) (fun c => ?_)
                        · have H := H.1 c
                          show zW (zE d) zm_X8_zip Q (139, [(0, .ref p0), (1, .int p1), (2, .int p2)], [], h2)
                          refine zq_aload (pc' := 140) rfl rfl rfl rfl ?_
                          refine zq_iload (pc' := 141) rfl rfl rfl rfl ?_
                          refine zq_calli (pc' := 144) rfl rfl rfl rfl rfl rfl (zE_mono H (fun r56 h55 H => ?_))
                          rcases r56 with v57 | e58
                          · obtain ⟨x59, e0, H⟩ := H
                            refine Exists.intro x59 (And.intro e0 ?_)
                            exact zq_iret rfl trivial H
                          · exact H
                        · have H := H.2 c
                          show zW (zE d) zm_X8_zip Q (145, [(0, .ref p0), (1, .int p1), (2, .int p2)], [], h2)
                          refine zq_aload (pc' := 146) rfl rfl rfl rfl ?_
                          refine zq_ipush (pc' := 147) rfl rfl rfl ?_
                          refine zq_calli (pc' := 150) rfl rfl rfl rfl rfl rfl (zE_mono H (fun r61 h60 H => ?_))
                          rcases r61 with v62 | e63
                          · obtain ⟨x64, e0, H⟩ := H
                            refine Exists.intro x64 (And.intro e0 ?_)
                            exact zq_iret rfl trivial H
                          · exact H
  · exact H
theorem zr_X8_place_0 {d : Nat} {Q : zR → zH → Prop} {p0 : Nat} {p1 : Int32} {p2 : Int32} {p3 : Int32} {h : zH} (H :
    ∃ h1, zpf h p0 8 4 (.int 0) = some h1 ∧
    zE d 221 [.ref p0, .int p1, .int p2] h1 (fun r3 h2 => match r3 with
      | .inl v4 => ∃ x6 : Int32, v4 = some (.int x6) ∧ zbr (x6 = 0)
        (zE d 215 [.ref p0, .int 1] h2 (fun r8 h7 => match r8 with
            | .inl v9 => ∃ x11 : Int32, v9 = some (.int x11) ∧ Q (.inl (some (.int x11))) h7
            | .inr e10 => Q (.inr e10) h7))
        (zbr (p3 = nI 0)
          (∃ a12 : Nat, zgf h2 p0 8 26 = some (.ref a12) ∧
            ∃ x13, zia h2 a12 ((16 * p1) + p2) = some x13 ∧
            Q (.inl (some (.int x13))) h2)
          (zbr (p3 = nI 1)
          (∃ a14 : Nat, zgf h2 p0 8 27 = some (.ref a14) ∧
            ∃ x15, zia h2 a14 ((16 * p1) + p2) = some x15 ∧
            Q (.inl (some (.int x15))) h2)
          (zbr (p3 = nI 2)
          (zE d 251 [.ref p0, .int p1, .int p2] h2 (fun r17 h16 => match r17 with
              | .inl v18 => ∃ x20 : Int32, v18 = some (.int x20) ∧ Q (.inl (some (.int x20))) h16
              | .inr e19 => Q (.inr e19) h16))
          (zbr (p3 = nI 3)
          (∃ a21 : Nat, zgf h2 p0 8 29 = some (.ref a21) ∧
            ∃ x22, zia h2 a21 p1 = some x22 ∧
            zE d 218 [.int x22, .int p2] h2 (fun r24 h23 => match r24 with
              | .inl v25 => ∃ x27 : Int32, v25 = some (.int x27) ∧ zbr (x27 = 0)
                (Q (.inl (some (.int 0))) h23)
                (Q (.inl (some (.int 1))) h23)
              | .inr e26 => Q (.inr e26) h23))
          (zbr (p3 = nI 4)
          (zE d 254 [.ref p0, .int p1, .int p2] h2 (fun r29 h28 => match r29 with
              | .inl v30 => ∃ x32 : Int32, v30 = some (.int x32) ∧ Q (.inl (some (.int x32))) h28
              | .inr e31 => Q (.inr e31) h28))
          (zE d 215 [.ref p0, .int 1] h2 (fun r34 h33 => match r34 with
              | .inl v35 => ∃ x37 : Int32, v35 = some (.int x37) ∧ Q (.inl (some (.int x37))) h33
              | .inr e36 => Q (.inr e36) h33)))))))
      | .inr e5 => Q (.inr e5) h2)) : zW (zE d) zm_X8_place Q (0, [(0, .ref p0), (1, .int p1), (2, .int p2), (3, .int p3)], [], h) := by
  refine zq_aload (pc' := 1) rfl rfl rfl rfl ?_
  refine zq_ipush (pc' := 2) rfl rfl rfl ?_
  obtain ⟨h1, e0, H⟩ := H
  refine zq_put (pc' := 5) rfl rfl rfl trivial e0 ?_
  refine zq_aload (pc' := 6) rfl rfl rfl rfl ?_
  refine zq_iload (pc' := 7) rfl rfl rfl rfl ?_
  refine zq_iload (pc' := 8) rfl rfl rfl rfl ?_
  refine zq_calli (pc' := 11) rfl rfl rfl rfl rfl rfl (zE_mono H (fun r3 h2 H => ?_))
  rcases r3 with v4 | e5
  · obtain ⟨x6, e0, H⟩ := H
    refine Exists.intro x6 (And.intro e0 ?_)
    refine zq_ifne (pc' := 14) rfl rfl rfl rfl (And.intro (fun c => ?_) (fun c => ?_))
    · have H := H.1 c
      refine zq_aload (pc' := 15) rfl rfl rfl rfl ?_
      refine zq_ipush (pc' := 16) rfl rfl rfl ?_
      refine zq_calli (pc' := 19) rfl rfl rfl rfl rfl rfl (zE_mono H (fun r8 h7 H => ?_))
      rcases r8 with v9 | e10
      · obtain ⟨x11, e0, H⟩ := H
        refine Exists.intro x11 (And.intro e0 ?_)
        exact zq_iret rfl trivial H
      · exact H
    · have H := H.2 c
      refine zq_iload (pc' := 21) rfl rfl rfl rfl ?_
      refine zq_switch rfl ?_
      refine And.intro (fun c => ?_) (fun c => ?_)
      · have H := H.1 c
        show zW (zE d) zm_X8_place Q (56, [(0, .ref p0), (1, .int p1), (2, .int p2), (3, .int p3)], [], h2)
        refine zq_aload (pc' := 57) rfl rfl rfl rfl ?_
        obtain ⟨a12, e0, H⟩ := H
        refine zq_getR (pc' := 60) rfl rfl rfl e0 ?_
        refine zq_ipush (pc' := 62) rfl rfl rfl ?_
        refine zq_iload (pc' := 63) rfl rfl rfl rfl ?_
        refine zq_imul (pc' := 64) rfl rfl rfl ?_
        refine zq_iload (pc' := 65) rfl rfl rfl rfl ?_
        refine zq_iadd (pc' := 66) rfl rfl rfl ?_
        obtain ⟨x13, e0, H⟩ := H
        refine zq_iald (pc' := 67) rfl rfl rfl e0 ?_
        exact zq_iret rfl trivial H
      · have H := H.2 c
        refine And.intro (fun c => ?_) (fun c => ?_)
        · have H := H.1 c
          show zW (zE d) zm_X8_place Q (68, [(0, .ref p0), (1, .int p1), (2, .int p2), (3, .int p3)], [], h2)
          refine zq_aload (pc' := 69) rfl rfl rfl rfl ?_
          obtain ⟨a14, e0, H⟩ := H
          refine zq_getR (pc' := 72) rfl rfl rfl e0 ?_
          refine zq_ipush (pc' := 74) rfl rfl rfl ?_
          refine zq_iload (pc' := 75) rfl rfl rfl rfl ?_
          refine zq_imul (pc' := 76) rfl rfl rfl ?_
          refine zq_iload (pc' := 77) rfl rfl rfl rfl ?_
          refine zq_iadd (pc' := 78) rfl rfl rfl ?_
          obtain ⟨x15, e0, H⟩ := H
          refine zq_iald (pc' := 79) rfl rfl rfl e0 ?_
          exact zq_iret rfl trivial H
        · have H := H.2 c
          refine And.intro (fun c => ?_) (fun c => ?_)
          · have H := H.1 c
            show zW (zE d) zm_X8_place Q (80, [(0, .ref p0), (1, .int p1), (2, .int p2), (3, .int p3)], [], h2)
            refine zq_aload (pc' := 81) rfl rfl rfl rfl ?_
            refine zq_iload (pc' := 82) rfl rfl rfl rfl ?_
            refine zq_iload (pc' := 83) rfl rfl rfl rfl ?_
            refine zq_calli (pc' := 86) rfl rfl rfl rfl rfl rfl (zE_mono H (fun r17 h16 H => ?_))
            rcases r17 with v18 | e19
            · obtain ⟨x20, e0, H⟩ := H
              refine Exists.intro x20 (And.intro e0 ?_)
              exact zq_iret rfl trivial H
            · exact H
          · have H := H.2 c
            refine And.intro (fun c => ?_) (fun c => ?_)
            · have H := H.1 c
              show zW (zE d) zm_X8_place Q (87, [(0, .ref p0), (1, .int p1), (2, .int p2), (3, .int p3)], [], h2)
              refine zq_aload (pc' := 88) rfl rfl rfl rfl ?_
              obtain ⟨a21, e0, H⟩ := H
              refine zq_getR (pc' := 91) rfl rfl rfl e0 ?_
              refine zq_iload (pc' := 92) rfl rfl rfl rfl ?_
              obtain ⟨x22, e0, H⟩ := H
              refine zq_iald (pc' := 93) rfl rfl rfl e0 ?_
              refine zq_iload (pc' := 94) rfl rfl rfl rfl ?_
              refine zq_calli (pc' := 97) rfl rfl rfl rfl rfl rfl (zE_mono H (fun r24 h23 H => ?_))
              rcases r24 with v25 | e26
              · obtain ⟨x27, e0, H⟩ := H
                refine Exists.intro x27 (And.intro e0 ?_)
                refine zq_ifeq (pc' := 100) rfl rfl rfl rfl (And.intro (fun c => ?_) (fun c => ?_))
                · have H := H.1 c
                  refine zq_ipush (pc' := 105) rfl rfl rfl ?_
                  exact zq_iret rfl trivial H
                · have H := H.2 c
                  refine zq_ipush (pc' := 101) rfl rfl rfl ?_
                  refine zq_goto (pc' := 105) rfl rfl rfl ?_
                  exact zq_iret rfl trivial H
              · exact H
            · have H := H.2 c
              refine And.intro (fun c => ?_) (fun c => ?_)
              · have H := H.1 c
                show zW (zE d) zm_X8_place Q (106, [(0, .ref p0), (1, .int p1), (2, .int p2), (3, .int p3)], [], h2)
                refine zq_aload (pc' := 107) rfl rfl rfl rfl ?_
                refine zq_iload (pc' := 108) rfl rfl rfl rfl ?_
                refine zq_iload (pc' := 109) rfl rfl rfl rfl ?_
                refine zq_calli (pc' := 112) rfl rfl rfl rfl rfl rfl (zE_mono H (fun r29 h28 H => ?_))
                rcases r29 with v30 | e31
                · obtain ⟨x32, e0, H⟩ := H
                  refine Exists.intro x32 (And.intro e0 ?_)
                  exact zq_iret rfl trivial H
                · exact H
              · have H := H.2 c
                show zW (zE d) zm_X8_place Q (113, [(0, .ref p0), (1, .int p1), (2, .int p2), (3, .int p3)], [], h2)
                refine zq_aload (pc' := 114) rfl rfl rfl rfl ?_
                refine zq_ipush (pc' := 115) rfl rfl rfl ?_
                refine zq_calli (pc' := 118) rfl rfl rfl rfl rfl rfl (zE_mono H (fun r34 h33 H => ?_))
                rcases r34 with v35 | e36
                · obtain ⟨x37, e0, H⟩ := H
                  refine Exists.intro x37 (And.intro e0 ?_)
                  exact zq_iret rfl trivial H
                · exact H
  · exact H
theorem zr_X8_refuse_0 {d : Nat} {Q : zR → zH → Prop} {p0 : Nat} {p1 : Int32} {h : zH} (H :
    ∃ a1 : Nat, zgf h p0 8 13 = some (.ref a1) ∧
    ∃ x2, zia h a1 p1 = some x2 ∧
    ∃ h3, zis h a1 p1 (x2 + 1) = some h3 ∧
    Q (.inl (some (.int (-1)))) h3) : zW (zE d) zm_X8_refuse Q (0, [(0, .ref p0), (1, .int p1)], [], h) := by
  refine zq_aload (pc' := 1) rfl rfl rfl rfl ?_
  obtain ⟨a1, e0, H⟩ := H
  refine zq_getR (pc' := 4) rfl rfl rfl e0 ?_
  refine zq_iload (pc' := 5) rfl rfl rfl rfl ?_
  refine zq_dup2 (pc' := 6) rfl rfl rfl rfl rfl ?_
  obtain ⟨x2, e0, H⟩ := H
  refine zq_iald (pc' := 7) rfl rfl rfl e0 ?_
  refine zq_ipush (pc' := 8) rfl rfl rfl ?_
  refine zq_iadd (pc' := 9) rfl rfl rfl ?_
  obtain ⟨h3, e0, H⟩ := H
  refine zq_iast (pc' := 10) rfl rfl rfl e0 ?_
  refine zq_ipushn (pc' := 11) rfl rfl rfl ?_
  exact zq_iret rfl trivial H
theorem zr_X8_keep_0 {d : Nat} {Q : zR → zH → Prop} {p0 : Nat} {h : zH} (H :
    ∃ x1 : Int32, zgf h p0 8 32 = some (.int x1) ∧
    zbr (x1 = 40)
    (zW (zE d) zm_X8_keep Q (13, [(0, .ref p0), (1, .int 137)], [], h))
    (zW (zE d) zm_X8_keep Q (54, [(0, .ref p0)], [], h))) : zW (zE d) zm_X8_keep Q (0, [(0, .ref p0)], [], h) := by
  refine zq_aload (pc' := 1) rfl rfl rfl rfl ?_
  obtain ⟨x1, e0, H⟩ := H
  refine zq_getI (pc' := 4) rfl rfl rfl e0 ?_
  refine zq_ipush (pc' := 6) rfl rfl rfl ?_
  refine zq_icne_c (pc' := 9) (lt := [(0, .ref p0)]) (lf := [(0, .ref p0)]) rfl rfl rfl rfl (And.intro (fun c => ?_) (fun c => ?_))
  · have H := H.1 c
    refine zq_ipush (pc' := 12) rfl rfl rfl ?_
    refine zq_istore_c (pc' := 13) rfl rfl ?_
    exact H
  · have H := H.2 c
    exact H
theorem zr_X8_keep_13 {d : Nat} {Q : zR → zH → Prop} {l0 : Nat} {l1 : Int32} {h : zH} (H :
    ∃ a1 : Nat, zgf h l0 8 30 = some (.ref a1) ∧
    ∃ x2, zal h a1 = some x2 ∧
    zbr (x2 ≤ l1)
    (∃ x3 : Int32, zgf h l0 8 32 = some (.int x3) ∧
      ∃ h4, zpf h l0 8 32 (.int (x3 - 1)) = some h4 ∧
      zW (zE d) zm_X8_keep Q (54, [(0, .ref l0)], [], h4))
    (∃ a5 : Nat, zgf h l0 8 30 = some (.ref a5) ∧
      ∃ a6 : Nat, zgf h l0 8 30 = some (.ref a6) ∧
      ∃ x7, zia h a6 l1 = some x7 ∧
      ∃ h8, zis h a5 (l1 - 137) x7 = some h8 ∧
      zW (zE d) zm_X8_keep Q (13, [(0, .ref l0), (1, .int (l1 + 1))], [], h8))) : zW (zE d) zm_X8_keep Q (13, [(0, .ref l0), (1, .int l1)], [], h) := by
  refine zq_iload (pc' := 14) rfl rfl rfl rfl ?_
  refine zq_aload (pc' := 15) rfl rfl rfl rfl ?_
  obtain ⟨a1, e0, H⟩ := H
  refine zq_getR (pc' := 18) rfl rfl rfl e0 ?_
  obtain ⟨x2, e0, H⟩ := H
  refine zq_alen (pc' := 19) rfl rfl rfl e0 ?_
  refine zq_icge (pc' := 22) rfl rfl rfl rfl (And.intro (fun c => ?_) (fun c => ?_))
  · have H := H.1 c
    refine zq_aload (pc' := 45) rfl rfl rfl rfl ?_
    refine zq_dup (pc' := 46) rfl rfl rfl rfl ?_
    obtain ⟨x3, e0, H⟩ := H
    refine zq_getI (pc' := 49) rfl rfl rfl e0 ?_
    refine zq_ipush (pc' := 50) rfl rfl rfl ?_
    refine zq_isub (pc' := 51) rfl rfl rfl ?_
    obtain ⟨h4, e0, H⟩ := H
    refine zq_put_c (pc' := 54) rfl rfl trivial e0 ?_
    exact H
  · have H := H.2 c
    refine zq_aload (pc' := 23) rfl rfl rfl rfl ?_
    obtain ⟨a5, e0, H⟩ := H
    refine zq_getR (pc' := 26) rfl rfl rfl e0 ?_
    refine zq_iload (pc' := 27) rfl rfl rfl rfl ?_
    refine zq_ipush (pc' := 30) rfl rfl rfl ?_
    refine zq_isub (pc' := 31) rfl rfl rfl ?_
    refine zq_aload (pc' := 32) rfl rfl rfl rfl ?_
    obtain ⟨a6, e0, H⟩ := H
    refine zq_getR (pc' := 35) rfl rfl rfl e0 ?_
    refine zq_iload (pc' := 36) rfl rfl rfl rfl ?_
    obtain ⟨x7, e0, H⟩ := H
    refine zq_iald (pc' := 37) rfl rfl rfl e0 ?_
    obtain ⟨h8, e0, H⟩ := H
    refine zq_iast (pc' := 38) rfl rfl rfl e0 ?_
    refine zq_iinc (pc' := 41) rfl rfl rfl rfl ?_
    refine zq_goto_c (pc' := 13) rfl rfl ?_
    exact H
theorem zr_X8_keep_54 {d : Nat} {Q : zR → zH → Prop} {l0 : Nat} {h : zH} (H :
    ∃ a1 : Nat, zgf h l0 8 30 = some (.ref a1) ∧
    ∃ x2 : Int32, zgf h l0 8 32 = some (.int x2) ∧
    zE d 249 [.ref l0, .ref a1, .int (137 * x2)] h (fun r4 h3 => match r4 with
      | .inl v5 => v5 = none ∧ ∃ x7 : Int32, zgf h3 l0 8 32 = some (.int x7) ∧
        ∃ h8, zpf h3 l0 8 32 (.int (x7 + 1)) = some h8 ∧
        Q (.inl none) h8
      | .inr e6 => Q (.inr e6) h3)) : zW (zE d) zm_X8_keep Q (54, [(0, .ref l0)], [], h) := by
  refine zq_aload (pc' := 55) rfl rfl rfl rfl ?_
  refine zq_aload (pc' := 56) rfl rfl rfl rfl ?_
  obtain ⟨a1, e0, H⟩ := H
  refine zq_getR (pc' := 59) rfl rfl rfl e0 ?_
  refine zq_ipush (pc' := 62) rfl rfl rfl ?_
  refine zq_aload (pc' := 63) rfl rfl rfl rfl ?_
  obtain ⟨x2, e0, H⟩ := H
  refine zq_getI (pc' := 66) rfl rfl rfl e0 ?_
  refine zq_imul (pc' := 67) rfl rfl rfl ?_
  refine zq_callv (pc' := 70) rfl rfl rfl rfl rfl rfl (zE_mono H (fun r4 h3 H => ?_))
  rcases r4 with v5 | e6
  · obtain ⟨e0, H⟩ := H
    refine And.intro e0 ?_
    refine zq_aload (pc' := 71) rfl rfl rfl rfl ?_
    refine zq_dup (pc' := 72) rfl rfl rfl rfl ?_
    obtain ⟨x7, e0, H⟩ := H
    refine zq_getI (pc' := 75) rfl rfl rfl e0 ?_
    refine zq_ipush (pc' := 76) rfl rfl rfl ?_
    refine zq_iadd (pc' := 77) rfl rfl rfl ?_
    obtain ⟨h8, e0, H⟩ := H
    refine zq_put (pc' := 80) rfl rfl rfl trivial e0 ?_
    exact zq_vret rfl H
  · exact H
theorem zr_X8_days_0 {d : Nat} {Q : zR → zH → Prop} {p0 : Nat} {p1 : Int32} {h : zH} (H :
    ∃ h1, zpf h p0 8 4 (.int 0) = some h1 ∧
    zE d 217 [.long ((p1 : Int32).toInt64), .long 1, .long 20] h1 (fun r3 h2 => match r3 with
      | .inl v4 => ∃ x6 : Int32, v4 = some (.int x6) ∧ zbr (x6 = 0)
        (zE d 277 [.ref p0, .int 1] h2 (fun r8 h7 => match r8 with
            | .inl v9 => ∃ x11 : Int32, v9 = some (.int x11) ∧ Q (.inl (some (.int x11))) h7
            | .inr e10 => Q (.inr e10) h7))
        (∃ x12 : Int32, zgf h2 p0 8 31 = some (.int x12) ∧
          zbr ((x12 + p1) ≤ 999)
          (zE d 278 [.ref p0] h2 (fun r14 h13 => match r14 with
              | .inl v15 => v15 = none ∧ zE d 265 [.ref p0, .int p1] h13 (fun r18 h17 => match r18 with
                  | .inl v19 => v19 = none ∧ ∃ x21 : Int32, zgf h17 p0 8 31 = some (.int x21) ∧
                    Q (.inl (some (.int x21))) h17
                  | .inr e20 => Q (.inr e20) h17)
              | .inr e16 => Q (.inr e16) h13))
          (zE d 277 [.ref p0, .int 1] h2 (fun r23 h22 => match r23 with
              | .inl v24 => ∃ x26 : Int32, v24 = some (.int x26) ∧ Q (.inl (some (.int x26))) h22
              | .inr e25 => Q (.inr e25) h22)))
      | .inr e5 => Q (.inr e5) h2)) : zW (zE d) zm_X8_days Q (0, [(0, .ref p0), (1, .int p1)], [], h) := by
  refine zq_aload (pc' := 1) rfl rfl rfl rfl ?_
  refine zq_ipush (pc' := 2) rfl rfl rfl ?_
  obtain ⟨h1, e0, H⟩ := H
  refine zq_put (pc' := 5) rfl rfl rfl trivial e0 ?_
  refine zq_iload (pc' := 6) rfl rfl rfl rfl ?_
  refine zq_i2l (pc' := 7) rfl rfl rfl ?_
  refine zq_lpush (pc' := 8) rfl rfl rfl ?_
  refine zq_lpush (pc' := 11) rfl rfl rfl ?_
  refine zq_calli (pc' := 14) rfl rfl rfl rfl rfl rfl (zE_mono H (fun r3 h2 H => ?_))
  rcases r3 with v4 | e5
  · obtain ⟨x6, e0, H⟩ := H
    refine Exists.intro x6 (And.intro e0 ?_)
    refine zq_ifeq (pc' := 17) rfl rfl rfl rfl (And.intro (fun c => ?_) (fun c => ?_))
    · have H := H.1 c
      refine zq_aload (pc' := 30) rfl rfl rfl rfl ?_
      refine zq_ipush (pc' := 31) rfl rfl rfl ?_
      refine zq_calli (pc' := 34) rfl rfl rfl rfl rfl rfl (zE_mono H (fun r8 h7 H => ?_))
      rcases r8 with v9 | e10
      · obtain ⟨x11, e0, H⟩ := H
        refine Exists.intro x11 (And.intro e0 ?_)
        exact zq_iret rfl trivial H
      · exact H
    · have H := H.2 c
      refine zq_aload (pc' := 18) rfl rfl rfl rfl ?_
      obtain ⟨x12, e0, H⟩ := H
      refine zq_getI (pc' := 21) rfl rfl rfl e0 ?_
      refine zq_iload (pc' := 22) rfl rfl rfl rfl ?_
      refine zq_iadd (pc' := 23) rfl rfl rfl ?_
      refine zq_ipush (pc' := 26) rfl rfl rfl ?_
      refine zq_icle (pc' := 29) rfl rfl rfl rfl (And.intro (fun c => ?_) (fun c => ?_))
      · have H := H.1 c
        refine zq_aload (pc' := 36) rfl rfl rfl rfl ?_
        refine zq_callv (pc' := 39) rfl rfl rfl rfl rfl rfl (zE_mono H (fun r14 h13 H => ?_))
        rcases r14 with v15 | e16
        · obtain ⟨e0, H⟩ := H
          refine And.intro e0 ?_
          refine zq_aload (pc' := 40) rfl rfl rfl rfl ?_
          refine zq_iload (pc' := 41) rfl rfl rfl rfl ?_
          refine zq_callv (pc' := 44) rfl rfl rfl rfl rfl rfl (zE_mono H (fun r18 h17 H => ?_))
          rcases r18 with v19 | e20
          · obtain ⟨e0, H⟩ := H
            refine And.intro e0 ?_
            refine zq_aload (pc' := 45) rfl rfl rfl rfl ?_
            obtain ⟨x21, e0, H⟩ := H
            refine zq_getI (pc' := 48) rfl rfl rfl e0 ?_
            exact zq_iret rfl trivial H
          · exact H
        · exact H
      · have H := H.2 c
        refine zq_aload (pc' := 30) rfl rfl rfl rfl ?_
        refine zq_ipush (pc' := 31) rfl rfl rfl ?_
        refine zq_calli (pc' := 34) rfl rfl rfl rfl rfl rfl (zE_mono H (fun r23 h22 H => ?_))
        rcases r23 with v24 | e25
        · obtain ⟨x26, e0, H⟩ := H
          refine Exists.intro x26 (And.intro e0 ?_)
          exact zq_iret rfl trivial H
        · exact H
  · exact H
theorem zr_X8_slide_0 {d : Nat} {Q : zR → zH → Prop} {p0 : Nat} {p1 : Int32} {p2 : Int32} {h : zH} (H :
    ∃ h1, zpf h p0 8 4 (.int 0) = some h1 ∧
    zE d 220 [.ref p0, .int p1] h1 (fun r3 h2 => match r3 with
      | .inl v4 => ∃ x6 : Int32, v4 = some (.int x6) ∧ zbr (x6 = 0)
        (zE d 215 [.ref p0, .int 1] h2 (fun r8 h7 => match r8 with
            | .inl v9 => ∃ x11 : Int32, v9 = some (.int x11) ∧ Q (.inl (some (.int x11))) h7
            | .inr e10 => Q (.inr e10) h7))
        (∃ a12 : Nat, zgf h2 p0 8 7 = some (.ref a12) ∧
          ∃ x13, zia h2 a12 p1 = some x13 ∧
          zE d 217 [.long ((p2 : Int32).toInt64), .long 0, .long ((x13 : Int32).toInt64)] h2 (fun r15 h14 => match r15 with
            | .inl v16 => ∃ x18 : Int32, v16 = some (.int x18) ∧ zbr (x18 = 0)
              (zE d 277 [.ref p0, .int 1] h14 (fun r20 h19 => match r20 with
                  | .inl v21 => ∃ x23 : Int32, v21 = some (.int x23) ∧ Q (.inl (some (.int x23))) h19
                  | .inr e22 => Q (.inr e22) h19))
              (zE d 278 [.ref p0] h14 (fun r25 h24 => match r25 with
                  | .inl v26 => v26 = none ∧ zE d 253 [.ref p0, .int p1, .int p2] h24 (fun r29 h28 => match r29 with
                      | .inl v30 => v30 = none ∧ ∃ a32 : Nat, zgf h28 p0 8 29 = some (.ref a32) ∧
                        ∃ x33, zia h28 a32 p1 = some x33 ∧
                        zE d 219 [.int x33] h28 (fun r35 h34 => match r35 with
                          | .inl v36 => ∃ x38 : Int32, v36 = some (.int x38) ∧ Q (.inl (some (.int x38))) h34
                          | .inr e37 => Q (.inr e37) h34)
                      | .inr e31 => Q (.inr e31) h28)
                  | .inr e27 => Q (.inr e27) h24))
            | .inr e17 => Q (.inr e17) h14))
      | .inr e5 => Q (.inr e5) h2)) : zW (zE d) zm_X8_slide Q (0, [(0, .ref p0), (1, .int p1), (2, .int p2)], [], h) := by
  refine zq_aload (pc' := 1) rfl rfl rfl rfl ?_
  refine zq_ipush (pc' := 2) rfl rfl rfl ?_
  obtain ⟨h1, e0, H⟩ := H
  refine zq_put (pc' := 5) rfl rfl rfl trivial e0 ?_
  refine zq_aload (pc' := 6) rfl rfl rfl rfl ?_
  refine zq_iload (pc' := 7) rfl rfl rfl rfl ?_
  refine zq_calli (pc' := 10) rfl rfl rfl rfl rfl rfl (zE_mono H (fun r3 h2 H => ?_))
  rcases r3 with v4 | e5
  · obtain ⟨x6, e0, H⟩ := H
    refine Exists.intro x6 (And.intro e0 ?_)
    refine zq_ifne (pc' := 13) rfl rfl rfl rfl (And.intro (fun c => ?_) (fun c => ?_))
    · have H := H.1 c
      refine zq_aload (pc' := 14) rfl rfl rfl rfl ?_
      refine zq_ipush (pc' := 15) rfl rfl rfl ?_
      refine zq_calli (pc' := 18) rfl rfl rfl rfl rfl rfl (zE_mono H (fun r8 h7 H => ?_))
      rcases r8 with v9 | e10
      · obtain ⟨x11, e0, H⟩ := H
        refine Exists.intro x11 (And.intro e0 ?_)
        exact zq_iret rfl trivial H
      · exact H
    · have H := H.2 c
      refine zq_iload (pc' := 20) rfl rfl rfl rfl ?_
      refine zq_i2l (pc' := 21) rfl rfl rfl ?_
      refine zq_lpush (pc' := 22) rfl rfl rfl ?_
      refine zq_aload (pc' := 23) rfl rfl rfl rfl ?_
      obtain ⟨a12, e0, H⟩ := H
      refine zq_getR (pc' := 26) rfl rfl rfl e0 ?_
      refine zq_iload (pc' := 27) rfl rfl rfl rfl ?_
      obtain ⟨x13, e0, H⟩ := H
      refine zq_iald (pc' := 28) rfl rfl rfl e0 ?_
      refine zq_i2l (pc' := 29) rfl rfl rfl ?_
      refine zq_calli (pc' := 32) rfl rfl rfl rfl rfl rfl (zE_mono H (fun r15 h14 H => ?_))
      rcases r15 with v16 | e17
      · obtain ⟨x18, e0, H⟩ := H
        refine Exists.intro x18 (And.intro e0 ?_)
        refine zq_ifne (pc' := 35) rfl rfl rfl rfl (And.intro (fun c => ?_) (fun c => ?_))
        · have H := H.1 c
          refine zq_aload (pc' := 36) rfl rfl rfl rfl ?_
          refine zq_ipush (pc' := 37) rfl rfl rfl ?_
          refine zq_calli (pc' := 40) rfl rfl rfl rfl rfl rfl (zE_mono H (fun r20 h19 H => ?_))
          rcases r20 with v21 | e22
          · obtain ⟨x23, e0, H⟩ := H
            refine Exists.intro x23 (And.intro e0 ?_)
            exact zq_iret rfl trivial H
          · exact H
        · have H := H.2 c
          refine zq_aload (pc' := 42) rfl rfl rfl rfl ?_
          refine zq_callv (pc' := 45) rfl rfl rfl rfl rfl rfl (zE_mono H (fun r25 h24 H => ?_))
          rcases r25 with v26 | e27
          · obtain ⟨e0, H⟩ := H
            refine And.intro e0 ?_
            refine zq_aload (pc' := 46) rfl rfl rfl rfl ?_
            refine zq_iload (pc' := 47) rfl rfl rfl rfl ?_
            refine zq_iload (pc' := 48) rfl rfl rfl rfl ?_
            refine zq_callv (pc' := 51) rfl rfl rfl rfl rfl rfl (zE_mono H (fun r29 h28 H => ?_))
            rcases r29 with v30 | e31
            · obtain ⟨e0, H⟩ := H
              refine And.intro e0 ?_
              refine zq_aload (pc' := 52) rfl rfl rfl rfl ?_
              obtain ⟨a32, e0, H⟩ := H
              refine zq_getR (pc' := 55) rfl rfl rfl e0 ?_
              refine zq_iload (pc' := 56) rfl rfl rfl rfl ?_
              obtain ⟨x33, e0, H⟩ := H
              refine zq_iald (pc' := 57) rfl rfl rfl e0 ?_
              refine zq_calli (pc' := 60) rfl rfl rfl rfl rfl rfl (zE_mono H (fun r35 h34 H => ?_))
              rcases r35 with v36 | e37
              · obtain ⟨x38, e0, H⟩ := H
                refine Exists.intro x38 (And.intro e0 ?_)
                exact zq_iret rfl trivial H
              · exact H
            · exact H
          · exact H
      · exact H
  · exact H
theorem zr_X8_isTooth_0 {d : Nat} {Q : zR → zH → Prop} {p0 : Nat} {p1 : Int32} {p2 : Int32} {p3 : Int32} {h : zH} (H :
    zE d 221 [.ref p0, .int p1, .int p3] h (fun r2 h1 => match r2 with
      | .inl v3 => ∃ x5 : Int32, v3 = some (.int x5) ∧ zbr (x5 = 0)
        (Q (.inl (some (.int 0))) h1)
        (zE d 217 [.long ((p2 : Int32).toInt64), .long 0, .long 1] h1 (fun r7 h6 => match r7 with
            | .inl v8 => ∃ x10 : Int32, v8 = some (.int x10) ∧ zbr (x10 = 0)
              (Q (.inl (some (.int 0))) h6)
              (Q (.inl (some (.int 1))) h6)
            | .inr e9 => Q (.inr e9) h6))
      | .inr e4 => Q (.inr e4) h1)) : zW (zE d) zm_X8_isTooth Q (0, [(0, .ref p0), (1, .int p1), (2, .int p2), (3, .int p3)], [], h) := by
  refine zq_aload (pc' := 1) rfl rfl rfl rfl ?_
  refine zq_iload (pc' := 2) rfl rfl rfl rfl ?_
  refine zq_iload (pc' := 3) rfl rfl rfl rfl ?_
  refine zq_calli (pc' := 6) rfl rfl rfl rfl rfl rfl (zE_mono H (fun r2 h1 H => ?_))
  rcases r2 with v3 | e4
  · obtain ⟨x5, e0, H⟩ := H
    refine Exists.intro x5 (And.intro e0 ?_)
    refine zq_ifeq (pc' := 9) rfl rfl rfl rfl (And.intro (fun c => ?_) (fun c => ?_))
    · have H := H.1 c
      refine zq_ipush (pc' := 24) rfl rfl rfl ?_
      exact zq_iret rfl (Or.inl rfl) H
    · have H := H.2 c
      refine zq_iload (pc' := 10) rfl rfl rfl rfl ?_
      refine zq_i2l (pc' := 11) rfl rfl rfl ?_
      refine zq_lpush (pc' := 12) rfl rfl rfl ?_
      refine zq_lpush (pc' := 13) rfl rfl rfl ?_
      refine zq_calli (pc' := 16) rfl rfl rfl rfl rfl rfl (zE_mono H (fun r7 h6 H => ?_))
      rcases r7 with v8 | e9
      · obtain ⟨x10, e0, H⟩ := H
        refine Exists.intro x10 (And.intro e0 ?_)
        refine zq_ifeq (pc' := 19) rfl rfl rfl rfl (And.intro (fun c => ?_) (fun c => ?_))
        · have H := H.1 c
          refine zq_ipush (pc' := 24) rfl rfl rfl ?_
          exact zq_iret rfl (Or.inl rfl) H
        · have H := H.2 c
          refine zq_ipush (pc' := 20) rfl rfl rfl ?_
          refine zq_goto (pc' := 24) rfl rfl rfl ?_
          exact zq_iret rfl (Or.inr rfl) H
      · exact H
  · exact H
theorem zr_X8_pinch_0 {d : Nat} {Q : zR → zH → Prop} {p0 : Nat} {p1 : Int32} {p2 : Int32} {p3 : Int32} {h : zH} (H :
    ∃ h1, zpf h p0 8 4 (.int 0) = some h1 ∧
    zE d 281 [.ref p0, .int p1, .int p2, .int p3] h1 (fun r3 h2 => match r3 with
      | .inl v4 => ∃ x6 : Int32, v4 = some (.int x6) ∧ zbr (x6 = 0)
        (zE d 215 [.ref p0, .int 1] h2 (fun r8 h7 => match r8 with
            | .inl v9 => ∃ x11 : Int32, v9 = some (.int x11) ∧ Q (.inl (some (.int x11))) h7
            | .inr e10 => Q (.inr e10) h7))
        (zbr (p2 = 0)
          (∃ a12 : Nat, zgf h2 p0 8 26 = some (.ref a12) ∧
            ∃ x13, zia h2 a12 ((16 * p1) + p3) = some x13 ∧
            zE d 217 [.long ((x13 : Int32).toInt64), .long 1, .long 8] h2 (fun r15 h14 => match r15 with
              | .inl v16 => ∃ x18 : Int32, v16 = some (.int x18) ∧ zbr (x18 = 0)
                (zE d 277 [.ref p0, .int 1] h14 (fun r20 h19 => match r20 with
                    | .inl v21 => ∃ x23 : Int32, v21 = some (.int x23) ∧ Q (.inl (some (.int x23))) h19
                    | .inr e22 => Q (.inr e22) h19))
                (zE d 278 [.ref p0] h14 (fun r25 h24 => match r25 with
                    | .inl v26 => v26 = none ∧ ∃ x28, zia h24 a12 ((16 * p1) + p3) = some x28 ∧
                      ∃ h29, zis h24 a12 ((16 * p1) + p3) (x28 + 1) = some h29 ∧
                      ∃ x30, zia h29 a12 ((16 * p1) + p3) = some x30 ∧
                      Q (.inl (some (.int x30))) h29
                    | .inr e27 => Q (.inr e27) h24))
              | .inr e17 => Q (.inr e17) h14))
          (∃ a31 : Nat, zgf h2 p0 8 27 = some (.ref a31) ∧
            ∃ x32, zia h2 a31 ((16 * p1) + p3) = some x32 ∧
            zE d 217 [.long ((x32 : Int32).toInt64), .long 1, .long 8] h2 (fun r34 h33 => match r34 with
              | .inl v35 => ∃ x37 : Int32, v35 = some (.int x37) ∧ zbr (x37 = 0)
                (zE d 277 [.ref p0, .int 1] h33 (fun r39 h38 => match r39 with
                    | .inl v40 => ∃ x42 : Int32, v40 = some (.int x42) ∧ Q (.inl (some (.int x42))) h38
                    | .inr e41 => Q (.inr e41) h38))
                (zE d 278 [.ref p0] h33 (fun r44 h43 => match r44 with
                    | .inl v45 => v45 = none ∧ ∃ x47, zia h43 a31 ((16 * p1) + p3) = some x47 ∧
                      ∃ h48, zis h43 a31 ((16 * p1) + p3) (x47 + 1) = some h48 ∧
                      ∃ x49, zia h48 a31 ((16 * p1) + p3) = some x49 ∧
                      Q (.inl (some (.int x49))) h48
                    | .inr e46 => Q (.inr e46) h43))
              | .inr e36 => Q (.inr e36) h33)))
      | .inr e5 => Q (.inr e5) h2)) : zW (zE d) zm_X8_pinch Q (0, [(0, .ref p0), (1, .int p1), (2, .int p2), (3, .int p3)], [], h) := by
  refine zq_aload (pc' := 1) rfl rfl rfl rfl ?_
  refine zq_ipush (pc' := 2) rfl rfl rfl ?_
  obtain ⟨h1, e0, H⟩ := H
  refine zq_put (pc' := 5) rfl rfl rfl trivial e0 ?_
  refine zq_aload (pc' := 6) rfl rfl rfl rfl ?_
  refine zq_iload (pc' := 7) rfl rfl rfl rfl ?_
  refine zq_iload (pc' := 8) rfl rfl rfl rfl ?_
  refine zq_iload (pc' := 9) rfl rfl rfl rfl ?_
  refine zq_calli (pc' := 12) rfl rfl rfl rfl rfl rfl (zE_mono H (fun r3 h2 H => ?_))
  rcases r3 with v4 | e5
  · obtain ⟨x6, e0, H⟩ := H
    refine Exists.intro x6 (And.intro e0 ?_)
    refine zq_ifne (pc' := 15) rfl rfl rfl rfl (And.intro (fun c => ?_) (fun c => ?_))
    · have H := H.1 c
      refine zq_aload (pc' := 16) rfl rfl rfl rfl ?_
      refine zq_ipush (pc' := 17) rfl rfl rfl ?_
      refine zq_calli (pc' := 20) rfl rfl rfl rfl rfl rfl (zE_mono H (fun r8 h7 H => ?_))
      rcases r8 with v9 | e10
      · obtain ⟨x11, e0, H⟩ := H
        refine Exists.intro x11 (And.intro e0 ?_)
        exact zq_iret rfl trivial H
      · exact H
    · have H := H.2 c
      refine zq_iload (pc' := 22) rfl rfl rfl rfl ?_
      refine zq_ifne (pc' := 25) rfl rfl rfl rfl (And.intro (fun c => ?_) (fun c => ?_))
      · have H := H.1 c
        refine zq_aload (pc' := 26) rfl rfl rfl rfl ?_
        obtain ⟨a12, e0, H⟩ := H
        refine zq_getR (pc' := 29) rfl rfl rfl e0 ?_
        refine zq_goto (pc' := 36) rfl rfl rfl ?_
        refine zq_astore (pc' := 38) rfl rfl rfl ?_
        refine zq_ipush (pc' := 40) rfl rfl rfl ?_
        refine zq_iload (pc' := 41) rfl rfl rfl rfl ?_
        refine zq_imul (pc' := 42) rfl rfl rfl ?_
        refine zq_iload (pc' := 43) rfl rfl rfl rfl ?_
        refine zq_iadd (pc' := 44) rfl rfl rfl ?_
        refine zq_istore (pc' := 46) rfl rfl rfl ?_
        refine zq_aload (pc' := 48) rfl rfl rfl rfl ?_
        refine zq_iload (pc' := 50) rfl rfl rfl rfl ?_
        obtain ⟨x13, e0, H⟩ := H
        refine zq_iald (pc' := 51) rfl rfl rfl e0 ?_
        refine zq_i2l (pc' := 52) rfl rfl rfl ?_
        refine zq_lpush (pc' := 53) rfl rfl rfl ?_
        refine zq_lpush (pc' := 56) rfl rfl rfl ?_
        refine zq_calli (pc' := 59) rfl rfl rfl rfl rfl rfl (zE_mono H (fun r15 h14 H => ?_))
        rcases r15 with v16 | e17
        · obtain ⟨x18, e0, H⟩ := H
          refine Exists.intro x18 (And.intro e0 ?_)
          refine zq_ifne (pc' := 62) rfl rfl rfl rfl (And.intro (fun c => ?_) (fun c => ?_))
          · have H := H.1 c
            refine zq_aload (pc' := 63) rfl rfl rfl rfl ?_
            refine zq_ipush (pc' := 64) rfl rfl rfl ?_
            refine zq_calli (pc' := 67) rfl rfl rfl rfl rfl rfl (zE_mono H (fun r20 h19 H => ?_))
            rcases r20 with v21 | e22
            · obtain ⟨x23, e0, H⟩ := H
              refine Exists.intro x23 (And.intro e0 ?_)
              exact zq_iret rfl trivial H
            · exact H
          · have H := H.2 c
            refine zq_aload (pc' := 69) rfl rfl rfl rfl ?_
            refine zq_callv (pc' := 72) rfl rfl rfl rfl rfl rfl (zE_mono H (fun r25 h24 H => ?_))
            rcases r25 with v26 | e27
            · obtain ⟨e0, H⟩ := H
              refine And.intro e0 ?_
              refine zq_aload (pc' := 74) rfl rfl rfl rfl ?_
              refine zq_iload (pc' := 76) rfl rfl rfl rfl ?_
              refine zq_dup2 (pc' := 77) rfl rfl rfl rfl rfl ?_
              obtain ⟨x28, e0, H⟩ := H
              refine zq_iald (pc' := 78) rfl rfl rfl e0 ?_
              refine zq_ipush (pc' := 79) rfl rfl rfl ?_
              refine zq_iadd (pc' := 80) rfl rfl rfl ?_
              obtain ⟨h29, e0, H⟩ := H
              refine zq_iast (pc' := 81) rfl rfl rfl e0 ?_
              refine zq_aload (pc' := 83) rfl rfl rfl rfl ?_
              refine zq_iload (pc' := 85) rfl rfl rfl rfl ?_
              obtain ⟨x30, e0, H⟩ := H
              refine zq_iald (pc' := 86) rfl rfl rfl e0 ?_
              exact zq_iret rfl trivial H
            · exact H
        · exact H
      · have H := H.2 c
        refine zq_aload (pc' := 33) rfl rfl rfl rfl ?_
        obtain ⟨a31, e0, H⟩ := H
        refine zq_getR (pc' := 36) rfl rfl rfl e0 ?_
        refine zq_astore (pc' := 38) rfl rfl rfl ?_
        refine zq_ipush (pc' := 40) rfl rfl rfl ?_
        refine zq_iload (pc' := 41) rfl rfl rfl rfl ?_
        refine zq_imul (pc' := 42) rfl rfl rfl ?_
        refine zq_iload (pc' := 43) rfl rfl rfl rfl ?_
        refine zq_iadd (pc' := 44) rfl rfl rfl ?_
        refine zq_istore (pc' := 46) rfl rfl rfl ?_
        refine zq_aload (pc' := 48) rfl rfl rfl rfl ?_
        refine zq_iload (pc' := 50) rfl rfl rfl rfl ?_
        obtain ⟨x32, e0, H⟩ := H
        refine zq_iald (pc' := 51) rfl rfl rfl e0 ?_
        refine zq_i2l (pc' := 52) rfl rfl rfl ?_
        refine zq_lpush (pc' := 53) rfl rfl rfl ?_
        refine zq_lpush (pc' := 56) rfl rfl rfl ?_
        refine zq_calli (pc' := 59) rfl rfl rfl rfl rfl rfl (zE_mono H (fun r34 h33 H => ?_))
        rcases r34 with v35 | e36
        · obtain ⟨x37, e0, H⟩ := H
          refine Exists.intro x37 (And.intro e0 ?_)
          refine zq_ifne (pc' := 62) rfl rfl rfl rfl (And.intro (fun c => ?_) (fun c => ?_))
          · have H := H.1 c
            refine zq_aload (pc' := 63) rfl rfl rfl rfl ?_
            refine zq_ipush (pc' := 64) rfl rfl rfl ?_
            refine zq_calli (pc' := 67) rfl rfl rfl rfl rfl rfl (zE_mono H (fun r39 h38 H => ?_))
            rcases r39 with v40 | e41
            · obtain ⟨x42, e0, H⟩ := H
              refine Exists.intro x42 (And.intro e0 ?_)
              exact zq_iret rfl trivial H
            · exact H
          · have H := H.2 c
            refine zq_aload (pc' := 69) rfl rfl rfl rfl ?_
            refine zq_callv (pc' := 72) rfl rfl rfl rfl rfl rfl (zE_mono H (fun r44 h43 H => ?_))
            rcases r44 with v45 | e46
            · obtain ⟨e0, H⟩ := H
              refine And.intro e0 ?_
              refine zq_aload (pc' := 74) rfl rfl rfl rfl ?_
              refine zq_iload (pc' := 76) rfl rfl rfl rfl ?_
              refine zq_dup2 (pc' := 77) rfl rfl rfl rfl rfl ?_
              obtain ⟨x47, e0, H⟩ := H
              refine zq_iald (pc' := 78) rfl rfl rfl e0 ?_
              refine zq_ipush (pc' := 79) rfl rfl rfl ?_
              refine zq_iadd (pc' := 80) rfl rfl rfl ?_
              obtain ⟨h48, e0, H⟩ := H
              refine zq_iast (pc' := 81) rfl rfl rfl e0 ?_
              refine zq_aload (pc' := 83) rfl rfl rfl rfl ?_
              refine zq_iload (pc' := 85) rfl rfl rfl rfl ?_
              obtain ⟨x49, e0, H⟩ := H
              refine zq_iald (pc' := 86) rfl rfl rfl e0 ?_
              exact zq_iret rfl trivial H
            · exact H
        · exact H
  · exact H
theorem zr_X8_set_0 {d : Nat} {Q : zR → zH → Prop} {p0 : Nat} {p1 : Int32} {p2 : Int32} {p3 : Int32} {p4 : Int32} {h : zH} (H :
    ∃ h1, zpf h p0 8 4 (.int 0) = some h1 ∧
    zE d 281 [.ref p0, .int p1, .int p2, .int p3] h1 (fun r3 h2 => match r3 with
      | .inl v4 => ∃ x6 : Int32, v4 = some (.int x6) ∧ zbr (x6 = 0)
        (zE d 216 [.ref p0, .int 1] h2 (fun r8 h7 => match r8 with
            | .inl v9 => ∃ x11 : Int32, v9 = some (.int x11) ∧ (x11 = 0 ∨ x11 = 1) ∧ Q (.inl (some (.int x11))) h7
            | .inr e10 => Q (.inr e10) h7))
        (zbr (p2 = 0)
          (∃ a12 : Nat, zgf h2 p0 8 26 = some (.ref a12) ∧
            ∃ x13, zia h2 a12 ((16 * p1) + p3) = some x13 ∧
            zbr (0 < x13)
            (∃ a14 : Nat, zgf h2 p0 8 13 = some (.ref a14) ∧
              ∃ x15, zia h2 a14 1 = some x15 ∧
              ∃ h16, zis h2 a14 1 (x15 + 1) = some h16 ∧
              Q (.inl (some (.int 0))) h16)
            (zE d 217 [.long ((p4 : Int32).toInt64), .long 1, .long 9] h2 (fun r18 h17 => match r18 with
                | .inl v19 => ∃ x21 : Int32, v19 = some (.int x21) ∧ zbr (x21 = 0)
                  (∃ a22 : Nat, zgf h17 p0 8 13 = some (.ref a22) ∧
                    ∃ x23, zia h17 a22 1 = some x23 ∧
                    ∃ h24, zis h17 a22 1 (x23 + 1) = some h24 ∧
                    Q (.inl (some (.int 0))) h24)
                  (zE d 278 [.ref p0] h17 (fun r26 h25 => match r26 with
                      | .inl v27 => v27 = none ∧ ∃ h29, zis h25 a12 ((16 * p1) + p3) p4 = some h29 ∧
                        Q (.inl (some (.int 1))) h29
                      | .inr e28 => Q (.inr e28) h25))
                | .inr e20 => Q (.inr e20) h17)))
          (∃ a30 : Nat, zgf h2 p0 8 27 = some (.ref a30) ∧
            ∃ x31, zia h2 a30 ((16 * p1) + p3) = some x31 ∧
            zbr (0 < x31)
            (∃ a32 : Nat, zgf h2 p0 8 13 = some (.ref a32) ∧
              ∃ x33, zia h2 a32 1 = some x33 ∧
              ∃ h34, zis h2 a32 1 (x33 + 1) = some h34 ∧
              Q (.inl (some (.int 0))) h34)
            (zE d 217 [.long ((p4 : Int32).toInt64), .long 1, .long 9] h2 (fun r36 h35 => match r36 with
                | .inl v37 => ∃ x39 : Int32, v37 = some (.int x39) ∧ zbr (x39 = 0)
                  (∃ a40 : Nat, zgf h35 p0 8 13 = some (.ref a40) ∧
                    ∃ x41, zia h35 a40 1 = some x41 ∧
                    ∃ h42, zis h35 a40 1 (x41 + 1) = some h42 ∧
                    Q (.inl (some (.int 0))) h42)
                  (zE d 278 [.ref p0] h35 (fun r44 h43 => match r44 with
                      | .inl v45 => v45 = none ∧ ∃ h47, zis h43 a30 ((16 * p1) + p3) p4 = some h47 ∧
                        Q (.inl (some (.int 1))) h47
                      | .inr e46 => Q (.inr e46) h43))
                | .inr e38 => Q (.inr e38) h35))))
      | .inr e5 => Q (.inr e5) h2)) : zW (zE d) zm_X8_set Q (0, [(0, .ref p0), (1, .int p1), (2, .int p2), (3, .int p3), (4, .int p4)], [], h) := by
  refine zq_aload (pc' := 1) rfl rfl rfl rfl ?_
  refine zq_ipush (pc' := 2) rfl rfl rfl ?_
  obtain ⟨h1, e0, H⟩ := H
  refine zq_put (pc' := 5) rfl rfl rfl trivial e0 ?_
  refine zq_aload (pc' := 6) rfl rfl rfl rfl ?_
  refine zq_iload (pc' := 7) rfl rfl rfl rfl ?_
  refine zq_iload (pc' := 8) rfl rfl rfl rfl ?_
  refine zq_iload (pc' := 9) rfl rfl rfl rfl ?_
  refine zq_calli (pc' := 12) rfl rfl rfl rfl rfl rfl (zE_mono H (fun r3 h2 H => ?_))
  rcases r3 with v4 | e5
  · obtain ⟨x6, e0, H⟩ := H
    refine Exists.intro x6 (And.intro e0 ?_)
    refine zq_ifne (pc' := 15) rfl rfl rfl rfl (And.intro (fun c => ?_) (fun c => ?_))
    · have H := H.1 c
      refine zq_aload (pc' := 16) rfl rfl rfl rfl ?_
      refine zq_ipush (pc' := 17) rfl rfl rfl ?_
      refine zq_calli (pc' := 20) rfl rfl rfl rfl rfl rfl (zE_mono H (fun r8 h7 H => ?_))
      rcases r8 with v9 | e10
      · obtain ⟨x11, e0, H⟩ := H
        refine Exists.intro x11 (And.intro e0 ?_)
        exact zq_iret rfl H.1 H.2
      · exact H
    · have H := H.2 c
      refine zq_iload (pc' := 22) rfl rfl rfl rfl ?_
      refine zq_ifne (pc' := 25) rfl rfl rfl rfl (And.intro (fun c => ?_) (fun c => ?_))
      · have H := H.1 c
        refine zq_aload (pc' := 26) rfl rfl rfl rfl ?_
        obtain ⟨a12, e0, H⟩ := H
        refine zq_getR (pc' := 29) rfl rfl rfl e0 ?_
        refine zq_goto (pc' := 36) rfl rfl rfl ?_
        refine zq_astore (pc' := 38) rfl rfl rfl ?_
        refine zq_ipush (pc' := 40) rfl rfl rfl ?_
        refine zq_iload (pc' := 41) rfl rfl rfl rfl ?_
        refine zq_imul (pc' := 42) rfl rfl rfl ?_
        refine zq_iload (pc' := 43) rfl rfl rfl rfl ?_
        refine zq_iadd (pc' := 44) rfl rfl rfl ?_
        refine zq_istore (pc' := 46) rfl rfl rfl ?_
        refine zq_aload (pc' := 48) rfl rfl rfl rfl ?_
        refine zq_iload (pc' := 50) rfl rfl rfl rfl ?_
        obtain ⟨x13, e0, H⟩ := H
        refine zq_iald (pc' := 51) rfl rfl rfl e0 ?_
        refine zq_ifgt (pc' := 54) rfl rfl rfl rfl (And.intro (fun c => ?_) (fun c => ?_))
        · have H := H.1 c
          refine zq_aload (pc' := 68) rfl rfl rfl rfl ?_
          obtain ⟨a14, e0, H⟩ := H
          refine zq_getR (pc' := 71) rfl rfl rfl e0 ?_
          refine zq_ipush (pc' := 72) rfl rfl rfl ?_
          refine zq_dup2 (pc' := 73) rfl rfl rfl rfl rfl ?_
          obtain ⟨x15, e0, H⟩ := H
          refine zq_iald (pc' := 74) rfl rfl rfl e0 ?_
          refine zq_ipush (pc' := 75) rfl rfl rfl ?_
          refine zq_iadd (pc' := 76) rfl rfl rfl ?_
          obtain ⟨h16, e0, H⟩ := H
          refine zq_iast (pc' := 77) rfl rfl rfl e0 ?_
          refine zq_ipush (pc' := 78) rfl rfl rfl ?_
          exact zq_iret rfl (Or.inl rfl) H
        · have H := H.2 c
          refine zq_iload (pc' := 56) rfl rfl rfl rfl ?_
          refine zq_i2l (pc' := 57) rfl rfl rfl ?_
          refine zq_lpush (pc' := 58) rfl rfl rfl ?_
          refine zq_lpush (pc' := 61) rfl rfl rfl ?_
          refine zq_calli (pc' := 64) rfl rfl rfl rfl rfl rfl (zE_mono H (fun r18 h17 H => ?_))
          rcases r18 with v19 | e20
          · obtain ⟨x21, e0, H⟩ := H
            refine Exists.intro x21 (And.intro e0 ?_)
            refine zq_ifne (pc' := 67) rfl rfl rfl rfl (And.intro (fun c => ?_) (fun c => ?_))
            · have H := H.1 c
              refine zq_aload (pc' := 68) rfl rfl rfl rfl ?_
              obtain ⟨a22, e0, H⟩ := H
              refine zq_getR (pc' := 71) rfl rfl rfl e0 ?_
              refine zq_ipush (pc' := 72) rfl rfl rfl ?_
              refine zq_dup2 (pc' := 73) rfl rfl rfl rfl rfl ?_
              obtain ⟨x23, e0, H⟩ := H
              refine zq_iald (pc' := 74) rfl rfl rfl e0 ?_
              refine zq_ipush (pc' := 75) rfl rfl rfl ?_
              refine zq_iadd (pc' := 76) rfl rfl rfl ?_
              obtain ⟨h24, e0, H⟩ := H
              refine zq_iast (pc' := 77) rfl rfl rfl e0 ?_
              refine zq_ipush (pc' := 78) rfl rfl rfl ?_
              exact zq_iret rfl (Or.inl rfl) H
            · have H := H.2 c
              refine zq_aload (pc' := 80) rfl rfl rfl rfl ?_
              refine zq_callv (pc' := 83) rfl rfl rfl rfl rfl rfl (zE_mono H (fun r26 h25 H => ?_))
              rcases r26 with v27 | e28
              · obtain ⟨e0, H⟩ := H
                refine And.intro e0 ?_
                refine zq_aload (pc' := 85) rfl rfl rfl rfl ?_
                refine zq_iload (pc' := 87) rfl rfl rfl rfl ?_
                refine zq_iload (pc' := 89) rfl rfl rfl rfl ?_
                obtain ⟨h29, e0, H⟩ := H
                refine zq_iast (pc' := 90) rfl rfl rfl e0 ?_
                refine zq_ipush (pc' := 91) rfl rfl rfl ?_
                exact zq_iret rfl (Or.inr rfl) H
              · exact H
          · exact H
      · have H := H.2 c
        refine zq_aload (pc' := 33) rfl rfl rfl rfl ?_
        obtain ⟨a30, e0, H⟩ := H
        refine zq_getR (pc' := 36) rfl rfl rfl e0 ?_
        refine zq_astore (pc' := 38) rfl rfl rfl ?_
        refine zq_ipush (pc' := 40) rfl rfl rfl ?_
        refine zq_iload (pc' := 41) rfl rfl rfl rfl ?_
        refine zq_imul (pc' := 42) rfl rfl rfl ?_
        refine zq_iload (pc' := 43) rfl rfl rfl rfl ?_
        refine zq_iadd (pc' := 44) rfl rfl rfl ?_
        refine zq_istore (pc' := 46) rfl rfl rfl ?_
        refine zq_aload (pc' := 48) rfl rfl rfl rfl ?_
        refine zq_iload (pc' := 50) rfl rfl rfl rfl ?_
        obtain ⟨x31, e0, H⟩ := H
        refine zq_iald (pc' := 51) rfl rfl rfl e0 ?_
        refine zq_ifgt (pc' := 54) rfl rfl rfl rfl (And.intro (fun c => ?_) (fun c => ?_))
        · have H := H.1 c
          refine zq_aload (pc' := 68) rfl rfl rfl rfl ?_
          obtain ⟨a32, e0, H⟩ := H
          refine zq_getR (pc' := 71) rfl rfl rfl e0 ?_
          refine zq_ipush (pc' := 72) rfl rfl rfl ?_
          refine zq_dup2 (pc' := 73) rfl rfl rfl rfl rfl ?_
          obtain ⟨x33, e0, H⟩ := H
          refine zq_iald (pc' := 74) rfl rfl rfl e0 ?_
          refine zq_ipush (pc' := 75) rfl rfl rfl ?_
          refine zq_iadd (pc' := 76) rfl rfl rfl ?_
          obtain ⟨h34, e0, H⟩ := H
          refine zq_iast (pc' := 77) rfl rfl rfl e0 ?_
          refine zq_ipush (pc' := 78) rfl rfl rfl ?_
          exact zq_iret rfl (Or.inl rfl) H
        · have H := H.2 c
          refine zq_iload (pc' := 56) rfl rfl rfl rfl ?_
          refine zq_i2l (pc' := 57) rfl rfl rfl ?_
          refine zq_lpush (pc' := 58) rfl rfl rfl ?_
          refine zq_lpush (pc' := 61) rfl rfl rfl ?_
          refine zq_calli (pc' := 64) rfl rfl rfl rfl rfl rfl (zE_mono H (fun r36 h35 H => ?_))
          rcases r36 with v37 | e38
          · obtain ⟨x39, e0, H⟩ := H
            refine Exists.intro x39 (And.intro e0 ?_)
            refine zq_ifne (pc' := 67) rfl rfl rfl rfl (And.intro (fun c => ?_) (fun c => ?_))
            · have H := H.1 c
              refine zq_aload (pc' := 68) rfl rfl rfl rfl ?_
              obtain ⟨a40, e0, H⟩ := H
              refine zq_getR (pc' := 71) rfl rfl rfl e0 ?_
              refine zq_ipush (pc' := 72) rfl rfl rfl ?_
              refine zq_dup2 (pc' := 73) rfl rfl rfl rfl rfl ?_
              obtain ⟨x41, e0, H⟩ := H
              refine zq_iald (pc' := 74) rfl rfl rfl e0 ?_
              refine zq_ipush (pc' := 75) rfl rfl rfl ?_
              refine zq_iadd (pc' := 76) rfl rfl rfl ?_
              obtain ⟨h42, e0, H⟩ := H
              refine zq_iast (pc' := 77) rfl rfl rfl e0 ?_
              refine zq_ipush (pc' := 78) rfl rfl rfl ?_
              exact zq_iret rfl (Or.inl rfl) H
            · have H := H.2 c
              refine zq_aload (pc' := 80) rfl rfl rfl rfl ?_
              refine zq_callv (pc' := 83) rfl rfl rfl rfl rfl rfl (zE_mono H (fun r44 h43 H => ?_))
              rcases r44 with v45 | e46
              · obtain ⟨e0, H⟩ := H
                refine And.intro e0 ?_
                refine zq_aload (pc' := 85) rfl rfl rfl rfl ?_
                refine zq_iload (pc' := 87) rfl rfl rfl rfl ?_
                refine zq_iload (pc' := 89) rfl rfl rfl rfl ?_
                obtain ⟨h47, e0, H⟩ := H
                refine zq_iast (pc' := 90) rfl rfl rfl e0 ?_
                refine zq_ipush (pc' := 91) rfl rfl rfl ?_
                exact zq_iret rfl (Or.inr rfl) H
              · exact H
          · exact H
  · exact H
theorem zr_X8_swap_0 {d : Nat} {Q : zR → zH → Prop} {p0 : Nat} {p1 : Int32} {p2 : Int32} {h : zH} (H :
    ∃ h1, zpf h p0 8 4 (.int 0) = some h1 ∧
    zE d 220 [.ref p0, .int p1] h1 (fun r3 h2 => match r3 with
      | .inl v4 => ∃ x6 : Int32, v4 = some (.int x6) ∧ zbr (x6 = 0)
        (zE d 216 [.ref p0, .int 1] h2 (fun r8 h7 => match r8 with
            | .inl v9 => ∃ x11 : Int32, v9 = some (.int x11) ∧ (x11 = 0 ∨ x11 = 1) ∧ Q (.inl (some (.int x11))) h7
            | .inr e10 => Q (.inr e10) h7))
        (zE d 220 [.ref p0, .int p2] h2 (fun r13 h12 => match r13 with
            | .inl v14 => ∃ x16 : Int32, v14 = some (.int x16) ∧ zbr (x16 = 0)
              (zE d 216 [.ref p0, .int 1] h12 (fun r18 h17 => match r18 with
                  | .inl v19 => ∃ x21 : Int32, v19 = some (.int x21) ∧ (x21 = 0 ∨ x21 = 1) ∧ Q (.inl (some (.int x21))) h17
                  | .inr e20 => Q (.inr e20) h17))
              (zbr (p1 = p2)
                (∃ a22 : Nat, zgf h12 p0 8 13 = some (.ref a22) ∧
                  ∃ x23, zia h12 a22 1 = some x23 ∧
                  ∃ h24, zis h12 a22 1 (x23 + 1) = some h24 ∧
                  Q (.inl (some (.int 0))) h24)
                (∃ a25 : Nat, zgf h12 p0 8 7 = some (.ref a25) ∧
                  ∃ x26, zia h12 a25 p1 = some x26 ∧
                  ∃ a27 : Nat, zgf h12 p0 8 7 = some (.ref a27) ∧
                  ∃ x28, zia h12 a27 p2 = some x28 ∧
                  zbr (x26 = x28)
                  (zE d 278 [.ref p0] h12 (fun r30 h29 => match r30 with
                      | .inl v31 => v31 = none ∧ zW (zE d) zm_X8_swap Q (65, [(0, .ref p0), (1, .int p1), (2, .int p2), (3, .int 0)], [], h29)
                      | .inr e32 => Q (.inr e32) h29))
                  (∃ a33 : Nat, zgf h12 p0 8 13 = some (.ref a33) ∧
                    ∃ x34, zia h12 a33 1 = some x34 ∧
                    ∃ h35, zis h12 a33 1 (x34 + 1) = some h35 ∧
                    Q (.inl (some (.int 0))) h35)))
            | .inr e15 => Q (.inr e15) h12))
      | .inr e5 => Q (.inr e5) h2)) : zW (zE d) zm_X8_swap Q (0, [(0, .ref p0), (1, .int p1), (2, .int p2)], [], h) := by
  refine zq_aload (pc' := 1) rfl rfl rfl rfl ?_
  refine zq_ipush (pc' := 2) rfl rfl rfl ?_
  obtain ⟨h1, e0, H⟩ := H
  refine zq_put (pc' := 5) rfl rfl rfl trivial e0 ?_
  refine zq_aload (pc' := 6) rfl rfl rfl rfl ?_
  refine zq_iload (pc' := 7) rfl rfl rfl rfl ?_
  refine zq_calli (pc' := 10) rfl rfl rfl rfl rfl rfl (zE_mono H (fun r3 h2 H => ?_))
  rcases r3 with v4 | e5
  · obtain ⟨x6, e0, H⟩ := H
    refine Exists.intro x6 (And.intro e0 ?_)
    refine zq_ifeq (pc' := 13) rfl rfl rfl rfl (And.intro (fun c => ?_) (fun c => ?_))
    · have H := H.1 c
      refine zq_aload (pc' := 22) rfl rfl rfl rfl ?_
      refine zq_ipush (pc' := 23) rfl rfl rfl ?_
      refine zq_calli (pc' := 26) rfl rfl rfl rfl rfl rfl (zE_mono H (fun r8 h7 H => ?_))
      rcases r8 with v9 | e10
      · obtain ⟨x11, e0, H⟩ := H
        refine Exists.intro x11 (And.intro e0 ?_)
        exact zq_iret rfl H.1 H.2
      · exact H
    · have H := H.2 c
      refine zq_aload (pc' := 14) rfl rfl rfl rfl ?_
      refine zq_iload (pc' := 15) rfl rfl rfl rfl ?_
      refine zq_calli (pc' := 18) rfl rfl rfl rfl rfl rfl (zE_mono H (fun r13 h12 H => ?_))
      rcases r13 with v14 | e15
      · obtain ⟨x16, e0, H⟩ := H
        refine Exists.intro x16 (And.intro e0 ?_)
        refine zq_ifne (pc' := 21) rfl rfl rfl rfl (And.intro (fun c => ?_) (fun c => ?_))
        · have H := H.1 c
          refine zq_aload (pc' := 22) rfl rfl rfl rfl ?_
          refine zq_ipush (pc' := 23) rfl rfl rfl ?_
          refine zq_calli (pc' := 26) rfl rfl rfl rfl rfl rfl (zE_mono H (fun r18 h17 H => ?_))
          rcases r18 with v19 | e20
          · obtain ⟨x21, e0, H⟩ := H
            refine Exists.intro x21 (And.intro e0 ?_)
            exact zq_iret rfl H.1 H.2
          · exact H
        · have H := H.2 c
          refine zq_iload (pc' := 28) rfl rfl rfl rfl ?_
          refine zq_iload (pc' := 29) rfl rfl rfl rfl ?_
          refine zq_iceq (pc' := 32) rfl rfl rfl rfl (And.intro (fun c => ?_) (fun c => ?_))
          · have H := H.1 c
            refine zq_aload (pc' := 48) rfl rfl rfl rfl ?_
            obtain ⟨a22, e0, H⟩ := H
            refine zq_getR (pc' := 51) rfl rfl rfl e0 ?_
            refine zq_ipush (pc' := 52) rfl rfl rfl ?_
            refine zq_dup2 (pc' := 53) rfl rfl rfl rfl rfl ?_
            obtain ⟨x23, e0, H⟩ := H
            refine zq_iald (pc' := 54) rfl rfl rfl e0 ?_
            refine zq_ipush (pc' := 55) rfl rfl rfl ?_
            refine zq_iadd (pc' := 56) rfl rfl rfl ?_
            obtain ⟨h24, e0, H⟩ := H
            refine zq_iast (pc' := 57) rfl rfl rfl e0 ?_
            refine zq_ipush (pc' := 58) rfl rfl rfl ?_
            exact zq_iret rfl (Or.inl rfl) H
          · have H := H.2 c
            refine zq_aload (pc' := 33) rfl rfl rfl rfl ?_
            obtain ⟨a25, e0, H⟩ := H
            refine zq_getR (pc' := 36) rfl rfl rfl e0 ?_
            refine zq_iload (pc' := 37) rfl rfl rfl rfl ?_
            obtain ⟨x26, e0, H⟩ := H
            refine zq_iald (pc' := 38) rfl rfl rfl e0 ?_
            refine zq_aload (pc' := 39) rfl rfl rfl rfl ?_
            obtain ⟨a27, e0, H⟩ := H
            refine zq_getR (pc' := 42) rfl rfl rfl e0 ?_
            refine zq_iload (pc' := 43) rfl rfl rfl rfl ?_
            obtain ⟨x28, e0, H⟩ := H
            refine zq_iald (pc' := 44) rfl rfl rfl e0 ?_
            refine zq_iceq (pc' := 47) rfl rfl rfl rfl (And.intro (fun c => ?_) (fun c => ?_))
            · have H := H.1 c
              refine zq_aload (pc' := 60) rfl rfl rfl rfl ?_
              refine zq_callv (pc' := 63) rfl rfl rfl rfl rfl rfl (zE_mono H (fun r30 h29 H => ?_))
              rcases r30 with v31 | e32
              · obtain ⟨e0, H⟩ := H
                refine And.intro e0 ?_
                refine zq_ipush (pc' := 64) rfl rfl rfl ?_
                refine zq_istore_c (pc' := 65) rfl rfl ?_
                exact H
              · exact H
            · have H := H.2 c
              refine zq_aload (pc' := 48) rfl rfl rfl rfl ?_
              obtain ⟨a33, e0, H⟩ := H
              refine zq_getR (pc' := 51) rfl rfl rfl e0 ?_
              refine zq_ipush (pc' := 52) rfl rfl rfl ?_
              refine zq_dup2 (pc' := 53) rfl rfl rfl rfl rfl ?_
              obtain ⟨x34, e0, H⟩ := H
              refine zq_iald (pc' := 54) rfl rfl rfl e0 ?_
              refine zq_ipush (pc' := 55) rfl rfl rfl ?_
              refine zq_iadd (pc' := 56) rfl rfl rfl ?_
              obtain ⟨h35, e0, H⟩ := H
              refine zq_iast (pc' := 57) rfl rfl rfl e0 ?_
              refine zq_ipush (pc' := 58) rfl rfl rfl ?_
              exact zq_iret rfl (Or.inl rfl) H
      · exact H
  · exact H
theorem zr_X8_swap_65 {d : Nat} {Q : zR → zH → Prop} {l0 : Nat} {l1 : Int32} {l2 : Int32} {l3 : Int32} {h : zH} (H :
    zbr (16 ≤ l3)
    (zE d 253 [.ref l0, .int l1, .int 0] h (fun r2 h1 => match r2 with
        | .inl v3 => v3 = none ∧ zE d 253 [.ref l0, .int l2, .int 0] h1 (fun r6 h5 => match r6 with
            | .inl v7 => v7 = none ∧ Q (.inl (some (.int 1))) h5
            | .inr e8 => Q (.inr e8) h5)
        | .inr e4 => Q (.inr e4) h1))
    (∃ a9 : Nat, zgf h l0 8 26 = some (.ref a9) ∧
      ∃ x10, zia h a9 ((16 * l1) + l3) = some x10 ∧
      ∃ a11 : Nat, zgf h l0 8 26 = some (.ref a11) ∧
      ∃ a12 : Nat, zgf h l0 8 26 = some (.ref a12) ∧
      ∃ x13, zia h a12 ((16 * l2) + l3) = some x13 ∧
      ∃ h14, zis h a11 ((16 * l1) + l3) x13 = some h14 ∧
      ∃ a15 : Nat, zgf h14 l0 8 26 = some (.ref a15) ∧
      ∃ h16, zis h14 a15 ((16 * l2) + l3) x10 = some h16 ∧
      zW (zE d) zm_X8_swap Q (65, [(0, .ref l0), (1, .int l1), (2, .int l2), (3, .int (l3 + 1))], [], h16))) : zW (zE d) zm_X8_swap Q (65, [(0, .ref l0), (1, .int l1), (2, .int l2), (3, .int l3)], [], h) := by
  refine zq_iload (pc' := 66) rfl rfl rfl rfl ?_
  refine zq_ipush (pc' := 68) rfl rfl rfl ?_
  refine zq_icge (pc' := 71) rfl rfl rfl rfl (And.intro (fun c => ?_) (fun c => ?_))
  · have H := H.1 c
    refine zq_aload (pc' := 126) rfl rfl rfl rfl ?_
    refine zq_iload (pc' := 127) rfl rfl rfl rfl ?_
    refine zq_ipush (pc' := 128) rfl rfl rfl ?_
    refine zq_callv (pc' := 131) rfl rfl rfl rfl rfl rfl (zE_mono H (fun r2 h1 H => ?_))
    rcases r2 with v3 | e4
    · obtain ⟨e0, H⟩ := H
      refine And.intro e0 ?_
      refine zq_aload (pc' := 132) rfl rfl rfl rfl ?_
      refine zq_iload (pc' := 133) rfl rfl rfl rfl ?_
      refine zq_ipush (pc' := 134) rfl rfl rfl ?_
      refine zq_callv (pc' := 137) rfl rfl rfl rfl rfl rfl (zE_mono H (fun r6 h5 H => ?_))
      rcases r6 with v7 | e8
      · obtain ⟨e0, H⟩ := H
        refine And.intro e0 ?_
        refine zq_ipush (pc' := 138) rfl rfl rfl ?_
        exact zq_iret rfl (Or.inr rfl) H
      · exact H
    · exact H
  · have H := H.2 c
    refine zq_aload (pc' := 72) rfl rfl rfl rfl ?_
    obtain ⟨a9, e0, H⟩ := H
    refine zq_getR (pc' := 75) rfl rfl rfl e0 ?_
    refine zq_ipush (pc' := 77) rfl rfl rfl ?_
    refine zq_iload (pc' := 78) rfl rfl rfl rfl ?_
    refine zq_imul (pc' := 79) rfl rfl rfl ?_
    refine zq_iload (pc' := 80) rfl rfl rfl rfl ?_
    refine zq_iadd (pc' := 81) rfl rfl rfl ?_
    obtain ⟨x10, e0, H⟩ := H
    refine zq_iald (pc' := 82) rfl rfl rfl e0 ?_
    refine zq_istore (pc' := 84) rfl rfl rfl ?_
    refine zq_aload (pc' := 85) rfl rfl rfl rfl ?_
    obtain ⟨a11, e0, H⟩ := H
    refine zq_getR (pc' := 88) rfl rfl rfl e0 ?_
    refine zq_ipush (pc' := 90) rfl rfl rfl ?_
    refine zq_iload (pc' := 91) rfl rfl rfl rfl ?_
    refine zq_imul (pc' := 92) rfl rfl rfl ?_
    refine zq_iload (pc' := 93) rfl rfl rfl rfl ?_
    refine zq_iadd (pc' := 94) rfl rfl rfl ?_
    refine zq_aload (pc' := 95) rfl rfl rfl rfl ?_
    obtain ⟨a12, e0, H⟩ := H
    refine zq_getR (pc' := 98) rfl rfl rfl e0 ?_
    refine zq_ipush (pc' := 100) rfl rfl rfl ?_
    refine zq_iload (pc' := 101) rfl rfl rfl rfl ?_
    refine zq_imul (pc' := 102) rfl rfl rfl ?_
    refine zq_iload (pc' := 103) rfl rfl rfl rfl ?_
    refine zq_iadd (pc' := 104) rfl rfl rfl ?_
    obtain ⟨x13, e0, H⟩ := H
    refine zq_iald (pc' := 105) rfl rfl rfl e0 ?_
    obtain ⟨h14, e0, H⟩ := H
    refine zq_iast (pc' := 106) rfl rfl rfl e0 ?_
    refine zq_aload (pc' := 107) rfl rfl rfl rfl ?_
    obtain ⟨a15, e0, H⟩ := H
    refine zq_getR (pc' := 110) rfl rfl rfl e0 ?_
    refine zq_ipush (pc' := 112) rfl rfl rfl ?_
    refine zq_iload (pc' := 113) rfl rfl rfl rfl ?_
    refine zq_imul (pc' := 114) rfl rfl rfl ?_
    refine zq_iload (pc' := 115) rfl rfl rfl rfl ?_
    refine zq_iadd (pc' := 116) rfl rfl rfl ?_
    refine zq_iload (pc' := 118) rfl rfl rfl rfl ?_
    obtain ⟨h16, e0, H⟩ := H
    refine zq_iast (pc' := 119) rfl rfl rfl e0 ?_
    refine zq_iinc (pc' := 122) rfl rfl rfl rfl ?_
    refine zq_goto_c (pc' := 65) rfl rfl ?_
    exact H
theorem zr_X8_undo_0 {d : Nat} {Q : zR → zH → Prop} {p0 : Nat} {h : zH} (H :
    ∃ h1, zpf h p0 8 4 (.int 0) = some h1 ∧
    ∃ x2 : Int32, zgf h1 p0 8 32 = some (.int x2) ∧
    zbr (x2 = 0)
    (Q (.inl (some (.int (-1)))) h1)
    (∃ x3 : Int32, zgf h1 p0 8 32 = some (.int x3) ∧
      ∃ h4, zpf h1 p0 8 32 (.int (x3 - 1)) = some h4 ∧
      ∃ a5 : Nat, zgf h4 p0 8 30 = some (.ref a5) ∧
      ∃ x6 : Int32, zgf h4 p0 8 32 = some (.int x6) ∧
      zE d 250 [.ref p0, .ref a5, .int (137 * x6)] h4 (fun r8 h7 => match r8 with
        | .inl v9 => v9 = none ∧ ∃ x11 : Int32, zgf h7 p0 8 32 = some (.int x11) ∧
          Q (.inl (some (.int x11))) h7
        | .inr e10 => Q (.inr e10) h7))) : zW (zE d) zm_X8_undo Q (0, [(0, .ref p0)], [], h) := by
  refine zq_aload (pc' := 1) rfl rfl rfl rfl ?_
  refine zq_ipush (pc' := 2) rfl rfl rfl ?_
  obtain ⟨h1, e0, H⟩ := H
  refine zq_put (pc' := 5) rfl rfl rfl trivial e0 ?_
  refine zq_aload (pc' := 6) rfl rfl rfl rfl ?_
  obtain ⟨x2, e0, H⟩ := H
  refine zq_getI (pc' := 9) rfl rfl rfl e0 ?_
  refine zq_ifne (pc' := 12) rfl rfl rfl rfl (And.intro (fun c => ?_) (fun c => ?_))
  · have H := H.1 c
    refine zq_ipushn (pc' := 13) rfl rfl rfl ?_
    exact zq_iret rfl trivial H
  · have H := H.2 c
    refine zq_aload (pc' := 15) rfl rfl rfl rfl ?_
    refine zq_dup (pc' := 16) rfl rfl rfl rfl ?_
    obtain ⟨x3, e0, H⟩ := H
    refine zq_getI (pc' := 19) rfl rfl rfl e0 ?_
    refine zq_ipush (pc' := 20) rfl rfl rfl ?_
    refine zq_isub (pc' := 21) rfl rfl rfl ?_
    obtain ⟨h4, e0, H⟩ := H
    refine zq_put (pc' := 24) rfl rfl rfl trivial e0 ?_
    refine zq_aload (pc' := 25) rfl rfl rfl rfl ?_
    refine zq_aload (pc' := 26) rfl rfl rfl rfl ?_
    obtain ⟨a5, e0, H⟩ := H
    refine zq_getR (pc' := 29) rfl rfl rfl e0 ?_
    refine zq_ipush (pc' := 32) rfl rfl rfl ?_
    refine zq_aload (pc' := 33) rfl rfl rfl rfl ?_
    obtain ⟨x6, e0, H⟩ := H
    refine zq_getI (pc' := 36) rfl rfl rfl e0 ?_
    refine zq_imul (pc' := 37) rfl rfl rfl ?_
    refine zq_callv (pc' := 40) rfl rfl rfl rfl rfl rfl (zE_mono H (fun r8 h7 H => ?_))
    rcases r8 with v9 | e10
    · obtain ⟨e0, H⟩ := H
      refine And.intro e0 ?_
      refine zq_aload (pc' := 41) rfl rfl rfl rfl ?_
      obtain ⟨x11, e0, H⟩ := H
      refine zq_getI (pc' := 44) rfl rfl rfl e0 ?_
      exact zq_iret rfl trivial H
    · exact H
theorem zr_X8_then_0 {d : Nat} {Q : zR → zH → Prop} {p0 : Nat} {p1 : Int32} {p2 : Int32} {p3 : Int32} {h : zH} (H :
    ∃ h1, zpf h p0 8 4 (.int 0) = some h1 ∧
    zE d 220 [.ref p0, .int p1] h1 (fun r3 h2 => match r3 with
      | .inl v4 => ∃ x6 : Int32, v4 = some (.int x6) ∧ zbr (x6 = 0)
        (zE d 215 [.ref p0, .int 1] h2 (fun r8 h7 => match r8 with
            | .inl v9 => ∃ x11 : Int32, v9 = some (.int x11) ∧ Q (.inl (some (.int x11))) h7
            | .inr e10 => Q (.inr e10) h7))
        (zE d 217 [.long ((p3 : Int32).toInt64), .long 0, .long 4] h2 (fun r13 h12 => match r13 with
            | .inl v14 => ∃ x16 : Int32, v14 = some (.int x16) ∧ zbr (x16 = 0)
              (zE d 215 [.ref p0, .int 1] h12 (fun r18 h17 => match r18 with
                  | .inl v19 => ∃ x21 : Int32, v19 = some (.int x21) ∧ Q (.inl (some (.int x21))) h17
                  | .inr e20 => Q (.inr e20) h17))
              (zE d 217 [.long ((p2 : Int32).toInt64), .long 0, .long 60] h12 (fun r23 h22 => match r23 with
                  | .inl v24 => ∃ x26 : Int32, v24 = some (.int x26) ∧ zbr (x26 = 0)
                    (zE d 215 [.ref p0, .int 2] h22 (fun r28 h27 => match r28 with
                        | .inl v29 => ∃ x31 : Int32, v29 = some (.int x31) ∧ Q (.inl (some (.int x31))) h27
                        | .inr e30 => Q (.inr e30) h27))
                    (∃ a32 : Nat, zgf h22 p0 8 39 = some (.ref a32) ∧
                      zE d 249 [.ref p0, .ref a32, .int 0] h22 (fun r34 h33 => match r34 with
                        | .inl v35 => v35 = none ∧ zE d 266 [.ref p0] h33 (fun r38 h37 => match r38 with
                            | .inl v39 => v39 = none ∧ zE d 265 [.ref p0, .int p2] h37 (fun r42 h41 => match r42 with
                                | .inl v43 => v43 = none ∧ zbr (p3 = 0)
                                  (∃ a45 : Nat, zgf h41 p0 8 29 = some (.ref a45) ∧
                                    ∃ x46, zia h41 a45 p1 = some x46 ∧
                                    ∃ a47 : Nat, zgf h41 p0 8 39 = some (.ref a47) ∧
                                    zE d 250 [.ref p0, .ref a47, .int 0] h41 (fun r49 h48 => match r49 with
                                      | .inl v50 => v50 = none ∧ Q (.inl (some (.int x46))) h48
                                      | .inr e51 => Q (.inr e51) h48))
                                  (zbr (p3 = 1)
                                    (∃ a52 : Nat, zgf h41 p0 8 29 = some (.ref a52) ∧
                                      ∃ x53, zia h41 a52 p1 = some x53 ∧
                                      zE d 219 [.int x53] h41 (fun r55 h54 => match r55 with
                                        | .inl v56 => ∃ x58 : Int32, v56 = some (.int x58) ∧ ∃ a59 : Nat, zgf h54 p0 8 39 = some (.ref a59) ∧
                                          zE d 250 [.ref p0, .ref a59, .int 0] h54 (fun r61 h60 => match r61 with
                                            | .inl v62 => v62 = none ∧ Q (.inl (some (.int x58))) h60
                                            | .inr e63 => Q (.inr e63) h60)
                                        | .inr e57 => Q (.inr e57) h54))
                                    (zbr (p3 = 2)
                                      (zE d 255 [.ref p0, .int p1] h41 (fun r65 h64 => match r65 with
                                          | .inl v66 => ∃ x68 : Int32, v66 = some (.int x68) ∧ ∃ a69 : Nat, zgf h64 p0 8 39 = some (.ref a69) ∧
                                            zE d 250 [.ref p0, .ref a69, .int 0] h64 (fun r71 h70 => match r71 with
                                              | .inl v72 => v72 = none ∧ Q (.inl (some (.int x68))) h70
                                              | .inr e73 => Q (.inr e73) h70)
                                          | .inr e67 => Q (.inr e67) h64))
                                      (zbr (p3 = 3)
                                        (zE d 269 [.ref p0, .int p1, .int 0] h41 (fun r75 h74 => match r75 with
                                            | .inl v76 => ∃ x78 : Int32, v76 = some (.int x78) ∧ ∃ a79 : Nat, zgf h74 p0 8 39 = some (.ref a79) ∧
                                              zE d 250 [.ref p0, .ref a79, .int 0] h74 (fun r81 h80 => match r81 with
                                                | .inl v82 => v82 = none ∧ Q (.inl (some (.int x78))) h80
                                                | .inr e83 => Q (.inr e83) h80)
                                            | .inr e77 => Q (.inr e77) h74))
                                        (∃ a84 : Nat, zgf h41 p0 8 38 = some (.ref a84) ∧
                                          ∃ x85, zia h41 a84 p1 = some x85 ∧
                                          ∃ a86 : Nat, zgf h41 p0 8 39 = some (.ref a86) ∧
                                          zE d 250 [.ref p0, .ref a86, .int 0] h41 (fun r88 h87 => match r88 with
                                            | .inl v89 => v89 = none ∧ Q (.inl (some (.int x85))) h87
                                            | .inr e90 => Q (.inr e90) h87)))))
                                | .inr e44 => Q (.inr e44) h41)
                            | .inr e40 => Q (.inr e40) h37)
                        | .inr e36 => Q (.inr e36) h33))
                  | .inr e25 => Q (.inr e25) h22))
            | .inr e15 => Q (.inr e15) h12))
      | .inr e5 => Q (.inr e5) h2)) : zW (zE d) zm_X8_then Q (0, [(0, .ref p0), (1, .int p1), (2, .int p2), (3, .int p3)], [], h) := by
  refine zq_aload (pc' := 1) rfl rfl rfl rfl ?_
  refine zq_ipush (pc' := 2) rfl rfl rfl ?_
  obtain ⟨h1, e0, H⟩ := H
  refine zq_put (pc' := 5) rfl rfl rfl trivial e0 ?_
  refine zq_aload (pc' := 6) rfl rfl rfl rfl ?_
  refine zq_iload (pc' := 7) rfl rfl rfl rfl ?_
  refine zq_calli (pc' := 10) rfl rfl rfl rfl rfl rfl (zE_mono H (fun r3 h2 H => ?_))
  rcases r3 with v4 | e5
  · obtain ⟨x6, e0, H⟩ := H
    refine Exists.intro x6 (And.intro e0 ?_)
    refine zq_ifeq (pc' := 13) rfl rfl rfl rfl (And.intro (fun c => ?_) (fun c => ?_))
    · have H := H.1 c
      refine zq_aload (pc' := 26) rfl rfl rfl rfl ?_
      refine zq_ipush (pc' := 27) rfl rfl rfl ?_
      refine zq_calli (pc' := 30) rfl rfl rfl rfl rfl rfl (zE_mono H (fun r8 h7 H => ?_))
      rcases r8 with v9 | e10
      · obtain ⟨x11, e0, H⟩ := H
        refine Exists.intro x11 (And.intro e0 ?_)
        exact zq_iret rfl trivial H
      · exact H
    · have H := H.2 c
      refine zq_iload (pc' := 14) rfl rfl rfl rfl ?_
      refine zq_i2l (pc' := 15) rfl rfl rfl ?_
      refine zq_lpush (pc' := 16) rfl rfl rfl ?_
      refine zq_lpush (pc' := 19) rfl rfl rfl ?_
      refine zq_calli (pc' := 22) rfl rfl rfl rfl rfl rfl (zE_mono H (fun r13 h12 H => ?_))
      rcases r13 with v14 | e15
      · obtain ⟨x16, e0, H⟩ := H
        refine Exists.intro x16 (And.intro e0 ?_)
        refine zq_ifne (pc' := 25) rfl rfl rfl rfl (And.intro (fun c => ?_) (fun c => ?_))
        · have H := H.1 c
          refine zq_aload (pc' := 26) rfl rfl rfl rfl ?_
          refine zq_ipush (pc' := 27) rfl rfl rfl ?_
          refine zq_calli (pc' := 30) rfl rfl rfl rfl rfl rfl (zE_mono H (fun r18 h17 H => ?_))
          rcases r18 with v19 | e20
          · obtain ⟨x21, e0, H⟩ := H
            refine Exists.intro x21 (And.intro e0 ?_)
            exact zq_iret rfl trivial H
          · exact H
        · have H := H.2 c
          refine zq_iload (pc' := 32) rfl rfl rfl rfl ?_
          refine zq_i2l (pc' := 33) rfl rfl rfl ?_
          refine zq_lpush (pc' := 34) rfl rfl rfl ?_
          refine zq_lpush (pc' := 37) rfl rfl rfl ?_
          refine zq_calli (pc' := 40) rfl rfl rfl rfl rfl rfl (zE_mono H (fun r23 h22 H => ?_))
          rcases r23 with v24 | e25
          · obtain ⟨x26, e0, H⟩ := H
            refine Exists.intro x26 (And.intro e0 ?_)
            refine zq_ifne (pc' := 43) rfl rfl rfl rfl (And.intro (fun c => ?_) (fun c => ?_))
            · have H := H.1 c
              refine zq_aload (pc' := 44) rfl rfl rfl rfl ?_
              refine zq_ipush (pc' := 45) rfl rfl rfl ?_
              refine zq_calli (pc' := 48) rfl rfl rfl rfl rfl rfl (zE_mono H (fun r28 h27 H => ?_))
              rcases r28 with v29 | e30
              · obtain ⟨x31, e0, H⟩ := H
                refine Exists.intro x31 (And.intro e0 ?_)
                exact zq_iret rfl trivial H
              · exact H
            · have H := H.2 c
              refine zq_aload (pc' := 50) rfl rfl rfl rfl ?_
              refine zq_aload (pc' := 51) rfl rfl rfl rfl ?_
              obtain ⟨a32, e0, H⟩ := H
              refine zq_getR (pc' := 54) rfl rfl rfl e0 ?_
              refine zq_ipush (pc' := 55) rfl rfl rfl ?_
              refine zq_callv (pc' := 58) rfl rfl rfl rfl rfl rfl (zE_mono H (fun r34 h33 H => ?_))
              rcases r34 with v35 | e36
              · obtain ⟨e0, H⟩ := H
                refine And.intro e0 ?_
                refine zq_aload (pc' := 59) rfl rfl rfl rfl ?_
                refine zq_callv (pc' := 62) rfl rfl rfl rfl rfl rfl (zE_mono H (fun r38 h37 H => ?_))
                rcases r38 with v39 | e40
                · obtain ⟨e0, H⟩ := H
                  refine And.intro e0 ?_
                  refine zq_aload (pc' := 63) rfl rfl rfl rfl ?_
                  refine zq_iload (pc' := 64) rfl rfl rfl rfl ?_
                  refine zq_callv (pc' := 67) rfl rfl rfl rfl rfl rfl (zE_mono H (fun r42 h41 H => ?_))
                  rcases r42 with v43 | e44
                  · obtain ⟨e0, H⟩ := H
                    refine And.intro e0 ?_
                    refine zq_iload (pc' := 68) rfl rfl rfl rfl ?_
                    refine zq_ifne (pc' := 71) rfl rfl rfl rfl (And.intro (fun c => ?_) (fun c => ?_))
                    · have H := H.1 c
                      refine zq_aload (pc' := 72) rfl rfl rfl rfl ?_
                      obtain ⟨a45, e0, H⟩ := H
                      refine zq_getR (pc' := 75) rfl rfl rfl e0 ?_
                      refine zq_iload (pc' := 76) rfl rfl rfl rfl ?_
                      obtain ⟨x46, e0, H⟩ := H
                      refine zq_iald (pc' := 77) rfl rfl rfl e0 ?_
                      refine zq_goto (pc' := 130) rfl rfl rfl ?_
                      refine zq_istore (pc' := 132) rfl rfl rfl ?_
                      refine zq_aload (pc' := 133) rfl rfl rfl rfl ?_
                      refine zq_aload (pc' := 134) rfl rfl rfl rfl ?_
                      obtain ⟨a47, e0, H⟩ := H
                      refine zq_getR (pc' := 137) rfl rfl rfl e0 ?_
                      refine zq_ipush (pc' := 138) rfl rfl rfl ?_
                      refine zq_callv (pc' := 141) rfl rfl rfl rfl rfl rfl (zE_mono H (fun r49 h48 H => ?_))
                      rcases r49 with v50 | e51
                      · obtain ⟨e0, H⟩ := H
                        refine And.intro e0 ?_
                        refine zq_iload (pc' := 143) rfl rfl rfl rfl ?_
                        exact zq_iret rfl trivial H
                      · exact H
                    · have H := H.2 c
                      refine zq_iload (pc' := 81) rfl rfl rfl rfl ?_
                      refine zq_ipush (pc' := 82) rfl rfl rfl ?_
                      refine zq_icne (pc' := 85) rfl rfl rfl rfl (And.intro (fun c => ?_) (fun c => ?_))
                      · have H := H.1 c
                        refine zq_aload (pc' := 86) rfl rfl rfl rfl ?_
                        obtain ⟨a52, e0, H⟩ := H
                        refine zq_getR (pc' := 89) rfl rfl rfl e0 ?_
                        refine zq_iload (pc' := 90) rfl rfl rfl rfl ?_
                        obtain ⟨x53, e0, H⟩ := H
                        refine zq_iald (pc' := 91) rfl rfl rfl e0 ?_
                        refine zq_calli (pc' := 94) rfl rfl rfl rfl rfl rfl (zE_mono H (fun r55 h54 H => ?_))
                        rcases r55 with v56 | e57
                        · obtain ⟨x58, e0, H⟩ := H
                          refine Exists.intro x58 (And.intro e0 ?_)
                          refine zq_goto (pc' := 130) rfl rfl rfl ?_
                          refine zq_istore (pc' := 132) rfl rfl rfl ?_
                          refine zq_aload (pc' := 133) rfl rfl rfl rfl ?_
                          refine zq_aload (pc' := 134) rfl rfl rfl rfl ?_
                          obtain ⟨a59, e0, H⟩ := H
                          refine zq_getR (pc' := 137) rfl rfl rfl e0 ?_
                          refine zq_ipush (pc' := 138) rfl rfl rfl ?_
                          refine zq_callv (pc' := 141) rfl rfl rfl rfl rfl rfl (zE_mono H (fun r61 h60 H => ?_))
                          rcases r61 with v62 | e63
                          · obtain ⟨e0, H⟩ := H
                            refine And.intro e0 ?_
                            refine zq_iload (pc' := 143) rfl rfl rfl rfl ?_
                            exact zq_iret rfl trivial H
                          · exact H
                        · exact H
                      · have H := H.2 c
                        refine zq_iload (pc' := 98) rfl rfl rfl rfl ?_
                        refine zq_ipush (pc' := 99) rfl rfl rfl ?_
                        refine zq_icne (pc' := 102) rfl rfl rfl rfl (And.intro (fun c => ?_) (fun c => ?_))
                        · have H := H.1 c
                          refine zq_aload (pc' := 103) rfl rfl rfl rfl ?_
                          refine zq_iload (pc' := 104) rfl rfl rfl rfl ?_
                          refine zq_calli (pc' := 107) rfl rfl rfl rfl rfl rfl (zE_mono H (fun r65 h64 H => ?_))
                          rcases r65 with v66 | e67
                          · obtain ⟨x68, e0, H⟩ := H
                            refine Exists.intro x68 (And.intro e0 ?_)
                            refine zq_goto (pc' := 130) rfl rfl rfl ?_
                            refine zq_istore (pc' := 132) rfl rfl rfl ?_
                            refine zq_aload (pc' := 133) rfl rfl rfl rfl ?_
                            refine zq_aload (pc' := 134) rfl rfl rfl rfl ?_
                            obtain ⟨a69, e0, H⟩ := H
                            refine zq_getR (pc' := 137) rfl rfl rfl e0 ?_
                            refine zq_ipush (pc' := 138) rfl rfl rfl ?_
                            refine zq_callv (pc' := 141) rfl rfl rfl rfl rfl rfl (zE_mono H (fun r71 h70 H => ?_))
                            rcases r71 with v72 | e73
                            · obtain ⟨e0, H⟩ := H
                              refine And.intro e0 ?_
                              refine zq_iload (pc' := 143) rfl rfl rfl rfl ?_
                              exact zq_iret rfl trivial H
                            · exact H
                          · exact H
                        · have H := H.2 c
                          refine zq_iload (pc' := 111) rfl rfl rfl rfl ?_
                          refine zq_ipush (pc' := 112) rfl rfl rfl ?_
                          refine zq_icne (pc' := 115) rfl rfl rfl rfl (And.intro (fun c => ?_) (fun c => ?_))
                          · have H := H.1 c
                            refine zq_aload (pc' := 116) rfl rfl rfl rfl ?_
                            refine zq_iload (pc' := 117) rfl rfl rfl rfl ?_
                            refine zq_ipush (pc' := 118) rfl rfl rfl ?_
                            refine zq_calli (pc' := 121) rfl rfl rfl rfl rfl rfl (zE_mono H (fun r75 h74 H => ?_))
                            rcases r75 with v76 | e77
                            · obtain ⟨x78, e0, H⟩ := H
                              refine Exists.intro x78 (And.intro e0 ?_)
                              refine zq_goto (pc' := 130) rfl rfl rfl ?_
                              refine zq_istore (pc' := 132) rfl rfl rfl ?_
                              refine zq_aload (pc' := 133) rfl rfl rfl rfl ?_
                              refine zq_aload (pc' := 134) rfl rfl rfl rfl ?_
                              obtain ⟨a79, e0, H⟩ := H
                              refine zq_getR (pc' := 137) rfl rfl rfl e0 ?_
                              refine zq_ipush (pc' := 138) rfl rfl rfl ?_
                              refine zq_callv (pc' := 141) rfl rfl rfl rfl rfl rfl (zE_mono H (fun r81 h80 H => ?_))
                              rcases r81 with v82 | e83
                              · obtain ⟨e0, H⟩ := H
                                refine And.intro e0 ?_
                                refine zq_iload (pc' := 143) rfl rfl rfl rfl ?_
                                exact zq_iret rfl trivial H
                              · exact H
                            · exact H
                          · have H := H.2 c
                            refine zq_aload (pc' := 125) rfl rfl rfl rfl ?_
                            obtain ⟨a84, e0, H⟩ := H
                            refine zq_getR (pc' := 128) rfl rfl rfl e0 ?_
                            refine zq_iload (pc' := 129) rfl rfl rfl rfl ?_
                            obtain ⟨x85, e0, H⟩ := H
                            refine zq_iald (pc' := 130) rfl rfl rfl e0 ?_
                            refine zq_istore (pc' := 132) rfl rfl rfl ?_
                            refine zq_aload (pc' := 133) rfl rfl rfl rfl ?_
                            refine zq_aload (pc' := 134) rfl rfl rfl rfl ?_
                            obtain ⟨a86, e0, H⟩ := H
                            refine zq_getR (pc' := 137) rfl rfl rfl e0 ?_
                            refine zq_ipush (pc' := 138) rfl rfl rfl ?_
                            refine zq_callv (pc' := 141) rfl rfl rfl rfl rfl rfl (zE_mono H (fun r88 h87 H => ?_))
                            rcases r88 with v89 | e90
                            · obtain ⟨e0, H⟩ := H
                              refine And.intro e0 ?_
                              refine zq_iload (pc' := 143) rfl rfl rfl rfl ?_
                              exact zq_iret rfl trivial H
                            · exact H
                  · exact H
                · exact H
              · exact H
          · exact H
      · exact H
  · exact H
theorem zr_X8_firstBurst_0 {d : Nat} {Q : zR → zH → Prop} {p0 : Nat} {p1 : Int32} {p2 : Int32} {h : zH} (H :
    ∃ a1 : Nat, zgf h p0 8 39 = some (.ref a1) ∧
    zE d 249 [.ref p0, .ref a1, .int 0] h (fun r3 h2 => match r3 with
      | .inl v4 => v4 = none ∧ zW (zE d) zm_X8_firstBurst Q (14, [(0, .ref p0), (1, .int p1), (2, .int p2), (3, .int (-1)), (4, .int 1)], [], h2)
      | .inr e5 => Q (.inr e5) h2)) : zW (zE d) zm_X8_firstBurst Q (0, [(0, .ref p0), (1, .int p1), (2, .int p2)], [], h) := by
  refine zq_aload (pc' := 1) rfl rfl rfl rfl ?_
  refine zq_aload (pc' := 2) rfl rfl rfl rfl ?_
  obtain ⟨a1, e0, H⟩ := H
  refine zq_getR (pc' := 5) rfl rfl rfl e0 ?_
  refine zq_ipush (pc' := 6) rfl rfl rfl ?_
  refine zq_callv (pc' := 9) rfl rfl rfl rfl rfl rfl (zE_mono H (fun r3 h2 H => ?_))
  rcases r3 with v4 | e5
  · obtain ⟨e0, H⟩ := H
    refine And.intro e0 ?_
    refine zq_ipushn (pc' := 10) rfl rfl rfl ?_
    refine zq_istore (pc' := 11) rfl rfl rfl ?_
    refine zq_ipush (pc' := 12) rfl rfl rfl ?_
    refine zq_istore_c (pc' := 14) rfl rfl ?_
    exact H
  · exact H
theorem zr_X8_firstBurst_14 {d : Nat} {Q : zR → zH → Prop} {l0 : Nat} {l1 : Int32} {l2 : Int32} {l3 : Int32} {l4 : Int32} {h : zH} (H :
    zbr (60 < l4)
    (∃ a1 : Nat, zgf h l0 8 39 = some (.ref a1) ∧
      zE d 250 [.ref l0, .ref a1, .int 0] h (fun r3 h2 => match r3 with
        | .inl v4 => v4 = none ∧ Q (.inl (some (.int l3))) h2
        | .inr e5 => Q (.inr e5) h2))
    (zbr (l3 = (-1))
      (zE d 265 [.ref l0, .int 1] h (fun r7 h6 => match r7 with
          | .inl v8 => v8 = none ∧ ∃ a10 : Nat, zgf h6 l0 8 36 = some (.ref a10) ∧
            ∃ x11, zia h6 a10 l1 = some x11 ∧
            zbr (x11 = 0)
            (zW (zE d) zm_X8_firstBurst Q (14, [(0, .ref l0), (1, .int l1), (2, .int l2), (3, .int l3), (4, .int (l4 + 1))], [], h6))
            (zbr (l2 = 0)
              (zW (zE d) zm_X8_firstBurst Q (14, [(0, .ref l0), (1, .int l1), (2, .int l2), (3, .int l4), (4, .int (l4 + 1))], [], h6))
              (∃ a12 : Nat, zgf h6 l0 8 37 = some (.ref a12) ∧
                ∃ x13, zia h6 a12 l1 = some x13 ∧
                zW (zE d) zm_X8_firstBurst Q (14, [(0, .ref l0), (1, .int l1), (2, .int l2), (3, .int x13), (4, .int (l4 + 1))], [], h6)))
          | .inr e9 => Q (.inr e9) h6))
      (∃ a14 : Nat, zgf h l0 8 39 = some (.ref a14) ∧
        zE d 250 [.ref l0, .ref a14, .int 0] h (fun r16 h15 => match r16 with
          | .inl v17 => v17 = none ∧ Q (.inl (some (.int l3))) h15
          | .inr e18 => Q (.inr e18) h15)))) : zW (zE d) zm_X8_firstBurst Q (14, [(0, .ref l0), (1, .int l1), (2, .int l2), (3, .int l3), (4, .int l4)], [], h) := by
  refine zq_iload (pc' := 16) rfl rfl rfl rfl ?_
  refine zq_ipush (pc' := 18) rfl rfl rfl ?_
  refine zq_icgt (pc' := 21) rfl rfl rfl rfl (And.intro (fun c => ?_) (fun c => ?_))
  · have H := H.1 c
    refine zq_aload (pc' := 63) rfl rfl rfl rfl ?_
    refine zq_aload (pc' := 64) rfl rfl rfl rfl ?_
    obtain ⟨a1, e0, H⟩ := H
    refine zq_getR (pc' := 67) rfl rfl rfl e0 ?_
    refine zq_ipush (pc' := 68) rfl rfl rfl ?_
    refine zq_callv (pc' := 71) rfl rfl rfl rfl rfl rfl (zE_mono H (fun r3 h2 H => ?_))
    rcases r3 with v4 | e5
    · obtain ⟨e0, H⟩ := H
      refine And.intro e0 ?_
      refine zq_iload (pc' := 72) rfl rfl rfl rfl ?_
      exact zq_iret rfl trivial H
    · exact H
  · have H := H.2 c
    refine zq_iload (pc' := 22) rfl rfl rfl rfl ?_
    refine zq_ipushn (pc' := 23) rfl rfl rfl ?_
    refine zq_icne (pc' := 26) rfl rfl rfl rfl (And.intro (fun c => ?_) (fun c => ?_))
    · have H := H.1 c
      refine zq_aload (pc' := 27) rfl rfl rfl rfl ?_
      refine zq_ipush (pc' := 28) rfl rfl rfl ?_
      refine zq_callv (pc' := 31) rfl rfl rfl rfl rfl rfl (zE_mono H (fun r7 h6 H => ?_))
      rcases r7 with v8 | e9
      · obtain ⟨e0, H⟩ := H
        refine And.intro e0 ?_
        refine zq_aload (pc' := 32) rfl rfl rfl rfl ?_
        obtain ⟨a10, e0, H⟩ := H
        refine zq_getR (pc' := 35) rfl rfl rfl e0 ?_
        refine zq_iload (pc' := 36) rfl rfl rfl rfl ?_
        obtain ⟨x11, e0, H⟩ := H
        refine zq_iald (pc' := 37) rfl rfl rfl e0 ?_
        refine zq_ifeq (pc' := 40) rfl rfl rfl rfl (And.intro (fun c => ?_) (fun c => ?_))
        · have H := H.1 c
          refine zq_iinc (pc' := 59) rfl rfl rfl rfl ?_
          refine zq_goto_c (pc' := 14) rfl rfl ?_
          exact H
        · have H := H.2 c
          refine zq_iload (pc' := 41) rfl rfl rfl rfl ?_
          refine zq_ifeq (pc' := 44) rfl rfl rfl rfl (And.intro (fun c => ?_) (fun c => ?_))
          · have H := H.1 c
            refine zq_iload (pc' := 55) rfl rfl rfl rfl ?_
            refine zq_istore (pc' := 56) rfl rfl rfl ?_
            refine zq_iinc (pc' := 59) rfl rfl rfl rfl ?_
            refine zq_goto_c (pc' := 14) rfl rfl ?_
            exact H
          · have H := H.2 c
            refine zq_aload (pc' := 45) rfl rfl rfl rfl ?_
            obtain ⟨a12, e0, H⟩ := H
            refine zq_getR (pc' := 48) rfl rfl rfl e0 ?_
            refine zq_iload (pc' := 49) rfl rfl rfl rfl ?_
            obtain ⟨x13, e0, H⟩ := H
            refine zq_iald (pc' := 50) rfl rfl rfl e0 ?_
            refine zq_goto (pc' := 55) rfl rfl rfl ?_
            refine zq_istore (pc' := 56) rfl rfl rfl ?_
            refine zq_iinc (pc' := 59) rfl rfl rfl rfl ?_
            refine zq_goto_c (pc' := 14) rfl rfl ?_
            exact H
      · exact H
    · have H := H.2 c
      refine zq_aload (pc' := 63) rfl rfl rfl rfl ?_
      refine zq_aload (pc' := 64) rfl rfl rfl rfl ?_
      obtain ⟨a14, e0, H⟩ := H
      refine zq_getR (pc' := 67) rfl rfl rfl e0 ?_
      refine zq_ipush (pc' := 68) rfl rfl rfl ?_
      refine zq_callv (pc' := 71) rfl rfl rfl rfl rfl rfl (zE_mono H (fun r16 h15 H => ?_))
      rcases r16 with v17 | e18
      · obtain ⟨e0, H⟩ := H
        refine And.intro e0 ?_
        refine zq_iload (pc' := 72) rfl rfl rfl rfl ?_
        exact zq_iret rfl trivial H
      · exact H
theorem zr_X8_goneIn_0 {d : Nat} {Q : zR → zH → Prop} {p0 : Nat} {p1 : Int32} {h : zH} (H :
    ∃ a1 : Nat, zgf h p0 8 39 = some (.ref a1) ∧
    zE d 249 [.ref p0, .ref a1, .int 0] h (fun r3 h2 => match r3 with
      | .inl v4 => v4 = none ∧ zW (zE d) zm_X8_goneIn Q (13, [(0, .ref p0), (1, .int p1), (2, .int (-1)), (3, .int 0)], [], h2)
      | .inr e5 => Q (.inr e5) h2)) : zW (zE d) zm_X8_goneIn Q (0, [(0, .ref p0), (1, .int p1)], [], h) := by
  refine zq_aload (pc' := 1) rfl rfl rfl rfl ?_
  refine zq_aload (pc' := 2) rfl rfl rfl rfl ?_
  obtain ⟨a1, e0, H⟩ := H
  refine zq_getR (pc' := 5) rfl rfl rfl e0 ?_
  refine zq_ipush (pc' := 6) rfl rfl rfl ?_
  refine zq_callv (pc' := 9) rfl rfl rfl rfl rfl rfl (zE_mono H (fun r3 h2 H => ?_))
  rcases r3 with v4 | e5
  · obtain ⟨e0, H⟩ := H
    refine And.intro e0 ?_
    refine zq_ipushn (pc' := 10) rfl rfl rfl ?_
    refine zq_istore (pc' := 11) rfl rfl rfl ?_
    refine zq_ipush (pc' := 12) rfl rfl rfl ?_
    refine zq_istore_c (pc' := 13) rfl rfl ?_
    exact H
  · exact H
theorem zr_X8_goneIn_13 {d : Nat} {Q : zR → zH → Prop} {l0 : Nat} {l1 : Int32} {l2 : Int32} {l3 : Int32} {h : zH} (H :
    zbr (60 < l3)
    (∃ a1 : Nat, zgf h l0 8 39 = some (.ref a1) ∧
      zE d 250 [.ref l0, .ref a1, .int 0] h (fun r3 h2 => match r3 with
        | .inl v4 => v4 = none ∧ Q (.inl (some (.int l2))) h2
        | .inr e5 => Q (.inr e5) h2))
    (zbr (l2 = (-1))
      (∃ a6 : Nat, zgf h l0 8 29 = some (.ref a6) ∧
        ∃ x7, zia h a6 l1 = some x7 ∧
        zbr (x7 = 0)
        (zE d 265 [.ref l0, .int 1] h (fun r9 h8 => match r9 with
            | .inl v10 => v10 = none ∧ zW (zE d) zm_X8_goneIn Q (13, [(0, .ref l0), (1, .int l1), (2, .int l3), (3, .int (l3 + 1))], [], h8)
            | .inr e11 => Q (.inr e11) h8))
        (zE d 265 [.ref l0, .int 1] h (fun r13 h12 => match r13 with
            | .inl v14 => v14 = none ∧ zW (zE d) zm_X8_goneIn Q (13, [(0, .ref l0), (1, .int l1), (2, .int l2), (3, .int (l3 + 1))], [], h12)
            | .inr e15 => Q (.inr e15) h12)))
      (∃ a16 : Nat, zgf h l0 8 39 = some (.ref a16) ∧
        zE d 250 [.ref l0, .ref a16, .int 0] h (fun r18 h17 => match r18 with
          | .inl v19 => v19 = none ∧ Q (.inl (some (.int l2))) h17
          | .inr e20 => Q (.inr e20) h17)))) : zW (zE d) zm_X8_goneIn Q (13, [(0, .ref l0), (1, .int l1), (2, .int l2), (3, .int l3)], [], h) := by
  refine zq_iload (pc' := 14) rfl rfl rfl rfl ?_
  refine zq_ipush (pc' := 16) rfl rfl rfl ?_
  refine zq_icgt (pc' := 19) rfl rfl rfl rfl (And.intro (fun c => ?_) (fun c => ?_))
  · have H := H.1 c
    refine zq_aload (pc' := 47) rfl rfl rfl rfl ?_
    refine zq_aload (pc' := 48) rfl rfl rfl rfl ?_
    obtain ⟨a1, e0, H⟩ := H
    refine zq_getR (pc' := 51) rfl rfl rfl e0 ?_
    refine zq_ipush (pc' := 52) rfl rfl rfl ?_
    refine zq_callv (pc' := 55) rfl rfl rfl rfl rfl rfl (zE_mono H (fun r3 h2 H => ?_))
    rcases r3 with v4 | e5
    · obtain ⟨e0, H⟩ := H
      refine And.intro e0 ?_
      refine zq_iload (pc' := 56) rfl rfl rfl rfl ?_
      exact zq_iret rfl trivial H
    · exact H
  · have H := H.2 c
    refine zq_iload (pc' := 20) rfl rfl rfl rfl ?_
    refine zq_ipushn (pc' := 21) rfl rfl rfl ?_
    refine zq_icne (pc' := 24) rfl rfl rfl rfl (And.intro (fun c => ?_) (fun c => ?_))
    · have H := H.1 c
      refine zq_aload (pc' := 25) rfl rfl rfl rfl ?_
      obtain ⟨a6, e0, H⟩ := H
      refine zq_getR (pc' := 28) rfl rfl rfl e0 ?_
      refine zq_iload (pc' := 29) rfl rfl rfl rfl ?_
      obtain ⟨x7, e0, H⟩ := H
      refine zq_iald (pc' := 30) rfl rfl rfl e0 ?_
      refine zq_ifne (pc' := 33) rfl rfl rfl rfl (And.intro (fun c => ?_) (fun c => ?_))
      · have H := H.1 c
        refine zq_iload (pc' := 34) rfl rfl rfl rfl ?_
        refine zq_istore (pc' := 35) rfl rfl rfl ?_
        refine zq_aload (pc' := 36) rfl rfl rfl rfl ?_
        refine zq_ipush (pc' := 37) rfl rfl rfl ?_
        refine zq_callv (pc' := 40) rfl rfl rfl rfl rfl rfl (zE_mono H (fun r9 h8 H => ?_))
        rcases r9 with v10 | e11
        · obtain ⟨e0, H⟩ := H
          refine And.intro e0 ?_
          refine zq_iinc (pc' := 43) rfl rfl rfl rfl ?_
          refine zq_goto_c (pc' := 13) rfl rfl ?_
          exact H
        · exact H
      · have H := H.2 c
        refine zq_aload (pc' := 36) rfl rfl rfl rfl ?_
        refine zq_ipush (pc' := 37) rfl rfl rfl ?_
        refine zq_callv (pc' := 40) rfl rfl rfl rfl rfl rfl (zE_mono H (fun r13 h12 H => ?_))
        rcases r13 with v14 | e15
        · obtain ⟨e0, H⟩ := H
          refine And.intro e0 ?_
          refine zq_iinc (pc' := 43) rfl rfl rfl rfl ?_
          refine zq_goto_c (pc' := 13) rfl rfl ?_
          exact H
        · exact H
    · have H := H.2 c
      refine zq_aload (pc' := 47) rfl rfl rfl rfl ?_
      refine zq_aload (pc' := 48) rfl rfl rfl rfl ?_
      obtain ⟨a16, e0, H⟩ := H
      refine zq_getR (pc' := 51) rfl rfl rfl e0 ?_
      refine zq_ipush (pc' := 52) rfl rfl rfl ?_
      refine zq_callv (pc' := 55) rfl rfl rfl rfl rfl rfl (zE_mono H (fun r18 h17 H => ?_))
      rcases r18 with v19 | e20
      · obtain ⟨e0, H⟩ := H
        refine And.intro e0 ?_
        refine zq_iload (pc' := 56) rfl rfl rfl rfl ?_
        exact zq_iret rfl trivial H
      · exact H
theorem zr_X8_when_0 {d : Nat} {Q : zR → zH → Prop} {p0 : Nat} {p1 : Int32} {p2 : Int32} {h : zH} (H :
    ∃ h1, zpf h p0 8 4 (.int 0) = some h1 ∧
    zE d 220 [.ref p0, .int p1] h1 (fun r3 h2 => match r3 with
      | .inl v4 => ∃ x6 : Int32, v4 = some (.int x6) ∧ zbr (x6 = 0)
        (zE d 215 [.ref p0, .int 1] h2 (fun r8 h7 => match r8 with
            | .inl v9 => ∃ x11 : Int32, v9 = some (.int x11) ∧ Q (.inl (some (.int x11))) h7
            | .inr e10 => Q (.inr e10) h7))
        (zE d 217 [.long ((p2 : Int32).toInt64), .long 0, .long 2] h2 (fun r13 h12 => match r13 with
            | .inl v14 => ∃ x16 : Int32, v14 = some (.int x16) ∧ zbr (x16 = 0)
              (zE d 215 [.ref p0, .int 1] h12 (fun r18 h17 => match r18 with
                  | .inl v19 => ∃ x21 : Int32, v19 = some (.int x21) ∧ Q (.inl (some (.int x21))) h17
                  | .inr e20 => Q (.inr e20) h17))
              (zbr (p2 = 2)
                (zE d 288 [.ref p0, .int p1] h12 (fun r23 h22 => match r23 with
                    | .inl v24 => ∃ x26 : Int32, v24 = some (.int x26) ∧ Q (.inl (some (.int x26))) h22
                    | .inr e25 => Q (.inr e25) h22))
                (zbr (p2 = 1)
                  (zE d 287 [.ref p0, .int p1, .int 1] h12 (fun r28 h27 => match r28 with
                      | .inl v29 => ∃ x31 : Int32, v29 = some (.int x31) ∧ Q (.inl (some (.int x31))) h27
                      | .inr e30 => Q (.inr e30) h27))
                  (zE d 287 [.ref p0, .int p1, .int 0] h12 (fun r33 h32 => match r33 with
                      | .inl v34 => ∃ x36 : Int32, v34 = some (.int x36) ∧ Q (.inl (some (.int x36))) h32
                      | .inr e35 => Q (.inr e35) h32))))
            | .inr e15 => Q (.inr e15) h12))
      | .inr e5 => Q (.inr e5) h2)) : zW (zE d) zm_X8_when Q (0, [(0, .ref p0), (1, .int p1), (2, .int p2)], [], h) := by
  refine zq_aload (pc' := 1) rfl rfl rfl rfl ?_
  refine zq_ipush (pc' := 2) rfl rfl rfl ?_
  obtain ⟨h1, e0, H⟩ := H
  refine zq_put (pc' := 5) rfl rfl rfl trivial e0 ?_
  refine zq_aload (pc' := 6) rfl rfl rfl rfl ?_
  refine zq_iload (pc' := 7) rfl rfl rfl rfl ?_
  refine zq_calli (pc' := 10) rfl rfl rfl rfl rfl rfl (zE_mono H (fun r3 h2 H => ?_))
  rcases r3 with v4 | e5
  · obtain ⟨x6, e0, H⟩ := H
    refine Exists.intro x6 (And.intro e0 ?_)
    refine zq_ifeq (pc' := 13) rfl rfl rfl rfl (And.intro (fun c => ?_) (fun c => ?_))
    · have H := H.1 c
      refine zq_aload (pc' := 26) rfl rfl rfl rfl ?_
      refine zq_ipush (pc' := 27) rfl rfl rfl ?_
      refine zq_calli (pc' := 30) rfl rfl rfl rfl rfl rfl (zE_mono H (fun r8 h7 H => ?_))
      rcases r8 with v9 | e10
      · obtain ⟨x11, e0, H⟩ := H
        refine Exists.intro x11 (And.intro e0 ?_)
        exact zq_iret rfl trivial H
      · exact H
    · have H := H.2 c
      refine zq_iload (pc' := 14) rfl rfl rfl rfl ?_
      refine zq_i2l (pc' := 15) rfl rfl rfl ?_
      refine zq_lpush (pc' := 16) rfl rfl rfl ?_
      refine zq_lpush (pc' := 19) rfl rfl rfl ?_
      refine zq_calli (pc' := 22) rfl rfl rfl rfl rfl rfl (zE_mono H (fun r13 h12 H => ?_))
      rcases r13 with v14 | e15
      · obtain ⟨x16, e0, H⟩ := H
        refine Exists.intro x16 (And.intro e0 ?_)
        refine zq_ifne (pc' := 25) rfl rfl rfl rfl (And.intro (fun c => ?_) (fun c => ?_))
        · have H := H.1 c
          refine zq_aload (pc' := 26) rfl rfl rfl rfl ?_
          refine zq_ipush (pc' := 27) rfl rfl rfl ?_
          refine zq_calli (pc' := 30) rfl rfl rfl rfl rfl rfl (zE_mono H (fun r18 h17 H => ?_))
          rcases r18 with v19 | e20
          · obtain ⟨x21, e0, H⟩ := H
            refine Exists.intro x21 (And.intro e0 ?_)
            exact zq_iret rfl trivial H
          · exact H
        · have H := H.2 c
          refine zq_iload (pc' := 32) rfl rfl rfl rfl ?_
          refine zq_ipush (pc' := 33) rfl rfl rfl ?_
          refine zq_icne (pc' := 36) rfl rfl rfl rfl (And.intro (fun c => ?_) (fun c => ?_))
          · have H := H.1 c
            refine zq_aload (pc' := 37) rfl rfl rfl rfl ?_
            refine zq_iload (pc' := 38) rfl rfl rfl rfl ?_
            refine zq_calli (pc' := 41) rfl rfl rfl rfl rfl rfl (zE_mono H (fun r23 h22 H => ?_))
            rcases r23 with v24 | e25
            · obtain ⟨x26, e0, H⟩ := H
              refine Exists.intro x26 (And.intro e0 ?_)
              refine zq_goto (pc' := 59) rfl rfl rfl ?_
              exact zq_iret rfl trivial H
            · exact H
          · have H := H.2 c
            refine zq_aload (pc' := 45) rfl rfl rfl rfl ?_
            refine zq_iload (pc' := 46) rfl rfl rfl rfl ?_
            refine zq_iload (pc' := 47) rfl rfl rfl rfl ?_
            refine zq_ipush (pc' := 48) rfl rfl rfl ?_
            refine zq_icne (pc' := 51) rfl rfl rfl rfl (And.intro (fun c => ?_) (fun c => ?_))
            · have H := H.1 c
              refine zq_ipush (pc' := 52) rfl rfl rfl ?_
              refine zq_goto (pc' := 56) rfl rfl rfl ?_
              refine zq_calli (pc' := 59) rfl rfl rfl rfl rfl rfl (zE_mono H (fun r28 h27 H => ?_))
              rcases r28 with v29 | e30
              · obtain ⟨x31, e0, H⟩ := H
                refine Exists.intro x31 (And.intro e0 ?_)
                exact zq_iret rfl trivial H
              · exact H
            · have H := H.2 c
              refine zq_ipush (pc' := 56) rfl rfl rfl ?_
              refine zq_calli (pc' := 59) rfl rfl rfl rfl rfl rfl (zE_mono H (fun r33 h32 H => ?_))
              rcases r33 with v34 | e35
              · obtain ⟨x36, e0, H⟩ := H
                refine Exists.intro x36 (And.intro e0 ?_)
                exact zq_iret rfl trivial H
              · exact H
      · exact H
  · exact H
theorem zr_X8_bursts_0 {d : Nat} {Q : zR → zH → Prop} {p0 : Nat} {p1 : Int32} {p2 : Int32} {h : zH} (H :
    ∃ h1, zpf h p0 8 4 (.int 0) = some h1 ∧
    zE d 221 [.ref p0, .int p1, .int p2] h1 (fun r3 h2 => match r3 with
      | .inl v4 => ∃ x6 : Int32, v4 = some (.int x6) ∧ zbr (x6 = 0)
        (zE d 215 [.ref p0, .int 1] h2 (fun r8 h7 => match r8 with
            | .inl v9 => ∃ x11 : Int32, v9 = some (.int x11) ∧ Q (.inl (some (.int x11))) h7
            | .inr e10 => Q (.inr e10) h7))
        (∃ a12 : Nat, zgf h2 p0 8 39 = some (.ref a12) ∧
          zE d 249 [.ref p0, .ref a12, .int 0] h2 (fun r14 h13 => match r14 with
            | .inl v15 => v15 = none ∧ zW (zE d) zm_X8_bursts Q (34, [(0, .ref p0), (1, .int p1), (2, .int p2), (3, .int (-1)), (4, .int 1)], [], h13)
            | .inr e16 => Q (.inr e16) h13))
      | .inr e5 => Q (.inr e5) h2)) : zW (zE d) zm_X8_bursts Q (0, [(0, .ref p0), (1, .int p1), (2, .int p2)], [], h) := by
  refine zq_aload (pc' := 1) rfl rfl rfl rfl ?_
  refine zq_ipush (pc' := 2) rfl rfl rfl ?_
  obtain ⟨h1, e0, H⟩ := H
  refine zq_put (pc' := 5) rfl rfl rfl trivial e0 ?_
  refine zq_aload (pc' := 6) rfl rfl rfl rfl ?_
  refine zq_iload (pc' := 7) rfl rfl rfl rfl ?_
  refine zq_iload (pc' := 8) rfl rfl rfl rfl ?_
  refine zq_calli (pc' := 11) rfl rfl rfl rfl rfl rfl (zE_mono H (fun r3 h2 H => ?_))
  rcases r3 with v4 | e5
  · obtain ⟨x6, e0, H⟩ := H
    refine Exists.intro x6 (And.intro e0 ?_)
    refine zq_ifne (pc' := 14) rfl rfl rfl rfl (And.intro (fun c => ?_) (fun c => ?_))
    · have H := H.1 c
      refine zq_aload (pc' := 15) rfl rfl rfl rfl ?_
      refine zq_ipush (pc' := 16) rfl rfl rfl ?_
      refine zq_calli (pc' := 19) rfl rfl rfl rfl rfl rfl (zE_mono H (fun r8 h7 H => ?_))
      rcases r8 with v9 | e10
      · obtain ⟨x11, e0, H⟩ := H
        refine Exists.intro x11 (And.intro e0 ?_)
        exact zq_iret rfl trivial H
      · exact H
    · have H := H.2 c
      refine zq_aload (pc' := 21) rfl rfl rfl rfl ?_
      refine zq_aload (pc' := 22) rfl rfl rfl rfl ?_
      obtain ⟨a12, e0, H⟩ := H
      refine zq_getR (pc' := 25) rfl rfl rfl e0 ?_
      refine zq_ipush (pc' := 26) rfl rfl rfl ?_
      refine zq_callv (pc' := 29) rfl rfl rfl rfl rfl rfl (zE_mono H (fun r14 h13 H => ?_))
      rcases r14 with v15 | e16
      · obtain ⟨e0, H⟩ := H
        refine And.intro e0 ?_
        refine zq_ipushn (pc' := 30) rfl rfl rfl ?_
        refine zq_istore (pc' := 31) rfl rfl rfl ?_
        refine zq_ipush (pc' := 32) rfl rfl rfl ?_
        refine zq_istore_c (pc' := 34) rfl rfl ?_
        exact H
      · exact H
  · exact H
theorem zr_X8_bursts_34 {d : Nat} {Q : zR → zH → Prop} {l0 : Nat} {l1 : Int32} {l2 : Int32} {l3 : Int32} {l4 : Int32} {h : zH} (H :
    zbr (60 < l4)
    (∃ a1 : Nat, zgf h l0 8 39 = some (.ref a1) ∧
      zE d 250 [.ref l0, .ref a1, .int 0] h (fun r3 h2 => match r3 with
        | .inl v4 => v4 = none ∧ Q (.inl (some (.int l3))) h2
        | .inr e5 => Q (.inr e5) h2))
    (zbr (l3 = (-1))
      (zE d 265 [.ref l0, .int 1] h (fun r7 h6 => match r7 with
          | .inl v8 => v8 = none ∧ ∃ a10 : Nat, zgf h6 l0 8 36 = some (.ref a10) ∧
            ∃ x11, zia h6 a10 l1 = some x11 ∧
            zE d 218 [.int x11, .int l2] h6 (fun r13 h12 => match r13 with
              | .inl v14 => ∃ x16 : Int32, v14 = some (.int x16) ∧ zbr (x16 = 0)
                (zW (zE d) zm_X8_bursts Q (34, [(0, .ref l0), (1, .int l1), (2, .int l2), (3, .int l3), (4, .int (l4 + 1))], [], h12))
                (zW (zE d) zm_X8_bursts Q (34, [(0, .ref l0), (1, .int l1), (2, .int l2), (3, .int l4), (4, .int (l4 + 1))], [], h12))
              | .inr e15 => Q (.inr e15) h12)
          | .inr e9 => Q (.inr e9) h6))
      (∃ a17 : Nat, zgf h l0 8 39 = some (.ref a17) ∧
        zE d 250 [.ref l0, .ref a17, .int 0] h (fun r19 h18 => match r19 with
          | .inl v20 => v20 = none ∧ Q (.inl (some (.int l3))) h18
          | .inr e21 => Q (.inr e21) h18)))) : zW (zE d) zm_X8_bursts Q (34, [(0, .ref l0), (1, .int l1), (2, .int l2), (3, .int l3), (4, .int l4)], [], h) := by
  refine zq_iload (pc' := 36) rfl rfl rfl rfl ?_
  refine zq_ipush (pc' := 38) rfl rfl rfl ?_
  refine zq_icgt (pc' := 41) rfl rfl rfl rfl (And.intro (fun c => ?_) (fun c => ?_))
  · have H := H.1 c
    refine zq_aload (pc' := 74) rfl rfl rfl rfl ?_
    refine zq_aload (pc' := 75) rfl rfl rfl rfl ?_
    obtain ⟨a1, e0, H⟩ := H
    refine zq_getR (pc' := 78) rfl rfl rfl e0 ?_
    refine zq_ipush (pc' := 79) rfl rfl rfl ?_
    refine zq_callv (pc' := 82) rfl rfl rfl rfl rfl rfl (zE_mono H (fun r3 h2 H => ?_))
    rcases r3 with v4 | e5
    · obtain ⟨e0, H⟩ := H
      refine And.intro e0 ?_
      refine zq_iload (pc' := 83) rfl rfl rfl rfl ?_
      exact zq_iret rfl trivial H
    · exact H
  · have H := H.2 c
    refine zq_iload (pc' := 42) rfl rfl rfl rfl ?_
    refine zq_ipushn (pc' := 43) rfl rfl rfl ?_
    refine zq_icne (pc' := 46) rfl rfl rfl rfl (And.intro (fun c => ?_) (fun c => ?_))
    · have H := H.1 c
      refine zq_aload (pc' := 47) rfl rfl rfl rfl ?_
      refine zq_ipush (pc' := 48) rfl rfl rfl ?_
      refine zq_callv (pc' := 51) rfl rfl rfl rfl rfl rfl (zE_mono H (fun r7 h6 H => ?_))
      rcases r7 with v8 | e9
      · obtain ⟨e0, H⟩ := H
        refine And.intro e0 ?_
        refine zq_aload (pc' := 52) rfl rfl rfl rfl ?_
        obtain ⟨a10, e0, H⟩ := H
        refine zq_getR (pc' := 55) rfl rfl rfl e0 ?_
        refine zq_iload (pc' := 56) rfl rfl rfl rfl ?_
        obtain ⟨x11, e0, H⟩ := H
        refine zq_iald (pc' := 57) rfl rfl rfl e0 ?_
        refine zq_iload (pc' := 58) rfl rfl rfl rfl ?_
        refine zq_calli (pc' := 61) rfl rfl rfl rfl rfl rfl (zE_mono H (fun r13 h12 H => ?_))
        rcases r13 with v14 | e15
        · obtain ⟨x16, e0, H⟩ := H
          refine Exists.intro x16 (And.intro e0 ?_)
          refine zq_ifeq (pc' := 64) rfl rfl rfl rfl (And.intro (fun c => ?_) (fun c => ?_))
          · have H := H.1 c
            refine zq_iinc (pc' := 70) rfl rfl rfl rfl ?_
            refine zq_goto_c (pc' := 34) rfl rfl ?_
            exact H
          · have H := H.2 c
            refine zq_iload (pc' := 66) rfl rfl rfl rfl ?_
            refine zq_istore (pc' := 67) rfl rfl rfl ?_
            refine zq_iinc (pc' := 70) rfl rfl rfl rfl ?_
            refine zq_goto_c (pc' := 34) rfl rfl ?_
            exact H
        · exact H
      · exact H
    · have H := H.2 c
      refine zq_aload (pc' := 74) rfl rfl rfl rfl ?_
      refine zq_aload (pc' := 75) rfl rfl rfl rfl ?_
      obtain ⟨a17, e0, H⟩ := H
      refine zq_getR (pc' := 78) rfl rfl rfl e0 ?_
      refine zq_ipush (pc' := 79) rfl rfl rfl ?_
      refine zq_callv (pc' := 82) rfl rfl rfl rfl rfl rfl (zE_mono H (fun r19 h18 H => ?_))
      rcases r19 with v20 | e21
      · obtain ⟨e0, H⟩ := H
        refine And.intro e0 ?_
        refine zq_iload (pc' := 83) rfl rfl rfl rfl ?_
        exact zq_iret rfl trivial H
      · exact H
theorem zr_X8_bestZip_0 {d : Nat} {Q : zR → zH → Prop} {p0 : Nat} {h : zH} (H :
    zW (zE d) zm_X8_bestZip Q (4, [(0, .ref p0), (1, .int (-1)), (2, .int 0)], [], h)) : zW (zE d) zm_X8_bestZip Q (0, [(0, .ref p0)], [], h) := by
  refine zq_ipushn (pc' := 1) rfl rfl rfl ?_
  refine zq_istore (pc' := 2) rfl rfl rfl ?_
  refine zq_ipush (pc' := 3) rfl rfl rfl ?_
  refine zq_istore_c (pc' := 4) rfl rfl ?_
  exact H
theorem zr_X8_bestZip_4 {d : Nat} {Q : zR → zH → Prop} {l0 : Nat} {l1 : Int32} {l2 : Int32} {h : zH} (H :
    ∃ a1 : Nat, zgf h l0 8 5 = some (.ref a1) ∧
    ∃ x2, zia h a1 0 = some x2 ∧
    zbr (x2 ≤ l2)
    (Q (.inl (some (.int l1))) h)
    (zbr (l1 = (-1))
      (zW (zE d) zm_X8_bestZip Q (4, [(0, .ref l0), (1, .int l2), (2, .int (l2 + 1))], [], h))
      (∃ a3 : Nat, zgf h l0 8 29 = some (.ref a3) ∧
        ∃ x4, zia h a3 l2 = some x4 ∧
        zE d 219 [.int x4] h (fun r6 h5 => match r6 with
          | .inl v7 => ∃ x9 : Int32, v7 = some (.int x9) ∧ ∃ a10 : Nat, zgf h5 l0 8 29 = some (.ref a10) ∧
            ∃ x11, zia h5 a10 l1 = some x11 ∧
            zE d 219 [.int x11] h5 (fun r13 h12 => match r13 with
              | .inl v14 => ∃ x16 : Int32, v14 = some (.int x16) ∧ zbr (x9 ≤ x16)
                (zW (zE d) zm_X8_bestZip Q (4, [(0, .ref l0), (1, .int l1), (2, .int (l2 + 1))], [], h12))
                (zW (zE d) zm_X8_bestZip Q (4, [(0, .ref l0), (1, .int l2), (2, .int (l2 + 1))], [], h12))
              | .inr e15 => Q (.inr e15) h12)
          | .inr e8 => Q (.inr e8) h5)))) : zW (zE d) zm_X8_bestZip Q (4, [(0, .ref l0), (1, .int l1), (2, .int l2)], [], h) := by
  refine zq_iload (pc' := 5) rfl rfl rfl rfl ?_
  refine zq_aload (pc' := 6) rfl rfl rfl rfl ?_
  obtain ⟨a1, e0, H⟩ := H
  refine zq_getR (pc' := 9) rfl rfl rfl e0 ?_
  refine zq_ipush (pc' := 10) rfl rfl rfl ?_
  obtain ⟨x2, e0, H⟩ := H
  refine zq_iald (pc' := 11) rfl rfl rfl e0 ?_
  refine zq_icge (pc' := 14) rfl rfl rfl rfl (And.intro (fun c => ?_) (fun c => ?_))
  · have H := H.1 c
    refine zq_iload (pc' := 49) rfl rfl rfl rfl ?_
    exact zq_iret rfl trivial H
  · have H := H.2 c
    refine zq_iload (pc' := 15) rfl rfl rfl rfl ?_
    refine zq_ipushn (pc' := 16) rfl rfl rfl ?_
    refine zq_iceq (pc' := 19) rfl rfl rfl rfl (And.intro (fun c => ?_) (fun c => ?_))
    · have H := H.1 c
      refine zq_iload (pc' := 41) rfl rfl rfl rfl ?_
      refine zq_istore (pc' := 42) rfl rfl rfl ?_
      refine zq_iinc (pc' := 45) rfl rfl rfl rfl ?_
      refine zq_goto_c (pc' := 4) rfl rfl ?_
      exact H
    · have H := H.2 c
      refine zq_aload (pc' := 20) rfl rfl rfl rfl ?_
      obtain ⟨a3, e0, H⟩ := H
      refine zq_getR (pc' := 23) rfl rfl rfl e0 ?_
      refine zq_iload (pc' := 24) rfl rfl rfl rfl ?_
      obtain ⟨x4, e0, H⟩ := H
      refine zq_iald (pc' := 25) rfl rfl rfl e0 ?_
      refine zq_calli (pc' := 28) rfl rfl rfl rfl rfl rfl (zE_mono H (fun r6 h5 H => ?_))
      rcases r6 with v7 | e8
      · obtain ⟨x9, e0, H⟩ := H
        refine Exists.intro x9 (And.intro e0 ?_)
        refine zq_aload (pc' := 29) rfl rfl rfl rfl ?_
        obtain ⟨a10, e0, H⟩ := H
        refine zq_getR (pc' := 32) rfl rfl rfl e0 ?_
        refine zq_iload (pc' := 33) rfl rfl rfl rfl ?_
        obtain ⟨x11, e0, H⟩ := H
        refine zq_iald (pc' := 34) rfl rfl rfl e0 ?_
        refine zq_calli (pc' := 37) rfl rfl rfl rfl rfl rfl (zE_mono H (fun r13 h12 H => ?_))
        rcases r13 with v14 | e15
        · obtain ⟨x16, e0, H⟩ := H
          refine Exists.intro x16 (And.intro e0 ?_)
          refine zq_icle (pc' := 40) rfl rfl rfl rfl (And.intro (fun c => ?_) (fun c => ?_))
          · have H := H.1 c
            refine zq_iinc (pc' := 45) rfl rfl rfl rfl ?_
            refine zq_goto_c (pc' := 4) rfl rfl ?_
            exact H
          · have H := H.2 c
            refine zq_iload (pc' := 41) rfl rfl rfl rfl ?_
            refine zq_istore (pc' := 42) rfl rfl rfl ?_
            refine zq_iinc (pc' := 45) rfl rfl rfl rfl ?_
            refine zq_goto_c (pc' := 4) rfl rfl ?_
            exact H
        · exact H
      · exact H
theorem zr_X8_later_0 {d : Nat} {Q : zR → zH → Prop} {p0 : Nat} {p1 : Int32} {p2 : Int32} {h : zH} (H :
    ∃ h1, zpf h p0 8 4 (.int 0) = some h1 ∧
    zE d 217 [.long ((p2 : Int32).toInt64), .long 0, .long 1] h1 (fun r3 h2 => match r3 with
      | .inl v4 => ∃ x6 : Int32, v4 = some (.int x6) ∧ zbr (x6 = 0)
        (zE d 215 [.ref p0, .int 1] h2 (fun r8 h7 => match r8 with
            | .inl v9 => ∃ x11 : Int32, v9 = some (.int x11) ∧ Q (.inl (some (.int x11))) h7
            | .inr e10 => Q (.inr e10) h7))
        (zE d 217 [.long ((p1 : Int32).toInt64), .long 0, .long 60] h2 (fun r13 h12 => match r13 with
            | .inl v14 => ∃ x16 : Int32, v14 = some (.int x16) ∧ zbr (x16 = 0)
              (zE d 215 [.ref p0, .int 2] h12 (fun r18 h17 => match r18 with
                  | .inl v19 => ∃ x21 : Int32, v19 = some (.int x21) ∧ Q (.inl (some (.int x21))) h17
                  | .inr e20 => Q (.inr e20) h17))
              (∃ a22 : Nat, zgf h12 p0 8 39 = some (.ref a22) ∧
                zE d 249 [.ref p0, .ref a22, .int 0] h12 (fun r24 h23 => match r24 with
                  | .inl v25 => v25 = none ∧ zE d 265 [.ref p0, .int p1] h23 (fun r28 h27 => match r28 with
                      | .inl v29 => v29 = none ∧ zbr (p2 = 0)
                        (zE d 257 [.ref p0] h27 (fun r32 h31 => match r32 with
                            | .inl v33 => ∃ x35 : Int32, v33 = some (.int x35) ∧ ∃ a36 : Nat, zgf h31 p0 8 39 = some (.ref a36) ∧
                              zE d 250 [.ref p0, .ref a36, .int 0] h31 (fun r38 h37 => match r38 with
                                | .inl v39 => v39 = none ∧ Q (.inl (some (.int x35))) h37
                                | .inr e40 => Q (.inr e40) h37)
                            | .inr e34 => Q (.inr e34) h31))
                        (zE d 291 [.ref p0] h27 (fun r42 h41 => match r42 with
                            | .inl v43 => ∃ x45 : Int32, v43 = some (.int x45) ∧ ∃ a46 : Nat, zgf h41 p0 8 39 = some (.ref a46) ∧
                              zE d 250 [.ref p0, .ref a46, .int 0] h41 (fun r48 h47 => match r48 with
                                | .inl v49 => v49 = none ∧ Q (.inl (some (.int x45))) h47
                                | .inr e50 => Q (.inr e50) h47)
                            | .inr e44 => Q (.inr e44) h41))
                      | .inr e30 => Q (.inr e30) h27)
                  | .inr e26 => Q (.inr e26) h23))
            | .inr e15 => Q (.inr e15) h12))
      | .inr e5 => Q (.inr e5) h2)) : zW (zE d) zm_X8_later Q (0, [(0, .ref p0), (1, .int p1), (2, .int p2)], [], h) := by
  refine zq_aload (pc' := 1) rfl rfl rfl rfl ?_
  refine zq_ipush (pc' := 2) rfl rfl rfl ?_
  obtain ⟨h1, e0, H⟩ := H
  refine zq_put (pc' := 5) rfl rfl rfl trivial e0 ?_
  refine zq_iload (pc' := 6) rfl rfl rfl rfl ?_
  refine zq_i2l (pc' := 7) rfl rfl rfl ?_
  refine zq_lpush (pc' := 8) rfl rfl rfl ?_
  refine zq_lpush (pc' := 9) rfl rfl rfl ?_
  refine zq_calli (pc' := 12) rfl rfl rfl rfl rfl rfl (zE_mono H (fun r3 h2 H => ?_))
  rcases r3 with v4 | e5
  · obtain ⟨x6, e0, H⟩ := H
    refine Exists.intro x6 (And.intro e0 ?_)
    refine zq_ifne (pc' := 15) rfl rfl rfl rfl (And.intro (fun c => ?_) (fun c => ?_))
    · have H := H.1 c
      refine zq_aload (pc' := 16) rfl rfl rfl rfl ?_
      refine zq_ipush (pc' := 17) rfl rfl rfl ?_
      refine zq_calli (pc' := 20) rfl rfl rfl rfl rfl rfl (zE_mono H (fun r8 h7 H => ?_))
      rcases r8 with v9 | e10
      · obtain ⟨x11, e0, H⟩ := H
        refine Exists.intro x11 (And.intro e0 ?_)
        exact zq_iret rfl trivial H
      · exact H
    · have H := H.2 c
      refine zq_iload (pc' := 22) rfl rfl rfl rfl ?_
      refine zq_i2l (pc' := 23) rfl rfl rfl ?_
      refine zq_lpush (pc' := 24) rfl rfl rfl ?_
      refine zq_lpush (pc' := 27) rfl rfl rfl ?_
      refine zq_calli (pc' := 30) rfl rfl rfl rfl rfl rfl (zE_mono H (fun r13 h12 H => ?_))
      rcases r13 with v14 | e15
      · obtain ⟨x16, e0, H⟩ := H
        refine Exists.intro x16 (And.intro e0 ?_)
        refine zq_ifne (pc' := 33) rfl rfl rfl rfl (And.intro (fun c => ?_) (fun c => ?_))
        · have H := H.1 c
          refine zq_aload (pc' := 34) rfl rfl rfl rfl ?_
          refine zq_ipush (pc' := 35) rfl rfl rfl ?_
          refine zq_calli (pc' := 38) rfl rfl rfl rfl rfl rfl (zE_mono H (fun r18 h17 H => ?_))
          rcases r18 with v19 | e20
          · obtain ⟨x21, e0, H⟩ := H
            refine Exists.intro x21 (And.intro e0 ?_)
            exact zq_iret rfl trivial H
          · exact H
        · have H := H.2 c
          refine zq_aload (pc' := 40) rfl rfl rfl rfl ?_
          refine zq_aload (pc' := 41) rfl rfl rfl rfl ?_
          obtain ⟨a22, e0, H⟩ := H
          refine zq_getR (pc' := 44) rfl rfl rfl e0 ?_
          refine zq_ipush (pc' := 45) rfl rfl rfl ?_
          refine zq_callv (pc' := 48) rfl rfl rfl rfl rfl rfl (zE_mono H (fun r24 h23 H => ?_))
          rcases r24 with v25 | e26
          · obtain ⟨e0, H⟩ := H
            refine And.intro e0 ?_
            refine zq_aload (pc' := 49) rfl rfl rfl rfl ?_
            refine zq_iload (pc' := 50) rfl rfl rfl rfl ?_
            refine zq_callv (pc' := 53) rfl rfl rfl rfl rfl rfl (zE_mono H (fun r28 h27 H => ?_))
            rcases r28 with v29 | e30
            · obtain ⟨e0, H⟩ := H
              refine And.intro e0 ?_
              refine zq_iload (pc' := 54) rfl rfl rfl rfl ?_
              refine zq_ifne (pc' := 57) rfl rfl rfl rfl (And.intro (fun c => ?_) (fun c => ?_))
              · have H := H.1 c
                refine zq_aload (pc' := 58) rfl rfl rfl rfl ?_
                refine zq_calli (pc' := 61) rfl rfl rfl rfl rfl rfl (zE_mono H (fun r32 h31 H => ?_))
                rcases r32 with v33 | e34
                · obtain ⟨x35, e0, H⟩ := H
                  refine Exists.intro x35 (And.intro e0 ?_)
                  refine zq_goto (pc' := 68) rfl rfl rfl ?_
                  refine zq_istore (pc' := 69) rfl rfl rfl ?_
                  refine zq_aload (pc' := 70) rfl rfl rfl rfl ?_
                  refine zq_aload (pc' := 71) rfl rfl rfl rfl ?_
                  obtain ⟨a36, e0, H⟩ := H
                  refine zq_getR (pc' := 74) rfl rfl rfl e0 ?_
                  refine zq_ipush (pc' := 75) rfl rfl rfl ?_
                  refine zq_callv (pc' := 78) rfl rfl rfl rfl rfl rfl (zE_mono H (fun r38 h37 H => ?_))
                  rcases r38 with v39 | e40
                  · obtain ⟨e0, H⟩ := H
                    refine And.intro e0 ?_
                    refine zq_iload (pc' := 79) rfl rfl rfl rfl ?_
                    exact zq_iret rfl trivial H
                  · exact H
                · exact H
              · have H := H.2 c
                refine zq_aload (pc' := 65) rfl rfl rfl rfl ?_
                refine zq_calli (pc' := 68) rfl rfl rfl rfl rfl rfl (zE_mono H (fun r42 h41 H => ?_))
                rcases r42 with v43 | e44
                · obtain ⟨x45, e0, H⟩ := H
                  refine Exists.intro x45 (And.intro e0 ?_)
                  refine zq_istore (pc' := 69) rfl rfl rfl ?_
                  refine zq_aload (pc' := 70) rfl rfl rfl rfl ?_
                  refine zq_aload (pc' := 71) rfl rfl rfl rfl ?_
                  obtain ⟨a46, e0, H⟩ := H
                  refine zq_getR (pc' := 74) rfl rfl rfl e0 ?_
                  refine zq_ipush (pc' := 75) rfl rfl rfl ?_
                  refine zq_callv (pc' := 78) rfl rfl rfl rfl rfl rfl (zE_mono H (fun r48 h47 H => ?_))
                  rcases r48 with v49 | e50
                  · obtain ⟨e0, H⟩ := H
                    refine And.intro e0 ?_
                    refine zq_iload (pc' := 79) rfl rfl rfl rfl ?_
                    exact zq_iret rfl trivial H
                  · exact H
                · exact H
            · exact H
          · exact H
      · exact H
  · exact H
theorem zr_X8_wearOn_0 {d : Nat} {Q : zR → zH → Prop} {p0 : Nat} {p1 : Int32} {h : zH} (H :
    ∃ a1 : Nat, zgf h p0 8 7 = some (.ref a1) ∧
    ∃ x2, zia h a1 p1 = some x2 ∧
    zE d 253 [.ref p0, .int p1, .int x2] h (fun r4 h3 => match r4 with
      | .inl v5 => v5 = none ∧ zE d 265 [.ref p0, .int 1] h3 (fun r8 h7 => match r8 with
          | .inl v9 => v9 = none ∧ Q (.inl none) h7
          | .inr e10 => Q (.inr e10) h7)
      | .inr e6 => Q (.inr e6) h3)) : zW (zE d) zm_X8_wearOn Q (0, [(0, .ref p0), (1, .int p1)], [], h) := by
  refine zq_aload (pc' := 1) rfl rfl rfl rfl ?_
  refine zq_iload (pc' := 2) rfl rfl rfl rfl ?_
  refine zq_aload (pc' := 3) rfl rfl rfl rfl ?_
  obtain ⟨a1, e0, H⟩ := H
  refine zq_getR (pc' := 6) rfl rfl rfl e0 ?_
  refine zq_iload (pc' := 7) rfl rfl rfl rfl ?_
  obtain ⟨x2, e0, H⟩ := H
  refine zq_iald (pc' := 8) rfl rfl rfl e0 ?_
  refine zq_callv (pc' := 11) rfl rfl rfl rfl rfl rfl (zE_mono H (fun r4 h3 H => ?_))
  rcases r4 with v5 | e6
  · obtain ⟨e0, H⟩ := H
    refine And.intro e0 ?_
    refine zq_aload (pc' := 12) rfl rfl rfl rfl ?_
    refine zq_ipush (pc' := 13) rfl rfl rfl ?_
    refine zq_callv (pc' := 16) rfl rfl rfl rfl rfl rfl (zE_mono H (fun r8 h7 H => ?_))
    rcases r8 with v9 | e10
    · obtain ⟨e0, H⟩ := H
      refine And.intro e0 ?_
      exact zq_vret rfl H
    · exact H
  · exact H
theorem zr_X8_daily_0 {d : Nat} {Q : zR → zH → Prop} {p0 : Nat} {p1 : Int32} {p2 : Int32} {h : zH} (H :
    ∃ h1, zpf h p0 8 4 (.int 0) = some h1 ∧
    zE d 220 [.ref p0, .int p1] h1 (fun r3 h2 => match r3 with
      | .inl v4 => ∃ x6 : Int32, v4 = some (.int x6) ∧ zbr (x6 = 0)
        (zE d 215 [.ref p0, .int 1] h2 (fun r8 h7 => match r8 with
            | .inl v9 => ∃ x11 : Int32, v9 = some (.int x11) ∧ Q (.inl (some (.int x11))) h7
            | .inr e10 => Q (.inr e10) h7))
        (zE d 217 [.long ((p2 : Int32).toInt64), .long 0, .long 60] h2 (fun r13 h12 => match r13 with
            | .inl v14 => ∃ x16 : Int32, v14 = some (.int x16) ∧ zbr (x16 = 0)
              (zE d 215 [.ref p0, .int 2] h12 (fun r18 h17 => match r18 with
                  | .inl v19 => ∃ x21 : Int32, v19 = some (.int x21) ∧ Q (.inl (some (.int x21))) h17
                  | .inr e20 => Q (.inr e20) h17))
              (∃ a22 : Nat, zgf h12 p0 8 39 = some (.ref a22) ∧
                zE d 249 [.ref p0, .ref a22, .int 0] h12 (fun r24 h23 => match r24 with
                  | .inl v25 => v25 = none ∧ zE d 266 [.ref p0] h23 (fun r28 h27 => match r28 with
                      | .inl v29 => v29 = none ∧ zW (zE d) zm_X8_daily Q (52, [(0, .ref p0), (1, .int p1), (2, .int p2), (3, .int 0)], [], h27)
                      | .inr e30 => Q (.inr e30) h27)
                  | .inr e26 => Q (.inr e26) h23))
            | .inr e15 => Q (.inr e15) h12))
      | .inr e5 => Q (.inr e5) h2)) : zW (zE d) zm_X8_daily Q (0, [(0, .ref p0), (1, .int p1), (2, .int p2)], [], h) := by
  refine zq_aload (pc' := 1) rfl rfl rfl rfl ?_
  refine zq_ipush (pc' := 2) rfl rfl rfl ?_
  obtain ⟨h1, e0, H⟩ := H
  refine zq_put (pc' := 5) rfl rfl rfl trivial e0 ?_
  refine zq_aload (pc' := 6) rfl rfl rfl rfl ?_
  refine zq_iload (pc' := 7) rfl rfl rfl rfl ?_
  refine zq_calli (pc' := 10) rfl rfl rfl rfl rfl rfl (zE_mono H (fun r3 h2 H => ?_))
  rcases r3 with v4 | e5
  · obtain ⟨x6, e0, H⟩ := H
    refine Exists.intro x6 (And.intro e0 ?_)
    refine zq_ifne (pc' := 13) rfl rfl rfl rfl (And.intro (fun c => ?_) (fun c => ?_))
    · have H := H.1 c
      refine zq_aload (pc' := 14) rfl rfl rfl rfl ?_
      refine zq_ipush (pc' := 15) rfl rfl rfl ?_
      refine zq_calli (pc' := 18) rfl rfl rfl rfl rfl rfl (zE_mono H (fun r8 h7 H => ?_))
      rcases r8 with v9 | e10
      · obtain ⟨x11, e0, H⟩ := H
        refine Exists.intro x11 (And.intro e0 ?_)
        exact zq_iret rfl trivial H
      · exact H
    · have H := H.2 c
      refine zq_iload (pc' := 20) rfl rfl rfl rfl ?_
      refine zq_i2l (pc' := 21) rfl rfl rfl ?_
      refine zq_lpush (pc' := 22) rfl rfl rfl ?_
      refine zq_lpush (pc' := 25) rfl rfl rfl ?_
      refine zq_calli (pc' := 28) rfl rfl rfl rfl rfl rfl (zE_mono H (fun r13 h12 H => ?_))
      rcases r13 with v14 | e15
      · obtain ⟨x16, e0, H⟩ := H
        refine Exists.intro x16 (And.intro e0 ?_)
        refine zq_ifne (pc' := 31) rfl rfl rfl rfl (And.intro (fun c => ?_) (fun c => ?_))
        · have H := H.1 c
          refine zq_aload (pc' := 32) rfl rfl rfl rfl ?_
          refine zq_ipush (pc' := 33) rfl rfl rfl ?_
          refine zq_calli (pc' := 36) rfl rfl rfl rfl rfl rfl (zE_mono H (fun r18 h17 H => ?_))
          rcases r18 with v19 | e20
          · obtain ⟨x21, e0, H⟩ := H
            refine Exists.intro x21 (And.intro e0 ?_)
            exact zq_iret rfl trivial H
          · exact H
        · have H := H.2 c
          refine zq_aload (pc' := 38) rfl rfl rfl rfl ?_
          refine zq_aload (pc' := 39) rfl rfl rfl rfl ?_
          obtain ⟨a22, e0, H⟩ := H
          refine zq_getR (pc' := 42) rfl rfl rfl e0 ?_
          refine zq_ipush (pc' := 43) rfl rfl rfl ?_
          refine zq_callv (pc' := 46) rfl rfl rfl rfl rfl rfl (zE_mono H (fun r24 h23 H => ?_))
          rcases r24 with v25 | e26
          · obtain ⟨e0, H⟩ := H
            refine And.intro e0 ?_
            refine zq_aload (pc' := 47) rfl rfl rfl rfl ?_
            refine zq_callv (pc' := 50) rfl rfl rfl rfl rfl rfl (zE_mono H (fun r28 h27 H => ?_))
            rcases r28 with v29 | e30
            · obtain ⟨e0, H⟩ := H
              refine And.intro e0 ?_
              refine zq_ipush (pc' := 51) rfl rfl rfl ?_
              refine zq_istore_c (pc' := 52) rfl rfl ?_
              exact H
            · exact H
          · exact H
      · exact H
  · exact H
theorem zr_X8_daily_52 {d : Nat} {Q : zR → zH → Prop} {l0 : Nat} {l1 : Int32} {l2 : Int32} {l3 : Int32} {h : zH} (H :
    zbr (l2 ≤ l3)
    (∃ a1 : Nat, zgf h l0 8 39 = some (.ref a1) ∧
      zE d 250 [.ref l0, .ref a1, .int 0] h (fun r3 h2 => match r3 with
        | .inl v4 => v4 = none ∧ ∃ a6 : Nat, zgf h2 l0 8 38 = some (.ref a6) ∧
          ∃ x7, zia h2 a6 l1 = some x7 ∧
          Q (.inl (some (.int x7))) h2
        | .inr e5 => Q (.inr e5) h2))
    (zE d 293 [.ref l0, .int l1] h (fun r9 h8 => match r9 with
        | .inl v10 => v10 = none ∧ zW (zE d) zm_X8_daily Q (52, [(0, .ref l0), (1, .int l1), (2, .int l2), (3, .int (l3 + 1))], [], h8)
        | .inr e11 => Q (.inr e11) h8))) : zW (zE d) zm_X8_daily Q (52, [(0, .ref l0), (1, .int l1), (2, .int l2), (3, .int l3)], [], h) := by
  refine zq_iload (pc' := 53) rfl rfl rfl rfl ?_
  refine zq_iload (pc' := 54) rfl rfl rfl rfl ?_
  refine zq_icge (pc' := 57) rfl rfl rfl rfl (And.intro (fun c => ?_) (fun c => ?_))
  · have H := H.1 c
    refine zq_aload (pc' := 69) rfl rfl rfl rfl ?_
    refine zq_aload (pc' := 70) rfl rfl rfl rfl ?_
    obtain ⟨a1, e0, H⟩ := H
    refine zq_getR (pc' := 73) rfl rfl rfl e0 ?_
    refine zq_ipush (pc' := 74) rfl rfl rfl ?_
    refine zq_callv (pc' := 77) rfl rfl rfl rfl rfl rfl (zE_mono H (fun r3 h2 H => ?_))
    rcases r3 with v4 | e5
    · obtain ⟨e0, H⟩ := H
      refine And.intro e0 ?_
      refine zq_aload (pc' := 78) rfl rfl rfl rfl ?_
      obtain ⟨a6, e0, H⟩ := H
      refine zq_getR (pc' := 81) rfl rfl rfl e0 ?_
      refine zq_iload (pc' := 82) rfl rfl rfl rfl ?_
      obtain ⟨x7, e0, H⟩ := H
      refine zq_iald (pc' := 83) rfl rfl rfl e0 ?_
      exact zq_iret rfl trivial H
    · exact H
  · have H := H.2 c
    refine zq_aload (pc' := 58) rfl rfl rfl rfl ?_
    refine zq_iload (pc' := 59) rfl rfl rfl rfl ?_
    refine zq_callv (pc' := 62) rfl rfl rfl rfl rfl rfl (zE_mono H (fun r9 h8 H => ?_))
    rcases r9 with v10 | e11
    · obtain ⟨e0, H⟩ := H
      refine And.intro e0 ?_
      refine zq_iinc (pc' := 65) rfl rfl rfl rfl ?_
      refine zq_goto_c (pc' := 52) rfl rfl ?_
      exact H
    · exact H
theorem zr_X8_lasts_0 {d : Nat} {Q : zR → zH → Prop} {p0 : Nat} {p1 : Int32} {h : zH} (H :
    ∃ h1, zpf h p0 8 4 (.int 0) = some h1 ∧
    zE d 220 [.ref p0, .int p1] h1 (fun r3 h2 => match r3 with
      | .inl v4 => ∃ x6 : Int32, v4 = some (.int x6) ∧ zbr (x6 = 0)
        (zE d 215 [.ref p0, .int 1] h2 (fun r8 h7 => match r8 with
            | .inl v9 => ∃ x11 : Int32, v9 = some (.int x11) ∧ Q (.inl (some (.int x11))) h7
            | .inr e10 => Q (.inr e10) h7))
        (zE d 252 [.ref p0, .int p1] h2 (fun r13 h12 => match r13 with
            | .inl v14 => ∃ x16 : Int32, v14 = some (.int x16) ∧ ∃ a17 : Nat, zgf h12 p0 8 39 = some (.ref a17) ∧
              zE d 249 [.ref p0, .ref a17, .int 0] h12 (fun r19 h18 => match r19 with
                | .inl v20 => v20 = none ∧ zW (zE d) zm_X8_lasts Q (39, [(0, .ref p0), (1, .int p1), (2, .int x16), (3, .int (-1)), (4, .int 1)], [], h18)
                | .inr e21 => Q (.inr e21) h18)
            | .inr e15 => Q (.inr e15) h12))
      | .inr e5 => Q (.inr e5) h2)) : zW (zE d) zm_X8_lasts Q (0, [(0, .ref p0), (1, .int p1)], [], h) := by
  refine zq_aload (pc' := 1) rfl rfl rfl rfl ?_
  refine zq_ipush (pc' := 2) rfl rfl rfl ?_
  obtain ⟨h1, e0, H⟩ := H
  refine zq_put (pc' := 5) rfl rfl rfl trivial e0 ?_
  refine zq_aload (pc' := 6) rfl rfl rfl rfl ?_
  refine zq_iload (pc' := 7) rfl rfl rfl rfl ?_
  refine zq_calli (pc' := 10) rfl rfl rfl rfl rfl rfl (zE_mono H (fun r3 h2 H => ?_))
  rcases r3 with v4 | e5
  · obtain ⟨x6, e0, H⟩ := H
    refine Exists.intro x6 (And.intro e0 ?_)
    refine zq_ifne (pc' := 13) rfl rfl rfl rfl (And.intro (fun c => ?_) (fun c => ?_))
    · have H := H.1 c
      refine zq_aload (pc' := 14) rfl rfl rfl rfl ?_
      refine zq_ipush (pc' := 15) rfl rfl rfl ?_
      refine zq_calli (pc' := 18) rfl rfl rfl rfl rfl rfl (zE_mono H (fun r8 h7 H => ?_))
      rcases r8 with v9 | e10
      · obtain ⟨x11, e0, H⟩ := H
        refine Exists.intro x11 (And.intro e0 ?_)
        exact zq_iret rfl trivial H
      · exact H
    · have H := H.2 c
      refine zq_aload (pc' := 20) rfl rfl rfl rfl ?_
      refine zq_iload (pc' := 21) rfl rfl rfl rfl ?_
      refine zq_calli (pc' := 24) rfl rfl rfl rfl rfl rfl (zE_mono H (fun r13 h12 H => ?_))
      rcases r13 with v14 | e15
      · obtain ⟨x16, e0, H⟩ := H
        refine Exists.intro x16 (And.intro e0 ?_)
        refine zq_istore (pc' := 25) rfl rfl rfl ?_
        refine zq_aload (pc' := 26) rfl rfl rfl rfl ?_
        refine zq_aload (pc' := 27) rfl rfl rfl rfl ?_
        obtain ⟨a17, e0, H⟩ := H
        refine zq_getR (pc' := 30) rfl rfl rfl e0 ?_
        refine zq_ipush (pc' := 31) rfl rfl rfl ?_
        refine zq_callv (pc' := 34) rfl rfl rfl rfl rfl rfl (zE_mono H (fun r19 h18 H => ?_))
        rcases r19 with v20 | e21
        · obtain ⟨e0, H⟩ := H
          refine And.intro e0 ?_
          refine zq_ipushn (pc' := 35) rfl rfl rfl ?_
          refine zq_istore (pc' := 36) rfl rfl rfl ?_
          refine zq_ipush (pc' := 37) rfl rfl rfl ?_
          refine zq_istore_c (pc' := 39) rfl rfl ?_
          exact H
        · exact H
      · exact H
  · exact H
theorem zr_X8_lasts_39 {d : Nat} {Q : zR → zH → Prop} {l0 : Nat} {l1 : Int32} {l2 : Int32} {l3 : Int32} {l4 : Int32} {h : zH} (H :
    zbr (60 < l4)
    (∃ a1 : Nat, zgf h l0 8 39 = some (.ref a1) ∧
      zE d 250 [.ref l0, .ref a1, .int 0] h (fun r3 h2 => match r3 with
        | .inl v4 => v4 = none ∧ Q (.inl (some (.int l3))) h2
        | .inr e5 => Q (.inr e5) h2))
    (zbr (l3 = (-1))
      (zE d 293 [.ref l0, .int l1] h (fun r7 h6 => match r7 with
          | .inl v8 => v8 = none ∧ zE d 252 [.ref l0, .int l1] h6 (fun r11 h10 => match r11 with
              | .inl v12 => ∃ x14 : Int32, v12 = some (.int x14) ∧ zbr ((l2 &&& (x14 ^^^ (-1))) = 0)
                (zW (zE d) zm_X8_lasts Q (39, [(0, .ref l0), (1, .int l1), (2, .int l2), (3, .int l3), (4, .int (l4 + 1))], [], h10))
                (zW (zE d) zm_X8_lasts Q (39, [(0, .ref l0), (1, .int l1), (2, .int l2), (3, .int l4), (4, .int (l4 + 1))], [], h10))
              | .inr e13 => Q (.inr e13) h10)
          | .inr e9 => Q (.inr e9) h6))
      (∃ a15 : Nat, zgf h l0 8 39 = some (.ref a15) ∧
        zE d 250 [.ref l0, .ref a15, .int 0] h (fun r17 h16 => match r17 with
          | .inl v18 => v18 = none ∧ Q (.inl (some (.int l3))) h16
          | .inr e19 => Q (.inr e19) h16)))) : zW (zE d) zm_X8_lasts Q (39, [(0, .ref l0), (1, .int l1), (2, .int l2), (3, .int l3), (4, .int l4)], [], h) := by
  refine zq_iload (pc' := 41) rfl rfl rfl rfl ?_
  refine zq_ipush (pc' := 43) rfl rfl rfl ?_
  refine zq_icgt (pc' := 46) rfl rfl rfl rfl (And.intro (fun c => ?_) (fun c => ?_))
  · have H := H.1 c
    refine zq_aload (pc' := 78) rfl rfl rfl rfl ?_
    refine zq_aload (pc' := 79) rfl rfl rfl rfl ?_
    obtain ⟨a1, e0, H⟩ := H
    refine zq_getR (pc' := 82) rfl rfl rfl e0 ?_
    refine zq_ipush (pc' := 83) rfl rfl rfl ?_
    refine zq_callv (pc' := 86) rfl rfl rfl rfl rfl rfl (zE_mono H (fun r3 h2 H => ?_))
    rcases r3 with v4 | e5
    · obtain ⟨e0, H⟩ := H
      refine And.intro e0 ?_
      refine zq_iload (pc' := 87) rfl rfl rfl rfl ?_
      exact zq_iret rfl trivial H
    · exact H
  · have H := H.2 c
    refine zq_iload (pc' := 47) rfl rfl rfl rfl ?_
    refine zq_ipushn (pc' := 48) rfl rfl rfl ?_
    refine zq_icne (pc' := 51) rfl rfl rfl rfl (And.intro (fun c => ?_) (fun c => ?_))
    · have H := H.1 c
      refine zq_aload (pc' := 52) rfl rfl rfl rfl ?_
      refine zq_iload (pc' := 53) rfl rfl rfl rfl ?_
      refine zq_callv (pc' := 56) rfl rfl rfl rfl rfl rfl (zE_mono H (fun r7 h6 H => ?_))
      rcases r7 with v8 | e9
      · obtain ⟨e0, H⟩ := H
        refine And.intro e0 ?_
        refine zq_iload (pc' := 57) rfl rfl rfl rfl ?_
        refine zq_aload (pc' := 58) rfl rfl rfl rfl ?_
        refine zq_iload (pc' := 59) rfl rfl rfl rfl ?_
        refine zq_calli (pc' := 62) rfl rfl rfl rfl rfl rfl (zE_mono H (fun r11 h10 H => ?_))
        rcases r11 with v12 | e13
        · obtain ⟨x14, e0, H⟩ := H
          refine Exists.intro x14 (And.intro e0 ?_)
          refine zq_ipushn (pc' := 63) rfl rfl rfl ?_
          refine zq_ixor (pc' := 64) rfl rfl rfl ?_
          refine zq_iand (pc' := 65) rfl rfl rfl ?_
          refine zq_ifeq (pc' := 68) rfl rfl rfl rfl (And.intro (fun c => ?_) (fun c => ?_))
          · have H := H.1 c
            refine zq_iinc (pc' := 74) rfl rfl rfl rfl ?_
            refine zq_goto_c (pc' := 39) rfl rfl ?_
            exact H
          · have H := H.2 c
            refine zq_iload (pc' := 70) rfl rfl rfl rfl ?_
            refine zq_istore (pc' := 71) rfl rfl rfl ?_
            refine zq_iinc (pc' := 74) rfl rfl rfl rfl ?_
            refine zq_goto_c (pc' := 39) rfl rfl ?_
            exact H
        · exact H
      · exact H
    · have H := H.2 c
      refine zq_aload (pc' := 78) rfl rfl rfl rfl ?_
      refine zq_aload (pc' := 79) rfl rfl rfl rfl ?_
      obtain ⟨a15, e0, H⟩ := H
      refine zq_getR (pc' := 82) rfl rfl rfl e0 ?_
      refine zq_ipush (pc' := 83) rfl rfl rfl ?_
      refine zq_callv (pc' := 86) rfl rfl rfl rfl rfl rfl (zE_mono H (fun r17 h16 H => ?_))
      rcases r17 with v18 | e19
      · obtain ⟨e0, H⟩ := H
        refine And.intro e0 ?_
        refine zq_iload (pc' := 87) rfl rfl rfl rfl ?_
        exact zq_iret rfl trivial H
      · exact H
theorem zr_X8_calm_0 {d : Nat} {Q : zR → zH → Prop} {p0 : Nat} {p1 : Int32} {h : zH} (H :
    ∃ h1, zpf h p0 8 4 (.int 0) = some h1 ∧
    zE d 217 [.long ((p1 : Int32).toInt64), .long 1, .long 60] h1 (fun r3 h2 => match r3 with
      | .inl v4 => ∃ x6 : Int32, v4 = some (.int x6) ∧ zbr (x6 = 0)
        (zE d 215 [.ref p0, .int 1] h2 (fun r8 h7 => match r8 with
            | .inl v9 => ∃ x11 : Int32, v9 = some (.int x11) ∧ Q (.inl (some (.int x11))) h7
            | .inr e10 => Q (.inr e10) h7))
        (∃ a12 : Nat, zgf h2 p0 8 39 = some (.ref a12) ∧
          zE d 249 [.ref p0, .ref a12, .int 0] h2 (fun r14 h13 => match r14 with
            | .inl v15 => v15 = none ∧ zW (zE d) zm_X8_calm Q (36, [(0, .ref p0), (1, .int p1), (2, .int 0), (3, .int 0)], [], h13)
            | .inr e16 => Q (.inr e16) h13))
      | .inr e5 => Q (.inr e5) h2)) : zW (zE d) zm_X8_calm Q (0, [(0, .ref p0), (1, .int p1)], [], h) := by
  refine zq_aload (pc' := 1) rfl rfl rfl rfl ?_
  refine zq_ipush (pc' := 2) rfl rfl rfl ?_
  obtain ⟨h1, e0, H⟩ := H
  refine zq_put (pc' := 5) rfl rfl rfl trivial e0 ?_
  refine zq_iload (pc' := 6) rfl rfl rfl rfl ?_
  refine zq_i2l (pc' := 7) rfl rfl rfl ?_
  refine zq_lpush (pc' := 8) rfl rfl rfl ?_
  refine zq_lpush (pc' := 11) rfl rfl rfl ?_
  refine zq_calli (pc' := 14) rfl rfl rfl rfl rfl rfl (zE_mono H (fun r3 h2 H => ?_))
  rcases r3 with v4 | e5
  · obtain ⟨x6, e0, H⟩ := H
    refine Exists.intro x6 (And.intro e0 ?_)
    refine zq_ifne (pc' := 17) rfl rfl rfl rfl (And.intro (fun c => ?_) (fun c => ?_))
    · have H := H.1 c
      refine zq_aload (pc' := 18) rfl rfl rfl rfl ?_
      refine zq_ipush (pc' := 19) rfl rfl rfl ?_
      refine zq_calli (pc' := 22) rfl rfl rfl rfl rfl rfl (zE_mono H (fun r8 h7 H => ?_))
      rcases r8 with v9 | e10
      · obtain ⟨x11, e0, H⟩ := H
        refine Exists.intro x11 (And.intro e0 ?_)
        exact zq_iret rfl trivial H
      · exact H
    · have H := H.2 c
      refine zq_aload (pc' := 24) rfl rfl rfl rfl ?_
      refine zq_aload (pc' := 25) rfl rfl rfl rfl ?_
      obtain ⟨a12, e0, H⟩ := H
      refine zq_getR (pc' := 28) rfl rfl rfl e0 ?_
      refine zq_ipush (pc' := 29) rfl rfl rfl ?_
      refine zq_callv (pc' := 32) rfl rfl rfl rfl rfl rfl (zE_mono H (fun r14 h13 H => ?_))
      rcases r14 with v15 | e16
      · obtain ⟨e0, H⟩ := H
        refine And.intro e0 ?_
        refine zq_ipush (pc' := 33) rfl rfl rfl ?_
        refine zq_istore (pc' := 34) rfl rfl rfl ?_
        refine zq_ipush (pc' := 35) rfl rfl rfl ?_
        refine zq_istore_c (pc' := 36) rfl rfl ?_
        exact H
      · exact H
  · exact H
theorem zr_X8_calm_36 {d : Nat} {Q : zR → zH → Prop} {l0 : Nat} {l1 : Int32} {l2 : Int32} {l3 : Int32} {h : zH} (H :
    zbr (l1 ≤ l3)
    (∃ a1 : Nat, zgf h l0 8 39 = some (.ref a1) ∧
      zE d 250 [.ref l0, .ref a1, .int 0] h (fun r3 h2 => match r3 with
        | .inl v4 => v4 = none ∧ Q (.inl (some (.int l2))) h2
        | .inr e5 => Q (.inr e5) h2))
    (zE d 265 [.ref l0, .int 1] h (fun r7 h6 => match r7 with
        | .inl v8 => v8 = none ∧ zE d 267 [.ref l0] h6 (fun r11 h10 => match r11 with
            | .inl v12 => ∃ x14 : Int32, v12 = some (.int x14) ∧ zbr (x14 = 0)
              (zW (zE d) zm_X8_calm Q (36, [(0, .ref l0), (1, .int l1), (2, .int (l2 + 1)), (3, .int (l3 + 1))], [], h10))
              (zW (zE d) zm_X8_calm Q (36, [(0, .ref l0), (1, .int l1), (2, .int (l2 + 0)), (3, .int (l3 + 1))], [], h10))
            | .inr e13 => Q (.inr e13) h10)
        | .inr e9 => Q (.inr e9) h6))) : zW (zE d) zm_X8_calm Q (36, [(0, .ref l0), (1, .int l1), (2, .int l2), (3, .int l3)], [], h) := by
  refine zq_iload (pc' := 37) rfl rfl rfl rfl ?_
  refine zq_iload (pc' := 38) rfl rfl rfl rfl ?_
  refine zq_icge (pc' := 41) rfl rfl rfl rfl (And.intro (fun c => ?_) (fun c => ?_))
  · have H := H.1 c
    refine zq_aload (pc' := 68) rfl rfl rfl rfl ?_
    refine zq_aload (pc' := 69) rfl rfl rfl rfl ?_
    obtain ⟨a1, e0, H⟩ := H
    refine zq_getR (pc' := 72) rfl rfl rfl e0 ?_
    refine zq_ipush (pc' := 73) rfl rfl rfl ?_
    refine zq_callv (pc' := 76) rfl rfl rfl rfl rfl rfl (zE_mono H (fun r3 h2 H => ?_))
    rcases r3 with v4 | e5
    · obtain ⟨e0, H⟩ := H
      refine And.intro e0 ?_
      refine zq_iload (pc' := 77) rfl rfl rfl rfl ?_
      exact zq_iret rfl trivial H
    · exact H
  · have H := H.2 c
    refine zq_aload (pc' := 42) rfl rfl rfl rfl ?_
    refine zq_ipush (pc' := 43) rfl rfl rfl ?_
    refine zq_callv (pc' := 46) rfl rfl rfl rfl rfl rfl (zE_mono H (fun r7 h6 H => ?_))
    rcases r7 with v8 | e9
    · obtain ⟨e0, H⟩ := H
      refine And.intro e0 ?_
      refine zq_iload (pc' := 47) rfl rfl rfl rfl ?_
      refine zq_aload (pc' := 48) rfl rfl rfl rfl ?_
      refine zq_calli (pc' := 51) rfl rfl rfl rfl rfl rfl (zE_mono H (fun r11 h10 H => ?_))
      rcases r11 with v12 | e13
      · obtain ⟨x14, e0, H⟩ := H
        refine Exists.intro x14 (And.intro e0 ?_)
        refine zq_ifne (pc' := 54) rfl rfl rfl rfl (And.intro (fun c => ?_) (fun c => ?_))
        · have H := H.1 c
          refine zq_ipush (pc' := 55) rfl rfl rfl ?_
          refine zq_goto (pc' := 59) rfl rfl rfl ?_
          refine zq_iadd (pc' := 60) rfl rfl rfl ?_
          refine zq_istore (pc' := 61) rfl rfl rfl ?_
          refine zq_iinc (pc' := 64) rfl rfl rfl rfl ?_
          refine zq_goto_c (pc' := 36) rfl rfl ?_
          exact H
        · have H := H.2 c
          refine zq_ipush (pc' := 59) rfl rfl rfl ?_
          refine zq_iadd (pc' := 60) rfl rfl rfl ?_
          refine zq_istore (pc' := 61) rfl rfl rfl ?_
          refine zq_iinc (pc' := 64) rfl rfl rfl rfl ?_
          refine zq_goto_c (pc' := 36) rfl rfl ?_
          exact H
      · exact H
    · exact H
theorem zr_X8_worst_0 {d : Nat} {Q : zR → zH → Prop} {p0 : Nat} {p1 : Int32} {p2 : Int32} {h : zH} (H :
    ∃ h1, zpf h p0 8 4 (.int 0) = some h1 ∧
    zE d 217 [.long ((p2 : Int32).toInt64), .long 0, .long 1] h1 (fun r3 h2 => match r3 with
      | .inl v4 => ∃ x6 : Int32, v4 = some (.int x6) ∧ zbr (x6 = 0)
        (zE d 215 [.ref p0, .int 1] h2 (fun r8 h7 => match r8 with
            | .inl v9 => ∃ x11 : Int32, v9 = some (.int x11) ∧ Q (.inl (some (.int x11))) h7
            | .inr e10 => Q (.inr e10) h7))
        (zE d 217 [.long ((p1 : Int32).toInt64), .long 1, .long 60] h2 (fun r13 h12 => match r13 with
            | .inl v14 => ∃ x16 : Int32, v14 = some (.int x16) ∧ zbr (x16 = 0)
              (zE d 215 [.ref p0, .int 2] h12 (fun r18 h17 => match r18 with
                  | .inl v19 => ∃ x21 : Int32, v19 = some (.int x21) ∧ Q (.inl (some (.int x21))) h17
                  | .inr e20 => Q (.inr e20) h17))
              (∃ a22 : Nat, zgf h12 p0 8 39 = some (.ref a22) ∧
                zE d 249 [.ref p0, .ref a22, .int 0] h12 (fun r24 h23 => match r24 with
                  | .inl v25 => v25 = none ∧ zW (zE d) zm_X8_worst Q (56, [(0, .ref p0), (1, .int p1), (2, .int p2), (3, .int (-1)), (4, .int (-1)), (5, .int 1)], [], h23)
                  | .inr e26 => Q (.inr e26) h23))
            | .inr e15 => Q (.inr e15) h12))
      | .inr e5 => Q (.inr e5) h2)) : zW (zE d) zm_X8_worst Q (0, [(0, .ref p0), (1, .int p1), (2, .int p2)], [], h) := by
  refine zq_aload (pc' := 1) rfl rfl rfl rfl ?_
  refine zq_ipush (pc' := 2) rfl rfl rfl ?_
  obtain ⟨h1, e0, H⟩ := H
  refine zq_put (pc' := 5) rfl rfl rfl trivial e0 ?_
  refine zq_iload (pc' := 6) rfl rfl rfl rfl ?_
  refine zq_i2l (pc' := 7) rfl rfl rfl ?_
  refine zq_lpush (pc' := 8) rfl rfl rfl ?_
  refine zq_lpush (pc' := 9) rfl rfl rfl ?_
  refine zq_calli (pc' := 12) rfl rfl rfl rfl rfl rfl (zE_mono H (fun r3 h2 H => ?_))
  rcases r3 with v4 | e5
  · obtain ⟨x6, e0, H⟩ := H
    refine Exists.intro x6 (And.intro e0 ?_)
    refine zq_ifne (pc' := 15) rfl rfl rfl rfl (And.intro (fun c => ?_) (fun c => ?_))
    · have H := H.1 c
      refine zq_aload (pc' := 16) rfl rfl rfl rfl ?_
      refine zq_ipush (pc' := 17) rfl rfl rfl ?_
      refine zq_calli (pc' := 20) rfl rfl rfl rfl rfl rfl (zE_mono H (fun r8 h7 H => ?_))
      rcases r8 with v9 | e10
      · obtain ⟨x11, e0, H⟩ := H
        refine Exists.intro x11 (And.intro e0 ?_)
        exact zq_iret rfl trivial H
      · exact H
    · have H := H.2 c
      refine zq_iload (pc' := 22) rfl rfl rfl rfl ?_
      refine zq_i2l (pc' := 23) rfl rfl rfl ?_
      refine zq_lpush (pc' := 24) rfl rfl rfl ?_
      refine zq_lpush (pc' := 27) rfl rfl rfl ?_
      refine zq_calli (pc' := 30) rfl rfl rfl rfl rfl rfl (zE_mono H (fun r13 h12 H => ?_))
      rcases r13 with v14 | e15
      · obtain ⟨x16, e0, H⟩ := H
        refine Exists.intro x16 (And.intro e0 ?_)
        refine zq_ifne (pc' := 33) rfl rfl rfl rfl (And.intro (fun c => ?_) (fun c => ?_))
        · have H := H.1 c
          refine zq_aload (pc' := 34) rfl rfl rfl rfl ?_
          refine zq_ipush (pc' := 35) rfl rfl rfl ?_
          refine zq_calli (pc' := 38) rfl rfl rfl rfl rfl rfl (zE_mono H (fun r18 h17 H => ?_))
          rcases r18 with v19 | e20
          · obtain ⟨x21, e0, H⟩ := H
            refine Exists.intro x21 (And.intro e0 ?_)
            exact zq_iret rfl trivial H
          · exact H
        · have H := H.2 c
          refine zq_aload (pc' := 40) rfl rfl rfl rfl ?_
          refine zq_aload (pc' := 41) rfl rfl rfl rfl ?_
          obtain ⟨a22, e0, H⟩ := H
          refine zq_getR (pc' := 44) rfl rfl rfl e0 ?_
          refine zq_ipush (pc' := 45) rfl rfl rfl ?_
          refine zq_callv (pc' := 48) rfl rfl rfl rfl rfl rfl (zE_mono H (fun r24 h23 H => ?_))
          rcases r24 with v25 | e26
          · obtain ⟨e0, H⟩ := H
            refine And.intro e0 ?_
            refine zq_ipushn (pc' := 49) rfl rfl rfl ?_
            refine zq_istore (pc' := 50) rfl rfl rfl ?_
            refine zq_ipushn (pc' := 51) rfl rfl rfl ?_
            refine zq_istore (pc' := 53) rfl rfl rfl ?_
            refine zq_ipush (pc' := 54) rfl rfl rfl ?_
            refine zq_istore_c (pc' := 56) rfl rfl ?_
            exact H
          · exact H
      · exact H
  · exact H
theorem zr_X8_worst_56 {d : Nat} {Q : zR → zH → Prop} {l0 : Nat} {l1 : Int32} {l2 : Int32} {l3 : Int32} {l4 : Int32} {l5 : Int32} {h : zH} (H :
    zbr (l1 < l5)
    (∃ a1 : Nat, zgf h l0 8 39 = some (.ref a1) ∧
      zE d 250 [.ref l0, .ref a1, .int 0] h (fun r3 h2 => match r3 with
        | .inl v4 => v4 = none ∧ zbr (l2 = 0)
          (Q (.inl (some (.int l3))) h2)
          (Q (.inl (some (.int l4))) h2)
        | .inr e5 => Q (.inr e5) h2))
    (zE d 265 [.ref l0, .int 1] h (fun r7 h6 => match r7 with
        | .inl v8 => v8 = none ∧ zE d 267 [.ref l0] h6 (fun r11 h10 => match r11 with
            | .inl v12 => ∃ x14 : Int32, v12 = some (.int x14) ∧ zbr (l4 < x14)
              (zE d 267 [.ref l0] h10 (fun r16 h15 => match r16 with
                  | .inl v17 => ∃ x19 : Int32, v17 = some (.int x19) ∧ zW (zE d) zm_X8_worst Q (56, [(0, .ref l0), (1, .int l1), (2, .int l2), (3, .int l5), (4, .int x19), (5, .int (l5 + 1))], [], h15)
                  | .inr e18 => Q (.inr e18) h15))
              (zW (zE d) zm_X8_worst Q (56, [(0, .ref l0), (1, .int l1), (2, .int l2), (3, .int l3), (4, .int l4), (5, .int (l5 + 1))], [], h10))
            | .inr e13 => Q (.inr e13) h10)
        | .inr e9 => Q (.inr e9) h6))) : zW (zE d) zm_X8_worst Q (56, [(0, .ref l0), (1, .int l1), (2, .int l2), (3, .int l3), (4, .int l4), (5, .int l5)], [], h) := by
  refine zq_iload (pc' := 58) rfl rfl rfl rfl ?_
  refine zq_iload (pc' := 59) rfl rfl rfl rfl ?_
  refine zq_icgt (pc' := 62) rfl rfl rfl rfl (And.intro (fun c => ?_) (fun c => ?_))
  · have H := H.1 c
    refine zq_aload (pc' := 95) rfl rfl rfl rfl ?_
    refine zq_aload (pc' := 96) rfl rfl rfl rfl ?_
    obtain ⟨a1, e0, H⟩ := H
    refine zq_getR (pc' := 99) rfl rfl rfl e0 ?_
    refine zq_ipush (pc' := 100) rfl rfl rfl ?_
    refine zq_callv (pc' := 103) rfl rfl rfl rfl rfl rfl (zE_mono H (fun r3 h2 H => ?_))
    rcases r3 with v4 | e5
    · obtain ⟨e0, H⟩ := H
      refine And.intro e0 ?_
      refine zq_iload (pc' := 104) rfl rfl rfl rfl ?_
      refine zq_ifne (pc' := 107) rfl rfl rfl rfl (And.intro (fun c => ?_) (fun c => ?_))
      · have H := H.1 c
        refine zq_iload (pc' := 108) rfl rfl rfl rfl ?_
        refine zq_goto (pc' := 113) rfl rfl rfl ?_
        exact zq_iret rfl trivial H
      · have H := H.2 c
        refine zq_iload (pc' := 113) rfl rfl rfl rfl ?_
        exact zq_iret rfl trivial H
    · exact H
  · have H := H.2 c
    refine zq_aload (pc' := 63) rfl rfl rfl rfl ?_
    refine zq_ipush (pc' := 64) rfl rfl rfl ?_
    refine zq_callv (pc' := 67) rfl rfl rfl rfl rfl rfl (zE_mono H (fun r7 h6 H => ?_))
    rcases r7 with v8 | e9
    · obtain ⟨e0, H⟩ := H
      refine And.intro e0 ?_
      refine zq_aload (pc' := 68) rfl rfl rfl rfl ?_
      refine zq_calli (pc' := 71) rfl rfl rfl rfl rfl rfl (zE_mono H (fun r11 h10 H => ?_))
      rcases r11 with v12 | e13
      · obtain ⟨x14, e0, H⟩ := H
        refine Exists.intro x14 (And.intro e0 ?_)
        refine zq_iload (pc' := 73) rfl rfl rfl rfl ?_
        refine zq_icgt (pc' := 76) rfl rfl rfl rfl (And.intro (fun c => ?_) (fun c => ?_))
        · have H := H.1 c
          refine zq_iload (pc' := 81) rfl rfl rfl rfl ?_
          refine zq_istore (pc' := 82) rfl rfl rfl ?_
          refine zq_aload (pc' := 83) rfl rfl rfl rfl ?_
          refine zq_calli (pc' := 86) rfl rfl rfl rfl rfl rfl (zE_mono H (fun r16 h15 H => ?_))
          rcases r16 with v17 | e18
          · obtain ⟨x19, e0, H⟩ := H
            refine Exists.intro x19 (And.intro e0 ?_)
            refine zq_istore (pc' := 88) rfl rfl rfl ?_
            refine zq_iinc (pc' := 91) rfl rfl rfl rfl ?_
            refine zq_goto_c (pc' := 56) rfl rfl ?_
            exact H
          · exact H
        · have H := H.2 c
          refine zq_goto (pc' := 88) rfl rfl rfl ?_
          refine zq_iinc (pc' := 91) rfl rfl rfl rfl ?_
          refine zq_goto_c (pc' := 56) rfl rfl ?_
          exact H
      · exact H
    · exact H
theorem zr_X8_most_0 {d : Nat} {Q : zR → zH → Prop} {p0 : Nat} {p1 : Int32} {p2 : Int32} {h : zH} (H :
    ∃ h1, zpf h p0 8 4 (.int 0) = some h1 ∧
    zE d 220 [.ref p0, .int p1] h1 (fun r3 h2 => match r3 with
      | .inl v4 => ∃ x6 : Int32, v4 = some (.int x6) ∧ zbr (x6 = 0)
        (zE d 215 [.ref p0, .int 1] h2 (fun r8 h7 => match r8 with
            | .inl v9 => ∃ x11 : Int32, v9 = some (.int x11) ∧ Q (.inl (some (.int x11))) h7
            | .inr e10 => Q (.inr e10) h7))
        (zE d 217 [.long ((p2 : Int32).toInt64), .long 0, .long 60] h2 (fun r13 h12 => match r13 with
            | .inl v14 => ∃ x16 : Int32, v14 = some (.int x16) ∧ zbr (x16 = 0)
              (zE d 215 [.ref p0, .int 2] h12 (fun r18 h17 => match r18 with
                  | .inl v19 => ∃ x21 : Int32, v19 = some (.int x21) ∧ Q (.inl (some (.int x21))) h17
                  | .inr e20 => Q (.inr e20) h17))
              (∃ a22 : Nat, zgf h12 p0 8 39 = some (.ref a22) ∧
                zE d 249 [.ref p0, .ref a22, .int 0] h12 (fun r24 h23 => match r24 with
                  | .inl v25 => v25 = none ∧ zW (zE d) zm_X8_most Q (51, [(0, .ref p0), (1, .int p1), (2, .int p2), (3, .int 0), (4, .int 0)], [], h23)
                  | .inr e26 => Q (.inr e26) h23))
            | .inr e15 => Q (.inr e15) h12))
      | .inr e5 => Q (.inr e5) h2)) : zW (zE d) zm_X8_most Q (0, [(0, .ref p0), (1, .int p1), (2, .int p2)], [], h) := by
  refine zq_aload (pc' := 1) rfl rfl rfl rfl ?_
  refine zq_ipush (pc' := 2) rfl rfl rfl ?_
  obtain ⟨h1, e0, H⟩ := H
  refine zq_put (pc' := 5) rfl rfl rfl trivial e0 ?_
  refine zq_aload (pc' := 6) rfl rfl rfl rfl ?_
  refine zq_iload (pc' := 7) rfl rfl rfl rfl ?_
  refine zq_calli (pc' := 10) rfl rfl rfl rfl rfl rfl (zE_mono H (fun r3 h2 H => ?_))
  rcases r3 with v4 | e5
  · obtain ⟨x6, e0, H⟩ := H
    refine Exists.intro x6 (And.intro e0 ?_)
    refine zq_ifne (pc' := 13) rfl rfl rfl rfl (And.intro (fun c => ?_) (fun c => ?_))
    · have H := H.1 c
      refine zq_aload (pc' := 14) rfl rfl rfl rfl ?_
      refine zq_ipush (pc' := 15) rfl rfl rfl ?_
      refine zq_calli (pc' := 18) rfl rfl rfl rfl rfl rfl (zE_mono H (fun r8 h7 H => ?_))
      rcases r8 with v9 | e10
      · obtain ⟨x11, e0, H⟩ := H
        refine Exists.intro x11 (And.intro e0 ?_)
        exact zq_iret rfl trivial H
      · exact H
    · have H := H.2 c
      refine zq_iload (pc' := 20) rfl rfl rfl rfl ?_
      refine zq_i2l (pc' := 21) rfl rfl rfl ?_
      refine zq_lpush (pc' := 22) rfl rfl rfl ?_
      refine zq_lpush (pc' := 25) rfl rfl rfl ?_
      refine zq_calli (pc' := 28) rfl rfl rfl rfl rfl rfl (zE_mono H (fun r13 h12 H => ?_))
      rcases r13 with v14 | e15
      · obtain ⟨x16, e0, H⟩ := H
        refine Exists.intro x16 (And.intro e0 ?_)
        refine zq_ifne (pc' := 31) rfl rfl rfl rfl (And.intro (fun c => ?_) (fun c => ?_))
        · have H := H.1 c
          refine zq_aload (pc' := 32) rfl rfl rfl rfl ?_
          refine zq_ipush (pc' := 33) rfl rfl rfl ?_
          refine zq_calli (pc' := 36) rfl rfl rfl rfl rfl rfl (zE_mono H (fun r18 h17 H => ?_))
          rcases r18 with v19 | e20
          · obtain ⟨x21, e0, H⟩ := H
            refine Exists.intro x21 (And.intro e0 ?_)
            exact zq_iret rfl trivial H
          · exact H
        · have H := H.2 c
          refine zq_aload (pc' := 38) rfl rfl rfl rfl ?_
          refine zq_aload (pc' := 39) rfl rfl rfl rfl ?_
          obtain ⟨a22, e0, H⟩ := H
          refine zq_getR (pc' := 42) rfl rfl rfl e0 ?_
          refine zq_ipush (pc' := 43) rfl rfl rfl ?_
          refine zq_callv (pc' := 46) rfl rfl rfl rfl rfl rfl (zE_mono H (fun r24 h23 H => ?_))
          rcases r24 with v25 | e26
          · obtain ⟨e0, H⟩ := H
            refine And.intro e0 ?_
            refine zq_ipush (pc' := 47) rfl rfl rfl ?_
            refine zq_istore (pc' := 48) rfl rfl rfl ?_
            refine zq_ipush (pc' := 49) rfl rfl rfl ?_
            refine zq_istore_c (pc' := 51) rfl rfl ?_
            exact H
          · exact H
      · exact H
  · exact H
theorem zr_X8_most_51 {d : Nat} {Q : zR → zH → Prop} {l0 : Nat} {l1 : Int32} {l2 : Int32} {l3 : Int32} {l4 : Int32} {h : zH} (H :
    zbr (l2 ≤ l4)
    (∃ a1 : Nat, zgf h l0 8 39 = some (.ref a1) ∧
      zE d 250 [.ref l0, .ref a1, .int 0] h (fun r3 h2 => match r3 with
        | .inl v4 => v4 = none ∧ Q (.inl (some (.int l3))) h2
        | .inr e5 => Q (.inr e5) h2))
    (zE d 265 [.ref l0, .int 1] h (fun r7 h6 => match r7 with
        | .inl v8 => v8 = none ∧ ∃ a10 : Nat, zgf h6 l0 8 36 = some (.ref a10) ∧
          ∃ x11, zia h6 a10 l1 = some x11 ∧
          zE d 219 [.int x11] h6 (fun r13 h12 => match r13 with
            | .inl v14 => ∃ x16 : Int32, v14 = some (.int x16) ∧ zE d 2 [.int l3, .int x16] h12 (fun r18 h17 => match r18 with
                | .inl v19 => ∃ x21 : Int32, v19 = some (.int x21) ∧ zW (zE d) zm_X8_most Q (51, [(0, .ref l0), (1, .int l1), (2, .int l2), (3, .int x21), (4, .int (l4 + 1))], [], h17)
                | .inr e20 => Q (.inr e20) h17)
            | .inr e15 => Q (.inr e15) h12)
        | .inr e9 => Q (.inr e9) h6))) : zW (zE d) zm_X8_most Q (51, [(0, .ref l0), (1, .int l1), (2, .int l2), (3, .int l3), (4, .int l4)], [], h) := by
  refine zq_iload (pc' := 53) rfl rfl rfl rfl ?_
  refine zq_iload (pc' := 54) rfl rfl rfl rfl ?_
  refine zq_icge (pc' := 57) rfl rfl rfl rfl (And.intro (fun c => ?_) (fun c => ?_))
  · have H := H.1 c
    refine zq_aload (pc' := 83) rfl rfl rfl rfl ?_
    refine zq_aload (pc' := 84) rfl rfl rfl rfl ?_
    obtain ⟨a1, e0, H⟩ := H
    refine zq_getR (pc' := 87) rfl rfl rfl e0 ?_
    refine zq_ipush (pc' := 88) rfl rfl rfl ?_
    refine zq_callv (pc' := 91) rfl rfl rfl rfl rfl rfl (zE_mono H (fun r3 h2 H => ?_))
    rcases r3 with v4 | e5
    · obtain ⟨e0, H⟩ := H
      refine And.intro e0 ?_
      refine zq_iload (pc' := 92) rfl rfl rfl rfl ?_
      exact zq_iret rfl trivial H
    · exact H
  · have H := H.2 c
    refine zq_aload (pc' := 58) rfl rfl rfl rfl ?_
    refine zq_ipush (pc' := 59) rfl rfl rfl ?_
    refine zq_callv (pc' := 62) rfl rfl rfl rfl rfl rfl (zE_mono H (fun r7 h6 H => ?_))
    rcases r7 with v8 | e9
    · obtain ⟨e0, H⟩ := H
      refine And.intro e0 ?_
      refine zq_iload (pc' := 63) rfl rfl rfl rfl ?_
      refine zq_aload (pc' := 64) rfl rfl rfl rfl ?_
      obtain ⟨a10, e0, H⟩ := H
      refine zq_getR (pc' := 67) rfl rfl rfl e0 ?_
      refine zq_iload (pc' := 68) rfl rfl rfl rfl ?_
      obtain ⟨x11, e0, H⟩ := H
      refine zq_iald (pc' := 69) rfl rfl rfl e0 ?_
      refine zq_calli (pc' := 72) rfl rfl rfl rfl rfl rfl (zE_mono H (fun r13 h12 H => ?_))
      rcases r13 with v14 | e15
      · obtain ⟨x16, e0, H⟩ := H
        refine Exists.intro x16 (And.intro e0 ?_)
        refine zq_calli (pc' := 75) rfl rfl rfl rfl rfl rfl (zE_mono H (fun r18 h17 H => ?_))
        rcases r18 with v19 | e20
        · obtain ⟨x21, e0, H⟩ := H
          refine Exists.intro x21 (And.intro e0 ?_)
          refine zq_istore (pc' := 76) rfl rfl rfl ?_
          refine zq_iinc (pc' := 79) rfl rfl rfl rfl ?_
          refine zq_goto_c (pc' := 51) rfl rfl ?_
          exact H
        · exact H
      · exact H
    · exact H
theorem zr_X8_tear_0 {d : Nat} {Q : zR → zH → Prop} {p0 : Nat} {p1 : Int32} {p2 : Int32} {p3 : Int32} {h : zH} (H :
    ∃ h1, zpf h p0 8 4 (.int 0) = some h1 ∧
    zE d 221 [.ref p0, .int p1, .int p2] h1 (fun r3 h2 => match r3 with
      | .inl v4 => ∃ x6 : Int32, v4 = some (.int x6) ∧ zbr (x6 = 0)
        (zE d 215 [.ref p0, .int 1] h2 (fun r8 h7 => match r8 with
            | .inl v9 => ∃ x11 : Int32, v9 = some (.int x11) ∧ Q (.inl (some (.int x11))) h7
            | .inr e10 => Q (.inr e10) h7))
        (zE d 217 [.long ((p3 : Int32).toInt64), .long 0, .long 99] h2 (fun r13 h12 => match r13 with
            | .inl v14 => ∃ x16 : Int32, v14 = some (.int x16) ∧ zbr (x16 = 0)
              (zE d 215 [.ref p0, .int 2] h12 (fun r18 h17 => match r18 with
                  | .inl v19 => ∃ x21 : Int32, v19 = some (.int x21) ∧ Q (.inl (some (.int x21))) h17
                  | .inr e20 => Q (.inr e20) h17))
              (∃ a22 : Nat, zgf h12 p0 8 39 = some (.ref a22) ∧
                zE d 249 [.ref p0, .ref a22, .int 0] h12 (fun r24 h23 => match r24 with
                  | .inl v25 => v25 = none ∧ ∃ a27 : Nat, zgf h23 p0 8 29 = some (.ref a27) ∧
                    ∃ x28, zia h23 a27 p1 = some x28 ∧
                    ∃ h29, zis h23 a27 p1 (x28 &&& ((1 <<< (p2 &&& 31)) ^^^ (-1))) = some h29 ∧
                    zE d 264 [.ref p0, .int p3] h29 (fun r31 h30 => match r31 with
                      | .inl v32 => v32 = none ∧ ∃ a34 : Nat, zgf h30 p0 8 39 = some (.ref a34) ∧
                        zE d 250 [.ref p0, .ref a34, .int 0] h30 (fun r36 h35 => match r36 with
                          | .inl v37 => v37 = none ∧ ∃ a39 : Nat, zgf h35 p0 8 36 = some (.ref a39) ∧
                            ∃ x40, zia h35 a39 p1 = some x40 ∧
                            Q (.inl (some (.int x40))) h35
                          | .inr e38 => Q (.inr e38) h35)
                      | .inr e33 => Q (.inr e33) h30)
                  | .inr e26 => Q (.inr e26) h23))
            | .inr e15 => Q (.inr e15) h12))
      | .inr e5 => Q (.inr e5) h2)) : zW (zE d) zm_X8_tear Q (0, [(0, .ref p0), (1, .int p1), (2, .int p2), (3, .int p3)], [], h) := by
  refine zq_aload (pc' := 1) rfl rfl rfl rfl ?_
  refine zq_ipush (pc' := 2) rfl rfl rfl ?_
  obtain ⟨h1, e0, H⟩ := H
  refine zq_put (pc' := 5) rfl rfl rfl trivial e0 ?_
  refine zq_aload (pc' := 6) rfl rfl rfl rfl ?_
  refine zq_iload (pc' := 7) rfl rfl rfl rfl ?_
  refine zq_iload (pc' := 8) rfl rfl rfl rfl ?_
  refine zq_calli (pc' := 11) rfl rfl rfl rfl rfl rfl (zE_mono H (fun r3 h2 H => ?_))
  rcases r3 with v4 | e5
  · obtain ⟨x6, e0, H⟩ := H
    refine Exists.intro x6 (And.intro e0 ?_)
    refine zq_ifne (pc' := 14) rfl rfl rfl rfl (And.intro (fun c => ?_) (fun c => ?_))
    · have H := H.1 c
      refine zq_aload (pc' := 15) rfl rfl rfl rfl ?_
      refine zq_ipush (pc' := 16) rfl rfl rfl ?_
      refine zq_calli (pc' := 19) rfl rfl rfl rfl rfl rfl (zE_mono H (fun r8 h7 H => ?_))
      rcases r8 with v9 | e10
      · obtain ⟨x11, e0, H⟩ := H
        refine Exists.intro x11 (And.intro e0 ?_)
        exact zq_iret rfl trivial H
      · exact H
    · have H := H.2 c
      refine zq_iload (pc' := 21) rfl rfl rfl rfl ?_
      refine zq_i2l (pc' := 22) rfl rfl rfl ?_
      refine zq_lpush (pc' := 23) rfl rfl rfl ?_
      refine zq_lpush (pc' := 26) rfl rfl rfl ?_
      refine zq_calli (pc' := 29) rfl rfl rfl rfl rfl rfl (zE_mono H (fun r13 h12 H => ?_))
      rcases r13 with v14 | e15
      · obtain ⟨x16, e0, H⟩ := H
        refine Exists.intro x16 (And.intro e0 ?_)
        refine zq_ifne (pc' := 32) rfl rfl rfl rfl (And.intro (fun c => ?_) (fun c => ?_))
        · have H := H.1 c
          refine zq_aload (pc' := 33) rfl rfl rfl rfl ?_
          refine zq_ipush (pc' := 34) rfl rfl rfl ?_
          refine zq_calli (pc' := 37) rfl rfl rfl rfl rfl rfl (zE_mono H (fun r18 h17 H => ?_))
          rcases r18 with v19 | e20
          · obtain ⟨x21, e0, H⟩ := H
            refine Exists.intro x21 (And.intro e0 ?_)
            exact zq_iret rfl trivial H
          · exact H
        · have H := H.2 c
          refine zq_aload (pc' := 39) rfl rfl rfl rfl ?_
          refine zq_aload (pc' := 40) rfl rfl rfl rfl ?_
          obtain ⟨a22, e0, H⟩ := H
          refine zq_getR (pc' := 43) rfl rfl rfl e0 ?_
          refine zq_ipush (pc' := 44) rfl rfl rfl ?_
          refine zq_callv (pc' := 47) rfl rfl rfl rfl rfl rfl (zE_mono H (fun r24 h23 H => ?_))
          rcases r24 with v25 | e26
          · obtain ⟨e0, H⟩ := H
            refine And.intro e0 ?_
            refine zq_aload (pc' := 48) rfl rfl rfl rfl ?_
            obtain ⟨a27, e0, H⟩ := H
            refine zq_getR (pc' := 51) rfl rfl rfl e0 ?_
            refine zq_iload (pc' := 52) rfl rfl rfl rfl ?_
            refine zq_dup2 (pc' := 53) rfl rfl rfl rfl rfl ?_
            obtain ⟨x28, e0, H⟩ := H
            refine zq_iald (pc' := 54) rfl rfl rfl e0 ?_
            refine zq_ipush (pc' := 55) rfl rfl rfl ?_
            refine zq_iload (pc' := 56) rfl rfl rfl rfl ?_
            refine zq_ishl (pc' := 57) rfl rfl rfl ?_
            refine zq_ipushn (pc' := 58) rfl rfl rfl ?_
            refine zq_ixor (pc' := 59) rfl rfl rfl ?_
            refine zq_iand (pc' := 60) rfl rfl rfl ?_
            obtain ⟨h29, e0, H⟩ := H
            refine zq_iast (pc' := 61) rfl rfl rfl e0 ?_
            refine zq_aload (pc' := 62) rfl rfl rfl rfl ?_
            refine zq_iload (pc' := 63) rfl rfl rfl rfl ?_
            refine zq_callv (pc' := 66) rfl rfl rfl rfl rfl rfl (zE_mono H (fun r31 h30 H => ?_))
            rcases r31 with v32 | e33
            · obtain ⟨e0, H⟩ := H
              refine And.intro e0 ?_
              refine zq_aload (pc' := 67) rfl rfl rfl rfl ?_
              refine zq_aload (pc' := 68) rfl rfl rfl rfl ?_
              obtain ⟨a34, e0, H⟩ := H
              refine zq_getR (pc' := 71) rfl rfl rfl e0 ?_
              refine zq_ipush (pc' := 72) rfl rfl rfl ?_
              refine zq_callv (pc' := 75) rfl rfl rfl rfl rfl rfl (zE_mono H (fun r36 h35 H => ?_))
              rcases r36 with v37 | e38
              · obtain ⟨e0, H⟩ := H
                refine And.intro e0 ?_
                refine zq_aload (pc' := 76) rfl rfl rfl rfl ?_
                obtain ⟨a39, e0, H⟩ := H
                refine zq_getR (pc' := 79) rfl rfl rfl e0 ?_
                refine zq_iload (pc' := 80) rfl rfl rfl rfl ?_
                obtain ⟨x40, e0, H⟩ := H
                refine zq_iald (pc' := 81) rfl rfl rfl e0 ?_
                exact zq_iret rfl trivial H
              · exact H
            · exact H
          · exact H
      · exact H
  · exact H
theorem zr_X8_holdsWith_0 {d : Nat} {Q : zR → zH → Prop} {p0 : Nat} {p1 : Int32} {p2 : Int32} {p3 : Int32} {p4 : Int32} {h : zH} (H :
    zbr (p2 < 0)
    (zW (zE d) zm_X8_holdsWith Q (34, [(0, .ref p0), (1, .int p1), (2, .int p2), (3, .int p3), (4, .int p4)], [], h))
    (∃ a1 : Nat, zgf h p0 8 7 = some (.ref a1) ∧
      ∃ x2, zia h a1 p1 = some x2 ∧
      zbr (x2 ≤ p2)
      (zW (zE d) zm_X8_holdsWith Q (34, [(0, .ref p0), (1, .int p1), (2, .int p2), (3, .int p3), (4, .int p4)], [], h))
      (zbr (p4 < 0)
        (zW (zE d) zm_X8_holdsWith Q (34, [(0, .ref p0), (1, .int p1), (2, .int p2), (3, .int p3), (4, .int p4)], [], h))
        (∃ a3 : Nat, zgf h p0 8 7 = some (.ref a3) ∧
          ∃ x4, zia h a3 p3 = some x4 ∧
          zbr (x4 ≤ p4)
          (zW (zE d) zm_X8_holdsWith Q (34, [(0, .ref p0), (1, .int p1), (2, .int p2), (3, .int p3), (4, .int p4)], [], h))
          (zbr ((1 : Int32) = 0)
            (Q (.inl (some (.int 0))) h)
            (∃ a5 : Nat, zgf h p0 8 26 = some (.ref a5) ∧
              ∃ x6, zia h a5 ((16 * p1) + p2) = some x6 ∧
              ∃ a7 : Nat, zgf h p0 8 27 = some (.ref a7) ∧
              ∃ x8, zia h a7 ((16 * p3) + p4) = some x8 ∧
              zE d 3 [.int x6, .int x8] h (fun r10 h9 => match r10 with
                | .inl v11 => ∃ x13 : Int32, v11 = some (.int x13) ∧ Q (.inl (some (.int x13))) h9
                | .inr e12 => Q (.inr e12) h9))))))) : zW (zE d) zm_X8_holdsWith Q (0, [(0, .ref p0), (1, .int p1), (2, .int p2), (3, .int p3), (4, .int p4)], [], h) := by
  refine zq_iload (pc' := 1) rfl rfl rfl rfl ?_
  refine zq_iflt_c (pc' := 4) (lt := [(0, .ref p0), (1, .int p1), (2, .int p2), (3, .int p3), (4, .int p4)]) (lf := [(0, .ref p0), (1, .int p1), (2, .int p2), (3, .int p3), (4, .int p4)]) rfl rfl rfl rfl (And.intro (fun c => ?_) (fun c => ?_))
  · have H := H.1 c
    exact H
  · have H := H.2 c
    refine zq_iload (pc' := 5) rfl rfl rfl rfl ?_
    refine zq_aload (pc' := 6) rfl rfl rfl rfl ?_
    obtain ⟨a1, e0, H⟩ := H
    refine zq_getR (pc' := 9) rfl rfl rfl e0 ?_
    refine zq_iload (pc' := 10) rfl rfl rfl rfl ?_
    obtain ⟨x2, e0, H⟩ := H
    refine zq_iald (pc' := 11) rfl rfl rfl e0 ?_
    refine zq_icge_c (pc' := 14) (lt := [(0, .ref p0), (1, .int p1), (2, .int p2), (3, .int p3), (4, .int p4)]) (lf := [(0, .ref p0), (1, .int p1), (2, .int p2), (3, .int p3), (4, .int p4)]) rfl rfl rfl rfl (And.intro (fun c => ?_) (fun c => ?_))
    · have H := H.1 c
      exact H
    · have H := H.2 c
      refine zq_iload (pc' := 16) rfl rfl rfl rfl ?_
      refine zq_iflt_c (pc' := 19) (lt := [(0, .ref p0), (1, .int p1), (2, .int p2), (3, .int p3), (4, .int p4)]) (lf := [(0, .ref p0), (1, .int p1), (2, .int p2), (3, .int p3), (4, .int p4)]) rfl rfl rfl rfl (And.intro (fun c => ?_) (fun c => ?_))
      · have H := H.1 c
        exact H
      · have H := H.2 c
        refine zq_iload (pc' := 21) rfl rfl rfl rfl ?_
        refine zq_aload (pc' := 22) rfl rfl rfl rfl ?_
        obtain ⟨a3, e0, H⟩ := H
        refine zq_getR (pc' := 25) rfl rfl rfl e0 ?_
        refine zq_iload (pc' := 26) rfl rfl rfl rfl ?_
        obtain ⟨x4, e0, H⟩ := H
        refine zq_iald (pc' := 27) rfl rfl rfl e0 ?_
        refine zq_icge_c (pc' := 30) (lt := [(0, .ref p0), (1, .int p1), (2, .int p2), (3, .int p3), (4, .int p4)]) (lf := [(0, .ref p0), (1, .int p1), (2, .int p2), (3, .int p3), (4, .int p4)]) rfl rfl rfl rfl (And.intro (fun c => ?_) (fun c => ?_))
        · have H := H.1 c
          exact H
        · have H := H.2 c
          refine zq_ipush (pc' := 31) rfl rfl rfl ?_
          refine zq_goto (pc' := 35) rfl rfl rfl ?_
          refine zq_istore (pc' := 37) rfl rfl rfl ?_
          refine zq_iload (pc' := 39) rfl rfl rfl rfl ?_
          refine zq_ifeq (pc' := 42) rfl rfl rfl rfl (And.intro (fun c => ?_) (fun c => ?_))
          · have H := H.1 c
            refine zq_ipush (pc' := 72) rfl rfl rfl ?_
            exact zq_iret rfl trivial H
          · have H := H.2 c
            refine zq_aload (pc' := 43) rfl rfl rfl rfl ?_
            obtain ⟨a5, e0, H⟩ := H
            refine zq_getR (pc' := 46) rfl rfl rfl e0 ?_
            refine zq_ipush (pc' := 48) rfl rfl rfl ?_
            refine zq_iload (pc' := 49) rfl rfl rfl rfl ?_
            refine zq_imul (pc' := 50) rfl rfl rfl ?_
            refine zq_iload (pc' := 51) rfl rfl rfl rfl ?_
            refine zq_iadd (pc' := 52) rfl rfl rfl ?_
            obtain ⟨x6, e0, H⟩ := H
            refine zq_iald (pc' := 53) rfl rfl rfl e0 ?_
            refine zq_aload (pc' := 54) rfl rfl rfl rfl ?_
            obtain ⟨a7, e0, H⟩ := H
            refine zq_getR (pc' := 57) rfl rfl rfl e0 ?_
            refine zq_ipush (pc' := 59) rfl rfl rfl ?_
            refine zq_iload (pc' := 60) rfl rfl rfl rfl ?_
            refine zq_imul (pc' := 61) rfl rfl rfl ?_
            refine zq_iload (pc' := 63) rfl rfl rfl rfl ?_
            refine zq_iadd (pc' := 64) rfl rfl rfl ?_
            obtain ⟨x8, e0, H⟩ := H
            refine zq_iald (pc' := 65) rfl rfl rfl e0 ?_
            refine zq_calli (pc' := 68) rfl rfl rfl rfl rfl rfl (zE_mono H (fun r10 h9 H => ?_))
            rcases r10 with v11 | e12
            · obtain ⟨x13, e0, H⟩ := H
              refine Exists.intro x13 (And.intro e0 ?_)
              refine zq_goto (pc' := 72) rfl rfl rfl ?_
              exact zq_iret rfl trivial H
            · exact H
theorem zr_X8_holdsWith_34 {d : Nat} {Q : zR → zH → Prop} {l0 : Nat} {l1 : Int32} {l2 : Int32} {l3 : Int32} {l4 : Int32} {h : zH} (H :
    zbr ((0 : Int32) = 0)
    (Q (.inl (some (.int 0))) h)
    (∃ a1 : Nat, zgf h l0 8 26 = some (.ref a1) ∧
      ∃ x2, zia h a1 ((16 * l1) + l2) = some x2 ∧
      ∃ a3 : Nat, zgf h l0 8 27 = some (.ref a3) ∧
      ∃ x4, zia h a3 ((16 * l3) + l4) = some x4 ∧
      zE d 3 [.int x2, .int x4] h (fun r6 h5 => match r6 with
        | .inl v7 => ∃ x9 : Int32, v7 = some (.int x9) ∧ Q (.inl (some (.int x9))) h5
        | .inr e8 => Q (.inr e8) h5))) : zW (zE d) zm_X8_holdsWith Q (34, [(0, .ref l0), (1, .int l1), (2, .int l2), (3, .int l3), (4, .int l4)], [], h) := by
  refine zq_ipush (pc' := 35) rfl rfl rfl ?_
  refine zq_istore (pc' := 37) rfl rfl rfl ?_
  refine zq_iload (pc' := 39) rfl rfl rfl rfl ?_
  refine zq_ifeq (pc' := 42) rfl rfl rfl rfl (And.intro (fun c => ?_) (fun c => ?_))
  · have H := H.1 c
    refine zq_ipush (pc' := 72) rfl rfl rfl ?_
    exact zq_iret rfl trivial H
  · have H := H.2 c
    refine zq_aload (pc' := 43) rfl rfl rfl rfl ?_
    obtain ⟨a1, e0, H⟩ := H
    refine zq_getR (pc' := 46) rfl rfl rfl e0 ?_
    refine zq_ipush (pc' := 48) rfl rfl rfl ?_
    refine zq_iload (pc' := 49) rfl rfl rfl rfl ?_
    refine zq_imul (pc' := 50) rfl rfl rfl ?_
    refine zq_iload (pc' := 51) rfl rfl rfl rfl ?_
    refine zq_iadd (pc' := 52) rfl rfl rfl ?_
    obtain ⟨x2, e0, H⟩ := H
    refine zq_iald (pc' := 53) rfl rfl rfl e0 ?_
    refine zq_aload (pc' := 54) rfl rfl rfl rfl ?_
    obtain ⟨a3, e0, H⟩ := H
    refine zq_getR (pc' := 57) rfl rfl rfl e0 ?_
    refine zq_ipush (pc' := 59) rfl rfl rfl ?_
    refine zq_iload (pc' := 60) rfl rfl rfl rfl ?_
    refine zq_imul (pc' := 61) rfl rfl rfl ?_
    refine zq_iload (pc' := 63) rfl rfl rfl rfl ?_
    refine zq_iadd (pc' := 64) rfl rfl rfl ?_
    obtain ⟨x4, e0, H⟩ := H
    refine zq_iald (pc' := 65) rfl rfl rfl e0 ?_
    refine zq_calli (pc' := 68) rfl rfl rfl rfl rfl rfl (zE_mono H (fun r6 h5 H => ?_))
    rcases r6 with v7 | e8
    · obtain ⟨x9, e0, H⟩ := H
      refine Exists.intro x9 (And.intro e0 ?_)
      refine zq_goto (pc' := 72) rfl rfl rfl ?_
      exact zq_iret rfl trivial H
    · exact H
theorem zr_X8_sewnAt_0 {d : Nat} {Q : zR → zH → Prop} {p0 : Nat} {p1 : Int32} {p2 : Int32} {p3 : Int32} {h : zH} (H :
    zW (zE d) zm_X8_sewnAt Q (6, [(0, .ref p0), (1, .int p1), (2, .int p2), (3, .int p3), (4, .int 0), (5, .int 0)], [], h)) : zW (zE d) zm_X8_sewnAt Q (0, [(0, .ref p0), (1, .int p1), (2, .int p2), (3, .int p3)], [], h) := by
  refine zq_ipush (pc' := 1) rfl rfl rfl ?_
  refine zq_istore (pc' := 3) rfl rfl rfl ?_
  refine zq_ipush (pc' := 4) rfl rfl rfl ?_
  refine zq_istore_c (pc' := 6) rfl rfl ?_
  exact H
theorem zr_X8_sewnAt_6 {d : Nat} {Q : zR → zH → Prop} {l0 : Nat} {l1 : Int32} {l2 : Int32} {l3 : Int32} {l4 : Int32} {l5 : Int32} {h : zH} (H :
    ∃ a1 : Nat, zgf h l0 8 7 = some (.ref a1) ∧
    ∃ x2, zia h a1 l2 = some x2 ∧
    zbr (x2 ≤ l5)
    (Q (.inl (some (.int l4))) h)
    (zE d 300 [.ref l0, .int l1, .int (l5 + l3), .int l2, .int l5] h (fun r4 h3 => match r4 with
        | .inl v5 => ∃ x7 : Int32, v5 = some (.int x7) ∧ zW (zE d) zm_X8_sewnAt Q (6, [(0, .ref l0), (1, .int l1), (2, .int l2), (3, .int l3), (4, .int (l4 + x7)), (5, .int (l5 + 1))], [], h3)
        | .inr e6 => Q (.inr e6) h3))) : zW (zE d) zm_X8_sewnAt Q (6, [(0, .ref l0), (1, .int l1), (2, .int l2), (3, .int l3), (4, .int l4), (5, .int l5)], [], h) := by
  refine zq_iload (pc' := 8) rfl rfl rfl rfl ?_
  refine zq_aload (pc' := 9) rfl rfl rfl rfl ?_
  obtain ⟨a1, e0, H⟩ := H
  refine zq_getR (pc' := 12) rfl rfl rfl e0 ?_
  refine zq_iload (pc' := 13) rfl rfl rfl rfl ?_
  obtain ⟨x2, e0, H⟩ := H
  refine zq_iald (pc' := 14) rfl rfl rfl e0 ?_
  refine zq_icge (pc' := 17) rfl rfl rfl rfl (And.intro (fun c => ?_) (fun c => ?_))
  · have H := H.1 c
    refine zq_iload (pc' := 42) rfl rfl rfl rfl ?_
    exact zq_iret rfl trivial H
  · have H := H.2 c
    refine zq_iload (pc' := 19) rfl rfl rfl rfl ?_
    refine zq_aload (pc' := 20) rfl rfl rfl rfl ?_
    refine zq_iload (pc' := 21) rfl rfl rfl rfl ?_
    refine zq_iload (pc' := 23) rfl rfl rfl rfl ?_
    refine zq_iload (pc' := 24) rfl rfl rfl rfl ?_
    refine zq_iadd (pc' := 25) rfl rfl rfl ?_
    refine zq_iload (pc' := 26) rfl rfl rfl rfl ?_
    refine zq_iload (pc' := 28) rfl rfl rfl rfl ?_
    refine zq_calli (pc' := 31) rfl rfl rfl rfl rfl rfl (zE_mono H (fun r4 h3 H => ?_))
    rcases r4 with v5 | e6
    · obtain ⟨x7, e0, H⟩ := H
      refine Exists.intro x7 (And.intro e0 ?_)
      refine zq_iadd (pc' := 32) rfl rfl rfl ?_
      refine zq_istore (pc' := 34) rfl rfl rfl ?_
      refine zq_iinc (pc' := 37) rfl rfl rfl rfl ?_
      refine zq_goto_c (pc' := 6) rfl rfl ?_
      exact H
    · exact H
theorem zr_X8_offset_0 {d : Nat} {Q : zR → zH → Prop} {p0 : Nat} {p1 : Int32} {p2 : Int32} {p3 : Int32} {h : zH} (H :
    ∃ h1, zpf h p0 8 4 (.int 0) = some h1 ∧
    zE d 220 [.ref p0, .int p1] h1 (fun r3 h2 => match r3 with
      | .inl v4 => ∃ x6 : Int32, v4 = some (.int x6) ∧ zbr (x6 = 0)
        (zE d 215 [.ref p0, .int 1] h2 (fun r8 h7 => match r8 with
            | .inl v9 => ∃ x11 : Int32, v9 = some (.int x11) ∧ Q (.inl (some (.int x11))) h7
            | .inr e10 => Q (.inr e10) h7))
        (zE d 220 [.ref p0, .int p2] h2 (fun r13 h12 => match r13 with
            | .inl v14 => ∃ x16 : Int32, v14 = some (.int x16) ∧ zbr (x16 = 0)
              (zE d 215 [.ref p0, .int 1] h12 (fun r18 h17 => match r18 with
                  | .inl v19 => ∃ x21 : Int32, v19 = some (.int x21) ∧ Q (.inl (some (.int x21))) h17
                  | .inr e20 => Q (.inr e20) h17))
              (zE d 217 [.long ((p3 : Int32).toInt64), .long 0, .long 1] h12 (fun r23 h22 => match r23 with
                  | .inl v24 => ∃ x26 : Int32, v24 = some (.int x26) ∧ zbr (x26 = 0)
                    (zE d 215 [.ref p0, .int 1] h22 (fun r28 h27 => match r28 with
                        | .inl v29 => ∃ x31 : Int32, v29 = some (.int x31) ∧ Q (.inl (some (.int x31))) h27
                        | .inr e30 => Q (.inr e30) h27))
                    (∃ a32 : Nat, zgf h22 p0 8 7 = some (.ref a32) ∧
                      ∃ x33, zia h22 a32 p2 = some x33 ∧
                      zW (zE d) zm_X8_offset Q (53, [(0, .ref p0), (1, .int p1), (2, .int p2), (3, .int p3), (4, .int 0), (5, .int (-1)), (6, .int (1 - x33))], [], h22))
                  | .inr e25 => Q (.inr e25) h22))
            | .inr e15 => Q (.inr e15) h12))
      | .inr e5 => Q (.inr e5) h2)) : zW (zE d) zm_X8_offset Q (0, [(0, .ref p0), (1, .int p1), (2, .int p2), (3, .int p3)], [], h) := by
  refine zq_aload (pc' := 1) rfl rfl rfl rfl ?_
  refine zq_ipush (pc' := 2) rfl rfl rfl ?_
  obtain ⟨h1, e0, H⟩ := H
  refine zq_put (pc' := 5) rfl rfl rfl trivial e0 ?_
  refine zq_aload (pc' := 6) rfl rfl rfl rfl ?_
  refine zq_iload (pc' := 7) rfl rfl rfl rfl ?_
  refine zq_calli (pc' := 10) rfl rfl rfl rfl rfl rfl (zE_mono H (fun r3 h2 H => ?_))
  rcases r3 with v4 | e5
  · obtain ⟨x6, e0, H⟩ := H
    refine Exists.intro x6 (And.intro e0 ?_)
    refine zq_ifeq (pc' := 13) rfl rfl rfl rfl (And.intro (fun c => ?_) (fun c => ?_))
    · have H := H.1 c
      refine zq_aload (pc' := 32) rfl rfl rfl rfl ?_
      refine zq_ipush (pc' := 33) rfl rfl rfl ?_
      refine zq_calli (pc' := 36) rfl rfl rfl rfl rfl rfl (zE_mono H (fun r8 h7 H => ?_))
      rcases r8 with v9 | e10
      · obtain ⟨x11, e0, H⟩ := H
        refine Exists.intro x11 (And.intro e0 ?_)
        exact zq_iret rfl trivial H
      · exact H
    · have H := H.2 c
      refine zq_aload (pc' := 14) rfl rfl rfl rfl ?_
      refine zq_iload (pc' := 15) rfl rfl rfl rfl ?_
      refine zq_calli (pc' := 18) rfl rfl rfl rfl rfl rfl (zE_mono H (fun r13 h12 H => ?_))
      rcases r13 with v14 | e15
      · obtain ⟨x16, e0, H⟩ := H
        refine Exists.intro x16 (And.intro e0 ?_)
        refine zq_ifeq (pc' := 21) rfl rfl rfl rfl (And.intro (fun c => ?_) (fun c => ?_))
        · have H := H.1 c
          refine zq_aload (pc' := 32) rfl rfl rfl rfl ?_
          refine zq_ipush (pc' := 33) rfl rfl rfl ?_
          refine zq_calli (pc' := 36) rfl rfl rfl rfl rfl rfl (zE_mono H (fun r18 h17 H => ?_))
          rcases r18 with v19 | e20
          · obtain ⟨x21, e0, H⟩ := H
            refine Exists.intro x21 (And.intro e0 ?_)
            exact zq_iret rfl trivial H
          · exact H
        · have H := H.2 c
          refine zq_iload (pc' := 22) rfl rfl rfl rfl ?_
          refine zq_i2l (pc' := 23) rfl rfl rfl ?_
          refine zq_lpush (pc' := 24) rfl rfl rfl ?_
          refine zq_lpush (pc' := 25) rfl rfl rfl ?_
          refine zq_calli (pc' := 28) rfl rfl rfl rfl rfl rfl (zE_mono H (fun r23 h22 H => ?_))
          rcases r23 with v24 | e25
          · obtain ⟨x26, e0, H⟩ := H
            refine Exists.intro x26 (And.intro e0 ?_)
            refine zq_ifne (pc' := 31) rfl rfl rfl rfl (And.intro (fun c => ?_) (fun c => ?_))
            · have H := H.1 c
              refine zq_aload (pc' := 32) rfl rfl rfl rfl ?_
              refine zq_ipush (pc' := 33) rfl rfl rfl ?_
              refine zq_calli (pc' := 36) rfl rfl rfl rfl rfl rfl (zE_mono H (fun r28 h27 H => ?_))
              rcases r28 with v29 | e30
              · obtain ⟨x31, e0, H⟩ := H
                refine Exists.intro x31 (And.intro e0 ?_)
                exact zq_iret rfl trivial H
              · exact H
            · have H := H.2 c
              refine zq_ipush (pc' := 38) rfl rfl rfl ?_
              refine zq_istore (pc' := 40) rfl rfl rfl ?_
              refine zq_ipushn (pc' := 41) rfl rfl rfl ?_
              refine zq_istore (pc' := 43) rfl rfl rfl ?_
              refine zq_ipush (pc' := 44) rfl rfl rfl ?_
              refine zq_aload (pc' := 45) rfl rfl rfl rfl ?_
              obtain ⟨a32, e0, H⟩ := H
              refine zq_getR (pc' := 48) rfl rfl rfl e0 ?_
              refine zq_iload (pc' := 49) rfl rfl rfl rfl ?_
              obtain ⟨x33, e0, H⟩ := H
              refine zq_iald (pc' := 50) rfl rfl rfl e0 ?_
              refine zq_isub (pc' := 51) rfl rfl rfl ?_
              refine zq_istore_c (pc' := 53) rfl rfl ?_
              exact H
          · exact H
      · exact H
  · exact H
theorem zr_X8_offset_53 {d : Nat} {Q : zR → zH → Prop} {l0 : Nat} {l1 : Int32} {l2 : Int32} {l3 : Int32} {l4 : Int32} {l5 : Int32} {l6 : Int32} {h : zH} (H :
    ∃ a1 : Nat, zgf h l0 8 7 = some (.ref a1) ∧
    ∃ x2, zia h a1 l1 = some x2 ∧
    zbr (x2 ≤ l6)
    (zbr (l3 = 0)
      (Q (.inl (some (.int l4))) h)
      (Q (.inl (some (.int l5))) h))
    (zE d 301 [.ref l0, .int l1, .int l2, .int l6] h (fun r4 h3 => match r4 with
        | .inl v5 => ∃ x7 : Int32, v5 = some (.int x7) ∧ zbr (l5 < x7)
          (zW (zE d) zm_X8_offset Q (53, [(0, .ref l0), (1, .int l1), (2, .int l2), (3, .int l3), (4, .int l6), (5, .int x7), (6, .int (l6 + 1))], [], h3))
          (zW (zE d) zm_X8_offset Q (53, [(0, .ref l0), (1, .int l1), (2, .int l2), (3, .int l3), (4, .int l4), (5, .int l5), (6, .int (l6 + 1))], [], h3))
        | .inr e6 => Q (.inr e6) h3))) : zW (zE d) zm_X8_offset Q (53, [(0, .ref l0), (1, .int l1), (2, .int l2), (3, .int l3), (4, .int l4), (5, .int l5), (6, .int l6)], [], h) := by
  refine zq_iload (pc' := 55) rfl rfl rfl rfl ?_
  refine zq_aload (pc' := 56) rfl rfl rfl rfl ?_
  obtain ⟨a1, e0, H⟩ := H
  refine zq_getR (pc' := 59) rfl rfl rfl e0 ?_
  refine zq_iload (pc' := 60) rfl rfl rfl rfl ?_
  obtain ⟨x2, e0, H⟩ := H
  refine zq_iald (pc' := 61) rfl rfl rfl e0 ?_
  refine zq_icge (pc' := 64) rfl rfl rfl rfl (And.intro (fun c => ?_) (fun c => ?_))
  · have H := H.1 c
    refine zq_iload (pc' := 99) rfl rfl rfl rfl ?_
    refine zq_ifne (pc' := 102) rfl rfl rfl rfl (And.intro (fun c => ?_) (fun c => ?_))
    · have H := H.1 c
      refine zq_iload (pc' := 104) rfl rfl rfl rfl ?_
      refine zq_goto (pc' := 109) rfl rfl rfl ?_
      exact zq_iret rfl trivial H
    · have H := H.2 c
      refine zq_iload (pc' := 109) rfl rfl rfl rfl ?_
      exact zq_iret rfl trivial H
  · have H := H.2 c
    refine zq_aload (pc' := 65) rfl rfl rfl rfl ?_
    refine zq_iload (pc' := 66) rfl rfl rfl rfl ?_
    refine zq_iload (pc' := 67) rfl rfl rfl rfl ?_
    refine zq_iload (pc' := 69) rfl rfl rfl rfl ?_
    refine zq_calli (pc' := 72) rfl rfl rfl rfl rfl rfl (zE_mono H (fun r4 h3 H => ?_))
    rcases r4 with v5 | e6
    · obtain ⟨x7, e0, H⟩ := H
      refine Exists.intro x7 (And.intro e0 ?_)
      refine zq_istore (pc' := 74) rfl rfl rfl ?_
      refine zq_iload (pc' := 76) rfl rfl rfl rfl ?_
      refine zq_iload (pc' := 78) rfl rfl rfl rfl ?_
      refine zq_icgt (pc' := 81) rfl rfl rfl rfl (And.intro (fun c => ?_) (fun c => ?_))
      · have H := H.1 c
        refine zq_iload (pc' := 86) rfl rfl rfl rfl ?_
        refine zq_istore (pc' := 88) rfl rfl rfl ?_
        refine zq_iload (pc' := 90) rfl rfl rfl rfl ?_
        refine zq_istore (pc' := 92) rfl rfl rfl ?_
        refine zq_iinc (pc' := 95) rfl rfl rfl rfl ?_
        refine zq_goto_c (pc' := 53) rfl rfl ?_
        exact H
      · have H := H.2 c
        refine zq_goto (pc' := 92) rfl rfl rfl ?_
        refine zq_iinc (pc' := 95) rfl rfl rfl rfl ?_
        refine zq_goto_c (pc' := 53) rfl rfl ?_
        exact H
    · exact H
theorem zr_X8_meshedAt_0 {d : Nat} {Q : zR → zH → Prop} {p0 : Nat} {p1 : Int32} {p2 : Int32} {p3 : Int32} {p4 : Int32} {h : zH} (H :
    zE d 300 [.ref p0, .int p1, .int p3, .int p2, .int p4] h (fun r2 h1 => match r2 with
      | .inl v3 => ∃ x5 : Int32, v3 = some (.int x5) ∧ zbr (x5 = 0)
        (Q (.inl (some (.int (-1)))) h1)
        (∃ a6 : Nat, zgf h1 p0 8 40 = some (.ref a6) ∧
          ∃ x7, zia h1 a6 (((18 * (p3 + 1)) + p4) + 1) = some x7 ∧
          Q (.inl (some (.int (x5 + x7)))) h1)
      | .inr e4 => Q (.inr e4) h1)) : zW (zE d) zm_X8_meshedAt Q (0, [(0, .ref p0), (1, .int p1), (2, .int p2), (3, .int p3), (4, .int p4)], [], h) := by
  refine zq_aload (pc' := 1) rfl rfl rfl rfl ?_
  refine zq_iload (pc' := 2) rfl rfl rfl rfl ?_
  refine zq_iload (pc' := 3) rfl rfl rfl rfl ?_
  refine zq_iload (pc' := 4) rfl rfl rfl rfl ?_
  refine zq_iload (pc' := 6) rfl rfl rfl rfl ?_
  refine zq_calli (pc' := 9) rfl rfl rfl rfl rfl rfl (zE_mono H (fun r2 h1 H => ?_))
  rcases r2 with v3 | e4
  · obtain ⟨x5, e0, H⟩ := H
    refine Exists.intro x5 (And.intro e0 ?_)
    refine zq_istore (pc' := 11) rfl rfl rfl ?_
    refine zq_iload (pc' := 13) rfl rfl rfl rfl ?_
    refine zq_ifne (pc' := 16) rfl rfl rfl rfl (And.intro (fun c => ?_) (fun c => ?_))
    · have H := H.1 c
      refine zq_ipushn (pc' := 17) rfl rfl rfl ?_
      refine zq_goto (pc' := 39) rfl rfl rfl ?_
      exact zq_iret rfl trivial H
    · have H := H.2 c
      refine zq_iload (pc' := 22) rfl rfl rfl rfl ?_
      refine zq_aload (pc' := 23) rfl rfl rfl rfl ?_
      obtain ⟨a6, e0, H⟩ := H
      refine zq_getR (pc' := 26) rfl rfl rfl e0 ?_
      refine zq_ipush (pc' := 28) rfl rfl rfl ?_
      refine zq_iload (pc' := 29) rfl rfl rfl rfl ?_
      refine zq_ipush (pc' := 30) rfl rfl rfl ?_
      refine zq_iadd (pc' := 31) rfl rfl rfl ?_
      refine zq_imul (pc' := 32) rfl rfl rfl ?_
      refine zq_iload (pc' := 34) rfl rfl rfl rfl ?_
      refine zq_iadd (pc' := 35) rfl rfl rfl ?_
      refine zq_ipush (pc' := 36) rfl rfl rfl ?_
      refine zq_iadd (pc' := 37) rfl rfl rfl ?_
      obtain ⟨x7, e0, H⟩ := H
      refine zq_iald (pc' := 38) rfl rfl rfl e0 ?_
      refine zq_iadd (pc' := 39) rfl rfl rfl ?_
      exact zq_iret rfl trivial H
  · exact H
theorem zr_X8_tellMesh_0 {d : Nat} {Q : zR → zH → Prop} {p0 : Nat} {p1 : Int32} {p2 : Int32} {h : zH} (H :
    zW (zE d) zm_X8_tellMesh Q (2, [(0, .ref p0), (1, .int p1), (2, .int p2), (3, .int 0)], [], h)) : zW (zE d) zm_X8_tellMesh Q (0, [(0, .ref p0), (1, .int p1), (2, .int p2)], [], h) := by
  refine zq_ipush (pc' := 1) rfl rfl rfl ?_
  refine zq_istore_c (pc' := 2) rfl rfl ?_
  exact H
theorem zr_X8_tellMesh_2 {d : Nat} {Q : zR → zH → Prop} {l0 : Nat} {l1 : Int32} {l2 : Int32} {l3 : Int32} {h : zH} (H :
    ∃ a1 : Nat, zgf h l0 8 40 = some (.ref a1) ∧
    ∃ x2, zal h a1 = some x2 ∧
    zbr (x2 ≤ l3)
    (∃ a3 : Nat, zgf h l0 8 7 = some (.ref a3) ∧
      ∃ x4, zia h a3 l1 = some x4 ∧
      zW (zE d) zm_X8_tellMesh Q (33, [(0, .ref l0), (1, .int l1), (2, .int l2), (3, .int (x4 - 1))], [], h))
    (∃ a5 : Nat, zgf h l0 8 40 = some (.ref a5) ∧
      ∃ h6, zis h a5 l3 0 = some h6 ∧
      zW (zE d) zm_X8_tellMesh Q (2, [(0, .ref l0), (1, .int l1), (2, .int l2), (3, .int (l3 + 1))], [], h6))) : zW (zE d) zm_X8_tellMesh Q (2, [(0, .ref l0), (1, .int l1), (2, .int l2), (3, .int l3)], [], h) := by
  refine zq_iload (pc' := 3) rfl rfl rfl rfl ?_
  refine zq_aload (pc' := 4) rfl rfl rfl rfl ?_
  obtain ⟨a1, e0, H⟩ := H
  refine zq_getR (pc' := 7) rfl rfl rfl e0 ?_
  obtain ⟨x2, e0, H⟩ := H
  refine zq_alen (pc' := 8) rfl rfl rfl e0 ?_
  refine zq_icge (pc' := 11) rfl rfl rfl rfl (And.intro (fun c => ?_) (fun c => ?_))
  · have H := H.1 c
    refine zq_aload (pc' := 25) rfl rfl rfl rfl ?_
    obtain ⟨a3, e0, H⟩ := H
    refine zq_getR (pc' := 28) rfl rfl rfl e0 ?_
    refine zq_iload (pc' := 29) rfl rfl rfl rfl ?_
    obtain ⟨x4, e0, H⟩ := H
    refine zq_iald (pc' := 30) rfl rfl rfl e0 ?_
    refine zq_ipush (pc' := 31) rfl rfl rfl ?_
    refine zq_isub (pc' := 32) rfl rfl rfl ?_
    refine zq_istore_c (pc' := 33) rfl rfl ?_
    exact H
  · have H := H.2 c
    refine zq_aload (pc' := 12) rfl rfl rfl rfl ?_
    obtain ⟨a5, e0, H⟩ := H
    refine zq_getR (pc' := 15) rfl rfl rfl e0 ?_
    refine zq_iload (pc' := 16) rfl rfl rfl rfl ?_
    refine zq_ipush (pc' := 17) rfl rfl rfl ?_
    obtain ⟨h6, e0, H⟩ := H
    refine zq_iast (pc' := 18) rfl rfl rfl e0 ?_
    refine zq_iinc (pc' := 21) rfl rfl rfl rfl ?_
    refine zq_goto_c (pc' := 2) rfl rfl ?_
    exact H
theorem zr_X8_tellMesh_33 {d : Nat} {Q : zR → zH → Prop} {l0 : Nat} {l1 : Int32} {l2 : Int32} {l3 : Int32} {h : zH} (H :
    zbr (l3 < 0)
    (Q (.inl none) h)
    (∃ a1 : Nat, zgf h l0 8 7 = some (.ref a1) ∧
      ∃ x2, zia h a1 l2 = some x2 ∧
      zW (zE d) zm_X8_tellMesh Q (47, [(0, .ref l0), (1, .int l1), (2, .int l2), (3, .int l3), (4, .int (x2 - 1))], [], h))) : zW (zE d) zm_X8_tellMesh Q (33, [(0, .ref l0), (1, .int l1), (2, .int l2), (3, .int l3)], [], h) := by
  refine zq_iload (pc' := 34) rfl rfl rfl rfl ?_
  refine zq_iflt (pc' := 37) rfl rfl rfl rfl (And.intro (fun c => ?_) (fun c => ?_))
  · have H := H.1 c
    exact zq_vret rfl H
  · have H := H.2 c
    refine zq_aload (pc' := 38) rfl rfl rfl rfl ?_
    obtain ⟨a1, e0, H⟩ := H
    refine zq_getR (pc' := 41) rfl rfl rfl e0 ?_
    refine zq_iload (pc' := 42) rfl rfl rfl rfl ?_
    obtain ⟨x2, e0, H⟩ := H
    refine zq_iald (pc' := 43) rfl rfl rfl e0 ?_
    refine zq_ipush (pc' := 44) rfl rfl rfl ?_
    refine zq_isub (pc' := 45) rfl rfl rfl ?_
    refine zq_istore_c (pc' := 47) rfl rfl ?_
    exact H
theorem zr_X8_tellMesh_47 {d : Nat} {Q : zR → zH → Prop} {l0 : Nat} {l1 : Int32} {l2 : Int32} {l3 : Int32} {l4 : Int32} {h : zH} (H :
    zbr (l4 < 0)
    (zW (zE d) zm_X8_tellMesh Q (33, [(0, .ref l0), (1, .int l1), (2, .int l2), (3, .int (l3 + (-1)))], [], h))
    (∃ a1 : Nat, zgf h l0 8 40 = some (.ref a1) ∧
      ∃ x2, zia h a1 ((18 * (l3 + 1)) + l4) = some x2 ∧
      ∃ a3 : Nat, zgf h l0 8 40 = some (.ref a3) ∧
      ∃ x4, zia h a3 (((18 * l3) + l4) + 1) = some x4 ∧
      zE d 2 [.int x2, .int x4] h (fun r6 h5 => match r6 with
        | .inl v7 => ∃ x9 : Int32, v7 = some (.int x9) ∧ ∃ a10 : Nat, zgf h5 l0 8 40 = some (.ref a10) ∧
          zE d 303 [.ref l0, .int l1, .int l2, .int l3, .int l4] h5 (fun r12 h11 => match r12 with
            | .inl v13 => ∃ x15 : Int32, v13 = some (.int x15) ∧ zE d 2 [.int x9, .int x15] h11 (fun r17 h16 => match r17 with
                | .inl v18 => ∃ x20 : Int32, v18 = some (.int x20) ∧ ∃ h21, zis h16 a10 ((18 * l3) + l4) x20 = some h21 ∧
                  zW (zE d) zm_X8_tellMesh Q (47, [(0, .ref l0), (1, .int l1), (2, .int l2), (3, .int l3), (4, .int (l4 + (-1)))], [], h21)
                | .inr e19 => Q (.inr e19) h16)
            | .inr e14 => Q (.inr e14) h11)
        | .inr e8 => Q (.inr e8) h5))) : zW (zE d) zm_X8_tellMesh Q (47, [(0, .ref l0), (1, .int l1), (2, .int l2), (3, .int l3), (4, .int l4)], [], h) := by
  refine zq_iload (pc' := 49) rfl rfl rfl rfl ?_
  refine zq_iflt (pc' := 52) rfl rfl rfl rfl (And.intro (fun c => ?_) (fun c => ?_))
  · have H := H.1 c
    refine zq_iincn (pc' := 120) rfl rfl rfl rfl ?_
    refine zq_goto_c (pc' := 33) rfl rfl ?_
    exact H
  · have H := H.2 c
    refine zq_aload (pc' := 53) rfl rfl rfl rfl ?_
    obtain ⟨a1, e0, H⟩ := H
    refine zq_getR (pc' := 56) rfl rfl rfl e0 ?_
    refine zq_ipush (pc' := 58) rfl rfl rfl ?_
    refine zq_iload (pc' := 59) rfl rfl rfl rfl ?_
    refine zq_ipush (pc' := 60) rfl rfl rfl ?_
    refine zq_iadd (pc' := 61) rfl rfl rfl ?_
    refine zq_imul (pc' := 62) rfl rfl rfl ?_
    refine zq_iload (pc' := 64) rfl rfl rfl rfl ?_
    refine zq_iadd (pc' := 65) rfl rfl rfl ?_
    obtain ⟨x2, e0, H⟩ := H
    refine zq_iald (pc' := 66) rfl rfl rfl e0 ?_
    refine zq_aload (pc' := 67) rfl rfl rfl rfl ?_
    obtain ⟨a3, e0, H⟩ := H
    refine zq_getR (pc' := 70) rfl rfl rfl e0 ?_
    refine zq_ipush (pc' := 72) rfl rfl rfl ?_
    refine zq_iload (pc' := 73) rfl rfl rfl rfl ?_
    refine zq_imul (pc' := 74) rfl rfl rfl ?_
    refine zq_iload (pc' := 76) rfl rfl rfl rfl ?_
    refine zq_iadd (pc' := 77) rfl rfl rfl ?_
    refine zq_ipush (pc' := 78) rfl rfl rfl ?_
    refine zq_iadd (pc' := 79) rfl rfl rfl ?_
    obtain ⟨x4, e0, H⟩ := H
    refine zq_iald (pc' := 80) rfl rfl rfl e0 ?_
    refine zq_calli (pc' := 83) rfl rfl rfl rfl rfl rfl (zE_mono H (fun r6 h5 H => ?_))
    rcases r6 with v7 | e8
    · obtain ⟨x9, e0, H⟩ := H
      refine Exists.intro x9 (And.intro e0 ?_)
      refine zq_istore (pc' := 85) rfl rfl rfl ?_
      refine zq_aload (pc' := 86) rfl rfl rfl rfl ?_
      obtain ⟨a10, e0, H⟩ := H
      refine zq_getR (pc' := 89) rfl rfl rfl e0 ?_
      refine zq_ipush (pc' := 91) rfl rfl rfl ?_
      refine zq_iload (pc' := 92) rfl rfl rfl rfl ?_
      refine zq_imul (pc' := 93) rfl rfl rfl ?_
      refine zq_iload (pc' := 95) rfl rfl rfl rfl ?_
      refine zq_iadd (pc' := 96) rfl rfl rfl ?_
      refine zq_iload (pc' := 98) rfl rfl rfl rfl ?_
      refine zq_aload (pc' := 99) rfl rfl rfl rfl ?_
      refine zq_iload (pc' := 100) rfl rfl rfl rfl ?_
      refine zq_iload (pc' := 101) rfl rfl rfl rfl ?_
      refine zq_iload (pc' := 102) rfl rfl rfl rfl ?_
      refine zq_iload (pc' := 104) rfl rfl rfl rfl ?_
      refine zq_calli (pc' := 107) rfl rfl rfl rfl rfl rfl (zE_mono H (fun r12 h11 H => ?_))
      rcases r12 with v13 | e14
      · obtain ⟨x15, e0, H⟩ := H
        refine Exists.intro x15 (And.intro e0 ?_)
        refine zq_calli (pc' := 110) rfl rfl rfl rfl rfl rfl (zE_mono H (fun r17 h16 H => ?_))
        rcases r17 with v18 | e19
        · obtain ⟨x20, e0, H⟩ := H
          refine Exists.intro x20 (And.intro e0 ?_)
          obtain ⟨h21, e0, H⟩ := H
          refine zq_iast (pc' := 111) rfl rfl rfl e0 ?_
          refine zq_iincn (pc' := 114) rfl rfl rfl rfl ?_
          refine zq_goto_c (pc' := 47) rfl rfl ?_
          exact H
        · exact H
      · exact H
    · exact H
theorem zr_X8_mesh_0 {d : Nat} {Q : zR → zH → Prop} {p0 : Nat} {p1 : Int32} {p2 : Int32} {p3 : Int32} {h : zH} (H :
    ∃ h1, zpf h p0 8 4 (.int 0) = some h1 ∧
    zE d 220 [.ref p0, .int p1] h1 (fun r3 h2 => match r3 with
      | .inl v4 => ∃ x6 : Int32, v4 = some (.int x6) ∧ zbr (x6 = 0)
        (zE d 215 [.ref p0, .int 1] h2 (fun r8 h7 => match r8 with
            | .inl v9 => ∃ x11 : Int32, v9 = some (.int x11) ∧ Q (.inl (some (.int x11))) h7
            | .inr e10 => Q (.inr e10) h7))
        (zE d 220 [.ref p0, .int p2] h2 (fun r13 h12 => match r13 with
            | .inl v14 => ∃ x16 : Int32, v14 = some (.int x16) ∧ zbr (x16 = 0)
              (zE d 215 [.ref p0, .int 1] h12 (fun r18 h17 => match r18 with
                  | .inl v19 => ∃ x21 : Int32, v19 = some (.int x21) ∧ Q (.inl (some (.int x21))) h17
                  | .inr e20 => Q (.inr e20) h17))
              (∃ a22 : Nat, zgf h12 p0 8 7 = some (.ref a22) ∧
                ∃ x23, zia h12 a22 p1 = some x23 ∧
                zE d 217 [.long ((p3 : Int32).toInt64), .long (-1), .long ((x23 - 1 : Int32).toInt64)] h12 (fun r25 h24 => match r25 with
                  | .inl v26 => ∃ x28 : Int32, v26 = some (.int x28) ∧ zbr (x28 = 0)
                    (zE d 215 [.ref p0, .int 1] h24 (fun r30 h29 => match r30 with
                        | .inl v31 => ∃ x33 : Int32, v31 = some (.int x33) ∧ Q (.inl (some (.int x33))) h29
                        | .inr e32 => Q (.inr e32) h29))
                    (zE d 304 [.ref p0, .int p1, .int p2] h24 (fun r35 h34 => match r35 with
                        | .inl v36 => v36 = none ∧ zbr (p3 = (-1))
                          (∃ a38 : Nat, zgf h34 p0 8 40 = some (.ref a38) ∧
                            ∃ x39, zia h34 a38 0 = some x39 ∧
                            Q (.inl (some (.int x39))) h34)
                          (zW (zE d) zm_X8_mesh Q (74, [(0, .ref p0), (1, .int p1), (2, .int p2), (3, .int p3), (4, .int 0), (5, .int (-1)), (6, .int 0)], [], h34))
                        | .inr e37 => Q (.inr e37) h34))
                  | .inr e27 => Q (.inr e27) h24))
            | .inr e15 => Q (.inr e15) h12))
      | .inr e5 => Q (.inr e5) h2)) : zW (zE d) zm_X8_mesh Q (0, [(0, .ref p0), (1, .int p1), (2, .int p2), (3, .int p3)], [], h) := by
  refine zq_aload (pc' := 1) rfl rfl rfl rfl ?_
  refine zq_ipush (pc' := 2) rfl rfl rfl ?_
  obtain ⟨h1, e0, H⟩ := H
  refine zq_put (pc' := 5) rfl rfl rfl trivial e0 ?_
  refine zq_aload (pc' := 6) rfl rfl rfl rfl ?_
  refine zq_iload (pc' := 7) rfl rfl rfl rfl ?_
  refine zq_calli (pc' := 10) rfl rfl rfl rfl rfl rfl (zE_mono H (fun r3 h2 H => ?_))
  rcases r3 with v4 | e5
  · obtain ⟨x6, e0, H⟩ := H
    refine Exists.intro x6 (And.intro e0 ?_)
    refine zq_ifeq (pc' := 13) rfl rfl rfl rfl (And.intro (fun c => ?_) (fun c => ?_))
    · have H := H.1 c
      refine zq_aload (pc' := 42) rfl rfl rfl rfl ?_
      refine zq_ipush (pc' := 43) rfl rfl rfl ?_
      refine zq_calli (pc' := 46) rfl rfl rfl rfl rfl rfl (zE_mono H (fun r8 h7 H => ?_))
      rcases r8 with v9 | e10
      · obtain ⟨x11, e0, H⟩ := H
        refine Exists.intro x11 (And.intro e0 ?_)
        exact zq_iret rfl trivial H
      · exact H
    · have H := H.2 c
      refine zq_aload (pc' := 14) rfl rfl rfl rfl ?_
      refine zq_iload (pc' := 15) rfl rfl rfl rfl ?_
      refine zq_calli (pc' := 18) rfl rfl rfl rfl rfl rfl (zE_mono H (fun r13 h12 H => ?_))
      rcases r13 with v14 | e15
      · obtain ⟨x16, e0, H⟩ := H
        refine Exists.intro x16 (And.intro e0 ?_)
        refine zq_ifeq (pc' := 21) rfl rfl rfl rfl (And.intro (fun c => ?_) (fun c => ?_))
        · have H := H.1 c
          refine zq_aload (pc' := 42) rfl rfl rfl rfl ?_
          refine zq_ipush (pc' := 43) rfl rfl rfl ?_
          refine zq_calli (pc' := 46) rfl rfl rfl rfl rfl rfl (zE_mono H (fun r18 h17 H => ?_))
          rcases r18 with v19 | e20
          · obtain ⟨x21, e0, H⟩ := H
            refine Exists.intro x21 (And.intro e0 ?_)
            exact zq_iret rfl trivial H
          · exact H
        · have H := H.2 c
          refine zq_iload (pc' := 22) rfl rfl rfl rfl ?_
          refine zq_i2l (pc' := 23) rfl rfl rfl ?_
          refine zq_lpushn (pc' := 26) rfl rfl rfl ?_
          refine zq_aload (pc' := 27) rfl rfl rfl rfl ?_
          obtain ⟨a22, e0, H⟩ := H
          refine zq_getR (pc' := 30) rfl rfl rfl e0 ?_
          refine zq_iload (pc' := 31) rfl rfl rfl rfl ?_
          obtain ⟨x23, e0, H⟩ := H
          refine zq_iald (pc' := 32) rfl rfl rfl e0 ?_
          refine zq_ipush (pc' := 33) rfl rfl rfl ?_
          refine zq_isub (pc' := 34) rfl rfl rfl ?_
          refine zq_i2l (pc' := 35) rfl rfl rfl ?_
          refine zq_calli (pc' := 38) rfl rfl rfl rfl rfl rfl (zE_mono H (fun r25 h24 H => ?_))
          rcases r25 with v26 | e27
          · obtain ⟨x28, e0, H⟩ := H
            refine Exists.intro x28 (And.intro e0 ?_)
            refine zq_ifne (pc' := 41) rfl rfl rfl rfl (And.intro (fun c => ?_) (fun c => ?_))
            · have H := H.1 c
              refine zq_aload (pc' := 42) rfl rfl rfl rfl ?_
              refine zq_ipush (pc' := 43) rfl rfl rfl ?_
              refine zq_calli (pc' := 46) rfl rfl rfl rfl rfl rfl (zE_mono H (fun r30 h29 H => ?_))
              rcases r30 with v31 | e32
              · obtain ⟨x33, e0, H⟩ := H
                refine Exists.intro x33 (And.intro e0 ?_)
                exact zq_iret rfl trivial H
              · exact H
            · have H := H.2 c
              refine zq_aload (pc' := 48) rfl rfl rfl rfl ?_
              refine zq_iload (pc' := 49) rfl rfl rfl rfl ?_
              refine zq_iload (pc' := 50) rfl rfl rfl rfl ?_
              refine zq_callv (pc' := 53) rfl rfl rfl rfl rfl rfl (zE_mono H (fun r35 h34 H => ?_))
              rcases r35 with v36 | e37
              · obtain ⟨e0, H⟩ := H
                refine And.intro e0 ?_
                refine zq_iload (pc' := 54) rfl rfl rfl rfl ?_
                refine zq_ipushn (pc' := 55) rfl rfl rfl ?_
                refine zq_icne (pc' := 58) rfl rfl rfl rfl (And.intro (fun c => ?_) (fun c => ?_))
                · have H := H.1 c
                  refine zq_aload (pc' := 59) rfl rfl rfl rfl ?_
                  obtain ⟨a38, e0, H⟩ := H
                  refine zq_getR (pc' := 62) rfl rfl rfl e0 ?_
                  refine zq_ipush (pc' := 63) rfl rfl rfl ?_
                  obtain ⟨x39, e0, H⟩ := H
                  refine zq_iald (pc' := 64) rfl rfl rfl e0 ?_
                  exact zq_iret rfl trivial H
                · have H := H.2 c
                  refine zq_ipush (pc' := 66) rfl rfl rfl ?_
                  refine zq_istore (pc' := 68) rfl rfl rfl ?_
                  refine zq_ipushn (pc' := 69) rfl rfl rfl ?_
                  refine zq_istore (pc' := 71) rfl rfl rfl ?_
                  refine zq_ipush (pc' := 72) rfl rfl rfl ?_
                  refine zq_istore_c (pc' := 74) rfl rfl ?_
                  exact H
              · exact H
          · exact H
      · exact H
  · exact H
theorem zr_X8_mesh_74 {d : Nat} {Q : zR → zH → Prop} {l0 : Nat} {l1 : Int32} {l2 : Int32} {l3 : Int32} {l4 : Int32} {l5 : Int32} {l6 : Int32} {h : zH} (H :
    zbr (l3 < l6)
    (Q (.inl (some (.int l5))) h)
    (∃ a1 : Nat, zgf h l0 8 7 = some (.ref a1) ∧
      ∃ x2, zia h a1 l2 = some x2 ∧
      zW (zE d) zm_X8_mesh Q (93, [(0, .ref l0), (1, .int l1), (2, .int l2), (3, .int l3), (4, .int l4), (5, .int (-1)), (6, .int l6), (7, .int (x2 - 1))], [], h))) : zW (zE d) zm_X8_mesh Q (74, [(0, .ref l0), (1, .int l1), (2, .int l2), (3, .int l3), (4, .int l4), (5, .int l5), (6, .int l6)], [], h) := by
  refine zq_iload (pc' := 76) rfl rfl rfl rfl ?_
  refine zq_iload (pc' := 77) rfl rfl rfl rfl ?_
  refine zq_icgt (pc' := 80) rfl rfl rfl rfl (And.intro (fun c => ?_) (fun c => ?_))
  · have H := H.1 c
    refine zq_iload (pc' := 156) rfl rfl rfl rfl ?_
    exact zq_iret rfl trivial H
  · have H := H.2 c
    refine zq_ipushn (pc' := 81) rfl rfl rfl ?_
    refine zq_istore (pc' := 83) rfl rfl rfl ?_
    refine zq_aload (pc' := 84) rfl rfl rfl rfl ?_
    obtain ⟨a1, e0, H⟩ := H
    refine zq_getR (pc' := 87) rfl rfl rfl e0 ?_
    refine zq_iload (pc' := 88) rfl rfl rfl rfl ?_
    obtain ⟨x2, e0, H⟩ := H
    refine zq_iald (pc' := 89) rfl rfl rfl e0 ?_
    refine zq_ipush (pc' := 90) rfl rfl rfl ?_
    refine zq_isub (pc' := 91) rfl rfl rfl ?_
    refine zq_istore_c (pc' := 93) rfl rfl ?_
    exact H
theorem zr_X8_mesh_93 {d : Nat} {Q : zR → zH → Prop} {l0 : Nat} {l1 : Int32} {l2 : Int32} {l3 : Int32} {l4 : Int32} {l5 : Int32} {l6 : Int32} {l7 : Int32} {h : zH} (H :
    zbr (l7 < l4)
    (zbr (l5 = (-1))
      (zW (zE d) zm_X8_mesh Q (74, [(0, .ref l0), (1, .int l1), (2, .int l2), (3, .int l3), (4, .int l4), (5, .int l5), (6, .int (l6 + 1))], [], h))
      (zW (zE d) zm_X8_mesh Q (74, [(0, .ref l0), (1, .int l1), (2, .int l2), (3, .int l3), (4, .int (l5 + 1)), (5, .int l5), (6, .int (l6 + 1))], [], h)))
    (zE d 303 [.ref l0, .int l1, .int l2, .int l6, .int l7] h (fun r2 h1 => match r2 with
        | .inl v3 => ∃ x5 : Int32, v3 = some (.int x5) ∧ ∃ a6 : Nat, zgf h1 l0 8 40 = some (.ref a6) ∧
          ∃ x7, zia h1 a6 ((18 * l6) + l4) = some x7 ∧
          zbr (x5 = x7)
          (zW (zE d) zm_X8_mesh Q (93, [(0, .ref l0), (1, .int l1), (2, .int l2), (3, .int l3), (4, .int l4), (5, .int l7), (6, .int l6), (7, .int (l7 + (-1)))], [], h1))
          (zW (zE d) zm_X8_mesh Q (93, [(0, .ref l0), (1, .int l1), (2, .int l2), (3, .int l3), (4, .int l4), (5, .int l5), (6, .int l6), (7, .int (l7 + (-1)))], [], h1))
        | .inr e4 => Q (.inr e4) h1))) : zW (zE d) zm_X8_mesh Q (93, [(0, .ref l0), (1, .int l1), (2, .int l2), (3, .int l3), (4, .int l4), (5, .int l5), (6, .int l6), (7, .int l7)], [], h) := by
  refine zq_iload (pc' := 95) rfl rfl rfl rfl ?_
  refine zq_iload (pc' := 97) rfl rfl rfl rfl ?_
  refine zq_iclt (pc' := 100) rfl rfl rfl rfl (And.intro (fun c => ?_) (fun c => ?_))
  · have H := H.1 c
    refine zq_iload (pc' := 138) rfl rfl rfl rfl ?_
    refine zq_ipushn (pc' := 139) rfl rfl rfl ?_
    refine zq_iceq (pc' := 142) rfl rfl rfl rfl (And.intro (fun c => ?_) (fun c => ?_))
    · have H := H.1 c
      refine zq_iinc (pc' := 151) rfl rfl rfl rfl ?_
      refine zq_goto_c (pc' := 74) rfl rfl ?_
      exact H
    · have H := H.2 c
      refine zq_iload (pc' := 144) rfl rfl rfl rfl ?_
      refine zq_ipush (pc' := 145) rfl rfl rfl ?_
      refine zq_iadd (pc' := 146) rfl rfl rfl ?_
      refine zq_istore (pc' := 148) rfl rfl rfl ?_
      refine zq_iinc (pc' := 151) rfl rfl rfl rfl ?_
      refine zq_goto_c (pc' := 74) rfl rfl ?_
      exact H
  · have H := H.2 c
    refine zq_aload (pc' := 101) rfl rfl rfl rfl ?_
    refine zq_iload (pc' := 102) rfl rfl rfl rfl ?_
    refine zq_iload (pc' := 103) rfl rfl rfl rfl ?_
    refine zq_iload (pc' := 105) rfl rfl rfl rfl ?_
    refine zq_iload (pc' := 107) rfl rfl rfl rfl ?_
    refine zq_calli (pc' := 110) rfl rfl rfl rfl rfl rfl (zE_mono H (fun r2 h1 H => ?_))
    rcases r2 with v3 | e4
    · obtain ⟨x5, e0, H⟩ := H
      refine Exists.intro x5 (And.intro e0 ?_)
      refine zq_aload (pc' := 111) rfl rfl rfl rfl ?_
      obtain ⟨a6, e0, H⟩ := H
      refine zq_getR (pc' := 114) rfl rfl rfl e0 ?_
      refine zq_ipush (pc' := 116) rfl rfl rfl ?_
      refine zq_iload (pc' := 118) rfl rfl rfl rfl ?_
      refine zq_imul (pc' := 119) rfl rfl rfl ?_
      refine zq_iload (pc' := 121) rfl rfl rfl rfl ?_
      refine zq_iadd (pc' := 122) rfl rfl rfl ?_
      obtain ⟨x7, e0, H⟩ := H
      refine zq_iald (pc' := 123) rfl rfl rfl e0 ?_
      refine zq_icne (pc' := 126) rfl rfl rfl rfl (And.intro (fun c => ?_) (fun c => ?_))
      · have H := H.1 c
        refine zq_iload (pc' := 128) rfl rfl rfl rfl ?_
        refine zq_istore (pc' := 130) rfl rfl rfl ?_
        refine zq_iincn (pc' := 133) rfl rfl rfl rfl ?_
        refine zq_goto_c (pc' := 93) rfl rfl ?_
        exact H
      · have H := H.2 c
        refine zq_iincn (pc' := 133) rfl rfl rfl rfl ?_
        refine zq_goto_c (pc' := 93) rfl rfl ?_
        exact H
    · exact H
theorem zr_X8_cut_0 {d : Nat} {Q : zR → zH → Prop} {p0 : Nat} {p1 : Int32} {p2 : Int32} {h : zH} (H :
    ∃ h1, zpf h p0 8 4 (.int 0) = some h1 ∧
    zE d 220 [.ref p0, .int p1] h1 (fun r3 h2 => match r3 with
      | .inl v4 => ∃ x6 : Int32, v4 = some (.int x6) ∧ zbr (x6 = 0)
        (zE d 215 [.ref p0, .int 1] h2 (fun r8 h7 => match r8 with
            | .inl v9 => ∃ x11 : Int32, v9 = some (.int x11) ∧ Q (.inl (some (.int x11))) h7
            | .inr e10 => Q (.inr e10) h7))
        (zE d 217 [.long ((p2 : Int32).toInt64), .long 0, .long 1] h2 (fun r13 h12 => match r13 with
            | .inl v14 => ∃ x16 : Int32, v14 = some (.int x16) ∧ zbr (x16 = 0)
              (zE d 215 [.ref p0, .int 1] h12 (fun r18 h17 => match r18 with
                  | .inl v19 => ∃ x21 : Int32, v19 = some (.int x21) ∧ Q (.inl (some (.int x21))) h17
                  | .inr e20 => Q (.inr e20) h17))
              (zW (zE d) zm_X8_cut Q (34, [(0, .ref p0), (1, .int p1), (2, .int p2), (3, .int 0), (4, .int 0)], [], h12))
            | .inr e15 => Q (.inr e15) h12))
      | .inr e5 => Q (.inr e5) h2)) : zW (zE d) zm_X8_cut Q (0, [(0, .ref p0), (1, .int p1), (2, .int p2)], [], h) := by
  refine zq_aload (pc' := 1) rfl rfl rfl rfl ?_
  refine zq_ipush (pc' := 2) rfl rfl rfl ?_
  obtain ⟨h1, e0, H⟩ := H
  refine zq_put (pc' := 5) rfl rfl rfl trivial e0 ?_
  refine zq_aload (pc' := 6) rfl rfl rfl rfl ?_
  refine zq_iload (pc' := 7) rfl rfl rfl rfl ?_
  refine zq_calli (pc' := 10) rfl rfl rfl rfl rfl rfl (zE_mono H (fun r3 h2 H => ?_))
  rcases r3 with v4 | e5
  · obtain ⟨x6, e0, H⟩ := H
    refine Exists.intro x6 (And.intro e0 ?_)
    refine zq_ifeq (pc' := 13) rfl rfl rfl rfl (And.intro (fun c => ?_) (fun c => ?_))
    · have H := H.1 c
      refine zq_aload (pc' := 24) rfl rfl rfl rfl ?_
      refine zq_ipush (pc' := 25) rfl rfl rfl ?_
      refine zq_calli (pc' := 28) rfl rfl rfl rfl rfl rfl (zE_mono H (fun r8 h7 H => ?_))
      rcases r8 with v9 | e10
      · obtain ⟨x11, e0, H⟩ := H
        refine Exists.intro x11 (And.intro e0 ?_)
        exact zq_iret rfl trivial H
      · exact H
    · have H := H.2 c
      refine zq_iload (pc' := 14) rfl rfl rfl rfl ?_
      refine zq_i2l (pc' := 15) rfl rfl rfl ?_
      refine zq_lpush (pc' := 16) rfl rfl rfl ?_
      refine zq_lpush (pc' := 17) rfl rfl rfl ?_
      refine zq_calli (pc' := 20) rfl rfl rfl rfl rfl rfl (zE_mono H (fun r13 h12 H => ?_))
      rcases r13 with v14 | e15
      · obtain ⟨x16, e0, H⟩ := H
        refine Exists.intro x16 (And.intro e0 ?_)
        refine zq_ifne (pc' := 23) rfl rfl rfl rfl (And.intro (fun c => ?_) (fun c => ?_))
        · have H := H.1 c
          refine zq_aload (pc' := 24) rfl rfl rfl rfl ?_
          refine zq_ipush (pc' := 25) rfl rfl rfl ?_
          refine zq_calli (pc' := 28) rfl rfl rfl rfl rfl rfl (zE_mono H (fun r18 h17 H => ?_))
          rcases r18 with v19 | e20
          · obtain ⟨x21, e0, H⟩ := H
            refine Exists.intro x21 (And.intro e0 ?_)
            exact zq_iret rfl trivial H
          · exact H
        · have H := H.2 c
          refine zq_ipush (pc' := 30) rfl rfl rfl ?_
          refine zq_istore (pc' := 31) rfl rfl rfl ?_
          refine zq_ipush (pc' := 32) rfl rfl rfl ?_
          refine zq_istore_c (pc' := 34) rfl rfl ?_
          exact H
      · exact H
  · exact H
theorem zr_X8_cut_34 {d : Nat} {Q : zR → zH → Prop} {l0 : Nat} {l1 : Int32} {l2 : Int32} {l3 : Int32} {l4 : Int32} {h : zH} (H :
    ∃ a1 : Nat, zgf h l0 8 7 = some (.ref a1) ∧
    ∃ x2, zia h a1 l1 = some x2 ∧
    zbr (x2 ≤ l4)
    (zW (zE d) zm_X8_cut Q (73, [(0, .ref l0), (1, .int l1), (2, .int l2), (3, .int l3), (4, .int (-1)), (5, .int (-1)), (6, .int 0), (7, .int 1)], [], h))
    (zE d 251 [.ref l0, .int l1, .int l4] h (fun r4 h3 => match r4 with
        | .inl v5 => ∃ x7 : Int32, v5 = some (.int x7) ∧ zW (zE d) zm_X8_cut Q (34, [(0, .ref l0), (1, .int l1), (2, .int l2), (3, .int (l3 + x7)), (4, .int (l4 + 1))], [], h3)
        | .inr e6 => Q (.inr e6) h3))) : zW (zE d) zm_X8_cut Q (34, [(0, .ref l0), (1, .int l1), (2, .int l2), (3, .int l3), (4, .int l4)], [], h) := by
  refine zq_iload (pc' := 36) rfl rfl rfl rfl ?_
  refine zq_aload (pc' := 37) rfl rfl rfl rfl ?_
  obtain ⟨a1, e0, H⟩ := H
  refine zq_getR (pc' := 40) rfl rfl rfl e0 ?_
  refine zq_iload (pc' := 41) rfl rfl rfl rfl ?_
  obtain ⟨x2, e0, H⟩ := H
  refine zq_iald (pc' := 42) rfl rfl rfl e0 ?_
  refine zq_icge (pc' := 45) rfl rfl rfl rfl (And.intro (fun c => ?_) (fun c => ?_))
  · have H := H.1 c
    refine zq_ipushn (pc' := 62) rfl rfl rfl ?_
    refine zq_istore (pc' := 64) rfl rfl rfl ?_
    refine zq_ipushn (pc' := 65) rfl rfl rfl ?_
    refine zq_istore (pc' := 67) rfl rfl rfl ?_
    refine zq_ipush (pc' := 68) rfl rfl rfl ?_
    refine zq_istore (pc' := 70) rfl rfl rfl ?_
    refine zq_ipush (pc' := 71) rfl rfl rfl ?_
    refine zq_istore_c (pc' := 73) rfl rfl ?_
    exact H
  · have H := H.2 c
    refine zq_iload (pc' := 46) rfl rfl rfl rfl ?_
    refine zq_aload (pc' := 47) rfl rfl rfl rfl ?_
    refine zq_iload (pc' := 48) rfl rfl rfl rfl ?_
    refine zq_iload (pc' := 50) rfl rfl rfl rfl ?_
    refine zq_calli (pc' := 53) rfl rfl rfl rfl rfl rfl (zE_mono H (fun r4 h3 H => ?_))
    rcases r4 with v5 | e6
    · obtain ⟨x7, e0, H⟩ := H
      refine Exists.intro x7 (And.intro e0 ?_)
      refine zq_iadd (pc' := 54) rfl rfl rfl ?_
      refine zq_istore (pc' := 55) rfl rfl rfl ?_
      refine zq_iinc (pc' := 58) rfl rfl rfl rfl ?_
      refine zq_goto_c (pc' := 34) rfl rfl ?_
      exact H
    · exact H
theorem zr_X8_cut_73 {d : Nat} {Q : zR → zH → Prop} {l0 : Nat} {l1 : Int32} {l2 : Int32} {l3 : Int32} {l4 : Int32} {l5 : Int32} {l6 : Int32} {l7 : Int32} {h : zH} (H :
    ∃ a1 : Nat, zgf h l0 8 7 = some (.ref a1) ∧
    ∃ x2, zia h a1 l1 = some x2 ∧
    zbr (x2 ≤ l7)
    (zbr (l2 = 0)
      (Q (.inl (some (.int l4))) h)
      (zE d 2 [.int 0, .int l5] h (fun r4 h3 => match r4 with
          | .inl v5 => ∃ x7 : Int32, v5 = some (.int x7) ∧ Q (.inl (some (.int x7))) h3
          | .inr e6 => Q (.inr e6) h3)))
    (zE d 251 [.ref l0, .int l1, .int (l7 - 1)] h (fun r9 h8 => match r9 with
        | .inl v10 => ∃ x12 : Int32, v10 = some (.int x12) ∧ zE d 3 [.int (l6 + x12), .int (l3 - (l6 + x12))] h8 (fun r14 h13 => match r14 with
            | .inl v15 => ∃ x17 : Int32, v15 = some (.int x17) ∧ zbr (l5 < x17)
              (zW (zE d) zm_X8_cut Q (73, [(0, .ref l0), (1, .int l1), (2, .int l2), (3, .int l3), (4, .int l7), (5, .int x17), (6, .int (l6 + x12)), (7, .int (l7 + 1))], [], h13))
              (zW (zE d) zm_X8_cut Q (73, [(0, .ref l0), (1, .int l1), (2, .int l2), (3, .int l3), (4, .int l4), (5, .int l5), (6, .int (l6 + x12)), (7, .int (l7 + 1))], [], h13))
            | .inr e16 => Q (.inr e16) h13)
        | .inr e11 => Q (.inr e11) h8))) : zW (zE d) zm_X8_cut Q (73, [(0, .ref l0), (1, .int l1), (2, .int l2), (3, .int l3), (4, .int l4), (5, .int l5), (6, .int l6), (7, .int l7)], [], h) := by
  refine zq_iload (pc' := 75) rfl rfl rfl rfl ?_
  refine zq_aload (pc' := 76) rfl rfl rfl rfl ?_
  obtain ⟨a1, e0, H⟩ := H
  refine zq_getR (pc' := 79) rfl rfl rfl e0 ?_
  refine zq_iload (pc' := 80) rfl rfl rfl rfl ?_
  obtain ⟨x2, e0, H⟩ := H
  refine zq_iald (pc' := 81) rfl rfl rfl e0 ?_
  refine zq_icge (pc' := 84) rfl rfl rfl rfl (And.intro (fun c => ?_) (fun c => ?_))
  · have H := H.1 c
    refine zq_iload (pc' := 134) rfl rfl rfl rfl ?_
    refine zq_ifne (pc' := 137) rfl rfl rfl rfl (And.intro (fun c => ?_) (fun c => ?_))
    · have H := H.1 c
      refine zq_iload (pc' := 139) rfl rfl rfl rfl ?_
      refine zq_goto (pc' := 148) rfl rfl rfl ?_
      exact zq_iret rfl trivial H
    · have H := H.2 c
      refine zq_ipush (pc' := 143) rfl rfl rfl ?_
      refine zq_iload (pc' := 145) rfl rfl rfl rfl ?_
      refine zq_calli (pc' := 148) rfl rfl rfl rfl rfl rfl (zE_mono H (fun r4 h3 H => ?_))
      rcases r4 with v5 | e6
      · obtain ⟨x7, e0, H⟩ := H
        refine Exists.intro x7 (And.intro e0 ?_)
        exact zq_iret rfl trivial H
      · exact H
  · have H := H.2 c
    refine zq_iload (pc' := 86) rfl rfl rfl rfl ?_
    refine zq_aload (pc' := 87) rfl rfl rfl rfl ?_
    refine zq_iload (pc' := 88) rfl rfl rfl rfl ?_
    refine zq_iload (pc' := 90) rfl rfl rfl rfl ?_
    refine zq_ipush (pc' := 91) rfl rfl rfl ?_
    refine zq_isub (pc' := 92) rfl rfl rfl ?_
    refine zq_calli (pc' := 95) rfl rfl rfl rfl rfl rfl (zE_mono H (fun r9 h8 H => ?_))
    rcases r9 with v10 | e11
    · obtain ⟨x12, e0, H⟩ := H
      refine Exists.intro x12 (And.intro e0 ?_)
      refine zq_iadd (pc' := 96) rfl rfl rfl ?_
      refine zq_istore (pc' := 98) rfl rfl rfl ?_
      refine zq_iload (pc' := 100) rfl rfl rfl rfl ?_
      refine zq_iload (pc' := 101) rfl rfl rfl rfl ?_
      refine zq_iload (pc' := 103) rfl rfl rfl rfl ?_
      refine zq_isub (pc' := 104) rfl rfl rfl ?_
      refine zq_calli (pc' := 107) rfl rfl rfl rfl rfl rfl (zE_mono H (fun r14 h13 H => ?_))
      rcases r14 with v15 | e16
      · obtain ⟨x17, e0, H⟩ := H
        refine Exists.intro x17 (And.intro e0 ?_)
        refine zq_istore (pc' := 109) rfl rfl rfl ?_
        refine zq_iload (pc' := 111) rfl rfl rfl rfl ?_
        refine zq_iload (pc' := 113) rfl rfl rfl rfl ?_
        refine zq_icgt (pc' := 116) rfl rfl rfl rfl (And.intro (fun c => ?_) (fun c => ?_))
        · have H := H.1 c
          refine zq_iload (pc' := 121) rfl rfl rfl rfl ?_
          refine zq_istore (pc' := 123) rfl rfl rfl ?_
          refine zq_iload (pc' := 125) rfl rfl rfl rfl ?_
          refine zq_istore (pc' := 127) rfl rfl rfl ?_
          refine zq_iinc (pc' := 130) rfl rfl rfl rfl ?_
          refine zq_goto_c (pc' := 73) rfl rfl ?_
          exact H
        · have H := H.2 c
          refine zq_goto (pc' := 127) rfl rfl rfl ?_
          refine zq_iinc (pc' := 130) rfl rfl rfl rfl ?_
          refine zq_goto_c (pc' := 73) rfl rfl ?_
          exact H
      · exact H
    · exact H
theorem zr_X8_matedWith_0 {d : Nat} {Q : zR → zH → Prop} {p0 : Nat} {p1 : Int32} {p2 : Int32} {p3 : Int32} {h : zH} (H :
    zE d 218 [.int p3, .int p2] h (fun r2 h1 => match r2 with
      | .inl v3 => ∃ x5 : Int32, v3 = some (.int x5) ∧ zbr (x5 = 0)
        (∃ a6 : Nat, zgf h1 p0 8 7 = some (.ref a6) ∧
          ∃ x7, zia h1 a6 p1 = some x7 ∧
          ∃ a8 : Nat, zgf h1 p0 8 7 = some (.ref a8) ∧
          ∃ x9, zia h1 a8 p2 = some x9 ∧
          zbr (x7 = x9)
          (zE d 301 [.ref p0, .int p1, .int p2, .int 0] h1 (fun r11 h10 => match r11 with
              | .inl v12 => ∃ x14 : Int32, v12 = some (.int x14) ∧ ∃ a15 : Nat, zgf h10 p0 8 41 = some (.ref a15) ∧
                ∃ x16, zia h10 a15 (((p1 + 1) <<< ((4 : Int32) &&& 31)) + (p3 ||| (1 <<< (p2 &&& 31)))) = some x16 ∧
                Q (.inl (some (.int (x14 + x16)))) h10
              | .inr e13 => Q (.inr e13) h10))
          (Q (.inl (some (.int (-1000000)))) h1))
        (Q (.inl (some (.int (-1000000)))) h1)
      | .inr e4 => Q (.inr e4) h1)) : zW (zE d) zm_X8_matedWith Q (0, [(0, .ref p0), (1, .int p1), (2, .int p2), (3, .int p3)], [], h) := by
  refine zq_iload (pc' := 1) rfl rfl rfl rfl ?_
  refine zq_iload (pc' := 2) rfl rfl rfl rfl ?_
  refine zq_calli (pc' := 5) rfl rfl rfl rfl rfl rfl (zE_mono H (fun r2 h1 H => ?_))
  rcases r2 with v3 | e4
  · obtain ⟨x5, e0, H⟩ := H
    refine Exists.intro x5 (And.intro e0 ?_)
    refine zq_ifne (pc' := 8) rfl rfl rfl rfl (And.intro (fun c => ?_) (fun c => ?_))
    · have H := H.1 c
      refine zq_aload (pc' := 9) rfl rfl rfl rfl ?_
      obtain ⟨a6, e0, H⟩ := H
      refine zq_getR (pc' := 12) rfl rfl rfl e0 ?_
      refine zq_iload (pc' := 13) rfl rfl rfl rfl ?_
      obtain ⟨x7, e0, H⟩ := H
      refine zq_iald (pc' := 14) rfl rfl rfl e0 ?_
      refine zq_aload (pc' := 15) rfl rfl rfl rfl ?_
      obtain ⟨a8, e0, H⟩ := H
      refine zq_getR (pc' := 18) rfl rfl rfl e0 ?_
      refine zq_iload (pc' := 19) rfl rfl rfl rfl ?_
      obtain ⟨x9, e0, H⟩ := H
      refine zq_iald (pc' := 20) rfl rfl rfl e0 ?_
      refine zq_iceq (pc' := 23) rfl rfl rfl rfl (And.intro (fun c => ?_) (fun c => ?_))
      · have H := H.1 c
        refine zq_aload (pc' := 30) rfl rfl rfl rfl ?_
        refine zq_iload (pc' := 31) rfl rfl rfl rfl ?_
        refine zq_iload (pc' := 32) rfl rfl rfl rfl ?_
        refine zq_ipush (pc' := 33) rfl rfl rfl ?_
        refine zq_calli (pc' := 36) rfl rfl rfl rfl rfl rfl (zE_mono H (fun r11 h10 H => ?_))
        rcases r11 with v12 | e13
        · obtain ⟨x14, e0, H⟩ := H
          refine Exists.intro x14 (And.intro e0 ?_)
          refine zq_aload (pc' := 37) rfl rfl rfl rfl ?_
          obtain ⟨a15, e0, H⟩ := H
          refine zq_getR (pc' := 40) rfl rfl rfl e0 ?_
          refine zq_iload (pc' := 41) rfl rfl rfl rfl ?_
          refine zq_ipush (pc' := 42) rfl rfl rfl ?_
          refine zq_iadd (pc' := 43) rfl rfl rfl ?_
          refine zq_ipush (pc' := 44) rfl rfl rfl ?_
          refine zq_ishl (pc' := 45) rfl rfl rfl ?_
          refine zq_iload (pc' := 46) rfl rfl rfl rfl ?_
          refine zq_ipush (pc' := 47) rfl rfl rfl ?_
          refine zq_iload (pc' := 48) rfl rfl rfl rfl ?_
          refine zq_ishl (pc' := 49) rfl rfl rfl ?_
          refine zq_ior (pc' := 50) rfl rfl rfl ?_
          refine zq_iadd (pc' := 51) rfl rfl rfl ?_
          obtain ⟨x16, e0, H⟩ := H
          refine zq_iald (pc' := 52) rfl rfl rfl e0 ?_
          refine zq_iadd (pc' := 53) rfl rfl rfl ?_
          exact zq_iret rfl trivial H
        · exact H
      · have H := H.2 c
        refine zq_ipushn (pc' := 26) rfl rfl rfl ?_
        refine zq_goto (pc' := 53) rfl rfl rfl ?_
        exact zq_iret rfl trivial H
    · have H := H.2 c
      refine zq_ipushn (pc' := 26) rfl rfl rfl ?_
      refine zq_goto (pc' := 53) rfl rfl rfl ?_
      exact zq_iret rfl trivial H
  · exact H
theorem zr_X8_tellMates_0 {d : Nat} {Q : zR → zH → Prop} {p0 : Nat} {h : zH} (H :
    ∃ a1 : Nat, zgf h p0 8 5 = some (.ref a1) ∧
    ∃ x2, zia h a1 0 = some x2 ∧
    zW (zE d) zm_X8_tellMates Q (9, [(0, .ref p0), (1, .int x2), (2, .int 0)], [], h)) : zW (zE d) zm_X8_tellMates Q (0, [(0, .ref p0)], [], h) := by
  refine zq_aload (pc' := 1) rfl rfl rfl rfl ?_
  obtain ⟨a1, e0, H⟩ := H
  refine zq_getR (pc' := 4) rfl rfl rfl e0 ?_
  refine zq_ipush (pc' := 5) rfl rfl rfl ?_
  obtain ⟨x2, e0, H⟩ := H
  refine zq_iald (pc' := 6) rfl rfl rfl e0 ?_
  refine zq_istore (pc' := 7) rfl rfl rfl ?_
  refine zq_ipush (pc' := 8) rfl rfl rfl ?_
  refine zq_istore_c (pc' := 9) rfl rfl ?_
  exact H
theorem zr_X8_tellMates_9 {d : Nat} {Q : zR → zH → Prop} {l0 : Nat} {l1 : Int32} {l2 : Int32} {h : zH} (H :
    zbr ((1 <<< (l1 &&& 31)) ≤ l2)
    (zW (zE d) zm_X8_tellMates Q (37, [(0, .ref l0), (1, .int l1), (2, .int (l1 - 1))], [], h))
    (∃ a1 : Nat, zgf h l0 8 41 = some (.ref a1) ∧
      ∃ h2, zis h a1 ((l1 <<< ((4 : Int32) &&& 31)) + l2) 0 = some h2 ∧
      zW (zE d) zm_X8_tellMates Q (9, [(0, .ref l0), (1, .int l1), (2, .int (l2 + 1))], [], h2))) : zW (zE d) zm_X8_tellMates Q (9, [(0, .ref l0), (1, .int l1), (2, .int l2)], [], h) := by
  refine zq_iload (pc' := 10) rfl rfl rfl rfl ?_
  refine zq_ipush (pc' := 11) rfl rfl rfl ?_
  refine zq_iload (pc' := 12) rfl rfl rfl rfl ?_
  refine zq_ishl (pc' := 13) rfl rfl rfl ?_
  refine zq_icge (pc' := 16) rfl rfl rfl rfl (And.intro (fun c => ?_) (fun c => ?_))
  · have H := H.1 c
    refine zq_iload (pc' := 34) rfl rfl rfl rfl ?_
    refine zq_ipush (pc' := 35) rfl rfl rfl ?_
    refine zq_isub (pc' := 36) rfl rfl rfl ?_
    refine zq_istore_c (pc' := 37) rfl rfl ?_
    exact H
  · have H := H.2 c
    refine zq_aload (pc' := 17) rfl rfl rfl rfl ?_
    obtain ⟨a1, e0, H⟩ := H
    refine zq_getR (pc' := 20) rfl rfl rfl e0 ?_
    refine zq_iload (pc' := 21) rfl rfl rfl rfl ?_
    refine zq_ipush (pc' := 22) rfl rfl rfl ?_
    refine zq_ishl (pc' := 23) rfl rfl rfl ?_
    refine zq_iload (pc' := 24) rfl rfl rfl rfl ?_
    refine zq_iadd (pc' := 25) rfl rfl rfl ?_
    refine zq_ipush (pc' := 26) rfl rfl rfl ?_
    obtain ⟨h2, e0, H⟩ := H
    refine zq_iast (pc' := 27) rfl rfl rfl e0 ?_
    refine zq_iinc (pc' := 30) rfl rfl rfl rfl ?_
    refine zq_goto_c (pc' := 9) rfl rfl ?_
    exact H
theorem zr_X8_tellMates_37 {d : Nat} {Q : zR → zH → Prop} {l0 : Nat} {l1 : Int32} {l2 : Int32} {h : zH} (H :
    zbr (l2 < 0)
    (Q (.inl none) h)
    (zW (zE d) zm_X8_tellMates Q (43, [(0, .ref l0), (1, .int l1), (2, .int l2), (3, .int 0)], [], h))) : zW (zE d) zm_X8_tellMates Q (37, [(0, .ref l0), (1, .int l1), (2, .int l2)], [], h) := by
  refine zq_iload (pc' := 38) rfl rfl rfl rfl ?_
  refine zq_iflt (pc' := 41) rfl rfl rfl rfl (And.intro (fun c => ?_) (fun c => ?_))
  · have H := H.1 c
    exact zq_vret rfl H
  · have H := H.2 c
    refine zq_ipush (pc' := 42) rfl rfl rfl ?_
    refine zq_istore_c (pc' := 43) rfl rfl ?_
    exact H
theorem zr_X8_tellMates_43 {d : Nat} {Q : zR → zH → Prop} {l0 : Nat} {l1 : Int32} {l2 : Int32} {l3 : Int32} {h : zH} (H :
    zbr ((1 <<< (l1 &&& 31)) ≤ l3)
    (zW (zE d) zm_X8_tellMates Q (37, [(0, .ref l0), (1, .int l1), (2, .int (l2 + (-1)))], [], h))
    (zW (zE d) zm_X8_tellMates Q (58, [(0, .ref l0), (1, .int l1), (2, .int l2), (3, .int l3), (4, .int (-1000000)), (5, .int 0)], [], h))) : zW (zE d) zm_X8_tellMates Q (43, [(0, .ref l0), (1, .int l1), (2, .int l2), (3, .int l3)], [], h) := by
  refine zq_iload (pc' := 44) rfl rfl rfl rfl ?_
  refine zq_ipush (pc' := 45) rfl rfl rfl ?_
  refine zq_iload (pc' := 46) rfl rfl rfl rfl ?_
  refine zq_ishl (pc' := 47) rfl rfl rfl ?_
  refine zq_icge (pc' := 50) rfl rfl rfl rfl (And.intro (fun c => ?_) (fun c => ?_))
  · have H := H.1 c
    refine zq_iincn (pc' := 106) rfl rfl rfl rfl ?_
    refine zq_goto_c (pc' := 37) rfl rfl ?_
    exact H
  · have H := H.2 c
    refine zq_ipushn (pc' := 53) rfl rfl rfl ?_
    refine zq_istore (pc' := 55) rfl rfl rfl ?_
    refine zq_ipush (pc' := 56) rfl rfl rfl ?_
    refine zq_istore_c (pc' := 58) rfl rfl ?_
    exact H
theorem zr_X8_tellMates_58 {d : Nat} {Q : zR → zH → Prop} {l0 : Nat} {l1 : Int32} {l2 : Int32} {l3 : Int32} {l4 : Int32} {l5 : Int32} {h : zH} (H :
    zbr (l1 ≤ l5)
    (∃ a1 : Nat, zgf h l0 8 41 = some (.ref a1) ∧
      ∃ h2, zis h a1 ((l2 <<< ((4 : Int32) &&& 31)) + l3) l4 = some h2 ∧
      zW (zE d) zm_X8_tellMates Q (43, [(0, .ref l0), (1, .int l1), (2, .int l2), (3, .int (l3 + 1))], [], h2))
    (zE d 307 [.ref l0, .int l2, .int l5, .int l3] h (fun r4 h3 => match r4 with
        | .inl v5 => ∃ x7 : Int32, v5 = some (.int x7) ∧ zE d 2 [.int l4, .int x7] h3 (fun r9 h8 => match r9 with
            | .inl v10 => ∃ x12 : Int32, v10 = some (.int x12) ∧ zW (zE d) zm_X8_tellMates Q (58, [(0, .ref l0), (1, .int l1), (2, .int l2), (3, .int l3), (4, .int x12), (5, .int (l5 + 1))], [], h8)
            | .inr e11 => Q (.inr e11) h8)
        | .inr e6 => Q (.inr e6) h3))) : zW (zE d) zm_X8_tellMates Q (58, [(0, .ref l0), (1, .int l1), (2, .int l2), (3, .int l3), (4, .int l4), (5, .int l5)], [], h) := by
  refine zq_iload (pc' := 60) rfl rfl rfl rfl ?_
  refine zq_iload (pc' := 61) rfl rfl rfl rfl ?_
  refine zq_icge (pc' := 64) rfl rfl rfl rfl (And.intro (fun c => ?_) (fun c => ?_))
  · have H := H.1 c
    refine zq_aload (pc' := 86) rfl rfl rfl rfl ?_
    obtain ⟨a1, e0, H⟩ := H
    refine zq_getR (pc' := 89) rfl rfl rfl e0 ?_
    refine zq_iload (pc' := 90) rfl rfl rfl rfl ?_
    refine zq_ipush (pc' := 91) rfl rfl rfl ?_
    refine zq_ishl (pc' := 92) rfl rfl rfl ?_
    refine zq_iload (pc' := 93) rfl rfl rfl rfl ?_
    refine zq_iadd (pc' := 94) rfl rfl rfl ?_
    refine zq_iload (pc' := 96) rfl rfl rfl rfl ?_
    obtain ⟨h2, e0, H⟩ := H
    refine zq_iast (pc' := 97) rfl rfl rfl e0 ?_
    refine zq_iinc (pc' := 100) rfl rfl rfl rfl ?_
    refine zq_goto_c (pc' := 43) rfl rfl ?_
    exact H
  · have H := H.2 c
    refine zq_iload (pc' := 66) rfl rfl rfl rfl ?_
    refine zq_aload (pc' := 67) rfl rfl rfl rfl ?_
    refine zq_iload (pc' := 68) rfl rfl rfl rfl ?_
    refine zq_iload (pc' := 70) rfl rfl rfl rfl ?_
    refine zq_iload (pc' := 71) rfl rfl rfl rfl ?_
    refine zq_calli (pc' := 74) rfl rfl rfl rfl rfl rfl (zE_mono H (fun r4 h3 H => ?_))
    rcases r4 with v5 | e6
    · obtain ⟨x7, e0, H⟩ := H
      refine Exists.intro x7 (And.intro e0 ?_)
      refine zq_calli (pc' := 77) rfl rfl rfl rfl rfl rfl (zE_mono H (fun r9 h8 H => ?_))
      rcases r9 with v10 | e11
      · obtain ⟨x12, e0, H⟩ := H
        refine Exists.intro x12 (And.intro e0 ?_)
        refine zq_istore (pc' := 79) rfl rfl rfl ?_
        refine zq_iinc (pc' := 82) rfl rfl rfl rfl ?_
        refine zq_goto_c (pc' := 58) rfl rfl ?_
        exact H
      · exact H
    · exact H
theorem zr_X8_mates_0 {d : Nat} {Q : zR → zH → Prop} {p0 : Nat} {p1 : Int32} {h : zH} (H :
    ∃ h1, zpf h p0 8 4 (.int 0) = some h1 ∧
    ∃ a2 : Nat, zgf h1 p0 8 5 = some (.ref a2) ∧
    ∃ x3, zia h1 a2 0 = some x3 ∧
    zE d 217 [.long ((p1 : Int32).toInt64), .long (-1), .long ((x3 - 1 : Int32).toInt64)] h1 (fun r5 h4 => match r5 with
      | .inl v6 => ∃ x8 : Int32, v6 = some (.int x8) ∧ zbr (x8 = 0)
        (zE d 215 [.ref p0, .int 1] h4 (fun r10 h9 => match r10 with
            | .inl v11 => ∃ x13 : Int32, v11 = some (.int x13) ∧ Q (.inl (some (.int x13))) h9
            | .inr e12 => Q (.inr e12) h9))
        (zE d 308 [.ref p0] h4 (fun r15 h14 => match r15 with
            | .inl v16 => v16 = none ∧ zbr (p1 = (-1))
              (∃ a18 : Nat, zgf h14 p0 8 41 = some (.ref a18) ∧
                ∃ x19, zia h14 a18 0 = some x19 ∧
                Q (.inl (some (.int x19))) h14)
              (zW (zE d) zm_X8_mates Q (54, [(0, .ref p0), (1, .int p1), (2, .int 0), (3, .int (-1)), (4, .int 0)], [], h14))
            | .inr e17 => Q (.inr e17) h14))
      | .inr e7 => Q (.inr e7) h4)) : zW (zE d) zm_X8_mates Q (0, [(0, .ref p0), (1, .int p1)], [], h) := by
  refine zq_aload (pc' := 1) rfl rfl rfl rfl ?_
  refine zq_ipush (pc' := 2) rfl rfl rfl ?_
  obtain ⟨h1, e0, H⟩ := H
  refine zq_put (pc' := 5) rfl rfl rfl trivial e0 ?_
  refine zq_iload (pc' := 6) rfl rfl rfl rfl ?_
  refine zq_i2l (pc' := 7) rfl rfl rfl ?_
  refine zq_lpushn (pc' := 10) rfl rfl rfl ?_
  refine zq_aload (pc' := 11) rfl rfl rfl rfl ?_
  obtain ⟨a2, e0, H⟩ := H
  refine zq_getR (pc' := 14) rfl rfl rfl e0 ?_
  refine zq_ipush (pc' := 15) rfl rfl rfl ?_
  obtain ⟨x3, e0, H⟩ := H
  refine zq_iald (pc' := 16) rfl rfl rfl e0 ?_
  refine zq_ipush (pc' := 17) rfl rfl rfl ?_
  refine zq_isub (pc' := 18) rfl rfl rfl ?_
  refine zq_i2l (pc' := 19) rfl rfl rfl ?_
  refine zq_calli (pc' := 22) rfl rfl rfl rfl rfl rfl (zE_mono H (fun r5 h4 H => ?_))
  rcases r5 with v6 | e7
  · obtain ⟨x8, e0, H⟩ := H
    refine Exists.intro x8 (And.intro e0 ?_)
    refine zq_ifne (pc' := 25) rfl rfl rfl rfl (And.intro (fun c => ?_) (fun c => ?_))
    · have H := H.1 c
      refine zq_aload (pc' := 26) rfl rfl rfl rfl ?_
      refine zq_ipush (pc' := 27) rfl rfl rfl ?_
      refine zq_calli (pc' := 30) rfl rfl rfl rfl rfl rfl (zE_mono H (fun r10 h9 H => ?_))
      rcases r10 with v11 | e12
      · obtain ⟨x13, e0, H⟩ := H
        refine Exists.intro x13 (And.intro e0 ?_)
        exact zq_iret rfl trivial H
      · exact H
    · have H := H.2 c
      refine zq_aload (pc' := 32) rfl rfl rfl rfl ?_
      refine zq_callv (pc' := 35) rfl rfl rfl rfl rfl rfl (zE_mono H (fun r15 h14 H => ?_))
      rcases r15 with v16 | e17
      · obtain ⟨e0, H⟩ := H
        refine And.intro e0 ?_
        refine zq_iload (pc' := 36) rfl rfl rfl rfl ?_
        refine zq_ipushn (pc' := 37) rfl rfl rfl ?_
        refine zq_icne (pc' := 40) rfl rfl rfl rfl (And.intro (fun c => ?_) (fun c => ?_))
        · have H := H.1 c
          refine zq_aload (pc' := 41) rfl rfl rfl rfl ?_
          obtain ⟨a18, e0, H⟩ := H
          refine zq_getR (pc' := 44) rfl rfl rfl e0 ?_
          refine zq_ipush (pc' := 45) rfl rfl rfl ?_
          obtain ⟨x19, e0, H⟩ := H
          refine zq_iald (pc' := 46) rfl rfl rfl e0 ?_
          exact zq_iret rfl trivial H
        · have H := H.2 c
          refine zq_ipush (pc' := 48) rfl rfl rfl ?_
          refine zq_istore (pc' := 49) rfl rfl rfl ?_
          refine zq_ipushn (pc' := 50) rfl rfl rfl ?_
          refine zq_istore (pc' := 51) rfl rfl rfl ?_
          refine zq_ipush (pc' := 52) rfl rfl rfl ?_
          refine zq_istore_c (pc' := 54) rfl rfl ?_
          exact H
      · exact H
  · exact H
theorem zr_X8_mates_54 {d : Nat} {Q : zR → zH → Prop} {l0 : Nat} {l1 : Int32} {l2 : Int32} {l3 : Int32} {l4 : Int32} {h : zH} (H :
    zbr (l1 < l4)
    (Q (.inl (some (.int l3))) h)
    (∃ a1 : Nat, zgf h l0 8 5 = some (.ref a1) ∧
      ∃ x2, zia h a1 0 = some x2 ∧
      zW (zE d) zm_X8_mates Q (72, [(0, .ref l0), (1, .int l1), (2, .int l2), (3, .int (-1)), (4, .int l4), (5, .int (x2 - 1))], [], h))) : zW (zE d) zm_X8_mates Q (54, [(0, .ref l0), (1, .int l1), (2, .int l2), (3, .int l3), (4, .int l4)], [], h) := by
  refine zq_iload (pc' := 56) rfl rfl rfl rfl ?_
  refine zq_iload (pc' := 57) rfl rfl rfl rfl ?_
  refine zq_icgt (pc' := 60) rfl rfl rfl rfl (And.intro (fun c => ?_) (fun c => ?_))
  · have H := H.1 c
    refine zq_iload (pc' := 148) rfl rfl rfl rfl ?_
    exact zq_iret rfl trivial H
  · have H := H.2 c
    refine zq_ipushn (pc' := 61) rfl rfl rfl ?_
    refine zq_istore (pc' := 62) rfl rfl rfl ?_
    refine zq_aload (pc' := 63) rfl rfl rfl rfl ?_
    obtain ⟨a1, e0, H⟩ := H
    refine zq_getR (pc' := 66) rfl rfl rfl e0 ?_
    refine zq_ipush (pc' := 67) rfl rfl rfl ?_
    obtain ⟨x2, e0, H⟩ := H
    refine zq_iald (pc' := 68) rfl rfl rfl e0 ?_
    refine zq_ipush (pc' := 69) rfl rfl rfl ?_
    refine zq_isub (pc' := 70) rfl rfl rfl ?_
    refine zq_istore_c (pc' := 72) rfl rfl ?_
    exact H
theorem zr_X8_mates_72 {d : Nat} {Q : zR → zH → Prop} {l0 : Nat} {l1 : Int32} {l2 : Int32} {l3 : Int32} {l4 : Int32} {l5 : Int32} {h : zH} (H :
    zbr (l5 < 0)
    (zW (zE d) zm_X8_mates Q (54, [(0, .ref l0), (1, .int l1), (2, .int (l2 ||| (1 <<< (l3 &&& 31)))), (3, .int l3), (4, .int (l4 + 1))], [], h))
    (zE d 218 [.int l2, .int l5] h (fun r2 h1 => match r2 with
        | .inl v3 => ∃ x5 : Int32, v3 = some (.int x5) ∧ zbr (x5 = 0)
          (∃ a6 : Nat, zgf h1 l0 8 7 = some (.ref a6) ∧
            ∃ x7, zia h1 a6 l4 = some x7 ∧
            ∃ a8 : Nat, zgf h1 l0 8 7 = some (.ref a8) ∧
            ∃ x9, zia h1 a8 l5 = some x9 ∧
            zbr (x7 = x9)
            (zE d 307 [.ref l0, .int l4, .int l5, .int l2] h1 (fun r11 h10 => match r11 with
                | .inl v12 => ∃ x14 : Int32, v12 = some (.int x14) ∧ ∃ a15 : Nat, zgf h10 l0 8 41 = some (.ref a15) ∧
                  ∃ x16, zia h10 a15 ((l4 <<< ((4 : Int32) &&& 31)) + l2) = some x16 ∧
                  zbr (x14 = x16)
                  (zW (zE d) zm_X8_mates Q (72, [(0, .ref l0), (1, .int l1), (2, .int l2), (3, .int l5), (4, .int l4), (5, .int (l5 + (-1)))], [], h10))
                  (zW (zE d) zm_X8_mates Q (72, [(0, .ref l0), (1, .int l1), (2, .int l2), (3, .int l3), (4, .int l4), (5, .int (l5 + (-1)))], [], h10))
                | .inr e13 => Q (.inr e13) h10))
            (zW (zE d) zm_X8_mates Q (72, [(0, .ref l0), (1, .int l1), (2, .int l2), (3, .int l3), (4, .int l4), (5, .int (l5 + (-1)))], [], h1)))
          (zW (zE d) zm_X8_mates Q (72, [(0, .ref l0), (1, .int l1), (2, .int l2), (3, .int l3), (4, .int l4), (5, .int (l5 + (-1)))], [], h1))
        | .inr e4 => Q (.inr e4) h1))) : zW (zE d) zm_X8_mates Q (72, [(0, .ref l0), (1, .int l1), (2, .int l2), (3, .int l3), (4, .int l4), (5, .int l5)], [], h) := by
  refine zq_iload (pc' := 74) rfl rfl rfl rfl ?_
  refine zq_iflt (pc' := 77) rfl rfl rfl rfl (And.intro (fun c => ?_) (fun c => ?_))
  · have H := H.1 c
    refine zq_iload (pc' := 136) rfl rfl rfl rfl ?_
    refine zq_ipush (pc' := 137) rfl rfl rfl ?_
    refine zq_iload (pc' := 138) rfl rfl rfl rfl ?_
    refine zq_ishl (pc' := 139) rfl rfl rfl ?_
    refine zq_ior (pc' := 140) rfl rfl rfl ?_
    refine zq_istore (pc' := 141) rfl rfl rfl ?_
    refine zq_iinc (pc' := 144) rfl rfl rfl rfl ?_
    refine zq_goto_c (pc' := 54) rfl rfl ?_
    exact H
  · have H := H.2 c
    refine zq_iload (pc' := 78) rfl rfl rfl rfl ?_
    refine zq_iload (pc' := 80) rfl rfl rfl rfl ?_
    refine zq_calli (pc' := 83) rfl rfl rfl rfl rfl rfl (zE_mono H (fun r2 h1 H => ?_))
    rcases r2 with v3 | e4
    · obtain ⟨x5, e0, H⟩ := H
      refine Exists.intro x5 (And.intro e0 ?_)
      refine zq_ifne (pc' := 86) rfl rfl rfl rfl (And.intro (fun c => ?_) (fun c => ?_))
      · have H := H.1 c
        refine zq_aload (pc' := 87) rfl rfl rfl rfl ?_
        obtain ⟨a6, e0, H⟩ := H
        refine zq_getR (pc' := 90) rfl rfl rfl e0 ?_
        refine zq_iload (pc' := 92) rfl rfl rfl rfl ?_
        obtain ⟨x7, e0, H⟩ := H
        refine zq_iald (pc' := 93) rfl rfl rfl e0 ?_
        refine zq_aload (pc' := 94) rfl rfl rfl rfl ?_
        obtain ⟨a8, e0, H⟩ := H
        refine zq_getR (pc' := 97) rfl rfl rfl e0 ?_
        refine zq_iload (pc' := 99) rfl rfl rfl rfl ?_
        obtain ⟨x9, e0, H⟩ := H
        refine zq_iald (pc' := 100) rfl rfl rfl e0 ?_
        refine zq_icne (pc' := 103) rfl rfl rfl rfl (And.intro (fun c => ?_) (fun c => ?_))
        · have H := H.1 c
          refine zq_aload (pc' := 104) rfl rfl rfl rfl ?_
          refine zq_iload (pc' := 106) rfl rfl rfl rfl ?_
          refine zq_iload (pc' := 108) rfl rfl rfl rfl ?_
          refine zq_iload (pc' := 109) rfl rfl rfl rfl ?_
          refine zq_calli (pc' := 112) rfl rfl rfl rfl rfl rfl (zE_mono H (fun r11 h10 H => ?_))
          rcases r11 with v12 | e13
          · obtain ⟨x14, e0, H⟩ := H
            refine Exists.intro x14 (And.intro e0 ?_)
            refine zq_aload (pc' := 113) rfl rfl rfl rfl ?_
            obtain ⟨a15, e0, H⟩ := H
            refine zq_getR (pc' := 116) rfl rfl rfl e0 ?_
            refine zq_iload (pc' := 118) rfl rfl rfl rfl ?_
            refine zq_ipush (pc' := 119) rfl rfl rfl ?_
            refine zq_ishl (pc' := 120) rfl rfl rfl ?_
            refine zq_iload (pc' := 121) rfl rfl rfl rfl ?_
            refine zq_iadd (pc' := 122) rfl rfl rfl ?_
            obtain ⟨x16, e0, H⟩ := H
            refine zq_iald (pc' := 123) rfl rfl rfl e0 ?_
            refine zq_icne (pc' := 126) rfl rfl rfl rfl (And.intro (fun c => ?_) (fun c => ?_))
            · have H := H.1 c
              refine zq_iload (pc' := 128) rfl rfl rfl rfl ?_
              refine zq_istore (pc' := 129) rfl rfl rfl ?_
              refine zq_iincn (pc' := 132) rfl rfl rfl rfl ?_
              refine zq_goto_c (pc' := 72) rfl rfl ?_
              exact H
            · have H := H.2 c
              refine zq_iincn (pc' := 132) rfl rfl rfl rfl ?_
              refine zq_goto_c (pc' := 72) rfl rfl ?_
              exact H
          · exact H
        · have H := H.2 c
          refine zq_iincn (pc' := 132) rfl rfl rfl rfl ?_
          refine zq_goto_c (pc' := 72) rfl rfl ?_
          exact H
      · have H := H.2 c
        refine zq_iincn (pc' := 132) rfl rfl rfl rfl ?_
        refine zq_goto_c (pc' := 72) rfl rfl ?_
        exact H
    · exact H
theorem zr_X8_gap_0 {d : Nat} {Q : zR → zH → Prop} {p0 : Nat} {p1 : Int32} {h : zH} (H :
    ∃ h1, zpf h p0 8 4 (.int 0) = some h1 ∧
    zE d 220 [.ref p0, .int p1] h1 (fun r3 h2 => match r3 with
      | .inl v4 => ∃ x6 : Int32, v4 = some (.int x6) ∧ zbr (x6 = 0)
        (zE d 215 [.ref p0, .int 1] h2 (fun r8 h7 => match r8 with
            | .inl v9 => ∃ x11 : Int32, v9 = some (.int x11) ∧ Q (.inl (some (.int x11))) h7
            | .inr e10 => Q (.inr e10) h7))
        (zE d 252 [.ref p0, .int p1] h2 (fun r13 h12 => match r13 with
            | .inl v14 => ∃ x16 : Int32, v14 = some (.int x16) ∧ zE d 219 [.int x16] h12 (fun r18 h17 => match r18 with
                | .inl v19 => ∃ x21 : Int32, v19 = some (.int x21) ∧ ∃ a22 : Nat, zgf h17 p0 8 29 = some (.ref a22) ∧
                  ∃ x23, zia h17 a22 p1 = some x23 ∧
                  zE d 219 [.int x23] h17 (fun r25 h24 => match r25 with
                    | .inl v26 => ∃ x28 : Int32, v26 = some (.int x28) ∧ Q (.inl (some (.int (x21 - x28)))) h24
                    | .inr e27 => Q (.inr e27) h24)
                | .inr e20 => Q (.inr e20) h17)
            | .inr e15 => Q (.inr e15) h12))
      | .inr e5 => Q (.inr e5) h2)) : zW (zE d) zm_X8_gap Q (0, [(0, .ref p0), (1, .int p1)], [], h) := by
  refine zq_aload (pc' := 1) rfl rfl rfl rfl ?_
  refine zq_ipush (pc' := 2) rfl rfl rfl ?_
  obtain ⟨h1, e0, H⟩ := H
  refine zq_put (pc' := 5) rfl rfl rfl trivial e0 ?_
  refine zq_aload (pc' := 6) rfl rfl rfl rfl ?_
  refine zq_iload (pc' := 7) rfl rfl rfl rfl ?_
  refine zq_calli (pc' := 10) rfl rfl rfl rfl rfl rfl (zE_mono H (fun r3 h2 H => ?_))
  rcases r3 with v4 | e5
  · obtain ⟨x6, e0, H⟩ := H
    refine Exists.intro x6 (And.intro e0 ?_)
    refine zq_ifeq (pc' := 13) rfl rfl rfl rfl (And.intro (fun c => ?_) (fun c => ?_))
    · have H := H.1 c
      refine zq_aload (pc' := 35) rfl rfl rfl rfl ?_
      refine zq_ipush (pc' := 36) rfl rfl rfl ?_
      refine zq_calli (pc' := 39) rfl rfl rfl rfl rfl rfl (zE_mono H (fun r8 h7 H => ?_))
      rcases r8 with v9 | e10
      · obtain ⟨x11, e0, H⟩ := H
        refine Exists.intro x11 (And.intro e0 ?_)
        exact zq_iret rfl trivial H
      · exact H
    · have H := H.2 c
      refine zq_aload (pc' := 14) rfl rfl rfl rfl ?_
      refine zq_iload (pc' := 15) rfl rfl rfl rfl ?_
      refine zq_calli (pc' := 18) rfl rfl rfl rfl rfl rfl (zE_mono H (fun r13 h12 H => ?_))
      rcases r13 with v14 | e15
      · obtain ⟨x16, e0, H⟩ := H
        refine Exists.intro x16 (And.intro e0 ?_)
        refine zq_calli (pc' := 21) rfl rfl rfl rfl rfl rfl (zE_mono H (fun r18 h17 H => ?_))
        rcases r18 with v19 | e20
        · obtain ⟨x21, e0, H⟩ := H
          refine Exists.intro x21 (And.intro e0 ?_)
          refine zq_aload (pc' := 22) rfl rfl rfl rfl ?_
          obtain ⟨a22, e0, H⟩ := H
          refine zq_getR (pc' := 25) rfl rfl rfl e0 ?_
          refine zq_iload (pc' := 26) rfl rfl rfl rfl ?_
          obtain ⟨x23, e0, H⟩ := H
          refine zq_iald (pc' := 27) rfl rfl rfl e0 ?_
          refine zq_calli (pc' := 30) rfl rfl rfl rfl rfl rfl (zE_mono H (fun r25 h24 H => ?_))
          rcases r25 with v26 | e27
          · obtain ⟨x28, e0, H⟩ := H
            refine Exists.intro x28 (And.intro e0 ?_)
            refine zq_isub (pc' := 31) rfl rfl rfl ?_
            refine zq_goto (pc' := 39) rfl rfl rfl ?_
            exact zq_iret rfl trivial H
          · exact H
        · exact H
      · exact H
  · exact H
theorem zr_X8_unlike_0 {d : Nat} {Q : zR → zH → Prop} {p0 : Nat} {p1 : Int32} {p2 : Int32} {h : zH} (H :
    ∃ h1, zpf h p0 8 4 (.int 0) = some h1 ∧
    zE d 220 [.ref p0, .int p1] h1 (fun r3 h2 => match r3 with
      | .inl v4 => ∃ x6 : Int32, v4 = some (.int x6) ∧ zbr (x6 = 0)
        (zE d 215 [.ref p0, .int 1] h2 (fun r8 h7 => match r8 with
            | .inl v9 => ∃ x11 : Int32, v9 = some (.int x11) ∧ Q (.inl (some (.int x11))) h7
            | .inr e10 => Q (.inr e10) h7))
        (zE d 220 [.ref p0, .int p2] h2 (fun r13 h12 => match r13 with
            | .inl v14 => ∃ x16 : Int32, v14 = some (.int x16) ∧ zbr (x16 = 0)
              (zE d 215 [.ref p0, .int 1] h12 (fun r18 h17 => match r18 with
                  | .inl v19 => ∃ x21 : Int32, v19 = some (.int x21) ∧ Q (.inl (some (.int x21))) h17
                  | .inr e20 => Q (.inr e20) h17))
              (∃ a22 : Nat, zgf h12 p0 8 7 = some (.ref a22) ∧
                ∃ x23, zia h12 a22 p1 = some x23 ∧
                ∃ a24 : Nat, zgf h12 p0 8 7 = some (.ref a24) ∧
                ∃ x25, zia h12 a24 p2 = some x25 ∧
                zbr (x23 = x25)
                (zE d 272 [.ref p0, .int p1, .int p2] h12 (fun r27 h26 => match r27 with
                    | .inl v28 => ∃ x30 : Int32, v28 = some (.int x30) ∧ Q (.inl (some (.int x30))) h26
                    | .inr e29 => Q (.inr e29) h26))
                (Q (.inl (some (.int (-1)))) h12))
            | .inr e15 => Q (.inr e15) h12))
      | .inr e5 => Q (.inr e5) h2)) : zW (zE d) zm_X8_unlike Q (0, [(0, .ref p0), (1, .int p1), (2, .int p2)], [], h) := by
  refine zq_aload (pc' := 1) rfl rfl rfl rfl ?_
  refine zq_ipush (pc' := 2) rfl rfl rfl ?_
  obtain ⟨h1, e0, H⟩ := H
  refine zq_put (pc' := 5) rfl rfl rfl trivial e0 ?_
  refine zq_aload (pc' := 6) rfl rfl rfl rfl ?_
  refine zq_iload (pc' := 7) rfl rfl rfl rfl ?_
  refine zq_calli (pc' := 10) rfl rfl rfl rfl rfl rfl (zE_mono H (fun r3 h2 H => ?_))
  rcases r3 with v4 | e5
  · obtain ⟨x6, e0, H⟩ := H
    refine Exists.intro x6 (And.intro e0 ?_)
    refine zq_ifeq (pc' := 13) rfl rfl rfl rfl (And.intro (fun c => ?_) (fun c => ?_))
    · have H := H.1 c
      refine zq_aload (pc' := 22) rfl rfl rfl rfl ?_
      refine zq_ipush (pc' := 23) rfl rfl rfl ?_
      refine zq_calli (pc' := 26) rfl rfl rfl rfl rfl rfl (zE_mono H (fun r8 h7 H => ?_))
      rcases r8 with v9 | e10
      · obtain ⟨x11, e0, H⟩ := H
        refine Exists.intro x11 (And.intro e0 ?_)
        exact zq_iret rfl trivial H
      · exact H
    · have H := H.2 c
      refine zq_aload (pc' := 14) rfl rfl rfl rfl ?_
      refine zq_iload (pc' := 15) rfl rfl rfl rfl ?_
      refine zq_calli (pc' := 18) rfl rfl rfl rfl rfl rfl (zE_mono H (fun r13 h12 H => ?_))
      rcases r13 with v14 | e15
      · obtain ⟨x16, e0, H⟩ := H
        refine Exists.intro x16 (And.intro e0 ?_)
        refine zq_ifne (pc' := 21) rfl rfl rfl rfl (And.intro (fun c => ?_) (fun c => ?_))
        · have H := H.1 c
          refine zq_aload (pc' := 22) rfl rfl rfl rfl ?_
          refine zq_ipush (pc' := 23) rfl rfl rfl ?_
          refine zq_calli (pc' := 26) rfl rfl rfl rfl rfl rfl (zE_mono H (fun r18 h17 H => ?_))
          rcases r18 with v19 | e20
          · obtain ⟨x21, e0, H⟩ := H
            refine Exists.intro x21 (And.intro e0 ?_)
            exact zq_iret rfl trivial H
          · exact H
        · have H := H.2 c
          refine zq_aload (pc' := 28) rfl rfl rfl rfl ?_
          obtain ⟨a22, e0, H⟩ := H
          refine zq_getR (pc' := 31) rfl rfl rfl e0 ?_
          refine zq_iload (pc' := 32) rfl rfl rfl rfl ?_
          obtain ⟨x23, e0, H⟩ := H
          refine zq_iald (pc' := 33) rfl rfl rfl e0 ?_
          refine zq_aload (pc' := 34) rfl rfl rfl rfl ?_
          obtain ⟨a24, e0, H⟩ := H
          refine zq_getR (pc' := 37) rfl rfl rfl e0 ?_
          refine zq_iload (pc' := 38) rfl rfl rfl rfl ?_
          obtain ⟨x25, e0, H⟩ := H
          refine zq_iald (pc' := 39) rfl rfl rfl e0 ?_
          refine zq_icne (pc' := 42) rfl rfl rfl rfl (And.intro (fun c => ?_) (fun c => ?_))
          · have H := H.1 c
            refine zq_aload (pc' := 43) rfl rfl rfl rfl ?_
            refine zq_iload (pc' := 44) rfl rfl rfl rfl ?_
            refine zq_iload (pc' := 45) rfl rfl rfl rfl ?_
            refine zq_calli (pc' := 48) rfl rfl rfl rfl rfl rfl (zE_mono H (fun r27 h26 H => ?_))
            rcases r27 with v28 | e29
            · obtain ⟨x30, e0, H⟩ := H
              refine Exists.intro x30 (And.intro e0 ?_)
              refine zq_goto (pc' := 52) rfl rfl rfl ?_
              exact zq_iret rfl trivial H
            · exact H
          · have H := H.2 c
            refine zq_ipushn (pc' := 52) rfl rfl rfl ?_
            exact zq_iret rfl trivial H
      · exact H
  · exact H
theorem zr_X8_closedBehind_0 {d : Nat} {Q : zR → zH → Prop} {p0 : Nat} {p1 : Int32} {p2 : Int32} {h : zH} (H :
    zE d 265 [.ref p0, .int p2] h (fun r2 h1 => match r2 with
      | .inl v3 => v3 = none ∧ ∃ a5 : Nat, zgf h1 p0 8 29 = some (.ref a5) ∧
        ∃ x6, zia h1 a5 p1 = some x6 ∧
        zE d 219 [.int x6] h1 (fun r8 h7 => match r8 with
          | .inl v9 => ∃ x11 : Int32, v9 = some (.int x11) ∧ ∃ a12 : Nat, zgf h7 p0 8 39 = some (.ref a12) ∧
            zE d 250 [.ref p0, .ref a12, .int 0] h7 (fun r14 h13 => match r14 with
              | .inl v15 => v15 = none ∧ Q (.inl (some (.int x11))) h13
              | .inr e16 => Q (.inr e16) h13)
          | .inr e10 => Q (.inr e10) h7)
      | .inr e4 => Q (.inr e4) h1)) : zW (zE d) zm_X8_closedBehind Q (0, [(0, .ref p0), (1, .int p1), (2, .int p2)], [], h) := by
  refine zq_aload (pc' := 1) rfl rfl rfl rfl ?_
  refine zq_iload (pc' := 2) rfl rfl rfl rfl ?_
  refine zq_callv (pc' := 5) rfl rfl rfl rfl rfl rfl (zE_mono H (fun r2 h1 H => ?_))
  rcases r2 with v3 | e4
  · obtain ⟨e0, H⟩ := H
    refine And.intro e0 ?_
    refine zq_aload (pc' := 6) rfl rfl rfl rfl ?_
    obtain ⟨a5, e0, H⟩ := H
    refine zq_getR (pc' := 9) rfl rfl rfl e0 ?_
    refine zq_iload (pc' := 10) rfl rfl rfl rfl ?_
    obtain ⟨x6, e0, H⟩ := H
    refine zq_iald (pc' := 11) rfl rfl rfl e0 ?_
    refine zq_calli (pc' := 14) rfl rfl rfl rfl rfl rfl (zE_mono H (fun r8 h7 H => ?_))
    rcases r8 with v9 | e10
    · obtain ⟨x11, e0, H⟩ := H
      refine Exists.intro x11 (And.intro e0 ?_)
      refine zq_istore (pc' := 15) rfl rfl rfl ?_
      refine zq_aload (pc' := 16) rfl rfl rfl rfl ?_
      refine zq_aload (pc' := 17) rfl rfl rfl rfl ?_
      obtain ⟨a12, e0, H⟩ := H
      refine zq_getR (pc' := 20) rfl rfl rfl e0 ?_
      refine zq_ipush (pc' := 21) rfl rfl rfl ?_
      refine zq_callv (pc' := 24) rfl rfl rfl rfl rfl rfl (zE_mono H (fun r14 h13 H => ?_))
      rcases r14 with v15 | e16
      · obtain ⟨e0, H⟩ := H
        refine And.intro e0 ?_
        refine zq_iload (pc' := 25) rfl rfl rfl rfl ?_
        exact zq_iret rfl trivial H
      · exact H
    · exact H
  · exact H
theorem zr_X8_pinchIfMay_0 {d : Nat} {Q : zR → zH → Prop} {p0 : Nat} {p1 : Int32} {h : zH} (H :
    ∃ x1, zia h p0 p1 = some x1 ∧
    zbr (x1 ≤ 0)
    (Q (.inl none) h)
    (∃ x2, zia h p0 p1 = some x2 ∧
      zbr (9 ≤ x2)
      (Q (.inl none) h)
      (∃ x3, zia h p0 p1 = some x3 ∧
        ∃ h4, zis h p0 p1 (x3 + 1) = some h4 ∧
        Q (.inl none) h4))) : zW (zE d) zm_X8_pinchIfMay Q (0, [(0, .ref p0), (1, .int p1)], [], h) := by
  refine zq_aload (pc' := 1) rfl rfl rfl rfl ?_
  refine zq_iload (pc' := 2) rfl rfl rfl rfl ?_
  obtain ⟨x1, e0, H⟩ := H
  refine zq_iald (pc' := 3) rfl rfl rfl e0 ?_
  refine zq_ifle (pc' := 6) rfl rfl rfl rfl (And.intro (fun c => ?_) (fun c => ?_))
  · have H := H.1 c
    exact zq_vret rfl H
  · have H := H.2 c
    refine zq_aload (pc' := 7) rfl rfl rfl rfl ?_
    refine zq_iload (pc' := 8) rfl rfl rfl rfl ?_
    obtain ⟨x2, e0, H⟩ := H
    refine zq_iald (pc' := 9) rfl rfl rfl e0 ?_
    refine zq_ipush (pc' := 11) rfl rfl rfl ?_
    refine zq_icge (pc' := 14) rfl rfl rfl rfl (And.intro (fun c => ?_) (fun c => ?_))
    · have H := H.1 c
      exact zq_vret rfl H
    · have H := H.2 c
      refine zq_aload (pc' := 15) rfl rfl rfl rfl ?_
      refine zq_iload (pc' := 16) rfl rfl rfl rfl ?_
      refine zq_dup2 (pc' := 17) rfl rfl rfl rfl rfl ?_
      obtain ⟨x3, e0, H⟩ := H
      refine zq_iald (pc' := 18) rfl rfl rfl e0 ?_
      refine zq_ipush (pc' := 19) rfl rfl rfl ?_
      refine zq_iadd (pc' := 20) rfl rfl rfl ?_
      obtain ⟨h4, e0, H⟩ := H
      refine zq_iast (pc' := 21) rfl rfl rfl e0 ?_
      exact zq_vret rfl H
theorem zr_X8_toPinch_0 {d : Nat} {Q : zR → zH → Prop} {p0 : Nat} {p1 : Int32} {p2 : Int32} {h : zH} (H :
    ∃ h1, zpf h p0 8 4 (.int 0) = some h1 ∧
    zE d 220 [.ref p0, .int p1] h1 (fun r3 h2 => match r3 with
      | .inl v4 => ∃ x6 : Int32, v4 = some (.int x6) ∧ zbr (x6 = 0)
        (zE d 215 [.ref p0, .int 1] h2 (fun r8 h7 => match r8 with
            | .inl v9 => ∃ x11 : Int32, v9 = some (.int x11) ∧ Q (.inl (some (.int x11))) h7
            | .inr e10 => Q (.inr e10) h7))
        (zE d 217 [.long ((p2 : Int32).toInt64), .long 1, .long 60] h2 (fun r13 h12 => match r13 with
            | .inl v14 => ∃ x16 : Int32, v14 = some (.int x16) ∧ zbr (x16 = 0)
              (zE d 215 [.ref p0, .int 2] h12 (fun r18 h17 => match r18 with
                  | .inl v19 => ∃ x21 : Int32, v19 = some (.int x21) ∧ Q (.inl (some (.int x21))) h17
                  | .inr e20 => Q (.inr e20) h17))
              (∃ a22 : Nat, zgf h12 p0 8 39 = some (.ref a22) ∧
                zE d 249 [.ref p0, .ref a22, .int 0] h12 (fun r24 h23 => match r24 with
                  | .inl v25 => v25 = none ∧ zE d 312 [.ref p0, .int p1, .int p2] h23 (fun r28 h27 => match r28 with
                      | .inl v29 => ∃ x31 : Int32, v29 = some (.int x31) ∧ zW (zE d) zm_X8_toPinch Q (59, [(0, .ref p0), (1, .int p1), (2, .int p2), (3, .int x31), (4, .int (-1)), (5, .int 0)], [], h27)
                      | .inr e30 => Q (.inr e30) h27)
                  | .inr e26 => Q (.inr e26) h23))
            | .inr e15 => Q (.inr e15) h12))
      | .inr e5 => Q (.inr e5) h2)) : zW (zE d) zm_X8_toPinch Q (0, [(0, .ref p0), (1, .int p1), (2, .int p2)], [], h) := by
  refine zq_aload (pc' := 1) rfl rfl rfl rfl ?_
  refine zq_ipush (pc' := 2) rfl rfl rfl ?_
  obtain ⟨h1, e0, H⟩ := H
  refine zq_put (pc' := 5) rfl rfl rfl trivial e0 ?_
  refine zq_aload (pc' := 6) rfl rfl rfl rfl ?_
  refine zq_iload (pc' := 7) rfl rfl rfl rfl ?_
  refine zq_calli (pc' := 10) rfl rfl rfl rfl rfl rfl (zE_mono H (fun r3 h2 H => ?_))
  rcases r3 with v4 | e5
  · obtain ⟨x6, e0, H⟩ := H
    refine Exists.intro x6 (And.intro e0 ?_)
    refine zq_ifne (pc' := 13) rfl rfl rfl rfl (And.intro (fun c => ?_) (fun c => ?_))
    · have H := H.1 c
      refine zq_aload (pc' := 14) rfl rfl rfl rfl ?_
      refine zq_ipush (pc' := 15) rfl rfl rfl ?_
      refine zq_calli (pc' := 18) rfl rfl rfl rfl rfl rfl (zE_mono H (fun r8 h7 H => ?_))
      rcases r8 with v9 | e10
      · obtain ⟨x11, e0, H⟩ := H
        refine Exists.intro x11 (And.intro e0 ?_)
        exact zq_iret rfl trivial H
      · exact H
    · have H := H.2 c
      refine zq_iload (pc' := 20) rfl rfl rfl rfl ?_
      refine zq_i2l (pc' := 21) rfl rfl rfl ?_
      refine zq_lpush (pc' := 22) rfl rfl rfl ?_
      refine zq_lpush (pc' := 25) rfl rfl rfl ?_
      refine zq_calli (pc' := 28) rfl rfl rfl rfl rfl rfl (zE_mono H (fun r13 h12 H => ?_))
      rcases r13 with v14 | e15
      · obtain ⟨x16, e0, H⟩ := H
        refine Exists.intro x16 (And.intro e0 ?_)
        refine zq_ifne (pc' := 31) rfl rfl rfl rfl (And.intro (fun c => ?_) (fun c => ?_))
        · have H := H.1 c
          refine zq_aload (pc' := 32) rfl rfl rfl rfl ?_
          refine zq_ipush (pc' := 33) rfl rfl rfl ?_
          refine zq_calli (pc' := 36) rfl rfl rfl rfl rfl rfl (zE_mono H (fun r18 h17 H => ?_))
          rcases r18 with v19 | e20
          · obtain ⟨x21, e0, H⟩ := H
            refine Exists.intro x21 (And.intro e0 ?_)
            exact zq_iret rfl trivial H
          · exact H
        · have H := H.2 c
          refine zq_aload (pc' := 38) rfl rfl rfl rfl ?_
          refine zq_aload (pc' := 39) rfl rfl rfl rfl ?_
          obtain ⟨a22, e0, H⟩ := H
          refine zq_getR (pc' := 42) rfl rfl rfl e0 ?_
          refine zq_ipush (pc' := 43) rfl rfl rfl ?_
          refine zq_callv (pc' := 46) rfl rfl rfl rfl rfl rfl (zE_mono H (fun r24 h23 H => ?_))
          rcases r24 with v25 | e26
          · obtain ⟨e0, H⟩ := H
            refine And.intro e0 ?_
            refine zq_aload (pc' := 47) rfl rfl rfl rfl ?_
            refine zq_iload (pc' := 48) rfl rfl rfl rfl ?_
            refine zq_iload (pc' := 49) rfl rfl rfl rfl ?_
            refine zq_calli (pc' := 52) rfl rfl rfl rfl rfl rfl (zE_mono H (fun r28 h27 H => ?_))
            rcases r28 with v29 | e30
            · obtain ⟨x31, e0, H⟩ := H
              refine Exists.intro x31 (And.intro e0 ?_)
              refine zq_istore (pc' := 53) rfl rfl rfl ?_
              refine zq_ipushn (pc' := 54) rfl rfl rfl ?_
              refine zq_istore (pc' := 56) rfl rfl rfl ?_
              refine zq_ipush (pc' := 57) rfl rfl rfl ?_
              refine zq_istore_c (pc' := 59) rfl rfl ?_
              exact H
            · exact H
          · exact H
      · exact H
  · exact H
theorem zr_X8_toPinch_59 {d : Nat} {Q : zR → zH → Prop} {l0 : Nat} {l1 : Int32} {l2 : Int32} {l3 : Int32} {l4 : Int32} {l5 : Int32} {h : zH} (H :
    ∃ a1 : Nat, zgf h l0 8 7 = some (.ref a1) ∧
    ∃ x2, zia h a1 l1 = some x2 ∧
    zbr (x2 ≤ l5)
    (Q (.inl (some (.int l4))) h)
    (∃ a3 : Nat, zgf h l0 8 26 = some (.ref a3) ∧
      zE d 313 [.ref a3, .int ((16 * l1) + l5)] h (fun r5 h4 => match r5 with
        | .inl v6 => v6 = none ∧ ∃ a8 : Nat, zgf h4 l0 8 27 = some (.ref a8) ∧
          zE d 313 [.ref a8, .int ((16 * l1) + l5)] h4 (fun r10 h9 => match r10 with
            | .inl v11 => v11 = none ∧ zE d 312 [.ref l0, .int l1, .int l2] h9 (fun r14 h13 => match r14 with
                | .inl v15 => ∃ x17 : Int32, v15 = some (.int x17) ∧ zbr (l3 < x17)
                  (zW (zE d) zm_X8_toPinch Q (59, [(0, .ref l0), (1, .int l1), (2, .int l2), (3, .int x17), (4, .int l5), (5, .int (l5 + 1))], [], h13))
                  (zW (zE d) zm_X8_toPinch Q (59, [(0, .ref l0), (1, .int l1), (2, .int l2), (3, .int l3), (4, .int l4), (5, .int (l5 + 1))], [], h13))
                | .inr e16 => Q (.inr e16) h13)
            | .inr e12 => Q (.inr e12) h9)
        | .inr e7 => Q (.inr e7) h4))) : zW (zE d) zm_X8_toPinch Q (59, [(0, .ref l0), (1, .int l1), (2, .int l2), (3, .int l3), (4, .int l4), (5, .int l5)], [], h) := by
  refine zq_iload (pc' := 61) rfl rfl rfl rfl ?_
  refine zq_aload (pc' := 62) rfl rfl rfl rfl ?_
  obtain ⟨a1, e0, H⟩ := H
  refine zq_getR (pc' := 65) rfl rfl rfl e0 ?_
  refine zq_iload (pc' := 66) rfl rfl rfl rfl ?_
  obtain ⟨x2, e0, H⟩ := H
  refine zq_iald (pc' := 67) rfl rfl rfl e0 ?_
  refine zq_icge (pc' := 70) rfl rfl rfl rfl (And.intro (fun c => ?_) (fun c => ?_))
  · have H := H.1 c
    refine zq_iload (pc' := 130) rfl rfl rfl rfl ?_
    exact zq_iret rfl trivial H
  · have H := H.2 c
    refine zq_aload (pc' := 71) rfl rfl rfl rfl ?_
    obtain ⟨a3, e0, H⟩ := H
    refine zq_getR (pc' := 74) rfl rfl rfl e0 ?_
    refine zq_ipush (pc' := 76) rfl rfl rfl ?_
    refine zq_iload (pc' := 77) rfl rfl rfl rfl ?_
    refine zq_imul (pc' := 78) rfl rfl rfl ?_
    refine zq_iload (pc' := 80) rfl rfl rfl rfl ?_
    refine zq_iadd (pc' := 81) rfl rfl rfl ?_
    refine zq_callv (pc' := 84) rfl rfl rfl rfl rfl rfl (zE_mono H (fun r5 h4 H => ?_))
    rcases r5 with v6 | e7
    · obtain ⟨e0, H⟩ := H
      refine And.intro e0 ?_
      refine zq_aload (pc' := 85) rfl rfl rfl rfl ?_
      obtain ⟨a8, e0, H⟩ := H
      refine zq_getR (pc' := 88) rfl rfl rfl e0 ?_
      refine zq_ipush (pc' := 90) rfl rfl rfl ?_
      refine zq_iload (pc' := 91) rfl rfl rfl rfl ?_
      refine zq_imul (pc' := 92) rfl rfl rfl ?_
      refine zq_iload (pc' := 94) rfl rfl rfl rfl ?_
      refine zq_iadd (pc' := 95) rfl rfl rfl ?_
      refine zq_callv (pc' := 98) rfl rfl rfl rfl rfl rfl (zE_mono H (fun r10 h9 H => ?_))
      rcases r10 with v11 | e12
      · obtain ⟨e0, H⟩ := H
        refine And.intro e0 ?_
        refine zq_aload (pc' := 99) rfl rfl rfl rfl ?_
        refine zq_iload (pc' := 100) rfl rfl rfl rfl ?_
        refine zq_iload (pc' := 101) rfl rfl rfl rfl ?_
        refine zq_calli (pc' := 104) rfl rfl rfl rfl rfl rfl (zE_mono H (fun r14 h13 H => ?_))
        rcases r14 with v15 | e16
        · obtain ⟨x17, e0, H⟩ := H
          refine Exists.intro x17 (And.intro e0 ?_)
          refine zq_istore (pc' := 106) rfl rfl rfl ?_
          refine zq_iload (pc' := 108) rfl rfl rfl rfl ?_
          refine zq_iload (pc' := 109) rfl rfl rfl rfl ?_
          refine zq_icgt (pc' := 112) rfl rfl rfl rfl (And.intro (fun c => ?_) (fun c => ?_))
          · have H := H.1 c
            refine zq_iload (pc' := 117) rfl rfl rfl rfl ?_
            refine zq_istore (pc' := 119) rfl rfl rfl ?_
            refine zq_iload (pc' := 121) rfl rfl rfl rfl ?_
            refine zq_istore (pc' := 122) rfl rfl rfl ?_
            refine zq_iinc (pc' := 125) rfl rfl rfl rfl ?_
            refine zq_goto_c (pc' := 59) rfl rfl ?_
            exact H
          · have H := H.2 c
            refine zq_goto (pc' := 122) rfl rfl rfl ?_
            refine zq_iinc (pc' := 125) rfl rfl rfl rfl ?_
            refine zq_goto_c (pc' := 59) rfl rfl ?_
            exact H
        · exact H
      · exact H
    · exact H
theorem zr_X8_toSlide_0 {d : Nat} {Q : zR → zH → Prop} {p0 : Nat} {p1 : Int32} {p2 : Int32} {p3 : Int32} {h : zH} (H :
    ∃ h1, zpf h p0 8 4 (.int 0) = some h1 ∧
    zE d 220 [.ref p0, .int p1] h1 (fun r3 h2 => match r3 with
      | .inl v4 => ∃ x6 : Int32, v4 = some (.int x6) ∧ zbr (x6 = 0)
        (zE d 215 [.ref p0, .int 1] h2 (fun r8 h7 => match r8 with
            | .inl v9 => ∃ x11 : Int32, v9 = some (.int x11) ∧ Q (.inl (some (.int x11))) h7
            | .inr e10 => Q (.inr e10) h7))
        (zE d 217 [.long ((p3 : Int32).toInt64), .long 0, .long 1] h2 (fun r13 h12 => match r13 with
            | .inl v14 => ∃ x16 : Int32, v14 = some (.int x16) ∧ zbr (x16 = 0)
              (zE d 215 [.ref p0, .int 1] h12 (fun r18 h17 => match r18 with
                  | .inl v19 => ∃ x21 : Int32, v19 = some (.int x21) ∧ Q (.inl (some (.int x21))) h17
                  | .inr e20 => Q (.inr e20) h17))
              (zE d 217 [.long ((p2 : Int32).toInt64), .long 1, .long 60] h12 (fun r23 h22 => match r23 with
                  | .inl v24 => ∃ x26 : Int32, v24 = some (.int x26) ∧ zbr (x26 = 0)
                    (zE d 215 [.ref p0, .int 2] h22 (fun r28 h27 => match r28 with
                        | .inl v29 => ∃ x31 : Int32, v29 = some (.int x31) ∧ Q (.inl (some (.int x31))) h27
                        | .inr e30 => Q (.inr e30) h27))
                    (∃ a32 : Nat, zgf h22 p0 8 39 = some (.ref a32) ∧
                      zE d 249 [.ref p0, .ref a32, .int 0] h22 (fun r34 h33 => match r34 with
                        | .inl v35 => v35 = none ∧ zW (zE d) zm_X8_toSlide Q (65, [(0, .ref p0), (1, .int p1), (2, .int p2), (3, .int p3), (4, .int (-1)), (5, .int (-1)), (6, .int 0)], [], h33)
                        | .inr e36 => Q (.inr e36) h33))
                  | .inr e25 => Q (.inr e25) h22))
            | .inr e15 => Q (.inr e15) h12))
      | .inr e5 => Q (.inr e5) h2)) : zW (zE d) zm_X8_toSlide Q (0, [(0, .ref p0), (1, .int p1), (2, .int p2), (3, .int p3)], [], h) := by
  refine zq_aload (pc' := 1) rfl rfl rfl rfl ?_
  refine zq_ipush (pc' := 2) rfl rfl rfl ?_
  obtain ⟨h1, e0, H⟩ := H
  refine zq_put (pc' := 5) rfl rfl rfl trivial e0 ?_
  refine zq_aload (pc' := 6) rfl rfl rfl rfl ?_
  refine zq_iload (pc' := 7) rfl rfl rfl rfl ?_
  refine zq_calli (pc' := 10) rfl rfl rfl rfl rfl rfl (zE_mono H (fun r3 h2 H => ?_))
  rcases r3 with v4 | e5
  · obtain ⟨x6, e0, H⟩ := H
    refine Exists.intro x6 (And.intro e0 ?_)
    refine zq_ifeq (pc' := 13) rfl rfl rfl rfl (And.intro (fun c => ?_) (fun c => ?_))
    · have H := H.1 c
      refine zq_aload (pc' := 24) rfl rfl rfl rfl ?_
      refine zq_ipush (pc' := 25) rfl rfl rfl ?_
      refine zq_calli (pc' := 28) rfl rfl rfl rfl rfl rfl (zE_mono H (fun r8 h7 H => ?_))
      rcases r8 with v9 | e10
      · obtain ⟨x11, e0, H⟩ := H
        refine Exists.intro x11 (And.intro e0 ?_)
        exact zq_iret rfl trivial H
      · exact H
    · have H := H.2 c
      refine zq_iload (pc' := 14) rfl rfl rfl rfl ?_
      refine zq_i2l (pc' := 15) rfl rfl rfl ?_
      refine zq_lpush (pc' := 16) rfl rfl rfl ?_
      refine zq_lpush (pc' := 17) rfl rfl rfl ?_
      refine zq_calli (pc' := 20) rfl rfl rfl rfl rfl rfl (zE_mono H (fun r13 h12 H => ?_))
      rcases r13 with v14 | e15
      · obtain ⟨x16, e0, H⟩ := H
        refine Exists.intro x16 (And.intro e0 ?_)
        refine zq_ifne (pc' := 23) rfl rfl rfl rfl (And.intro (fun c => ?_) (fun c => ?_))
        · have H := H.1 c
          refine zq_aload (pc' := 24) rfl rfl rfl rfl ?_
          refine zq_ipush (pc' := 25) rfl rfl rfl ?_
          refine zq_calli (pc' := 28) rfl rfl rfl rfl rfl rfl (zE_mono H (fun r18 h17 H => ?_))
          rcases r18 with v19 | e20
          · obtain ⟨x21, e0, H⟩ := H
            refine Exists.intro x21 (And.intro e0 ?_)
            exact zq_iret rfl trivial H
          · exact H
        · have H := H.2 c
          refine zq_iload (pc' := 30) rfl rfl rfl rfl ?_
          refine zq_i2l (pc' := 31) rfl rfl rfl ?_
          refine zq_lpush (pc' := 32) rfl rfl rfl ?_
          refine zq_lpush (pc' := 35) rfl rfl rfl ?_
          refine zq_calli (pc' := 38) rfl rfl rfl rfl rfl rfl (zE_mono H (fun r23 h22 H => ?_))
          rcases r23 with v24 | e25
          · obtain ⟨x26, e0, H⟩ := H
            refine Exists.intro x26 (And.intro e0 ?_)
            refine zq_ifne (pc' := 41) rfl rfl rfl rfl (And.intro (fun c => ?_) (fun c => ?_))
            · have H := H.1 c
              refine zq_aload (pc' := 42) rfl rfl rfl rfl ?_
              refine zq_ipush (pc' := 43) rfl rfl rfl ?_
              refine zq_calli (pc' := 46) rfl rfl rfl rfl rfl rfl (zE_mono H (fun r28 h27 H => ?_))
              rcases r28 with v29 | e30
              · obtain ⟨x31, e0, H⟩ := H
                refine Exists.intro x31 (And.intro e0 ?_)
                exact zq_iret rfl trivial H
              · exact H
            · have H := H.2 c
              refine zq_aload (pc' := 48) rfl rfl rfl rfl ?_
              refine zq_aload (pc' := 49) rfl rfl rfl rfl ?_
              obtain ⟨a32, e0, H⟩ := H
              refine zq_getR (pc' := 52) rfl rfl rfl e0 ?_
              refine zq_ipush (pc' := 53) rfl rfl rfl ?_
              refine zq_callv (pc' := 56) rfl rfl rfl rfl rfl rfl (zE_mono H (fun r34 h33 H => ?_))
              rcases r34 with v35 | e36
              · obtain ⟨e0, H⟩ := H
                refine And.intro e0 ?_
                refine zq_ipushn (pc' := 57) rfl rfl rfl ?_
                refine zq_istore (pc' := 59) rfl rfl rfl ?_
                refine zq_ipushn (pc' := 60) rfl rfl rfl ?_
                refine zq_istore (pc' := 62) rfl rfl rfl ?_
                refine zq_ipush (pc' := 63) rfl rfl rfl ?_
                refine zq_istore_c (pc' := 65) rfl rfl ?_
                exact H
              · exact H
          · exact H
      · exact H
  · exact H
theorem zr_X8_toSlide_65 {d : Nat} {Q : zR → zH → Prop} {l0 : Nat} {l1 : Int32} {l2 : Int32} {l3 : Int32} {l4 : Int32} {l5 : Int32} {l6 : Int32} {h : zH} (H :
    ∃ a1 : Nat, zgf h l0 8 7 = some (.ref a1) ∧
    ∃ x2, zia h a1 l1 = some x2 ∧
    zbr (x2 < l6)
    (zbr (l3 = 0)
      (Q (.inl (some (.int l5))) h)
      (Q (.inl (some (.int l4))) h))
    (zE d 253 [.ref l0, .int l1, .int l6] h (fun r4 h3 => match r4 with
        | .inl v5 => v5 = none ∧ zE d 312 [.ref l0, .int l1, .int l2] h3 (fun r8 h7 => match r8 with
            | .inl v9 => ∃ x11 : Int32, v9 = some (.int x11) ∧ zbr (l4 < x11)
              (zW (zE d) zm_X8_toSlide Q (65, [(0, .ref l0), (1, .int l1), (2, .int l2), (3, .int l3), (4, .int x11), (5, .int l6), (6, .int (l6 + 1))], [], h7))
              (zW (zE d) zm_X8_toSlide Q (65, [(0, .ref l0), (1, .int l1), (2, .int l2), (3, .int l3), (4, .int l4), (5, .int l5), (6, .int (l6 + 1))], [], h7))
            | .inr e10 => Q (.inr e10) h7)
        | .inr e6 => Q (.inr e6) h3))) : zW (zE d) zm_X8_toSlide Q (65, [(0, .ref l0), (1, .int l1), (2, .int l2), (3, .int l3), (4, .int l4), (5, .int l5), (6, .int l6)], [], h) := by
  refine zq_iload (pc' := 67) rfl rfl rfl rfl ?_
  refine zq_aload (pc' := 68) rfl rfl rfl rfl ?_
  obtain ⟨a1, e0, H⟩ := H
  refine zq_getR (pc' := 71) rfl rfl rfl e0 ?_
  refine zq_iload (pc' := 72) rfl rfl rfl rfl ?_
  obtain ⟨x2, e0, H⟩ := H
  refine zq_iald (pc' := 73) rfl rfl rfl e0 ?_
  refine zq_icgt (pc' := 76) rfl rfl rfl rfl (And.intro (fun c => ?_) (fun c => ?_))
  · have H := H.1 c
    refine zq_iload (pc' := 116) rfl rfl rfl rfl ?_
    refine zq_ifne (pc' := 119) rfl rfl rfl rfl (And.intro (fun c => ?_) (fun c => ?_))
    · have H := H.1 c
      refine zq_iload (pc' := 121) rfl rfl rfl rfl ?_
      refine zq_goto (pc' := 126) rfl rfl rfl ?_
      exact zq_iret rfl trivial H
    · have H := H.2 c
      refine zq_iload (pc' := 126) rfl rfl rfl rfl ?_
      exact zq_iret rfl trivial H
  · have H := H.2 c
    refine zq_aload (pc' := 77) rfl rfl rfl rfl ?_
    refine zq_iload (pc' := 78) rfl rfl rfl rfl ?_
    refine zq_iload (pc' := 80) rfl rfl rfl rfl ?_
    refine zq_callv (pc' := 83) rfl rfl rfl rfl rfl rfl (zE_mono H (fun r4 h3 H => ?_))
    rcases r4 with v5 | e6
    · obtain ⟨e0, H⟩ := H
      refine And.intro e0 ?_
      refine zq_aload (pc' := 84) rfl rfl rfl rfl ?_
      refine zq_iload (pc' := 85) rfl rfl rfl rfl ?_
      refine zq_iload (pc' := 86) rfl rfl rfl rfl ?_
      refine zq_calli (pc' := 89) rfl rfl rfl rfl rfl rfl (zE_mono H (fun r8 h7 H => ?_))
      rcases r8 with v9 | e10
      · obtain ⟨x11, e0, H⟩ := H
        refine Exists.intro x11 (And.intro e0 ?_)
        refine zq_istore (pc' := 91) rfl rfl rfl ?_
        refine zq_iload (pc' := 93) rfl rfl rfl rfl ?_
        refine zq_iload (pc' := 95) rfl rfl rfl rfl ?_
        refine zq_icgt (pc' := 98) rfl rfl rfl rfl (And.intro (fun c => ?_) (fun c => ?_))
        · have H := H.1 c
          refine zq_iload (pc' := 103) rfl rfl rfl rfl ?_
          refine zq_istore (pc' := 105) rfl rfl rfl ?_
          refine zq_iload (pc' := 107) rfl rfl rfl rfl ?_
          refine zq_istore (pc' := 109) rfl rfl rfl ?_
          refine zq_iinc (pc' := 112) rfl rfl rfl rfl ?_
          refine zq_goto_c (pc' := 65) rfl rfl ?_
          exact H
        · have H := H.2 c
          refine zq_goto (pc' := 109) rfl rfl rfl ?_
          refine zq_iinc (pc' := 112) rfl rfl rfl rfl ?_
          refine zq_goto_c (pc' := 65) rfl rfl ?_
          exact H
      · exact H
    · exact H
theorem zr_X8_toSet_0 {d : Nat} {Q : zR → zH → Prop} {p0 : Nat} {p1 : Int32} {p2 : Int32} {h : zH} (H :
    ∃ h1, zpf h p0 8 4 (.int 0) = some h1 ∧
    zE d 220 [.ref p0, .int p1] h1 (fun r3 h2 => match r3 with
      | .inl v4 => ∃ x6 : Int32, v4 = some (.int x6) ∧ zbr (x6 = 0)
        (zE d 215 [.ref p0, .int 1] h2 (fun r8 h7 => match r8 with
            | .inl v9 => ∃ x11 : Int32, v9 = some (.int x11) ∧ Q (.inl (some (.int x11))) h7
            | .inr e10 => Q (.inr e10) h7))
        (zE d 217 [.long ((p2 : Int32).toInt64), .long 1, .long 60] h2 (fun r13 h12 => match r13 with
            | .inl v14 => ∃ x16 : Int32, v14 = some (.int x16) ∧ zbr (x16 = 0)
              (zE d 215 [.ref p0, .int 2] h12 (fun r18 h17 => match r18 with
                  | .inl v19 => ∃ x21 : Int32, v19 = some (.int x21) ∧ Q (.inl (some (.int x21))) h17
                  | .inr e20 => Q (.inr e20) h17))
              (∃ a22 : Nat, zgf h12 p0 8 39 = some (.ref a22) ∧
                zE d 249 [.ref p0, .ref a22, .int 0] h12 (fun r24 h23 => match r24 with
                  | .inl v25 => v25 = none ∧ zW (zE d) zm_X8_toSet Q (54, [(0, .ref p0), (1, .int p1), (2, .int p2), (3, .int (-1)), (4, .int (-1)), (5, .int 0)], [], h23)
                  | .inr e26 => Q (.inr e26) h23))
            | .inr e15 => Q (.inr e15) h12))
      | .inr e5 => Q (.inr e5) h2)) : zW (zE d) zm_X8_toSet Q (0, [(0, .ref p0), (1, .int p1), (2, .int p2)], [], h) := by
  refine zq_aload (pc' := 1) rfl rfl rfl rfl ?_
  refine zq_ipush (pc' := 2) rfl rfl rfl ?_
  obtain ⟨h1, e0, H⟩ := H
  refine zq_put (pc' := 5) rfl rfl rfl trivial e0 ?_
  refine zq_aload (pc' := 6) rfl rfl rfl rfl ?_
  refine zq_iload (pc' := 7) rfl rfl rfl rfl ?_
  refine zq_calli (pc' := 10) rfl rfl rfl rfl rfl rfl (zE_mono H (fun r3 h2 H => ?_))
  rcases r3 with v4 | e5
  · obtain ⟨x6, e0, H⟩ := H
    refine Exists.intro x6 (And.intro e0 ?_)
    refine zq_ifne (pc' := 13) rfl rfl rfl rfl (And.intro (fun c => ?_) (fun c => ?_))
    · have H := H.1 c
      refine zq_aload (pc' := 14) rfl rfl rfl rfl ?_
      refine zq_ipush (pc' := 15) rfl rfl rfl ?_
      refine zq_calli (pc' := 18) rfl rfl rfl rfl rfl rfl (zE_mono H (fun r8 h7 H => ?_))
      rcases r8 with v9 | e10
      · obtain ⟨x11, e0, H⟩ := H
        refine Exists.intro x11 (And.intro e0 ?_)
        exact zq_iret rfl trivial H
      · exact H
    · have H := H.2 c
      refine zq_iload (pc' := 20) rfl rfl rfl rfl ?_
      refine zq_i2l (pc' := 21) rfl rfl rfl ?_
      refine zq_lpush (pc' := 22) rfl rfl rfl ?_
      refine zq_lpush (pc' := 25) rfl rfl rfl ?_
      refine zq_calli (pc' := 28) rfl rfl rfl rfl rfl rfl (zE_mono H (fun r13 h12 H => ?_))
      rcases r13 with v14 | e15
      · obtain ⟨x16, e0, H⟩ := H
        refine Exists.intro x16 (And.intro e0 ?_)
        refine zq_ifne (pc' := 31) rfl rfl rfl rfl (And.intro (fun c => ?_) (fun c => ?_))
        · have H := H.1 c
          refine zq_aload (pc' := 32) rfl rfl rfl rfl ?_
          refine zq_ipush (pc' := 33) rfl rfl rfl ?_
          refine zq_calli (pc' := 36) rfl rfl rfl rfl rfl rfl (zE_mono H (fun r18 h17 H => ?_))
          rcases r18 with v19 | e20
          · obtain ⟨x21, e0, H⟩ := H
            refine Exists.intro x21 (And.intro e0 ?_)
            exact zq_iret rfl trivial H
          · exact H
        · have H := H.2 c
          refine zq_aload (pc' := 38) rfl rfl rfl rfl ?_
          refine zq_aload (pc' := 39) rfl rfl rfl rfl ?_
          obtain ⟨a22, e0, H⟩ := H
          refine zq_getR (pc' := 42) rfl rfl rfl e0 ?_
          refine zq_ipush (pc' := 43) rfl rfl rfl ?_
          refine zq_callv (pc' := 46) rfl rfl rfl rfl rfl rfl (zE_mono H (fun r24 h23 H => ?_))
          rcases r24 with v25 | e26
          · obtain ⟨e0, H⟩ := H
            refine And.intro e0 ?_
            refine zq_ipushn (pc' := 47) rfl rfl rfl ?_
            refine zq_istore (pc' := 48) rfl rfl rfl ?_
            refine zq_ipushn (pc' := 49) rfl rfl rfl ?_
            refine zq_istore (pc' := 51) rfl rfl rfl ?_
            refine zq_ipush (pc' := 52) rfl rfl rfl ?_
            refine zq_istore_c (pc' := 54) rfl rfl ?_
            exact H
          · exact H
      · exact H
  · exact H
theorem zr_X8_toSet_54 {d : Nat} {Q : zR → zH → Prop} {l0 : Nat} {l1 : Int32} {l2 : Int32} {l3 : Int32} {l4 : Int32} {l5 : Int32} {h : zH} (H :
    ∃ a1 : Nat, zgf h l0 8 7 = some (.ref a1) ∧
    ∃ x2, zia h a1 l1 = some x2 ∧
    zbr (x2 ≤ l5)
    (Q (.inl (some (.int l4))) h)
    (zE d 251 [.ref l0, .int l1, .int l5] h (fun r4 h3 => match r4 with
        | .inl v5 => ∃ x7 : Int32, v5 = some (.int x7) ∧ zbr (x7 ≤ 0)
          (∃ a8 : Nat, zgf h3 l0 8 26 = some (.ref a8) ∧
            ∃ x9, zia h3 a8 ((16 * l1) + l5) = some x9 ∧
            zbr (x9 = 0)
            (∃ a10 : Nat, zgf h3 l0 8 26 = some (.ref a10) ∧
              ∃ h11, zis h3 a10 ((16 * l1) + l5) 9 = some h11 ∧
              ∃ a12 : Nat, zgf h11 l0 8 27 = some (.ref a12) ∧
              ∃ x13, zia h11 a12 ((16 * l1) + l5) = some x13 ∧
              zbr (x13 = 0)
              (∃ a14 : Nat, zgf h11 l0 8 27 = some (.ref a14) ∧
                ∃ h15, zis h11 a14 ((16 * l1) + l5) 9 = some h15 ∧
                zW (zE d) zm_X8_toSet Q (125, [(0, .ref l0), (1, .int l1), (2, .int l2), (3, .int l3), (4, .int l4), (5, .int l5)], [], h15))
              (zW (zE d) zm_X8_toSet Q (125, [(0, .ref l0), (1, .int l1), (2, .int l2), (3, .int l3), (4, .int l4), (5, .int l5)], [], h11)))
            (∃ a16 : Nat, zgf h3 l0 8 27 = some (.ref a16) ∧
              ∃ x17, zia h3 a16 ((16 * l1) + l5) = some x17 ∧
              zbr (x17 = 0)
              (∃ a18 : Nat, zgf h3 l0 8 27 = some (.ref a18) ∧
                ∃ h19, zis h3 a18 ((16 * l1) + l5) 9 = some h19 ∧
                zW (zE d) zm_X8_toSet Q (125, [(0, .ref l0), (1, .int l1), (2, .int l2), (3, .int l3), (4, .int l4), (5, .int l5)], [], h19))
              (zW (zE d) zm_X8_toSet Q (125, [(0, .ref l0), (1, .int l1), (2, .int l2), (3, .int l3), (4, .int l4), (5, .int l5)], [], h3))))
          (zW (zE d) zm_X8_toSet Q (54, [(0, .ref l0), (1, .int l1), (2, .int l2), (3, .int l3), (4, .int l4), (5, .int (l5 + 1))], [], h3))
        | .inr e6 => Q (.inr e6) h3))) : zW (zE d) zm_X8_toSet Q (54, [(0, .ref l0), (1, .int l1), (2, .int l2), (3, .int l3), (4, .int l4), (5, .int l5)], [], h) := by
  refine zq_iload (pc' := 56) rfl rfl rfl rfl ?_
  refine zq_aload (pc' := 57) rfl rfl rfl rfl ?_
  obtain ⟨a1, e0, H⟩ := H
  refine zq_getR (pc' := 60) rfl rfl rfl e0 ?_
  refine zq_iload (pc' := 61) rfl rfl rfl rfl ?_
  obtain ⟨x2, e0, H⟩ := H
  refine zq_iald (pc' := 62) rfl rfl rfl e0 ?_
  refine zq_icge (pc' := 65) rfl rfl rfl rfl (And.intro (fun c => ?_) (fun c => ?_))
  · have H := H.1 c
    refine zq_iload (pc' := 168) rfl rfl rfl rfl ?_
    exact zq_iret rfl trivial H
  · have H := H.2 c
    refine zq_ipush (pc' := 67) rfl rfl rfl ?_
    refine zq_iload (pc' := 68) rfl rfl rfl rfl ?_
    refine zq_imul (pc' := 69) rfl rfl rfl ?_
    refine zq_iload (pc' := 71) rfl rfl rfl rfl ?_
    refine zq_iadd (pc' := 72) rfl rfl rfl ?_
    refine zq_istore (pc' := 74) rfl rfl rfl ?_
    refine zq_aload (pc' := 75) rfl rfl rfl rfl ?_
    refine zq_iload (pc' := 76) rfl rfl rfl rfl ?_
    refine zq_iload (pc' := 78) rfl rfl rfl rfl ?_
    refine zq_calli (pc' := 81) rfl rfl rfl rfl rfl rfl (zE_mono H (fun r4 h3 H => ?_))
    rcases r4 with v5 | e6
    · obtain ⟨x7, e0, H⟩ := H
      refine Exists.intro x7 (And.intro e0 ?_)
      refine zq_ifle (pc' := 84) rfl rfl rfl rfl (And.intro (fun c => ?_) (fun c => ?_))
      · have H := H.1 c
        refine zq_aload (pc' := 88) rfl rfl rfl rfl ?_
        obtain ⟨a8, e0, H⟩ := H
        refine zq_getR (pc' := 91) rfl rfl rfl e0 ?_
        refine zq_iload (pc' := 93) rfl rfl rfl rfl ?_
        obtain ⟨x9, e0, H⟩ := H
        refine zq_iald (pc' := 94) rfl rfl rfl e0 ?_
        refine zq_ifne (pc' := 97) rfl rfl rfl rfl (And.intro (fun c => ?_) (fun c => ?_))
        · have H := H.1 c
          refine zq_aload (pc' := 98) rfl rfl rfl rfl ?_
          obtain ⟨a10, e0, H⟩ := H
          refine zq_getR (pc' := 101) rfl rfl rfl e0 ?_
          refine zq_iload (pc' := 103) rfl rfl rfl rfl ?_
          refine zq_ipush (pc' := 105) rfl rfl rfl ?_
          obtain ⟨h11, e0, H⟩ := H
          refine zq_iast (pc' := 106) rfl rfl rfl e0 ?_
          refine zq_aload (pc' := 107) rfl rfl rfl rfl ?_
          obtain ⟨a12, e0, H⟩ := H
          refine zq_getR (pc' := 110) rfl rfl rfl e0 ?_
          refine zq_iload (pc' := 112) rfl rfl rfl rfl ?_
          obtain ⟨x13, e0, H⟩ := H
          refine zq_iald (pc' := 113) rfl rfl rfl e0 ?_
          refine zq_ifne_c (pc' := 116) (lt := [(0, .ref l0), (1, .int l1), (2, .int l2), (3, .int l3), (4, .int l4), (5, .int l5)]) (lf := [(6, .int ((16 * l1) + l5)), (0, .ref l0), (1, .int l1), (2, .int l2), (3, .int l3), (4, .int l4), (5, .int l5)]) rfl rfl rfl rfl (And.intro (fun c => ?_) (fun c => ?_))
          · have H := H.1 c
            refine zq_aload (pc' := 117) rfl rfl rfl rfl ?_
            obtain ⟨a14, e0, H⟩ := H
            refine zq_getR (pc' := 120) rfl rfl rfl e0 ?_
            refine zq_iload (pc' := 122) rfl rfl rfl rfl ?_
            refine zq_ipush (pc' := 124) rfl rfl rfl ?_
            obtain ⟨h15, e0, H⟩ := H
            refine zq_iast_c (pc' := 125) rfl rfl e0 ?_
            exact H
          · have H := H.2 c
            exact H
        · have H := H.2 c
          refine zq_aload (pc' := 107) rfl rfl rfl rfl ?_
          obtain ⟨a16, e0, H⟩ := H
          refine zq_getR (pc' := 110) rfl rfl rfl e0 ?_
          refine zq_iload (pc' := 112) rfl rfl rfl rfl ?_
          obtain ⟨x17, e0, H⟩ := H
          refine zq_iald (pc' := 113) rfl rfl rfl e0 ?_
          refine zq_ifne_c (pc' := 116) (lt := [(0, .ref l0), (1, .int l1), (2, .int l2), (3, .int l3), (4, .int l4), (5, .int l5)]) (lf := [(6, .int ((16 * l1) + l5)), (0, .ref l0), (1, .int l1), (2, .int l2), (3, .int l3), (4, .int l4), (5, .int l5)]) rfl rfl rfl rfl (And.intro (fun c => ?_) (fun c => ?_))
          · have H := H.1 c
            refine zq_aload (pc' := 117) rfl rfl rfl rfl ?_
            obtain ⟨a18, e0, H⟩ := H
            refine zq_getR (pc' := 120) rfl rfl rfl e0 ?_
            refine zq_iload (pc' := 122) rfl rfl rfl rfl ?_
            refine zq_ipush (pc' := 124) rfl rfl rfl ?_
            obtain ⟨h19, e0, H⟩ := H
            refine zq_iast_c (pc' := 125) rfl rfl e0 ?_
            exact H
          · have H := H.2 c
            exact H
      · have H := H.2 c
        refine zq_goto (pc' := 160) rfl rfl rfl ?_
        refine zq_iinc (pc' := 163) rfl rfl rfl rfl ?_
        refine zq_goto_c (pc' := 54) rfl rfl ?_
        exact H
    · exact H
theorem zr_X8_toSet_125 {d : Nat} {Q : zR → zH → Prop} {l0 : Nat} {l1 : Int32} {l2 : Int32} {l3 : Int32} {l4 : Int32} {l5 : Int32} {h : zH} (H :
    ∃ a1 : Nat, zgf h l0 8 7 = some (.ref a1) ∧
    ∃ x2, zia h a1 l1 = some x2 ∧
    zE d 253 [.ref l0, .int l1, .int x2] h (fun r4 h3 => match r4 with
      | .inl v5 => v5 = none ∧ zE d 312 [.ref l0, .int l1, .int l2] h3 (fun r8 h7 => match r8 with
          | .inl v9 => ∃ x11 : Int32, v9 = some (.int x11) ∧ zbr (l3 < x11)
            (zW (zE d) zm_X8_toSet Q (54, [(0, .ref l0), (1, .int l1), (2, .int l2), (3, .int x11), (4, .int l5), (5, .int (l5 + 1))], [], h7))
            (zW (zE d) zm_X8_toSet Q (54, [(0, .ref l0), (1, .int l1), (2, .int l2), (3, .int l3), (4, .int l4), (5, .int (l5 + 1))], [], h7))
          | .inr e10 => Q (.inr e10) h7)
      | .inr e6 => Q (.inr e6) h3)) : zW (zE d) zm_X8_toSet Q (125, [(0, .ref l0), (1, .int l1), (2, .int l2), (3, .int l3), (4, .int l4), (5, .int l5)], [], h) := by
  refine zq_aload (pc' := 126) rfl rfl rfl rfl ?_
  refine zq_iload (pc' := 127) rfl rfl rfl rfl ?_
  refine zq_aload (pc' := 128) rfl rfl rfl rfl ?_
  obtain ⟨a1, e0, H⟩ := H
  refine zq_getR (pc' := 131) rfl rfl rfl e0 ?_
  refine zq_iload (pc' := 132) rfl rfl rfl rfl ?_
  obtain ⟨x2, e0, H⟩ := H
  refine zq_iald (pc' := 133) rfl rfl rfl e0 ?_
  refine zq_callv (pc' := 136) rfl rfl rfl rfl rfl rfl (zE_mono H (fun r4 h3 H => ?_))
  rcases r4 with v5 | e6
  · obtain ⟨e0, H⟩ := H
    refine And.intro e0 ?_
    refine zq_aload (pc' := 137) rfl rfl rfl rfl ?_
    refine zq_iload (pc' := 138) rfl rfl rfl rfl ?_
    refine zq_iload (pc' := 139) rfl rfl rfl rfl ?_
    refine zq_calli (pc' := 142) rfl rfl rfl rfl rfl rfl (zE_mono H (fun r8 h7 H => ?_))
    rcases r8 with v9 | e10
    · obtain ⟨x11, e0, H⟩ := H
      refine Exists.intro x11 (And.intro e0 ?_)
      refine zq_istore (pc' := 144) rfl rfl rfl ?_
      refine zq_iload (pc' := 146) rfl rfl rfl rfl ?_
      refine zq_iload (pc' := 147) rfl rfl rfl rfl ?_
      refine zq_icgt (pc' := 150) rfl rfl rfl rfl (And.intro (fun c => ?_) (fun c => ?_))
      · have H := H.1 c
        refine zq_iload (pc' := 155) rfl rfl rfl rfl ?_
        refine zq_istore (pc' := 157) rfl rfl rfl ?_
        refine zq_iload (pc' := 159) rfl rfl rfl rfl ?_
        refine zq_istore (pc' := 160) rfl rfl rfl ?_
        refine zq_iinc (pc' := 163) rfl rfl rfl rfl ?_
        refine zq_goto_c (pc' := 54) rfl rfl ?_
        exact H
      · have H := H.2 c
        refine zq_goto (pc' := 160) rfl rfl rfl ?_
        refine zq_iinc (pc' := 163) rfl rfl rfl rfl ?_
        refine zq_goto_c (pc' := 54) rfl rfl ?_
        exact H
    · exact H
  · exact H
theorem zr_X8_note_0 {d : Nat} {Q : zR → zH → Prop} {p0 : Nat} {p1 : Int32} {p2 : Int32} {p3 : Int32} {p4 : Int32} {h : zH} (H :
    ∃ h1, zpf h p0 8 4 (.int 0) = some h1 ∧
    zE d 221 [.ref p0, .int p1, .int p2] h1 (fun r3 h2 => match r3 with
      | .inl v4 => ∃ x6 : Int32, v4 = some (.int x6) ∧ zbr (x6 = 0)
        (zE d 215 [.ref p0, .int 1] h2 (fun r8 h7 => match r8 with
            | .inl v9 => ∃ x11 : Int32, v9 = some (.int x11) ∧ Q (.inl (some (.int x11))) h7
            | .inr e10 => Q (.inr e10) h7))
        (∃ x12 : Int32, zgf h2 p0 8 33 = some (.int x12) ∧
          zbr (x12 = 8)
          (zE d 277 [.ref p0, .int 2] h2 (fun r14 h13 => match r14 with
              | .inl v15 => ∃ x17 : Int32, v15 = some (.int x17) ∧ Q (.inl (some (.int x17))) h13
              | .inr e16 => Q (.inr e16) h13))
          (zE d 217 [.long ((p3 : Int32).toInt64), .long 0, .long 20] h2 (fun r19 h18 => match r19 with
              | .inl v20 => ∃ x22 : Int32, v20 = some (.int x22) ∧ zbr (x22 = 0)
                (zE d 277 [.ref p0, .int 2] h18 (fun r24 h23 => match r24 with
                    | .inl v25 => ∃ x27 : Int32, v25 = some (.int x27) ∧ Q (.inl (some (.int x27))) h23
                    | .inr e26 => Q (.inr e26) h23))
                (∃ a28 : Nat, zgf h18 p0 8 42 = some (.ref a28) ∧
                  ∃ x29 : Int32, zgf h18 p0 8 33 = some (.int x29) ∧
                  ∃ h30, zis h18 a28 x29 p1 = some h30 ∧
                  ∃ a31 : Nat, zgf h30 p0 8 43 = some (.ref a31) ∧
                  ∃ x32 : Int32, zgf h30 p0 8 33 = some (.int x32) ∧
                  ∃ h33, zis h30 a31 x32 p2 = some h33 ∧
                  ∃ a34 : Nat, zgf h33 p0 8 44 = some (.ref a34) ∧
                  ∃ x35 : Int32, zgf h33 p0 8 33 = some (.int x35) ∧
                  ∃ h36, zis h33 a34 x35 p3 = some h36 ∧
                  ∃ a37 : Nat, zgf h36 p0 8 45 = some (.ref a37) ∧
                  ∃ x38 : Int32, zgf h36 p0 8 33 = some (.int x38) ∧
                  zbr (p4 = 0)
                  (∃ h39, zis h36 a37 x38 0 = some h39 ∧
                    ∃ x40 : Int32, zgf h39 p0 8 33 = some (.int x40) ∧
                    ∃ h41, zpf h39 p0 8 33 (.int (x40 + 1)) = some h41 ∧
                    ∃ x42 : Int32, zgf h41 p0 8 33 = some (.int x42) ∧
                    Q (.inl (some (.int x42))) h41)
                  (∃ h43, zis h36 a37 x38 1 = some h43 ∧
                    ∃ x44 : Int32, zgf h43 p0 8 33 = some (.int x44) ∧
                    ∃ h45, zpf h43 p0 8 33 (.int (x44 + 1)) = some h45 ∧
                    ∃ x46 : Int32, zgf h45 p0 8 33 = some (.int x46) ∧
                    Q (.inl (some (.int x46))) h45))
              | .inr e21 => Q (.inr e21) h18)))
      | .inr e5 => Q (.inr e5) h2)) : zW (zE d) zm_X8_note Q (0, [(0, .ref p0), (1, .int p1), (2, .int p2), (3, .int p3), (4, .int p4)], [], h) := by
  refine zq_aload (pc' := 1) rfl rfl rfl rfl ?_
  refine zq_ipush (pc' := 2) rfl rfl rfl ?_
  obtain ⟨h1, e0, H⟩ := H
  refine zq_put (pc' := 5) rfl rfl rfl trivial e0 ?_
  refine zq_aload (pc' := 6) rfl rfl rfl rfl ?_
  refine zq_iload (pc' := 7) rfl rfl rfl rfl ?_
  refine zq_iload (pc' := 8) rfl rfl rfl rfl ?_
  refine zq_calli (pc' := 11) rfl rfl rfl rfl rfl rfl (zE_mono H (fun r3 h2 H => ?_))
  rcases r3 with v4 | e5
  · obtain ⟨x6, e0, H⟩ := H
    refine Exists.intro x6 (And.intro e0 ?_)
    refine zq_ifne (pc' := 14) rfl rfl rfl rfl (And.intro (fun c => ?_) (fun c => ?_))
    · have H := H.1 c
      refine zq_aload (pc' := 15) rfl rfl rfl rfl ?_
      refine zq_ipush (pc' := 16) rfl rfl rfl ?_
      refine zq_calli (pc' := 19) rfl rfl rfl rfl rfl rfl (zE_mono H (fun r8 h7 H => ?_))
      rcases r8 with v9 | e10
      · obtain ⟨x11, e0, H⟩ := H
        refine Exists.intro x11 (And.intro e0 ?_)
        exact zq_iret rfl trivial H
      · exact H
    · have H := H.2 c
      refine zq_aload (pc' := 21) rfl rfl rfl rfl ?_
      obtain ⟨x12, e0, H⟩ := H
      refine zq_getI (pc' := 24) rfl rfl rfl e0 ?_
      refine zq_ipush (pc' := 26) rfl rfl rfl ?_
      refine zq_iceq (pc' := 29) rfl rfl rfl rfl (And.intro (fun c => ?_) (fun c => ?_))
      · have H := H.1 c
        refine zq_aload (pc' := 42) rfl rfl rfl rfl ?_
        refine zq_ipush (pc' := 43) rfl rfl rfl ?_
        refine zq_calli (pc' := 46) rfl rfl rfl rfl rfl rfl (zE_mono H (fun r14 h13 H => ?_))
        rcases r14 with v15 | e16
        · obtain ⟨x17, e0, H⟩ := H
          refine Exists.intro x17 (And.intro e0 ?_)
          exact zq_iret rfl trivial H
        · exact H
      · have H := H.2 c
        refine zq_iload (pc' := 30) rfl rfl rfl rfl ?_
        refine zq_i2l (pc' := 31) rfl rfl rfl ?_
        refine zq_lpush (pc' := 32) rfl rfl rfl ?_
        refine zq_lpush (pc' := 35) rfl rfl rfl ?_
        refine zq_calli (pc' := 38) rfl rfl rfl rfl rfl rfl (zE_mono H (fun r19 h18 H => ?_))
        rcases r19 with v20 | e21
        · obtain ⟨x22, e0, H⟩ := H
          refine Exists.intro x22 (And.intro e0 ?_)
          refine zq_ifne (pc' := 41) rfl rfl rfl rfl (And.intro (fun c => ?_) (fun c => ?_))
          · have H := H.1 c
            refine zq_aload (pc' := 42) rfl rfl rfl rfl ?_
            refine zq_ipush (pc' := 43) rfl rfl rfl ?_
            refine zq_calli (pc' := 46) rfl rfl rfl rfl rfl rfl (zE_mono H (fun r24 h23 H => ?_))
            rcases r24 with v25 | e26
            · obtain ⟨x27, e0, H⟩ := H
              refine Exists.intro x27 (And.intro e0 ?_)
              exact zq_iret rfl trivial H
            · exact H
          · have H := H.2 c
            refine zq_aload (pc' := 48) rfl rfl rfl rfl ?_
            obtain ⟨a28, e0, H⟩ := H
            refine zq_getR (pc' := 51) rfl rfl rfl e0 ?_
            refine zq_aload (pc' := 52) rfl rfl rfl rfl ?_
            obtain ⟨x29, e0, H⟩ := H
            refine zq_getI (pc' := 55) rfl rfl rfl e0 ?_
            refine zq_iload (pc' := 56) rfl rfl rfl rfl ?_
            obtain ⟨h30, e0, H⟩ := H
            refine zq_iast (pc' := 57) rfl rfl rfl e0 ?_
            refine zq_aload (pc' := 58) rfl rfl rfl rfl ?_
            obtain ⟨a31, e0, H⟩ := H
            refine zq_getR (pc' := 61) rfl rfl rfl e0 ?_
            refine zq_aload (pc' := 62) rfl rfl rfl rfl ?_
            obtain ⟨x32, e0, H⟩ := H
            refine zq_getI (pc' := 65) rfl rfl rfl e0 ?_
            refine zq_iload (pc' := 66) rfl rfl rfl rfl ?_
            obtain ⟨h33, e0, H⟩ := H
            refine zq_iast (pc' := 67) rfl rfl rfl e0 ?_
            refine zq_aload (pc' := 68) rfl rfl rfl rfl ?_
            obtain ⟨a34, e0, H⟩ := H
            refine zq_getR (pc' := 71) rfl rfl rfl e0 ?_
            refine zq_aload (pc' := 72) rfl rfl rfl rfl ?_
            obtain ⟨x35, e0, H⟩ := H
            refine zq_getI (pc' := 75) rfl rfl rfl e0 ?_
            refine zq_iload (pc' := 76) rfl rfl rfl rfl ?_
            obtain ⟨h36, e0, H⟩ := H
            refine zq_iast (pc' := 77) rfl rfl rfl e0 ?_
            refine zq_aload (pc' := 78) rfl rfl rfl rfl ?_
            obtain ⟨a37, e0, H⟩ := H
            refine zq_getR (pc' := 81) rfl rfl rfl e0 ?_
            refine zq_aload (pc' := 82) rfl rfl rfl rfl ?_
            obtain ⟨x38, e0, H⟩ := H
            refine zq_getI (pc' := 85) rfl rfl rfl e0 ?_
            refine zq_iload (pc' := 87) rfl rfl rfl rfl ?_
            refine zq_ifeq (pc' := 90) rfl rfl rfl rfl (And.intro (fun c => ?_) (fun c => ?_))
            · have H := H.1 c
              refine zq_ipush (pc' := 95) rfl rfl rfl ?_
              obtain ⟨h39, e0, H⟩ := H
              refine zq_iast (pc' := 96) rfl rfl rfl e0 ?_
              refine zq_aload (pc' := 97) rfl rfl rfl rfl ?_
              refine zq_dup (pc' := 98) rfl rfl rfl rfl ?_
              obtain ⟨x40, e0, H⟩ := H
              refine zq_getI (pc' := 101) rfl rfl rfl e0 ?_
              refine zq_ipush (pc' := 102) rfl rfl rfl ?_
              refine zq_iadd (pc' := 103) rfl rfl rfl ?_
              obtain ⟨h41, e0, H⟩ := H
              refine zq_put (pc' := 106) rfl rfl rfl trivial e0 ?_
              refine zq_aload (pc' := 107) rfl rfl rfl rfl ?_
              obtain ⟨x42, e0, H⟩ := H
              refine zq_getI (pc' := 110) rfl rfl rfl e0 ?_
              exact zq_iret rfl trivial H
            · have H := H.2 c
              refine zq_ipush (pc' := 91) rfl rfl rfl ?_
              refine zq_goto (pc' := 95) rfl rfl rfl ?_
              obtain ⟨h43, e0, H⟩ := H
              refine zq_iast (pc' := 96) rfl rfl rfl e0 ?_
              refine zq_aload (pc' := 97) rfl rfl rfl rfl ?_
              refine zq_dup (pc' := 98) rfl rfl rfl rfl ?_
              obtain ⟨x44, e0, H⟩ := H
              refine zq_getI (pc' := 101) rfl rfl rfl e0 ?_
              refine zq_ipush (pc' := 102) rfl rfl rfl ?_
              refine zq_iadd (pc' := 103) rfl rfl rfl ?_
              obtain ⟨h45, e0, H⟩ := H
              refine zq_put (pc' := 106) rfl rfl rfl trivial e0 ?_
              refine zq_aload (pc' := 107) rfl rfl rfl rfl ?_
              obtain ⟨x46, e0, H⟩ := H
              refine zq_getI (pc' := 110) rfl rfl rfl e0 ?_
              exact zq_iret rfl trivial H
        · exact H
  · exact H
theorem zr_X8_isAsSeen_0 {d : Nat} {Q : zR → zH → Prop} {p0 : Nat} {h : zH} (H :
    ∃ a1 : Nat, zgf h p0 8 46 = some (.ref a1) ∧
    zE d 249 [.ref p0, .ref a1, .int 0] h (fun r3 h2 => match r3 with
      | .inl v4 => v4 = none ∧ zW (zE d) zm_X8_isAsSeen Q (13, [(0, .ref p0), (1, .int 0), (2, .int 0)], [], h2)
      | .inr e5 => Q (.inr e5) h2)) : zW (zE d) zm_X8_isAsSeen Q (0, [(0, .ref p0)], [], h) := by
  refine zq_aload (pc' := 1) rfl rfl rfl rfl ?_
  refine zq_aload (pc' := 2) rfl rfl rfl rfl ?_
  obtain ⟨a1, e0, H⟩ := H
  refine zq_getR (pc' := 5) rfl rfl rfl e0 ?_
  refine zq_ipush (pc' := 6) rfl rfl rfl ?_
  refine zq_callv (pc' := 9) rfl rfl rfl rfl rfl rfl (zE_mono H (fun r3 h2 H => ?_))
  rcases r3 with v4 | e5
  · obtain ⟨e0, H⟩ := H
    refine And.intro e0 ?_
    refine zq_ipush (pc' := 10) rfl rfl rfl ?_
    refine zq_istore (pc' := 11) rfl rfl rfl ?_
    refine zq_ipush (pc' := 12) rfl rfl rfl ?_
    refine zq_istore_c (pc' := 13) rfl rfl ?_
    exact H
  · exact H
theorem zr_X8_isAsSeen_13 {d : Nat} {Q : zR → zH → Prop} {l0 : Nat} {l1 : Int32} {l2 : Int32} {h : zH} (H :
    ∃ x1 : Int32, zgf h l0 8 33 = some (.int x1) ∧
    zbr (x1 ≤ l2)
    (zW (zE d) zm_X8_isAsSeen Q (42, [(0, .ref l0), (1, .int l1), (2, .int 1), (3, .int 0)], [], h))
    (∃ a2 : Nat, zgf h l0 8 44 = some (.ref a2) ∧
      ∃ x3, zia h a2 l2 = some x3 ∧
      zE d 2 [.int l1, .int x3] h (fun r5 h4 => match r5 with
        | .inl v6 => ∃ x8 : Int32, v6 = some (.int x8) ∧ zW (zE d) zm_X8_isAsSeen Q (13, [(0, .ref l0), (1, .int x8), (2, .int (l2 + 1))], [], h4)
        | .inr e7 => Q (.inr e7) h4))) : zW (zE d) zm_X8_isAsSeen Q (13, [(0, .ref l0), (1, .int l1), (2, .int l2)], [], h) := by
  refine zq_iload (pc' := 14) rfl rfl rfl rfl ?_
  refine zq_aload (pc' := 15) rfl rfl rfl rfl ?_
  obtain ⟨x1, e0, H⟩ := H
  refine zq_getI (pc' := 18) rfl rfl rfl e0 ?_
  refine zq_icge (pc' := 21) rfl rfl rfl rfl (And.intro (fun c => ?_) (fun c => ?_))
  · have H := H.1 c
    refine zq_ipush (pc' := 39) rfl rfl rfl ?_
    refine zq_istore (pc' := 40) rfl rfl rfl ?_
    refine zq_ipush (pc' := 41) rfl rfl rfl ?_
    refine zq_istore_c (pc' := 42) rfl rfl ?_
    exact H
  · have H := H.2 c
    refine zq_iload (pc' := 22) rfl rfl rfl rfl ?_
    refine zq_aload (pc' := 23) rfl rfl rfl rfl ?_
    obtain ⟨a2, e0, H⟩ := H
    refine zq_getR (pc' := 26) rfl rfl rfl e0 ?_
    refine zq_iload (pc' := 27) rfl rfl rfl rfl ?_
    obtain ⟨x3, e0, H⟩ := H
    refine zq_iald (pc' := 28) rfl rfl rfl e0 ?_
    refine zq_calli (pc' := 31) rfl rfl rfl rfl rfl rfl (zE_mono H (fun r5 h4 H => ?_))
    rcases r5 with v6 | e7
    · obtain ⟨x8, e0, H⟩ := H
      refine Exists.intro x8 (And.intro e0 ?_)
      refine zq_istore (pc' := 32) rfl rfl rfl ?_
      refine zq_iinc (pc' := 35) rfl rfl rfl rfl ?_
      refine zq_goto_c (pc' := 13) rfl rfl ?_
      exact H
    · exact H
theorem zr_X8_isAsSeen_42 {d : Nat} {Q : zR → zH → Prop} {l0 : Nat} {l1 : Int32} {l2 : Int32} {l3 : Int32} {h : zH} (H :
    zbr (l1 < l3)
    (∃ a1 : Nat, zgf h l0 8 46 = some (.ref a1) ∧
      zE d 250 [.ref l0, .ref a1, .int 0] h (fun r3 h2 => match r3 with
        | .inl v4 => v4 = none ∧ (l2 = 0 ∨ l2 = 1) ∧ Q (.inl (some (.int l2))) h2
        | .inr e5 => Q (.inr e5) h2))
    (zbr (l2 = 0)
      (∃ a6 : Nat, zgf h l0 8 46 = some (.ref a6) ∧
        zE d 250 [.ref l0, .ref a6, .int 0] h (fun r8 h7 => match r8 with
          | .inl v9 => v9 = none ∧ (l2 = 0 ∨ l2 = 1) ∧ Q (.inl (some (.int l2))) h7
          | .inr e10 => Q (.inr e10) h7))
      (zW (zE d) zm_X8_isAsSeen Q (54, [(0, .ref l0), (1, .int l1), (2, .int l2), (3, .int l3), (4, .int 0)], [], h)))) : zW (zE d) zm_X8_isAsSeen Q (42, [(0, .ref l0), (1, .int l1), (2, .int l2), (3, .int l3)], [], h) := by
  refine zq_iload (pc' := 43) rfl rfl rfl rfl ?_
  refine zq_iload (pc' := 44) rfl rfl rfl rfl ?_
  refine zq_icgt (pc' := 47) rfl rfl rfl rfl (And.intro (fun c => ?_) (fun c => ?_))
  · have H := H.1 c
    refine zq_aload (pc' := 143) rfl rfl rfl rfl ?_
    refine zq_aload (pc' := 144) rfl rfl rfl rfl ?_
    obtain ⟨a1, e0, H⟩ := H
    refine zq_getR (pc' := 147) rfl rfl rfl e0 ?_
    refine zq_ipush (pc' := 148) rfl rfl rfl ?_
    refine zq_callv (pc' := 151) rfl rfl rfl rfl rfl rfl (zE_mono H (fun r3 h2 H => ?_))
    rcases r3 with v4 | e5
    · obtain ⟨e0, H⟩ := H
      refine And.intro e0 ?_
      refine zq_iload (pc' := 152) rfl rfl rfl rfl ?_
      exact zq_iret rfl H.1 H.2
    · exact H
  · have H := H.2 c
    refine zq_iload (pc' := 48) rfl rfl rfl rfl ?_
    refine zq_ifeq (pc' := 51) rfl rfl rfl rfl (And.intro (fun c => ?_) (fun c => ?_))
    · have H := H.1 c
      refine zq_aload (pc' := 143) rfl rfl rfl rfl ?_
      refine zq_aload (pc' := 144) rfl rfl rfl rfl ?_
      obtain ⟨a6, e0, H⟩ := H
      refine zq_getR (pc' := 147) rfl rfl rfl e0 ?_
      refine zq_ipush (pc' := 148) rfl rfl rfl ?_
      refine zq_callv (pc' := 151) rfl rfl rfl rfl rfl rfl (zE_mono H (fun r8 h7 H => ?_))
      rcases r8 with v9 | e10
      · obtain ⟨e0, H⟩ := H
        refine And.intro e0 ?_
        refine zq_iload (pc' := 152) rfl rfl rfl rfl ?_
        exact zq_iret rfl H.1 H.2
      · exact H
    · have H := H.2 c
      refine zq_ipush (pc' := 52) rfl rfl rfl ?_
      refine zq_istore_c (pc' := 54) rfl rfl ?_
      exact H
theorem zr_X8_isAsSeen_54 {d : Nat} {Q : zR → zH → Prop} {l0 : Nat} {l1 : Int32} {l2 : Int32} {l3 : Int32} {l4 : Int32} {h : zH} (H :
    ∃ x1 : Int32, zgf h l0 8 33 = some (.int x1) ∧
    zbr (x1 ≤ l4)
    (zE d 265 [.ref l0, .int 1] h (fun r3 h2 => match r3 with
        | .inl v4 => v4 = none ∧ zW (zE d) zm_X8_isAsSeen Q (42, [(0, .ref l0), (1, .int l1), (2, .int l2), (3, .int (l3 + 1))], [], h2)
        | .inr e5 => Q (.inr e5) h2))
    (zbr (l2 = 0)
      (zW (zE d) zm_X8_isAsSeen Q (54, [(0, .ref l0), (1, .int l1), (2, .int 0), (3, .int l3), (4, .int (l4 + 1))], [], h))
      (∃ a6 : Nat, zgf h l0 8 44 = some (.ref a6) ∧
        ∃ x7, zia h a6 l4 = some x7 ∧
        zbr (x7 = l3)
        (∃ a8 : Nat, zgf h l0 8 29 = some (.ref a8) ∧
          ∃ a9 : Nat, zgf h l0 8 42 = some (.ref a9) ∧
          ∃ x10, zia h a9 l4 = some x10 ∧
          ∃ x11, zia h a8 x10 = some x11 ∧
          ∃ a12 : Nat, zgf h l0 8 43 = some (.ref a12) ∧
          ∃ x13, zia h a12 l4 = some x13 ∧
          zE d 218 [.int x11, .int x13] h (fun r15 h14 => match r15 with
            | .inl v16 => ∃ x18 : Int32, v16 = some (.int x18) ∧ ∃ a19 : Nat, zgf h14 l0 8 45 = some (.ref a19) ∧
              ∃ x20, zia h14 a19 l4 = some x20 ∧
              zbr (x20 = 1)
              (zbr (x18 = 1)
                (zW (zE d) zm_X8_isAsSeen Q (54, [(0, .ref l0), (1, .int l1), (2, .int 1), (3, .int l3), (4, .int (l4 + 1))], [], h14))
                (zW (zE d) zm_X8_isAsSeen Q (54, [(0, .ref l0), (1, .int l1), (2, .int 0), (3, .int l3), (4, .int (l4 + 1))], [], h14)))
              (zbr (x18 = 0)
                (zW (zE d) zm_X8_isAsSeen Q (54, [(0, .ref l0), (1, .int l1), (2, .int 1), (3, .int l3), (4, .int (l4 + 1))], [], h14))
                (zW (zE d) zm_X8_isAsSeen Q (54, [(0, .ref l0), (1, .int l1), (2, .int 0), (3, .int l3), (4, .int (l4 + 1))], [], h14)))
            | .inr e17 => Q (.inr e17) h14))
        (zW (zE d) zm_X8_isAsSeen Q (54, [(0, .ref l0), (1, .int l1), (2, .int 1), (3, .int l3), (4, .int (l4 + 1))], [], h))))) : zW (zE d) zm_X8_isAsSeen Q (54, [(0, .ref l0), (1, .int l1), (2, .int l2), (3, .int l3), (4, .int l4)], [], h) := by
  refine zq_iload (pc' := 56) rfl rfl rfl rfl ?_
  refine zq_aload (pc' := 57) rfl rfl rfl rfl ?_
  obtain ⟨x1, e0, H⟩ := H
  refine zq_getI (pc' := 60) rfl rfl rfl e0 ?_
  refine zq_icge (pc' := 63) rfl rfl rfl rfl (And.intro (fun c => ?_) (fun c => ?_))
  · have H := H.1 c
    refine zq_aload (pc' := 132) rfl rfl rfl rfl ?_
    refine zq_ipush (pc' := 133) rfl rfl rfl ?_
    refine zq_callv (pc' := 136) rfl rfl rfl rfl rfl rfl (zE_mono H (fun r3 h2 H => ?_))
    rcases r3 with v4 | e5
    · obtain ⟨e0, H⟩ := H
      refine And.intro e0 ?_
      refine zq_iinc (pc' := 139) rfl rfl rfl rfl ?_
      refine zq_goto_c (pc' := 42) rfl rfl ?_
      exact H
    · exact H
  · have H := H.2 c
    refine zq_iload (pc' := 64) rfl rfl rfl rfl ?_
    refine zq_ifeq (pc' := 67) rfl rfl rfl rfl (And.intro (fun c => ?_) (fun c => ?_))
    · have H := H.1 c
      refine zq_ipush (pc' := 124) rfl rfl rfl ?_
      refine zq_istore (pc' := 125) rfl rfl rfl ?_
      refine zq_iinc (pc' := 128) rfl rfl rfl rfl ?_
      refine zq_goto_c (pc' := 54) rfl rfl ?_
      exact H
    · have H := H.2 c
      refine zq_aload (pc' := 68) rfl rfl rfl rfl ?_
      obtain ⟨a6, e0, H⟩ := H
      refine zq_getR (pc' := 71) rfl rfl rfl e0 ?_
      refine zq_iload (pc' := 73) rfl rfl rfl rfl ?_
      obtain ⟨x7, e0, H⟩ := H
      refine zq_iald (pc' := 74) rfl rfl rfl e0 ?_
      refine zq_iload (pc' := 75) rfl rfl rfl rfl ?_
      refine zq_icne (pc' := 78) rfl rfl rfl rfl (And.intro (fun c => ?_) (fun c => ?_))
      · have H := H.1 c
        refine zq_aload (pc' := 79) rfl rfl rfl rfl ?_
        obtain ⟨a8, e0, H⟩ := H
        refine zq_getR (pc' := 82) rfl rfl rfl e0 ?_
        refine zq_aload (pc' := 83) rfl rfl rfl rfl ?_
        obtain ⟨a9, e0, H⟩ := H
        refine zq_getR (pc' := 86) rfl rfl rfl e0 ?_
        refine zq_iload (pc' := 88) rfl rfl rfl rfl ?_
        obtain ⟨x10, e0, H⟩ := H
        refine zq_iald (pc' := 89) rfl rfl rfl e0 ?_
        obtain ⟨x11, e0, H⟩ := H
        refine zq_iald (pc' := 90) rfl rfl rfl e0 ?_
        refine zq_aload (pc' := 91) rfl rfl rfl rfl ?_
        obtain ⟨a12, e0, H⟩ := H
        refine zq_getR (pc' := 94) rfl rfl rfl e0 ?_
        refine zq_iload (pc' := 96) rfl rfl rfl rfl ?_
        obtain ⟨x13, e0, H⟩ := H
        refine zq_iald (pc' := 97) rfl rfl rfl e0 ?_
        refine zq_calli (pc' := 100) rfl rfl rfl rfl rfl rfl (zE_mono H (fun r15 h14 H => ?_))
        rcases r15 with v16 | e17
        · obtain ⟨x18, e0, H⟩ := H
          refine Exists.intro x18 (And.intro e0 ?_)
          refine zq_aload (pc' := 101) rfl rfl rfl rfl ?_
          obtain ⟨a19, e0, H⟩ := H
          refine zq_getR (pc' := 104) rfl rfl rfl e0 ?_
          refine zq_iload (pc' := 106) rfl rfl rfl rfl ?_
          obtain ⟨x20, e0, H⟩ := H
          refine zq_iald (pc' := 107) rfl rfl rfl e0 ?_
          refine zq_ipush (pc' := 108) rfl rfl rfl ?_
          refine zq_icne (pc' := 111) rfl rfl rfl rfl (And.intro (fun c => ?_) (fun c => ?_))
          · have H := H.1 c
            refine zq_ipush (pc' := 112) rfl rfl rfl ?_
            refine zq_goto (pc' := 116) rfl rfl rfl ?_
            refine zq_icne (pc' := 119) rfl rfl rfl rfl (And.intro (fun c => ?_) (fun c => ?_))
            · have H := H.1 c
              refine zq_ipush (pc' := 120) rfl rfl rfl ?_
              refine zq_goto (pc' := 124) rfl rfl rfl ?_
              refine zq_istore (pc' := 125) rfl rfl rfl ?_
              refine zq_iinc (pc' := 128) rfl rfl rfl rfl ?_
              refine zq_goto_c (pc' := 54) rfl rfl ?_
              exact H
            · have H := H.2 c
              refine zq_ipush (pc' := 124) rfl rfl rfl ?_
              refine zq_istore (pc' := 125) rfl rfl rfl ?_
              refine zq_iinc (pc' := 128) rfl rfl rfl rfl ?_
              refine zq_goto_c (pc' := 54) rfl rfl ?_
              exact H
          · have H := H.2 c
            refine zq_ipush (pc' := 116) rfl rfl rfl ?_
            refine zq_icne (pc' := 119) rfl rfl rfl rfl (And.intro (fun c => ?_) (fun c => ?_))
            · have H := H.1 c
              refine zq_ipush (pc' := 120) rfl rfl rfl ?_
              refine zq_goto (pc' := 124) rfl rfl rfl ?_
              refine zq_istore (pc' := 125) rfl rfl rfl ?_
              refine zq_iinc (pc' := 128) rfl rfl rfl rfl ?_
              refine zq_goto_c (pc' := 54) rfl rfl ?_
              exact H
            · have H := H.2 c
              refine zq_ipush (pc' := 124) rfl rfl rfl ?_
              refine zq_istore (pc' := 125) rfl rfl rfl ?_
              refine zq_iinc (pc' := 128) rfl rfl rfl rfl ?_
              refine zq_goto_c (pc' := 54) rfl rfl ?_
              exact H
        · exact H
      · have H := H.2 c
        refine zq_ipush (pc' := 120) rfl rfl rfl ?_
        refine zq_goto (pc' := 124) rfl rfl rfl ?_
        refine zq_istore (pc' := 125) rfl rfl rfl ?_
        refine zq_iinc (pc' := 128) rfl rfl rfl rfl ?_
        refine zq_goto_c (pc' := 54) rfl rfl ?_
        exact H
theorem zr_X8_tellFits_0 {d : Nat} {Q : zR → zH → Prop} {p0 : Nat} {h : zH} (H :
    ∃ h1, zpf h p0 8 49 (.int 0) = some h1 ∧
    zW (zE d) zm_X8_tellFits Q (7, [(0, .ref p0), (1, .int 0)], [], h1)) : zW (zE d) zm_X8_tellFits Q (0, [(0, .ref p0)], [], h) := by
  refine zq_aload (pc' := 1) rfl rfl rfl rfl ?_
  refine zq_ipush (pc' := 2) rfl rfl rfl ?_
  obtain ⟨h1, e0, H⟩ := H
  refine zq_put (pc' := 5) rfl rfl rfl trivial e0 ?_
  refine zq_ipush (pc' := 6) rfl rfl rfl ?_
  refine zq_istore_c (pc' := 7) rfl rfl ?_
  exact H
theorem zr_X8_tellFits_7 {d : Nat} {Q : zR → zH → Prop} {l0 : Nat} {l1 : Int32} {h : zH} (H :
    ∃ a1 : Nat, zgf h l0 8 5 = some (.ref a1) ∧
    ∃ x2, zia h a1 1 = some x2 ∧
    zbr (x2 ≤ l1)
    (Q (.inl none) h)
    (∃ a3 : Nat, zgf h l0 8 10 = some (.ref a3) ∧
      ∃ x4, zia h a3 l1 = some x4 ∧
      zW (zE d) zm_X8_tellFits Q (26, [(0, .ref l0), (1, .int l1), (2, .int x4), (3, .int 0)], [], h))) : zW (zE d) zm_X8_tellFits Q (7, [(0, .ref l0), (1, .int l1)], [], h) := by
  refine zq_iload (pc' := 8) rfl rfl rfl rfl ?_
  refine zq_aload (pc' := 9) rfl rfl rfl rfl ?_
  obtain ⟨a1, e0, H⟩ := H
  refine zq_getR (pc' := 12) rfl rfl rfl e0 ?_
  refine zq_ipush (pc' := 13) rfl rfl rfl ?_
  obtain ⟨x2, e0, H⟩ := H
  refine zq_iald (pc' := 14) rfl rfl rfl e0 ?_
  refine zq_icge (pc' := 17) rfl rfl rfl rfl (And.intro (fun c => ?_) (fun c => ?_))
  · have H := H.1 c
    exact zq_vret rfl H
  · have H := H.2 c
    refine zq_aload (pc' := 18) rfl rfl rfl rfl ?_
    obtain ⟨a3, e0, H⟩ := H
    refine zq_getR (pc' := 21) rfl rfl rfl e0 ?_
    refine zq_iload (pc' := 22) rfl rfl rfl rfl ?_
    obtain ⟨x4, e0, H⟩ := H
    refine zq_iald (pc' := 23) rfl rfl rfl e0 ?_
    refine zq_istore (pc' := 24) rfl rfl rfl ?_
    refine zq_ipush (pc' := 25) rfl rfl rfl ?_
    refine zq_istore_c (pc' := 26) rfl rfl ?_
    exact H
theorem zr_X8_tellFits_26 {d : Nat} {Q : zR → zH → Prop} {l0 : Nat} {l1 : Int32} {l2 : Int32} {l3 : Int32} {h : zH} (H :
    zbr (9 < l3)
    (∃ a1 : Nat, zgf h l0 8 10 = some (.ref a1) ∧
      ∃ h2, zis h a1 l1 l2 = some h2 ∧
      zW (zE d) zm_X8_tellFits Q (7, [(0, .ref l0), (1, .int (l1 + 1))], [], h2))
    (∃ a3 : Nat, zgf h l0 8 10 = some (.ref a3) ∧
      ∃ h4, zis h a3 l1 l3 = some h4 ∧
      zbr (l3 = l2)
      (zW (zE d) zm_X8_tellFits Q (26, [(0, .ref l0), (1, .int l1), (2, .int l2), (3, .int (l3 + 1))], [], h4))
      (zE d 318 [.ref l0] h4 (fun r6 h5 => match r6 with
          | .inl v7 => ∃ x9 : Int32, v7 = some (.int x9) ∧ zbr (x9 = 0)
            (zW (zE d) zm_X8_tellFits Q (26, [(0, .ref l0), (1, .int l1), (2, .int l2), (3, .int (l3 + 1))], [], h5))
            (∃ a10 : Nat, zgf h5 l0 8 47 = some (.ref a10) ∧
              ∃ x11 : Int32, zgf h5 l0 8 49 = some (.int x11) ∧
              ∃ h12, zis h5 a10 x11 ((10 * l1) + l3) = some h12 ∧
              ∃ x13 : Int32, zgf h12 l0 8 49 = some (.int x13) ∧
              ∃ h14, zpf h12 l0 8 49 (.int (x13 + 1)) = some h14 ∧
              zW (zE d) zm_X8_tellFits Q (26, [(0, .ref l0), (1, .int l1), (2, .int l2), (3, .int (l3 + 1))], [], h14))
          | .inr e8 => Q (.inr e8) h5)))) : zW (zE d) zm_X8_tellFits Q (26, [(0, .ref l0), (1, .int l1), (2, .int l2), (3, .int l3)], [], h) := by
  refine zq_iload (pc' := 27) rfl rfl rfl rfl ?_
  refine zq_ipush (pc' := 29) rfl rfl rfl ?_
  refine zq_icgt (pc' := 32) rfl rfl rfl rfl (And.intro (fun c => ?_) (fun c => ?_))
  · have H := H.1 c
    refine zq_aload (pc' := 86) rfl rfl rfl rfl ?_
    obtain ⟨a1, e0, H⟩ := H
    refine zq_getR (pc' := 89) rfl rfl rfl e0 ?_
    refine zq_iload (pc' := 90) rfl rfl rfl rfl ?_
    refine zq_iload (pc' := 91) rfl rfl rfl rfl ?_
    obtain ⟨h2, e0, H⟩ := H
    refine zq_iast (pc' := 92) rfl rfl rfl e0 ?_
    refine zq_iinc (pc' := 95) rfl rfl rfl rfl ?_
    refine zq_goto_c (pc' := 7) rfl rfl ?_
    exact H
  · have H := H.2 c
    refine zq_aload (pc' := 33) rfl rfl rfl rfl ?_
    obtain ⟨a3, e0, H⟩ := H
    refine zq_getR (pc' := 36) rfl rfl rfl e0 ?_
    refine zq_iload (pc' := 37) rfl rfl rfl rfl ?_
    refine zq_iload (pc' := 38) rfl rfl rfl rfl ?_
    obtain ⟨h4, e0, H⟩ := H
    refine zq_iast (pc' := 39) rfl rfl rfl e0 ?_
    refine zq_iload (pc' := 40) rfl rfl rfl rfl ?_
    refine zq_iload (pc' := 41) rfl rfl rfl rfl ?_
    refine zq_iceq (pc' := 44) rfl rfl rfl rfl (And.intro (fun c => ?_) (fun c => ?_))
    · have H := H.1 c
      refine zq_iinc (pc' := 82) rfl rfl rfl rfl ?_
      refine zq_goto_c (pc' := 26) rfl rfl ?_
      exact H
    · have H := H.2 c
      refine zq_aload (pc' := 45) rfl rfl rfl rfl ?_
      refine zq_calli (pc' := 48) rfl rfl rfl rfl rfl rfl (zE_mono H (fun r6 h5 H => ?_))
      rcases r6 with v7 | e8
      · obtain ⟨x9, e0, H⟩ := H
        refine Exists.intro x9 (And.intro e0 ?_)
        refine zq_ifne (pc' := 51) rfl rfl rfl rfl (And.intro (fun c => ?_) (fun c => ?_))
        · have H := H.1 c
          refine zq_goto (pc' := 79) rfl rfl rfl ?_
          refine zq_iinc (pc' := 82) rfl rfl rfl rfl ?_
          refine zq_goto_c (pc' := 26) rfl rfl ?_
          exact H
        · have H := H.2 c
          refine zq_aload (pc' := 55) rfl rfl rfl rfl ?_
          obtain ⟨a10, e0, H⟩ := H
          refine zq_getR (pc' := 58) rfl rfl rfl e0 ?_
          refine zq_aload (pc' := 59) rfl rfl rfl rfl ?_
          obtain ⟨x11, e0, H⟩ := H
          refine zq_getI (pc' := 62) rfl rfl rfl e0 ?_
          refine zq_ipush (pc' := 64) rfl rfl rfl ?_
          refine zq_iload (pc' := 65) rfl rfl rfl rfl ?_
          refine zq_imul (pc' := 66) rfl rfl rfl ?_
          refine zq_iload (pc' := 67) rfl rfl rfl rfl ?_
          refine zq_iadd (pc' := 68) rfl rfl rfl ?_
          obtain ⟨h12, e0, H⟩ := H
          refine zq_iast (pc' := 69) rfl rfl rfl e0 ?_
          refine zq_aload (pc' := 70) rfl rfl rfl rfl ?_
          refine zq_dup (pc' := 71) rfl rfl rfl rfl ?_
          obtain ⟨x13, e0, H⟩ := H
          refine zq_getI (pc' := 74) rfl rfl rfl e0 ?_
          refine zq_ipush (pc' := 75) rfl rfl rfl ?_
          refine zq_iadd (pc' := 76) rfl rfl rfl ?_
          obtain ⟨h14, e0, H⟩ := H
          refine zq_put (pc' := 79) rfl rfl rfl trivial e0 ?_
          refine zq_iinc (pc' := 82) rfl rfl rfl rfl ?_
          refine zq_goto_c (pc' := 26) rfl rfl ?_
          exact H
      · exact H
theorem zr_X8_forced_0 {d : Nat} {Q : zR → zH → Prop} {p0 : Nat} {p1 : Int32} {h : zH} (H :
    ∃ h1, zpf h p0 8 4 (.int 0) = some h1 ∧
    zE d 217 [.long ((p1 : Int32).toInt64), .long 0, .long 2] h1 (fun r3 h2 => match r3 with
      | .inl v4 => ∃ x6 : Int32, v4 = some (.int x6) ∧ zbr (x6 = 0)
        (zE d 215 [.ref p0, .int 1] h2 (fun r8 h7 => match r8 with
            | .inl v9 => ∃ x11 : Int32, v9 = some (.int x11) ∧ Q (.inl (some (.int x11))) h7
            | .inr e10 => Q (.inr e10) h7))
        (zbr (p1 = 2)
          (zE d 318 [.ref p0] h2 (fun r13 h12 => match r13 with
              | .inl v14 => ∃ x16 : Int32, v14 = some (.int x16) ∧ zbr (x16 = 0)
                (Q (.inl (some (.int 0))) h12)
                (Q (.inl (some (.int 1))) h12)
              | .inr e15 => Q (.inr e15) h12))
          (zE d 319 [.ref p0] h2 (fun r18 h17 => match r18 with
              | .inl v19 => v19 = none ∧ zbr (p1 = 0)
                (∃ x21 : Int32, zgf h17 p0 8 49 = some (.int x21) ∧
                  Q (.inl (some (.int x21))) h17)
                (∃ x22 : Int32, zgf h17 p0 8 49 = some (.int x22) ∧
                  zbr (x22 = 0)
                  (Q (.inl (some (.int (-1)))) h17)
                  (∃ a23 : Nat, zgf h17 p0 8 47 = some (.ref a23) ∧
                    ∃ x24, zia h17 a23 0 = some x24 ∧
                    Q (.inl (some (.int x24))) h17))
              | .inr e20 => Q (.inr e20) h17)))
      | .inr e5 => Q (.inr e5) h2)) : zW (zE d) zm_X8_forced Q (0, [(0, .ref p0), (1, .int p1)], [], h) := by
  refine zq_aload (pc' := 1) rfl rfl rfl rfl ?_
  refine zq_ipush (pc' := 2) rfl rfl rfl ?_
  obtain ⟨h1, e0, H⟩ := H
  refine zq_put (pc' := 5) rfl rfl rfl trivial e0 ?_
  refine zq_iload (pc' := 6) rfl rfl rfl rfl ?_
  refine zq_i2l (pc' := 7) rfl rfl rfl ?_
  refine zq_lpush (pc' := 8) rfl rfl rfl ?_
  refine zq_lpush (pc' := 11) rfl rfl rfl ?_
  refine zq_calli (pc' := 14) rfl rfl rfl rfl rfl rfl (zE_mono H (fun r3 h2 H => ?_))
  rcases r3 with v4 | e5
  · obtain ⟨x6, e0, H⟩ := H
    refine Exists.intro x6 (And.intro e0 ?_)
    refine zq_ifne (pc' := 17) rfl rfl rfl rfl (And.intro (fun c => ?_) (fun c => ?_))
    · have H := H.1 c
      refine zq_aload (pc' := 18) rfl rfl rfl rfl ?_
      refine zq_ipush (pc' := 19) rfl rfl rfl ?_
      refine zq_calli (pc' := 22) rfl rfl rfl rfl rfl rfl (zE_mono H (fun r8 h7 H => ?_))
      rcases r8 with v9 | e10
      · obtain ⟨x11, e0, H⟩ := H
        refine Exists.intro x11 (And.intro e0 ?_)
        exact zq_iret rfl trivial H
      · exact H
    · have H := H.2 c
      refine zq_iload (pc' := 24) rfl rfl rfl rfl ?_
      refine zq_ipush (pc' := 25) rfl rfl rfl ?_
      refine zq_icne (pc' := 28) rfl rfl rfl rfl (And.intro (fun c => ?_) (fun c => ?_))
      · have H := H.1 c
        refine zq_aload (pc' := 29) rfl rfl rfl rfl ?_
        refine zq_calli (pc' := 32) rfl rfl rfl rfl rfl rfl (zE_mono H (fun r13 h12 H => ?_))
        rcases r13 with v14 | e15
        · obtain ⟨x16, e0, H⟩ := H
          refine Exists.intro x16 (And.intro e0 ?_)
          refine zq_ifeq (pc' := 35) rfl rfl rfl rfl (And.intro (fun c => ?_) (fun c => ?_))
          · have H := H.1 c
            refine zq_ipush (pc' := 40) rfl rfl rfl ?_
            exact zq_iret rfl trivial H
          · have H := H.2 c
            refine zq_ipush (pc' := 36) rfl rfl rfl ?_
            refine zq_goto (pc' := 40) rfl rfl rfl ?_
            exact zq_iret rfl trivial H
        · exact H
      · have H := H.2 c
        refine zq_aload (pc' := 42) rfl rfl rfl rfl ?_
        refine zq_callv (pc' := 45) rfl rfl rfl rfl rfl rfl (zE_mono H (fun r18 h17 H => ?_))
        rcases r18 with v19 | e20
        · obtain ⟨e0, H⟩ := H
          refine And.intro e0 ?_
          refine zq_iload (pc' := 46) rfl rfl rfl rfl ?_
          refine zq_ifne (pc' := 49) rfl rfl rfl rfl (And.intro (fun c => ?_) (fun c => ?_))
          · have H := H.1 c
            refine zq_aload (pc' := 50) rfl rfl rfl rfl ?_
            obtain ⟨x21, e0, H⟩ := H
            refine zq_getI (pc' := 53) rfl rfl rfl e0 ?_
            refine zq_goto (pc' := 73) rfl rfl rfl ?_
            exact zq_iret rfl trivial H
          · have H := H.2 c
            refine zq_aload (pc' := 57) rfl rfl rfl rfl ?_
            obtain ⟨x22, e0, H⟩ := H
            refine zq_getI (pc' := 60) rfl rfl rfl e0 ?_
            refine zq_ifne (pc' := 63) rfl rfl rfl rfl (And.intro (fun c => ?_) (fun c => ?_))
            · have H := H.1 c
              refine zq_ipushn (pc' := 64) rfl rfl rfl ?_
              refine zq_goto (pc' := 73) rfl rfl rfl ?_
              exact zq_iret rfl trivial H
            · have H := H.2 c
              refine zq_aload (pc' := 68) rfl rfl rfl rfl ?_
              obtain ⟨a23, e0, H⟩ := H
              refine zq_getR (pc' := 71) rfl rfl rfl e0 ?_
              refine zq_ipush (pc' := 72) rfl rfl rfl ?_
              obtain ⟨x24, e0, H⟩ := H
              refine zq_iald (pc' := 73) rfl rfl rfl e0 ?_
              exact zq_iret rfl trivial H
        · exact H
  · exact H
theorem zr_X8_look_0 {d : Nat} {Q : zR → zH → Prop} {p0 : Nat} {p1 : Int32} {h : zH} (H :
    ∃ h1, zpf h p0 8 4 (.int 0) = some h1 ∧
    zE d 217 [.long ((p1 : Int32).toInt64), .long 0, .long 1] h1 (fun r3 h2 => match r3 with
      | .inl v4 => ∃ x6 : Int32, v4 = some (.int x6) ∧ zbr (x6 = 0)
        (zE d 215 [.ref p0, .int 1] h2 (fun r8 h7 => match r8 with
            | .inl v9 => ∃ x11 : Int32, v9 = some (.int x11) ∧ Q (.inl (some (.int x11))) h7
            | .inr e10 => Q (.inr e10) h7))
        (zE d 319 [.ref p0] h2 (fun r13 h12 => match r13 with
            | .inl v14 => v14 = none ∧ ∃ a16 : Nat, zgf h12 p0 8 39 = some (.ref a16) ∧
              zE d 249 [.ref p0, .ref a16, .int 0] h12 (fun r18 h17 => match r18 with
                | .inl v19 => v19 = none ∧ zW (zE d) zm_X8_look Q (36, [(0, .ref p0), (1, .int p1), (2, .int 0)], [], h17)
                | .inr e20 => Q (.inr e20) h17)
            | .inr e15 => Q (.inr e15) h12))
      | .inr e5 => Q (.inr e5) h2)) : zW (zE d) zm_X8_look Q (0, [(0, .ref p0), (1, .int p1)], [], h) := by
  refine zq_aload (pc' := 1) rfl rfl rfl rfl ?_
  refine zq_ipush (pc' := 2) rfl rfl rfl ?_
  obtain ⟨h1, e0, H⟩ := H
  refine zq_put (pc' := 5) rfl rfl rfl trivial e0 ?_
  refine zq_iload (pc' := 6) rfl rfl rfl rfl ?_
  refine zq_i2l (pc' := 7) rfl rfl rfl ?_
  refine zq_lpush (pc' := 8) rfl rfl rfl ?_
  refine zq_lpush (pc' := 9) rfl rfl rfl ?_
  refine zq_calli (pc' := 12) rfl rfl rfl rfl rfl rfl (zE_mono H (fun r3 h2 H => ?_))
  rcases r3 with v4 | e5
  · obtain ⟨x6, e0, H⟩ := H
    refine Exists.intro x6 (And.intro e0 ?_)
    refine zq_ifne (pc' := 15) rfl rfl rfl rfl (And.intro (fun c => ?_) (fun c => ?_))
    · have H := H.1 c
      refine zq_aload (pc' := 16) rfl rfl rfl rfl ?_
      refine zq_ipush (pc' := 17) rfl rfl rfl ?_
      refine zq_calli (pc' := 20) rfl rfl rfl rfl rfl rfl (zE_mono H (fun r8 h7 H => ?_))
      rcases r8 with v9 | e10
      · obtain ⟨x11, e0, H⟩ := H
        refine Exists.intro x11 (And.intro e0 ?_)
        exact zq_iret rfl trivial H
      · exact H
    · have H := H.2 c
      refine zq_aload (pc' := 22) rfl rfl rfl rfl ?_
      refine zq_callv (pc' := 25) rfl rfl rfl rfl rfl rfl (zE_mono H (fun r13 h12 H => ?_))
      rcases r13 with v14 | e15
      · obtain ⟨e0, H⟩ := H
        refine And.intro e0 ?_
        refine zq_aload (pc' := 26) rfl rfl rfl rfl ?_
        refine zq_aload (pc' := 27) rfl rfl rfl rfl ?_
        obtain ⟨a16, e0, H⟩ := H
        refine zq_getR (pc' := 30) rfl rfl rfl e0 ?_
        refine zq_ipush (pc' := 31) rfl rfl rfl ?_
        refine zq_callv (pc' := 34) rfl rfl rfl rfl rfl rfl (zE_mono H (fun r18 h17 H => ?_))
        rcases r18 with v19 | e20
        · obtain ⟨e0, H⟩ := H
          refine And.intro e0 ?_
          refine zq_ipush (pc' := 35) rfl rfl rfl ?_
          refine zq_istore_c (pc' := 36) rfl rfl ?_
          exact H
        · exact H
      · exact H
  · exact H
theorem zr_X8_look_36 {d : Nat} {Q : zR → zH → Prop} {l0 : Nat} {l1 : Int32} {l2 : Int32} {h : zH} (H :
    zbr (4 ≤ l2)
    (zW (zE d) zm_X8_look Q (56, [(0, .ref l0), (1, .int l1), (2, .int 0)], [], h))
    (∃ a1 : Nat, zgf h l0 8 48 = some (.ref a1) ∧
      ∃ h2, zis h a1 l2 0 = some h2 ∧
      zW (zE d) zm_X8_look Q (36, [(0, .ref l0), (1, .int l1), (2, .int (l2 + 1))], [], h2))) : zW (zE d) zm_X8_look Q (36, [(0, .ref l0), (1, .int l1), (2, .int l2)], [], h) := by
  refine zq_iload (pc' := 37) rfl rfl rfl rfl ?_
  refine zq_ipush (pc' := 38) rfl rfl rfl ?_
  refine zq_icge (pc' := 41) rfl rfl rfl rfl (And.intro (fun c => ?_) (fun c => ?_))
  · have H := H.1 c
    refine zq_ipush (pc' := 55) rfl rfl rfl ?_
    refine zq_istore_c (pc' := 56) rfl rfl ?_
    exact H
  · have H := H.2 c
    refine zq_aload (pc' := 42) rfl rfl rfl rfl ?_
    obtain ⟨a1, e0, H⟩ := H
    refine zq_getR (pc' := 45) rfl rfl rfl e0 ?_
    refine zq_iload (pc' := 46) rfl rfl rfl rfl ?_
    refine zq_ipush (pc' := 47) rfl rfl rfl ?_
    obtain ⟨h2, e0, H⟩ := H
    refine zq_iast (pc' := 48) rfl rfl rfl e0 ?_
    refine zq_iinc (pc' := 51) rfl rfl rfl rfl ?_
    refine zq_goto_c (pc' := 36) rfl rfl ?_
    exact H
theorem zr_X8_look_56 {d : Nat} {Q : zR → zH → Prop} {l0 : Nat} {l1 : Int32} {l2 : Int32} {h : zH} (H :
    ∃ x1 : Int32, zgf h l0 8 49 = some (.int x1) ∧
    zbr (x1 ≤ l2)
    (zW (zE d) zm_X8_look Q (175, [(0, .ref l0), (1, .int l1), (2, .int (-1)), (3, .int 0), (4, .int 0)], [], h))
    (∃ a2 : Nat, zgf h l0 8 47 = some (.ref a2) ∧
      ∃ x3, zia h a2 l2 = some x3 ∧
      ∃ a4 : Nat, zgf h l0 8 10 = some (.ref a4) ∧
      ∃ x5, zia h a4 (x3 / 10) = some x5 ∧
      ∃ a6 : Nat, zgf h l0 8 10 = some (.ref a6) ∧
      ∃ a7 : Nat, zgf h l0 8 47 = some (.ref a7) ∧
      ∃ x8, zia h a7 l2 = some x8 ∧
      ∃ h9, zis h a6 (x3 / 10) (x8 - x8 / 10 * 10) = some h9 ∧
      zE d 265 [.ref l0, .int 6] h9 (fun r11 h10 => match r11 with
        | .inl v12 => v12 = none ∧ zW (zE d) zm_X8_look Q (106, [(0, .ref l0), (1, .int l1), (2, .int l2), (3, .int (x3 / 10)), (4, .int x5), (5, .int 0)], [], h10)
        | .inr e13 => Q (.inr e13) h10))) : zW (zE d) zm_X8_look Q (56, [(0, .ref l0), (1, .int l1), (2, .int l2)], [], h) := by
  refine zq_iload (pc' := 57) rfl rfl rfl rfl ?_
  refine zq_aload (pc' := 58) rfl rfl rfl rfl ?_
  obtain ⟨x1, e0, H⟩ := H
  refine zq_getI (pc' := 61) rfl rfl rfl e0 ?_
  refine zq_icge (pc' := 64) rfl rfl rfl rfl (And.intro (fun c => ?_) (fun c => ?_))
  · have H := H.1 c
    refine zq_ipushn (pc' := 169) rfl rfl rfl ?_
    refine zq_istore (pc' := 170) rfl rfl rfl ?_
    refine zq_ipush (pc' := 171) rfl rfl rfl ?_
    refine zq_istore (pc' := 172) rfl rfl rfl ?_
    refine zq_ipush (pc' := 173) rfl rfl rfl ?_
    refine zq_istore_c (pc' := 175) rfl rfl ?_
    exact H
  · have H := H.2 c
    refine zq_aload (pc' := 65) rfl rfl rfl rfl ?_
    obtain ⟨a2, e0, H⟩ := H
    refine zq_getR (pc' := 68) rfl rfl rfl e0 ?_
    refine zq_iload (pc' := 69) rfl rfl rfl rfl ?_
    obtain ⟨x3, e0, H⟩ := H
    refine zq_iald (pc' := 70) rfl rfl rfl e0 ?_
    refine zq_ipush (pc' := 72) rfl rfl rfl ?_
    refine zq_idiv (pc' := 73) rfl rfl rfl (by decide) ?_
    refine zq_istore (pc' := 74) rfl rfl rfl ?_
    refine zq_aload (pc' := 75) rfl rfl rfl rfl ?_
    obtain ⟨a4, e0, H⟩ := H
    refine zq_getR (pc' := 78) rfl rfl rfl e0 ?_
    refine zq_iload (pc' := 79) rfl rfl rfl rfl ?_
    obtain ⟨x5, e0, H⟩ := H
    refine zq_iald (pc' := 80) rfl rfl rfl e0 ?_
    refine zq_istore (pc' := 82) rfl rfl rfl ?_
    refine zq_aload (pc' := 83) rfl rfl rfl rfl ?_
    obtain ⟨a6, e0, H⟩ := H
    refine zq_getR (pc' := 86) rfl rfl rfl e0 ?_
    refine zq_iload (pc' := 87) rfl rfl rfl rfl ?_
    refine zq_aload (pc' := 88) rfl rfl rfl rfl ?_
    obtain ⟨a7, e0, H⟩ := H
    refine zq_getR (pc' := 91) rfl rfl rfl e0 ?_
    refine zq_iload (pc' := 92) rfl rfl rfl rfl ?_
    obtain ⟨x8, e0, H⟩ := H
    refine zq_iald (pc' := 93) rfl rfl rfl e0 ?_
    refine zq_ipush (pc' := 95) rfl rfl rfl ?_
    refine zq_irem (pc' := 96) rfl rfl rfl (by decide) ?_
    obtain ⟨h9, e0, H⟩ := H
    refine zq_iast (pc' := 97) rfl rfl rfl e0 ?_
    refine zq_aload (pc' := 98) rfl rfl rfl rfl ?_
    refine zq_ipush (pc' := 100) rfl rfl rfl ?_
    refine zq_callv (pc' := 103) rfl rfl rfl rfl rfl rfl (zE_mono H (fun r11 h10 H => ?_))
    rcases r11 with v12 | e13
    · obtain ⟨e0, H⟩ := H
      refine And.intro e0 ?_
      refine zq_ipush (pc' := 104) rfl rfl rfl ?_
      refine zq_istore_c (pc' := 106) rfl rfl ?_
      exact H
    · exact H
theorem zr_X8_look_106 {d : Nat} {Q : zR → zH → Prop} {l0 : Nat} {l1 : Int32} {l2 : Int32} {l3 : Int32} {l4 : Int32} {l5 : Int32} {h : zH} (H :
    ∃ a1 : Nat, zgf h l0 8 5 = some (.ref a1) ∧
    ∃ x2, zia h a1 0 = some x2 ∧
    zbr (x2 ≤ l5)
    (∃ a3 : Nat, zgf h l0 8 10 = some (.ref a3) ∧
      ∃ h4, zis h a3 l3 l4 = some h4 ∧
      ∃ a5 : Nat, zgf h4 l0 8 39 = some (.ref a5) ∧
      zE d 250 [.ref l0, .ref a5, .int 0] h4 (fun r7 h6 => match r7 with
        | .inl v8 => v8 = none ∧ zW (zE d) zm_X8_look Q (56, [(0, .ref l0), (1, .int l1), (2, .int (l2 + 1))], [], h6)
        | .inr e9 => Q (.inr e9) h6))
    (∃ a10 : Nat, zgf h l0 8 48 = some (.ref a10) ∧
      ∃ x11, zia h a10 l5 = some x11 ∧
      ∃ a12 : Nat, zgf h l0 8 29 = some (.ref a12) ∧
      ∃ x13, zia h a12 l5 = some x13 ∧
      zE d 219 [.int x13] h (fun r15 h14 => match r15 with
        | .inl v16 => ∃ x18 : Int32, v16 = some (.int x18) ∧ ∃ h19, zis h14 a10 l5 (x11 ||| (1 <<< (x18 &&& 31))) = some h19 ∧
          zW (zE d) zm_X8_look Q (106, [(0, .ref l0), (1, .int l1), (2, .int l2), (3, .int l3), (4, .int l4), (5, .int (l5 + 1))], [], h19)
        | .inr e17 => Q (.inr e17) h14))) : zW (zE d) zm_X8_look Q (106, [(0, .ref l0), (1, .int l1), (2, .int l2), (3, .int l3), (4, .int l4), (5, .int l5)], [], h) := by
  refine zq_iload (pc' := 108) rfl rfl rfl rfl ?_
  refine zq_aload (pc' := 109) rfl rfl rfl rfl ?_
  obtain ⟨a1, e0, H⟩ := H
  refine zq_getR (pc' := 112) rfl rfl rfl e0 ?_
  refine zq_ipush (pc' := 113) rfl rfl rfl ?_
  obtain ⟨x2, e0, H⟩ := H
  refine zq_iald (pc' := 114) rfl rfl rfl e0 ?_
  refine zq_icge (pc' := 117) rfl rfl rfl rfl (And.intro (fun c => ?_) (fun c => ?_))
  · have H := H.1 c
    refine zq_aload (pc' := 146) rfl rfl rfl rfl ?_
    obtain ⟨a3, e0, H⟩ := H
    refine zq_getR (pc' := 149) rfl rfl rfl e0 ?_
    refine zq_iload (pc' := 150) rfl rfl rfl rfl ?_
    refine zq_iload (pc' := 152) rfl rfl rfl rfl ?_
    obtain ⟨h4, e0, H⟩ := H
    refine zq_iast (pc' := 153) rfl rfl rfl e0 ?_
    refine zq_aload (pc' := 154) rfl rfl rfl rfl ?_
    refine zq_aload (pc' := 155) rfl rfl rfl rfl ?_
    obtain ⟨a5, e0, H⟩ := H
    refine zq_getR (pc' := 158) rfl rfl rfl e0 ?_
    refine zq_ipush (pc' := 159) rfl rfl rfl ?_
    refine zq_callv (pc' := 162) rfl rfl rfl rfl rfl rfl (zE_mono H (fun r7 h6 H => ?_))
    rcases r7 with v8 | e9
    · obtain ⟨e0, H⟩ := H
      refine And.intro e0 ?_
      refine zq_iinc (pc' := 165) rfl rfl rfl rfl ?_
      refine zq_goto_c (pc' := 56) rfl rfl ?_
      exact H
    · exact H
  · have H := H.2 c
    refine zq_aload (pc' := 118) rfl rfl rfl rfl ?_
    obtain ⟨a10, e0, H⟩ := H
    refine zq_getR (pc' := 121) rfl rfl rfl e0 ?_
    refine zq_iload (pc' := 123) rfl rfl rfl rfl ?_
    refine zq_dup2 (pc' := 124) rfl rfl rfl rfl rfl ?_
    obtain ⟨x11, e0, H⟩ := H
    refine zq_iald (pc' := 125) rfl rfl rfl e0 ?_
    refine zq_ipush (pc' := 126) rfl rfl rfl ?_
    refine zq_aload (pc' := 127) rfl rfl rfl rfl ?_
    obtain ⟨a12, e0, H⟩ := H
    refine zq_getR (pc' := 130) rfl rfl rfl e0 ?_
    refine zq_iload (pc' := 132) rfl rfl rfl rfl ?_
    obtain ⟨x13, e0, H⟩ := H
    refine zq_iald (pc' := 133) rfl rfl rfl e0 ?_
    refine zq_calli (pc' := 136) rfl rfl rfl rfl rfl rfl (zE_mono H (fun r15 h14 H => ?_))
    rcases r15 with v16 | e17
    · obtain ⟨x18, e0, H⟩ := H
      refine Exists.intro x18 (And.intro e0 ?_)
      refine zq_ishl (pc' := 137) rfl rfl rfl ?_
      refine zq_ior (pc' := 138) rfl rfl rfl ?_
      obtain ⟨h19, e0, H⟩ := H
      refine zq_iast (pc' := 139) rfl rfl rfl e0 ?_
      refine zq_iinc (pc' := 142) rfl rfl rfl rfl ?_
      refine zq_goto_c (pc' := 106) rfl rfl ?_
      exact H
    · exact H
theorem zr_X8_look_175 {d : Nat} {Q : zR → zH → Prop} {l0 : Nat} {l1 : Int32} {l2 : Int32} {l3 : Int32} {l4 : Int32} {h : zH} (H :
    ∃ a1 : Nat, zgf h l0 8 5 = some (.ref a1) ∧
    ∃ x2, zia h a1 0 = some x2 ∧
    zbr (x2 ≤ l4)
    (zbr (l1 = 0)
      (Q (.inl (some (.int l2))) h)
      (Q (.inl (some (.int l3))) h))
    (∃ a3 : Nat, zgf h l0 8 48 = some (.ref a3) ∧
      ∃ x4, zia h a3 l4 = some x4 ∧
      zE d 219 [.int x4] h (fun r6 h5 => match r6 with
        | .inl v7 => ∃ x9 : Int32, v7 = some (.int x9) ∧ zbr (l3 < x9)
          (∃ a10 : Nat, zgf h5 l0 8 48 = some (.ref a10) ∧
            ∃ x11, zia h5 a10 l4 = some x11 ∧
            zE d 219 [.int x11] h5 (fun r13 h12 => match r13 with
              | .inl v14 => ∃ x16 : Int32, v14 = some (.int x16) ∧ zW (zE d) zm_X8_look Q (175, [(0, .ref l0), (1, .int l1), (2, .int l4), (3, .int x16), (4, .int (l4 + 1))], [], h12)
              | .inr e15 => Q (.inr e15) h12))
          (zW (zE d) zm_X8_look Q (175, [(0, .ref l0), (1, .int l1), (2, .int l2), (3, .int l3), (4, .int (l4 + 1))], [], h5))
        | .inr e8 => Q (.inr e8) h5))) : zW (zE d) zm_X8_look Q (175, [(0, .ref l0), (1, .int l1), (2, .int l2), (3, .int l3), (4, .int l4)], [], h) := by
  refine zq_iload (pc' := 177) rfl rfl rfl rfl ?_
  refine zq_aload (pc' := 178) rfl rfl rfl rfl ?_
  obtain ⟨a1, e0, H⟩ := H
  refine zq_getR (pc' := 181) rfl rfl rfl e0 ?_
  refine zq_ipush (pc' := 182) rfl rfl rfl ?_
  obtain ⟨x2, e0, H⟩ := H
  refine zq_iald (pc' := 183) rfl rfl rfl e0 ?_
  refine zq_icge (pc' := 186) rfl rfl rfl rfl (And.intro (fun c => ?_) (fun c => ?_))
  · have H := H.1 c
    refine zq_iload (pc' := 224) rfl rfl rfl rfl ?_
    refine zq_ifne (pc' := 227) rfl rfl rfl rfl (And.intro (fun c => ?_) (fun c => ?_))
    · have H := H.1 c
      refine zq_iload (pc' := 228) rfl rfl rfl rfl ?_
      refine zq_goto (pc' := 232) rfl rfl rfl ?_
      exact zq_iret rfl trivial H
    · have H := H.2 c
      refine zq_iload (pc' := 232) rfl rfl rfl rfl ?_
      exact zq_iret rfl trivial H
  · have H := H.2 c
    refine zq_aload (pc' := 187) rfl rfl rfl rfl ?_
    obtain ⟨a3, e0, H⟩ := H
    refine zq_getR (pc' := 190) rfl rfl rfl e0 ?_
    refine zq_iload (pc' := 192) rfl rfl rfl rfl ?_
    obtain ⟨x4, e0, H⟩ := H
    refine zq_iald (pc' := 193) rfl rfl rfl e0 ?_
    refine zq_calli (pc' := 196) rfl rfl rfl rfl rfl rfl (zE_mono H (fun r6 h5 H => ?_))
    rcases r6 with v7 | e8
    · obtain ⟨x9, e0, H⟩ := H
      refine Exists.intro x9 (And.intro e0 ?_)
      refine zq_iload (pc' := 197) rfl rfl rfl rfl ?_
      refine zq_icgt (pc' := 200) rfl rfl rfl rfl (And.intro (fun c => ?_) (fun c => ?_))
      · have H := H.1 c
        refine zq_iload (pc' := 205) rfl rfl rfl rfl ?_
        refine zq_istore (pc' := 206) rfl rfl rfl ?_
        refine zq_aload (pc' := 207) rfl rfl rfl rfl ?_
        obtain ⟨a10, e0, H⟩ := H
        refine zq_getR (pc' := 210) rfl rfl rfl e0 ?_
        refine zq_iload (pc' := 212) rfl rfl rfl rfl ?_
        obtain ⟨x11, e0, H⟩ := H
        refine zq_iald (pc' := 213) rfl rfl rfl e0 ?_
        refine zq_calli (pc' := 216) rfl rfl rfl rfl rfl rfl (zE_mono H (fun r13 h12 H => ?_))
        rcases r13 with v14 | e15
        · obtain ⟨x16, e0, H⟩ := H
          refine Exists.intro x16 (And.intro e0 ?_)
          refine zq_istore (pc' := 217) rfl rfl rfl ?_
          refine zq_iinc (pc' := 220) rfl rfl rfl rfl ?_
          refine zq_goto_c (pc' := 175) rfl rfl ?_
          exact H
        · exact H
      · have H := H.2 c
        refine zq_goto (pc' := 217) rfl rfl rfl ?_
        refine zq_iinc (pc' := 220) rfl rfl rfl rfl ?_
        refine zq_goto_c (pc' := 175) rfl rfl ?_
        exact H
    · exact H
theorem zr_X8_forget_0 {d : Nat} {Q : zR → zH → Prop} {p0 : Nat} {h : zH} (H :
    ∃ h1, zpf h p0 8 4 (.int 0) = some h1 ∧
    ∃ h2, zpf h1 p0 8 33 (.int 0) = some h2 ∧
    Q (.inl none) h2) : zW (zE d) zm_X8_forget Q (0, [(0, .ref p0)], [], h) := by
  refine zq_aload (pc' := 1) rfl rfl rfl rfl ?_
  refine zq_ipush (pc' := 2) rfl rfl rfl ?_
  obtain ⟨h1, e0, H⟩ := H
  refine zq_put (pc' := 5) rfl rfl rfl trivial e0 ?_
  refine zq_aload (pc' := 6) rfl rfl rfl rfl ?_
  refine zq_ipush (pc' := 7) rfl rfl rfl ?_
  obtain ⟨h2, e0, H⟩ := H
  refine zq_put (pc' := 10) rfl rfl rfl trivial e0 ?_
  exact zq_vret rfl H
theorem zr_X8_wind_0 {d : Nat} {Q : zR → zH → Prop} {p0 : Nat} {p1 : Int32} {p2 : Int32} {p3 : Int32} {p4 : Int32} {h : zH} (H :
    ∃ h1, zpf h p0 8 4 (.int 0) = some h1 ∧
    zE d 221 [.ref p0, .int p1, .int p2] h1 (fun r3 h2 => match r3 with
      | .inl v4 => ∃ x6 : Int32, v4 = some (.int x6) ∧ zbr (x6 = 0)
        (zE d 215 [.ref p0, .int 1] h2 (fun r8 h7 => match r8 with
            | .inl v9 => ∃ x11 : Int32, v9 = some (.int x11) ∧ Q (.inl (some (.int x11))) h7
            | .inr e10 => Q (.inr e10) h7))
        (zE d 217 [.long ((p3 : Int32).toInt64), .long 1, .long 5] h2 (fun r13 h12 => match r13 with
            | .inl v14 => ∃ x16 : Int32, v14 = some (.int x16) ∧ zbr (x16 = 0)
              (zE d 215 [.ref p0, .int 2] h12 (fun r18 h17 => match r18 with
                  | .inl v19 => ∃ x21 : Int32, v19 = some (.int x21) ∧ Q (.inl (some (.int x21))) h17
                  | .inr e20 => Q (.inr e20) h17))
              (zE d 217 [.long ((p4 : Int32).toInt64), .long 0, .long 10] h12 (fun r23 h22 => match r23 with
                  | .inl v24 => ∃ x26 : Int32, v24 = some (.int x26) ∧ zbr (x26 = 0)
                    (zE d 215 [.ref p0, .int 2] h22 (fun r28 h27 => match r28 with
                        | .inl v29 => ∃ x31 : Int32, v29 = some (.int x31) ∧ Q (.inl (some (.int x31))) h27
                        | .inr e30 => Q (.inr e30) h27))
                    (∃ a32 : Nat, zgf h22 p0 8 39 = some (.ref a32) ∧
                      zE d 249 [.ref p0, .ref a32, .int 0] h22 (fun r34 h33 => match r34 with
                        | .inl v35 => v35 = none ∧ zW (zE d) zm_X8_wind Q (66, [(0, .ref p0), (1, .int p1), (2, .int p2), (3, .int p3), (4, .int p4), (5, .int 0), (6, .int 0)], [], h33)
                        | .inr e36 => Q (.inr e36) h33))
                  | .inr e25 => Q (.inr e25) h22))
            | .inr e15 => Q (.inr e15) h12))
      | .inr e5 => Q (.inr e5) h2)) : zW (zE d) zm_X8_wind Q (0, [(0, .ref p0), (1, .int p1), (2, .int p2), (3, .int p3), (4, .int p4)], [], h) := by
  refine zq_aload (pc' := 1) rfl rfl rfl rfl ?_
  refine zq_ipush (pc' := 2) rfl rfl rfl ?_
  obtain ⟨h1, e0, H⟩ := H
  refine zq_put (pc' := 5) rfl rfl rfl trivial e0 ?_
  refine zq_aload (pc' := 6) rfl rfl rfl rfl ?_
  refine zq_iload (pc' := 7) rfl rfl rfl rfl ?_
  refine zq_iload (pc' := 8) rfl rfl rfl rfl ?_
  refine zq_calli (pc' := 11) rfl rfl rfl rfl rfl rfl (zE_mono H (fun r3 h2 H => ?_))
  rcases r3 with v4 | e5
  · obtain ⟨x6, e0, H⟩ := H
    refine Exists.intro x6 (And.intro e0 ?_)
    refine zq_ifne (pc' := 14) rfl rfl rfl rfl (And.intro (fun c => ?_) (fun c => ?_))
    · have H := H.1 c
      refine zq_aload (pc' := 15) rfl rfl rfl rfl ?_
      refine zq_ipush (pc' := 16) rfl rfl rfl ?_
      refine zq_calli (pc' := 19) rfl rfl rfl rfl rfl rfl (zE_mono H (fun r8 h7 H => ?_))
      rcases r8 with v9 | e10
      · obtain ⟨x11, e0, H⟩ := H
        refine Exists.intro x11 (And.intro e0 ?_)
        exact zq_iret rfl trivial H
      · exact H
    · have H := H.2 c
      refine zq_iload (pc' := 21) rfl rfl rfl rfl ?_
      refine zq_i2l (pc' := 22) rfl rfl rfl ?_
      refine zq_lpush (pc' := 23) rfl rfl rfl ?_
      refine zq_lpush (pc' := 26) rfl rfl rfl ?_
      refine zq_calli (pc' := 29) rfl rfl rfl rfl rfl rfl (zE_mono H (fun r13 h12 H => ?_))
      rcases r13 with v14 | e15
      · obtain ⟨x16, e0, H⟩ := H
        refine Exists.intro x16 (And.intro e0 ?_)
        refine zq_ifeq (pc' := 32) rfl rfl rfl rfl (And.intro (fun c => ?_) (fun c => ?_))
        · have H := H.1 c
          refine zq_aload (pc' := 46) rfl rfl rfl rfl ?_
          refine zq_ipush (pc' := 47) rfl rfl rfl ?_
          refine zq_calli (pc' := 50) rfl rfl rfl rfl rfl rfl (zE_mono H (fun r18 h17 H => ?_))
          rcases r18 with v19 | e20
          · obtain ⟨x21, e0, H⟩ := H
            refine Exists.intro x21 (And.intro e0 ?_)
            exact zq_iret rfl trivial H
          · exact H
        · have H := H.2 c
          refine zq_iload (pc' := 34) rfl rfl rfl rfl ?_
          refine zq_i2l (pc' := 35) rfl rfl rfl ?_
          refine zq_lpush (pc' := 36) rfl rfl rfl ?_
          refine zq_lpush (pc' := 39) rfl rfl rfl ?_
          refine zq_calli (pc' := 42) rfl rfl rfl rfl rfl rfl (zE_mono H (fun r23 h22 H => ?_))
          rcases r23 with v24 | e25
          · obtain ⟨x26, e0, H⟩ := H
            refine Exists.intro x26 (And.intro e0 ?_)
            refine zq_ifne (pc' := 45) rfl rfl rfl rfl (And.intro (fun c => ?_) (fun c => ?_))
            · have H := H.1 c
              refine zq_aload (pc' := 46) rfl rfl rfl rfl ?_
              refine zq_ipush (pc' := 47) rfl rfl rfl ?_
              refine zq_calli (pc' := 50) rfl rfl rfl rfl rfl rfl (zE_mono H (fun r28 h27 H => ?_))
              rcases r28 with v29 | e30
              · obtain ⟨x31, e0, H⟩ := H
                refine Exists.intro x31 (And.intro e0 ?_)
                exact zq_iret rfl trivial H
              · exact H
            · have H := H.2 c
              refine zq_ipush (pc' := 52) rfl rfl rfl ?_
              refine zq_istore (pc' := 54) rfl rfl rfl ?_
              refine zq_aload (pc' := 55) rfl rfl rfl rfl ?_
              refine zq_aload (pc' := 56) rfl rfl rfl rfl ?_
              obtain ⟨a32, e0, H⟩ := H
              refine zq_getR (pc' := 59) rfl rfl rfl e0 ?_
              refine zq_ipush (pc' := 60) rfl rfl rfl ?_
              refine zq_callv (pc' := 63) rfl rfl rfl rfl rfl rfl (zE_mono H (fun r34 h33 H => ?_))
              rcases r34 with v35 | e36
              · obtain ⟨e0, H⟩ := H
                refine And.intro e0 ?_
                refine zq_ipush (pc' := 64) rfl rfl rfl ?_
                refine zq_istore_c (pc' := 66) rfl rfl ?_
                exact H
              · exact H
          · exact H
      · exact H
  · exact H
theorem zr_X8_wind_66 {d : Nat} {Q : zR → zH → Prop} {l0 : Nat} {l1 : Int32} {l2 : Int32} {l3 : Int32} {l4 : Int32} {l5 : Int32} {l6 : Int32} {h : zH} (H :
    zbr ((1 <<< (l3 &&& 31)) ≤ l6)
    (Q (.inl (some (.int l5))) h)
    (zW (zE d) zm_X8_wind Q (80, [(0, .ref l0), (1, .int l1), (2, .int l2), (3, .int l3), (4, .int l4), (5, .int l5), (6, .int l6), (7, .int 1), (8, .int 0)], [], h))) : zW (zE d) zm_X8_wind Q (66, [(0, .ref l0), (1, .int l1), (2, .int l2), (3, .int l3), (4, .int l4), (5, .int l5), (6, .int l6)], [], h) := by
  refine zq_iload (pc' := 68) rfl rfl rfl rfl ?_
  refine zq_ipush (pc' := 69) rfl rfl rfl ?_
  refine zq_iload (pc' := 70) rfl rfl rfl rfl ?_
  refine zq_ishl (pc' := 71) rfl rfl rfl ?_
  refine zq_icge (pc' := 74) rfl rfl rfl rfl (And.intro (fun c => ?_) (fun c => ?_))
  · have H := H.1 c
    refine zq_iload (pc' := 178) rfl rfl rfl rfl ?_
    exact zq_iret rfl trivial H
  · have H := H.2 c
    refine zq_ipush (pc' := 75) rfl rfl rfl ?_
    refine zq_istore (pc' := 77) rfl rfl rfl ?_
    refine zq_ipush (pc' := 78) rfl rfl rfl ?_
    refine zq_istore_c (pc' := 80) rfl rfl ?_
    exact H
theorem zr_X8_wind_80 {d : Nat} {Q : zR → zH → Prop} {l0 : Nat} {l1 : Int32} {l2 : Int32} {l3 : Int32} {l4 : Int32} {l5 : Int32} {l6 : Int32} {l7 : Int32} {l8 : Int32} {h : zH} (H :
    zbr (l3 ≤ l8)
    (∃ a1 : Nat, zgf h l0 8 29 = some (.ref a1) ∧
      ∃ x2, zia h a1 l1 = some x2 ∧
      zE d 218 [.int x2, .int l2] h (fun r4 h3 => match r4 with
        | .inl v5 => ∃ x7 : Int32, v5 = some (.int x7) ∧ zbr (x7 = 0)
          (∃ a8 : Nat, zgf h3 l0 8 39 = some (.ref a8) ∧
            zE d 250 [.ref l0, .ref a8, .int 0] h3 (fun r10 h9 => match r10 with
              | .inl v11 => v11 = none ∧ zW (zE d) zm_X8_wind Q (66, [(0, .ref l0), (1, .int l1), (2, .int l2), (3, .int l3), (4, .int l4), (5, .int (l5 + 0)), (6, .int (l6 + 1))], [], h9)
              | .inr e12 => Q (.inr e12) h9))
          (∃ a13 : Nat, zgf h3 l0 8 39 = some (.ref a13) ∧
            zE d 250 [.ref l0, .ref a13, .int 0] h3 (fun r15 h14 => match r15 with
              | .inl v16 => v16 = none ∧ zW (zE d) zm_X8_wind Q (66, [(0, .ref l0), (1, .int l1), (2, .int l2), (3, .int l3), (4, .int l4), (5, .int (l5 + l7)), (6, .int (l6 + 1))], [], h14)
              | .inr e17 => Q (.inr e17) h14))
        | .inr e6 => Q (.inr e6) h3))
    (zE d 218 [.int l6, .int l8] h (fun r19 h18 => match r19 with
        | .inl v20 => ∃ x22 : Int32, v20 = some (.int x22) ∧ zbr (x22 = 0)
          (zE d 218 [.int l6, .int l8] h18 (fun r24 h23 => match r24 with
              | .inl v25 => ∃ x27 : Int32, v25 = some (.int x27) ∧ zbr (x27 = 0)
                (zE d 264 [.ref l0, .int 0] h23 (fun r29 h28 => match r29 with
                    | .inl v30 => v30 = none ∧ zW (zE d) zm_X8_wind Q (80, [(0, .ref l0), (1, .int l1), (2, .int l2), (3, .int l3), (4, .int l4), (5, .int l5), (6, .int l6), (7, .int (l7 * (10 - l4))), (8, .int (l8 + 1))], [], h28)
                    | .inr e31 => Q (.inr e31) h28))
                (zE d 264 [.ref l0, .int 9] h23 (fun r33 h32 => match r33 with
                    | .inl v34 => v34 = none ∧ zW (zE d) zm_X8_wind Q (80, [(0, .ref l0), (1, .int l1), (2, .int l2), (3, .int l3), (4, .int l4), (5, .int l5), (6, .int l6), (7, .int (l7 * (10 - l4))), (8, .int (l8 + 1))], [], h32)
                    | .inr e35 => Q (.inr e35) h32))
              | .inr e26 => Q (.inr e26) h23))
          (zE d 218 [.int l6, .int l8] h18 (fun r37 h36 => match r37 with
              | .inl v38 => ∃ x40 : Int32, v38 = some (.int x40) ∧ zbr (x40 = 0)
                (zE d 264 [.ref l0, .int 0] h36 (fun r42 h41 => match r42 with
                    | .inl v43 => v43 = none ∧ zW (zE d) zm_X8_wind Q (80, [(0, .ref l0), (1, .int l1), (2, .int l2), (3, .int l3), (4, .int l4), (5, .int l5), (6, .int l6), (7, .int (l7 * l4)), (8, .int (l8 + 1))], [], h41)
                    | .inr e44 => Q (.inr e44) h41))
                (zE d 264 [.ref l0, .int 9] h36 (fun r46 h45 => match r46 with
                    | .inl v47 => v47 = none ∧ zW (zE d) zm_X8_wind Q (80, [(0, .ref l0), (1, .int l1), (2, .int l2), (3, .int l3), (4, .int l4), (5, .int l5), (6, .int l6), (7, .int (l7 * l4)), (8, .int (l8 + 1))], [], h45)
                    | .inr e48 => Q (.inr e48) h45))
              | .inr e39 => Q (.inr e39) h36))
        | .inr e21 => Q (.inr e21) h18))) : zW (zE d) zm_X8_wind Q (80, [(0, .ref l0), (1, .int l1), (2, .int l2), (3, .int l3), (4, .int l4), (5, .int l5), (6, .int l6), (7, .int l7), (8, .int l8)], [], h) := by
  refine zq_iload (pc' := 82) rfl rfl rfl rfl ?_
  refine zq_iload (pc' := 83) rfl rfl rfl rfl ?_
  refine zq_icge (pc' := 86) rfl rfl rfl rfl (And.intro (fun c => ?_) (fun c => ?_))
  · have H := H.1 c
    refine zq_iload (pc' := 139) rfl rfl rfl rfl ?_
    refine zq_aload (pc' := 140) rfl rfl rfl rfl ?_
    obtain ⟨a1, e0, H⟩ := H
    refine zq_getR (pc' := 143) rfl rfl rfl e0 ?_
    refine zq_iload (pc' := 144) rfl rfl rfl rfl ?_
    obtain ⟨x2, e0, H⟩ := H
    refine zq_iald (pc' := 145) rfl rfl rfl e0 ?_
    refine zq_iload (pc' := 146) rfl rfl rfl rfl ?_
    refine zq_calli (pc' := 149) rfl rfl rfl rfl rfl rfl (zE_mono H (fun r4 h3 H => ?_))
    rcases r4 with v5 | e6
    · obtain ⟨x7, e0, H⟩ := H
      refine Exists.intro x7 (And.intro e0 ?_)
      refine zq_ifeq (pc' := 152) rfl rfl rfl rfl (And.intro (fun c => ?_) (fun c => ?_))
      · have H := H.1 c
        refine zq_ipush (pc' := 158) rfl rfl rfl ?_
        refine zq_iadd (pc' := 159) rfl rfl rfl ?_
        refine zq_istore (pc' := 161) rfl rfl rfl ?_
        refine zq_aload (pc' := 162) rfl rfl rfl rfl ?_
        refine zq_aload (pc' := 163) rfl rfl rfl rfl ?_
        obtain ⟨a8, e0, H⟩ := H
        refine zq_getR (pc' := 166) rfl rfl rfl e0 ?_
        refine zq_ipush (pc' := 167) rfl rfl rfl ?_
        refine zq_callv (pc' := 170) rfl rfl rfl rfl rfl rfl (zE_mono H (fun r10 h9 H => ?_))
        rcases r10 with v11 | e12
        · obtain ⟨e0, H⟩ := H
          refine And.intro e0 ?_
          refine zq_iinc (pc' := 173) rfl rfl rfl rfl ?_
          refine zq_goto_c (pc' := 66) rfl rfl ?_
          exact H
        · exact H
      · have H := H.2 c
        refine zq_iload (pc' := 154) rfl rfl rfl rfl ?_
        refine zq_goto (pc' := 158) rfl rfl rfl ?_
        refine zq_iadd (pc' := 159) rfl rfl rfl ?_
        refine zq_istore (pc' := 161) rfl rfl rfl ?_
        refine zq_aload (pc' := 162) rfl rfl rfl rfl ?_
        refine zq_aload (pc' := 163) rfl rfl rfl rfl ?_
        obtain ⟨a13, e0, H⟩ := H
        refine zq_getR (pc' := 166) rfl rfl rfl e0 ?_
        refine zq_ipush (pc' := 167) rfl rfl rfl ?_
        refine zq_callv (pc' := 170) rfl rfl rfl rfl rfl rfl (zE_mono H (fun r15 h14 H => ?_))
        rcases r15 with v16 | e17
        · obtain ⟨e0, H⟩ := H
          refine And.intro e0 ?_
          refine zq_iinc (pc' := 173) rfl rfl rfl rfl ?_
          refine zq_goto_c (pc' := 66) rfl rfl ?_
          exact H
        · exact H
    · exact H
  · have H := H.2 c
    refine zq_iload (pc' := 88) rfl rfl rfl rfl ?_
    refine zq_iload (pc' := 90) rfl rfl rfl rfl ?_
    refine zq_iload (pc' := 92) rfl rfl rfl rfl ?_
    refine zq_calli (pc' := 95) rfl rfl rfl rfl rfl rfl (zE_mono H (fun r19 h18 H => ?_))
    rcases r19 with v20 | e21
    · obtain ⟨x22, e0, H⟩ := H
      refine Exists.intro x22 (And.intro e0 ?_)
      refine zq_ifeq (pc' := 98) rfl rfl rfl rfl (And.intro (fun c => ?_) (fun c => ?_))
      · have H := H.1 c
        refine zq_ipush (pc' := 105) rfl rfl rfl ?_
        refine zq_iload (pc' := 107) rfl rfl rfl rfl ?_
        refine zq_isub (pc' := 108) rfl rfl rfl ?_
        refine zq_imul (pc' := 109) rfl rfl rfl ?_
        refine zq_istore (pc' := 111) rfl rfl rfl ?_
        refine zq_aload (pc' := 112) rfl rfl rfl rfl ?_
        refine zq_iload (pc' := 114) rfl rfl rfl rfl ?_
        refine zq_iload (pc' := 116) rfl rfl rfl rfl ?_
        refine zq_calli (pc' := 119) rfl rfl rfl rfl rfl rfl (zE_mono H (fun r24 h23 H => ?_))
        rcases r24 with v25 | e26
        · obtain ⟨x27, e0, H⟩ := H
          refine Exists.intro x27 (And.intro e0 ?_)
          refine zq_ifeq (pc' := 122) rfl rfl rfl rfl (And.intro (fun c => ?_) (fun c => ?_))
          · have H := H.1 c
            refine zq_ipush (pc' := 128) rfl rfl rfl ?_
            refine zq_callv (pc' := 131) rfl rfl rfl rfl rfl rfl (zE_mono H (fun r29 h28 H => ?_))
            rcases r29 with v30 | e31
            · obtain ⟨e0, H⟩ := H
              refine And.intro e0 ?_
              refine zq_iinc (pc' := 134) rfl rfl rfl rfl ?_
              refine zq_goto_c (pc' := 80) rfl rfl ?_
              exact H
            · exact H
          · have H := H.2 c
            refine zq_ipush (pc' := 124) rfl rfl rfl ?_
            refine zq_goto (pc' := 128) rfl rfl rfl ?_
            refine zq_callv (pc' := 131) rfl rfl rfl rfl rfl rfl (zE_mono H (fun r33 h32 H => ?_))
            rcases r33 with v34 | e35
            · obtain ⟨e0, H⟩ := H
              refine And.intro e0 ?_
              refine zq_iinc (pc' := 134) rfl rfl rfl rfl ?_
              refine zq_goto_c (pc' := 80) rfl rfl ?_
              exact H
            · exact H
        · exact H
      · have H := H.2 c
        refine zq_iload (pc' := 100) rfl rfl rfl rfl ?_
        refine zq_goto (pc' := 108) rfl rfl rfl ?_
        refine zq_imul (pc' := 109) rfl rfl rfl ?_
        refine zq_istore (pc' := 111) rfl rfl rfl ?_
        refine zq_aload (pc' := 112) rfl rfl rfl rfl ?_
        refine zq_iload (pc' := 114) rfl rfl rfl rfl ?_
        refine zq_iload (pc' := 116) rfl rfl rfl rfl ?_
        refine zq_calli (pc' := 119) rfl rfl rfl rfl rfl rfl (zE_mono H (fun r37 h36 H => ?_))
        rcases r37 with v38 | e39
        · obtain ⟨x40, e0, H⟩ := H
          refine Exists.intro x40 (And.intro e0 ?_)
          refine zq_ifeq (pc' := 122) rfl rfl rfl rfl (And.intro (fun c => ?_) (fun c => ?_))
          · have H := H.1 c
            refine zq_ipush (pc' := 128) rfl rfl rfl ?_
            refine zq_callv (pc' := 131) rfl rfl rfl rfl rfl rfl (zE_mono H (fun r42 h41 H => ?_))
            rcases r42 with v43 | e44
            · obtain ⟨e0, H⟩ := H
              refine And.intro e0 ?_
              refine zq_iinc (pc' := 134) rfl rfl rfl rfl ?_
              refine zq_goto_c (pc' := 80) rfl rfl ?_
              exact H
            · exact H
          · have H := H.2 c
            refine zq_ipush (pc' := 124) rfl rfl rfl ?_
            refine zq_goto (pc' := 128) rfl rfl rfl ?_
            refine zq_callv (pc' := 131) rfl rfl rfl rfl rfl rfl (zE_mono H (fun r46 h45 H => ?_))
            rcases r46 with v47 | e48
            · obtain ⟨e0, H⟩ := H
              refine And.intro e0 ?_
              refine zq_iinc (pc' := 134) rfl rfl rfl rfl ?_
              refine zq_goto_c (pc' := 80) rfl rfl ?_
              exact H
            · exact H
        · exact H
    · exact H
theorem zr_X8_tellGains_0 {d : Nat} {Q : zR → zH → Prop} {p0 : Nat} {p1 : Int32} {p2 : Int32} {h : zH} (H :
    ∃ a1 : Nat, zgf h p0 8 39 = some (.ref a1) ∧
    zE d 249 [.ref p0, .ref a1, .int 0] h (fun r3 h2 => match r3 with
      | .inl v4 => v4 = none ∧ zW (zE d) zm_X8_tellGains Q (11, [(0, .ref p0), (1, .int p1), (2, .int p2), (3, .int 0)], [], h2)
      | .inr e5 => Q (.inr e5) h2)) : zW (zE d) zm_X8_tellGains Q (0, [(0, .ref p0), (1, .int p1), (2, .int p2)], [], h) := by
  refine zq_aload (pc' := 1) rfl rfl rfl rfl ?_
  refine zq_aload (pc' := 2) rfl rfl rfl rfl ?_
  obtain ⟨a1, e0, H⟩ := H
  refine zq_getR (pc' := 5) rfl rfl rfl e0 ?_
  refine zq_ipush (pc' := 6) rfl rfl rfl ?_
  refine zq_callv (pc' := 9) rfl rfl rfl rfl rfl rfl (zE_mono H (fun r3 h2 H => ?_))
  rcases r3 with v4 | e5
  · obtain ⟨e0, H⟩ := H
    refine And.intro e0 ?_
    refine zq_ipush (pc' := 10) rfl rfl rfl ?_
    refine zq_istore_c (pc' := 11) rfl rfl ?_
    exact H
  · exact H
theorem zr_X8_tellGains_11 {d : Nat} {Q : zR → zH → Prop} {l0 : Nat} {l1 : Int32} {l2 : Int32} {l3 : Int32} {h : zH} (H :
    zbr (4 ≤ l3)
    (Q (.inl none) h)
    (zbr ((l3 / 2) = 1)
      (∃ a1 : Nat, zgf h l0 8 7 = some (.ref a1) ∧
        ∃ x2, zia h a1 l1 = some x2 ∧
        zE d 253 [.ref l0, .int l1, .int x2] h (fun r4 h3 => match r4 with
          | .inl v5 => v5 = none ∧ zbr ((l3 - l3 / 2 * 2) = 1)
            (∃ a7 : Nat, zgf h3 l0 8 7 = some (.ref a7) ∧
              ∃ x8, zia h3 a7 l2 = some x8 ∧
              zE d 253 [.ref l0, .int l2, .int x8] h3 (fun r10 h9 => match r10 with
                | .inl v11 => v11 = none ∧ zW (zE d) zm_X8_tellGains Q (52, [(0, .ref l0), (1, .int l1), (2, .int l2), (3, .int l3)], [], h9)
                | .inr e12 => Q (.inr e12) h9))
            (zW (zE d) zm_X8_tellGains Q (52, [(0, .ref l0), (1, .int l1), (2, .int l2), (3, .int l3)], [], h3))
          | .inr e6 => Q (.inr e6) h3))
      (zbr ((l3 - l3 / 2 * 2) = 1)
        (∃ a13 : Nat, zgf h l0 8 7 = some (.ref a13) ∧
          ∃ x14, zia h a13 l2 = some x14 ∧
          zE d 253 [.ref l0, .int l2, .int x14] h (fun r16 h15 => match r16 with
            | .inl v17 => v17 = none ∧ zW (zE d) zm_X8_tellGains Q (52, [(0, .ref l0), (1, .int l1), (2, .int l2), (3, .int l3)], [], h15)
            | .inr e18 => Q (.inr e18) h15))
        (zW (zE d) zm_X8_tellGains Q (52, [(0, .ref l0), (1, .int l1), (2, .int l2), (3, .int l3)], [], h))))) : zW (zE d) zm_X8_tellGains Q (11, [(0, .ref l0), (1, .int l1), (2, .int l2), (3, .int l3)], [], h) := by
  refine zq_iload (pc' := 12) rfl rfl rfl rfl ?_
  refine zq_ipush (pc' := 13) rfl rfl rfl ?_
  refine zq_icge (pc' := 16) rfl rfl rfl rfl (And.intro (fun c => ?_) (fun c => ?_))
  · have H := H.1 c
    exact zq_vret rfl H
  · have H := H.2 c
    refine zq_iload (pc' := 17) rfl rfl rfl rfl ?_
    refine zq_ipush (pc' := 18) rfl rfl rfl ?_
    refine zq_idiv (pc' := 19) rfl rfl rfl (by decide) ?_
    refine zq_ipush (pc' := 20) rfl rfl rfl ?_
    refine zq_icne (pc' := 23) rfl rfl rfl rfl (And.intro (fun c => ?_) (fun c => ?_))
    · have H := H.1 c
      refine zq_aload (pc' := 24) rfl rfl rfl rfl ?_
      refine zq_iload (pc' := 25) rfl rfl rfl rfl ?_
      refine zq_aload (pc' := 26) rfl rfl rfl rfl ?_
      obtain ⟨a1, e0, H⟩ := H
      refine zq_getR (pc' := 29) rfl rfl rfl e0 ?_
      refine zq_iload (pc' := 30) rfl rfl rfl rfl ?_
      obtain ⟨x2, e0, H⟩ := H
      refine zq_iald (pc' := 31) rfl rfl rfl e0 ?_
      refine zq_callv (pc' := 34) rfl rfl rfl rfl rfl rfl (zE_mono H (fun r4 h3 H => ?_))
      rcases r4 with v5 | e6
      · obtain ⟨e0, H⟩ := H
        refine And.intro e0 ?_
        refine zq_iload (pc' := 35) rfl rfl rfl rfl ?_
        refine zq_ipush (pc' := 36) rfl rfl rfl ?_
        refine zq_irem (pc' := 37) rfl rfl rfl (by decide) ?_
        refine zq_ipush (pc' := 38) rfl rfl rfl ?_
        refine zq_icne_c (pc' := 41) (lt := [(0, .ref l0), (1, .int l1), (2, .int l2), (3, .int l3)]) (lf := [(0, .ref l0), (1, .int l1), (2, .int l2), (3, .int l3)]) rfl rfl rfl rfl (And.intro (fun c => ?_) (fun c => ?_))
        · have H := H.1 c
          refine zq_aload (pc' := 42) rfl rfl rfl rfl ?_
          refine zq_iload (pc' := 43) rfl rfl rfl rfl ?_
          refine zq_aload (pc' := 44) rfl rfl rfl rfl ?_
          obtain ⟨a7, e0, H⟩ := H
          refine zq_getR (pc' := 47) rfl rfl rfl e0 ?_
          refine zq_iload (pc' := 48) rfl rfl rfl rfl ?_
          obtain ⟨x8, e0, H⟩ := H
          refine zq_iald (pc' := 49) rfl rfl rfl e0 ?_
          refine zq_callv_c (pc' := 52) rfl rfl rfl rfl rfl (zE_mono H (fun r10 h9 H => ?_))
          rcases r10 with v11 | e12
          · obtain ⟨e0, H⟩ := H
            refine And.intro e0 ?_
            exact H
          · exact H
        · have H := H.2 c
          exact H
      · exact H
    · have H := H.2 c
      refine zq_iload (pc' := 35) rfl rfl rfl rfl ?_
      refine zq_ipush (pc' := 36) rfl rfl rfl ?_
      refine zq_irem (pc' := 37) rfl rfl rfl (by decide) ?_
      refine zq_ipush (pc' := 38) rfl rfl rfl ?_
      refine zq_icne_c (pc' := 41) (lt := [(0, .ref l0), (1, .int l1), (2, .int l2), (3, .int l3)]) (lf := [(0, .ref l0), (1, .int l1), (2, .int l2), (3, .int l3)]) rfl rfl rfl rfl (And.intro (fun c => ?_) (fun c => ?_))
      · have H := H.1 c
        refine zq_aload (pc' := 42) rfl rfl rfl rfl ?_
        refine zq_iload (pc' := 43) rfl rfl rfl rfl ?_
        refine zq_aload (pc' := 44) rfl rfl rfl rfl ?_
        obtain ⟨a13, e0, H⟩ := H
        refine zq_getR (pc' := 47) rfl rfl rfl e0 ?_
        refine zq_iload (pc' := 48) rfl rfl rfl rfl ?_
        obtain ⟨x14, e0, H⟩ := H
        refine zq_iald (pc' := 49) rfl rfl rfl e0 ?_
        refine zq_callv_c (pc' := 52) rfl rfl rfl rfl rfl (zE_mono H (fun r16 h15 H => ?_))
        rcases r16 with v17 | e18
        · obtain ⟨e0, H⟩ := H
          refine And.intro e0 ?_
          exact H
        · exact H
      · have H := H.2 c
        exact H
theorem zr_X8_tellGains_52 {d : Nat} {Q : zR → zH → Prop} {l0 : Nat} {l1 : Int32} {l2 : Int32} {l3 : Int32} {h : zH} (H :
    zE d 265 [.ref l0, .int 6] h (fun r2 h1 => match r2 with
      | .inl v3 => v3 = none ∧ ∃ a5 : Nat, zgf h1 l0 8 50 = some (.ref a5) ∧
        ∃ a6 : Nat, zgf h1 l0 8 29 = some (.ref a6) ∧
        ∃ x7, zia h1 a6 l1 = some x7 ∧
        zE d 219 [.int x7] h1 (fun r9 h8 => match r9 with
          | .inl v10 => ∃ x12 : Int32, v10 = some (.int x12) ∧ ∃ a13 : Nat, zgf h8 l0 8 29 = some (.ref a13) ∧
            ∃ x14, zia h8 a13 l2 = some x14 ∧
            zE d 219 [.int x14] h8 (fun r16 h15 => match r16 with
              | .inl v17 => ∃ x19 : Int32, v17 = some (.int x19) ∧ ∃ h20, zis h15 a5 (2 * l3) (((2 * x12) - x19) - (3 * (l3 / 2))) = some h20 ∧
                ∃ a21 : Nat, zgf h20 l0 8 50 = some (.ref a21) ∧
                ∃ a22 : Nat, zgf h20 l0 8 29 = some (.ref a22) ∧
                ∃ x23, zia h20 a22 l2 = some x23 ∧
                zE d 219 [.int x23] h20 (fun r25 h24 => match r25 with
                  | .inl v26 => ∃ x28 : Int32, v26 = some (.int x28) ∧ ∃ a29 : Nat, zgf h24 l0 8 29 = some (.ref a29) ∧
                    ∃ x30, zia h24 a29 l1 = some x30 ∧
                    zE d 219 [.int x30] h24 (fun r32 h31 => match r32 with
                      | .inl v33 => ∃ x35 : Int32, v33 = some (.int x35) ∧ ∃ h36, zis h31 a21 ((2 * l3) + 1) (((2 * x28) - x35) - (3 * (l3 - l3 / 2 * 2))) = some h36 ∧
                        ∃ a37 : Nat, zgf h36 l0 8 39 = some (.ref a37) ∧
                        zE d 250 [.ref l0, .ref a37, .int 0] h36 (fun r39 h38 => match r39 with
                          | .inl v40 => v40 = none ∧ zW (zE d) zm_X8_tellGains Q (11, [(0, .ref l0), (1, .int l1), (2, .int l2), (3, .int (l3 + 1))], [], h38)
                          | .inr e41 => Q (.inr e41) h38)
                      | .inr e34 => Q (.inr e34) h31)
                  | .inr e27 => Q (.inr e27) h24)
              | .inr e18 => Q (.inr e18) h15)
          | .inr e11 => Q (.inr e11) h8)
      | .inr e4 => Q (.inr e4) h1)) : zW (zE d) zm_X8_tellGains Q (52, [(0, .ref l0), (1, .int l1), (2, .int l2), (3, .int l3)], [], h) := by
  refine zq_aload (pc' := 53) rfl rfl rfl rfl ?_
  refine zq_ipush (pc' := 55) rfl rfl rfl ?_
  refine zq_callv (pc' := 58) rfl rfl rfl rfl rfl rfl (zE_mono H (fun r2 h1 H => ?_))
  rcases r2 with v3 | e4
  · obtain ⟨e0, H⟩ := H
    refine And.intro e0 ?_
    refine zq_aload (pc' := 59) rfl rfl rfl rfl ?_
    obtain ⟨a5, e0, H⟩ := H
    refine zq_getR (pc' := 62) rfl rfl rfl e0 ?_
    refine zq_ipush (pc' := 63) rfl rfl rfl ?_
    refine zq_iload (pc' := 64) rfl rfl rfl rfl ?_
    refine zq_imul (pc' := 65) rfl rfl rfl ?_
    refine zq_ipush (pc' := 66) rfl rfl rfl ?_
    refine zq_aload (pc' := 67) rfl rfl rfl rfl ?_
    obtain ⟨a6, e0, H⟩ := H
    refine zq_getR (pc' := 70) rfl rfl rfl e0 ?_
    refine zq_iload (pc' := 71) rfl rfl rfl rfl ?_
    obtain ⟨x7, e0, H⟩ := H
    refine zq_iald (pc' := 72) rfl rfl rfl e0 ?_
    refine zq_calli (pc' := 75) rfl rfl rfl rfl rfl rfl (zE_mono H (fun r9 h8 H => ?_))
    rcases r9 with v10 | e11
    · obtain ⟨x12, e0, H⟩ := H
      refine Exists.intro x12 (And.intro e0 ?_)
      refine zq_imul (pc' := 76) rfl rfl rfl ?_
      refine zq_aload (pc' := 77) rfl rfl rfl rfl ?_
      obtain ⟨a13, e0, H⟩ := H
      refine zq_getR (pc' := 80) rfl rfl rfl e0 ?_
      refine zq_iload (pc' := 81) rfl rfl rfl rfl ?_
      obtain ⟨x14, e0, H⟩ := H
      refine zq_iald (pc' := 82) rfl rfl rfl e0 ?_
      refine zq_calli (pc' := 85) rfl rfl rfl rfl rfl rfl (zE_mono H (fun r16 h15 H => ?_))
      rcases r16 with v17 | e18
      · obtain ⟨x19, e0, H⟩ := H
        refine Exists.intro x19 (And.intro e0 ?_)
        refine zq_isub (pc' := 86) rfl rfl rfl ?_
        refine zq_ipush (pc' := 87) rfl rfl rfl ?_
        refine zq_iload (pc' := 88) rfl rfl rfl rfl ?_
        refine zq_ipush (pc' := 89) rfl rfl rfl ?_
        refine zq_idiv (pc' := 90) rfl rfl rfl (by decide) ?_
        refine zq_imul (pc' := 91) rfl rfl rfl ?_
        refine zq_isub (pc' := 92) rfl rfl rfl ?_
        obtain ⟨h20, e0, H⟩ := H
        refine zq_iast (pc' := 93) rfl rfl rfl e0 ?_
        refine zq_aload (pc' := 94) rfl rfl rfl rfl ?_
        obtain ⟨a21, e0, H⟩ := H
        refine zq_getR (pc' := 97) rfl rfl rfl e0 ?_
        refine zq_ipush (pc' := 98) rfl rfl rfl ?_
        refine zq_iload (pc' := 99) rfl rfl rfl rfl ?_
        refine zq_imul (pc' := 100) rfl rfl rfl ?_
        refine zq_ipush (pc' := 101) rfl rfl rfl ?_
        refine zq_iadd (pc' := 102) rfl rfl rfl ?_
        refine zq_ipush (pc' := 103) rfl rfl rfl ?_
        refine zq_aload (pc' := 104) rfl rfl rfl rfl ?_
        obtain ⟨a22, e0, H⟩ := H
        refine zq_getR (pc' := 107) rfl rfl rfl e0 ?_
        refine zq_iload (pc' := 108) rfl rfl rfl rfl ?_
        obtain ⟨x23, e0, H⟩ := H
        refine zq_iald (pc' := 109) rfl rfl rfl e0 ?_
        refine zq_calli (pc' := 112) rfl rfl rfl rfl rfl rfl (zE_mono H (fun r25 h24 H => ?_))
        rcases r25 with v26 | e27
        · obtain ⟨x28, e0, H⟩ := H
          refine Exists.intro x28 (And.intro e0 ?_)
          refine zq_imul (pc' := 113) rfl rfl rfl ?_
          refine zq_aload (pc' := 114) rfl rfl rfl rfl ?_
          obtain ⟨a29, e0, H⟩ := H
          refine zq_getR (pc' := 117) rfl rfl rfl e0 ?_
          refine zq_iload (pc' := 118) rfl rfl rfl rfl ?_
          obtain ⟨x30, e0, H⟩ := H
          refine zq_iald (pc' := 119) rfl rfl rfl e0 ?_
          refine zq_calli (pc' := 122) rfl rfl rfl rfl rfl rfl (zE_mono H (fun r32 h31 H => ?_))
          rcases r32 with v33 | e34
          · obtain ⟨x35, e0, H⟩ := H
            refine Exists.intro x35 (And.intro e0 ?_)
            refine zq_isub (pc' := 123) rfl rfl rfl ?_
            refine zq_ipush (pc' := 124) rfl rfl rfl ?_
            refine zq_iload (pc' := 125) rfl rfl rfl rfl ?_
            refine zq_ipush (pc' := 126) rfl rfl rfl ?_
            refine zq_irem (pc' := 127) rfl rfl rfl (by decide) ?_
            refine zq_imul (pc' := 128) rfl rfl rfl ?_
            refine zq_isub (pc' := 129) rfl rfl rfl ?_
            obtain ⟨h36, e0, H⟩ := H
            refine zq_iast (pc' := 130) rfl rfl rfl e0 ?_
            refine zq_aload (pc' := 131) rfl rfl rfl rfl ?_
            refine zq_aload (pc' := 132) rfl rfl rfl rfl ?_
            obtain ⟨a37, e0, H⟩ := H
            refine zq_getR (pc' := 135) rfl rfl rfl e0 ?_
            refine zq_ipush (pc' := 136) rfl rfl rfl ?_
            refine zq_callv (pc' := 139) rfl rfl rfl rfl rfl rfl (zE_mono H (fun r39 h38 H => ?_))
            rcases r39 with v40 | e41
            · obtain ⟨e0, H⟩ := H
              refine And.intro e0 ?_
              refine zq_iinc (pc' := 142) rfl rfl rfl rfl ?_
              refine zq_goto_c (pc' := 11) rfl rfl ?_
              exact H
            · exact H
          · exact H
        · exact H
      · exact H
    · exact H
  · exact H
theorem zr_X8_game_0 {d : Nat} {Q : zR → zH → Prop} {p0 : Nat} {p1 : Int32} {p2 : Int32} {p3 : Int32} {h : zH} (H :
    ∃ h1, zpf h p0 8 4 (.int 0) = some h1 ∧
    zE d 220 [.ref p0, .int p1] h1 (fun r3 h2 => match r3 with
      | .inl v4 => ∃ x6 : Int32, v4 = some (.int x6) ∧ zbr (x6 = 0)
        (zE d 215 [.ref p0, .int 1] h2 (fun r8 h7 => match r8 with
            | .inl v9 => ∃ x11 : Int32, v9 = some (.int x11) ∧ Q (.inl (some (.int x11))) h7
            | .inr e10 => Q (.inr e10) h7))
        (zE d 220 [.ref p0, .int p2] h2 (fun r13 h12 => match r13 with
            | .inl v14 => ∃ x16 : Int32, v14 = some (.int x16) ∧ zbr (x16 = 0)
              (zE d 215 [.ref p0, .int 1] h12 (fun r18 h17 => match r18 with
                  | .inl v19 => ∃ x21 : Int32, v19 = some (.int x21) ∧ Q (.inl (some (.int x21))) h17
                  | .inr e20 => Q (.inr e20) h17))
              (zE d 217 [.long ((p3 : Int32).toInt64), .long 0, .long 1] h12 (fun r23 h22 => match r23 with
                  | .inl v24 => ∃ x26 : Int32, v24 = some (.int x26) ∧ zbr (x26 = 0)
                    (zE d 215 [.ref p0, .int 1] h22 (fun r28 h27 => match r28 with
                        | .inl v29 => ∃ x31 : Int32, v29 = some (.int x31) ∧ Q (.inl (some (.int x31))) h27
                        | .inr e30 => Q (.inr e30) h27))
                    (zbr (p1 = p2)
                      (zE d 215 [.ref p0, .int 2] h22 (fun r33 h32 => match r33 with
                          | .inl v34 => ∃ x36 : Int32, v34 = some (.int x36) ∧ Q (.inl (some (.int x36))) h32
                          | .inr e35 => Q (.inr e35) h32))
                      (zE d 324 [.ref p0, .int p1, .int p2] h22 (fun r38 h37 => match r38 with
                          | .inl v39 => v39 = none ∧ zW (zE d) zm_X8_game Q (63, [(0, .ref p0), (3, .int p3), (4, .int 0), (5, .int (-1)), (6, .int 0)], [], h37)
                          | .inr e40 => Q (.inr e40) h37)))
                  | .inr e25 => Q (.inr e25) h22))
            | .inr e15 => Q (.inr e15) h12))
      | .inr e5 => Q (.inr e5) h2)) : zW (zE d) zm_X8_game Q (0, [(0, .ref p0), (1, .int p1), (2, .int p2), (3, .int p3)], [], h) := by
  refine zq_aload (pc' := 1) rfl rfl rfl rfl ?_
  refine zq_ipush (pc' := 2) rfl rfl rfl ?_
  obtain ⟨h1, e0, H⟩ := H
  refine zq_put (pc' := 5) rfl rfl rfl trivial e0 ?_
  refine zq_aload (pc' := 6) rfl rfl rfl rfl ?_
  refine zq_iload (pc' := 7) rfl rfl rfl rfl ?_
  refine zq_calli (pc' := 10) rfl rfl rfl rfl rfl rfl (zE_mono H (fun r3 h2 H => ?_))
  rcases r3 with v4 | e5
  · obtain ⟨x6, e0, H⟩ := H
    refine Exists.intro x6 (And.intro e0 ?_)
    refine zq_ifeq (pc' := 13) rfl rfl rfl rfl (And.intro (fun c => ?_) (fun c => ?_))
    · have H := H.1 c
      refine zq_aload (pc' := 32) rfl rfl rfl rfl ?_
      refine zq_ipush (pc' := 33) rfl rfl rfl ?_
      refine zq_calli (pc' := 36) rfl rfl rfl rfl rfl rfl (zE_mono H (fun r8 h7 H => ?_))
      rcases r8 with v9 | e10
      · obtain ⟨x11, e0, H⟩ := H
        refine Exists.intro x11 (And.intro e0 ?_)
        exact zq_iret rfl trivial H
      · exact H
    · have H := H.2 c
      refine zq_aload (pc' := 14) rfl rfl rfl rfl ?_
      refine zq_iload (pc' := 15) rfl rfl rfl rfl ?_
      refine zq_calli (pc' := 18) rfl rfl rfl rfl rfl rfl (zE_mono H (fun r13 h12 H => ?_))
      rcases r13 with v14 | e15
      · obtain ⟨x16, e0, H⟩ := H
        refine Exists.intro x16 (And.intro e0 ?_)
        refine zq_ifeq (pc' := 21) rfl rfl rfl rfl (And.intro (fun c => ?_) (fun c => ?_))
        · have H := H.1 c
          refine zq_aload (pc' := 32) rfl rfl rfl rfl ?_
          refine zq_ipush (pc' := 33) rfl rfl rfl ?_
          refine zq_calli (pc' := 36) rfl rfl rfl rfl rfl rfl (zE_mono H (fun r18 h17 H => ?_))
          rcases r18 with v19 | e20
          · obtain ⟨x21, e0, H⟩ := H
            refine Exists.intro x21 (And.intro e0 ?_)
            exact zq_iret rfl trivial H
          · exact H
        · have H := H.2 c
          refine zq_iload (pc' := 22) rfl rfl rfl rfl ?_
          refine zq_i2l (pc' := 23) rfl rfl rfl ?_
          refine zq_lpush (pc' := 24) rfl rfl rfl ?_
          refine zq_lpush (pc' := 25) rfl rfl rfl ?_
          refine zq_calli (pc' := 28) rfl rfl rfl rfl rfl rfl (zE_mono H (fun r23 h22 H => ?_))
          rcases r23 with v24 | e25
          · obtain ⟨x26, e0, H⟩ := H
            refine Exists.intro x26 (And.intro e0 ?_)
            refine zq_ifne (pc' := 31) rfl rfl rfl rfl (And.intro (fun c => ?_) (fun c => ?_))
            · have H := H.1 c
              refine zq_aload (pc' := 32) rfl rfl rfl rfl ?_
              refine zq_ipush (pc' := 33) rfl rfl rfl ?_
              refine zq_calli (pc' := 36) rfl rfl rfl rfl rfl rfl (zE_mono H (fun r28 h27 H => ?_))
              rcases r28 with v29 | e30
              · obtain ⟨x31, e0, H⟩ := H
                refine Exists.intro x31 (And.intro e0 ?_)
                exact zq_iret rfl trivial H
              · exact H
            · have H := H.2 c
              refine zq_iload (pc' := 38) rfl rfl rfl rfl ?_
              refine zq_iload (pc' := 39) rfl rfl rfl rfl ?_
              refine zq_icne (pc' := 42) rfl rfl rfl rfl (And.intro (fun c => ?_) (fun c => ?_))
              · have H := H.1 c
                refine zq_aload (pc' := 43) rfl rfl rfl rfl ?_
                refine zq_ipush (pc' := 44) rfl rfl rfl ?_
                refine zq_calli (pc' := 47) rfl rfl rfl rfl rfl rfl (zE_mono H (fun r33 h32 H => ?_))
                rcases r33 with v34 | e35
                · obtain ⟨x36, e0, H⟩ := H
                  refine Exists.intro x36 (And.intro e0 ?_)
                  exact zq_iret rfl trivial H
                · exact H
              · have H := H.2 c
                refine zq_aload (pc' := 49) rfl rfl rfl rfl ?_
                refine zq_iload (pc' := 50) rfl rfl rfl rfl ?_
                refine zq_iload (pc' := 51) rfl rfl rfl rfl ?_
                refine zq_callv (pc' := 54) rfl rfl rfl rfl rfl rfl (zE_mono H (fun r38 h37 H => ?_))
                rcases r38 with v39 | e40
                · obtain ⟨e0, H⟩ := H
                  refine And.intro e0 ?_
                  refine zq_ipush (pc' := 55) rfl rfl rfl ?_
                  refine zq_istore (pc' := 57) rfl rfl rfl ?_
                  refine zq_ipushn (pc' := 58) rfl rfl rfl ?_
                  refine zq_istore (pc' := 60) rfl rfl rfl ?_
                  refine zq_ipush (pc' := 61) rfl rfl rfl ?_
                  refine zq_istore_c (pc' := 63) rfl rfl ?_
                  exact H
                · exact H
          · exact H
      · exact H
  · exact H
theorem zr_X8_game_63 {d : Nat} {Q : zR → zH → Prop} {l0 : Nat} {l3 : Int32} {l4 : Int32} {l5 : Int32} {l6 : Int32} {h : zH} (H :
    zbr (4 ≤ l6)
    (zbr (l3 = 0)
      (Q (.inl (some (.int l4))) h)
      (Q (.inl (some (.int l5))) h))
    (∃ a1 : Nat, zgf h l0 8 50 = some (.ref a1) ∧
      ∃ x2, zia h a1 (2 * (l6 ^^^ 2)) = some x2 ∧
      ∃ a3 : Nat, zgf h l0 8 50 = some (.ref a3) ∧
      ∃ x4, zia h a3 (2 * l6) = some x4 ∧
      zbr (x4 < x2)
      (zW (zE d) zm_X8_game Q (63, [(0, .ref l0), (3, .int l3), (4, .int l4), (5, .int l5), (6, .int (l6 + 1))], [], h))
      (∃ a5 : Nat, zgf h l0 8 50 = some (.ref a5) ∧
        ∃ x6, zia h a5 ((2 * (l6 ^^^ 1)) + 1) = some x6 ∧
        ∃ a7 : Nat, zgf h l0 8 50 = some (.ref a7) ∧
        ∃ x8, zia h a7 ((2 * l6) + 1) = some x8 ∧
        zbr (x6 ≤ x8)
        (zbr (l5 = (-1))
          (zW (zE d) zm_X8_game Q (63, [(0, .ref l0), (3, .int l3), (4, .int (l4 + 1)), (5, .int ((10 * (l6 / 2)) + (l6 - l6 / 2 * 2))), (6, .int (l6 + 1))], [], h))
          (zW (zE d) zm_X8_game Q (63, [(0, .ref l0), (3, .int l3), (4, .int (l4 + 1)), (5, .int l5), (6, .int (l6 + 1))], [], h)))
        (zW (zE d) zm_X8_game Q (63, [(0, .ref l0), (3, .int l3), (4, .int l4), (5, .int l5), (6, .int (l6 + 1))], [], h))))) : zW (zE d) zm_X8_game Q (63, [(0, .ref l0), (3, .int l3), (4, .int l4), (5, .int l5), (6, .int l6)], [], h) := by
  refine zq_iload (pc' := 65) rfl rfl rfl rfl ?_
  refine zq_ipush (pc' := 66) rfl rfl rfl ?_
  refine zq_icge (pc' := 69) rfl rfl rfl rfl (And.intro (fun c => ?_) (fun c => ?_))
  · have H := H.1 c
    refine zq_iload (pc' := 157) rfl rfl rfl rfl ?_
    refine zq_ifne (pc' := 160) rfl rfl rfl rfl (And.intro (fun c => ?_) (fun c => ?_))
    · have H := H.1 c
      refine zq_iload (pc' := 162) rfl rfl rfl rfl ?_
      refine zq_goto (pc' := 167) rfl rfl rfl ?_
      exact zq_iret rfl trivial H
    · have H := H.2 c
      refine zq_iload (pc' := 167) rfl rfl rfl rfl ?_
      exact zq_iret rfl trivial H
  · have H := H.2 c
    refine zq_aload (pc' := 70) rfl rfl rfl rfl ?_
    obtain ⟨a1, e0, H⟩ := H
    refine zq_getR (pc' := 73) rfl rfl rfl e0 ?_
    refine zq_ipush (pc' := 74) rfl rfl rfl ?_
    refine zq_iload (pc' := 76) rfl rfl rfl rfl ?_
    refine zq_ipush (pc' := 77) rfl rfl rfl ?_
    refine zq_ixor (pc' := 78) rfl rfl rfl ?_
    refine zq_imul (pc' := 79) rfl rfl rfl ?_
    obtain ⟨x2, e0, H⟩ := H
    refine zq_iald (pc' := 80) rfl rfl rfl e0 ?_
    refine zq_aload (pc' := 81) rfl rfl rfl rfl ?_
    obtain ⟨a3, e0, H⟩ := H
    refine zq_getR (pc' := 84) rfl rfl rfl e0 ?_
    refine zq_ipush (pc' := 85) rfl rfl rfl ?_
    refine zq_iload (pc' := 87) rfl rfl rfl rfl ?_
    refine zq_imul (pc' := 88) rfl rfl rfl ?_
    obtain ⟨x4, e0, H⟩ := H
    refine zq_iald (pc' := 89) rfl rfl rfl e0 ?_
    refine zq_icgt (pc' := 92) rfl rfl rfl rfl (And.intro (fun c => ?_) (fun c => ?_))
    · have H := H.1 c
      refine zq_iinc (pc' := 153) rfl rfl rfl rfl ?_
      refine zq_goto_c (pc' := 63) rfl rfl ?_
      exact H
    · have H := H.2 c
      refine zq_aload (pc' := 93) rfl rfl rfl rfl ?_
      obtain ⟨a5, e0, H⟩ := H
      refine zq_getR (pc' := 96) rfl rfl rfl e0 ?_
      refine zq_ipush (pc' := 97) rfl rfl rfl ?_
      refine zq_iload (pc' := 99) rfl rfl rfl rfl ?_
      refine zq_ipush (pc' := 100) rfl rfl rfl ?_
      refine zq_ixor (pc' := 101) rfl rfl rfl ?_
      refine zq_imul (pc' := 102) rfl rfl rfl ?_
      refine zq_ipush (pc' := 103) rfl rfl rfl ?_
      refine zq_iadd (pc' := 104) rfl rfl rfl ?_
      obtain ⟨x6, e0, H⟩ := H
      refine zq_iald (pc' := 105) rfl rfl rfl e0 ?_
      refine zq_aload (pc' := 106) rfl rfl rfl rfl ?_
      obtain ⟨a7, e0, H⟩ := H
      refine zq_getR (pc' := 109) rfl rfl rfl e0 ?_
      refine zq_ipush (pc' := 110) rfl rfl rfl ?_
      refine zq_iload (pc' := 112) rfl rfl rfl rfl ?_
      refine zq_imul (pc' := 113) rfl rfl rfl ?_
      refine zq_ipush (pc' := 114) rfl rfl rfl ?_
      refine zq_iadd (pc' := 115) rfl rfl rfl ?_
      obtain ⟨x8, e0, H⟩ := H
      refine zq_iald (pc' := 116) rfl rfl rfl e0 ?_
      refine zq_icle (pc' := 119) rfl rfl rfl rfl (And.intro (fun c => ?_) (fun c => ?_))
      · have H := H.1 c
        refine zq_iinc (pc' := 125) rfl rfl rfl rfl ?_
        refine zq_iload (pc' := 127) rfl rfl rfl rfl ?_
        refine zq_ipushn (pc' := 128) rfl rfl rfl ?_
        refine zq_icne (pc' := 131) rfl rfl rfl rfl (And.intro (fun c => ?_) (fun c => ?_))
        · have H := H.1 c
          refine zq_ipush (pc' := 133) rfl rfl rfl ?_
          refine zq_iload (pc' := 135) rfl rfl rfl rfl ?_
          refine zq_ipush (pc' := 136) rfl rfl rfl ?_
          refine zq_idiv (pc' := 137) rfl rfl rfl (by decide) ?_
          refine zq_imul (pc' := 138) rfl rfl rfl ?_
          refine zq_iload (pc' := 140) rfl rfl rfl rfl ?_
          refine zq_ipush (pc' := 141) rfl rfl rfl ?_
          refine zq_irem (pc' := 142) rfl rfl rfl (by decide) ?_
          refine zq_iadd (pc' := 143) rfl rfl rfl ?_
          refine zq_goto (pc' := 148) rfl rfl rfl ?_
          refine zq_istore (pc' := 150) rfl rfl rfl ?_
          refine zq_iinc (pc' := 153) rfl rfl rfl rfl ?_
          refine zq_goto_c (pc' := 63) rfl rfl ?_
          exact H
        · have H := H.2 c
          refine zq_iload (pc' := 148) rfl rfl rfl rfl ?_
          refine zq_istore (pc' := 150) rfl rfl rfl ?_
          refine zq_iinc (pc' := 153) rfl rfl rfl rfl ?_
          refine zq_goto_c (pc' := 63) rfl rfl ?_
          exact H
      · have H := H.2 c
        refine zq_goto (pc' := 150) rfl rfl rfl ?_
        refine zq_iinc (pc' := 153) rfl rfl rfl rfl ?_
        refine zq_goto_c (pc' := 63) rfl rfl ?_
        exact H
theorem zr_X8_drawOf_0 {d : Nat} {Q : zR → zH → Prop} {p0 : Nat} {p1 : Int32} {h : zH} (H :
    ∃ x1 : Int32, zgf h p0 8 51 = some (.int x1) ∧
    ∃ h2, zpf h p0 8 51 (.int ((x1 * 1103515245) + 12345)) = some h2 ∧
    ∃ x3 : Int32, zgf h2 p0 8 51 = some (.int x3) ∧
    ¬ p1 = 0 ∧ Q (.inl (some (.int (((x3 >>> ((16 : Int32) &&& 31)) &&& 32767) - ((x3 >>> ((16 : Int32) &&& 31)) &&& 32767) / p1 * p1)))) h2) : zW (zE d) zm_X8_drawOf Q (0, [(0, .ref p0), (1, .int p1)], [], h) := by
  refine zq_aload (pc' := 1) rfl rfl rfl rfl ?_
  refine zq_aload (pc' := 2) rfl rfl rfl rfl ?_
  obtain ⟨x1, e0, H⟩ := H
  refine zq_getI (pc' := 5) rfl rfl rfl e0 ?_
  refine zq_ipush (pc' := 8) rfl rfl rfl ?_
  refine zq_imul (pc' := 9) rfl rfl rfl ?_
  refine zq_ipush (pc' := 12) rfl rfl rfl ?_
  refine zq_iadd (pc' := 13) rfl rfl rfl ?_
  obtain ⟨h2, e0, H⟩ := H
  refine zq_put (pc' := 16) rfl rfl rfl trivial e0 ?_
  refine zq_aload (pc' := 17) rfl rfl rfl rfl ?_
  obtain ⟨x3, e0, H⟩ := H
  refine zq_getI (pc' := 20) rfl rfl rfl e0 ?_
  refine zq_ipush (pc' := 22) rfl rfl rfl ?_
  refine zq_ishr (pc' := 23) rfl rfl rfl ?_
  refine zq_ipush (pc' := 26) rfl rfl rfl ?_
  refine zq_iand (pc' := 27) rfl rfl rfl ?_
  refine zq_iload (pc' := 28) rfl rfl rfl rfl ?_
  obtain ⟨e0, H⟩ := H
  refine zq_irem (pc' := 29) rfl rfl rfl e0 ?_
  exact zq_iret rfl trivial H
theorem zr_X8_something_0 {d : Nat} {Q : zR → zH → Prop} {p0 : Nat} {h : zH} (H :
    zE d 326 [.ref p0, .int 6] h (fun r2 h1 => match r2 with
      | .inl v3 => ∃ x5 : Int32, v3 = some (.int x5) ∧ zbr (2 < x5)
        (Q (.inl none) h1)
        (∃ a6 : Nat, zgf h1 p0 8 5 = some (.ref a6) ∧
          ∃ x7, zia h1 a6 0 = some x7 ∧
          zbr (x7 = 0)
          (Q (.inl none) h1)
          (∃ a8 : Nat, zgf h1 p0 8 5 = some (.ref a8) ∧
            ∃ x9, zia h1 a8 0 = some x9 ∧
            zE d 326 [.ref p0, .int x9] h1 (fun r11 h10 => match r11 with
              | .inl v12 => ∃ x14 : Int32, v12 = some (.int x14) ∧ zbr (x5 = 0)
                (∃ a15 : Nat, zgf h10 p0 8 7 = some (.ref a15) ∧
                  ∃ x16, zia h10 a15 x14 = some x16 ∧
                  zE d 253 [.ref p0, .int x14, .int x16] h10 (fun r18 h17 => match r18 with
                    | .inl v19 => v19 = none ∧ Q (.inl none) h17
                    | .inr e20 => Q (.inr e20) h17))
                (∃ a21 : Nat, zgf h10 p0 8 7 = some (.ref a21) ∧
                  ∃ x22, zia h10 a21 x14 = some x22 ∧
                  zE d 326 [.ref p0, .int x22] h10 (fun r24 h23 => match r24 with
                    | .inl v25 => ∃ x27 : Int32, v25 = some (.int x27) ∧ zE d 326 [.ref p0, .int 2] h23 (fun r29 h28 => match r29 with
                        | .inl v30 => ∃ x32 : Int32, v30 = some (.int x32) ∧ zbr (x32 = 0)
                          (∃ a33 : Nat, zgf h28 p0 8 26 = some (.ref a33) ∧
                            zbr (x5 = 1)
                            (zE d 313 [.ref a33, .int ((16 * x14) + x27)] h28 (fun r35 h34 => match r35 with
                                | .inl v36 => v36 = none ∧ zW (zE d) zm_X8_something Q (101, [(0, .ref p0), (1, .int x5), (2, .int x14), (3, .int x27), (4, .ref a33), (5, .int ((16 * x14) + x27))], [], h34)
                                | .inr e37 => Q (.inr e37) h34))
                            (zW (zE d) zm_X8_something Q (101, [(0, .ref p0), (1, .int x5), (2, .int x14), (3, .int x27), (4, .ref a33), (5, .int ((16 * x14) + x27))], [], h28)))
                          (∃ a38 : Nat, zgf h28 p0 8 27 = some (.ref a38) ∧
                            zbr (x5 = 1)
                            (zE d 313 [.ref a38, .int ((16 * x14) + x27)] h28 (fun r40 h39 => match r40 with
                                | .inl v41 => v41 = none ∧ zW (zE d) zm_X8_something Q (101, [(0, .ref p0), (1, .int x5), (2, .int x14), (3, .int x27), (4, .ref a38), (5, .int ((16 * x14) + x27))], [], h39)
                                | .inr e42 => Q (.inr e42) h39))
                            (zW (zE d) zm_X8_something Q (101, [(0, .ref p0), (1, .int x5), (2, .int x14), (3, .int x27), (4, .ref a38), (5, .int ((16 * x14) + x27))], [], h28)))
                        | .inr e31 => Q (.inr e31) h28)
                    | .inr e26 => Q (.inr e26) h23))
              | .inr e13 => Q (.inr e13) h10)))
      | .inr e4 => Q (.inr e4) h1)) : zW (zE d) zm_X8_something Q (0, [(0, .ref p0)], [], h) := by
  refine zq_aload (pc' := 1) rfl rfl rfl rfl ?_
  refine zq_ipush (pc' := 3) rfl rfl rfl ?_
  refine zq_calli (pc' := 6) rfl rfl rfl rfl rfl rfl (zE_mono H (fun r2 h1 H => ?_))
  rcases r2 with v3 | e4
  · obtain ⟨x5, e0, H⟩ := H
    refine Exists.intro x5 (And.intro e0 ?_)
    refine zq_istore (pc' := 7) rfl rfl rfl ?_
    refine zq_iload (pc' := 8) rfl rfl rfl rfl ?_
    refine zq_ipush (pc' := 9) rfl rfl rfl ?_
    refine zq_icgt (pc' := 12) rfl rfl rfl rfl (And.intro (fun c => ?_) (fun c => ?_))
    · have H := H.1 c
      exact zq_vret rfl H
    · have H := H.2 c
      refine zq_aload (pc' := 13) rfl rfl rfl rfl ?_
      obtain ⟨a6, e0, H⟩ := H
      refine zq_getR (pc' := 16) rfl rfl rfl e0 ?_
      refine zq_ipush (pc' := 17) rfl rfl rfl ?_
      obtain ⟨x7, e0, H⟩ := H
      refine zq_iald (pc' := 18) rfl rfl rfl e0 ?_
      refine zq_ifne (pc' := 21) rfl rfl rfl rfl (And.intro (fun c => ?_) (fun c => ?_))
      · have H := H.1 c
        exact zq_vret rfl H
      · have H := H.2 c
        refine zq_aload (pc' := 23) rfl rfl rfl rfl ?_
        refine zq_aload (pc' := 24) rfl rfl rfl rfl ?_
        obtain ⟨a8, e0, H⟩ := H
        refine zq_getR (pc' := 27) rfl rfl rfl e0 ?_
        refine zq_ipush (pc' := 28) rfl rfl rfl ?_
        obtain ⟨x9, e0, H⟩ := H
        refine zq_iald (pc' := 29) rfl rfl rfl e0 ?_
        refine zq_calli (pc' := 32) rfl rfl rfl rfl rfl rfl (zE_mono H (fun r11 h10 H => ?_))
        rcases r11 with v12 | e13
        · obtain ⟨x14, e0, H⟩ := H
          refine Exists.intro x14 (And.intro e0 ?_)
          refine zq_istore (pc' := 33) rfl rfl rfl ?_
          refine zq_iload (pc' := 34) rfl rfl rfl rfl ?_
          refine zq_ifne (pc' := 37) rfl rfl rfl rfl (And.intro (fun c => ?_) (fun c => ?_))
          · have H := H.1 c
            refine zq_aload (pc' := 38) rfl rfl rfl rfl ?_
            refine zq_iload (pc' := 39) rfl rfl rfl rfl ?_
            refine zq_aload (pc' := 40) rfl rfl rfl rfl ?_
            obtain ⟨a15, e0, H⟩ := H
            refine zq_getR (pc' := 43) rfl rfl rfl e0 ?_
            refine zq_iload (pc' := 44) rfl rfl rfl rfl ?_
            obtain ⟨x16, e0, H⟩ := H
            refine zq_iald (pc' := 45) rfl rfl rfl e0 ?_
            refine zq_callv (pc' := 48) rfl rfl rfl rfl rfl rfl (zE_mono H (fun r18 h17 H => ?_))
            rcases r18 with v19 | e20
            · obtain ⟨e0, H⟩ := H
              refine And.intro e0 ?_
              exact zq_vret rfl H
            · exact H
          · have H := H.2 c
            refine zq_aload (pc' := 50) rfl rfl rfl rfl ?_
            refine zq_aload (pc' := 51) rfl rfl rfl rfl ?_
            obtain ⟨a21, e0, H⟩ := H
            refine zq_getR (pc' := 54) rfl rfl rfl e0 ?_
            refine zq_iload (pc' := 55) rfl rfl rfl rfl ?_
            obtain ⟨x22, e0, H⟩ := H
            refine zq_iald (pc' := 56) rfl rfl rfl e0 ?_
            refine zq_calli (pc' := 59) rfl rfl rfl rfl rfl rfl (zE_mono H (fun r24 h23 H => ?_))
            rcases r24 with v25 | e26
            · obtain ⟨x27, e0, H⟩ := H
              refine Exists.intro x27 (And.intro e0 ?_)
              refine zq_istore (pc' := 60) rfl rfl rfl ?_
              refine zq_aload (pc' := 61) rfl rfl rfl rfl ?_
              refine zq_ipush (pc' := 62) rfl rfl rfl ?_
              refine zq_calli (pc' := 65) rfl rfl rfl rfl rfl rfl (zE_mono H (fun r29 h28 H => ?_))
              rcases r29 with v30 | e31
              · obtain ⟨x32, e0, H⟩ := H
                refine Exists.intro x32 (And.intro e0 ?_)
                refine zq_ifne (pc' := 68) rfl rfl rfl rfl (And.intro (fun c => ?_) (fun c => ?_))
                · have H := H.1 c
                  refine zq_aload (pc' := 69) rfl rfl rfl rfl ?_
                  obtain ⟨a33, e0, H⟩ := H
                  refine zq_getR (pc' := 72) rfl rfl rfl e0 ?_
                  refine zq_goto (pc' := 79) rfl rfl rfl ?_
                  refine zq_astore (pc' := 81) rfl rfl rfl ?_
                  refine zq_ipush (pc' := 83) rfl rfl rfl ?_
                  refine zq_iload (pc' := 84) rfl rfl rfl rfl ?_
                  refine zq_imul (pc' := 85) rfl rfl rfl ?_
                  refine zq_iload (pc' := 86) rfl rfl rfl rfl ?_
                  refine zq_iadd (pc' := 87) rfl rfl rfl ?_
                  refine zq_istore (pc' := 89) rfl rfl rfl ?_
                  refine zq_iload (pc' := 90) rfl rfl rfl rfl ?_
                  refine zq_ipush (pc' := 91) rfl rfl rfl ?_
                  refine zq_icne_c (pc' := 94) (lt := [(0, .ref p0), (1, .int x5), (2, .int x14), (3, .int x27), (4, .ref a33), (5, .int ((16 * x14) + x27))]) (lf := [(5, .int ((16 * x14) + x27)), (4, .ref a33), (3, .int x27), (2, .int x14), (1, .int x5), (0, .ref p0)]) rfl rfl rfl rfl (And.intro (fun c => ?_) (fun c => ?_))
                  · have H := H.1 c
                    refine zq_aload (pc' := 96) rfl rfl rfl rfl ?_
                    refine zq_iload (pc' := 98) rfl rfl rfl rfl ?_
                    refine zq_callv_c (pc' := 101) rfl rfl rfl rfl rfl (zE_mono H (fun r35 h34 H => ?_))
                    rcases r35 with v36 | e37
                    · obtain ⟨e0, H⟩ := H
                      refine And.intro e0 ?_
                      exact H
                    · exact H
                  · have H := H.2 c
                    exact H
                · have H := H.2 c
                  refine zq_aload (pc' := 76) rfl rfl rfl rfl ?_
                  obtain ⟨a38, e0, H⟩ := H
                  refine zq_getR (pc' := 79) rfl rfl rfl e0 ?_
                  refine zq_astore (pc' := 81) rfl rfl rfl ?_
                  refine zq_ipush (pc' := 83) rfl rfl rfl ?_
                  refine zq_iload (pc' := 84) rfl rfl rfl rfl ?_
                  refine zq_imul (pc' := 85) rfl rfl rfl ?_
                  refine zq_iload (pc' := 86) rfl rfl rfl rfl ?_
                  refine zq_iadd (pc' := 87) rfl rfl rfl ?_
                  refine zq_istore (pc' := 89) rfl rfl rfl ?_
                  refine zq_iload (pc' := 90) rfl rfl rfl rfl ?_
                  refine zq_ipush (pc' := 91) rfl rfl rfl ?_
                  refine zq_icne_c (pc' := 94) (lt := [(0, .ref p0), (1, .int x5), (2, .int x14), (3, .int x27), (4, .ref a38), (5, .int ((16 * x14) + x27))]) (lf := [(5, .int ((16 * x14) + x27)), (4, .ref a38), (3, .int x27), (2, .int x14), (1, .int x5), (0, .ref p0)]) rfl rfl rfl rfl (And.intro (fun c => ?_) (fun c => ?_))
                  · have H := H.1 c
                    refine zq_aload (pc' := 96) rfl rfl rfl rfl ?_
                    refine zq_iload (pc' := 98) rfl rfl rfl rfl ?_
                    refine zq_callv_c (pc' := 101) rfl rfl rfl rfl rfl (zE_mono H (fun r40 h39 H => ?_))
                    rcases r40 with v41 | e42
                    · obtain ⟨e0, H⟩ := H
                      refine And.intro e0 ?_
                      exact H
                    · exact H
                  · have H := H.2 c
                    exact H
              · exact H
            · exact H
        · exact H
  · exact H
theorem zr_X8_something_101 {d : Nat} {Q : zR → zH → Prop} {l0 : Nat} {l1 : Int32} {l2 : Int32} {l3 : Int32} {l4 : Nat} {l5 : Int32} {h : zH} (H :
    zbr (l1 = 2)
    (∃ x1, zia h l4 l5 = some x1 ∧
      zE d 2 [.int 0, .int (x1 - 1)] h (fun r3 h2 => match r3 with
        | .inl v4 => ∃ x6 : Int32, v4 = some (.int x6) ∧ ∃ h7, zis h2 l4 l5 x6 = some h7 ∧
          zW (zE d) zm_X8_something Q (122, [(0, .ref l0), (2, .int l2), (3, .int l3)], [], h7)
        | .inr e5 => Q (.inr e5) h2))
    (zW (zE d) zm_X8_something Q (122, [(0, .ref l0), (2, .int l2), (3, .int l3)], [], h))) : zW (zE d) zm_X8_something Q (101, [(0, .ref l0), (1, .int l1), (2, .int l2), (3, .int l3), (4, .ref l4), (5, .int l5)], [], h) := by
  refine zq_iload (pc' := 102) rfl rfl rfl rfl ?_
  refine zq_ipush (pc' := 103) rfl rfl rfl ?_
  refine zq_icne_c (pc' := 106) (lt := [(0, .ref l0), (2, .int l2), (3, .int l3)]) (lf := [(0, .ref l0), (1, .int l1), (2, .int l2), (3, .int l3), (4, .ref l4), (5, .int l5)]) rfl rfl rfl rfl (And.intro (fun c => ?_) (fun c => ?_))
  · have H := H.1 c
    refine zq_aload (pc' := 108) rfl rfl rfl rfl ?_
    refine zq_iload (pc' := 110) rfl rfl rfl rfl ?_
    refine zq_ipush (pc' := 111) rfl rfl rfl ?_
    refine zq_aload (pc' := 113) rfl rfl rfl rfl ?_
    refine zq_iload (pc' := 115) rfl rfl rfl rfl ?_
    obtain ⟨x1, e0, H⟩ := H
    refine zq_iald (pc' := 116) rfl rfl rfl e0 ?_
    refine zq_ipush (pc' := 117) rfl rfl rfl ?_
    refine zq_isub (pc' := 118) rfl rfl rfl ?_
    refine zq_calli (pc' := 121) rfl rfl rfl rfl rfl rfl (zE_mono H (fun r3 h2 H => ?_))
    rcases r3 with v4 | e5
    · obtain ⟨x6, e0, H⟩ := H
      refine Exists.intro x6 (And.intro e0 ?_)
      obtain ⟨h7, e0, H⟩ := H
      refine zq_iast_c (pc' := 122) rfl rfl e0 ?_
      exact H
    · exact H
  · have H := H.2 c
    exact H
theorem zr_X8_something_122 {d : Nat} {Q : zR → zH → Prop} {l0 : Nat} {l2 : Int32} {l3 : Int32} {h : zH} (H :
    zE d 251 [.ref l0, .int l2, .int l3] h (fun r2 h1 => match r2 with
      | .inl v3 => ∃ x5 : Int32, v3 = some (.int x5) ∧ zbr (x5 = 0)
        (∃ a6 : Nat, zgf h1 l0 8 29 = some (.ref a6) ∧
          ∃ x7, zia h1 a6 l2 = some x7 ∧
          ∃ h8, zis h1 a6 l2 (x7 &&& ((1 <<< (l3 &&& 31)) ^^^ (-1))) = some h8 ∧
          Q (.inl none) h8)
        (Q (.inl none) h1)
      | .inr e4 => Q (.inr e4) h1)) : zW (zE d) zm_X8_something Q (122, [(0, .ref l0), (2, .int l2), (3, .int l3)], [], h) := by
  refine zq_aload (pc' := 123) rfl rfl rfl rfl ?_
  refine zq_iload (pc' := 124) rfl rfl rfl rfl ?_
  refine zq_iload (pc' := 125) rfl rfl rfl rfl ?_
  refine zq_calli (pc' := 128) rfl rfl rfl rfl rfl rfl (zE_mono H (fun r2 h1 H => ?_))
  rcases r2 with v3 | e4
  · obtain ⟨x5, e0, H⟩ := H
    refine Exists.intro x5 (And.intro e0 ?_)
    refine zq_ifne (pc' := 131) rfl rfl rfl rfl (And.intro (fun c => ?_) (fun c => ?_))
    · have H := H.1 c
      refine zq_aload (pc' := 132) rfl rfl rfl rfl ?_
      obtain ⟨a6, e0, H⟩ := H
      refine zq_getR (pc' := 135) rfl rfl rfl e0 ?_
      refine zq_iload (pc' := 136) rfl rfl rfl rfl ?_
      refine zq_dup2 (pc' := 137) rfl rfl rfl rfl rfl ?_
      obtain ⟨x7, e0, H⟩ := H
      refine zq_iald (pc' := 138) rfl rfl rfl e0 ?_
      refine zq_ipush (pc' := 139) rfl rfl rfl ?_
      refine zq_iload (pc' := 140) rfl rfl rfl rfl ?_
      refine zq_ishl (pc' := 141) rfl rfl rfl ?_
      refine zq_ipushn (pc' := 142) rfl rfl rfl ?_
      refine zq_ixor (pc' := 143) rfl rfl rfl ?_
      refine zq_iand (pc' := 144) rfl rfl rfl ?_
      obtain ⟨h8, e0, H⟩ := H
      refine zq_iast (pc' := 145) rfl rfl rfl e0 ?_
      exact zq_vret rfl H
    · have H := H.2 c
      exact zq_vret rfl H
  · exact H
theorem zr_X8_years_0 {d : Nat} {Q : zR → zH → Prop} {p0 : Nat} {p1 : Int32} {p2 : Int32} {p3 : Int32} {h : zH} (H :
    ∃ h1, zpf h p0 8 4 (.int 0) = some h1 ∧
    zE d 217 [.long ((p3 : Int32).toInt64), .long 0, .long 2] h1 (fun r3 h2 => match r3 with
      | .inl v4 => ∃ x6 : Int32, v4 = some (.int x6) ∧ zbr (x6 = 0)
        (zE d 215 [.ref p0, .int 1] h2 (fun r8 h7 => match r8 with
            | .inl v9 => ∃ x11 : Int32, v9 = some (.int x11) ∧ Q (.inl (some (.int x11))) h7
            | .inr e10 => Q (.inr e10) h7))
        (zE d 217 [.long ((p2 : Int32).toInt64), .long 0, .long 60] h2 (fun r13 h12 => match r13 with
            | .inl v14 => ∃ x16 : Int32, v14 = some (.int x16) ∧ zbr (x16 = 0)
              (zE d 215 [.ref p0, .int 2] h12 (fun r18 h17 => match r18 with
                  | .inl v19 => ∃ x21 : Int32, v19 = some (.int x21) ∧ Q (.inl (some (.int x21))) h17
                  | .inr e20 => Q (.inr e20) h17))
              (∃ a22 : Nat, zgf h12 p0 8 39 = some (.ref a22) ∧
                zE d 249 [.ref p0, .ref a22, .int 0] h12 (fun r24 h23 => match r24 with
                  | .inl v25 => v25 = none ∧ zE d 266 [.ref p0] h23 (fun r28 h27 => match r28 with
                      | .inl v29 => v29 = none ∧ ∃ h31, zpf h27 p0 8 51 (.int p1) = some h31 ∧
                        zW (zE d) zm_X8_years Q (62, [(0, .ref p0), (2, .int p2), (3, .int p3), (4, .int 0)], [], h31)
                      | .inr e30 => Q (.inr e30) h27)
                  | .inr e26 => Q (.inr e26) h23))
            | .inr e15 => Q (.inr e15) h12))
      | .inr e5 => Q (.inr e5) h2)) : zW (zE d) zm_X8_years Q (0, [(0, .ref p0), (1, .int p1), (2, .int p2), (3, .int p3)], [], h) := by
  refine zq_aload (pc' := 1) rfl rfl rfl rfl ?_
  refine zq_ipush (pc' := 2) rfl rfl rfl ?_
  obtain ⟨h1, e0, H⟩ := H
  refine zq_put (pc' := 5) rfl rfl rfl trivial e0 ?_
  refine zq_iload (pc' := 6) rfl rfl rfl rfl ?_
  refine zq_i2l (pc' := 7) rfl rfl rfl ?_
  refine zq_lpush (pc' := 8) rfl rfl rfl ?_
  refine zq_lpush (pc' := 11) rfl rfl rfl ?_
  refine zq_calli (pc' := 14) rfl rfl rfl rfl rfl rfl (zE_mono H (fun r3 h2 H => ?_))
  rcases r3 with v4 | e5
  · obtain ⟨x6, e0, H⟩ := H
    refine Exists.intro x6 (And.intro e0 ?_)
    refine zq_ifne (pc' := 17) rfl rfl rfl rfl (And.intro (fun c => ?_) (fun c => ?_))
    · have H := H.1 c
      refine zq_aload (pc' := 18) rfl rfl rfl rfl ?_
      refine zq_ipush (pc' := 19) rfl rfl rfl ?_
      refine zq_calli (pc' := 22) rfl rfl rfl rfl rfl rfl (zE_mono H (fun r8 h7 H => ?_))
      rcases r8 with v9 | e10
      · obtain ⟨x11, e0, H⟩ := H
        refine Exists.intro x11 (And.intro e0 ?_)
        exact zq_iret rfl trivial H
      · exact H
    · have H := H.2 c
      refine zq_iload (pc' := 24) rfl rfl rfl rfl ?_
      refine zq_i2l (pc' := 25) rfl rfl rfl ?_
      refine zq_lpush (pc' := 26) rfl rfl rfl ?_
      refine zq_lpush (pc' := 29) rfl rfl rfl ?_
      refine zq_calli (pc' := 32) rfl rfl rfl rfl rfl rfl (zE_mono H (fun r13 h12 H => ?_))
      rcases r13 with v14 | e15
      · obtain ⟨x16, e0, H⟩ := H
        refine Exists.intro x16 (And.intro e0 ?_)
        refine zq_ifne (pc' := 35) rfl rfl rfl rfl (And.intro (fun c => ?_) (fun c => ?_))
        · have H := H.1 c
          refine zq_aload (pc' := 36) rfl rfl rfl rfl ?_
          refine zq_ipush (pc' := 37) rfl rfl rfl ?_
          refine zq_calli (pc' := 40) rfl rfl rfl rfl rfl rfl (zE_mono H (fun r18 h17 H => ?_))
          rcases r18 with v19 | e20
          · obtain ⟨x21, e0, H⟩ := H
            refine Exists.intro x21 (And.intro e0 ?_)
            exact zq_iret rfl trivial H
          · exact H
        · have H := H.2 c
          refine zq_aload (pc' := 42) rfl rfl rfl rfl ?_
          refine zq_aload (pc' := 43) rfl rfl rfl rfl ?_
          obtain ⟨a22, e0, H⟩ := H
          refine zq_getR (pc' := 46) rfl rfl rfl e0 ?_
          refine zq_ipush (pc' := 47) rfl rfl rfl ?_
          refine zq_callv (pc' := 50) rfl rfl rfl rfl rfl rfl (zE_mono H (fun r24 h23 H => ?_))
          rcases r24 with v25 | e26
          · obtain ⟨e0, H⟩ := H
            refine And.intro e0 ?_
            refine zq_aload (pc' := 51) rfl rfl rfl rfl ?_
            refine zq_callv (pc' := 54) rfl rfl rfl rfl rfl rfl (zE_mono H (fun r28 h27 H => ?_))
            rcases r28 with v29 | e30
            · obtain ⟨e0, H⟩ := H
              refine And.intro e0 ?_
              refine zq_aload (pc' := 55) rfl rfl rfl rfl ?_
              refine zq_iload (pc' := 56) rfl rfl rfl rfl ?_
              obtain ⟨h31, e0, H⟩ := H
              refine zq_put (pc' := 59) rfl rfl rfl trivial e0 ?_
              refine zq_ipush (pc' := 60) rfl rfl rfl ?_
              refine zq_istore_c (pc' := 62) rfl rfl ?_
              exact H
            · exact H
          · exact H
      · exact H
  · exact H
theorem zr_X8_years_62 {d : Nat} {Q : zR → zH → Prop} {l0 : Nat} {l2 : Int32} {l3 : Int32} {l4 : Int32} {h : zH} (H :
    zbr (l2 ≤ l4)
    (zW (zE d) zm_X8_years Q (89, [(0, .ref l0), (3, .int l3), (4, .int 0), (5, .int 0)], [], h))
    (zE d 327 [.ref l0] h (fun r2 h1 => match r2 with
        | .inl v3 => v3 = none ∧ zE d 265 [.ref l0, .int 1] h1 (fun r6 h5 => match r6 with
            | .inl v7 => v7 = none ∧ zW (zE d) zm_X8_years Q (62, [(0, .ref l0), (2, .int l2), (3, .int l3), (4, .int (l4 + 1))], [], h5)
            | .inr e8 => Q (.inr e8) h5)
        | .inr e4 => Q (.inr e4) h1))) : zW (zE d) zm_X8_years Q (62, [(0, .ref l0), (2, .int l2), (3, .int l3), (4, .int l4)], [], h) := by
  refine zq_iload (pc' := 64) rfl rfl rfl rfl ?_
  refine zq_iload (pc' := 65) rfl rfl rfl rfl ?_
  refine zq_icge (pc' := 68) rfl rfl rfl rfl (And.intro (fun c => ?_) (fun c => ?_))
  · have H := H.1 c
    refine zq_ipush (pc' := 84) rfl rfl rfl ?_
    refine zq_istore (pc' := 86) rfl rfl rfl ?_
    refine zq_ipush (pc' := 87) rfl rfl rfl ?_
    refine zq_istore_c (pc' := 89) rfl rfl ?_
    exact H
  · have H := H.2 c
    refine zq_aload (pc' := 69) rfl rfl rfl rfl ?_
    refine zq_callv (pc' := 72) rfl rfl rfl rfl rfl rfl (zE_mono H (fun r2 h1 H => ?_))
    rcases r2 with v3 | e4
    · obtain ⟨e0, H⟩ := H
      refine And.intro e0 ?_
      refine zq_aload (pc' := 73) rfl rfl rfl rfl ?_
      refine zq_ipush (pc' := 74) rfl rfl rfl ?_
      refine zq_callv (pc' := 77) rfl rfl rfl rfl rfl rfl (zE_mono H (fun r6 h5 H => ?_))
      rcases r6 with v7 | e8
      · obtain ⟨e0, H⟩ := H
        refine And.intro e0 ?_
        refine zq_iinc (pc' := 80) rfl rfl rfl rfl ?_
        refine zq_goto_c (pc' := 62) rfl rfl ?_
        exact H
      · exact H
    · exact H
theorem zr_X8_years_89 {d : Nat} {Q : zR → zH → Prop} {l0 : Nat} {l3 : Int32} {l4 : Int32} {l5 : Int32} {h : zH} (H :
    zbr (4 ≤ l5)
    (zbr (l3 = 0)
      (∃ a1 : Nat, zgf h l0 8 39 = some (.ref a1) ∧
        zE d 250 [.ref l0, .ref a1, .int 0] h (fun r3 h2 => match r3 with
          | .inl v4 => v4 = none ∧ Q (.inl (some (.int l4))) h2
          | .inr e5 => Q (.inr e5) h2))
      (zbr (l3 = 1)
        (zE d 257 [.ref l0] h (fun r7 h6 => match r7 with
            | .inl v8 => ∃ x10 : Int32, v8 = some (.int x10) ∧ ∃ a11 : Nat, zgf h6 l0 8 39 = some (.ref a11) ∧
              zE d 250 [.ref l0, .ref a11, .int 0] h6 (fun r13 h12 => match r13 with
                | .inl v14 => v14 = none ∧ Q (.inl (some (.int x10))) h12
                | .inr e15 => Q (.inr e15) h12)
            | .inr e9 => Q (.inr e9) h6))
        (zE d 256 [.ref l0] h (fun r17 h16 => match r17 with
            | .inl v18 => ∃ x20 : Int32, v18 = some (.int x20) ∧ ∃ a21 : Nat, zgf h16 l0 8 39 = some (.ref a21) ∧
              zE d 250 [.ref l0, .ref a21, .int 0] h16 (fun r23 h22 => match r23 with
                | .inl v24 => v24 = none ∧ Q (.inl (some (.int x20))) h22
                | .inr e25 => Q (.inr e25) h22)
            | .inr e19 => Q (.inr e19) h16))))
    (∃ a26 : Nat, zgf h l0 8 38 = some (.ref a26) ∧
      ∃ x27, zia h a26 l5 = some x27 ∧
      zW (zE d) zm_X8_years Q (89, [(0, .ref l0), (3, .int l3), (4, .int (l4 + x27)), (5, .int (l5 + 1))], [], h))) : zW (zE d) zm_X8_years Q (89, [(0, .ref l0), (3, .int l3), (4, .int l4), (5, .int l5)], [], h) := by
  refine zq_iload (pc' := 91) rfl rfl rfl rfl ?_
  refine zq_ipush (pc' := 92) rfl rfl rfl ?_
  refine zq_icge (pc' := 95) rfl rfl rfl rfl (And.intro (fun c => ?_) (fun c => ?_))
  · have H := H.1 c
    refine zq_iload (pc' := 114) rfl rfl rfl rfl ?_
    refine zq_ifne (pc' := 117) rfl rfl rfl rfl (And.intro (fun c => ?_) (fun c => ?_))
    · have H := H.1 c
      refine zq_iload (pc' := 119) rfl rfl rfl rfl ?_
      refine zq_goto (pc' := 138) rfl rfl rfl ?_
      refine zq_istore (pc' := 140) rfl rfl rfl ?_
      refine zq_aload (pc' := 141) rfl rfl rfl rfl ?_
      refine zq_aload (pc' := 142) rfl rfl rfl rfl ?_
      obtain ⟨a1, e0, H⟩ := H
      refine zq_getR (pc' := 145) rfl rfl rfl e0 ?_
      refine zq_ipush (pc' := 146) rfl rfl rfl ?_
      refine zq_callv (pc' := 149) rfl rfl rfl rfl rfl rfl (zE_mono H (fun r3 h2 H => ?_))
      rcases r3 with v4 | e5
      · obtain ⟨e0, H⟩ := H
        refine And.intro e0 ?_
        refine zq_iload (pc' := 151) rfl rfl rfl rfl ?_
        exact zq_iret rfl trivial H
      · exact H
    · have H := H.2 c
      refine zq_iload (pc' := 123) rfl rfl rfl rfl ?_
      refine zq_ipush (pc' := 124) rfl rfl rfl ?_
      refine zq_icne (pc' := 127) rfl rfl rfl rfl (And.intro (fun c => ?_) (fun c => ?_))
      · have H := H.1 c
        refine zq_aload (pc' := 128) rfl rfl rfl rfl ?_
        refine zq_calli (pc' := 131) rfl rfl rfl rfl rfl rfl (zE_mono H (fun r7 h6 H => ?_))
        rcases r7 with v8 | e9
        · obtain ⟨x10, e0, H⟩ := H
          refine Exists.intro x10 (And.intro e0 ?_)
          refine zq_goto (pc' := 138) rfl rfl rfl ?_
          refine zq_istore (pc' := 140) rfl rfl rfl ?_
          refine zq_aload (pc' := 141) rfl rfl rfl rfl ?_
          refine zq_aload (pc' := 142) rfl rfl rfl rfl ?_
          obtain ⟨a11, e0, H⟩ := H
          refine zq_getR (pc' := 145) rfl rfl rfl e0 ?_
          refine zq_ipush (pc' := 146) rfl rfl rfl ?_
          refine zq_callv (pc' := 149) rfl rfl rfl rfl rfl rfl (zE_mono H (fun r13 h12 H => ?_))
          rcases r13 with v14 | e15
          · obtain ⟨e0, H⟩ := H
            refine And.intro e0 ?_
            refine zq_iload (pc' := 151) rfl rfl rfl rfl ?_
            exact zq_iret rfl trivial H
          · exact H
        · exact H
      · have H := H.2 c
        refine zq_aload (pc' := 135) rfl rfl rfl rfl ?_
        refine zq_calli (pc' := 138) rfl rfl rfl rfl rfl rfl (zE_mono H (fun r17 h16 H => ?_))
        rcases r17 with v18 | e19
        · obtain ⟨x20, e0, H⟩ := H
          refine Exists.intro x20 (And.intro e0 ?_)
          refine zq_istore (pc' := 140) rfl rfl rfl ?_
          refine zq_aload (pc' := 141) rfl rfl rfl rfl ?_
          refine zq_aload (pc' := 142) rfl rfl rfl rfl ?_
          obtain ⟨a21, e0, H⟩ := H
          refine zq_getR (pc' := 145) rfl rfl rfl e0 ?_
          refine zq_ipush (pc' := 146) rfl rfl rfl ?_
          refine zq_callv (pc' := 149) rfl rfl rfl rfl rfl rfl (zE_mono H (fun r23 h22 H => ?_))
          rcases r23 with v24 | e25
          · obtain ⟨e0, H⟩ := H
            refine And.intro e0 ?_
            refine zq_iload (pc' := 151) rfl rfl rfl rfl ?_
            exact zq_iret rfl trivial H
          · exact H
        · exact H
  · have H := H.2 c
    refine zq_iload (pc' := 97) rfl rfl rfl rfl ?_
    refine zq_aload (pc' := 98) rfl rfl rfl rfl ?_
    obtain ⟨a26, e0, H⟩ := H
    refine zq_getR (pc' := 101) rfl rfl rfl e0 ?_
    refine zq_iload (pc' := 103) rfl rfl rfl rfl ?_
    obtain ⟨x27, e0, H⟩ := H
    refine zq_iald (pc' := 104) rfl rfl rfl e0 ?_
    refine zq_iadd (pc' := 105) rfl rfl rfl ?_
    refine zq_istore (pc' := 107) rfl rfl rfl ?_
    refine zq_iinc (pc' := 110) rfl rfl rfl rfl ?_
    refine zq_goto_c (pc' := 89) rfl rfl ?_
    exact H
theorem zr_X8_copyTo_0 {d : Nat} {Q : zR → zH → Prop} {p0 : Nat} {p1 : Nat} {h : zH} (H :
    zW (zE d) zm_X8_copyTo Q (2, [(0, .ref p0), (1, .ref p1), (2, .int 0)], [], h)) : zW (zE d) zm_X8_copyTo Q (0, [(0, .ref p0), (1, .ref p1)], [], h) := by
  refine zq_ipush (pc' := 1) rfl rfl rfl ?_
  refine zq_istore_c (pc' := 2) rfl rfl ?_
  exact H
theorem zr_X8_copyTo_2 {d : Nat} {Q : zR → zH → Prop} {l0 : Nat} {l1 : Nat} {l2 : Int32} {h : zH} (H :
    ∃ x1, zal h l0 = some x1 ∧
    zbr (x1 ≤ l2)
    (Q (.inl none) h)
    (∃ x2, zia h l1 l2 = some x2 ∧
      ∃ h3, zis h l0 l2 x2 = some h3 ∧
      zW (zE d) zm_X8_copyTo Q (2, [(0, .ref l0), (1, .ref l1), (2, .int (l2 + 1))], [], h3))) : zW (zE d) zm_X8_copyTo Q (2, [(0, .ref l0), (1, .ref l1), (2, .int l2)], [], h) := by
  refine zq_iload (pc' := 3) rfl rfl rfl rfl ?_
  refine zq_aload (pc' := 4) rfl rfl rfl rfl ?_
  obtain ⟨x1, e0, H⟩ := H
  refine zq_alen (pc' := 5) rfl rfl rfl e0 ?_
  refine zq_icge (pc' := 8) rfl rfl rfl rfl (And.intro (fun c => ?_) (fun c => ?_))
  · have H := H.1 c
    exact zq_vret rfl H
  · have H := H.2 c
    refine zq_aload (pc' := 9) rfl rfl rfl rfl ?_
    refine zq_iload (pc' := 10) rfl rfl rfl rfl ?_
    refine zq_aload (pc' := 11) rfl rfl rfl rfl ?_
    refine zq_iload (pc' := 12) rfl rfl rfl rfl ?_
    obtain ⟨x2, e0, H⟩ := H
    refine zq_iald (pc' := 13) rfl rfl rfl e0 ?_
    obtain ⟨h3, e0, H⟩ := H
    refine zq_iast (pc' := 14) rfl rfl rfl e0 ?_
    refine zq_iinc (pc' := 17) rfl rfl rfl rfl ?_
    refine zq_goto_c (pc' := 2) rfl rfl ?_
    exact H
theorem zr_X8_image_0 {d : Nat} {Q : zR → zH → Prop} {p0 : Nat} {h : zH} (H :
    ∃ h1, zpf h p0 8 4 (.int 0) = some h1 ∧
    ∃ h2, zpf h1 p0 8 52 (.int 1) = some h2 ∧
    ∃ x3 : Int32, zgf h2 p0 8 32 = some (.int x3) ∧
    ∃ h4, zpf h2 p0 8 53 (.int x3) = some h4 ∧
    ∃ x5 : Int32, zgf h4 p0 8 33 = some (.int x5) ∧
    ∃ h6, zpf h4 p0 8 54 (.int x5) = some h6 ∧
    ∃ a7 : Nat, zgf h6 p0 8 55 = some (.ref a7) ∧
    zE d 249 [.ref p0, .ref a7, .int 0] h6 (fun r9 h8 => match r9 with
      | .inl v10 => v10 = none ∧ ∃ a12 : Nat, zgf h8 p0 8 56 = some (.ref a12) ∧
        ∃ a13 : Nat, zgf h8 p0 8 30 = some (.ref a13) ∧
        zE d 329 [.ref a12, .ref a13] h8 (fun r15 h14 => match r15 with
          | .inl v16 => v16 = none ∧ ∃ a18 : Nat, zgf h14 p0 8 57 = some (.ref a18) ∧
            ∃ a19 : Nat, zgf h14 p0 8 42 = some (.ref a19) ∧
            zE d 329 [.ref a18, .ref a19] h14 (fun r21 h20 => match r21 with
              | .inl v22 => v22 = none ∧ ∃ a24 : Nat, zgf h20 p0 8 58 = some (.ref a24) ∧
                ∃ a25 : Nat, zgf h20 p0 8 43 = some (.ref a25) ∧
                zE d 329 [.ref a24, .ref a25] h20 (fun r27 h26 => match r27 with
                  | .inl v28 => v28 = none ∧ ∃ a30 : Nat, zgf h26 p0 8 59 = some (.ref a30) ∧
                    ∃ a31 : Nat, zgf h26 p0 8 44 = some (.ref a31) ∧
                    zE d 329 [.ref a30, .ref a31] h26 (fun r33 h32 => match r33 with
                      | .inl v34 => v34 = none ∧ ∃ a36 : Nat, zgf h32 p0 8 60 = some (.ref a36) ∧
                        ∃ a37 : Nat, zgf h32 p0 8 45 = some (.ref a37) ∧
                        zE d 329 [.ref a36, .ref a37] h32 (fun r39 h38 => match r39 with
                          | .inl v40 => v40 = none ∧ ∃ a42 : Nat, zgf h38 p0 8 61 = some (.ref a42) ∧
                            ∃ a43 : Nat, zgf h38 p0 8 13 = some (.ref a43) ∧
                            zE d 329 [.ref a42, .ref a43] h38 (fun r45 h44 => match r45 with
                              | .inl v46 => v46 = none ∧ Q (.inl none) h44
                              | .inr e47 => Q (.inr e47) h44)
                          | .inr e41 => Q (.inr e41) h38)
                      | .inr e35 => Q (.inr e35) h32)
                  | .inr e29 => Q (.inr e29) h26)
              | .inr e23 => Q (.inr e23) h20)
          | .inr e17 => Q (.inr e17) h14)
      | .inr e11 => Q (.inr e11) h8)) : zW (zE d) zm_X8_image Q (0, [(0, .ref p0)], [], h) := by
  refine zq_aload (pc' := 1) rfl rfl rfl rfl ?_
  refine zq_ipush (pc' := 2) rfl rfl rfl ?_
  obtain ⟨h1, e0, H⟩ := H
  refine zq_put (pc' := 5) rfl rfl rfl trivial e0 ?_
  refine zq_aload (pc' := 6) rfl rfl rfl rfl ?_
  refine zq_ipush (pc' := 7) rfl rfl rfl ?_
  obtain ⟨h2, e0, H⟩ := H
  refine zq_put (pc' := 10) rfl rfl rfl (Or.inr rfl) e0 ?_
  refine zq_aload (pc' := 11) rfl rfl rfl rfl ?_
  refine zq_aload (pc' := 12) rfl rfl rfl rfl ?_
  obtain ⟨x3, e0, H⟩ := H
  refine zq_getI (pc' := 15) rfl rfl rfl e0 ?_
  obtain ⟨h4, e0, H⟩ := H
  refine zq_put (pc' := 18) rfl rfl rfl trivial e0 ?_
  refine zq_aload (pc' := 19) rfl rfl rfl rfl ?_
  refine zq_aload (pc' := 20) rfl rfl rfl rfl ?_
  obtain ⟨x5, e0, H⟩ := H
  refine zq_getI (pc' := 23) rfl rfl rfl e0 ?_
  obtain ⟨h6, e0, H⟩ := H
  refine zq_put (pc' := 26) rfl rfl rfl trivial e0 ?_
  refine zq_aload (pc' := 27) rfl rfl rfl rfl ?_
  refine zq_aload (pc' := 28) rfl rfl rfl rfl ?_
  obtain ⟨a7, e0, H⟩ := H
  refine zq_getR (pc' := 31) rfl rfl rfl e0 ?_
  refine zq_ipush (pc' := 32) rfl rfl rfl ?_
  refine zq_callv (pc' := 35) rfl rfl rfl rfl rfl rfl (zE_mono H (fun r9 h8 H => ?_))
  rcases r9 with v10 | e11
  · obtain ⟨e0, H⟩ := H
    refine And.intro e0 ?_
    refine zq_aload (pc' := 36) rfl rfl rfl rfl ?_
    obtain ⟨a12, e0, H⟩ := H
    refine zq_getR (pc' := 39) rfl rfl rfl e0 ?_
    refine zq_aload (pc' := 40) rfl rfl rfl rfl ?_
    obtain ⟨a13, e0, H⟩ := H
    refine zq_getR (pc' := 43) rfl rfl rfl e0 ?_
    refine zq_callv (pc' := 46) rfl rfl rfl rfl rfl rfl (zE_mono H (fun r15 h14 H => ?_))
    rcases r15 with v16 | e17
    · obtain ⟨e0, H⟩ := H
      refine And.intro e0 ?_
      refine zq_aload (pc' := 47) rfl rfl rfl rfl ?_
      obtain ⟨a18, e0, H⟩ := H
      refine zq_getR (pc' := 50) rfl rfl rfl e0 ?_
      refine zq_aload (pc' := 51) rfl rfl rfl rfl ?_
      obtain ⟨a19, e0, H⟩ := H
      refine zq_getR (pc' := 54) rfl rfl rfl e0 ?_
      refine zq_callv (pc' := 57) rfl rfl rfl rfl rfl rfl (zE_mono H (fun r21 h20 H => ?_))
      rcases r21 with v22 | e23
      · obtain ⟨e0, H⟩ := H
        refine And.intro e0 ?_
        refine zq_aload (pc' := 58) rfl rfl rfl rfl ?_
        obtain ⟨a24, e0, H⟩ := H
        refine zq_getR (pc' := 61) rfl rfl rfl e0 ?_
        refine zq_aload (pc' := 62) rfl rfl rfl rfl ?_
        obtain ⟨a25, e0, H⟩ := H
        refine zq_getR (pc' := 65) rfl rfl rfl e0 ?_
        refine zq_callv (pc' := 68) rfl rfl rfl rfl rfl rfl (zE_mono H (fun r27 h26 H => ?_))
        rcases r27 with v28 | e29
        · obtain ⟨e0, H⟩ := H
          refine And.intro e0 ?_
          refine zq_aload (pc' := 69) rfl rfl rfl rfl ?_
          obtain ⟨a30, e0, H⟩ := H
          refine zq_getR (pc' := 72) rfl rfl rfl e0 ?_
          refine zq_aload (pc' := 73) rfl rfl rfl rfl ?_
          obtain ⟨a31, e0, H⟩ := H
          refine zq_getR (pc' := 76) rfl rfl rfl e0 ?_
          refine zq_callv (pc' := 79) rfl rfl rfl rfl rfl rfl (zE_mono H (fun r33 h32 H => ?_))
          rcases r33 with v34 | e35
          · obtain ⟨e0, H⟩ := H
            refine And.intro e0 ?_
            refine zq_aload (pc' := 80) rfl rfl rfl rfl ?_
            obtain ⟨a36, e0, H⟩ := H
            refine zq_getR (pc' := 83) rfl rfl rfl e0 ?_
            refine zq_aload (pc' := 84) rfl rfl rfl rfl ?_
            obtain ⟨a37, e0, H⟩ := H
            refine zq_getR (pc' := 87) rfl rfl rfl e0 ?_
            refine zq_callv (pc' := 90) rfl rfl rfl rfl rfl rfl (zE_mono H (fun r39 h38 H => ?_))
            rcases r39 with v40 | e41
            · obtain ⟨e0, H⟩ := H
              refine And.intro e0 ?_
              refine zq_aload (pc' := 91) rfl rfl rfl rfl ?_
              obtain ⟨a42, e0, H⟩ := H
              refine zq_getR (pc' := 94) rfl rfl rfl e0 ?_
              refine zq_aload (pc' := 95) rfl rfl rfl rfl ?_
              obtain ⟨a43, e0, H⟩ := H
              refine zq_getR (pc' := 98) rfl rfl rfl e0 ?_
              refine zq_callv (pc' := 101) rfl rfl rfl rfl rfl rfl (zE_mono H (fun r45 h44 H => ?_))
              rcases r45 with v46 | e47
              · obtain ⟨e0, H⟩ := H
                refine And.intro e0 ?_
                exact zq_vret rfl H
              · exact H
            · exact H
          · exact H
        · exact H
      · exact H
    · exact H
  · exact H
theorem zr_X8_restore_0 {d : Nat} {Q : zR → zH → Prop} {p0 : Nat} {h : zH} (H :
    ∃ h1, zpf h p0 8 4 (.int 0) = some h1 ∧
    ∃ x2 : Int32, zgf h1 p0 8 52 = some (.int x2) ∧
    zbr (x2 = 0)
    (Q (.inl (some (.int 0))) h1)
    (∃ x3 : Int32, zgf h1 p0 8 53 = some (.int x3) ∧
      ∃ h4, zpf h1 p0 8 32 (.int x3) = some h4 ∧
      ∃ x5 : Int32, zgf h4 p0 8 54 = some (.int x5) ∧
      ∃ h6, zpf h4 p0 8 33 (.int x5) = some h6 ∧
      ∃ a7 : Nat, zgf h6 p0 8 55 = some (.ref a7) ∧
      zE d 250 [.ref p0, .ref a7, .int 0] h6 (fun r9 h8 => match r9 with
        | .inl v10 => v10 = none ∧ ∃ a12 : Nat, zgf h8 p0 8 30 = some (.ref a12) ∧
          ∃ a13 : Nat, zgf h8 p0 8 56 = some (.ref a13) ∧
          zE d 329 [.ref a12, .ref a13] h8 (fun r15 h14 => match r15 with
            | .inl v16 => v16 = none ∧ ∃ a18 : Nat, zgf h14 p0 8 42 = some (.ref a18) ∧
              ∃ a19 : Nat, zgf h14 p0 8 57 = some (.ref a19) ∧
              zE d 329 [.ref a18, .ref a19] h14 (fun r21 h20 => match r21 with
                | .inl v22 => v22 = none ∧ ∃ a24 : Nat, zgf h20 p0 8 43 = some (.ref a24) ∧
                  ∃ a25 : Nat, zgf h20 p0 8 58 = some (.ref a25) ∧
                  zE d 329 [.ref a24, .ref a25] h20 (fun r27 h26 => match r27 with
                    | .inl v28 => v28 = none ∧ ∃ a30 : Nat, zgf h26 p0 8 44 = some (.ref a30) ∧
                      ∃ a31 : Nat, zgf h26 p0 8 59 = some (.ref a31) ∧
                      zE d 329 [.ref a30, .ref a31] h26 (fun r33 h32 => match r33 with
                        | .inl v34 => v34 = none ∧ ∃ a36 : Nat, zgf h32 p0 8 45 = some (.ref a36) ∧
                          ∃ a37 : Nat, zgf h32 p0 8 60 = some (.ref a37) ∧
                          zE d 329 [.ref a36, .ref a37] h32 (fun r39 h38 => match r39 with
                            | .inl v40 => v40 = none ∧ ∃ a42 : Nat, zgf h38 p0 8 13 = some (.ref a42) ∧
                              ∃ a43 : Nat, zgf h38 p0 8 61 = some (.ref a43) ∧
                              zE d 329 [.ref a42, .ref a43] h38 (fun r45 h44 => match r45 with
                                | .inl v46 => v46 = none ∧ Q (.inl (some (.int 1))) h44
                                | .inr e47 => Q (.inr e47) h44)
                            | .inr e41 => Q (.inr e41) h38)
                        | .inr e35 => Q (.inr e35) h32)
                    | .inr e29 => Q (.inr e29) h26)
                | .inr e23 => Q (.inr e23) h20)
            | .inr e17 => Q (.inr e17) h14)
        | .inr e11 => Q (.inr e11) h8))) : zW (zE d) zm_X8_restore Q (0, [(0, .ref p0)], [], h) := by
  refine zq_aload (pc' := 1) rfl rfl rfl rfl ?_
  refine zq_ipush (pc' := 2) rfl rfl rfl ?_
  obtain ⟨h1, e0, H⟩ := H
  refine zq_put (pc' := 5) rfl rfl rfl trivial e0 ?_
  refine zq_aload (pc' := 6) rfl rfl rfl rfl ?_
  obtain ⟨x2, e0, H⟩ := H
  refine zq_getI (pc' := 9) rfl rfl rfl e0 ?_
  refine zq_ifne (pc' := 12) rfl rfl rfl rfl (And.intro (fun c => ?_) (fun c => ?_))
  · have H := H.1 c
    refine zq_ipush (pc' := 13) rfl rfl rfl ?_
    exact zq_iret rfl (Or.inl rfl) H
  · have H := H.2 c
    refine zq_aload (pc' := 15) rfl rfl rfl rfl ?_
    refine zq_aload (pc' := 16) rfl rfl rfl rfl ?_
    obtain ⟨x3, e0, H⟩ := H
    refine zq_getI (pc' := 19) rfl rfl rfl e0 ?_
    obtain ⟨h4, e0, H⟩ := H
    refine zq_put (pc' := 22) rfl rfl rfl trivial e0 ?_
    refine zq_aload (pc' := 23) rfl rfl rfl rfl ?_
    refine zq_aload (pc' := 24) rfl rfl rfl rfl ?_
    obtain ⟨x5, e0, H⟩ := H
    refine zq_getI (pc' := 27) rfl rfl rfl e0 ?_
    obtain ⟨h6, e0, H⟩ := H
    refine zq_put (pc' := 30) rfl rfl rfl trivial e0 ?_
    refine zq_aload (pc' := 31) rfl rfl rfl rfl ?_
    refine zq_aload (pc' := 32) rfl rfl rfl rfl ?_
    obtain ⟨a7, e0, H⟩ := H
    refine zq_getR (pc' := 35) rfl rfl rfl e0 ?_
    refine zq_ipush (pc' := 36) rfl rfl rfl ?_
    refine zq_callv (pc' := 39) rfl rfl rfl rfl rfl rfl (zE_mono H (fun r9 h8 H => ?_))
    rcases r9 with v10 | e11
    · obtain ⟨e0, H⟩ := H
      refine And.intro e0 ?_
      refine zq_aload (pc' := 40) rfl rfl rfl rfl ?_
      obtain ⟨a12, e0, H⟩ := H
      refine zq_getR (pc' := 43) rfl rfl rfl e0 ?_
      refine zq_aload (pc' := 44) rfl rfl rfl rfl ?_
      obtain ⟨a13, e0, H⟩ := H
      refine zq_getR (pc' := 47) rfl rfl rfl e0 ?_
      refine zq_callv (pc' := 50) rfl rfl rfl rfl rfl rfl (zE_mono H (fun r15 h14 H => ?_))
      rcases r15 with v16 | e17
      · obtain ⟨e0, H⟩ := H
        refine And.intro e0 ?_
        refine zq_aload (pc' := 51) rfl rfl rfl rfl ?_
        obtain ⟨a18, e0, H⟩ := H
        refine zq_getR (pc' := 54) rfl rfl rfl e0 ?_
        refine zq_aload (pc' := 55) rfl rfl rfl rfl ?_
        obtain ⟨a19, e0, H⟩ := H
        refine zq_getR (pc' := 58) rfl rfl rfl e0 ?_
        refine zq_callv (pc' := 61) rfl rfl rfl rfl rfl rfl (zE_mono H (fun r21 h20 H => ?_))
        rcases r21 with v22 | e23
        · obtain ⟨e0, H⟩ := H
          refine And.intro e0 ?_
          refine zq_aload (pc' := 62) rfl rfl rfl rfl ?_
          obtain ⟨a24, e0, H⟩ := H
          refine zq_getR (pc' := 65) rfl rfl rfl e0 ?_
          refine zq_aload (pc' := 66) rfl rfl rfl rfl ?_
          obtain ⟨a25, e0, H⟩ := H
          refine zq_getR (pc' := 69) rfl rfl rfl e0 ?_
          refine zq_callv (pc' := 72) rfl rfl rfl rfl rfl rfl (zE_mono H (fun r27 h26 H => ?_))
          rcases r27 with v28 | e29
          · obtain ⟨e0, H⟩ := H
            refine And.intro e0 ?_
            refine zq_aload (pc' := 73) rfl rfl rfl rfl ?_
            obtain ⟨a30, e0, H⟩ := H
            refine zq_getR (pc' := 76) rfl rfl rfl e0 ?_
            refine zq_aload (pc' := 77) rfl rfl rfl rfl ?_
            obtain ⟨a31, e0, H⟩ := H
            refine zq_getR (pc' := 80) rfl rfl rfl e0 ?_
            refine zq_callv (pc' := 83) rfl rfl rfl rfl rfl rfl (zE_mono H (fun r33 h32 H => ?_))
            rcases r33 with v34 | e35
            · obtain ⟨e0, H⟩ := H
              refine And.intro e0 ?_
              refine zq_aload (pc' := 84) rfl rfl rfl rfl ?_
              obtain ⟨a36, e0, H⟩ := H
              refine zq_getR (pc' := 87) rfl rfl rfl e0 ?_
              refine zq_aload (pc' := 88) rfl rfl rfl rfl ?_
              obtain ⟨a37, e0, H⟩ := H
              refine zq_getR (pc' := 91) rfl rfl rfl e0 ?_
              refine zq_callv (pc' := 94) rfl rfl rfl rfl rfl rfl (zE_mono H (fun r39 h38 H => ?_))
              rcases r39 with v40 | e41
              · obtain ⟨e0, H⟩ := H
                refine And.intro e0 ?_
                refine zq_aload (pc' := 95) rfl rfl rfl rfl ?_
                obtain ⟨a42, e0, H⟩ := H
                refine zq_getR (pc' := 98) rfl rfl rfl e0 ?_
                refine zq_aload (pc' := 99) rfl rfl rfl rfl ?_
                obtain ⟨a43, e0, H⟩ := H
                refine zq_getR (pc' := 102) rfl rfl rfl e0 ?_
                refine zq_callv (pc' := 105) rfl rfl rfl rfl rfl rfl (zE_mono H (fun r45 h44 H => ?_))
                rcases r45 with v46 | e47
                · obtain ⟨e0, H⟩ := H
                  refine And.intro e0 ?_
                  refine zq_ipush (pc' := 106) rfl rfl rfl ?_
                  exact zq_iret rfl (Or.inr rfl) H
                · exact H
              · exact H
            · exact H
          · exact H
        · exact H
      · exact H
    · exact H
