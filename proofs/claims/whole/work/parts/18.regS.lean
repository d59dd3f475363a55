theorem zr_X7_init_0 {d : Nat} {Q : zR → zH → Prop} {p0 : Nat} {h : zH} (H :
    ∃ h1, zna h 2 700 = some h1 ∧
    ∃ h2, zpf h1 p0 7 0 (.ref (999 + h.1)) = some h2 ∧
    ∃ h3, zpf h2 p0 7 1 (.int 0) = some h3 ∧
    ∃ h4, znw h3 2 10 = some h4 ∧
    zE d 36 [.ref (999 + h3.1)] h4 (fun r6 h5 => match r6 with
      | .inl v7 => v7 = none ∧ ∃ h9, zpf h5 p0 7 4 (.ref (999 + h3.1)) = some h9 ∧
        ∃ h10, znw h9 2 10 = some h10 ∧
        zE d 36 [.ref (999 + h9.1)] h10 (fun r12 h11 => match r12 with
          | .inl v13 => v13 = none ∧ ∃ h15, zpf h11 p0 7 5 (.ref (999 + h9.1)) = some h15 ∧
            ∃ h16, znw h15 3 9 = some h16 ∧
            ∃ a17 : Nat, zgf h16 p0 7 0 = some (.ref a17) ∧
            ∃ a18 : Nat, zgf h16 p0 7 5 = some (.ref a18) ∧
            zE d 63 [.ref (999 + h15.1), .ref a17, .ref a18] h16 (fun r20 h19 => match r20 with
              | .inl v21 => v21 = none ∧ ∃ h23, zpf h19 p0 7 2 (.ref (999 + h15.1)) = some h23 ∧
                ∃ h24, zpf h23 p0 7 3 (.int (-1)) = some h24 ∧
                ∃ h25, znw h24 0 6 = some h25 ∧
                zE d 16 [.ref (999 + h24.1)] h25 (fun r27 h26 => match r27 with
                  | .inl v28 => v28 = none ∧ ∃ h30, zpf h26 p0 7 6 (.ref (999 + h24.1)) = some h30 ∧
                    ∃ h31, znw h30 0 6 = some h31 ∧
                    zE d 16 [.ref (999 + h30.1)] h31 (fun r33 h32 => match r33 with
                      | .inl v34 => v34 = none ∧ ∃ h36, zpf h32 p0 7 7 (.ref (999 + h30.1)) = some h36 ∧
                        ∃ h37, zpf h36 p0 7 8 (.int 0) = some h37 ∧
                        ∃ h38, zna h37 3 4 = some h38 ∧
                        ∃ h39, zpf h38 p0 7 9 (.ref (999 + h37.1)) = some h39 ∧
                        zW (zE d) zm_X7_init Q (101, [(0, .ref p0), (1, .int 0)], [], h39)
                      | .inr e35 => Q (.inr e35) h32)
                  | .inr e29 => Q (.inr e29) h26)
              | .inr e22 => Q (.inr e22) h19)
          | .inr e14 => Q (.inr e14) h11)
      | .inr e8 => Q (.inr e8) h5)) : zW (zE d) zm_X7_init Q (0, [(0, .ref p0)], [], h) := by
  refine zq_aload (pc' := 1) rfl rfl rfl rfl ?_
  refine zq_nop (pc' := 4) rfl rfl rfl rfl rfl ?_
  refine zq_aload (pc' := 5) rfl rfl rfl rfl ?_
  refine zq_ipush (pc' := 8) rfl rfl rfl ?_
  obtain ⟨h1, e0, H⟩ := H
  refine zq_newa (pc' := 10) rfl rfl rfl e0 ?_
  obtain ⟨h2, e0, H⟩ := H
  refine zq_put (pc' := 13) rfl rfl rfl trivial e0 ?_
  refine zq_aload (pc' := 14) rfl rfl rfl rfl ?_
  refine zq_ipush (pc' := 15) rfl rfl rfl ?_
  obtain ⟨h3, e0, H⟩ := H
  refine zq_put (pc' := 18) rfl rfl rfl trivial e0 ?_
  refine zq_aload (pc' := 19) rfl rfl rfl rfl ?_
  obtain ⟨h4, e0, H⟩ := H
  refine zq_new (pc' := 22) rfl rfl rfl e0 ?_
  refine zq_dup (pc' := 23) rfl rfl rfl rfl ?_
  refine zq_callv (pc' := 26) rfl rfl rfl rfl rfl rfl (zE_mono H (fun r6 h5 H => ?_))
  rcases r6 with v7 | e8
  · obtain ⟨e0, H⟩ := H
    refine And.intro e0 ?_
    obtain ⟨h9, e0, H⟩ := H
    refine zq_put (pc' := 29) rfl rfl rfl trivial e0 ?_
    refine zq_aload (pc' := 30) rfl rfl rfl rfl ?_
    obtain ⟨h10, e0, H⟩ := H
    refine zq_new (pc' := 33) rfl rfl rfl e0 ?_
    refine zq_dup (pc' := 34) rfl rfl rfl rfl ?_
    refine zq_callv (pc' := 37) rfl rfl rfl rfl rfl rfl (zE_mono H (fun r12 h11 H => ?_))
    rcases r12 with v13 | e14
    · obtain ⟨e0, H⟩ := H
      refine And.intro e0 ?_
      obtain ⟨h15, e0, H⟩ := H
      refine zq_put (pc' := 40) rfl rfl rfl trivial e0 ?_
      refine zq_aload (pc' := 41) rfl rfl rfl rfl ?_
      obtain ⟨h16, e0, H⟩ := H
      refine zq_new (pc' := 44) rfl rfl rfl e0 ?_
      refine zq_dup (pc' := 45) rfl rfl rfl rfl ?_
      refine zq_aload (pc' := 46) rfl rfl rfl rfl ?_
      obtain ⟨a17, e0, H⟩ := H
      refine zq_getR (pc' := 49) rfl rfl rfl e0 ?_
      refine zq_aload (pc' := 50) rfl rfl rfl rfl ?_
      obtain ⟨a18, e0, H⟩ := H
      refine zq_getR (pc' := 53) rfl rfl rfl e0 ?_
      refine zq_callv (pc' := 56) rfl rfl rfl rfl rfl rfl (zE_mono H (fun r20 h19 H => ?_))
      rcases r20 with v21 | e22
      · obtain ⟨e0, H⟩ := H
        refine And.intro e0 ?_
        obtain ⟨h23, e0, H⟩ := H
        refine zq_put (pc' := 59) rfl rfl rfl trivial e0 ?_
        refine zq_aload (pc' := 60) rfl rfl rfl rfl ?_
        refine zq_ipushn (pc' := 61) rfl rfl rfl ?_
        obtain ⟨h24, e0, H⟩ := H
        refine zq_put (pc' := 64) rfl rfl rfl trivial e0 ?_
        refine zq_aload (pc' := 65) rfl rfl rfl rfl ?_
        obtain ⟨h25, e0, H⟩ := H
        refine zq_new (pc' := 68) rfl rfl rfl e0 ?_
        refine zq_dup (pc' := 69) rfl rfl rfl rfl ?_
        refine zq_callv (pc' := 72) rfl rfl rfl rfl rfl rfl (zE_mono H (fun r27 h26 H => ?_))
        rcases r27 with v28 | e29
        · obtain ⟨e0, H⟩ := H
          refine And.intro e0 ?_
          obtain ⟨h30, e0, H⟩ := H
          refine zq_put (pc' := 75) rfl rfl rfl trivial e0 ?_
          refine zq_aload (pc' := 76) rfl rfl rfl rfl ?_
          obtain ⟨h31, e0, H⟩ := H
          refine zq_new (pc' := 79) rfl rfl rfl e0 ?_
          refine zq_dup (pc' := 80) rfl rfl rfl rfl ?_
          refine zq_callv (pc' := 83) rfl rfl rfl rfl rfl rfl (zE_mono H (fun r33 h32 H => ?_))
          rcases r33 with v34 | e35
          · obtain ⟨e0, H⟩ := H
            refine And.intro e0 ?_
            obtain ⟨h36, e0, H⟩ := H
            refine zq_put (pc' := 86) rfl rfl rfl trivial e0 ?_
            refine zq_aload (pc' := 87) rfl rfl rfl rfl ?_
            refine zq_ipush (pc' := 88) rfl rfl rfl ?_
            obtain ⟨h37, e0, H⟩ := H
            refine zq_put (pc' := 91) rfl rfl rfl (Or.inl rfl) e0 ?_
            refine zq_aload (pc' := 92) rfl rfl rfl rfl ?_
            refine zq_ipush (pc' := 93) rfl rfl rfl ?_
            obtain ⟨h38, e0, H⟩ := H
            refine zq_newa (pc' := 96) rfl rfl rfl e0 ?_
            obtain ⟨h39, e0, H⟩ := H
            refine zq_put (pc' := 99) rfl rfl rfl trivial e0 ?_
            refine zq_ipush (pc' := 100) rfl rfl rfl ?_
            refine zq_istore_c (pc' := 101) rfl rfl ?_
            exact H
          · exact H
        · exact H
      · exact H
    · exact H
  · exact H
theorem zr_X7_init_101 {d : Nat} {Q : zR → zH → Prop} {l0 : Nat} {l1 : Int32} {h : zH} (H :
    ∃ a1 : Nat, zgf h l0 7 9 = some (.ref a1) ∧
    ∃ x2, zal h a1 = some x2 ∧
    zbr (x2 ≤ l1)
    (∃ h3, zna h 0 4 = some h3 ∧
      ∃ h4, zpf h3 l0 7 10 (.ref (999 + h.1)) = some h4 ∧
      ∃ h5, znw h4 5 1 = some h5 ∧
      zE d 98 [.ref (999 + h4.1)] h5 (fun r7 h6 => match r7 with
        | .inl v8 => v8 = none ∧ ∃ h10, zpf h6 l0 7 11 (.ref (999 + h4.1)) = some h10 ∧
          ∃ h11, znw h10 1 1 = some h11 ∧
          zE d 33 [.ref (999 + h10.1)] h11 (fun r13 h12 => match r13 with
            | .inl v14 => v14 = none ∧ ∃ h16, zpf h12 l0 7 12 (.ref (999 + h10.1)) = some h16 ∧
              Q (.inl none) h16
            | .inr e15 => Q (.inr e15) h12)
        | .inr e9 => Q (.inr e9) h6))
    (∃ a17 : Nat, zgf h l0 7 9 = some (.ref a17) ∧
      ∃ h18, znw h 6 7 = some h18 ∧
      zE d 106 [.ref (999 + h.1)] h18 (fun r20 h19 => match r20 with
        | .inl v21 => v21 = none ∧ ∃ h23, zas h19 a17 l1 (999 + h.1) = some h23 ∧
          zW (zE d) zm_X7_init Q (101, [(0, .ref l0), (1, .int (l1 + 1))], [], h23)
        | .inr e22 => Q (.inr e22) h19))) : zW (zE d) zm_X7_init Q (101, [(0, .ref l0), (1, .int l1)], [], h) := by
  refine zq_iload (pc' := 102) rfl rfl rfl rfl ?_
  refine zq_aload (pc' := 103) rfl rfl rfl rfl ?_
  obtain ⟨a1, e0, H⟩ := H
  refine zq_getR (pc' := 106) rfl rfl rfl e0 ?_
  obtain ⟨x2, e0, H⟩ := H
  refine zq_alen (pc' := 107) rfl rfl rfl e0 ?_
  refine zq_icge (pc' := 110) rfl rfl rfl rfl (And.intro (fun c => ?_) (fun c => ?_))
  · have H := H.1 c
    refine zq_aload (pc' := 130) rfl rfl rfl rfl ?_
    refine zq_ipush (pc' := 131) rfl rfl rfl ?_
    obtain ⟨h3, e0, H⟩ := H
    refine zq_newa (pc' := 133) rfl rfl rfl e0 ?_
    obtain ⟨h4, e0, H⟩ := H
    refine zq_put (pc' := 136) rfl rfl rfl trivial e0 ?_
    refine zq_aload (pc' := 137) rfl rfl rfl rfl ?_
    obtain ⟨h5, e0, H⟩ := H
    refine zq_new (pc' := 140) rfl rfl rfl e0 ?_
    refine zq_dup (pc' := 141) rfl rfl rfl rfl ?_
    refine zq_callv (pc' := 144) rfl rfl rfl rfl rfl rfl (zE_mono H (fun r7 h6 H => ?_))
    rcases r7 with v8 | e9
    · obtain ⟨e0, H⟩ := H
      refine And.intro e0 ?_
      obtain ⟨h10, e0, H⟩ := H
      refine zq_put (pc' := 147) rfl rfl rfl trivial e0 ?_
      refine zq_aload (pc' := 148) rfl rfl rfl rfl ?_
      obtain ⟨h11, e0, H⟩ := H
      refine zq_new (pc' := 151) rfl rfl rfl e0 ?_
      refine zq_dup (pc' := 152) rfl rfl rfl rfl ?_
      refine zq_callv (pc' := 155) rfl rfl rfl rfl rfl rfl (zE_mono H (fun r13 h12 H => ?_))
      rcases r13 with v14 | e15
      · obtain ⟨e0, H⟩ := H
        refine And.intro e0 ?_
        obtain ⟨h16, e0, H⟩ := H
        refine zq_put (pc' := 158) rfl rfl rfl trivial e0 ?_
        exact zq_vret rfl H
      · exact H
    · exact H
  · have H := H.2 c
    refine zq_aload (pc' := 111) rfl rfl rfl rfl ?_
    obtain ⟨a17, e0, H⟩ := H
    refine zq_getR (pc' := 114) rfl rfl rfl e0 ?_
    refine zq_iload (pc' := 115) rfl rfl rfl rfl ?_
    obtain ⟨h18, e0, H⟩ := H
    refine zq_new (pc' := 118) rfl rfl rfl e0 ?_
    refine zq_dup (pc' := 119) rfl rfl rfl rfl ?_
    refine zq_callv (pc' := 122) rfl rfl rfl rfl rfl rfl (zE_mono H (fun r20 h19 H => ?_))
    rcases r20 with v21 | e22
    · obtain ⟨e0, H⟩ := H
      refine And.intro e0 ?_
      obtain ⟨h23, e0, H⟩ := H
      refine zq_aast (pc' := 123) rfl rfl rfl e0 ?_
      refine zq_iinc (pc' := 126) rfl rfl rfl rfl ?_
      refine zq_goto_c (pc' := 101) rfl rfl ?_
      exact H
    · exact H
theorem zr_X7_feed_0 {d : Nat} {Q : zR → zH → Prop} {p0 : Nat} {p1 : Int32} {p2 : Int32} {p3 : Int32} {p4 : Int32} {p5 : Int32} {h : zH} (H :
    ∃ x1 : Int32, zgf h p0 7 1 = some (.int x1) ∧
    zbr ((x1 + 20) ≤ 700)
    (zE d 145 [.ref p0, .int p1] h (fun r3 h2 => match r3 with
        | .inl v4 => v4 = none ∧ zE d 145 [.ref p0, .int p2] h2 (fun r7 h6 => match r7 with
            | .inl v8 => v8 = none ∧ zE d 145 [.ref p0, .int p3] h6 (fun r11 h10 => match r11 with
                | .inl v12 => v12 = none ∧ zE d 145 [.ref p0, .int p4] h10 (fun r15 h14 => match r15 with
                    | .inl v16 => v16 = none ∧ zE d 145 [.ref p0, .int p5] h14 (fun r19 h18 => match r19 with
                        | .inl v20 => v20 = none ∧ ∃ x22 : Int32, zgf h18 p0 7 1 = some (.int x22) ∧
                          Q (.inl (some (.int x22))) h18
                        | .inr e21 => Q (.inr e21) h18)
                    | .inr e17 => Q (.inr e17) h14)
                | .inr e13 => Q (.inr e13) h10)
            | .inr e9 => Q (.inr e9) h6)
        | .inr e5 => Q (.inr e5) h2))
    (Q (.inl (some (.int (-1)))) h)) : zW (zE d) zm_X7_feed Q (0, [(0, .ref p0), (1, .int p1), (2, .int p2), (3, .int p3), (4, .int p4), (5, .int p5)], [], h) := by
  refine zq_aload (pc' := 1) rfl rfl rfl rfl ?_
  obtain ⟨x1, e0, H⟩ := H
  refine zq_getI (pc' := 4) rfl rfl rfl e0 ?_
  refine zq_ipush (pc' := 6) rfl rfl rfl ?_
  refine zq_iadd (pc' := 7) rfl rfl rfl ?_
  refine zq_ipush (pc' := 10) rfl rfl rfl ?_
  refine zq_icle (pc' := 13) rfl rfl rfl rfl (And.intro (fun c => ?_) (fun c => ?_))
  · have H := H.1 c
    refine zq_aload (pc' := 16) rfl rfl rfl rfl ?_
    refine zq_iload (pc' := 17) rfl rfl rfl rfl ?_
    refine zq_callv (pc' := 20) rfl rfl rfl rfl rfl rfl (zE_mono H (fun r3 h2 H => ?_))
    rcases r3 with v4 | e5
    · obtain ⟨e0, H⟩ := H
      refine And.intro e0 ?_
      refine zq_aload (pc' := 21) rfl rfl rfl rfl ?_
      refine zq_iload (pc' := 22) rfl rfl rfl rfl ?_
      refine zq_callv (pc' := 25) rfl rfl rfl rfl rfl rfl (zE_mono H (fun r7 h6 H => ?_))
      rcases r7 with v8 | e9
      · obtain ⟨e0, H⟩ := H
        refine And.intro e0 ?_
        refine zq_aload (pc' := 26) rfl rfl rfl rfl ?_
        refine zq_iload (pc' := 27) rfl rfl rfl rfl ?_
        refine zq_callv (pc' := 30) rfl rfl rfl rfl rfl rfl (zE_mono H (fun r11 h10 H => ?_))
        rcases r11 with v12 | e13
        · obtain ⟨e0, H⟩ := H
          refine And.intro e0 ?_
          refine zq_aload (pc' := 31) rfl rfl rfl rfl ?_
          refine zq_iload (pc' := 33) rfl rfl rfl rfl ?_
          refine zq_callv (pc' := 36) rfl rfl rfl rfl rfl rfl (zE_mono H (fun r15 h14 H => ?_))
          rcases r15 with v16 | e17
          · obtain ⟨e0, H⟩ := H
            refine And.intro e0 ?_
            refine zq_aload (pc' := 37) rfl rfl rfl rfl ?_
            refine zq_iload (pc' := 39) rfl rfl rfl rfl ?_
            refine zq_callv (pc' := 42) rfl rfl rfl rfl rfl rfl (zE_mono H (fun r19 h18 H => ?_))
            rcases r19 with v20 | e21
            · obtain ⟨e0, H⟩ := H
              refine And.intro e0 ?_
              refine zq_aload (pc' := 43) rfl rfl rfl rfl ?_
              obtain ⟨x22, e0, H⟩ := H
              refine zq_getI (pc' := 46) rfl rfl rfl e0 ?_
              exact zq_iret rfl trivial H
            · exact H
          · exact H
        · exact H
      · exact H
    · exact H
  · have H := H.2 c
    refine zq_ipushn (pc' := 14) rfl rfl rfl ?_
    exact zq_iret rfl trivial H
theorem zr_X7_putBytes_0 {d : Nat} {Q : zR → zH → Prop} {p0 : Nat} {p1 : Int32} {h : zH} (H :
    zW (zE d) zm_X7_putBytes Q (3, [(0, .ref p0), (1, .int p1), (2, .int 24)], [], h)) : zW (zE d) zm_X7_putBytes Q (0, [(0, .ref p0), (1, .int p1)], [], h) := by
  refine zq_ipush (pc' := 2) rfl rfl rfl ?_
  refine zq_istore_c (pc' := 3) rfl rfl ?_
  exact H
theorem zr_X7_putBytes_3 {d : Nat} {Q : zR → zH → Prop} {l0 : Nat} {l1 : Int32} {l2 : Int32} {h : zH} (H :
    zbr (l2 < 0)
    (Q (.inl none) h)
    (∃ x1 : Int32, zgf h l0 7 1 = some (.int x1) ∧
      zbr (x1 < 0)
      (zW (zE d) zm_X7_putBytes Q (3, [(0, .ref l0), (1, .int l1), (2, .int (l2 + (-8)))], [], h))
      (∃ x2 : Int32, zgf h l0 7 1 = some (.int x2) ∧
        ∃ a3 : Nat, zgf h l0 7 0 = some (.ref a3) ∧
        ∃ x4, zal h a3 = some x4 ∧
        zbr (x4 ≤ x2)
        (zW (zE d) zm_X7_putBytes Q (3, [(0, .ref l0), (1, .int l1), (2, .int (l2 + (-8)))], [], h))
        (∃ a5 : Nat, zgf h l0 7 0 = some (.ref a5) ∧
          ∃ x6 : Int32, zgf h l0 7 1 = some (.int x6) ∧
          ∃ h7, zbs h a5 x6 ((l1 >>> (l2 &&& 31) : Int32).toInt8.toInt32) = some h7 ∧
          ∃ x8 : Int32, zgf h7 l0 7 1 = some (.int x8) ∧
          ∃ h9, zpf h7 l0 7 1 (.int (x8 + 1)) = some h9 ∧
          zW (zE d) zm_X7_putBytes Q (3, [(0, .ref l0), (1, .int l1), (2, .int (l2 + (-8)))], [], h9))))) : zW (zE d) zm_X7_putBytes Q (3, [(0, .ref l0), (1, .int l1), (2, .int l2)], [], h) := by
  refine zq_iload (pc' := 4) rfl rfl rfl rfl ?_
  refine zq_iflt (pc' := 7) rfl rfl rfl rfl (And.intro (fun c => ?_) (fun c => ?_))
  · have H := H.1 c
    exact zq_vret rfl H
  · have H := H.2 c
    refine zq_aload (pc' := 8) rfl rfl rfl rfl ?_
    obtain ⟨x1, e0, H⟩ := H
    refine zq_getI (pc' := 11) rfl rfl rfl e0 ?_
    refine zq_iflt (pc' := 14) rfl rfl rfl rfl (And.intro (fun c => ?_) (fun c => ?_))
    · have H := H.1 c
      refine zq_iincn (pc' := 52) rfl rfl rfl rfl ?_
      refine zq_goto_c (pc' := 3) rfl rfl ?_
      exact H
    · have H := H.2 c
      refine zq_aload (pc' := 15) rfl rfl rfl rfl ?_
      obtain ⟨x2, e0, H⟩ := H
      refine zq_getI (pc' := 18) rfl rfl rfl e0 ?_
      refine zq_aload (pc' := 19) rfl rfl rfl rfl ?_
      obtain ⟨a3, e0, H⟩ := H
      refine zq_getR (pc' := 22) rfl rfl rfl e0 ?_
      obtain ⟨x4, e0, H⟩ := H
      refine zq_alen (pc' := 23) rfl rfl rfl e0 ?_
      refine zq_icge (pc' := 26) rfl rfl rfl rfl (And.intro (fun c => ?_) (fun c => ?_))
      · have H := H.1 c
        refine zq_iincn (pc' := 52) rfl rfl rfl rfl ?_
        refine zq_goto_c (pc' := 3) rfl rfl ?_
        exact H
      · have H := H.2 c
        refine zq_aload (pc' := 27) rfl rfl rfl rfl ?_
        obtain ⟨a5, e0, H⟩ := H
        refine zq_getR (pc' := 30) rfl rfl rfl e0 ?_
        refine zq_aload (pc' := 31) rfl rfl rfl rfl ?_
        obtain ⟨x6, e0, H⟩ := H
        refine zq_getI (pc' := 34) rfl rfl rfl e0 ?_
        refine zq_iload (pc' := 35) rfl rfl rfl rfl ?_
        refine zq_iload (pc' := 36) rfl rfl rfl rfl ?_
        refine zq_ishr (pc' := 37) rfl rfl rfl ?_
        refine zq_i2b (pc' := 38) rfl rfl rfl ?_
        obtain ⟨h7, e0, H⟩ := H
        refine zq_bast (pc' := 39) rfl rfl rfl e0 ?_
        refine zq_aload (pc' := 40) rfl rfl rfl rfl ?_
        refine zq_dup (pc' := 41) rfl rfl rfl rfl ?_
        obtain ⟨x8, e0, H⟩ := H
        refine zq_getI (pc' := 44) rfl rfl rfl e0 ?_
        refine zq_ipush (pc' := 45) rfl rfl rfl ?_
        refine zq_iadd (pc' := 46) rfl rfl rfl ?_
        obtain ⟨h9, e0, H⟩ := H
        refine zq_put (pc' := 49) rfl rfl rfl trivial e0 ?_
        refine zq_iincn (pc' := 52) rfl rfl rfl rfl ?_
        refine zq_goto_c (pc' := 3) rfl rfl ?_
        exact H
theorem zr_X7_drawer_0 {d : Nat} {Q : zR → zH → Prop} {p0 : Nat} {p1 : Int32} {h : zH} (H :
    zbr (p1 < 0)
    (∃ h1, znx h = some h1 ∧ Q (.inr 0) h1)
    (∃ x2 : Int32, zgf h p0 7 1 = some (.int x2) ∧
      zbr (p1 ≤ x2)
      (∃ a3 : Nat, zgf h p0 7 2 = some (.ref a3) ∧
        ∃ a4 : Nat, zgf h p0 7 5 = some (.ref a4) ∧
        zE d 65 [.ref a3, .int p1, .ref a4] h (fun r6 h5 => match r6 with
          | .inl v7 => ∃ x9 : Int32, v7 = some (.int x9) ∧ ∃ h10, zpf h5 p0 7 1 (.int 0) = some h10 ∧
            zbr (x9 = 0)
            (∃ h11, zpf h10 p0 7 3 (.int (-1)) = some h11 ∧
              ∃ a12 : Nat, zgf h11 p0 7 5 = some (.ref a12) ∧
              ∃ a13 : Nat, zgf h11 p0 7 4 = some (.ref a13) ∧
              ∃ h14, zpf h11 p0 7 5 (.ref a13) = some h14 ∧
              ∃ h15, zpf h14 p0 7 4 (.ref a12) = some h15 ∧
              ∃ a16 : Nat, zgf h15 p0 7 6 = some (.ref a16) ∧
              zE d 21 [.ref a16] h15 (fun r18 h17 => match r18 with
                | .inl v19 => v19 = none ∧ ∃ a21 : Nat, zgf h17 p0 7 6 = some (.ref a21) ∧
                  zE d 22 [.ref a21] h17 (fun r23 h22 => match r23 with
                    | .inl v24 => v24 = none ∧ ∃ h26, zpf h22 p0 7 8 (.int 0) = some h26 ∧
                      Q (.inl (some (.int 0))) h26
                    | .inr e25 => Q (.inr e25) h22)
                | .inr e20 => Q (.inr e20) h17))
            (∃ a27 : Nat, zgf h10 p0 7 2 = some (.ref a27) ∧
              zE d 64 [.ref a27] h10 (fun r29 h28 => match r29 with
                | .inl v30 => ∃ x32 : Int32, v30 = some (.int x32) ∧ ∃ h33, zpf h28 p0 7 3 (.int x32) = some h33 ∧
                  ∃ a34 : Nat, zgf h33 p0 7 6 = some (.ref a34) ∧
                  zE d 20 [.ref a34, .int 0] h33 (fun r36 h35 => match r36 with
                    | .inl v37 => v37 = none ∧ Q (.inl (some (.int x9))) h35
                    | .inr e38 => Q (.inr e38) h35)
                | .inr e31 => Q (.inr e31) h28))
          | .inr e8 => Q (.inr e8) h5))
      (∃ h39, znx h = some h39 ∧ Q (.inr 0) h39))) : zW (zE d) zm_X7_drawer Q (0, [(0, .ref p0), (1, .int p1)], [], h) := by
  refine zq_iload (pc' := 1) rfl rfl rfl rfl ?_
  refine zq_iflt (pc' := 4) rfl rfl rfl rfl (And.intro (fun c => ?_) (fun c => ?_))
  · have H := H.1 c
    obtain ⟨h1, e0, H⟩ := H
    exact zq_throw rfl rfl e0 H
  · have H := H.2 c
    refine zq_iload (pc' := 5) rfl rfl rfl rfl ?_
    refine zq_aload (pc' := 6) rfl rfl rfl rfl ?_
    obtain ⟨x2, e0, H⟩ := H
    refine zq_getI (pc' := 9) rfl rfl rfl e0 ?_
    refine zq_icle (pc' := 12) rfl rfl rfl rfl (And.intro (fun c => ?_) (fun c => ?_))
    · have H := H.1 c
      refine zq_aload (pc' := 23) rfl rfl rfl rfl ?_
      obtain ⟨a3, e0, H⟩ := H
      refine zq_getR (pc' := 26) rfl rfl rfl e0 ?_
      refine zq_iload (pc' := 27) rfl rfl rfl rfl ?_
      refine zq_aload (pc' := 28) rfl rfl rfl rfl ?_
      obtain ⟨a4, e0, H⟩ := H
      refine zq_getR (pc' := 31) rfl rfl rfl e0 ?_
      refine zq_calli (pc' := 34) rfl rfl rfl rfl rfl rfl (zE_mono H (fun r6 h5 H => ?_))
      rcases r6 with v7 | e8
      · obtain ⟨x9, e0, H⟩ := H
        refine Exists.intro x9 (And.intro e0 ?_)
        refine zq_istore (pc' := 35) rfl rfl rfl ?_
        refine zq_aload (pc' := 36) rfl rfl rfl rfl ?_
        refine zq_ipush (pc' := 37) rfl rfl rfl ?_
        obtain ⟨h10, e0, H⟩ := H
        refine zq_put (pc' := 40) rfl rfl rfl trivial e0 ?_
        refine zq_iload (pc' := 41) rfl rfl rfl rfl ?_
        refine zq_ifeq (pc' := 44) rfl rfl rfl rfl (And.intro (fun c => ?_) (fun c => ?_))
        · have H := H.1 c
          refine zq_aload (pc' := 66) rfl rfl rfl rfl ?_
          refine zq_ipushn (pc' := 67) rfl rfl rfl ?_
          obtain ⟨h11, e0, H⟩ := H
          refine zq_put (pc' := 70) rfl rfl rfl trivial e0 ?_
          refine zq_aload (pc' := 71) rfl rfl rfl rfl ?_
          obtain ⟨a12, e0, H⟩ := H
          refine zq_getR (pc' := 74) rfl rfl rfl e0 ?_
          refine zq_astore (pc' := 75) rfl rfl rfl ?_
          refine zq_aload (pc' := 76) rfl rfl rfl rfl ?_
          refine zq_aload (pc' := 77) rfl rfl rfl rfl ?_
          obtain ⟨a13, e0, H⟩ := H
          refine zq_getR (pc' := 80) rfl rfl rfl e0 ?_
          obtain ⟨h14, e0, H⟩ := H
          refine zq_put (pc' := 83) rfl rfl rfl trivial e0 ?_
          refine zq_aload (pc' := 84) rfl rfl rfl rfl ?_
          refine zq_aload (pc' := 85) rfl rfl rfl rfl ?_
          obtain ⟨h15, e0, H⟩ := H
          refine zq_put (pc' := 88) rfl rfl rfl trivial e0 ?_
          refine zq_aload (pc' := 89) rfl rfl rfl rfl ?_
          obtain ⟨a16, e0, H⟩ := H
          refine zq_getR (pc' := 92) rfl rfl rfl e0 ?_
          refine zq_callv (pc' := 95) rfl rfl rfl rfl rfl rfl (zE_mono H (fun r18 h17 H => ?_))
          rcases r18 with v19 | e20
          · obtain ⟨e0, H⟩ := H
            refine And.intro e0 ?_
            refine zq_aload (pc' := 96) rfl rfl rfl rfl ?_
            obtain ⟨a21, e0, H⟩ := H
            refine zq_getR (pc' := 99) rfl rfl rfl e0 ?_
            refine zq_callv (pc' := 102) rfl rfl rfl rfl rfl rfl (zE_mono H (fun r23 h22 H => ?_))
            rcases r23 with v24 | e25
            · obtain ⟨e0, H⟩ := H
              refine And.intro e0 ?_
              refine zq_aload (pc' := 103) rfl rfl rfl rfl ?_
              refine zq_ipush (pc' := 104) rfl rfl rfl ?_
              obtain ⟨h26, e0, H⟩ := H
              refine zq_put (pc' := 107) rfl rfl rfl (Or.inl rfl) e0 ?_
              refine zq_ipush (pc' := 108) rfl rfl rfl ?_
              exact zq_iret rfl trivial H
            · exact H
          · exact H
        · have H := H.2 c
          refine zq_aload (pc' := 45) rfl rfl rfl rfl ?_
          refine zq_aload (pc' := 46) rfl rfl rfl rfl ?_
          obtain ⟨a27, e0, H⟩ := H
          refine zq_getR (pc' := 49) rfl rfl rfl e0 ?_
          refine zq_calli (pc' := 52) rfl rfl rfl rfl rfl rfl (zE_mono H (fun r29 h28 H => ?_))
          rcases r29 with v30 | e31
          · obtain ⟨x32, e0, H⟩ := H
            refine Exists.intro x32 (And.intro e0 ?_)
            obtain ⟨h33, e0, H⟩ := H
            refine zq_put (pc' := 55) rfl rfl rfl trivial e0 ?_
            refine zq_aload (pc' := 56) rfl rfl rfl rfl ?_
            obtain ⟨a34, e0, H⟩ := H
            refine zq_getR (pc' := 59) rfl rfl rfl e0 ?_
            refine zq_ipush (pc' := 60) rfl rfl rfl ?_
            refine zq_callv (pc' := 63) rfl rfl rfl rfl rfl rfl (zE_mono H (fun r36 h35 H => ?_))
            rcases r36 with v37 | e38
            · obtain ⟨e0, H⟩ := H
              refine And.intro e0 ?_
              refine zq_iload (pc' := 64) rfl rfl rfl rfl ?_
              exact zq_iret rfl trivial H
            · exact H
          · exact H
      · exact H
    · have H := H.2 c
      obtain ⟨h39, e0, H⟩ := H
      exact zq_throw rfl rfl e0 H
theorem zr_X7_fault_0 {d : Nat} {Q : zR → zH → Prop} {p0 : Nat} {h : zH} (H :
    ∃ x1 : Int32, zgf h p0 7 3 = some (.int x1) ∧
    Q (.inl (some (.int x1))) h) : zW (zE d) zm_X7_fault Q (0, [(0, .ref p0)], [], h) := by
  refine zq_aload (pc' := 1) rfl rfl rfl rfl ?_
  obtain ⟨x1, e0, H⟩ := H
  refine zq_getI (pc' := 4) rfl rfl rfl e0 ?_
  exact zq_iret rfl trivial H
theorem zr_X7_count_0 {d : Nat} {Q : zR → zH → Prop} {p0 : Nat} {p1 : Int32} {h : zH} (H :
    zbr (p1 = nI 0)
    (∃ a1 : Nat, zgf h p0 7 4 = some (.ref a1) ∧
      zE d 46 [.ref a1] h (fun r3 h2 => match r3 with
        | .inl v4 => ∃ x6 : Int32, v4 = some (.int x6) ∧ Q (.inl (some (.int x6))) h2
        | .inr e5 => Q (.inr e5) h2))
    (zbr (p1 = nI 1)
    (∃ a7 : Nat, zgf h p0 7 4 = some (.ref a7) ∧
      zE d 49 [.ref a7] h (fun r9 h8 => match r9 with
        | .inl v10 => ∃ x12 : Int32, v10 = some (.int x12) ∧ Q (.inl (some (.int x12))) h8
        | .inr e11 => Q (.inr e11) h8))
    (zbr (p1 = nI 2)
    (∃ a13 : Nat, zgf h p0 7 4 = some (.ref a13) ∧
      ∃ a14 : Nat, zgf h p0 7 4 = some (.ref a14) ∧
      zE d 49 [.ref a14] h (fun r16 h15 => match r16 with
        | .inl v17 => ∃ x19 : Int32, v17 = some (.int x19) ∧ zE d 53 [.ref a13, .int x19] h15 (fun r21 h20 => match r21 with
            | .inl v22 => ∃ x24 : Int32, v22 = some (.int x24) ∧ Q (.inl (some (.int x24))) h20
            | .inr e23 => Q (.inr e23) h20)
        | .inr e18 => Q (.inr e18) h15))
    (zbr (p1 = nI 3)
    (∃ a25 : Nat, zgf h p0 7 4 = some (.ref a25) ∧
      zE d 55 [.ref a25] h (fun r27 h26 => match r27 with
        | .inl v28 => ∃ x30 : Int32, v28 = some (.int x30) ∧ Q (.inl (some (.int x30))) h26
        | .inr e29 => Q (.inr e29) h26))
    (zbr (p1 = nI 4)
    (∃ a31 : Nat, zgf h p0 7 4 = some (.ref a31) ∧
      zE d 56 [.ref a31] h (fun r33 h32 => match r33 with
        | .inl v34 => ∃ x36 : Int32, v34 = some (.int x36) ∧ Q (.inl (some (.int x36))) h32
        | .inr e35 => Q (.inr e35) h32))
    (zbr (p1 = nI 5)
    (zE d 149 [.ref p0] h (fun r38 h37 => match r38 with
        | .inl v39 => ∃ x41 : Int32, v39 = some (.int x41) ∧ Q (.inl (some (.int x41))) h37
        | .inr e40 => Q (.inr e40) h37))
    (zbr (p1 = nI 6)
    (∃ a42 : Nat, zgf h p0 7 6 = some (.ref a42) ∧
      zE d 17 [.ref a42] h (fun r44 h43 => match r44 with
        | .inl v45 => ∃ x47 : Int32, v45 = some (.int x47) ∧ Q (.inl (some (.int x47))) h43
        | .inr e46 => Q (.inr e46) h43))
    (zbr (p1 = nI 7)
    (∃ a48 : Nat, zgf h p0 7 6 = some (.ref a48) ∧
      zE d 18 [.ref a48] h (fun r50 h49 => match r50 with
        | .inl v51 => ∃ x53 : Int32, v51 = some (.int x53) ∧ Q (.inl (some (.int x53))) h49
        | .inr e52 => Q (.inr e52) h49))
    (zbr (p1 = nI 8)
    (∃ x54 : Int32, zgf h p0 7 1 = some (.int x54) ∧
      Q (.inl (some (.int x54))) h)
    (zbr (p1 = nI 9)
    (∃ a55 : Nat, zgf h p0 7 6 = some (.ref a55) ∧
      zE d 19 [.ref a55, .int 0] h (fun r57 h56 => match r57 with
        | .inl v58 => ∃ x60 : Int32, v58 = some (.int x60) ∧ Q (.inl (some (.int x60))) h56
        | .inr e59 => Q (.inr e59) h56))
    (zbr (p1 = nI 10)
    (∃ a61 : Nat, zgf h p0 7 6 = some (.ref a61) ∧
      zE d 19 [.ref a61, .int 1] h (fun r63 h62 => match r63 with
        | .inl v64 => ∃ x66 : Int32, v64 = some (.int x66) ∧ Q (.inl (some (.int x66))) h62
        | .inr e65 => Q (.inr e65) h62))
    (zbr (p1 = nI 11)
    (∃ a67 : Nat, zgf h p0 7 6 = some (.ref a67) ∧
      zE d 19 [.ref a67, .int 2] h (fun r69 h68 => match r69 with
        | .inl v70 => ∃ x72 : Int32, v70 = some (.int x72) ∧ Q (.inl (some (.int x72))) h68
        | .inr e71 => Q (.inr e71) h68))
    (∃ h73, znx h = some h73 ∧ Q (.inr 1) h73))))))))))))) : zW (zE d) zm_X7_count Q (0, [(0, .ref p0), (1, .int p1)], [], h) := by
  refine zq_iload (pc' := 1) rfl rfl rfl rfl ?_
  refine zq_switch rfl ?_
  refine And.intro (fun c => ?_) (fun c => ?_)
  · have H := H.1 c
    show zW (zE d) zm_X7_count Q (64, [(0, .ref p0), (1, .int p1)], [], h)
    refine zq_aload (pc' := 65) rfl rfl rfl rfl ?_
    obtain ⟨a1, e0, H⟩ := H
    refine zq_getR (pc' := 68) rfl rfl rfl e0 ?_
    refine zq_calli (pc' := 71) rfl rfl rfl rfl rfl rfl (zE_mono H (fun r3 h2 H => ?_))
    rcases r3 with v4 | e5
    · obtain ⟨x6, e0, H⟩ := H
      refine Exists.intro x6 (And.intro e0 ?_)
      exact zq_iret rfl trivial H
    · exact H
  · have H := H.2 c
    refine And.intro (fun c => ?_) (fun c => ?_)
    · have H := H.1 c
      show zW (zE d) zm_X7_count Q (72, [(0, .ref p0), (1, .int p1)], [], h)
      refine zq_aload (pc' := 73) rfl rfl rfl rfl ?_
      obtain ⟨a7, e0, H⟩ := H
      refine zq_getR (pc' := 76) rfl rfl rfl e0 ?_
      refine zq_calli (pc' := 79) rfl rfl rfl rfl rfl rfl (zE_mono H (fun r9 h8 H => ?_))
      rcases r9 with v10 | e11
      · obtain ⟨x12, e0, H⟩ := H
        refine Exists.intro x12 (And.intro e0 ?_)
        exact zq_iret rfl trivial H
      · exact H
    · have H := H.2 c
      refine And.intro (fun c => ?_) (fun c => ?_)
      · have H := H.1 c
        show zW (zE d) zm_X7_count Q (80, [(0, .ref p0), (1, .int p1)], [], h)
        refine zq_aload (pc' := 81) rfl rfl rfl rfl ?_
        obtain ⟨a13, e0, H⟩ := H
        refine zq_getR (pc' := 84) rfl rfl rfl e0 ?_
        refine zq_aload (pc' := 85) rfl rfl rfl rfl ?_
        obtain ⟨a14, e0, H⟩ := H
        refine zq_getR (pc' := 88) rfl rfl rfl e0 ?_
        refine zq_calli (pc' := 91) rfl rfl rfl rfl rfl rfl (zE_mono H (fun r16 h15 H => ?_))
        rcases r16 with v17 | e18
        · obtain ⟨x19, e0, H⟩ := H
          refine Exists.intro x19 (And.intro e0 ?_)
          refine zq_calli (pc' := 94) rfl rfl rfl rfl rfl rfl (zE_mono H (fun r21 h20 H => ?_))
          rcases r21 with v22 | e23
          · obtain ⟨x24, e0, H⟩ := H
            refine Exists.intro x24 (And.intro e0 ?_)
            exact zq_iret rfl trivial H
          · exact H
        · exact H
      · have H := H.2 c
        refine And.intro (fun c => ?_) (fun c => ?_)
        · have H := H.1 c
          show zW (zE d) zm_X7_count Q (95, [(0, .ref p0), (1, .int p1)], [], h)
          refine zq_aload (pc' := 96) rfl rfl rfl rfl ?_
          obtain ⟨a25, e0, H⟩ := H
          refine zq_getR (pc' := 99) rfl rfl rfl e0 ?_
          refine zq_calli (pc' := 102) rfl rfl rfl rfl rfl rfl (zE_mono H (fun r27 h26 H => ?_))
          rcases r27 with v28 | e29
          · obtain ⟨x30, e0, H⟩ := H
            refine Exists.intro x30 (And.intro e0 ?_)
            exact zq_iret rfl trivial H
          · exact H
        · have H := H.2 c
          refine And.intro (fun c => ?_) (fun c => ?_)
          · have H := H.1 c
            show zW (zE d) zm_X7_count Q (103, [(0, .ref p0), (1, .int p1)], [], h)
            refine zq_aload (pc' := 104) rfl rfl rfl rfl ?_
            obtain ⟨a31, e0, H⟩ := H
            refine zq_getR (pc' := 107) rfl rfl rfl e0 ?_
            refine zq_calli (pc' := 110) rfl rfl rfl rfl rfl rfl (zE_mono H (fun r33 h32 H => ?_))
            rcases r33 with v34 | e35
            · obtain ⟨x36, e0, H⟩ := H
              refine Exists.intro x36 (And.intro e0 ?_)
              exact zq_iret rfl trivial H
            · exact H
          · have H := H.2 c
            refine And.intro (fun c => ?_) (fun c => ?_)
            · have H := H.1 c
              show zW (zE d) zm_X7_count Q (111, [(0, .ref p0), (1, .int p1)], [], h)
              refine zq_aload (pc' := 112) rfl rfl rfl rfl ?_
              refine zq_calli (pc' := 115) rfl rfl rfl rfl rfl rfl (zE_mono H (fun r38 h37 H => ?_))
              rcases r38 with v39 | e40
              · obtain ⟨x41, e0, H⟩ := H
                refine Exists.intro x41 (And.intro e0 ?_)
                exact zq_iret rfl trivial H
              · exact H
            · have H := H.2 c
              refine And.intro (fun c => ?_) (fun c => ?_)
              · have H := H.1 c
                show zW (zE d) zm_X7_count Q (116, [(0, .ref p0), (1, .int p1)], [], h)
                refine zq_aload (pc' := 117) rfl rfl rfl rfl ?_
                obtain ⟨a42, e0, H⟩ := H
                refine zq_getR (pc' := 120) rfl rfl rfl e0 ?_
                refine zq_calli (pc' := 123) rfl rfl rfl rfl rfl rfl (zE_mono H (fun r44 h43 H => ?_))
                rcases r44 with v45 | e46
                · obtain ⟨x47, e0, H⟩ := H
                  refine Exists.intro x47 (And.intro e0 ?_)
                  exact zq_iret rfl trivial H
                · exact H
              · have H := H.2 c
                refine And.intro (fun c => ?_) (fun c => ?_)
                · have H := H.1 c
                  show zW (zE d) zm_X7_count Q (124, [(0, .ref p0), (1, .int p1)], [], h)
                  refine zq_aload (pc' := 125) rfl rfl rfl rfl ?_
                  obtain ⟨a48, e0, H⟩ := H
                  refine zq_getR (pc' := 128) rfl rfl rfl e0 ?_
                  refine zq_calli (pc' := 131) rfl rfl rfl rfl rfl rfl (zE_mono H (fun r50 h49 H => ?_))
                  rcases r50 with v51 | e52
                  · obtain ⟨x53, e0, H⟩ := H
                    refine Exists.intro x53 (And.intro e0 ?_)
                    exact zq_iret rfl trivial H
                  · exact H
                · have H := H.2 c
                  refine And.intro (fun c => ?_) (fun c => ?_)
                  · have H := H.1 c
                    show zW (zE d) zm_X7_count Q (132, [(0, .ref p0), (1, .int p1)], [], h)
                    refine zq_aload (pc' := 133) rfl rfl rfl rfl ?_
                    obtain ⟨x54, e0, H⟩ := H
                    refine zq_getI (pc' := 136) rfl rfl rfl e0 ?_
                    exact zq_iret rfl trivial H
                  · have H := H.2 c
                    refine And.intro (fun c => ?_) (fun c => ?_)
                    · have H := H.1 c
                      show zW (zE d) zm_X7_count Q (137, [(0, .ref p0), (1, .int p1)], [], h)
                      refine zq_aload (pc' := 138) rfl rfl rfl rfl ?_
                      obtain ⟨a55, e0, H⟩ := H
                      refine zq_getR (pc' := 141) rfl rfl rfl e0 ?_
                      refine zq_ipush (pc' := 142) rfl rfl rfl ?_
                      refine zq_calli (pc' := 145) rfl rfl rfl rfl rfl rfl (zE_mono H (fun r57 h56 H => ?_))
                      rcases r57 with v58 | e59
                      · obtain ⟨x60, e0, H⟩ := H
                        refine Exists.intro x60 (And.intro e0 ?_)
                        exact zq_iret rfl trivial H
                      · exact H
                    · have H := H.2 c
                      refine And.intro (fun c => ?_) (fun c => ?_)
                      · have H := H.1 c
                        show zW (zE d) zm_X7_count Q (146, [(0, .ref p0), (1, .int p1)], [], h)
                        refine zq_aload (pc' := 147) rfl rfl rfl rfl ?_
                        obtain ⟨a61, e0, H⟩ := H
                        refine zq_getR (pc' := 150) rfl rfl rfl e0 ?_
                        refine zq_ipush (pc' := 151) rfl rfl rfl ?_
                        refine zq_calli (pc' := 154) rfl rfl rfl rfl rfl rfl (zE_mono H (fun r63 h62 H => ?_))
                        rcases r63 with v64 | e65
                        · obtain ⟨x66, e0, H⟩ := H
                          refine Exists.intro x66 (And.intro e0 ?_)
                          exact zq_iret rfl trivial H
                        · exact H
                      · have H := H.2 c
                        refine And.intro (fun c => ?_) (fun c => ?_)
                        · have H := H.1 c
                          show zW (zE d) zm_X7_count Q (155, [(0, .ref p0), (1, .int p1)], [], h)
                          refine zq_aload (pc' := 156) rfl rfl rfl rfl ?_
                          obtain ⟨a67, e0, H⟩ := H
                          refine zq_getR (pc' := 159) rfl rfl rfl e0 ?_
                          refine zq_ipush (pc' := 160) rfl rfl rfl ?_
                          refine zq_calli (pc' := 163) rfl rfl rfl rfl rfl rfl (zE_mono H (fun r69 h68 H => ?_))
                          rcases r69 with v70 | e71
                          · obtain ⟨x72, e0, H⟩ := H
                            refine Exists.intro x72 (And.intro e0 ?_)
                            exact zq_iret rfl trivial H
                          · exact H
                        · have H := H.2 c
                          show zW (zE d) zm_X7_count Q (164, [(0, .ref p0), (1, .int p1)], [], h)
                          obtain ⟨h73, e0, H⟩ := H
                          exact zq_throw rfl rfl e0 H
theorem zr_X7_twins_0 {d : Nat} {Q : zR → zH → Prop} {p0 : Nat} {h : zH} (H :
    zW (zE d) zm_X7_twins Q (4, [(0, .ref p0), (1, .int 0), (2, .int 0)], [], h)) : zW (zE d) zm_X7_twins Q (0, [(0, .ref p0)], [], h) := by
  refine zq_ipush (pc' := 1) rfl rfl rfl ?_
  refine zq_istore (pc' := 2) rfl rfl rfl ?_
  refine zq_ipush (pc' := 3) rfl rfl rfl ?_
  refine zq_istore_c (pc' := 4) rfl rfl ?_
  exact H
theorem zr_X7_twins_4 {d : Nat} {Q : zR → zH → Prop} {l0 : Nat} {l1 : Int32} {l2 : Int32} {h : zH} (H :
    ∃ a1 : Nat, zgf h l0 7 4 = some (.ref a1) ∧
    zE d 46 [.ref a1] h (fun r3 h2 => match r3 with
      | .inl v4 => ∃ x6 : Int32, v4 = some (.int x6) ∧ zbr (x6 ≤ l2)
        (Q (.inl (some (.int l1))) h2)
        (zW (zE d) zm_X7_twins Q (19, [(0, .ref l0), (1, .int l1), (2, .int l2), (3, .int (l2 + 1))], [], h2))
      | .inr e5 => Q (.inr e5) h2)) : zW (zE d) zm_X7_twins Q (4, [(0, .ref l0), (1, .int l1), (2, .int l2)], [], h) := by
  refine zq_iload (pc' := 5) rfl rfl rfl rfl ?_
  refine zq_aload (pc' := 6) rfl rfl rfl rfl ?_
  obtain ⟨a1, e0, H⟩ := H
  refine zq_getR (pc' := 9) rfl rfl rfl e0 ?_
  refine zq_calli (pc' := 12) rfl rfl rfl rfl rfl rfl (zE_mono H (fun r3 h2 H => ?_))
  rcases r3 with v4 | e5
  · obtain ⟨x6, e0, H⟩ := H
    refine Exists.intro x6 (And.intro e0 ?_)
    refine zq_icge (pc' := 15) rfl rfl rfl rfl (And.intro (fun c => ?_) (fun c => ?_))
    · have H := H.1 c
      refine zq_iload (pc' := 62) rfl rfl rfl rfl ?_
      exact zq_iret rfl trivial H
    · have H := H.2 c
      refine zq_iload (pc' := 16) rfl rfl rfl rfl ?_
      refine zq_ipush (pc' := 17) rfl rfl rfl ?_
      refine zq_iadd (pc' := 18) rfl rfl rfl ?_
      refine zq_istore_c (pc' := 19) rfl rfl ?_
      exact H
  · exact H
theorem zr_X7_twins_19 {d : Nat} {Q : zR → zH → Prop} {l0 : Nat} {l1 : Int32} {l2 : Int32} {l3 : Int32} {h : zH} (H :
    ∃ a1 : Nat, zgf h l0 7 4 = some (.ref a1) ∧
    zE d 46 [.ref a1] h (fun r3 h2 => match r3 with
      | .inl v4 => ∃ x6 : Int32, v4 = some (.int x6) ∧ zbr (x6 ≤ l3)
        (zW (zE d) zm_X7_twins Q (4, [(0, .ref l0), (1, .int l1), (2, .int (l2 + 1))], [], h2))
        (zE d 201 [.ref l0, .int l2] h2 (fun r8 h7 => match r8 with
            | .inl v9 => ∃ a11 : Nat, v9 = some (.ref a11) ∧ zE d 201 [.ref l0, .int l3] h7 (fun r13 h12 => match r13 with
                | .inl v14 => ∃ a16 : Nat, v14 = some (.ref a16) ∧ zE d 124 [.ref a11, .ref a16] h12 (fun r18 h17 => match r18 with
                    | .inl v19 => ∃ x21 : Int32, v19 = some (.int x21) ∧ zbr (x21 = 0)
                      (zW (zE d) zm_X7_twins Q (19, [(0, .ref l0), (1, .int l1), (2, .int l2), (3, .int (l3 + 1))], [], h17))
                      (zW (zE d) zm_X7_twins Q (19, [(0, .ref l0), (1, .int (l1 + 1)), (2, .int l2), (3, .int (l3 + 1))], [], h17))
                    | .inr e20 => Q (.inr e20) h17)
                | .inr e15 => Q (.inr e15) h12)
            | .inr e10 => Q (.inr e10) h7))
      | .inr e5 => Q (.inr e5) h2)) : zW (zE d) zm_X7_twins Q (19, [(0, .ref l0), (1, .int l1), (2, .int l2), (3, .int l3)], [], h) := by
  refine zq_iload (pc' := 20) rfl rfl rfl rfl ?_
  refine zq_aload (pc' := 21) rfl rfl rfl rfl ?_
  obtain ⟨a1, e0, H⟩ := H
  refine zq_getR (pc' := 24) rfl rfl rfl e0 ?_
  refine zq_calli (pc' := 27) rfl rfl rfl rfl rfl rfl (zE_mono H (fun r3 h2 H => ?_))
  rcases r3 with v4 | e5
  · obtain ⟨x6, e0, H⟩ := H
    refine Exists.intro x6 (And.intro e0 ?_)
    refine zq_icge (pc' := 30) rfl rfl rfl rfl (And.intro (fun c => ?_) (fun c => ?_))
    · have H := H.1 c
      refine zq_iinc (pc' := 58) rfl rfl rfl rfl ?_
      refine zq_goto_c (pc' := 4) rfl rfl ?_
      exact H
    · have H := H.2 c
      refine zq_aload (pc' := 31) rfl rfl rfl rfl ?_
      refine zq_iload (pc' := 32) rfl rfl rfl rfl ?_
      refine zq_callr (pc' := 35) rfl rfl rfl rfl rfl rfl (zE_mono H (fun r8 h7 H => ?_))
      rcases r8 with v9 | e10
      · obtain ⟨a11, e0, H⟩ := H
        refine Exists.intro a11 (And.intro e0 ?_)
        refine zq_aload (pc' := 36) rfl rfl rfl rfl ?_
        refine zq_iload (pc' := 37) rfl rfl rfl rfl ?_
        refine zq_callr (pc' := 40) rfl rfl rfl rfl rfl rfl (zE_mono H (fun r13 h12 H => ?_))
        rcases r13 with v14 | e15
        · obtain ⟨a16, e0, H⟩ := H
          refine Exists.intro a16 (And.intro e0 ?_)
          refine zq_calli (pc' := 43) rfl rfl rfl rfl rfl rfl (zE_mono H (fun r18 h17 H => ?_))
          rcases r18 with v19 | e20
          · obtain ⟨x21, e0, H⟩ := H
            refine Exists.intro x21 (And.intro e0 ?_)
            refine zq_ifeq (pc' := 46) rfl rfl rfl rfl (And.intro (fun c => ?_) (fun c => ?_))
            · have H := H.1 c
              refine zq_iinc (pc' := 52) rfl rfl rfl rfl ?_
              refine zq_goto_c (pc' := 19) rfl rfl ?_
              exact H
            · have H := H.2 c
              refine zq_iinc (pc' := 49) rfl rfl rfl rfl ?_
              refine zq_iinc (pc' := 52) rfl rfl rfl rfl ?_
              refine zq_goto_c (pc' := 19) rfl rfl ?_
              exact H
          · exact H
        · exact H
      · exact H
  · exact H
theorem zr_X7_zip_0 {d : Nat} {Q : zR → zH → Prop} {p0 : Nat} {p1 : Int32} {p2 : Int32} {h : zH} (H :
    zE d 201 [.ref p0, .int p1] h (fun r2 h1 => match r2 with
      | .inl v3 => ∃ a5 : Nat, v3 = some (.ref a5) ∧ zbr (p2 = nI 0)
        (zE d 112 [.ref a5] h1 (fun r7 h6 => match r7 with
            | .inl v8 => ∃ x10 : Int32, v8 = some (.int x10) ∧ Q (.inl (some (.int x10))) h6
            | .inr e9 => Q (.inr e9) h6))
        (zbr (p2 = nI 1)
        (zE d 114 [.ref a5] h1 (fun r12 h11 => match r12 with
            | .inl v13 => ∃ x15 : Int32, v13 = some (.int x15) ∧ Q (.inl (some (.int x15))) h11
            | .inr e14 => Q (.inr e14) h11))
        (zbr (p2 = nI 2)
        (zE d 115 [.ref a5] h1 (fun r17 h16 => match r17 with
            | .inl v18 => ∃ x20 : Int32, v18 = some (.int x20) ∧ Q (.inl (some (.int x20))) h16
            | .inr e19 => Q (.inr e19) h16))
        (zbr (p2 = nI 3)
        (zE d 121 [.ref a5] h1 (fun r22 h21 => match r22 with
            | .inl v23 => ∃ x25 : Int32, v23 = some (.int x25) ∧ Q (.inl (some (.int x25))) h21
            | .inr e24 => Q (.inr e24) h21))
        (zbr (p2 = nI 4)
        (zE d 113 [.ref a5] h1 (fun r27 h26 => match r27 with
            | .inl v28 => ∃ x30 : Int32, v28 = some (.int x30) ∧ zbr (x30 = 0)
              (Q (.inl (some (.int 0))) h26)
              (Q (.inl (some (.int 1))) h26)
            | .inr e29 => Q (.inr e29) h26))
        (zbr (p2 = nI 5)
        (zE d 135 [.ref a5] h1 (fun r32 h31 => match r32 with
            | .inl v33 => ∃ x35 : Int32, v33 = some (.int x35) ∧ Q (.inl (some (.int x35))) h31
            | .inr e34 => Q (.inr e34) h31))
        (zbr (p2 = nI 6)
        (zE d 136 [.ref a5] h1 (fun r37 h36 => match r37 with
            | .inl v38 => ∃ x40 : Int32, v38 = some (.int x40) ∧ Q (.inl (some (.int x40))) h36
            | .inr e39 => Q (.inr e39) h36))
        (zbr (p2 = nI 7)
        (zE d 137 [.ref a5] h1 (fun r42 h41 => match r42 with
            | .inl v43 => ∃ x45 : Int32, v43 = some (.int x45) ∧ Q (.inl (some (.int x45))) h41
            | .inr e44 => Q (.inr e44) h41))
        (zbr (p2 = nI 8)
        (zE d 138 [.ref a5] h1 (fun r47 h46 => match r47 with
            | .inl v48 => ∃ x50 : Int32, v48 = some (.int x50) ∧ Q (.inl (some (.int x50))) h46
            | .inr e49 => Q (.inr e49) h46))
        (zbr (p2 = nI 9)
        (zE d 151 [.ref p0, .ref a5] h1 (fun r52 h51 => match r52 with
            | .inl v53 => ∃ x55 : Int32, v53 = some (.int x55) ∧ Q (.inl (some (.int x55))) h51
            | .inr e54 => Q (.inr e54) h51))
        (∃ h56, znx h1 = some h56 ∧ Q (.inr 1) h56))))))))))
      | .inr e4 => Q (.inr e4) h1)) : zW (zE d) zm_X7_zip Q (0, [(0, .ref p0), (1, .int p1), (2, .int p2)], [], h) := by
  refine zq_aload (pc' := 1) rfl rfl rfl rfl ?_
  refine zq_iload (pc' := 2) rfl rfl rfl rfl ?_
  refine zq_callr (pc' := 5) rfl rfl rfl rfl rfl rfl (zE_mono H (fun r2 h1 H => ?_))
  rcases r2 with v3 | e4
  · obtain ⟨a5, e0, H⟩ := H
    refine Exists.intro a5 (And.intro e0 ?_)
    refine zq_astore (pc' := 6) rfl rfl rfl ?_
    refine zq_iload (pc' := 7) rfl rfl rfl rfl ?_
    refine zq_switch rfl ?_
    refine And.intro (fun c => ?_) (fun c => ?_)
    · have H := H.1 c
      show zW (zE d) zm_X7_zip Q (60, [(3, .ref a5), (0, .ref p0), (1, .int p1), (2, .int p2)], [], h1)
      refine zq_aload (pc' := 61) rfl rfl rfl rfl ?_
      refine zq_calli (pc' := 64) rfl rfl rfl rfl rfl rfl (zE_mono H (fun r7 h6 H => ?_))
      rcases r7 with v8 | e9
      · obtain ⟨x10, e0, H⟩ := H
        refine Exists.intro x10 (And.intro e0 ?_)
        exact zq_iret rfl trivial H
      · exact H
    · have H := H.2 c
      refine And.intro (fun c => ?_) (fun c => ?_)
      · have H := H.1 c
        show zW (zE d) zm_X7_zip Q (65, [(3, .ref a5), (0, .ref p0), (1, .int p1), (2, .int p2)], [], h1)
        refine zq_aload (pc' := 66) rfl rfl rfl rfl ?_
        refine zq_calli (pc' := 69) rfl rfl rfl rfl rfl rfl (zE_mono H (fun r12 h11 H => ?_))
        rcases r12 with v13 | e14
        · obtain ⟨x15, e0, H⟩ := H
          refine Exists.intro x15 (And.intro e0 ?_)
          exact zq_iret rfl trivial H
        · exact H
      · have H := H.2 c
        refine And.intro (fun c => ?_) (fun c => ?_)
        · have H := H.1 c
          show zW (zE d) zm_X7_zip Q (70, [(3, .ref a5), (0, .ref p0), (1, .int p1), (2, .int p2)], [], h1)
          refine zq_aload (pc' := 71) rfl rfl rfl rfl ?_
          refine zq_calli (pc' := 74) rfl rfl rfl rfl rfl rfl (zE_mono H (fun r17 h16 H => ?_))
          rcases r17 with v18 | e19
          · obtain ⟨x20, e0, H⟩ := H
            refine Exists.intro x20 (And.intro e0 ?_)
            exact zq_iret rfl trivial H
          · exact H
        · have H := H.2 c
          refine And.intro (fun c => ?_) (fun c => ?_)
          · have H := H.1 c
            show zW (zE d) zm_X7_zip Q (75, [(3, .ref a5), (0, .ref p0), (1, .int p1), (2, .int p2)], [], h1)
            refine zq_aload (pc' := 76) rfl rfl rfl rfl ?_
            refine zq_calli (pc' := 79) rfl rfl rfl rfl rfl rfl (zE_mono H (fun r22 h21 H => ?_))
            rcases r22 with v23 | e24
            · obtain ⟨x25, e0, H⟩ := H
              refine Exists.intro x25 (And.intro e0 ?_)
              exact zq_iret rfl trivial H
            · exact H
          · have H := H.2 c
            refine And.intro (fun c => ?_) (fun c => ?_)
            · have H := H.1 c
              show zW (zE d) zm_X7_zip Q (80, [(3, .ref a5), (0, .ref p0), (1, .int p1), (2, .int p2)], [], h1)
              refine zq_aload (pc' := 81) rfl rfl rfl rfl ?_
              refine zq_calli (pc' := 84) rfl rfl rfl rfl rfl rfl (zE_mono H (fun r27 h26 H => ?_))
              rcases r27 with v28 | e29
              · obtain ⟨x30, e0, H⟩ := H
                refine Exists.intro x30 (And.intro e0 ?_)
                refine zq_ifeq (pc' := 87) rfl rfl rfl rfl (And.intro (fun c => ?_) (fun c => ?_))
                · have H := H.1 c
                  refine zq_ipush (pc' := 92) rfl rfl rfl ?_
                  exact zq_iret rfl trivial H
                · have H := H.2 c
                  refine zq_ipush (pc' := 88) rfl rfl rfl ?_
                  refine zq_goto (pc' := 92) rfl rfl rfl ?_
                  exact zq_iret rfl trivial H
              · exact H
            · have H := H.2 c
              refine And.intro (fun c => ?_) (fun c => ?_)
              · have H := H.1 c
                show zW (zE d) zm_X7_zip Q (93, [(3, .ref a5), (0, .ref p0), (1, .int p1), (2, .int p2)], [], h1)
                refine zq_aload (pc' := 94) rfl rfl rfl rfl ?_
                refine zq_calli (pc' := 97) rfl rfl rfl rfl rfl rfl (zE_mono H (fun r32 h31 H => ?_))
                rcases r32 with v33 | e34
                · obtain ⟨x35, e0, H⟩ := H
                  refine Exists.intro x35 (And.intro e0 ?_)
                  exact zq_iret rfl trivial H
                · exact H
              · have H := H.2 c
                refine And.intro (fun c => ?_) (fun c => ?_)
                · have H := H.1 c
                  show zW (zE d) zm_X7_zip Q (98, [(3, .ref a5), (0, .ref p0), (1, .int p1), (2, .int p2)], [], h1)
                  refine zq_aload (pc' := 99) rfl rfl rfl rfl ?_
                  refine zq_calli (pc' := 102) rfl rfl rfl rfl rfl rfl (zE_mono H (fun r37 h36 H => ?_))
                  rcases r37 with v38 | e39
                  · obtain ⟨x40, e0, H⟩ := H
                    refine Exists.intro x40 (And.intro e0 ?_)
                    exact zq_iret rfl trivial H
                  · exact H
                · have H := H.2 c
                  refine And.intro (fun c => ?_) (fun c => ?_)
                  · have H := H.1 c
                    show zW (zE d) zm_X7_zip Q (103, [(3, .ref a5), (0, .ref p0), (1, .int p1), (2, .int p2)], [], h1)
                    refine zq_aload (pc' := 104) rfl rfl rfl rfl ?_
                    refine zq_calli (pc' := 107) rfl rfl rfl rfl rfl rfl (zE_mono H (fun r42 h41 H => ?_))
                    rcases r42 with v43 | e44
                    · obtain ⟨x45, e0, H⟩ := H
                      refine Exists.intro x45 (And.intro e0 ?_)
                      exact zq_iret rfl trivial H
                    · exact H
                  · have H := H.2 c
                    refine And.intro (fun c => ?_) (fun c => ?_)
                    · have H := H.1 c
                      show zW (zE d) zm_X7_zip Q (108, [(3, .ref a5), (0, .ref p0), (1, .int p1), (2, .int p2)], [], h1)
                      refine zq_aload (pc' := 109) rfl rfl rfl rfl ?_
                      refine zq_calli (pc' := 112) rfl rfl rfl rfl rfl rfl (zE_mono H (fun r47 h46 H => ?_))
                      rcases r47 with v48 | e49
                      · obtain ⟨x50, e0, H⟩ := H
                        refine Exists.intro x50 (And.intro e0 ?_)
                        exact zq_iret rfl trivial H
                      · exact H
                    · have H := H.2 c
                      refine And.intro (fun c => ?_) (fun c => ?_)
                      · have H := H.1 c
                        show zW (zE d) zm_X7_zip Q (113, [(3, .ref a5), (0, .ref p0), (1, .int p1), (2, .int p2)], [], h1)
                        refine zq_aload (pc' := 114) rfl rfl rfl rfl ?_
                        refine zq_aload (pc' := 115) rfl rfl rfl rfl ?_
                        refine zq_calli (pc' := 118) rfl rfl rfl rfl rfl rfl (zE_mono H (fun r52 h51 H => ?_))
                        rcases r52 with v53 | e54
                        · obtain ⟨x55, e0, H⟩ := H
                          refine Exists.intro x55 (And.intro e0 ?_)
                          exact zq_iret rfl trivial H
                        · exact H
                      · have H := H.2 c
                        show zW (zE d) zm_X7_zip Q (119, [(3, .ref a5), (0, .ref p0), (1, .int p1), (2, .int p2)], [], h1)
                        obtain ⟨h56, e0, H⟩ := H
                        exact zq_throw rfl rfl e0 H
  · exact H
theorem zr_X7_bears_0 {d : Nat} {Q : zR → zH → Prop} {p0 : Nat} {p1 : Nat} {h : zH} (H :
    zW (zE d) zm_X7_bears Q (2, [(0, .ref p0), (1, .ref p1), (2, .int 0)], [], h)) : zW (zE d) zm_X7_bears Q (0, [(0, .ref p0), (1, .ref p1)], [], h) := by
  refine zq_ipush (pc' := 1) rfl rfl rfl ?_
  refine zq_istore_c (pc' := 2) rfl rfl ?_
  exact H
theorem zr_X7_bears_2 {d : Nat} {Q : zR → zH → Prop} {l0 : Nat} {l1 : Nat} {l2 : Int32} {h : zH} (H :
    zbr (99 < l2)
    (Q (.inl (some (.int 99))) h)
    (∃ a1 : Nat, zgf h l0 7 4 = some (.ref a1) ∧
      zE d 60 [.ref a1, .ref l1, .int l2] h (fun r3 h2 => match r3 with
        | .inl v4 => ∃ x6 : Int32, v4 = some (.int x6) ∧ zbr (x6 = 0)
          (zW (zE d) zm_X7_bears Q (2, [(0, .ref l0), (1, .ref l1), (2, .int (l2 + 1))], [], h2))
          (zbr (l2 = 0)
            (Q (.inl (some (.int (-1)))) h2)
            (Q (.inl (some (.int (l2 - 1)))) h2))
        | .inr e5 => Q (.inr e5) h2))) : zW (zE d) zm_X7_bears Q (2, [(0, .ref l0), (1, .ref l1), (2, .int l2)], [], h) := by
  refine zq_iload (pc' := 3) rfl rfl rfl rfl ?_
  refine zq_ipush (pc' := 5) rfl rfl rfl ?_
  refine zq_icgt (pc' := 8) rfl rfl rfl rfl (And.intro (fun c => ?_) (fun c => ?_))
  · have H := H.1 c
    refine zq_ipush (pc' := 40) rfl rfl rfl ?_
    exact zq_iret rfl trivial H
  · have H := H.2 c
    refine zq_aload (pc' := 9) rfl rfl rfl rfl ?_
    obtain ⟨a1, e0, H⟩ := H
    refine zq_getR (pc' := 12) rfl rfl rfl e0 ?_
    refine zq_aload (pc' := 13) rfl rfl rfl rfl ?_
    refine zq_iload (pc' := 14) rfl rfl rfl rfl ?_
    refine zq_calli (pc' := 17) rfl rfl rfl rfl rfl rfl (zE_mono H (fun r3 h2 H => ?_))
    rcases r3 with v4 | e5
    · obtain ⟨x6, e0, H⟩ := H
      refine Exists.intro x6 (And.intro e0 ?_)
      refine zq_ifeq (pc' := 20) rfl rfl rfl rfl (And.intro (fun c => ?_) (fun c => ?_))
      · have H := H.1 c
        refine zq_iinc (pc' := 35) rfl rfl rfl rfl ?_
        refine zq_goto_c (pc' := 2) rfl rfl ?_
        exact H
      · have H := H.2 c
        refine zq_iload (pc' := 21) rfl rfl rfl rfl ?_
        refine zq_ifne (pc' := 24) rfl rfl rfl rfl (And.intro (fun c => ?_) (fun c => ?_))
        · have H := H.1 c
          refine zq_ipushn (pc' := 25) rfl rfl rfl ?_
          refine zq_goto (pc' := 31) rfl rfl rfl ?_
          exact zq_iret rfl trivial H
        · have H := H.2 c
          refine zq_iload (pc' := 29) rfl rfl rfl rfl ?_
          refine zq_ipush (pc' := 30) rfl rfl rfl ?_
          refine zq_isub (pc' := 31) rfl rfl rfl ?_
          exact zq_iret rfl trivial H
    · exact H
theorem zr_X7_place_0 {d : Nat} {Q : zR → zH → Prop} {p0 : Nat} {p1 : Int32} {p2 : Int32} {p3 : Int32} {h : zH} (H :
    zE d 201 [.ref p0, .int p1] h (fun r2 h1 => match r2 with
      | .inl v3 => ∃ a5 : Nat, v3 = some (.ref a5) ∧ zE d 202 [.ref a5, .int p2] h1 (fun r7 h6 => match r7 with
          | .inl v8 => v8 = none ∧ zbr (p3 = nI 0)
            (zE d 118 [.ref a5, .int 0, .int p2] h6 (fun r11 h10 => match r11 with
                | .inl v12 => ∃ x14 : Int32, v12 = some (.int x14) ∧ Q (.inl (some (.int x14))) h10
                | .inr e13 => Q (.inr e13) h10))
            (zbr (p3 = nI 1)
            (zE d 118 [.ref a5, .int 1, .int p2] h6 (fun r16 h15 => match r16 with
                | .inl v17 => ∃ x19 : Int32, v17 = some (.int x19) ∧ Q (.inl (some (.int x19))) h15
                | .inr e18 => Q (.inr e18) h15))
            (zbr (p3 = nI 2)
            (zE d 120 [.ref a5, .int p2] h6 (fun r21 h20 => match r21 with
                | .inl v22 => ∃ x24 : Int32, v22 = some (.int x24) ∧ Q (.inl (some (.int x24))) h20
                | .inr e23 => Q (.inr e23) h20))
            (zbr (p3 = nI 3)
            (zE d 117 [.ref a5, .int p2] h6 (fun r26 h25 => match r26 with
                | .inl v27 => ∃ x29 : Int32, v27 = some (.int x29) ∧ zbr (x29 = 0)
                  (Q (.inl (some (.int 0))) h25)
                  (Q (.inl (some (.int 1))) h25)
                | .inr e28 => Q (.inr e28) h25))
            (zbr (p3 = nI 4)
            (zE d 125 [.ref a5, .int p2] h6 (fun r31 h30 => match r31 with
                | .inl v32 => ∃ x34 : Int32, v32 = some (.int x34) ∧ Q (.inl (some (.int x34))) h30
                | .inr e33 => Q (.inr e33) h30))
            (∃ h35, znx h6 = some h35 ∧ Q (.inr 1) h35)))))
          | .inr e9 => Q (.inr e9) h6)
      | .inr e4 => Q (.inr e4) h1)) : zW (zE d) zm_X7_place Q (0, [(0, .ref p0), (1, .int p1), (2, .int p2), (3, .int p3)], [], h) := by
  refine zq_aload (pc' := 1) rfl rfl rfl rfl ?_
  refine zq_iload (pc' := 2) rfl rfl rfl rfl ?_
  refine zq_callr (pc' := 5) rfl rfl rfl rfl rfl rfl (zE_mono H (fun r2 h1 H => ?_))
  rcases r2 with v3 | e4
  · obtain ⟨a5, e0, H⟩ := H
    refine Exists.intro a5 (And.intro e0 ?_)
    refine zq_astore (pc' := 7) rfl rfl rfl ?_
    refine zq_aload (pc' := 9) rfl rfl rfl rfl ?_
    refine zq_iload (pc' := 10) rfl rfl rfl rfl ?_
    refine zq_callv (pc' := 13) rfl rfl rfl rfl rfl rfl (zE_mono H (fun r7 h6 H => ?_))
    rcases r7 with v8 | e9
    · obtain ⟨e0, H⟩ := H
      refine And.intro e0 ?_
      refine zq_iload (pc' := 14) rfl rfl rfl rfl ?_
      refine zq_switch rfl ?_
      refine And.intro (fun c => ?_) (fun c => ?_)
      · have H := H.1 c
        show zW (zE d) zm_X7_place Q (48, [(4, .ref a5), (0, .ref p0), (1, .int p1), (2, .int p2), (3, .int p3)], [], h6)
        refine zq_aload (pc' := 50) rfl rfl rfl rfl ?_
        refine zq_ipush (pc' := 51) rfl rfl rfl ?_
        refine zq_iload (pc' := 52) rfl rfl rfl rfl ?_
        refine zq_calli (pc' := 55) rfl rfl rfl rfl rfl rfl (zE_mono H (fun r11 h10 H => ?_))
        rcases r11 with v12 | e13
        · obtain ⟨x14, e0, H⟩ := H
          refine Exists.intro x14 (And.intro e0 ?_)
          exact zq_iret rfl trivial H
        · exact H
      · have H := H.2 c
        refine And.intro (fun c => ?_) (fun c => ?_)
        · have H := H.1 c
          show zW (zE d) zm_X7_place Q (56, [(4, .ref a5), (0, .ref p0), (1, .int p1), (2, .int p2), (3, .int p3)], [], h6)
          refine zq_aload (pc' := 58) rfl rfl rfl rfl ?_
          refine zq_ipush (pc' := 59) rfl rfl rfl ?_
          refine zq_iload (pc' := 60) rfl rfl rfl rfl ?_
          refine zq_calli (pc' := 63) rfl rfl rfl rfl rfl rfl (zE_mono H (fun r16 h15 H => ?_))
          rcases r16 with v17 | e18
          · obtain ⟨x19, e0, H⟩ := H
            refine Exists.intro x19 (And.intro e0 ?_)
            exact zq_iret rfl trivial H
          · exact H
        · have H := H.2 c
          refine And.intro (fun c => ?_) (fun c => ?_)
          · have H := H.1 c
            show zW (zE d) zm_X7_place Q (64, [(4, .ref a5), (0, .ref p0), (1, .int p1), (2, .int p2), (3, .int p3)], [], h6)
            refine zq_aload (pc' := 66) rfl rfl rfl rfl ?_
            refine zq_iload (pc' := 67) rfl rfl rfl rfl ?_
            refine zq_calli (pc' := 70) rfl rfl rfl rfl rfl rfl (zE_mono H (fun r21 h20 H => ?_))
            rcases r21 with v22 | e23
            · obtain ⟨x24, e0, H⟩ := H
              refine Exists.intro x24 (And.intro e0 ?_)
              exact zq_iret rfl trivial H
            · exact H
          · have H := H.2 c
            refine And.intro (fun c => ?_) (fun c => ?_)
            · have H := H.1 c
              show zW (zE d) zm_X7_place Q (71, [(4, .ref a5), (0, .ref p0), (1, .int p1), (2, .int p2), (3, .int p3)], [], h6)
              refine zq_aload (pc' := 73) rfl rfl rfl rfl ?_
              refine zq_iload (pc' := 74) rfl rfl rfl rfl ?_
              refine zq_calli (pc' := 77) rfl rfl rfl rfl rfl rfl (zE_mono H (fun r26 h25 H => ?_))
              rcases r26 with v27 | e28
              · obtain ⟨x29, e0, H⟩ := H
                refine Exists.intro x29 (And.intro e0 ?_)
                refine zq_ifeq (pc' := 80) rfl rfl rfl rfl (And.intro (fun c => ?_) (fun c => ?_))
                · have H := H.1 c
                  refine zq_ipush (pc' := 85) rfl rfl rfl ?_
                  exact zq_iret rfl trivial H
                · have H := H.2 c
                  refine zq_ipush (pc' := 81) rfl rfl rfl ?_
                  refine zq_goto (pc' := 85) rfl rfl rfl ?_
                  exact zq_iret rfl trivial H
              · exact H
            · have H := H.2 c
              refine And.intro (fun c => ?_) (fun c => ?_)
              · have H := H.1 c
                show zW (zE d) zm_X7_place Q (86, [(4, .ref a5), (0, .ref p0), (1, .int p1), (2, .int p2), (3, .int p3)], [], h6)
                refine zq_aload (pc' := 88) rfl rfl rfl rfl ?_
                refine zq_iload (pc' := 89) rfl rfl rfl rfl ?_
                refine zq_calli (pc' := 92) rfl rfl rfl rfl rfl rfl (zE_mono H (fun r31 h30 H => ?_))
                rcases r31 with v32 | e33
                · obtain ⟨x34, e0, H⟩ := H
                  refine Exists.intro x34 (And.intro e0 ?_)
                  exact zq_iret rfl trivial H
                · exact H
              · have H := H.2 c
                show zW (zE d) zm_X7_place Q (93, [(4, .ref a5), (0, .ref p0), (1, .int p1), (2, .int p2), (3, .int p3)], [], h6)
                obtain ⟨h35, e0, H⟩ := H
                exact zq_throw rfl rfl e0 H
    · exact H
  · exact H
theorem zr_X7_gap_0 {d : Nat} {Q : zR → zH → Prop} {p0 : Nat} {p1 : Int32} {h : zH} (H :
    zE d 201 [.ref p0, .int p1] h (fun r2 h1 => match r2 with
      | .inl v3 => ∃ a5 : Nat, v3 = some (.ref a5) ∧ zE d 121 [.ref a5] h1 (fun r7 h6 => match r7 with
          | .inl v8 => ∃ x10 : Int32, v8 = some (.int x10) ∧ zE d 0 [.int x10] h6 (fun r12 h11 => match r12 with
              | .inl v13 => ∃ x15 : Int32, v13 = some (.int x15) ∧ zE d 116 [.ref a5] h11 (fun r17 h16 => match r17 with
                  | .inl v18 => ∃ x20 : Int32, v18 = some (.int x20) ∧ Q (.inl (some (.int (x15 - x20)))) h16
                  | .inr e19 => Q (.inr e19) h16)
              | .inr e14 => Q (.inr e14) h11)
          | .inr e9 => Q (.inr e9) h6)
      | .inr e4 => Q (.inr e4) h1)) : zW (zE d) zm_X7_gap Q (0, [(0, .ref p0), (1, .int p1)], [], h) := by
  refine zq_aload (pc' := 1) rfl rfl rfl rfl ?_
  refine zq_iload (pc' := 2) rfl rfl rfl rfl ?_
  refine zq_callr (pc' := 5) rfl rfl rfl rfl rfl rfl (zE_mono H (fun r2 h1 H => ?_))
  rcases r2 with v3 | e4
  · obtain ⟨a5, e0, H⟩ := H
    refine Exists.intro a5 (And.intro e0 ?_)
    refine zq_astore (pc' := 6) rfl rfl rfl ?_
    refine zq_aload (pc' := 7) rfl rfl rfl rfl ?_
    refine zq_calli (pc' := 10) rfl rfl rfl rfl rfl rfl (zE_mono H (fun r7 h6 H => ?_))
    rcases r7 with v8 | e9
    · obtain ⟨x10, e0, H⟩ := H
      refine Exists.intro x10 (And.intro e0 ?_)
      refine zq_calli (pc' := 13) rfl rfl rfl rfl rfl rfl (zE_mono H (fun r12 h11 H => ?_))
      rcases r12 with v13 | e14
      · obtain ⟨x15, e0, H⟩ := H
        refine Exists.intro x15 (And.intro e0 ?_)
        refine zq_aload (pc' := 14) rfl rfl rfl rfl ?_
        refine zq_calli (pc' := 17) rfl rfl rfl rfl rfl rfl (zE_mono H (fun r17 h16 H => ?_))
        rcases r17 with v18 | e19
        · obtain ⟨x20, e0, H⟩ := H
          refine Exists.intro x20 (And.intro e0 ?_)
          refine zq_isub (pc' := 18) rfl rfl rfl ?_
          exact zq_iret rfl trivial H
        · exact H
      · exact H
    · exact H
  · exact H
theorem zr_X7_unlike_0 {d : Nat} {Q : zR → zH → Prop} {p0 : Nat} {p1 : Int32} {p2 : Int32} {h : zH} (H :
    zE d 201 [.ref p0, .int p1] h (fun r2 h1 => match r2 with
      | .inl v3 => ∃ a5 : Nat, v3 = some (.ref a5) ∧ zE d 201 [.ref p0, .int p2] h1 (fun r7 h6 => match r7 with
          | .inl v8 => ∃ a10 : Nat, v8 = some (.ref a10) ∧ zE d 112 [.ref a5] h6 (fun r12 h11 => match r12 with
              | .inl v13 => ∃ x15 : Int32, v13 = some (.int x15) ∧ zE d 112 [.ref a10] h11 (fun r17 h16 => match r17 with
                  | .inl v18 => ∃ x20 : Int32, v18 = some (.int x20) ∧ zbr (x15 = x20)
                    (zW (zE d) zm_X7_unlike Q (33, [(3, .ref a5), (4, .ref a10), (5, .int 0), (6, .int 0)], [], h16))
                    (Q (.inl (some (.int (-1)))) h16)
                  | .inr e19 => Q (.inr e19) h16)
              | .inr e14 => Q (.inr e14) h11)
          | .inr e9 => Q (.inr e9) h6)
      | .inr e4 => Q (.inr e4) h1)) : zW (zE d) zm_X7_unlike Q (0, [(0, .ref p0), (1, .int p1), (2, .int p2)], [], h) := by
  refine zq_aload (pc' := 1) rfl rfl rfl rfl ?_
  refine zq_iload (pc' := 2) rfl rfl rfl rfl ?_
  refine zq_callr (pc' := 5) rfl rfl rfl rfl rfl rfl (zE_mono H (fun r2 h1 H => ?_))
  rcases r2 with v3 | e4
  · obtain ⟨a5, e0, H⟩ := H
    refine Exists.intro a5 (And.intro e0 ?_)
    refine zq_astore (pc' := 6) rfl rfl rfl ?_
    refine zq_aload (pc' := 7) rfl rfl rfl rfl ?_
    refine zq_iload (pc' := 8) rfl rfl rfl rfl ?_
    refine zq_callr (pc' := 11) rfl rfl rfl rfl rfl rfl (zE_mono H (fun r7 h6 H => ?_))
    rcases r7 with v8 | e9
    · obtain ⟨a10, e0, H⟩ := H
      refine Exists.intro a10 (And.intro e0 ?_)
      refine zq_astore (pc' := 13) rfl rfl rfl ?_
      refine zq_aload (pc' := 14) rfl rfl rfl rfl ?_
      refine zq_calli (pc' := 17) rfl rfl rfl rfl rfl rfl (zE_mono H (fun r12 h11 H => ?_))
      rcases r12 with v13 | e14
      · obtain ⟨x15, e0, H⟩ := H
        refine Exists.intro x15 (And.intro e0 ?_)
        refine zq_aload (pc' := 19) rfl rfl rfl rfl ?_
        refine zq_calli (pc' := 22) rfl rfl rfl rfl rfl rfl (zE_mono H (fun r17 h16 H => ?_))
        rcases r17 with v18 | e19
        · obtain ⟨x20, e0, H⟩ := H
          refine Exists.intro x20 (And.intro e0 ?_)
          refine zq_iceq (pc' := 25) rfl rfl rfl rfl (And.intro (fun c => ?_) (fun c => ?_))
          · have H := H.1 c
            refine zq_ipush (pc' := 28) rfl rfl rfl ?_
            refine zq_istore (pc' := 30) rfl rfl rfl ?_
            refine zq_ipush (pc' := 31) rfl rfl rfl ?_
            refine zq_istore_c (pc' := 33) rfl rfl ?_
            exact H
          · have H := H.2 c
            refine zq_ipushn (pc' := 26) rfl rfl rfl ?_
            exact zq_iret rfl trivial H
        · exact H
      · exact H
    · exact H
  · exact H
theorem zr_X7_unlike_33 {d : Nat} {Q : zR → zH → Prop} {l3 : Nat} {l4 : Nat} {l5 : Int32} {l6 : Int32} {h : zH} (H :
    zE d 112 [.ref l3] h (fun r2 h1 => match r2 with
      | .inl v3 => ∃ x5 : Int32, v3 = some (.int x5) ∧ zbr (x5 ≤ l6)
        (Q (.inl (some (.int l5))) h1)
        (zE d 118 [.ref l3, .int 0, .int l6] h1 (fun r7 h6 => match r7 with
            | .inl v8 => ∃ x10 : Int32, v8 = some (.int x10) ∧ zE d 118 [.ref l4, .int 0, .int l6] h6 (fun r12 h11 => match r12 with
                | .inl v13 => ∃ x15 : Int32, v13 = some (.int x15) ∧ zE d 1 [.int (x10 - x15)] h11 (fun r17 h16 => match r17 with
                    | .inl v18 => ∃ x20 : Int32, v18 = some (.int x20) ∧ zE d 118 [.ref l3, .int 1, .int l6] h16 (fun r22 h21 => match r22 with
                        | .inl v23 => ∃ x25 : Int32, v23 = some (.int x25) ∧ zE d 118 [.ref l4, .int 1, .int l6] h21 (fun r27 h26 => match r27 with
                            | .inl v28 => ∃ x30 : Int32, v28 = some (.int x30) ∧ zE d 1 [.int (x25 - x30)] h26 (fun r32 h31 => match r32 with
                                | .inl v33 => ∃ x35 : Int32, v33 = some (.int x35) ∧ zW (zE d) zm_X7_unlike Q (33, [(3, .ref l3), (4, .ref l4), (5, .int ((l5 + x20) + x35)), (6, .int (l6 + 1))], [], h31)
                                | .inr e34 => Q (.inr e34) h31)
                            | .inr e29 => Q (.inr e29) h26)
                        | .inr e24 => Q (.inr e24) h21)
                    | .inr e19 => Q (.inr e19) h16)
                | .inr e14 => Q (.inr e14) h11)
            | .inr e9 => Q (.inr e9) h6))
      | .inr e4 => Q (.inr e4) h1)) : zW (zE d) zm_X7_unlike Q (33, [(3, .ref l3), (4, .ref l4), (5, .int l5), (6, .int l6)], [], h) := by
  refine zq_iload (pc' := 35) rfl rfl rfl rfl ?_
  refine zq_aload (pc' := 36) rfl rfl rfl rfl ?_
  refine zq_calli (pc' := 39) rfl rfl rfl rfl rfl rfl (zE_mono H (fun r2 h1 H => ?_))
  rcases r2 with v3 | e4
  · obtain ⟨x5, e0, H⟩ := H
    refine Exists.intro x5 (And.intro e0 ?_)
    refine zq_icge (pc' := 42) rfl rfl rfl rfl (And.intro (fun c => ?_) (fun c => ?_))
    · have H := H.1 c
      refine zq_iload (pc' := 98) rfl rfl rfl rfl ?_
      exact zq_iret rfl trivial H
    · have H := H.2 c
      refine zq_iload (pc' := 44) rfl rfl rfl rfl ?_
      refine zq_aload (pc' := 45) rfl rfl rfl rfl ?_
      refine zq_ipush (pc' := 46) rfl rfl rfl ?_
      refine zq_iload (pc' := 48) rfl rfl rfl rfl ?_
      refine zq_calli (pc' := 51) rfl rfl rfl rfl rfl rfl (zE_mono H (fun r7 h6 H => ?_))
      rcases r7 with v8 | e9
      · obtain ⟨x10, e0, H⟩ := H
        refine Exists.intro x10 (And.intro e0 ?_)
        refine zq_aload (pc' := 53) rfl rfl rfl rfl ?_
        refine zq_ipush (pc' := 54) rfl rfl rfl ?_
        refine zq_iload (pc' := 56) rfl rfl rfl rfl ?_
        refine zq_calli (pc' := 59) rfl rfl rfl rfl rfl rfl (zE_mono H (fun r12 h11 H => ?_))
        rcases r12 with v13 | e14
        · obtain ⟨x15, e0, H⟩ := H
          refine Exists.intro x15 (And.intro e0 ?_)
          refine zq_isub (pc' := 60) rfl rfl rfl ?_
          refine zq_calli (pc' := 63) rfl rfl rfl rfl rfl rfl (zE_mono H (fun r17 h16 H => ?_))
          rcases r17 with v18 | e19
          · obtain ⟨x20, e0, H⟩ := H
            refine Exists.intro x20 (And.intro e0 ?_)
            refine zq_iadd (pc' := 64) rfl rfl rfl ?_
            refine zq_istore (pc' := 66) rfl rfl rfl ?_
            refine zq_iload (pc' := 68) rfl rfl rfl rfl ?_
            refine zq_aload (pc' := 69) rfl rfl rfl rfl ?_
            refine zq_ipush (pc' := 70) rfl rfl rfl ?_
            refine zq_iload (pc' := 72) rfl rfl rfl rfl ?_
            refine zq_calli (pc' := 75) rfl rfl rfl rfl rfl rfl (zE_mono H (fun r22 h21 H => ?_))
            rcases r22 with v23 | e24
            · obtain ⟨x25, e0, H⟩ := H
              refine Exists.intro x25 (And.intro e0 ?_)
              refine zq_aload (pc' := 77) rfl rfl rfl rfl ?_
              refine zq_ipush (pc' := 78) rfl rfl rfl ?_
              refine zq_iload (pc' := 80) rfl rfl rfl rfl ?_
              refine zq_calli (pc' := 83) rfl rfl rfl rfl rfl rfl (zE_mono H (fun r27 h26 H => ?_))
              rcases r27 with v28 | e29
              · obtain ⟨x30, e0, H⟩ := H
                refine Exists.intro x30 (And.intro e0 ?_)
                refine zq_isub (pc' := 84) rfl rfl rfl ?_
                refine zq_calli (pc' := 87) rfl rfl rfl rfl rfl rfl (zE_mono H (fun r32 h31 H => ?_))
                rcases r32 with v33 | e34
                · obtain ⟨x35, e0, H⟩ := H
                  refine Exists.intro x35 (And.intro e0 ?_)
                  refine zq_iadd (pc' := 88) rfl rfl rfl ?_
                  refine zq_istore (pc' := 90) rfl rfl rfl ?_
                  refine zq_iinc (pc' := 93) rfl rfl rfl rfl ?_
                  refine zq_goto_c (pc' := 33) rfl rfl ?_
                  exact H
                · exact H
              · exact H
            · exact H
          · exact H
        · exact H
      · exact H
  · exact H
theorem zr_X7_days_0 {d : Nat} {Q : zR → zH → Prop} {p0 : Nat} {p1 : Int32} {h : zH} (H :
    zbr (p1 < 1)
    (∃ a1 : Nat, zgf h p0 7 6 = some (.ref a1) ∧
      zE d 20 [.ref a1, .int 1] h (fun r3 h2 => match r3 with
        | .inl v4 => v4 = none ∧ Q (.inl (some (.int (-1)))) h2
        | .inr e5 => Q (.inr e5) h2))
    (zbr (20 < p1)
      (∃ a6 : Nat, zgf h p0 7 6 = some (.ref a6) ∧
        zE d 20 [.ref a6, .int 1] h (fun r8 h7 => match r8 with
          | .inl v9 => v9 = none ∧ Q (.inl (some (.int (-1)))) h7
          | .inr e10 => Q (.inr e10) h7))
      (∃ a11 : Nat, zgf h p0 7 4 = some (.ref a11) ∧
        zE d 49 [.ref a11] h (fun r13 h12 => match r13 with
          | .inl v14 => ∃ x16 : Int32, v14 = some (.int x16) ∧ zbr ((x16 + p1) ≤ 999)
            (∃ a17 : Nat, zgf h12 p0 7 6 = some (.ref a17) ∧
              ∃ a18 : Nat, zgf h12 p0 7 4 = some (.ref a18) ∧
              zE d 23 [.ref a17, .ref a18] h12 (fun r20 h19 => match r20 with
                | .inl v21 => v21 = none ∧ zW (zE d) zm_X7_days Q (49, [(0, .ref p0), (1, .int p1), (2, .int 0)], [], h19)
                | .inr e22 => Q (.inr e22) h19))
            (∃ a23 : Nat, zgf h12 p0 7 6 = some (.ref a23) ∧
              zE d 20 [.ref a23, .int 1] h12 (fun r25 h24 => match r25 with
                | .inl v26 => v26 = none ∧ Q (.inl (some (.int (-1)))) h24
                | .inr e27 => Q (.inr e27) h24))
          | .inr e15 => Q (.inr e15) h12)))) : zW (zE d) zm_X7_days Q (0, [(0, .ref p0), (1, .int p1)], [], h) := by
  refine zq_iload (pc' := 1) rfl rfl rfl rfl ?_
  refine zq_ipush (pc' := 2) rfl rfl rfl ?_
  refine zq_iclt (pc' := 5) rfl rfl rfl rfl (And.intro (fun c => ?_) (fun c => ?_))
  · have H := H.1 c
    refine zq_aload (pc' := 27) rfl rfl rfl rfl ?_
    obtain ⟨a1, e0, H⟩ := H
    refine zq_getR (pc' := 30) rfl rfl rfl e0 ?_
    refine zq_ipush (pc' := 31) rfl rfl rfl ?_
    refine zq_callv (pc' := 34) rfl rfl rfl rfl rfl rfl (zE_mono H (fun r3 h2 H => ?_))
    rcases r3 with v4 | e5
    · obtain ⟨e0, H⟩ := H
      refine And.intro e0 ?_
      refine zq_ipushn (pc' := 35) rfl rfl rfl ?_
      exact zq_iret rfl trivial H
    · exact H
  · have H := H.2 c
    refine zq_iload (pc' := 6) rfl rfl rfl rfl ?_
    refine zq_ipush (pc' := 8) rfl rfl rfl ?_
    refine zq_icgt (pc' := 11) rfl rfl rfl rfl (And.intro (fun c => ?_) (fun c => ?_))
    · have H := H.1 c
      refine zq_aload (pc' := 27) rfl rfl rfl rfl ?_
      obtain ⟨a6, e0, H⟩ := H
      refine zq_getR (pc' := 30) rfl rfl rfl e0 ?_
      refine zq_ipush (pc' := 31) rfl rfl rfl ?_
      refine zq_callv (pc' := 34) rfl rfl rfl rfl rfl rfl (zE_mono H (fun r8 h7 H => ?_))
      rcases r8 with v9 | e10
      · obtain ⟨e0, H⟩ := H
        refine And.intro e0 ?_
        refine zq_ipushn (pc' := 35) rfl rfl rfl ?_
        exact zq_iret rfl trivial H
      · exact H
    · have H := H.2 c
      refine zq_aload (pc' := 12) rfl rfl rfl rfl ?_
      obtain ⟨a11, e0, H⟩ := H
      refine zq_getR (pc' := 15) rfl rfl rfl e0 ?_
      refine zq_calli (pc' := 18) rfl rfl rfl rfl rfl rfl (zE_mono H (fun r13 h12 H => ?_))
      rcases r13 with v14 | e15
      · obtain ⟨x16, e0, H⟩ := H
        refine Exists.intro x16 (And.intro e0 ?_)
        refine zq_iload (pc' := 19) rfl rfl rfl rfl ?_
        refine zq_iadd (pc' := 20) rfl rfl rfl ?_
        refine zq_ipush (pc' := 23) rfl rfl rfl ?_
        refine zq_icle (pc' := 26) rfl rfl rfl rfl (And.intro (fun c => ?_) (fun c => ?_))
        · have H := H.1 c
          refine zq_aload (pc' := 37) rfl rfl rfl rfl ?_
          obtain ⟨a17, e0, H⟩ := H
          refine zq_getR (pc' := 40) rfl rfl rfl e0 ?_
          refine zq_aload (pc' := 41) rfl rfl rfl rfl ?_
          obtain ⟨a18, e0, H⟩ := H
          refine zq_getR (pc' := 44) rfl rfl rfl e0 ?_
          refine zq_callv (pc' := 47) rfl rfl rfl rfl rfl rfl (zE_mono H (fun r20 h19 H => ?_))
          rcases r20 with v21 | e22
          · obtain ⟨e0, H⟩ := H
            refine And.intro e0 ?_
            refine zq_ipush (pc' := 48) rfl rfl rfl ?_
            refine zq_istore_c (pc' := 49) rfl rfl ?_
            exact H
          · exact H
        · have H := H.2 c
          refine zq_aload (pc' := 27) rfl rfl rfl rfl ?_
          obtain ⟨a23, e0, H⟩ := H
          refine zq_getR (pc' := 30) rfl rfl rfl e0 ?_
          refine zq_ipush (pc' := 31) rfl rfl rfl ?_
          refine zq_callv (pc' := 34) rfl rfl rfl rfl rfl rfl (zE_mono H (fun r25 h24 H => ?_))
          rcases r25 with v26 | e27
          · obtain ⟨e0, H⟩ := H
            refine And.intro e0 ?_
            refine zq_ipushn (pc' := 35) rfl rfl rfl ?_
            exact zq_iret rfl trivial H
          · exact H
      · exact H
theorem zr_X7_days_49 {d : Nat} {Q : zR → zH → Prop} {l0 : Nat} {l1 : Int32} {l2 : Int32} {h : zH} (H :
    zbr (l1 ≤ l2)
    (∃ a1 : Nat, zgf h l0 7 4 = some (.ref a1) ∧
      zE d 49 [.ref a1] h (fun r3 h2 => match r3 with
        | .inl v4 => ∃ x6 : Int32, v4 = some (.int x6) ∧ Q (.inl (some (.int x6))) h2
        | .inr e5 => Q (.inr e5) h2))
    (∃ a7 : Nat, zgf h l0 7 4 = some (.ref a7) ∧
      zE d 57 [.ref a7] h (fun r9 h8 => match r9 with
        | .inl v10 => v10 = none ∧ zW (zE d) zm_X7_days Q (49, [(0, .ref l0), (1, .int l1), (2, .int (l2 + 1))], [], h8)
        | .inr e11 => Q (.inr e11) h8))) : zW (zE d) zm_X7_days Q (49, [(0, .ref l0), (1, .int l1), (2, .int l2)], [], h) := by
  refine zq_iload (pc' := 50) rfl rfl rfl rfl ?_
  refine zq_iload (pc' := 51) rfl rfl rfl rfl ?_
  refine zq_icge (pc' := 54) rfl rfl rfl rfl (And.intro (fun c => ?_) (fun c => ?_))
  · have H := H.1 c
    refine zq_aload (pc' := 68) rfl rfl rfl rfl ?_
    obtain ⟨a1, e0, H⟩ := H
    refine zq_getR (pc' := 71) rfl rfl rfl e0 ?_
    refine zq_calli (pc' := 74) rfl rfl rfl rfl rfl rfl (zE_mono H (fun r3 h2 H => ?_))
    rcases r3 with v4 | e5
    · obtain ⟨x6, e0, H⟩ := H
      refine Exists.intro x6 (And.intro e0 ?_)
      exact zq_iret rfl trivial H
    · exact H
  · have H := H.2 c
    refine zq_aload (pc' := 55) rfl rfl rfl rfl ?_
    obtain ⟨a7, e0, H⟩ := H
    refine zq_getR (pc' := 58) rfl rfl rfl e0 ?_
    refine zq_callv (pc' := 61) rfl rfl rfl rfl rfl rfl (zE_mono H (fun r9 h8 H => ?_))
    rcases r9 with v10 | e11
    · obtain ⟨e0, H⟩ := H
      refine And.intro e0 ?_
      refine zq_iinc (pc' := 64) rfl rfl rfl rfl ?_
      refine zq_goto_c (pc' := 49) rfl rfl ?_
      exact H
    · exact H
theorem zr_X7_slide_0 {d : Nat} {Q : zR → zH → Prop} {p0 : Nat} {p1 : Int32} {p2 : Int32} {h : zH} (H :
    zE d 201 [.ref p0, .int p1] h (fun r2 h1 => match r2 with
      | .inl v3 => ∃ a5 : Nat, v3 = some (.ref a5) ∧ zbr (p2 < 0)
        (∃ a6 : Nat, zgf h1 p0 7 6 = some (.ref a6) ∧
          zE d 20 [.ref a6, .int 1] h1 (fun r8 h7 => match r8 with
            | .inl v9 => v9 = none ∧ Q (.inl (some (.int (-1)))) h7
            | .inr e10 => Q (.inr e10) h7))
        (zE d 112 [.ref a5] h1 (fun r12 h11 => match r12 with
            | .inl v13 => ∃ x15 : Int32, v13 = some (.int x15) ∧ zbr (p2 ≤ x15)
              (∃ a16 : Nat, zgf h11 p0 7 6 = some (.ref a16) ∧
                ∃ a17 : Nat, zgf h11 p0 7 4 = some (.ref a17) ∧
                zE d 23 [.ref a16, .ref a17] h11 (fun r19 h18 => match r19 with
                  | .inl v20 => v20 = none ∧ zE d 126 [.ref a5, .int p2] h18 (fun r23 h22 => match r23 with
                      | .inl v24 => v24 = none ∧ zE d 116 [.ref a5] h22 (fun r27 h26 => match r27 with
                          | .inl v28 => ∃ x30 : Int32, v28 = some (.int x30) ∧ Q (.inl (some (.int x30))) h26
                          | .inr e29 => Q (.inr e29) h26)
                      | .inr e25 => Q (.inr e25) h22)
                  | .inr e21 => Q (.inr e21) h18))
              (∃ a31 : Nat, zgf h11 p0 7 6 = some (.ref a31) ∧
                zE d 20 [.ref a31, .int 1] h11 (fun r33 h32 => match r33 with
                  | .inl v34 => v34 = none ∧ Q (.inl (some (.int (-1)))) h32
                  | .inr e35 => Q (.inr e35) h32))
            | .inr e14 => Q (.inr e14) h11))
      | .inr e4 => Q (.inr e4) h1)) : zW (zE d) zm_X7_slide Q (0, [(0, .ref p0), (1, .int p1), (2, .int p2)], [], h) := by
  refine zq_aload (pc' := 1) rfl rfl rfl rfl ?_
  refine zq_iload (pc' := 2) rfl rfl rfl rfl ?_
  refine zq_callr (pc' := 5) rfl rfl rfl rfl rfl rfl (zE_mono H (fun r2 h1 H => ?_))
  rcases r2 with v3 | e4
  · obtain ⟨a5, e0, H⟩ := H
    refine Exists.intro a5 (And.intro e0 ?_)
    refine zq_astore (pc' := 6) rfl rfl rfl ?_
    refine zq_iload (pc' := 7) rfl rfl rfl rfl ?_
    refine zq_iflt (pc' := 10) rfl rfl rfl rfl (And.intro (fun c => ?_) (fun c => ?_))
    · have H := H.1 c
      refine zq_aload (pc' := 19) rfl rfl rfl rfl ?_
      obtain ⟨a6, e0, H⟩ := H
      refine zq_getR (pc' := 22) rfl rfl rfl e0 ?_
      refine zq_ipush (pc' := 23) rfl rfl rfl ?_
      refine zq_callv (pc' := 26) rfl rfl rfl rfl rfl rfl (zE_mono H (fun r8 h7 H => ?_))
      rcases r8 with v9 | e10
      · obtain ⟨e0, H⟩ := H
        refine And.intro e0 ?_
        refine zq_ipushn (pc' := 27) rfl rfl rfl ?_
        exact zq_iret rfl trivial H
      · exact H
    · have H := H.2 c
      refine zq_iload (pc' := 11) rfl rfl rfl rfl ?_
      refine zq_aload (pc' := 12) rfl rfl rfl rfl ?_
      refine zq_calli (pc' := 15) rfl rfl rfl rfl rfl rfl (zE_mono H (fun r12 h11 H => ?_))
      rcases r12 with v13 | e14
      · obtain ⟨x15, e0, H⟩ := H
        refine Exists.intro x15 (And.intro e0 ?_)
        refine zq_icle (pc' := 18) rfl rfl rfl rfl (And.intro (fun c => ?_) (fun c => ?_))
        · have H := H.1 c
          refine zq_aload (pc' := 29) rfl rfl rfl rfl ?_
          obtain ⟨a16, e0, H⟩ := H
          refine zq_getR (pc' := 32) rfl rfl rfl e0 ?_
          refine zq_aload (pc' := 33) rfl rfl rfl rfl ?_
          obtain ⟨a17, e0, H⟩ := H
          refine zq_getR (pc' := 36) rfl rfl rfl e0 ?_
          refine zq_callv (pc' := 39) rfl rfl rfl rfl rfl rfl (zE_mono H (fun r19 h18 H => ?_))
          rcases r19 with v20 | e21
          · obtain ⟨e0, H⟩ := H
            refine And.intro e0 ?_
            refine zq_aload (pc' := 40) rfl rfl rfl rfl ?_
            refine zq_iload (pc' := 41) rfl rfl rfl rfl ?_
            refine zq_callv (pc' := 44) rfl rfl rfl rfl rfl rfl (zE_mono H (fun r23 h22 H => ?_))
            rcases r23 with v24 | e25
            · obtain ⟨e0, H⟩ := H
              refine And.intro e0 ?_
              refine zq_aload (pc' := 45) rfl rfl rfl rfl ?_
              refine zq_calli (pc' := 48) rfl rfl rfl rfl rfl rfl (zE_mono H (fun r27 h26 H => ?_))
              rcases r27 with v28 | e29
              · obtain ⟨x30, e0, H⟩ := H
                refine Exists.intro x30 (And.intro e0 ?_)
                exact zq_iret rfl trivial H
              · exact H
            · exact H
          · exact H
        · have H := H.2 c
          refine zq_aload (pc' := 19) rfl rfl rfl rfl ?_
          obtain ⟨a31, e0, H⟩ := H
          refine zq_getR (pc' := 22) rfl rfl rfl e0 ?_
          refine zq_ipush (pc' := 23) rfl rfl rfl ?_
          refine zq_callv (pc' := 26) rfl rfl rfl rfl rfl rfl (zE_mono H (fun r33 h32 H => ?_))
          rcases r33 with v34 | e35
          · obtain ⟨e0, H⟩ := H
            refine And.intro e0 ?_
            refine zq_ipushn (pc' := 27) rfl rfl rfl ?_
            exact zq_iret rfl trivial H
          · exact H
      · exact H
  · exact H
theorem zr_X7_pinch_0 {d : Nat} {Q : zR → zH → Prop} {p0 : Nat} {p1 : Int32} {p2 : Int32} {p3 : Int32} {h : zH} (H :
    zE d 201 [.ref p0, .int p1] h (fun r2 h1 => match r2 with
      | .inl v3 => ∃ a5 : Nat, v3 = some (.ref a5) ∧ zE d 202 [.ref a5, .int p3] h1 (fun r7 h6 => match r7 with
          | .inl v8 => v8 = none ∧ zE d 203 [.int p2] h6 (fun r11 h10 => match r11 with
              | .inl v12 => v12 = none ∧ zE d 129 [.ref a5, .int p2, .int p3] h10 (fun r15 h14 => match r15 with
                  | .inl v16 => ∃ x18 : Int32, v16 = some (.int x18) ∧ zbr (x18 = 0)
                    (∃ a19 : Nat, zgf h14 p0 7 6 = some (.ref a19) ∧
                      zE d 20 [.ref a19, .int 1] h14 (fun r21 h20 => match r21 with
                        | .inl v22 => v22 = none ∧ Q (.inl (some (.int (-1)))) h20
                        | .inr e23 => Q (.inr e23) h20))
                    (∃ a24 : Nat, zgf h14 p0 7 6 = some (.ref a24) ∧
                      ∃ a25 : Nat, zgf h14 p0 7 4 = some (.ref a25) ∧
                      zE d 23 [.ref a24, .ref a25] h14 (fun r27 h26 => match r27 with
                        | .inl v28 => v28 = none ∧ zE d 130 [.ref a5, .int p2, .int p3] h26 (fun r31 h30 => match r31 with
                            | .inl v32 => v32 = none ∧ zE d 118 [.ref a5, .int p2, .int p3] h30 (fun r35 h34 => match r35 with
                                | .inl v36 => ∃ x38 : Int32, v36 = some (.int x38) ∧ Q (.inl (some (.int x38))) h34
                                | .inr e37 => Q (.inr e37) h34)
                            | .inr e33 => Q (.inr e33) h30)
                        | .inr e29 => Q (.inr e29) h26))
                  | .inr e17 => Q (.inr e17) h14)
              | .inr e13 => Q (.inr e13) h10)
          | .inr e9 => Q (.inr e9) h6)
      | .inr e4 => Q (.inr e4) h1)) : zW (zE d) zm_X7_pinch Q (0, [(0, .ref p0), (1, .int p1), (2, .int p2), (3, .int p3)], [], h) := by
  refine zq_aload (pc' := 1) rfl rfl rfl rfl ?_
  refine zq_iload (pc' := 2) rfl rfl rfl rfl ?_
  refine zq_callr (pc' := 5) rfl rfl rfl rfl rfl rfl (zE_mono H (fun r2 h1 H => ?_))
  rcases r2 with v3 | e4
  · obtain ⟨a5, e0, H⟩ := H
    refine Exists.intro a5 (And.intro e0 ?_)
    refine zq_astore (pc' := 7) rfl rfl rfl ?_
    refine zq_aload (pc' := 9) rfl rfl rfl rfl ?_
    refine zq_iload (pc' := 10) rfl rfl rfl rfl ?_
    refine zq_callv (pc' := 13) rfl rfl rfl rfl rfl rfl (zE_mono H (fun r7 h6 H => ?_))
    rcases r7 with v8 | e9
    · obtain ⟨e0, H⟩ := H
      refine And.intro e0 ?_
      refine zq_iload (pc' := 14) rfl rfl rfl rfl ?_
      refine zq_callv (pc' := 17) rfl rfl rfl rfl rfl rfl (zE_mono H (fun r11 h10 H => ?_))
      rcases r11 with v12 | e13
      · obtain ⟨e0, H⟩ := H
        refine And.intro e0 ?_
        refine zq_aload (pc' := 19) rfl rfl rfl rfl ?_
        refine zq_iload (pc' := 20) rfl rfl rfl rfl ?_
        refine zq_iload (pc' := 21) rfl rfl rfl rfl ?_
        refine zq_calli (pc' := 24) rfl rfl rfl rfl rfl rfl (zE_mono H (fun r15 h14 H => ?_))
        rcases r15 with v16 | e17
        · obtain ⟨x18, e0, H⟩ := H
          refine Exists.intro x18 (And.intro e0 ?_)
          refine zq_ifne (pc' := 27) rfl rfl rfl rfl (And.intro (fun c => ?_) (fun c => ?_))
          · have H := H.1 c
            refine zq_aload (pc' := 28) rfl rfl rfl rfl ?_
            obtain ⟨a19, e0, H⟩ := H
            refine zq_getR (pc' := 31) rfl rfl rfl e0 ?_
            refine zq_ipush (pc' := 32) rfl rfl rfl ?_
            refine zq_callv (pc' := 35) rfl rfl rfl rfl rfl rfl (zE_mono H (fun r21 h20 H => ?_))
            rcases r21 with v22 | e23
            · obtain ⟨e0, H⟩ := H
              refine And.intro e0 ?_
              refine zq_ipushn (pc' := 36) rfl rfl rfl ?_
              exact zq_iret rfl trivial H
            · exact H
          · have H := H.2 c
            refine zq_aload (pc' := 38) rfl rfl rfl rfl ?_
            obtain ⟨a24, e0, H⟩ := H
            refine zq_getR (pc' := 41) rfl rfl rfl e0 ?_
            refine zq_aload (pc' := 42) rfl rfl rfl rfl ?_
            obtain ⟨a25, e0, H⟩ := H
            refine zq_getR (pc' := 45) rfl rfl rfl e0 ?_
            refine zq_callv (pc' := 48) rfl rfl rfl rfl rfl rfl (zE_mono H (fun r27 h26 H => ?_))
            rcases r27 with v28 | e29
            · obtain ⟨e0, H⟩ := H
              refine And.intro e0 ?_
              refine zq_aload (pc' := 50) rfl rfl rfl rfl ?_
              refine zq_iload (pc' := 51) rfl rfl rfl rfl ?_
              refine zq_iload (pc' := 52) rfl rfl rfl rfl ?_
              refine zq_callv (pc' := 55) rfl rfl rfl rfl rfl rfl (zE_mono H (fun r31 h30 H => ?_))
              rcases r31 with v32 | e33
              · obtain ⟨e0, H⟩ := H
                refine And.intro e0 ?_
                refine zq_aload (pc' := 57) rfl rfl rfl rfl ?_
                refine zq_iload (pc' := 58) rfl rfl rfl rfl ?_
                refine zq_iload (pc' := 59) rfl rfl rfl rfl ?_
                refine zq_calli (pc' := 62) rfl rfl rfl rfl rfl rfl (zE_mono H (fun r35 h34 H => ?_))
                rcases r35 with v36 | e37
                · obtain ⟨x38, e0, H⟩ := H
                  refine Exists.intro x38 (And.intro e0 ?_)
                  exact zq_iret rfl trivial H
                · exact H
              · exact H
            · exact H
        · exact H
      · exact H
    · exact H
  · exact H
theorem zr_X7_set_0 {d : Nat} {Q : zR → zH → Prop} {p0 : Nat} {p1 : Int32} {p2 : Int32} {p3 : Int32} {p4 : Int32} {h : zH} (H :
    zE d 201 [.ref p0, .int p1] h (fun r2 h1 => match r2 with
      | .inl v3 => ∃ a5 : Nat, v3 = some (.ref a5) ∧ zE d 202 [.ref a5, .int p3] h1 (fun r7 h6 => match r7 with
          | .inl v8 => v8 = none ∧ zE d 203 [.int p2] h6 (fun r11 h10 => match r11 with
              | .inl v12 => v12 = none ∧ zE d 118 [.ref a5, .int p2, .int p3] h10 (fun r15 h14 => match r15 with
                  | .inl v16 => ∃ x18 : Int32, v16 = some (.int x18) ∧ zbr (x18 = 0)
                    (zbr (p4 < 1)
                      (∃ a19 : Nat, zgf h14 p0 7 6 = some (.ref a19) ∧
                        zE d 20 [.ref a19, .int 1] h14 (fun r21 h20 => match r21 with
                          | .inl v22 => v22 = none ∧ Q (.inl (some (.int 0))) h20
                          | .inr e23 => Q (.inr e23) h20))
                      (zbr (p4 ≤ 9)
                        (∃ a24 : Nat, zgf h14 p0 7 6 = some (.ref a24) ∧
                          ∃ a25 : Nat, zgf h14 p0 7 4 = some (.ref a25) ∧
                          zE d 23 [.ref a24, .ref a25] h14 (fun r27 h26 => match r27 with
                            | .inl v28 => v28 = none ∧ zE d 119 [.ref a5, .int p2, .int p3, .int p4] h26 (fun r31 h30 => match r31 with
                                | .inl v32 => v32 = none ∧ Q (.inl (some (.int 1))) h30
                                | .inr e33 => Q (.inr e33) h30)
                            | .inr e29 => Q (.inr e29) h26))
                        (∃ a34 : Nat, zgf h14 p0 7 6 = some (.ref a34) ∧
                          zE d 20 [.ref a34, .int 1] h14 (fun r36 h35 => match r36 with
                            | .inl v37 => v37 = none ∧ Q (.inl (some (.int 0))) h35
                            | .inr e38 => Q (.inr e38) h35))))
                    (∃ a39 : Nat, zgf h14 p0 7 6 = some (.ref a39) ∧
                      zE d 20 [.ref a39, .int 1] h14 (fun r41 h40 => match r41 with
                        | .inl v42 => v42 = none ∧ Q (.inl (some (.int 0))) h40
                        | .inr e43 => Q (.inr e43) h40))
                  | .inr e17 => Q (.inr e17) h14)
              | .inr e13 => Q (.inr e13) h10)
          | .inr e9 => Q (.inr e9) h6)
      | .inr e4 => Q (.inr e4) h1)) : zW (zE d) zm_X7_set Q (0, [(0, .ref p0), (1, .int p1), (2, .int p2), (3, .int p3), (4, .int p4)], [], h) := by
  refine zq_aload (pc' := 1) rfl rfl rfl rfl ?_
  refine zq_iload (pc' := 2) rfl rfl rfl rfl ?_
  refine zq_callr (pc' := 5) rfl rfl rfl rfl rfl rfl (zE_mono H (fun r2 h1 H => ?_))
  rcases r2 with v3 | e4
  · obtain ⟨a5, e0, H⟩ := H
    refine Exists.intro a5 (And.intro e0 ?_)
    refine zq_astore (pc' := 7) rfl rfl rfl ?_
    refine zq_aload (pc' := 9) rfl rfl rfl rfl ?_
    refine zq_iload (pc' := 10) rfl rfl rfl rfl ?_
    refine zq_callv (pc' := 13) rfl rfl rfl rfl rfl rfl (zE_mono H (fun r7 h6 H => ?_))
    rcases r7 with v8 | e9
    · obtain ⟨e0, H⟩ := H
      refine And.intro e0 ?_
      refine zq_iload (pc' := 14) rfl rfl rfl rfl ?_
      refine zq_callv (pc' := 17) rfl rfl rfl rfl rfl rfl (zE_mono H (fun r11 h10 H => ?_))
      rcases r11 with v12 | e13
      · obtain ⟨e0, H⟩ := H
        refine And.intro e0 ?_
        refine zq_aload (pc' := 19) rfl rfl rfl rfl ?_
        refine zq_iload (pc' := 20) rfl rfl rfl rfl ?_
        refine zq_iload (pc' := 21) rfl rfl rfl rfl ?_
        refine zq_calli (pc' := 24) rfl rfl rfl rfl rfl rfl (zE_mono H (fun r15 h14 H => ?_))
        rcases r15 with v16 | e17
        · obtain ⟨x18, e0, H⟩ := H
          refine Exists.intro x18 (And.intro e0 ?_)
          refine zq_ifne (pc' := 27) rfl rfl rfl rfl (And.intro (fun c => ?_) (fun c => ?_))
          · have H := H.1 c
            refine zq_iload (pc' := 29) rfl rfl rfl rfl ?_
            refine zq_ipush (pc' := 30) rfl rfl rfl ?_
            refine zq_iclt (pc' := 33) rfl rfl rfl rfl (And.intro (fun c => ?_) (fun c => ?_))
            · have H := H.1 c
              refine zq_aload (pc' := 41) rfl rfl rfl rfl ?_
              obtain ⟨a19, e0, H⟩ := H
              refine zq_getR (pc' := 44) rfl rfl rfl e0 ?_
              refine zq_ipush (pc' := 45) rfl rfl rfl ?_
              refine zq_callv (pc' := 48) rfl rfl rfl rfl rfl rfl (zE_mono H (fun r21 h20 H => ?_))
              rcases r21 with v22 | e23
              · obtain ⟨e0, H⟩ := H
                refine And.intro e0 ?_
                refine zq_ipush (pc' := 49) rfl rfl rfl ?_
                exact zq_iret rfl (Or.inl rfl) H
              · exact H
            · have H := H.2 c
              refine zq_iload (pc' := 35) rfl rfl rfl rfl ?_
              refine zq_ipush (pc' := 37) rfl rfl rfl ?_
              refine zq_icle (pc' := 40) rfl rfl rfl rfl (And.intro (fun c => ?_) (fun c => ?_))
              · have H := H.1 c
                refine zq_aload (pc' := 51) rfl rfl rfl rfl ?_
                obtain ⟨a24, e0, H⟩ := H
                refine zq_getR (pc' := 54) rfl rfl rfl e0 ?_
                refine zq_aload (pc' := 55) rfl rfl rfl rfl ?_
                obtain ⟨a25, e0, H⟩ := H
                refine zq_getR (pc' := 58) rfl rfl rfl e0 ?_
                refine zq_callv (pc' := 61) rfl rfl rfl rfl rfl rfl (zE_mono H (fun r27 h26 H => ?_))
                rcases r27 with v28 | e29
                · obtain ⟨e0, H⟩ := H
                  refine And.intro e0 ?_
                  refine zq_aload (pc' := 63) rfl rfl rfl rfl ?_
                  refine zq_iload (pc' := 64) rfl rfl rfl rfl ?_
                  refine zq_iload (pc' := 65) rfl rfl rfl rfl ?_
                  refine zq_iload (pc' := 67) rfl rfl rfl rfl ?_
                  refine zq_callv (pc' := 70) rfl rfl rfl rfl rfl rfl (zE_mono H (fun r31 h30 H => ?_))
                  rcases r31 with v32 | e33
                  · obtain ⟨e0, H⟩ := H
                    refine And.intro e0 ?_
                    refine zq_ipush (pc' := 71) rfl rfl rfl ?_
                    exact zq_iret rfl (Or.inr rfl) H
                  · exact H
                · exact H
              · have H := H.2 c
                refine zq_aload (pc' := 41) rfl rfl rfl rfl ?_
                obtain ⟨a34, e0, H⟩ := H
                refine zq_getR (pc' := 44) rfl rfl rfl e0 ?_
                refine zq_ipush (pc' := 45) rfl rfl rfl ?_
                refine zq_callv (pc' := 48) rfl rfl rfl rfl rfl rfl (zE_mono H (fun r36 h35 H => ?_))
                rcases r36 with v37 | e38
                · obtain ⟨e0, H⟩ := H
                  refine And.intro e0 ?_
                  refine zq_ipush (pc' := 49) rfl rfl rfl ?_
                  exact zq_iret rfl (Or.inl rfl) H
                · exact H
          · have H := H.2 c
            refine zq_aload (pc' := 41) rfl rfl rfl rfl ?_
            obtain ⟨a39, e0, H⟩ := H
            refine zq_getR (pc' := 44) rfl rfl rfl e0 ?_
            refine zq_ipush (pc' := 45) rfl rfl rfl ?_
            refine zq_callv (pc' := 48) rfl rfl rfl rfl rfl rfl (zE_mono H (fun r41 h40 H => ?_))
            rcases r41 with v42 | e43
            · obtain ⟨e0, H⟩ := H
              refine And.intro e0 ?_
              refine zq_ipush (pc' := 49) rfl rfl rfl ?_
              exact zq_iret rfl (Or.inl rfl) H
            · exact H
        · exact H
      · exact H
    · exact H
  · exact H
theorem zr_X7_swap_0 {d : Nat} {Q : zR → zH → Prop} {p0 : Nat} {p1 : Int32} {p2 : Int32} {h : zH} (H :
    zE d 201 [.ref p0, .int p1] h (fun r2 h1 => match r2 with
      | .inl v3 => ∃ a5 : Nat, v3 = some (.ref a5) ∧ zE d 201 [.ref p0, .int p2] h1 (fun r7 h6 => match r7 with
          | .inl v8 => ∃ a10 : Nat, v8 = some (.ref a10) ∧ zbr (p1 = p2)
            (∃ a11 : Nat, zgf h6 p0 7 6 = some (.ref a11) ∧
              zE d 20 [.ref a11, .int 1] h6 (fun r13 h12 => match r13 with
                | .inl v14 => v14 = none ∧ Q (.inl (some (.int 0))) h12
                | .inr e15 => Q (.inr e15) h12))
            (zE d 112 [.ref a5] h6 (fun r17 h16 => match r17 with
                | .inl v18 => ∃ x20 : Int32, v18 = some (.int x20) ∧ zE d 112 [.ref a10] h16 (fun r22 h21 => match r22 with
                    | .inl v23 => ∃ x25 : Int32, v23 = some (.int x25) ∧ zbr (x20 = x25)
                      (∃ a26 : Nat, zgf h21 p0 7 6 = some (.ref a26) ∧
                        ∃ a27 : Nat, zgf h21 p0 7 4 = some (.ref a27) ∧
                        zE d 23 [.ref a26, .ref a27] h21 (fun r29 h28 => match r29 with
                          | .inl v30 => v30 = none ∧ zE d 134 [.ref a5, .ref a10] h28 (fun r33 h32 => match r33 with
                              | .inl v34 => v34 = none ∧ Q (.inl (some (.int 1))) h32
                              | .inr e35 => Q (.inr e35) h32)
                          | .inr e31 => Q (.inr e31) h28))
                      (∃ a36 : Nat, zgf h21 p0 7 6 = some (.ref a36) ∧
                        zE d 20 [.ref a36, .int 1] h21 (fun r38 h37 => match r38 with
                          | .inl v39 => v39 = none ∧ Q (.inl (some (.int 0))) h37
                          | .inr e40 => Q (.inr e40) h37))
                    | .inr e24 => Q (.inr e24) h21)
                | .inr e19 => Q (.inr e19) h16))
          | .inr e9 => Q (.inr e9) h6)
      | .inr e4 => Q (.inr e4) h1)) : zW (zE d) zm_X7_swap Q (0, [(0, .ref p0), (1, .int p1), (2, .int p2)], [], h) := by
  refine zq_aload (pc' := 1) rfl rfl rfl rfl ?_
  refine zq_iload (pc' := 2) rfl rfl rfl rfl ?_
  refine zq_callr (pc' := 5) rfl rfl rfl rfl rfl rfl (zE_mono H (fun r2 h1 H => ?_))
  rcases r2 with v3 | e4
  · obtain ⟨a5, e0, H⟩ := H
    refine Exists.intro a5 (And.intro e0 ?_)
    refine zq_astore (pc' := 6) rfl rfl rfl ?_
    refine zq_aload (pc' := 7) rfl rfl rfl rfl ?_
    refine zq_iload (pc' := 8) rfl rfl rfl rfl ?_
    refine zq_callr (pc' := 11) rfl rfl rfl rfl rfl rfl (zE_mono H (fun r7 h6 H => ?_))
    rcases r7 with v8 | e9
    · obtain ⟨a10, e0, H⟩ := H
      refine Exists.intro a10 (And.intro e0 ?_)
      refine zq_astore (pc' := 13) rfl rfl rfl ?_
      refine zq_iload (pc' := 14) rfl rfl rfl rfl ?_
      refine zq_iload (pc' := 15) rfl rfl rfl rfl ?_
      refine zq_iceq (pc' := 18) rfl rfl rfl rfl (And.intro (fun c => ?_) (fun c => ?_))
      · have H := H.1 c
        refine zq_aload (pc' := 31) rfl rfl rfl rfl ?_
        obtain ⟨a11, e0, H⟩ := H
        refine zq_getR (pc' := 34) rfl rfl rfl e0 ?_
        refine zq_ipush (pc' := 35) rfl rfl rfl ?_
        refine zq_callv (pc' := 38) rfl rfl rfl rfl rfl rfl (zE_mono H (fun r13 h12 H => ?_))
        rcases r13 with v14 | e15
        · obtain ⟨e0, H⟩ := H
          refine And.intro e0 ?_
          refine zq_ipush (pc' := 39) rfl rfl rfl ?_
          exact zq_iret rfl (Or.inl rfl) H
        · exact H
      · have H := H.2 c
        refine zq_aload (pc' := 19) rfl rfl rfl rfl ?_
        refine zq_calli (pc' := 22) rfl rfl rfl rfl rfl rfl (zE_mono H (fun r17 h16 H => ?_))
        rcases r17 with v18 | e19
        · obtain ⟨x20, e0, H⟩ := H
          refine Exists.intro x20 (And.intro e0 ?_)
          refine zq_aload (pc' := 24) rfl rfl rfl rfl ?_
          refine zq_calli (pc' := 27) rfl rfl rfl rfl rfl rfl (zE_mono H (fun r22 h21 H => ?_))
          rcases r22 with v23 | e24
          · obtain ⟨x25, e0, H⟩ := H
            refine Exists.intro x25 (And.intro e0 ?_)
            refine zq_iceq (pc' := 30) rfl rfl rfl rfl (And.intro (fun c => ?_) (fun c => ?_))
            · have H := H.1 c
              refine zq_aload (pc' := 41) rfl rfl rfl rfl ?_
              obtain ⟨a26, e0, H⟩ := H
              refine zq_getR (pc' := 44) rfl rfl rfl e0 ?_
              refine zq_aload (pc' := 45) rfl rfl rfl rfl ?_
              obtain ⟨a27, e0, H⟩ := H
              refine zq_getR (pc' := 48) rfl rfl rfl e0 ?_
              refine zq_callv (pc' := 51) rfl rfl rfl rfl rfl rfl (zE_mono H (fun r29 h28 H => ?_))
              rcases r29 with v30 | e31
              · obtain ⟨e0, H⟩ := H
                refine And.intro e0 ?_
                refine zq_aload (pc' := 52) rfl rfl rfl rfl ?_
                refine zq_aload (pc' := 54) rfl rfl rfl rfl ?_
                refine zq_callv (pc' := 57) rfl rfl rfl rfl rfl rfl (zE_mono H (fun r33 h32 H => ?_))
                rcases r33 with v34 | e35
                · obtain ⟨e0, H⟩ := H
                  refine And.intro e0 ?_
                  refine zq_ipush (pc' := 58) rfl rfl rfl ?_
                  exact zq_iret rfl (Or.inr rfl) H
                · exact H
              · exact H
            · have H := H.2 c
              refine zq_aload (pc' := 31) rfl rfl rfl rfl ?_
              obtain ⟨a36, e0, H⟩ := H
              refine zq_getR (pc' := 34) rfl rfl rfl e0 ?_
              refine zq_ipush (pc' := 35) rfl rfl rfl ?_
              refine zq_callv (pc' := 38) rfl rfl rfl rfl rfl rfl (zE_mono H (fun r38 h37 H => ?_))
              rcases r38 with v39 | e40
              · obtain ⟨e0, H⟩ := H
                refine And.intro e0 ?_
                refine zq_ipush (pc' := 39) rfl rfl rfl ?_
                exact zq_iret rfl (Or.inl rfl) H
              · exact H
          · exact H
        · exact H
    · exact H
  · exact H
theorem zr_X7_undo_0 {d : Nat} {Q : zR → zH → Prop} {p0 : Nat} {h : zH} (H :
    ∃ a1 : Nat, zgf h p0 7 6 = some (.ref a1) ∧
    ∃ a2 : Nat, zgf h p0 7 4 = some (.ref a2) ∧
    zE d 24 [.ref a1, .ref a2] h (fun r4 h3 => match r4 with
      | .inl v5 => ∃ x7 : Int32, v5 = some (.int x7) ∧ zbr (x7 = 0)
        (Q (.inl (some (.int (-1)))) h3)
        (∃ a8 : Nat, zgf h3 p0 7 6 = some (.ref a8) ∧
          zE d 17 [.ref a8] h3 (fun r10 h9 => match r10 with
            | .inl v11 => ∃ x13 : Int32, v11 = some (.int x13) ∧ Q (.inl (some (.int x13))) h9
            | .inr e12 => Q (.inr e12) h9))
      | .inr e6 => Q (.inr e6) h3)) : zW (zE d) zm_X7_undo Q (0, [(0, .ref p0)], [], h) := by
  refine zq_aload (pc' := 1) rfl rfl rfl rfl ?_
  obtain ⟨a1, e0, H⟩ := H
  refine zq_getR (pc' := 4) rfl rfl rfl e0 ?_
  refine zq_aload (pc' := 5) rfl rfl rfl rfl ?_
  obtain ⟨a2, e0, H⟩ := H
  refine zq_getR (pc' := 8) rfl rfl rfl e0 ?_
  refine zq_calli (pc' := 11) rfl rfl rfl rfl rfl rfl (zE_mono H (fun r4 h3 H => ?_))
  rcases r4 with v5 | e6
  · obtain ⟨x7, e0, H⟩ := H
    refine Exists.intro x7 (And.intro e0 ?_)
    refine zq_ifeq (pc' := 14) rfl rfl rfl rfl (And.intro (fun c => ?_) (fun c => ?_))
    · have H := H.1 c
      refine zq_ipushn (pc' := 25) rfl rfl rfl ?_
      exact zq_iret rfl trivial H
    · have H := H.2 c
      refine zq_aload (pc' := 15) rfl rfl rfl rfl ?_
      obtain ⟨a8, e0, H⟩ := H
      refine zq_getR (pc' := 18) rfl rfl rfl e0 ?_
      refine zq_calli (pc' := 21) rfl rfl rfl rfl rfl rfl (zE_mono H (fun r10 h9 H => ?_))
      rcases r10 with v11 | e12
      · obtain ⟨x13, e0, H⟩ := H
        refine Exists.intro x13 (And.intro e0 ?_)
        refine zq_goto (pc' := 25) rfl rfl rfl ?_
        exact zq_iret rfl trivial H
      · exact H
  · exact H
theorem zr_X7_then_0 {d : Nat} {Q : zR → zH → Prop} {p0 : Nat} {p1 : Int32} {p2 : Int32} {p3 : Int32} {h : zH} (H :
    zE d 207 [.ref p0, .int p1] h (fun r2 h1 => match r2 with
      | .inl v3 => ∃ a5 : Nat, v3 = some (.ref a5) ∧ zE d 204 [.int p3, .int 5] h1 (fun r7 h6 => match r7 with
          | .inl v8 => v8 = none ∧ zE d 205 [.int p2, .int 0, .int 60] h6 (fun r11 h10 => match r11 with
              | .inl v12 => v12 = none ∧ zE d 211 [.ref p0, .ref a5, .int p2] h10 (fun r15 h14 => match r15 with
                  | .inl v16 => ∃ x18 : Int32, v16 = some (.int x18) ∧ zbr (p3 = nI 0)
                    (zE d 115 [.ref a5] h14 (fun r20 h19 => match r20 with
                        | .inl v21 => ∃ x23 : Int32, v21 = some (.int x23) ∧ Q (.inl (some (.int x23))) h19
                        | .inr e22 => Q (.inr e22) h19))
                    (zbr (p3 = nI 1)
                    (zE d 116 [.ref a5] h14 (fun r25 h24 => match r25 with
                        | .inl v26 => ∃ x28 : Int32, v26 = some (.int x28) ∧ Q (.inl (some (.int x28))) h24
                        | .inr e27 => Q (.inr e27) h24))
                    (zbr (p3 = nI 2)
                    (zE d 123 [.ref a5] h14 (fun r30 h29 => match r30 with
                        | .inl v31 => ∃ x33 : Int32, v31 = some (.int x33) ∧ Q (.inl (some (.int x33))) h29
                        | .inr e32 => Q (.inr e32) h29))
                    (zbr (p3 = nI 3)
                    (zE d 136 [.ref a5] h14 (fun r35 h34 => match r35 with
                        | .inl v36 => ∃ x38 : Int32, v36 = some (.int x38) ∧ Q (.inl (some (.int x38))) h34
                        | .inr e37 => Q (.inr e37) h34))
                    (Q (.inl (some (.int x18))) h14))))
                  | .inr e17 => Q (.inr e17) h14)
              | .inr e13 => Q (.inr e13) h10)
          | .inr e9 => Q (.inr e9) h6)
      | .inr e4 => Q (.inr e4) h1)) : zW (zE d) zm_X7_then Q (0, [(0, .ref p0), (1, .int p1), (2, .int p2), (3, .int p3)], [], h) := by
  refine zq_aload (pc' := 1) rfl rfl rfl rfl ?_
  refine zq_iload (pc' := 2) rfl rfl rfl rfl ?_
  refine zq_callr (pc' := 5) rfl rfl rfl rfl rfl rfl (zE_mono H (fun r2 h1 H => ?_))
  rcases r2 with v3 | e4
  · obtain ⟨a5, e0, H⟩ := H
    refine Exists.intro a5 (And.intro e0 ?_)
    refine zq_astore (pc' := 7) rfl rfl rfl ?_
    refine zq_iload (pc' := 8) rfl rfl rfl rfl ?_
    refine zq_ipush (pc' := 9) rfl rfl rfl ?_
    refine zq_callv (pc' := 12) rfl rfl rfl rfl rfl rfl (zE_mono H (fun r7 h6 H => ?_))
    rcases r7 with v8 | e9
    · obtain ⟨e0, H⟩ := H
      refine And.intro e0 ?_
      refine zq_iload (pc' := 13) rfl rfl rfl rfl ?_
      refine zq_ipush (pc' := 14) rfl rfl rfl ?_
      refine zq_ipush (pc' := 16) rfl rfl rfl ?_
      refine zq_callv (pc' := 19) rfl rfl rfl rfl rfl rfl (zE_mono H (fun r11 h10 H => ?_))
      rcases r11 with v12 | e13
      · obtain ⟨e0, H⟩ := H
        refine And.intro e0 ?_
        refine zq_aload (pc' := 20) rfl rfl rfl rfl ?_
        refine zq_aload (pc' := 22) rfl rfl rfl rfl ?_
        refine zq_iload (pc' := 23) rfl rfl rfl rfl ?_
        refine zq_calli (pc' := 26) rfl rfl rfl rfl rfl rfl (zE_mono H (fun r15 h14 H => ?_))
        rcases r15 with v16 | e17
        · obtain ⟨x18, e0, H⟩ := H
          refine Exists.intro x18 (And.intro e0 ?_)
          refine zq_istore (pc' := 28) rfl rfl rfl ?_
          refine zq_iload (pc' := 29) rfl rfl rfl rfl ?_
          refine zq_switch rfl ?_
          refine And.intro (fun c => ?_) (fun c => ?_)
          · have H := H.1 c
            show zW (zE d) zm_X7_then Q (60, [(5, .int x18), (4, .ref a5), (0, .ref p0), (1, .int p1), (2, .int p2), (3, .int p3)], [], h14)
            refine zq_aload (pc' := 62) rfl rfl rfl rfl ?_
            refine zq_calli (pc' := 65) rfl rfl rfl rfl rfl rfl (zE_mono H (fun r20 h19 H => ?_))
            rcases r20 with v21 | e22
            · obtain ⟨x23, e0, H⟩ := H
              refine Exists.intro x23 (And.intro e0 ?_)
              exact zq_iret rfl trivial H
            · exact H
          · have H := H.2 c
            refine And.intro (fun c => ?_) (fun c => ?_)
            · have H := H.1 c
              show zW (zE d) zm_X7_then Q (66, [(5, .int x18), (4, .ref a5), (0, .ref p0), (1, .int p1), (2, .int p2), (3, .int p3)], [], h14)
              refine zq_aload (pc' := 68) rfl rfl rfl rfl ?_
              refine zq_calli (pc' := 71) rfl rfl rfl rfl rfl rfl (zE_mono H (fun r25 h24 H => ?_))
              rcases r25 with v26 | e27
              · obtain ⟨x28, e0, H⟩ := H
                refine Exists.intro x28 (And.intro e0 ?_)
                exact zq_iret rfl trivial H
              · exact H
            · have H := H.2 c
              refine And.intro (fun c => ?_) (fun c => ?_)
              · have H := H.1 c
                show zW (zE d) zm_X7_then Q (72, [(5, .int x18), (4, .ref a5), (0, .ref p0), (1, .int p1), (2, .int p2), (3, .int p3)], [], h14)
                refine zq_aload (pc' := 74) rfl rfl rfl rfl ?_
                refine zq_calli (pc' := 77) rfl rfl rfl rfl rfl rfl (zE_mono H (fun r30 h29 H => ?_))
                rcases r30 with v31 | e32
                · obtain ⟨x33, e0, H⟩ := H
                  refine Exists.intro x33 (And.intro e0 ?_)
                  exact zq_iret rfl trivial H
                · exact H
              · have H := H.2 c
                refine And.intro (fun c => ?_) (fun c => ?_)
                · have H := H.1 c
                  show zW (zE d) zm_X7_then Q (78, [(5, .int x18), (4, .ref a5), (0, .ref p0), (1, .int p1), (2, .int p2), (3, .int p3)], [], h14)
                  refine zq_aload (pc' := 80) rfl rfl rfl rfl ?_
                  refine zq_calli (pc' := 83) rfl rfl rfl rfl rfl rfl (zE_mono H (fun r35 h34 H => ?_))
                  rcases r35 with v36 | e37
                  · obtain ⟨x38, e0, H⟩ := H
                    refine Exists.intro x38 (And.intro e0 ?_)
                    exact zq_iret rfl trivial H
                  · exact H
                · have H := H.2 c
                  show zW (zE d) zm_X7_then Q (84, [(5, .int x18), (4, .ref a5), (0, .ref p0), (1, .int p1), (2, .int p2), (3, .int p3)], [], h14)
                  refine zq_iload (pc' := 86) rfl rfl rfl rfl ?_
                  exact zq_iret rfl trivial H
        · exact H
      · exact H
    · exact H
  · exact H
theorem zr_X7_when_0 {d : Nat} {Q : zR → zH → Prop} {p0 : Nat} {p1 : Int32} {p2 : Int32} {h : zH} (H :
    zE d 207 [.ref p0, .int p1] h (fun r2 h1 => match r2 with
      | .inl v3 => ∃ a5 : Nat, v3 = some (.ref a5) ∧ zE d 204 [.int p2, .int 3] h1 (fun r7 h6 => match r7 with
          | .inl v8 => v8 = none ∧ zbr (p2 = 2)
            (zE d 163 [.ref p0, .ref a5] h6 (fun r11 h10 => match r11 with
                | .inl v12 => ∃ x14 : Int32, v12 = some (.int x14) ∧ Q (.inl (some (.int x14))) h10
                | .inr e13 => Q (.inr e13) h10))
            (zE d 164 [.ref p0, .ref a5, .int p2] h6 (fun r16 h15 => match r16 with
                | .inl v17 => ∃ x19 : Int32, v17 = some (.int x19) ∧ Q (.inl (some (.int x19))) h15
                | .inr e18 => Q (.inr e18) h15))
          | .inr e9 => Q (.inr e9) h6)
      | .inr e4 => Q (.inr e4) h1)) : zW (zE d) zm_X7_when Q (0, [(0, .ref p0), (1, .int p1), (2, .int p2)], [], h) := by
  refine zq_aload (pc' := 1) rfl rfl rfl rfl ?_
  refine zq_iload (pc' := 2) rfl rfl rfl rfl ?_
  refine zq_callr (pc' := 5) rfl rfl rfl rfl rfl rfl (zE_mono H (fun r2 h1 H => ?_))
  rcases r2 with v3 | e4
  · obtain ⟨a5, e0, H⟩ := H
    refine Exists.intro a5 (And.intro e0 ?_)
    refine zq_astore (pc' := 6) rfl rfl rfl ?_
    refine zq_iload (pc' := 7) rfl rfl rfl rfl ?_
    refine zq_ipush (pc' := 8) rfl rfl rfl ?_
    refine zq_callv (pc' := 11) rfl rfl rfl rfl rfl rfl (zE_mono H (fun r7 h6 H => ?_))
    rcases r7 with v8 | e9
    · obtain ⟨e0, H⟩ := H
      refine And.intro e0 ?_
      refine zq_iload (pc' := 12) rfl rfl rfl rfl ?_
      refine zq_ipush (pc' := 13) rfl rfl rfl ?_
      refine zq_icne (pc' := 16) rfl rfl rfl rfl (And.intro (fun c => ?_) (fun c => ?_))
      · have H := H.1 c
        refine zq_aload (pc' := 17) rfl rfl rfl rfl ?_
        refine zq_aload (pc' := 18) rfl rfl rfl rfl ?_
        refine zq_calli (pc' := 21) rfl rfl rfl rfl rfl rfl (zE_mono H (fun r11 h10 H => ?_))
        rcases r11 with v12 | e13
        · obtain ⟨x14, e0, H⟩ := H
          refine Exists.intro x14 (And.intro e0 ?_)
          refine zq_goto (pc' := 30) rfl rfl rfl ?_
          exact zq_iret rfl trivial H
        · exact H
      · have H := H.2 c
        refine zq_aload (pc' := 25) rfl rfl rfl rfl ?_
        refine zq_aload (pc' := 26) rfl rfl rfl rfl ?_
        refine zq_iload (pc' := 27) rfl rfl rfl rfl ?_
        refine zq_calli (pc' := 30) rfl rfl rfl rfl rfl rfl (zE_mono H (fun r16 h15 H => ?_))
        rcases r16 with v17 | e18
        · obtain ⟨x19, e0, H⟩ := H
          refine Exists.intro x19 (And.intro e0 ?_)
          exact zq_iret rfl trivial H
        · exact H
    · exact H
  · exact H
theorem zr_X7_daysTillGone_0 {d : Nat} {Q : zR → zH → Prop} {p0 : Nat} {p1 : Nat} {h : zH} (H :
    zW (zE d) zm_X7_daysTillGone Q (2, [(0, .ref p0), (1, .ref p1), (2, .int 0)], [], h)) : zW (zE d) zm_X7_daysTillGone Q (0, [(0, .ref p0), (1, .ref p1)], [], h) := by
  refine zq_ipush (pc' := 1) rfl rfl rfl ?_
  refine zq_istore_c (pc' := 2) rfl rfl ?_
  exact H
theorem zr_X7_daysTillGone_2 {d : Nat} {Q : zR → zH → Prop} {l0 : Nat} {l1 : Nat} {l2 : Int32} {h : zH} (H :
    zbr (60 < l2)
    (Q (.inl (some (.int (-1)))) h)
    (zE d 115 [.ref l1] h (fun r2 h1 => match r2 with
        | .inl v3 => ∃ x5 : Int32, v3 = some (.int x5) ∧ zbr (x5 = 0)
          (Q (.inl (some (.int l2))) h1)
          (zE d 210 [.ref l0, .ref l1, .int l2] h1 (fun r7 h6 => match r7 with
              | .inl v8 => ∃ x10 : Int32, v8 = some (.int x10) ∧ zW (zE d) zm_X7_daysTillGone Q (2, [(0, .ref l0), (1, .ref l1), (2, .int (l2 + 1))], [], h6)
              | .inr e9 => Q (.inr e9) h6))
        | .inr e4 => Q (.inr e4) h1))) : zW (zE d) zm_X7_daysTillGone Q (2, [(0, .ref l0), (1, .ref l1), (2, .int l2)], [], h) := by
  refine zq_iload (pc' := 3) rfl rfl rfl rfl ?_
  refine zq_ipush (pc' := 5) rfl rfl rfl ?_
  refine zq_icgt (pc' := 8) rfl rfl rfl rfl (And.intro (fun c => ?_) (fun c => ?_))
  · have H := H.1 c
    refine zq_ipushn (pc' := 31) rfl rfl rfl ?_
    exact zq_iret rfl trivial H
  · have H := H.2 c
    refine zq_aload (pc' := 9) rfl rfl rfl rfl ?_
    refine zq_calli (pc' := 12) rfl rfl rfl rfl rfl rfl (zE_mono H (fun r2 h1 H => ?_))
    rcases r2 with v3 | e4
    · obtain ⟨x5, e0, H⟩ := H
      refine Exists.intro x5 (And.intro e0 ?_)
      refine zq_ifne (pc' := 15) rfl rfl rfl rfl (And.intro (fun c => ?_) (fun c => ?_))
      · have H := H.1 c
        refine zq_iload (pc' := 16) rfl rfl rfl rfl ?_
        exact zq_iret rfl trivial H
      · have H := H.2 c
        refine zq_aload (pc' := 18) rfl rfl rfl rfl ?_
        refine zq_aload (pc' := 19) rfl rfl rfl rfl ?_
        refine zq_iload (pc' := 20) rfl rfl rfl rfl ?_
        refine zq_calli (pc' := 23) rfl rfl rfl rfl rfl rfl (zE_mono H (fun r7 h6 H => ?_))
        rcases r7 with v8 | e9
        · obtain ⟨x10, e0, H⟩ := H
          refine Exists.intro x10 (And.intro e0 ?_)
          refine zq_pop (pc' := 24) rfl rfl rfl rfl ?_
          refine zq_iinc (pc' := 27) rfl rfl rfl rfl ?_
          refine zq_goto_c (pc' := 2) rfl rfl ?_
          exact H
        · exact H
    · exact H
theorem zr_X7_firstBurst_0 {d : Nat} {Q : zR → zH → Prop} {p0 : Nat} {p1 : Nat} {p2 : Int32} {h : zH} (H :
    zW (zE d) zm_X7_firstBurst Q (2, [(0, .ref p0), (1, .ref p1), (2, .int p2), (3, .int 0)], [], h)) : zW (zE d) zm_X7_firstBurst Q (0, [(0, .ref p0), (1, .ref p1), (2, .int p2)], [], h) := by
  refine zq_ipush (pc' := 1) rfl rfl rfl ?_
  refine zq_istore_c (pc' := 2) rfl rfl ?_
  exact H
theorem zr_X7_firstBurst_2 {d : Nat} {Q : zR → zH → Prop} {l0 : Nat} {l1 : Nat} {l2 : Int32} {l3 : Int32} {h : zH} (H :
    zbr (60 ≤ l3)
    (Q (.inl (some (.int (-1)))) h)
    (zE d 210 [.ref l0, .ref l1, .int l3] h (fun r2 h1 => match r2 with
        | .inl v3 => ∃ x5 : Int32, v3 = some (.int x5) ∧ zbr (x5 = 0)
          (zW (zE d) zm_X7_firstBurst Q (2, [(0, .ref l0), (1, .ref l1), (2, .int l2), (3, .int (l3 + 1))], [], h1))
          (zbr (l2 = 0)
            (Q (.inl (some (.int (l3 + 1)))) h1)
            (∃ a6 : Nat, zgf h1 l0 7 4 = some (.ref a6) ∧
              zE d 59 [.ref a6] h1 (fun r8 h7 => match r8 with
                | .inl v9 => ∃ x11 : Int32, v9 = some (.int x11) ∧ Q (.inl (some (.int x11))) h7
                | .inr e10 => Q (.inr e10) h7)))
        | .inr e4 => Q (.inr e4) h1))) : zW (zE d) zm_X7_firstBurst Q (2, [(0, .ref l0), (1, .ref l1), (2, .int l2), (3, .int l3)], [], h) := by
  refine zq_iload (pc' := 3) rfl rfl rfl rfl ?_
  refine zq_ipush (pc' := 5) rfl rfl rfl ?_
  refine zq_icge (pc' := 8) rfl rfl rfl rfl (And.intro (fun c => ?_) (fun c => ?_))
  · have H := H.1 c
    refine zq_ipushn (pc' := 42) rfl rfl rfl ?_
    exact zq_iret rfl trivial H
  · have H := H.2 c
    refine zq_aload (pc' := 9) rfl rfl rfl rfl ?_
    refine zq_aload (pc' := 10) rfl rfl rfl rfl ?_
    refine zq_iload (pc' := 11) rfl rfl rfl rfl ?_
    refine zq_calli (pc' := 14) rfl rfl rfl rfl rfl rfl (zE_mono H (fun r2 h1 H => ?_))
    rcases r2 with v3 | e4
    · obtain ⟨x5, e0, H⟩ := H
      refine Exists.intro x5 (And.intro e0 ?_)
      refine zq_ifeq (pc' := 17) rfl rfl rfl rfl (And.intro (fun c => ?_) (fun c => ?_))
      · have H := H.1 c
        refine zq_iinc (pc' := 38) rfl rfl rfl rfl ?_
        refine zq_goto_c (pc' := 2) rfl rfl ?_
        exact H
      · have H := H.2 c
        refine zq_iload (pc' := 18) rfl rfl rfl rfl ?_
        refine zq_ifne (pc' := 21) rfl rfl rfl rfl (And.intro (fun c => ?_) (fun c => ?_))
        · have H := H.1 c
          refine zq_iload (pc' := 22) rfl rfl rfl rfl ?_
          refine zq_ipush (pc' := 23) rfl rfl rfl ?_
          refine zq_iadd (pc' := 24) rfl rfl rfl ?_
          refine zq_goto (pc' := 34) rfl rfl rfl ?_
          exact zq_iret rfl trivial H
        · have H := H.2 c
          refine zq_aload (pc' := 28) rfl rfl rfl rfl ?_
          obtain ⟨a6, e0, H⟩ := H
          refine zq_getR (pc' := 31) rfl rfl rfl e0 ?_
          refine zq_calli (pc' := 34) rfl rfl rfl rfl rfl rfl (zE_mono H (fun r8 h7 H => ?_))
          rcases r8 with v9 | e10
          · obtain ⟨x11, e0, H⟩ := H
            refine Exists.intro x11 (And.intro e0 ?_)
            exact zq_iret rfl trivial H
          · exact H
    · exact H
theorem zr_X7_bursts_0 {d : Nat} {Q : zR → zH → Prop} {p0 : Nat} {p1 : Int32} {p2 : Int32} {h : zH} (H :
    zE d 207 [.ref p0, .int p1] h (fun r2 h1 => match r2 with
      | .inl v3 => ∃ a5 : Nat, v3 = some (.ref a5) ∧ zE d 202 [.ref a5, .int p2] h1 (fun r7 h6 => match r7 with
          | .inl v8 => v8 = none ∧ zW (zE d) zm_X7_bursts Q (14, [(0, .ref p0), (2, .int p2), (3, .ref a5), (4, .int 0)], [], h6)
          | .inr e9 => Q (.inr e9) h6)
      | .inr e4 => Q (.inr e4) h1)) : zW (zE d) zm_X7_bursts Q (0, [(0, .ref p0), (1, .int p1), (2, .int p2)], [], h) := by
  refine zq_aload (pc' := 1) rfl rfl rfl rfl ?_
  refine zq_iload (pc' := 2) rfl rfl rfl rfl ?_
  refine zq_callr (pc' := 5) rfl rfl rfl rfl rfl rfl (zE_mono H (fun r2 h1 H => ?_))
  rcases r2 with v3 | e4
  · obtain ⟨a5, e0, H⟩ := H
    refine Exists.intro a5 (And.intro e0 ?_)
    refine zq_astore (pc' := 6) rfl rfl rfl ?_
    refine zq_aload (pc' := 7) rfl rfl rfl rfl ?_
    refine zq_iload (pc' := 8) rfl rfl rfl rfl ?_
    refine zq_callv (pc' := 11) rfl rfl rfl rfl rfl rfl (zE_mono H (fun r7 h6 H => ?_))
    rcases r7 with v8 | e9
    · obtain ⟨e0, H⟩ := H
      refine And.intro e0 ?_
      refine zq_ipush (pc' := 12) rfl rfl rfl ?_
      refine zq_istore_c (pc' := 14) rfl rfl ?_
      exact H
    · exact H
  · exact H
theorem zr_X7_bursts_14 {d : Nat} {Q : zR → zH → Prop} {l0 : Nat} {l2 : Int32} {l3 : Nat} {l4 : Int32} {h : zH} (H :
    zbr (60 ≤ l4)
    (Q (.inl (some (.int (-1)))) h)
    (zE d 210 [.ref l0, .ref l3, .int l4] h (fun r2 h1 => match r2 with
        | .inl v3 => ∃ x5 : Int32, v3 = some (.int x5) ∧ zbr (((x5 >>> (l2 &&& 31)) &&& 1) = 0)
          (zW (zE d) zm_X7_bursts Q (14, [(0, .ref l0), (2, .int l2), (3, .ref l3), (4, .int (l4 + 1))], [], h1))
          (Q (.inl (some (.int (l4 + 1)))) h1)
        | .inr e4 => Q (.inr e4) h1))) : zW (zE d) zm_X7_bursts Q (14, [(0, .ref l0), (2, .int l2), (3, .ref l3), (4, .int l4)], [], h) := by
  refine zq_iload (pc' := 16) rfl rfl rfl rfl ?_
  refine zq_ipush (pc' := 18) rfl rfl rfl ?_
  refine zq_icge (pc' := 21) rfl rfl rfl rfl (And.intro (fun c => ?_) (fun c => ?_))
  · have H := H.1 c
    refine zq_ipushn (pc' := 47) rfl rfl rfl ?_
    exact zq_iret rfl trivial H
  · have H := H.2 c
    refine zq_aload (pc' := 22) rfl rfl rfl rfl ?_
    refine zq_aload (pc' := 23) rfl rfl rfl rfl ?_
    refine zq_iload (pc' := 25) rfl rfl rfl rfl ?_
    refine zq_calli (pc' := 28) rfl rfl rfl rfl rfl rfl (zE_mono H (fun r2 h1 H => ?_))
    rcases r2 with v3 | e4
    · obtain ⟨x5, e0, H⟩ := H
      refine Exists.intro x5 (And.intro e0 ?_)
      refine zq_iload (pc' := 29) rfl rfl rfl rfl ?_
      refine zq_ishr (pc' := 30) rfl rfl rfl ?_
      refine zq_ipush (pc' := 31) rfl rfl rfl ?_
      refine zq_iand (pc' := 32) rfl rfl rfl ?_
      refine zq_ifeq (pc' := 35) rfl rfl rfl rfl (And.intro (fun c => ?_) (fun c => ?_))
      · have H := H.1 c
        refine zq_iinc (pc' := 43) rfl rfl rfl rfl ?_
        refine zq_goto_c (pc' := 14) rfl rfl ?_
        exact H
      · have H := H.2 c
        refine zq_iload (pc' := 37) rfl rfl rfl rfl ?_
        refine zq_ipush (pc' := 38) rfl rfl rfl ?_
        refine zq_iadd (pc' := 39) rfl rfl rfl ?_
        exact zq_iret rfl trivial H
    · exact H
theorem zr_X7_later_0 {d : Nat} {Q : zR → zH → Prop} {p0 : Nat} {p1 : Int32} {p2 : Int32} {h : zH} (H :
    zE d 204 [.int p2, .int 2] h (fun r2 h1 => match r2 with
      | .inl v3 => v3 = none ∧ zE d 205 [.int p1, .int 0, .int 60] h1 (fun r6 h5 => match r6 with
          | .inl v7 => v7 = none ∧ zW (zE d) zm_X7_later Q (23, [(0, .ref p0), (1, .int p1), (2, .int p2), (3, .int 0), (4, .int (-1)), (5, .int (-1)), (6, .int 0)], [], h5)
          | .inr e8 => Q (.inr e8) h5)
      | .inr e4 => Q (.inr e4) h1)) : zW (zE d) zm_X7_later Q (0, [(0, .ref p0), (1, .int p1), (2, .int p2)], [], h) := by
  refine zq_iload (pc' := 1) rfl rfl rfl rfl ?_
  refine zq_ipush (pc' := 2) rfl rfl rfl ?_
  refine zq_callv (pc' := 5) rfl rfl rfl rfl rfl rfl (zE_mono H (fun r2 h1 H => ?_))
  rcases r2 with v3 | e4
  · obtain ⟨e0, H⟩ := H
    refine And.intro e0 ?_
    refine zq_iload (pc' := 6) rfl rfl rfl rfl ?_
    refine zq_ipush (pc' := 7) rfl rfl rfl ?_
    refine zq_ipush (pc' := 9) rfl rfl rfl ?_
    refine zq_callv (pc' := 12) rfl rfl rfl rfl rfl rfl (zE_mono H (fun r6 h5 H => ?_))
    rcases r6 with v7 | e8
    · obtain ⟨e0, H⟩ := H
      refine And.intro e0 ?_
      refine zq_ipush (pc' := 13) rfl rfl rfl ?_
      refine zq_istore (pc' := 14) rfl rfl rfl ?_
      refine zq_ipushn (pc' := 15) rfl rfl rfl ?_
      refine zq_istore (pc' := 17) rfl rfl rfl ?_
      refine zq_ipushn (pc' := 18) rfl rfl rfl ?_
      refine zq_istore (pc' := 20) rfl rfl rfl ?_
      refine zq_ipush (pc' := 21) rfl rfl rfl ?_
      refine zq_istore_c (pc' := 23) rfl rfl ?_
      exact H
    · exact H
  · exact H
theorem zr_X7_later_23 {d : Nat} {Q : zR → zH → Prop} {l0 : Nat} {l1 : Int32} {l2 : Int32} {l3 : Int32} {l4 : Int32} {l5 : Int32} {l6 : Int32} {h : zH} (H :
    ∃ a1 : Nat, zgf h l0 7 4 = some (.ref a1) ∧
    zE d 46 [.ref a1] h (fun r3 h2 => match r3 with
      | .inl v4 => ∃ x6 : Int32, v4 = some (.int x6) ∧ zbr (x6 ≤ l6)
        (zbr (l2 = 0)
          (Q (.inl (some (.int l3))) h2)
          (Q (.inl (some (.int l4))) h2))
        (zE d 207 [.ref l0, .int l6] h2 (fun r8 h7 => match r8 with
            | .inl v9 => ∃ a11 : Nat, v9 = some (.ref a11) ∧ zE d 211 [.ref l0, .ref a11, .int l1] h7 (fun r13 h12 => match r13 with
                | .inl v14 => ∃ x16 : Int32, v14 = some (.int x16) ∧ zE d 116 [.ref a11] h12 (fun r18 h17 => match r18 with
                    | .inl v19 => ∃ x21 : Int32, v19 = some (.int x21) ∧ zE d 116 [.ref a11] h17 (fun r23 h22 => match r23 with
                        | .inl v24 => ∃ x26 : Int32, v24 = some (.int x26) ∧ zbr (x26 ≤ l5)
                          (zW (zE d) zm_X7_later Q (23, [(0, .ref l0), (1, .int l1), (2, .int l2), (3, .int (l3 + x21)), (4, .int l4), (5, .int l5), (6, .int (l6 + 1))], [], h22))
                          (zE d 116 [.ref a11] h22 (fun r28 h27 => match r28 with
                              | .inl v29 => ∃ x31 : Int32, v29 = some (.int x31) ∧ zW (zE d) zm_X7_later Q (23, [(0, .ref l0), (1, .int l1), (2, .int l2), (3, .int (l3 + x21)), (4, .int l6), (5, .int x31), (6, .int (l6 + 1))], [], h27)
                              | .inr e30 => Q (.inr e30) h27))
                        | .inr e25 => Q (.inr e25) h22)
                    | .inr e20 => Q (.inr e20) h17)
                | .inr e15 => Q (.inr e15) h12)
            | .inr e10 => Q (.inr e10) h7))
      | .inr e5 => Q (.inr e5) h2)) : zW (zE d) zm_X7_later Q (23, [(0, .ref l0), (1, .int l1), (2, .int l2), (3, .int l3), (4, .int l4), (5, .int l5), (6, .int l6)], [], h) := by
  refine zq_iload (pc' := 25) rfl rfl rfl rfl ?_
  refine zq_aload (pc' := 26) rfl rfl rfl rfl ?_
  obtain ⟨a1, e0, H⟩ := H
  refine zq_getR (pc' := 29) rfl rfl rfl e0 ?_
  refine zq_calli (pc' := 32) rfl rfl rfl rfl rfl rfl (zE_mono H (fun r3 h2 H => ?_))
  rcases r3 with v4 | e5
  · obtain ⟨x6, e0, H⟩ := H
    refine Exists.intro x6 (And.intro e0 ?_)
    refine zq_icge (pc' := 35) rfl rfl rfl rfl (And.intro (fun c => ?_) (fun c => ?_))
    · have H := H.1 c
      refine zq_iload (pc' := 87) rfl rfl rfl rfl ?_
      refine zq_ifne (pc' := 90) rfl rfl rfl rfl (And.intro (fun c => ?_) (fun c => ?_))
      · have H := H.1 c
        refine zq_iload (pc' := 91) rfl rfl rfl rfl ?_
        refine zq_goto (pc' := 96) rfl rfl rfl ?_
        exact zq_iret rfl trivial H
      · have H := H.2 c
        refine zq_iload (pc' := 96) rfl rfl rfl rfl ?_
        exact zq_iret rfl trivial H
    · have H := H.2 c
      refine zq_aload (pc' := 36) rfl rfl rfl rfl ?_
      refine zq_iload (pc' := 38) rfl rfl rfl rfl ?_
      refine zq_callr (pc' := 41) rfl rfl rfl rfl rfl rfl (zE_mono H (fun r8 h7 H => ?_))
      rcases r8 with v9 | e10
      · obtain ⟨a11, e0, H⟩ := H
        refine Exists.intro a11 (And.intro e0 ?_)
        refine zq_astore (pc' := 43) rfl rfl rfl ?_
        refine zq_aload (pc' := 44) rfl rfl rfl rfl ?_
        refine zq_aload (pc' := 46) rfl rfl rfl rfl ?_
        refine zq_iload (pc' := 47) rfl rfl rfl rfl ?_
        refine zq_calli (pc' := 50) rfl rfl rfl rfl rfl rfl (zE_mono H (fun r13 h12 H => ?_))
        rcases r13 with v14 | e15
        · obtain ⟨x16, e0, H⟩ := H
          refine Exists.intro x16 (And.intro e0 ?_)
          refine zq_pop (pc' := 51) rfl rfl rfl rfl ?_
          refine zq_iload (pc' := 52) rfl rfl rfl rfl ?_
          refine zq_aload (pc' := 54) rfl rfl rfl rfl ?_
          refine zq_calli (pc' := 57) rfl rfl rfl rfl rfl rfl (zE_mono H (fun r18 h17 H => ?_))
          rcases r18 with v19 | e20
          · obtain ⟨x21, e0, H⟩ := H
            refine Exists.intro x21 (And.intro e0 ?_)
            refine zq_iadd (pc' := 58) rfl rfl rfl ?_
            refine zq_istore (pc' := 59) rfl rfl rfl ?_
            refine zq_aload (pc' := 61) rfl rfl rfl rfl ?_
            refine zq_calli (pc' := 64) rfl rfl rfl rfl rfl rfl (zE_mono H (fun r23 h22 H => ?_))
            rcases r23 with v24 | e25
            · obtain ⟨x26, e0, H⟩ := H
              refine Exists.intro x26 (And.intro e0 ?_)
              refine zq_iload (pc' := 66) rfl rfl rfl rfl ?_
              refine zq_icle (pc' := 69) rfl rfl rfl rfl (And.intro (fun c => ?_) (fun c => ?_))
              · have H := H.1 c
                refine zq_iinc (pc' := 83) rfl rfl rfl rfl ?_
                refine zq_goto_c (pc' := 23) rfl rfl ?_
                exact H
              · have H := H.2 c
                refine zq_aload (pc' := 71) rfl rfl rfl rfl ?_
                refine zq_calli (pc' := 74) rfl rfl rfl rfl rfl rfl (zE_mono H (fun r28 h27 H => ?_))
                rcases r28 with v29 | e30
                · obtain ⟨x31, e0, H⟩ := H
                  refine Exists.intro x31 (And.intro e0 ?_)
                  refine zq_istore (pc' := 76) rfl rfl rfl ?_
                  refine zq_iload (pc' := 78) rfl rfl rfl rfl ?_
                  refine zq_istore (pc' := 80) rfl rfl rfl ?_
                  refine zq_iinc (pc' := 83) rfl rfl rfl rfl ?_
                  refine zq_goto_c (pc' := 23) rfl rfl ?_
                  exact H
                · exact H
            · exact H
          · exact H
        · exact H
      · exact H
  · exact H
theorem zr_X7_calm_0 {d : Nat} {Q : zR → zH → Prop} {p0 : Nat} {p1 : Int32} {h : zH} (H :
    zE d 205 [.int p1, .int 1, .int 60] h (fun r2 h1 => match r2 with
      | .inl v3 => v3 = none ∧ zE d 208 [.ref p0] h1 (fun r6 h5 => match r6 with
          | .inl v7 => v7 = none ∧ zW (zE d) zm_X7_calm Q (15, [(0, .ref p0), (1, .int p1), (2, .int 0), (3, .int 0)], [], h5)
          | .inr e8 => Q (.inr e8) h5)
      | .inr e4 => Q (.inr e4) h1)) : zW (zE d) zm_X7_calm Q (0, [(0, .ref p0), (1, .int p1)], [], h) := by
  refine zq_iload (pc' := 1) rfl rfl rfl rfl ?_
  refine zq_ipush (pc' := 2) rfl rfl rfl ?_
  refine zq_ipush (pc' := 4) rfl rfl rfl ?_
  refine zq_callv (pc' := 7) rfl rfl rfl rfl rfl rfl (zE_mono H (fun r2 h1 H => ?_))
  rcases r2 with v3 | e4
  · obtain ⟨e0, H⟩ := H
    refine And.intro e0 ?_
    refine zq_aload (pc' := 8) rfl rfl rfl rfl ?_
    refine zq_callv (pc' := 11) rfl rfl rfl rfl rfl rfl (zE_mono H (fun r6 h5 H => ?_))
    rcases r6 with v7 | e8
    · obtain ⟨e0, H⟩ := H
      refine And.intro e0 ?_
      refine zq_ipush (pc' := 12) rfl rfl rfl ?_
      refine zq_istore (pc' := 13) rfl rfl rfl ?_
      refine zq_ipush (pc' := 14) rfl rfl rfl ?_
      refine zq_istore_c (pc' := 15) rfl rfl ?_
      exact H
    · exact H
  · exact H
theorem zr_X7_calm_15 {d : Nat} {Q : zR → zH → Prop} {l0 : Nat} {l1 : Int32} {l2 : Int32} {l3 : Int32} {h : zH} (H :
    zbr (l1 ≤ l3)
    (Q (.inl (some (.int l2))) h)
    (zE d 209 [.ref l0, .int l3] h (fun r2 h1 => match r2 with
        | .inl v3 => ∃ x5 : Int32, v3 = some (.int x5) ∧ zbr (x5 = 0)
          (zW (zE d) zm_X7_calm Q (15, [(0, .ref l0), (1, .int l1), (2, .int (l2 + 1)), (3, .int (l3 + 1))], [], h1))
          (zW (zE d) zm_X7_calm Q (15, [(0, .ref l0), (1, .int l1), (2, .int l2), (3, .int (l3 + 1))], [], h1))
        | .inr e4 => Q (.inr e4) h1))) : zW (zE d) zm_X7_calm Q (15, [(0, .ref l0), (1, .int l1), (2, .int l2), (3, .int l3)], [], h) := by
  refine zq_iload (pc' := 16) rfl rfl rfl rfl ?_
  refine zq_iload (pc' := 17) rfl rfl rfl rfl ?_
  refine zq_icge (pc' := 20) rfl rfl rfl rfl (And.intro (fun c => ?_) (fun c => ?_))
  · have H := H.1 c
    refine zq_iload (pc' := 38) rfl rfl rfl rfl ?_
    exact zq_iret rfl trivial H
  · have H := H.2 c
    refine zq_aload (pc' := 21) rfl rfl rfl rfl ?_
    refine zq_iload (pc' := 22) rfl rfl rfl rfl ?_
    refine zq_calli (pc' := 25) rfl rfl rfl rfl rfl rfl (zE_mono H (fun r2 h1 H => ?_))
    rcases r2 with v3 | e4
    · obtain ⟨x5, e0, H⟩ := H
      refine Exists.intro x5 (And.intro e0 ?_)
      refine zq_ifne (pc' := 28) rfl rfl rfl rfl (And.intro (fun c => ?_) (fun c => ?_))
      · have H := H.1 c
        refine zq_iinc (pc' := 31) rfl rfl rfl rfl ?_
        refine zq_iinc (pc' := 34) rfl rfl rfl rfl ?_
        refine zq_goto_c (pc' := 15) rfl rfl ?_
        exact H
      · have H := H.2 c
        refine zq_iinc (pc' := 34) rfl rfl rfl rfl ?_
        refine zq_goto_c (pc' := 15) rfl rfl ?_
        exact H
    · exact H
theorem zr_X7_worst_0 {d : Nat} {Q : zR → zH → Prop} {p0 : Nat} {p1 : Int32} {p2 : Int32} {h : zH} (H :
    zE d 204 [.int p2, .int 2] h (fun r2 h1 => match r2 with
      | .inl v3 => v3 = none ∧ zE d 205 [.int p1, .int 1, .int 60] h1 (fun r6 h5 => match r6 with
          | .inl v7 => v7 = none ∧ zE d 208 [.ref p0] h5 (fun r10 h9 => match r10 with
              | .inl v11 => v11 = none ∧ zW (zE d) zm_X7_worst Q (24, [(0, .ref p0), (1, .int p1), (2, .int p2), (3, .int (-1)), (4, .int 0), (5, .int 0)], [], h9)
              | .inr e12 => Q (.inr e12) h9)
          | .inr e8 => Q (.inr e8) h5)
      | .inr e4 => Q (.inr e4) h1)) : zW (zE d) zm_X7_worst Q (0, [(0, .ref p0), (1, .int p1), (2, .int p2)], [], h) := by
  refine zq_iload (pc' := 1) rfl rfl rfl rfl ?_
  refine zq_ipush (pc' := 2) rfl rfl rfl ?_
  refine zq_callv (pc' := 5) rfl rfl rfl rfl rfl rfl (zE_mono H (fun r2 h1 H => ?_))
  rcases r2 with v3 | e4
  · obtain ⟨e0, H⟩ := H
    refine And.intro e0 ?_
    refine zq_iload (pc' := 6) rfl rfl rfl rfl ?_
    refine zq_ipush (pc' := 7) rfl rfl rfl ?_
    refine zq_ipush (pc' := 9) rfl rfl rfl ?_
    refine zq_callv (pc' := 12) rfl rfl rfl rfl rfl rfl (zE_mono H (fun r6 h5 H => ?_))
    rcases r6 with v7 | e8
    · obtain ⟨e0, H⟩ := H
      refine And.intro e0 ?_
      refine zq_aload (pc' := 13) rfl rfl rfl rfl ?_
      refine zq_callv (pc' := 16) rfl rfl rfl rfl rfl rfl (zE_mono H (fun r10 h9 H => ?_))
      rcases r10 with v11 | e12
      · obtain ⟨e0, H⟩ := H
        refine And.intro e0 ?_
        refine zq_ipushn (pc' := 17) rfl rfl rfl ?_
        refine zq_istore (pc' := 18) rfl rfl rfl ?_
        refine zq_ipush (pc' := 19) rfl rfl rfl ?_
        refine zq_istore (pc' := 21) rfl rfl rfl ?_
        refine zq_ipush (pc' := 22) rfl rfl rfl ?_
        refine zq_istore_c (pc' := 24) rfl rfl ?_
        exact H
      · exact H
    · exact H
  · exact H
theorem zr_X7_worst_24 {d : Nat} {Q : zR → zH → Prop} {l0 : Nat} {l1 : Int32} {l2 : Int32} {l3 : Int32} {l4 : Int32} {l5 : Int32} {h : zH} (H :
    zbr (l1 ≤ l5)
    (zbr (l2 = 0)
      (Q (.inl (some (.int l4))) h)
      (Q (.inl (some (.int l3))) h))
    (zE d 209 [.ref l0, .int l5] h (fun r2 h1 => match r2 with
        | .inl v3 => ∃ x5 : Int32, v3 = some (.int x5) ∧ zbr (x5 ≤ l3)
          (zW (zE d) zm_X7_worst Q (24, [(0, .ref l0), (1, .int l1), (2, .int l2), (3, .int l3), (4, .int l4), (5, .int (l5 + 1))], [], h1))
          (zW (zE d) zm_X7_worst Q (24, [(0, .ref l0), (1, .int l1), (2, .int l2), (3, .int x5), (4, .int (l5 + 1)), (5, .int (l5 + 1))], [], h1))
        | .inr e4 => Q (.inr e4) h1))) : zW (zE d) zm_X7_worst Q (24, [(0, .ref l0), (1, .int l1), (2, .int l2), (3, .int l3), (4, .int l4), (5, .int l5)], [], h) := by
  refine zq_iload (pc' := 26) rfl rfl rfl rfl ?_
  refine zq_iload (pc' := 27) rfl rfl rfl rfl ?_
  refine zq_icge (pc' := 30) rfl rfl rfl rfl (And.intro (fun c => ?_) (fun c => ?_))
  · have H := H.1 c
    refine zq_iload (pc' := 60) rfl rfl rfl rfl ?_
    refine zq_ifne (pc' := 63) rfl rfl rfl rfl (And.intro (fun c => ?_) (fun c => ?_))
    · have H := H.1 c
      refine zq_iload (pc' := 65) rfl rfl rfl rfl ?_
      refine zq_goto (pc' := 69) rfl rfl rfl ?_
      exact zq_iret rfl trivial H
    · have H := H.2 c
      refine zq_iload (pc' := 69) rfl rfl rfl rfl ?_
      exact zq_iret rfl trivial H
  · have H := H.2 c
    refine zq_aload (pc' := 31) rfl rfl rfl rfl ?_
    refine zq_iload (pc' := 33) rfl rfl rfl rfl ?_
    refine zq_calli (pc' := 36) rfl rfl rfl rfl rfl rfl (zE_mono H (fun r2 h1 H => ?_))
    rcases r2 with v3 | e4
    · obtain ⟨x5, e0, H⟩ := H
      refine Exists.intro x5 (And.intro e0 ?_)
      refine zq_istore (pc' := 38) rfl rfl rfl ?_
      refine zq_iload (pc' := 40) rfl rfl rfl rfl ?_
      refine zq_iload (pc' := 41) rfl rfl rfl rfl ?_
      refine zq_icle (pc' := 44) rfl rfl rfl rfl (And.intro (fun c => ?_) (fun c => ?_))
      · have H := H.1 c
        refine zq_iinc (pc' := 56) rfl rfl rfl rfl ?_
        refine zq_goto_c (pc' := 24) rfl rfl ?_
        exact H
      · have H := H.2 c
        refine zq_iload (pc' := 46) rfl rfl rfl rfl ?_
        refine zq_istore (pc' := 47) rfl rfl rfl ?_
        refine zq_iload (pc' := 49) rfl rfl rfl rfl ?_
        refine zq_ipush (pc' := 50) rfl rfl rfl ?_
        refine zq_iadd (pc' := 51) rfl rfl rfl ?_
        refine zq_istore (pc' := 53) rfl rfl rfl ?_
        refine zq_iinc (pc' := 56) rfl rfl rfl rfl ?_
        refine zq_goto_c (pc' := 24) rfl rfl ?_
        exact H
    · exact H
theorem zr_X7_most_0 {d : Nat} {Q : zR → zH → Prop} {p0 : Nat} {p1 : Int32} {p2 : Int32} {h : zH} (H :
    zE d 207 [.ref p0, .int p1] h (fun r2 h1 => match r2 with
      | .inl v3 => ∃ a5 : Nat, v3 = some (.ref a5) ∧ zE d 205 [.int p2, .int 0, .int 60] h1 (fun r7 h6 => match r7 with
          | .inl v8 => v8 = none ∧ zW (zE d) zm_X7_most Q (19, [(0, .ref p0), (2, .int p2), (3, .ref a5), (4, .int 0), (5, .int 0)], [], h6)
          | .inr e9 => Q (.inr e9) h6)
      | .inr e4 => Q (.inr e4) h1)) : zW (zE d) zm_X7_most Q (0, [(0, .ref p0), (1, .int p1), (2, .int p2)], [], h) := by
  refine zq_aload (pc' := 1) rfl rfl rfl rfl ?_
  refine zq_iload (pc' := 2) rfl rfl rfl rfl ?_
  refine zq_callr (pc' := 5) rfl rfl rfl rfl rfl rfl (zE_mono H (fun r2 h1 H => ?_))
  rcases r2 with v3 | e4
  · obtain ⟨a5, e0, H⟩ := H
    refine Exists.intro a5 (And.intro e0 ?_)
    refine zq_astore (pc' := 6) rfl rfl rfl ?_
    refine zq_iload (pc' := 7) rfl rfl rfl rfl ?_
    refine zq_ipush (pc' := 8) rfl rfl rfl ?_
    refine zq_ipush (pc' := 10) rfl rfl rfl ?_
    refine zq_callv (pc' := 13) rfl rfl rfl rfl rfl rfl (zE_mono H (fun r7 h6 H => ?_))
    rcases r7 with v8 | e9
    · obtain ⟨e0, H⟩ := H
      refine And.intro e0 ?_
      refine zq_ipush (pc' := 14) rfl rfl rfl ?_
      refine zq_istore (pc' := 16) rfl rfl rfl ?_
      refine zq_ipush (pc' := 17) rfl rfl rfl ?_
      refine zq_istore_c (pc' := 19) rfl rfl ?_
      exact H
    · exact H
  · exact H
theorem zr_X7_most_19 {d : Nat} {Q : zR → zH → Prop} {l0 : Nat} {l2 : Int32} {l3 : Nat} {l4 : Int32} {l5 : Int32} {h : zH} (H :
    zbr (l2 ≤ l5)
    (Q (.inl (some (.int l4))) h)
    (zE d 210 [.ref l0, .ref l3, .int l5] h (fun r2 h1 => match r2 with
        | .inl v3 => ∃ x5 : Int32, v3 = some (.int x5) ∧ zE d 0 [.int x5] h1 (fun r7 h6 => match r7 with
            | .inl v8 => ∃ x10 : Int32, v8 = some (.int x10) ∧ zE d 2 [.int l4, .int x10] h6 (fun r12 h11 => match r12 with
                | .inl v13 => ∃ x15 : Int32, v13 = some (.int x15) ∧ zW (zE d) zm_X7_most Q (19, [(0, .ref l0), (2, .int l2), (3, .ref l3), (4, .int x15), (5, .int (l5 + 1))], [], h11)
                | .inr e14 => Q (.inr e14) h11)
            | .inr e9 => Q (.inr e9) h6)
        | .inr e4 => Q (.inr e4) h1))) : zW (zE d) zm_X7_most Q (19, [(0, .ref l0), (2, .int l2), (3, .ref l3), (4, .int l4), (5, .int l5)], [], h) := by
  refine zq_iload (pc' := 21) rfl rfl rfl rfl ?_
  refine zq_iload (pc' := 22) rfl rfl rfl rfl ?_
  refine zq_icge (pc' := 25) rfl rfl rfl rfl (And.intro (fun c => ?_) (fun c => ?_))
  · have H := H.1 c
    refine zq_iload (pc' := 50) rfl rfl rfl rfl ?_
    exact zq_iret rfl trivial H
  · have H := H.2 c
    refine zq_iload (pc' := 27) rfl rfl rfl rfl ?_
    refine zq_aload (pc' := 28) rfl rfl rfl rfl ?_
    refine zq_aload (pc' := 29) rfl rfl rfl rfl ?_
    refine zq_iload (pc' := 31) rfl rfl rfl rfl ?_
    refine zq_calli (pc' := 34) rfl rfl rfl rfl rfl rfl (zE_mono H (fun r2 h1 H => ?_))
    rcases r2 with v3 | e4
    · obtain ⟨x5, e0, H⟩ := H
      refine Exists.intro x5 (And.intro e0 ?_)
      refine zq_calli (pc' := 37) rfl rfl rfl rfl rfl rfl (zE_mono H (fun r7 h6 H => ?_))
      rcases r7 with v8 | e9
      · obtain ⟨x10, e0, H⟩ := H
        refine Exists.intro x10 (And.intro e0 ?_)
        refine zq_calli (pc' := 40) rfl rfl rfl rfl rfl rfl (zE_mono H (fun r12 h11 H => ?_))
        rcases r12 with v13 | e14
        · obtain ⟨x15, e0, H⟩ := H
          refine Exists.intro x15 (And.intro e0 ?_)
          refine zq_istore (pc' := 42) rfl rfl rfl ?_
          refine zq_iinc (pc' := 45) rfl rfl rfl rfl ?_
          refine zq_goto_c (pc' := 19) rfl rfl ?_
          exact H
        · exact H
      · exact H
    · exact H
theorem zr_X7_daily_0 {d : Nat} {Q : zR → zH → Prop} {p0 : Nat} {p1 : Int32} {p2 : Int32} {h : zH} (H :
    zE d 207 [.ref p0, .int p1] h (fun r2 h1 => match r2 with
      | .inl v3 => ∃ a5 : Nat, v3 = some (.ref a5) ∧ zE d 205 [.int p2, .int 0, .int 60] h1 (fun r7 h6 => match r7 with
          | .inl v8 => v8 = none ∧ zW (zE d) zm_X7_daily Q (19, [(0, .ref p0), (2, .int p2), (3, .ref a5), (4, .int 0), (5, .int 0)], [], h6)
          | .inr e9 => Q (.inr e9) h6)
      | .inr e4 => Q (.inr e4) h1)) : zW (zE d) zm_X7_daily Q (0, [(0, .ref p0), (1, .int p1), (2, .int p2)], [], h) := by
  refine zq_aload (pc' := 1) rfl rfl rfl rfl ?_
  refine zq_iload (pc' := 2) rfl rfl rfl rfl ?_
  refine zq_callr (pc' := 5) rfl rfl rfl rfl rfl rfl (zE_mono H (fun r2 h1 H => ?_))
  rcases r2 with v3 | e4
  · obtain ⟨a5, e0, H⟩ := H
    refine Exists.intro a5 (And.intro e0 ?_)
    refine zq_astore (pc' := 6) rfl rfl rfl ?_
    refine zq_iload (pc' := 7) rfl rfl rfl rfl ?_
    refine zq_ipush (pc' := 8) rfl rfl rfl ?_
    refine zq_ipush (pc' := 10) rfl rfl rfl ?_
    refine zq_callv (pc' := 13) rfl rfl rfl rfl rfl rfl (zE_mono H (fun r7 h6 H => ?_))
    rcases r7 with v8 | e9
    · obtain ⟨e0, H⟩ := H
      refine And.intro e0 ?_
      refine zq_ipush (pc' := 14) rfl rfl rfl ?_
      refine zq_istore (pc' := 16) rfl rfl rfl ?_
      refine zq_ipush (pc' := 17) rfl rfl rfl ?_
      refine zq_istore_c (pc' := 19) rfl rfl ?_
      exact H
    · exact H
  · exact H
theorem zr_X7_daily_19 {d : Nat} {Q : zR → zH → Prop} {l0 : Nat} {l2 : Int32} {l3 : Nat} {l4 : Int32} {l5 : Int32} {h : zH} (H :
    zbr (l2 ≤ l5)
    (Q (.inl (some (.int l4))) h)
    (zE d 127 [.ref l3] h (fun r2 h1 => match r2 with
        | .inl v3 => v3 = none ∧ zE d 210 [.ref l0, .ref l3, .int l5] h1 (fun r6 h5 => match r6 with
            | .inl v7 => ∃ x9 : Int32, v7 = some (.int x9) ∧ zE d 0 [.int x9] h5 (fun r11 h10 => match r11 with
                | .inl v12 => ∃ x14 : Int32, v12 = some (.int x14) ∧ zW (zE d) zm_X7_daily Q (19, [(0, .ref l0), (2, .int l2), (3, .ref l3), (4, .int (l4 + x14)), (5, .int (l5 + 1))], [], h10)
                | .inr e13 => Q (.inr e13) h10)
            | .inr e8 => Q (.inr e8) h5)
        | .inr e4 => Q (.inr e4) h1))) : zW (zE d) zm_X7_daily Q (19, [(0, .ref l0), (2, .int l2), (3, .ref l3), (4, .int l4), (5, .int l5)], [], h) := by
  refine zq_iload (pc' := 21) rfl rfl rfl rfl ?_
  refine zq_iload (pc' := 22) rfl rfl rfl rfl ?_
  refine zq_icge (pc' := 25) rfl rfl rfl rfl (And.intro (fun c => ?_) (fun c => ?_))
  · have H := H.1 c
    refine zq_iload (pc' := 52) rfl rfl rfl rfl ?_
    exact zq_iret rfl trivial H
  · have H := H.2 c
    refine zq_aload (pc' := 26) rfl rfl rfl rfl ?_
    refine zq_callv (pc' := 29) rfl rfl rfl rfl rfl rfl (zE_mono H (fun r2 h1 H => ?_))
    rcases r2 with v3 | e4
    · obtain ⟨e0, H⟩ := H
      refine And.intro e0 ?_
      refine zq_iload (pc' := 31) rfl rfl rfl rfl ?_
      refine zq_aload (pc' := 32) rfl rfl rfl rfl ?_
      refine zq_aload (pc' := 33) rfl rfl rfl rfl ?_
      refine zq_iload (pc' := 35) rfl rfl rfl rfl ?_
      refine zq_calli (pc' := 38) rfl rfl rfl rfl rfl rfl (zE_mono H (fun r6 h5 H => ?_))
      rcases r6 with v7 | e8
      · obtain ⟨x9, e0, H⟩ := H
        refine Exists.intro x9 (And.intro e0 ?_)
        refine zq_calli (pc' := 41) rfl rfl rfl rfl rfl rfl (zE_mono H (fun r11 h10 H => ?_))
        rcases r11 with v12 | e13
        · obtain ⟨x14, e0, H⟩ := H
          refine Exists.intro x14 (And.intro e0 ?_)
          refine zq_iadd (pc' := 42) rfl rfl rfl ?_
          refine zq_istore (pc' := 44) rfl rfl rfl ?_
          refine zq_iinc (pc' := 47) rfl rfl rfl rfl ?_
          refine zq_goto_c (pc' := 19) rfl rfl ?_
          exact H
        · exact H
      · exact H
    · exact H
theorem zr_X7_lasts_0 {d : Nat} {Q : zR → zH → Prop} {p0 : Nat} {p1 : Int32} {h : zH} (H :
    zE d 207 [.ref p0, .int p1] h (fun r2 h1 => match r2 with
      | .inl v3 => ∃ a5 : Nat, v3 = some (.ref a5) ∧ zE d 121 [.ref a5] h1 (fun r7 h6 => match r7 with
          | .inl v8 => ∃ x10 : Int32, v8 = some (.int x10) ∧ zW (zE d) zm_X7_lasts Q (14, [(0, .ref p0), (2, .ref a5), (3, .int x10), (4, .int 0)], [], h6)
          | .inr e9 => Q (.inr e9) h6)
      | .inr e4 => Q (.inr e4) h1)) : zW (zE d) zm_X7_lasts Q (0, [(0, .ref p0), (1, .int p1)], [], h) := by
  refine zq_aload (pc' := 1) rfl rfl rfl rfl ?_
  refine zq_iload (pc' := 2) rfl rfl rfl rfl ?_
  refine zq_callr (pc' := 5) rfl rfl rfl rfl rfl rfl (zE_mono H (fun r2 h1 H => ?_))
  rcases r2 with v3 | e4
  · obtain ⟨a5, e0, H⟩ := H
    refine Exists.intro a5 (And.intro e0 ?_)
    refine zq_astore (pc' := 6) rfl rfl rfl ?_
    refine zq_aload (pc' := 7) rfl rfl rfl rfl ?_
    refine zq_calli (pc' := 10) rfl rfl rfl rfl rfl rfl (zE_mono H (fun r7 h6 H => ?_))
    rcases r7 with v8 | e9
    · obtain ⟨x10, e0, H⟩ := H
      refine Exists.intro x10 (And.intro e0 ?_)
      refine zq_istore (pc' := 11) rfl rfl rfl ?_
      refine zq_ipush (pc' := 12) rfl rfl rfl ?_
      refine zq_istore_c (pc' := 14) rfl rfl ?_
      exact H
    · exact H
  · exact H
theorem zr_X7_lasts_14 {d : Nat} {Q : zR → zH → Prop} {l0 : Nat} {l2 : Nat} {l3 : Int32} {l4 : Int32} {h : zH} (H :
    zbr (60 ≤ l4)
    (Q (.inl (some (.int (-1)))) h)
    (zE d 127 [.ref l2] h (fun r2 h1 => match r2 with
        | .inl v3 => v3 = none ∧ zE d 210 [.ref l0, .ref l2, .int l4] h1 (fun r6 h5 => match r6 with
            | .inl v7 => ∃ x9 : Int32, v7 = some (.int x9) ∧ zE d 121 [.ref l2] h5 (fun r11 h10 => match r11 with
                | .inl v12 => ∃ x14 : Int32, v12 = some (.int x14) ∧ zbr ((l3 &&& (x14 ^^^ (-1))) = 0)
                  (zW (zE d) zm_X7_lasts Q (14, [(0, .ref l0), (2, .ref l2), (3, .int l3), (4, .int (l4 + 1))], [], h10))
                  (Q (.inl (some (.int (l4 + 1)))) h10)
                | .inr e13 => Q (.inr e13) h10)
            | .inr e8 => Q (.inr e8) h5)
        | .inr e4 => Q (.inr e4) h1))) : zW (zE d) zm_X7_lasts Q (14, [(0, .ref l0), (2, .ref l2), (3, .int l3), (4, .int l4)], [], h) := by
  refine zq_iload (pc' := 16) rfl rfl rfl rfl ?_
  refine zq_ipush (pc' := 18) rfl rfl rfl ?_
  refine zq_icge (pc' := 21) rfl rfl rfl rfl (And.intro (fun c => ?_) (fun c => ?_))
  · have H := H.1 c
    refine zq_ipushn (pc' := 56) rfl rfl rfl ?_
    exact zq_iret rfl trivial H
  · have H := H.2 c
    refine zq_aload (pc' := 22) rfl rfl rfl rfl ?_
    refine zq_callv (pc' := 25) rfl rfl rfl rfl rfl rfl (zE_mono H (fun r2 h1 H => ?_))
    rcases r2 with v3 | e4
    · obtain ⟨e0, H⟩ := H
      refine And.intro e0 ?_
      refine zq_aload (pc' := 26) rfl rfl rfl rfl ?_
      refine zq_aload (pc' := 27) rfl rfl rfl rfl ?_
      refine zq_iload (pc' := 29) rfl rfl rfl rfl ?_
      refine zq_calli (pc' := 32) rfl rfl rfl rfl rfl rfl (zE_mono H (fun r6 h5 H => ?_))
      rcases r6 with v7 | e8
      · obtain ⟨x9, e0, H⟩ := H
        refine Exists.intro x9 (And.intro e0 ?_)
        refine zq_pop (pc' := 33) rfl rfl rfl rfl ?_
        refine zq_iload (pc' := 34) rfl rfl rfl rfl ?_
        refine zq_aload (pc' := 35) rfl rfl rfl rfl ?_
        refine zq_calli (pc' := 38) rfl rfl rfl rfl rfl rfl (zE_mono H (fun r11 h10 H => ?_))
        rcases r11 with v12 | e13
        · obtain ⟨x14, e0, H⟩ := H
          refine Exists.intro x14 (And.intro e0 ?_)
          refine zq_ipushn (pc' := 39) rfl rfl rfl ?_
          refine zq_ixor (pc' := 40) rfl rfl rfl ?_
          refine zq_iand (pc' := 41) rfl rfl rfl ?_
          refine zq_ifeq (pc' := 44) rfl rfl rfl rfl (And.intro (fun c => ?_) (fun c => ?_))
          · have H := H.1 c
            refine zq_iinc (pc' := 52) rfl rfl rfl rfl ?_
            refine zq_goto_c (pc' := 14) rfl rfl ?_
            exact H
          · have H := H.2 c
            refine zq_iload (pc' := 46) rfl rfl rfl rfl ?_
            refine zq_ipush (pc' := 47) rfl rfl rfl ?_
            refine zq_iadd (pc' := 48) rfl rfl rfl ?_
            exact zq_iret rfl trivial H
        · exact H
      · exact H
    · exact H
theorem zr_X7_tear_0 {d : Nat} {Q : zR → zH → Prop} {p0 : Nat} {p1 : Int32} {p2 : Int32} {p3 : Int32} {h : zH} (H :
    zE d 207 [.ref p0, .int p1] h (fun r2 h1 => match r2 with
      | .inl v3 => ∃ a5 : Nat, v3 = some (.ref a5) ∧ zE d 202 [.ref a5, .int p2] h1 (fun r7 h6 => match r7 with
          | .inl v8 => v8 = none ∧ zE d 205 [.int p3, .int 0, .int 99] h6 (fun r11 h10 => match r11 with
              | .inl v12 => v12 = none ∧ zE d 128 [.ref a5, .int p2] h10 (fun r15 h14 => match r15 with
                  | .inl v16 => v16 = none ∧ ∃ a18 : Nat, zgf h14 p0 7 4 = some (.ref a18) ∧
                    ∃ a19 : Nat, zgf h14 p0 7 4 = some (.ref a19) ∧
                    zE d 49 [.ref a19] h14 (fun r21 h20 => match r21 with
                      | .inl v22 => ∃ x24 : Int32, v22 = some (.int x24) ∧ zE d 58 [.ref a18, .ref a5, .int p3, .int x24] h20 (fun r26 h25 => match r26 with
                          | .inl v27 => ∃ x29 : Int32, v27 = some (.int x29) ∧ Q (.inl (some (.int x29))) h25
                          | .inr e28 => Q (.inr e28) h25)
                      | .inr e23 => Q (.inr e23) h20)
                  | .inr e17 => Q (.inr e17) h14)
              | .inr e13 => Q (.inr e13) h10)
          | .inr e9 => Q (.inr e9) h6)
      | .inr e4 => Q (.inr e4) h1)) : zW (zE d) zm_X7_tear Q (0, [(0, .ref p0), (1, .int p1), (2, .int p2), (3, .int p3)], [], h) := by
  refine zq_aload (pc' := 1) rfl rfl rfl rfl ?_
  refine zq_iload (pc' := 2) rfl rfl rfl rfl ?_
  refine zq_callr (pc' := 5) rfl rfl rfl rfl rfl rfl (zE_mono H (fun r2 h1 H => ?_))
  rcases r2 with v3 | e4
  · obtain ⟨a5, e0, H⟩ := H
    refine Exists.intro a5 (And.intro e0 ?_)
    refine zq_astore (pc' := 7) rfl rfl rfl ?_
    refine zq_aload (pc' := 9) rfl rfl rfl rfl ?_
    refine zq_iload (pc' := 10) rfl rfl rfl rfl ?_
    refine zq_callv (pc' := 13) rfl rfl rfl rfl rfl rfl (zE_mono H (fun r7 h6 H => ?_))
    rcases r7 with v8 | e9
    · obtain ⟨e0, H⟩ := H
      refine And.intro e0 ?_
      refine zq_iload (pc' := 14) rfl rfl rfl rfl ?_
      refine zq_ipush (pc' := 15) rfl rfl rfl ?_
      refine zq_ipush (pc' := 17) rfl rfl rfl ?_
      refine zq_callv (pc' := 20) rfl rfl rfl rfl rfl rfl (zE_mono H (fun r11 h10 H => ?_))
      rcases r11 with v12 | e13
      · obtain ⟨e0, H⟩ := H
        refine And.intro e0 ?_
        refine zq_aload (pc' := 22) rfl rfl rfl rfl ?_
        refine zq_iload (pc' := 23) rfl rfl rfl rfl ?_
        refine zq_callv (pc' := 26) rfl rfl rfl rfl rfl rfl (zE_mono H (fun r15 h14 H => ?_))
        rcases r15 with v16 | e17
        · obtain ⟨e0, H⟩ := H
          refine And.intro e0 ?_
          refine zq_aload (pc' := 27) rfl rfl rfl rfl ?_
          obtain ⟨a18, e0, H⟩ := H
          refine zq_getR (pc' := 30) rfl rfl rfl e0 ?_
          refine zq_aload (pc' := 32) rfl rfl rfl rfl ?_
          refine zq_iload (pc' := 33) rfl rfl rfl rfl ?_
          refine zq_aload (pc' := 34) rfl rfl rfl rfl ?_
          obtain ⟨a19, e0, H⟩ := H
          refine zq_getR (pc' := 37) rfl rfl rfl e0 ?_
          refine zq_calli (pc' := 40) rfl rfl rfl rfl rfl rfl (zE_mono H (fun r21 h20 H => ?_))
          rcases r21 with v22 | e23
          · obtain ⟨x24, e0, H⟩ := H
            refine Exists.intro x24 (And.intro e0 ?_)
            refine zq_calli (pc' := 43) rfl rfl rfl rfl rfl rfl (zE_mono H (fun r26 h25 H => ?_))
            rcases r26 with v27 | e28
            · obtain ⟨x29, e0, H⟩ := H
              refine Exists.intro x29 (And.intro e0 ?_)
              exact zq_iret rfl trivial H
            · exact H
          · exact H
        · exact H
      · exact H
    · exact H
  · exact H
theorem zr_X7_offset_0 {d : Nat} {Q : zR → zH → Prop} {p0 : Nat} {p1 : Int32} {p2 : Int32} {p3 : Int32} {h : zH} (H :
    zE d 201 [.ref p0, .int p1] h (fun r2 h1 => match r2 with
      | .inl v3 => ∃ a5 : Nat, v3 = some (.ref a5) ∧ zE d 201 [.ref p0, .int p2] h1 (fun r7 h6 => match r7 with
          | .inl v8 => ∃ a10 : Nat, v8 = some (.ref a10) ∧ zE d 204 [.int p3, .int 2] h6 (fun r12 h11 => match r12 with
              | .inl v13 => v13 = none ∧ zE d 112 [.ref a10] h11 (fun r16 h15 => match r16 with
                  | .inl v17 => ∃ x19 : Int32, v17 = some (.int x19) ∧ zW (zE d) zm_X7_offset Q (34, [(0, .ref p0), (3, .int p3), (4, .ref a5), (5, .ref a10), (6, .int (-1)), (7, .int 0), (8, .int (1 - x19))], [], h15)
                  | .inr e18 => Q (.inr e18) h15)
              | .inr e14 => Q (.inr e14) h11)
          | .inr e9 => Q (.inr e9) h6)
      | .inr e4 => Q (.inr e4) h1)) : zW (zE d) zm_X7_offset Q (0, [(0, .ref p0), (1, .int p1), (2, .int p2), (3, .int p3)], [], h) := by
  refine zq_aload (pc' := 1) rfl rfl rfl rfl ?_
  refine zq_iload (pc' := 2) rfl rfl rfl rfl ?_
  refine zq_callr (pc' := 5) rfl rfl rfl rfl rfl rfl (zE_mono H (fun r2 h1 H => ?_))
  rcases r2 with v3 | e4
  · obtain ⟨a5, e0, H⟩ := H
    refine Exists.intro a5 (And.intro e0 ?_)
    refine zq_astore (pc' := 7) rfl rfl rfl ?_
    refine zq_aload (pc' := 8) rfl rfl rfl rfl ?_
    refine zq_iload (pc' := 9) rfl rfl rfl rfl ?_
    refine zq_callr (pc' := 12) rfl rfl rfl rfl rfl rfl (zE_mono H (fun r7 h6 H => ?_))
    rcases r7 with v8 | e9
    · obtain ⟨a10, e0, H⟩ := H
      refine Exists.intro a10 (And.intro e0 ?_)
      refine zq_astore (pc' := 14) rfl rfl rfl ?_
      refine zq_iload (pc' := 15) rfl rfl rfl rfl ?_
      refine zq_ipush (pc' := 16) rfl rfl rfl ?_
      refine zq_callv (pc' := 19) rfl rfl rfl rfl rfl rfl (zE_mono H (fun r12 h11 H => ?_))
      rcases r12 with v13 | e14
      · obtain ⟨e0, H⟩ := H
        refine And.intro e0 ?_
        refine zq_ipushn (pc' := 20) rfl rfl rfl ?_
        refine zq_istore (pc' := 22) rfl rfl rfl ?_
        refine zq_ipush (pc' := 23) rfl rfl rfl ?_
        refine zq_istore (pc' := 25) rfl rfl rfl ?_
        refine zq_ipush (pc' := 26) rfl rfl rfl ?_
        refine zq_aload (pc' := 28) rfl rfl rfl rfl ?_
        refine zq_calli (pc' := 31) rfl rfl rfl rfl rfl rfl (zE_mono H (fun r16 h15 H => ?_))
        rcases r16 with v17 | e18
        · obtain ⟨x19, e0, H⟩ := H
          refine Exists.intro x19 (And.intro e0 ?_)
          refine zq_isub (pc' := 32) rfl rfl rfl ?_
          refine zq_istore_c (pc' := 34) rfl rfl ?_
          exact H
        · exact H
      · exact H
    · exact H
  · exact H
theorem zr_X7_offset_34 {d : Nat} {Q : zR → zH → Prop} {l0 : Nat} {l3 : Int32} {l4 : Nat} {l5 : Nat} {l6 : Int32} {l7 : Int32} {l8 : Int32} {h : zH} (H :
    zE d 112 [.ref l4] h (fun r2 h1 => match r2 with
      | .inl v3 => ∃ x5 : Int32, v3 = some (.int x5) ∧ zbr (x5 ≤ l8)
        (zbr (l3 = 0)
          (Q (.inl (some (.int l7))) h1)
          (Q (.inl (some (.int l6))) h1))
        (∃ a6 : Nat, zgf h1 l0 7 11 = some (.ref a6) ∧
          zE d 100 [.ref a6, .ref l4, .ref l5, .int l8] h1 (fun r8 h7 => match r8 with
            | .inl v9 => ∃ x11 : Int32, v9 = some (.int x11) ∧ zbr (x11 ≤ l6)
              (zW (zE d) zm_X7_offset Q (34, [(0, .ref l0), (3, .int l3), (4, .ref l4), (5, .ref l5), (6, .int l6), (7, .int l7), (8, .int (l8 + 1))], [], h7))
              (zW (zE d) zm_X7_offset Q (34, [(0, .ref l0), (3, .int l3), (4, .ref l4), (5, .ref l5), (6, .int x11), (7, .int l8), (8, .int (l8 + 1))], [], h7))
            | .inr e10 => Q (.inr e10) h7))
      | .inr e4 => Q (.inr e4) h1)) : zW (zE d) zm_X7_offset Q (34, [(0, .ref l0), (3, .int l3), (4, .ref l4), (5, .ref l5), (6, .int l6), (7, .int l7), (8, .int l8)], [], h) := by
  refine zq_iload (pc' := 36) rfl rfl rfl rfl ?_
  refine zq_aload (pc' := 38) rfl rfl rfl rfl ?_
  refine zq_calli (pc' := 41) rfl rfl rfl rfl rfl rfl (zE_mono H (fun r2 h1 H => ?_))
  rcases r2 with v3 | e4
  · obtain ⟨x5, e0, H⟩ := H
    refine Exists.intro x5 (And.intro e0 ?_)
    refine zq_icge (pc' := 44) rfl rfl rfl rfl (And.intro (fun c => ?_) (fun c => ?_))
    · have H := H.1 c
      refine zq_iload (pc' := 81) rfl rfl rfl rfl ?_
      refine zq_ifne (pc' := 84) rfl rfl rfl rfl (And.intro (fun c => ?_) (fun c => ?_))
      · have H := H.1 c
        refine zq_iload (pc' := 86) rfl rfl rfl rfl ?_
        refine zq_goto (pc' := 91) rfl rfl rfl ?_
        exact zq_iret rfl trivial H
      · have H := H.2 c
        refine zq_iload (pc' := 91) rfl rfl rfl rfl ?_
        exact zq_iret rfl trivial H
    · have H := H.2 c
      refine zq_aload (pc' := 45) rfl rfl rfl rfl ?_
      obtain ⟨a6, e0, H⟩ := H
      refine zq_getR (pc' := 48) rfl rfl rfl e0 ?_
      refine zq_aload (pc' := 50) rfl rfl rfl rfl ?_
      refine zq_aload (pc' := 52) rfl rfl rfl rfl ?_
      refine zq_iload (pc' := 54) rfl rfl rfl rfl ?_
      refine zq_calli (pc' := 57) rfl rfl rfl rfl rfl rfl (zE_mono H (fun r8 h7 H => ?_))
      rcases r8 with v9 | e10
      · obtain ⟨x11, e0, H⟩ := H
        refine Exists.intro x11 (And.intro e0 ?_)
        refine zq_istore (pc' := 59) rfl rfl rfl ?_
        refine zq_iload (pc' := 61) rfl rfl rfl rfl ?_
        refine zq_iload (pc' := 63) rfl rfl rfl rfl ?_
        refine zq_icle (pc' := 66) rfl rfl rfl rfl (And.intro (fun c => ?_) (fun c => ?_))
        · have H := H.1 c
          refine zq_iinc (pc' := 77) rfl rfl rfl rfl ?_
          refine zq_goto_c (pc' := 34) rfl rfl ?_
          exact H
        · have H := H.2 c
          refine zq_iload (pc' := 68) rfl rfl rfl rfl ?_
          refine zq_istore (pc' := 70) rfl rfl rfl ?_
          refine zq_iload (pc' := 72) rfl rfl rfl rfl ?_
          refine zq_istore (pc' := 74) rfl rfl rfl ?_
          refine zq_iinc (pc' := 77) rfl rfl rfl rfl ?_
          refine zq_goto_c (pc' := 34) rfl rfl ?_
          exact H
      · exact H
  · exact H
theorem zr_X7_mesh_0 {d : Nat} {Q : zR → zH → Prop} {p0 : Nat} {p1 : Int32} {p2 : Int32} {p3 : Int32} {h : zH} (H :
    zE d 201 [.ref p0, .int p1] h (fun r2 h1 => match r2 with
      | .inl v3 => ∃ a5 : Nat, v3 = some (.ref a5) ∧ zE d 201 [.ref p0, .int p2] h1 (fun r7 h6 => match r7 with
          | .inl v8 => ∃ a10 : Nat, v8 = some (.ref a10) ∧ zbr (p3 = (-1))
            (∃ a11 : Nat, zgf h6 p0 7 11 = some (.ref a11) ∧
              zE d 103 [.ref a11, .ref a5, .ref a10] h6 (fun r13 h12 => match r13 with
                | .inl v14 => ∃ x16 : Int32, v14 = some (.int x16) ∧ Q (.inl (some (.int x16))) h12
                | .inr e15 => Q (.inr e15) h12))
            (zE d 202 [.ref a5, .int p3] h6 (fun r18 h17 => match r18 with
                | .inl v19 => v19 = none ∧ ∃ a21 : Nat, zgf h17 p0 7 11 = some (.ref a21) ∧
                  zE d 104 [.ref a21, .ref a5, .ref a10, .int p3] h17 (fun r23 h22 => match r23 with
                    | .inl v24 => ∃ x26 : Int32, v24 = some (.int x26) ∧ Q (.inl (some (.int x26))) h22
                    | .inr e25 => Q (.inr e25) h22)
                | .inr e20 => Q (.inr e20) h17))
          | .inr e9 => Q (.inr e9) h6)
      | .inr e4 => Q (.inr e4) h1)) : zW (zE d) zm_X7_mesh Q (0, [(0, .ref p0), (1, .int p1), (2, .int p2), (3, .int p3)], [], h) := by
  refine zq_aload (pc' := 1) rfl rfl rfl rfl ?_
  refine zq_iload (pc' := 2) rfl rfl rfl rfl ?_
  refine zq_callr (pc' := 5) rfl rfl rfl rfl rfl rfl (zE_mono H (fun r2 h1 H => ?_))
  rcases r2 with v3 | e4
  · obtain ⟨a5, e0, H⟩ := H
    refine Exists.intro a5 (And.intro e0 ?_)
    refine zq_astore (pc' := 7) rfl rfl rfl ?_
    refine zq_aload (pc' := 8) rfl rfl rfl rfl ?_
    refine zq_iload (pc' := 9) rfl rfl rfl rfl ?_
    refine zq_callr (pc' := 12) rfl rfl rfl rfl rfl rfl (zE_mono H (fun r7 h6 H => ?_))
    rcases r7 with v8 | e9
    · obtain ⟨a10, e0, H⟩ := H
      refine Exists.intro a10 (And.intro e0 ?_)
      refine zq_astore (pc' := 14) rfl rfl rfl ?_
      refine zq_iload (pc' := 15) rfl rfl rfl rfl ?_
      refine zq_ipushn (pc' := 16) rfl rfl rfl ?_
      refine zq_icne (pc' := 19) rfl rfl rfl rfl (And.intro (fun c => ?_) (fun c => ?_))
      · have H := H.1 c
        refine zq_aload (pc' := 20) rfl rfl rfl rfl ?_
        obtain ⟨a11, e0, H⟩ := H
        refine zq_getR (pc' := 23) rfl rfl rfl e0 ?_
        refine zq_aload (pc' := 25) rfl rfl rfl rfl ?_
        refine zq_aload (pc' := 27) rfl rfl rfl rfl ?_
        refine zq_calli (pc' := 30) rfl rfl rfl rfl rfl rfl (zE_mono H (fun r13 h12 H => ?_))
        rcases r13 with v14 | e15
        · obtain ⟨x16, e0, H⟩ := H
          refine Exists.intro x16 (And.intro e0 ?_)
          exact zq_iret rfl trivial H
        · exact H
      · have H := H.2 c
        refine zq_aload (pc' := 33) rfl rfl rfl rfl ?_
        refine zq_iload (pc' := 34) rfl rfl rfl rfl ?_
        refine zq_callv (pc' := 37) rfl rfl rfl rfl rfl rfl (zE_mono H (fun r18 h17 H => ?_))
        rcases r18 with v19 | e20
        · obtain ⟨e0, H⟩ := H
          refine And.intro e0 ?_
          refine zq_aload (pc' := 38) rfl rfl rfl rfl ?_
          obtain ⟨a21, e0, H⟩ := H
          refine zq_getR (pc' := 41) rfl rfl rfl e0 ?_
          refine zq_aload (pc' := 43) rfl rfl rfl rfl ?_
          refine zq_aload (pc' := 45) rfl rfl rfl rfl ?_
          refine zq_iload (pc' := 46) rfl rfl rfl rfl ?_
          refine zq_calli (pc' := 49) rfl rfl rfl rfl rfl rfl (zE_mono H (fun r23 h22 H => ?_))
          rcases r23 with v24 | e25
          · obtain ⟨x26, e0, H⟩ := H
            refine Exists.intro x26 (And.intro e0 ?_)
            exact zq_iret rfl trivial H
          · exact H
        · exact H
    · exact H
  · exact H
theorem zr_X7_cut_0 {d : Nat} {Q : zR → zH → Prop} {p0 : Nat} {p1 : Int32} {p2 : Int32} {h : zH} (H :
    zE d 201 [.ref p0, .int p1] h (fun r2 h1 => match r2 with
      | .inl v3 => ∃ a5 : Nat, v3 = some (.ref a5) ∧ zE d 204 [.int p2, .int 2] h1 (fun r7 h6 => match r7 with
          | .inl v8 => v8 = none ∧ zW (zE d) zm_X7_cut Q (20, [(2, .int p2), (3, .ref a5), (4, .int (-1)), (5, .int 0), (6, .int 1)], [], h6)
          | .inr e9 => Q (.inr e9) h6)
      | .inr e4 => Q (.inr e4) h1)) : zW (zE d) zm_X7_cut Q (0, [(0, .ref p0), (1, .int p1), (2, .int p2)], [], h) := by
  refine zq_aload (pc' := 1) rfl rfl rfl rfl ?_
  refine zq_iload (pc' := 2) rfl rfl rfl rfl ?_
  refine zq_callr (pc' := 5) rfl rfl rfl rfl rfl rfl (zE_mono H (fun r2 h1 H => ?_))
  rcases r2 with v3 | e4
  · obtain ⟨a5, e0, H⟩ := H
    refine Exists.intro a5 (And.intro e0 ?_)
    refine zq_astore (pc' := 6) rfl rfl rfl ?_
    refine zq_iload (pc' := 7) rfl rfl rfl rfl ?_
    refine zq_ipush (pc' := 8) rfl rfl rfl ?_
    refine zq_callv (pc' := 11) rfl rfl rfl rfl rfl rfl (zE_mono H (fun r7 h6 H => ?_))
    rcases r7 with v8 | e9
    · obtain ⟨e0, H⟩ := H
      refine And.intro e0 ?_
      refine zq_ipushn (pc' := 12) rfl rfl rfl ?_
      refine zq_istore (pc' := 14) rfl rfl rfl ?_
      refine zq_ipush (pc' := 15) rfl rfl rfl ?_
      refine zq_istore (pc' := 17) rfl rfl rfl ?_
      refine zq_ipush (pc' := 18) rfl rfl rfl ?_
      refine zq_istore_c (pc' := 20) rfl rfl ?_
      exact H
    · exact H
  · exact H
theorem zr_X7_cut_20 {d : Nat} {Q : zR → zH → Prop} {l2 : Int32} {l3 : Nat} {l4 : Int32} {l5 : Int32} {l6 : Int32} {h : zH} (H :
    zE d 112 [.ref l3] h (fun r2 h1 => match r2 with
      | .inl v3 => ∃ x5 : Int32, v3 = some (.int x5) ∧ zbr (x5 ≤ l6)
        (zbr (l2 = 0)
          (Q (.inl (some (.int l4))) h1)
          (Q (.inl (some (.int l5))) h1))
        (zE d 122 [.ref l3, .int 0, .int l6] h1 (fun r7 h6 => match r7 with
            | .inl v8 => ∃ x10 : Int32, v8 = some (.int x10) ∧ zE d 112 [.ref l3] h6 (fun r12 h11 => match r12 with
                | .inl v13 => ∃ x15 : Int32, v13 = some (.int x15) ∧ zE d 122 [.ref l3, .int l6, .int x15] h11 (fun r17 h16 => match r17 with
                    | .inl v18 => ∃ x20 : Int32, v18 = some (.int x20) ∧ zE d 3 [.int x10, .int x20] h16 (fun r22 h21 => match r22 with
                        | .inl v23 => ∃ x25 : Int32, v23 = some (.int x25) ∧ zbr (l4 = (-1))
                          (zW (zE d) zm_X7_cut Q (20, [(2, .int l2), (3, .ref l3), (4, .int l6), (5, .int x25), (6, .int (l6 + 1))], [], h21))
                          (zbr (x25 ≤ l5)
                            (zW (zE d) zm_X7_cut Q (20, [(2, .int l2), (3, .ref l3), (4, .int l4), (5, .int l5), (6, .int (l6 + 1))], [], h21))
                            (zW (zE d) zm_X7_cut Q (20, [(2, .int l2), (3, .ref l3), (4, .int l6), (5, .int x25), (6, .int (l6 + 1))], [], h21)))
                        | .inr e24 => Q (.inr e24) h21)
                    | .inr e19 => Q (.inr e19) h16)
                | .inr e14 => Q (.inr e14) h11)
            | .inr e9 => Q (.inr e9) h6))
      | .inr e4 => Q (.inr e4) h1)) : zW (zE d) zm_X7_cut Q (20, [(2, .int l2), (3, .ref l3), (4, .int l4), (5, .int l5), (6, .int l6)], [], h) := by
  refine zq_iload (pc' := 22) rfl rfl rfl rfl ?_
  refine zq_aload (pc' := 23) rfl rfl rfl rfl ?_
  refine zq_calli (pc' := 26) rfl rfl rfl rfl rfl rfl (zE_mono H (fun r2 h1 H => ?_))
  rcases r2 with v3 | e4
  · obtain ⟨x5, e0, H⟩ := H
    refine Exists.intro x5 (And.intro e0 ?_)
    refine zq_icge (pc' := 29) rfl rfl rfl rfl (And.intro (fun c => ?_) (fun c => ?_))
    · have H := H.1 c
      refine zq_iload (pc' := 79) rfl rfl rfl rfl ?_
      refine zq_ifne (pc' := 82) rfl rfl rfl rfl (And.intro (fun c => ?_) (fun c => ?_))
      · have H := H.1 c
        refine zq_iload (pc' := 84) rfl rfl rfl rfl ?_
        refine zq_goto (pc' := 89) rfl rfl rfl ?_
        exact zq_iret rfl trivial H
      · have H := H.2 c
        refine zq_iload (pc' := 89) rfl rfl rfl rfl ?_
        exact zq_iret rfl trivial H
    · have H := H.2 c
      refine zq_aload (pc' := 30) rfl rfl rfl rfl ?_
      refine zq_ipush (pc' := 31) rfl rfl rfl ?_
      refine zq_iload (pc' := 33) rfl rfl rfl rfl ?_
      refine zq_calli (pc' := 36) rfl rfl rfl rfl rfl rfl (zE_mono H (fun r7 h6 H => ?_))
      rcases r7 with v8 | e9
      · obtain ⟨x10, e0, H⟩ := H
        refine Exists.intro x10 (And.intro e0 ?_)
        refine zq_aload (pc' := 37) rfl rfl rfl rfl ?_
        refine zq_iload (pc' := 39) rfl rfl rfl rfl ?_
        refine zq_aload (pc' := 40) rfl rfl rfl rfl ?_
        refine zq_calli (pc' := 43) rfl rfl rfl rfl rfl rfl (zE_mono H (fun r12 h11 H => ?_))
        rcases r12 with v13 | e14
        · obtain ⟨x15, e0, H⟩ := H
          refine Exists.intro x15 (And.intro e0 ?_)
          refine zq_calli (pc' := 46) rfl rfl rfl rfl rfl rfl (zE_mono H (fun r17 h16 H => ?_))
          rcases r17 with v18 | e19
          · obtain ⟨x20, e0, H⟩ := H
            refine Exists.intro x20 (And.intro e0 ?_)
            refine zq_calli (pc' := 49) rfl rfl rfl rfl rfl rfl (zE_mono H (fun r22 h21 H => ?_))
            rcases r22 with v23 | e24
            · obtain ⟨x25, e0, H⟩ := H
              refine Exists.intro x25 (And.intro e0 ?_)
              refine zq_istore (pc' := 51) rfl rfl rfl ?_
              refine zq_iload (pc' := 53) rfl rfl rfl rfl ?_
              refine zq_ipushn (pc' := 54) rfl rfl rfl ?_
              refine zq_iceq (pc' := 57) rfl rfl rfl rfl (And.intro (fun c => ?_) (fun c => ?_))
              · have H := H.1 c
                refine zq_iload (pc' := 66) rfl rfl rfl rfl ?_
                refine zq_istore (pc' := 68) rfl rfl rfl ?_
                refine zq_iload (pc' := 70) rfl rfl rfl rfl ?_
                refine zq_istore (pc' := 72) rfl rfl rfl ?_
                refine zq_iinc (pc' := 75) rfl rfl rfl rfl ?_
                refine zq_goto_c (pc' := 20) rfl rfl ?_
                exact H
              · have H := H.2 c
                refine zq_iload (pc' := 59) rfl rfl rfl rfl ?_
                refine zq_iload (pc' := 61) rfl rfl rfl rfl ?_
                refine zq_icle (pc' := 64) rfl rfl rfl rfl (And.intro (fun c => ?_) (fun c => ?_))
                · have H := H.1 c
                  refine zq_iinc (pc' := 75) rfl rfl rfl rfl ?_
                  refine zq_goto_c (pc' := 20) rfl rfl ?_
                  exact H
                · have H := H.2 c
                  refine zq_iload (pc' := 66) rfl rfl rfl rfl ?_
                  refine zq_istore (pc' := 68) rfl rfl rfl ?_
                  refine zq_iload (pc' := 70) rfl rfl rfl rfl ?_
                  refine zq_istore (pc' := 72) rfl rfl rfl ?_
                  refine zq_iinc (pc' := 75) rfl rfl rfl rfl ?_
                  refine zq_goto_c (pc' := 20) rfl rfl ?_
                  exact H
            · exact H
          · exact H
        · exact H
      · exact H
  · exact H
theorem zr_X7_mates_0 {d : Nat} {Q : zR → zH → Prop} {p0 : Nat} {p1 : Int32} {h : zH} (H :
    zbr (p1 = (-1))
    (zW (zE d) zm_X7_mates Q (11, [(0, .ref p0), (1, .int p1)], [], h))
    (zE d 201 [.ref p0, .int p1] h (fun r2 h1 => match r2 with
        | .inl v3 => ∃ a5 : Nat, v3 = some (.ref a5) ∧ zW (zE d) zm_X7_mates Q (11, [(0, .ref p0), (1, .int p1)], [], h1)
        | .inr e4 => Q (.inr e4) h1))) : zW (zE d) zm_X7_mates Q (0, [(0, .ref p0), (1, .int p1)], [], h) := by
  refine zq_iload (pc' := 1) rfl rfl rfl rfl ?_
  refine zq_ipushn (pc' := 2) rfl rfl rfl ?_
  refine zq_iceq_c (pc' := 5) (lt := [(0, .ref p0), (1, .int p1)]) (lf := [(0, .ref p0), (1, .int p1)]) rfl rfl rfl rfl (And.intro (fun c => ?_) (fun c => ?_))
  · have H := H.1 c
    exact H
  · have H := H.2 c
    refine zq_aload (pc' := 6) rfl rfl rfl rfl ?_
    refine zq_iload (pc' := 7) rfl rfl rfl rfl ?_
    refine zq_callr (pc' := 10) rfl rfl rfl rfl rfl rfl (zE_mono H (fun r2 h1 H => ?_))
    rcases r2 with v3 | e4
    · obtain ⟨a5, e0, H⟩ := H
      refine Exists.intro a5 (And.intro e0 ?_)
      refine zq_pop_c (pc' := 11) rfl rfl rfl ?_
      exact H
    · exact H
theorem zr_X7_mates_11 {d : Nat} {Q : zR → zH → Prop} {l0 : Nat} {l1 : Int32} {h : zH} (H :
    ∃ a1 : Nat, zgf h l0 7 4 = some (.ref a1) ∧
    zE d 46 [.ref a1] h (fun r3 h2 => match r3 with
      | .inl v4 => ∃ x6 : Int32, v4 = some (.int x6) ∧ zW (zE d) zm_X7_mates Q (31, [(0, .ref l0), (1, .int l1), (2, .int (-1)), (3, .int 0), (4, .int (1 <<< ((2 * x6) &&& 31))), (5, .int 0)], [], h2)
      | .inr e5 => Q (.inr e5) h2)) : zW (zE d) zm_X7_mates Q (11, [(0, .ref l0), (1, .int l1)], [], h) := by
  refine zq_ipushn (pc' := 12) rfl rfl rfl ?_
  refine zq_istore (pc' := 13) rfl rfl rfl ?_
  refine zq_ipush (pc' := 14) rfl rfl rfl ?_
  refine zq_istore (pc' := 15) rfl rfl rfl ?_
  refine zq_ipush (pc' := 16) rfl rfl rfl ?_
  refine zq_ipush (pc' := 17) rfl rfl rfl ?_
  refine zq_aload (pc' := 18) rfl rfl rfl rfl ?_
  obtain ⟨a1, e0, H⟩ := H
  refine zq_getR (pc' := 21) rfl rfl rfl e0 ?_
  refine zq_calli (pc' := 24) rfl rfl rfl rfl rfl rfl (zE_mono H (fun r3 h2 H => ?_))
  rcases r3 with v4 | e5
  · obtain ⟨x6, e0, H⟩ := H
    refine Exists.intro x6 (And.intro e0 ?_)
    refine zq_imul (pc' := 25) rfl rfl rfl ?_
    refine zq_ishl (pc' := 26) rfl rfl rfl ?_
    refine zq_istore (pc' := 28) rfl rfl rfl ?_
    refine zq_ipush (pc' := 29) rfl rfl rfl ?_
    refine zq_istore_c (pc' := 31) rfl rfl ?_
    exact H
  · exact H
theorem zr_X7_mates_31 {d : Nat} {Q : zR → zH → Prop} {l0 : Nat} {l1 : Int32} {l2 : Int32} {l3 : Int32} {l4 : Int32} {l5 : Int32} {h : zH} (H :
    zbr (l4 ≤ l5)
    (zbr (l1 = (-1))
      (Q (.inl (some (.int l2))) h)
      (zE d 177 [.ref l0, .int l3, .int l1] h (fun r2 h1 => match r2 with
          | .inl v3 => ∃ x5 : Int32, v3 = some (.int x5) ∧ Q (.inl (some (.int x5))) h1
          | .inr e4 => Q (.inr e4) h1)))
    (zE d 178 [.ref l0, .int l5] h (fun r7 h6 => match r7 with
        | .inl v8 => ∃ x10 : Int32, v8 = some (.int x10) ∧ zbr (x10 ≤ l2)
          (zW (zE d) zm_X7_mates Q (31, [(0, .ref l0), (1, .int l1), (2, .int l2), (3, .int l3), (4, .int l4), (5, .int (l5 + 1))], [], h6))
          (zW (zE d) zm_X7_mates Q (31, [(0, .ref l0), (1, .int l1), (2, .int x10), (3, .int l5), (4, .int l4), (5, .int (l5 + 1))], [], h6))
        | .inr e9 => Q (.inr e9) h6))) : zW (zE d) zm_X7_mates Q (31, [(0, .ref l0), (1, .int l1), (2, .int l2), (3, .int l3), (4, .int l4), (5, .int l5)], [], h) := by
  refine zq_iload (pc' := 33) rfl rfl rfl rfl ?_
  refine zq_iload (pc' := 35) rfl rfl rfl rfl ?_
  refine zq_icge (pc' := 38) rfl rfl rfl rfl (And.intro (fun c => ?_) (fun c => ?_))
  · have H := H.1 c
    refine zq_iload (pc' := 65) rfl rfl rfl rfl ?_
    refine zq_ipushn (pc' := 66) rfl rfl rfl ?_
    refine zq_icne (pc' := 69) rfl rfl rfl rfl (And.intro (fun c => ?_) (fun c => ?_))
    · have H := H.1 c
      refine zq_iload (pc' := 70) rfl rfl rfl rfl ?_
      refine zq_goto (pc' := 79) rfl rfl rfl ?_
      exact zq_iret rfl trivial H
    · have H := H.2 c
      refine zq_aload (pc' := 74) rfl rfl rfl rfl ?_
      refine zq_iload (pc' := 75) rfl rfl rfl rfl ?_
      refine zq_iload (pc' := 76) rfl rfl rfl rfl ?_
      refine zq_calli (pc' := 79) rfl rfl rfl rfl rfl rfl (zE_mono H (fun r2 h1 H => ?_))
      rcases r2 with v3 | e4
      · obtain ⟨x5, e0, H⟩ := H
        refine Exists.intro x5 (And.intro e0 ?_)
        exact zq_iret rfl trivial H
      · exact H
  · have H := H.2 c
    refine zq_aload (pc' := 39) rfl rfl rfl rfl ?_
    refine zq_iload (pc' := 41) rfl rfl rfl rfl ?_
    refine zq_calli (pc' := 44) rfl rfl rfl rfl rfl rfl (zE_mono H (fun r7 h6 H => ?_))
    rcases r7 with v8 | e9
    · obtain ⟨x10, e0, H⟩ := H
      refine Exists.intro x10 (And.intro e0 ?_)
      refine zq_istore (pc' := 46) rfl rfl rfl ?_
      refine zq_iload (pc' := 48) rfl rfl rfl rfl ?_
      refine zq_iload (pc' := 49) rfl rfl rfl rfl ?_
      refine zq_icle (pc' := 52) rfl rfl rfl rfl (And.intro (fun c => ?_) (fun c => ?_))
      · have H := H.1 c
        refine zq_iinc (pc' := 61) rfl rfl rfl rfl ?_
        refine zq_goto_c (pc' := 31) rfl rfl ?_
        exact H
      · have H := H.2 c
        refine zq_iload (pc' := 54) rfl rfl rfl rfl ?_
        refine zq_istore (pc' := 55) rfl rfl rfl ?_
        refine zq_iload (pc' := 57) rfl rfl rfl rfl ?_
        refine zq_istore (pc' := 58) rfl rfl rfl ?_
        refine zq_iinc (pc' := 61) rfl rfl rfl rfl ?_
        refine zq_goto_c (pc' := 31) rfl rfl ?_
        exact H
    · exact H
theorem zr_X7_rightOf_0 {d : Nat} {Q : zR → zH → Prop} {p0 : Nat} {p1 : Int32} {p2 : Int32} {h : zH} (H :
    ∃ a1 : Nat, zgf h p0 7 4 = some (.ref a1) ∧
    zE d 46 [.ref a1] h (fun r3 h2 => match r3 with
      | .inl v4 => ∃ x6 : Int32, v4 = some (.int x6) ∧ Q (.inl (some (.int ((p1 >>> ((2 * ((x6 - 1) - p2)) &&& 31)) &&& 3)))) h2
      | .inr e5 => Q (.inr e5) h2)) : zW (zE d) zm_X7_rightOf Q (0, [(0, .ref p0), (1, .int p1), (2, .int p2)], [], h) := by
  refine zq_iload (pc' := 1) rfl rfl rfl rfl ?_
  refine zq_ipush (pc' := 2) rfl rfl rfl ?_
  refine zq_aload (pc' := 3) rfl rfl rfl rfl ?_
  obtain ⟨a1, e0, H⟩ := H
  refine zq_getR (pc' := 6) rfl rfl rfl e0 ?_
  refine zq_calli (pc' := 9) rfl rfl rfl rfl rfl rfl (zE_mono H (fun r3 h2 H => ?_))
  rcases r3 with v4 | e5
  · obtain ⟨x6, e0, H⟩ := H
    refine Exists.intro x6 (And.intro e0 ?_)
    refine zq_ipush (pc' := 10) rfl rfl rfl ?_
    refine zq_isub (pc' := 11) rfl rfl rfl ?_
    refine zq_iload (pc' := 12) rfl rfl rfl rfl ?_
    refine zq_isub (pc' := 13) rfl rfl rfl ?_
    refine zq_imul (pc' := 14) rfl rfl rfl ?_
    refine zq_ishr (pc' := 15) rfl rfl rfl ?_
    refine zq_ipush (pc' := 16) rfl rfl rfl ?_
    refine zq_iand (pc' := 17) rfl rfl rfl ?_
    exact zq_iret rfl trivial H
  · exact H
theorem zr_X7_heldByRow_0 {d : Nat} {Q : zR → zH → Prop} {p0 : Nat} {p1 : Int32} {h : zH} (H :
    zW (zE d) zm_X7_heldByRow Q (7, [(0, .ref p0), (1, .int p1), (2, .int 0), (3, .int 0), (4, .int 0)], [], h)) : zW (zE d) zm_X7_heldByRow Q (0, [(0, .ref p0), (1, .int p1)], [], h) := by
  refine zq_ipush (pc' := 1) rfl rfl rfl ?_
  refine zq_istore (pc' := 2) rfl rfl rfl ?_
  refine zq_ipush (pc' := 3) rfl rfl rfl ?_
  refine zq_istore (pc' := 4) rfl rfl rfl ?_
  refine zq_ipush (pc' := 5) rfl rfl rfl ?_
  refine zq_istore_c (pc' := 7) rfl rfl ?_
  exact H
theorem zr_X7_heldByRow_7 {d : Nat} {Q : zR → zH → Prop} {l0 : Nat} {l1 : Int32} {l2 : Int32} {l3 : Int32} {l4 : Int32} {h : zH} (H :
    ∃ a1 : Nat, zgf h l0 7 4 = some (.ref a1) ∧
    zE d 46 [.ref a1] h (fun r3 h2 => match r3 with
      | .inl v4 => ∃ x6 : Int32, v4 = some (.int x6) ∧ zbr (x6 ≤ l4)
        (Q (.inl (some (.int l3))) h2)
        (zE d 177 [.ref l0, .int l1, .int l4] h2 (fun r8 h7 => match r8 with
            | .inl v9 => ∃ x11 : Int32, v9 = some (.int x11) ∧ ∃ a12 : Nat, zgf h7 l0 7 4 = some (.ref a12) ∧
              zE d 46 [.ref a12] h7 (fun r14 h13 => match r14 with
                | .inl v15 => ∃ x17 : Int32, v15 = some (.int x17) ∧ zbr (x17 ≤ x11)
                  (Q (.inl (some (.int (-1)))) h13)
                  (zbr (((l2 >>> (x11 &&& 31)) &&& 1) = 0)
                    (zE d 201 [.ref l0, .int l4] h13 (fun r19 h18 => match r19 with
                        | .inl v20 => ∃ a22 : Nat, v20 = some (.ref a22) ∧ zE d 112 [.ref a22] h18 (fun r24 h23 => match r24 with
                            | .inl v25 => ∃ x27 : Int32, v25 = some (.int x27) ∧ zE d 201 [.ref l0, .int x11] h23 (fun r29 h28 => match r29 with
                                | .inl v30 => ∃ a32 : Nat, v30 = some (.ref a32) ∧ zE d 112 [.ref a32] h28 (fun r34 h33 => match r34 with
                                    | .inl v35 => ∃ x37 : Int32, v35 = some (.int x37) ∧ zbr (x27 = x37)
                                      (∃ a38 : Nat, zgf h33 l0 7 11 = some (.ref a38) ∧
                                        zE d 201 [.ref l0, .int l4] h33 (fun r40 h39 => match r40 with
                                          | .inl v41 => ∃ a43 : Nat, v41 = some (.ref a43) ∧ zE d 201 [.ref l0, .int x11] h39 (fun r45 h44 => match r45 with
                                              | .inl v46 => ∃ a48 : Nat, v46 = some (.ref a48) ∧ zE d 100 [.ref a38, .ref a43, .ref a48, .int 0] h44 (fun r50 h49 => match r50 with
                                                  | .inl v51 => ∃ x53 : Int32, v51 = some (.int x53) ∧ zW (zE d) zm_X7_heldByRow Q (7, [(0, .ref l0), (1, .int l1), (2, .int (l2 ||| (1 <<< (x11 &&& 31)))), (3, .int (l3 + x53)), (4, .int (l4 + 1))], [], h49)
                                                  | .inr e52 => Q (.inr e52) h49)
                                              | .inr e47 => Q (.inr e47) h44)
                                          | .inr e42 => Q (.inr e42) h39))
                                      (Q (.inl (some (.int (-1)))) h33)
                                    | .inr e36 => Q (.inr e36) h33)
                                | .inr e31 => Q (.inr e31) h28)
                            | .inr e26 => Q (.inr e26) h23)
                        | .inr e21 => Q (.inr e21) h18))
                    (Q (.inl (some (.int (-1)))) h13))
                | .inr e16 => Q (.inr e16) h13)
            | .inr e10 => Q (.inr e10) h7))
      | .inr e5 => Q (.inr e5) h2)) : zW (zE d) zm_X7_heldByRow Q (7, [(0, .ref l0), (1, .int l1), (2, .int l2), (3, .int l3), (4, .int l4)], [], h) := by
  refine zq_iload (pc' := 9) rfl rfl rfl rfl ?_
  refine zq_aload (pc' := 10) rfl rfl rfl rfl ?_
  obtain ⟨a1, e0, H⟩ := H
  refine zq_getR (pc' := 13) rfl rfl rfl e0 ?_
  refine zq_calli (pc' := 16) rfl rfl rfl rfl rfl rfl (zE_mono H (fun r3 h2 H => ?_))
  rcases r3 with v4 | e5
  · obtain ⟨x6, e0, H⟩ := H
    refine Exists.intro x6 (And.intro e0 ?_)
    refine zq_icge (pc' := 19) rfl rfl rfl rfl (And.intro (fun c => ?_) (fun c => ?_))
    · have H := H.1 c
      refine zq_iload (pc' := 109) rfl rfl rfl rfl ?_
      exact zq_iret rfl trivial H
    · have H := H.2 c
      refine zq_aload (pc' := 20) rfl rfl rfl rfl ?_
      refine zq_iload (pc' := 21) rfl rfl rfl rfl ?_
      refine zq_iload (pc' := 23) rfl rfl rfl rfl ?_
      refine zq_calli (pc' := 26) rfl rfl rfl rfl rfl rfl (zE_mono H (fun r8 h7 H => ?_))
      rcases r8 with v9 | e10
      · obtain ⟨x11, e0, H⟩ := H
        refine Exists.intro x11 (And.intro e0 ?_)
        refine zq_istore (pc' := 28) rfl rfl rfl ?_
        refine zq_iload (pc' := 30) rfl rfl rfl rfl ?_
        refine zq_aload (pc' := 31) rfl rfl rfl rfl ?_
        obtain ⟨a12, e0, H⟩ := H
        refine zq_getR (pc' := 34) rfl rfl rfl e0 ?_
        refine zq_calli (pc' := 37) rfl rfl rfl rfl rfl rfl (zE_mono H (fun r14 h13 H => ?_))
        rcases r14 with v15 | e16
        · obtain ⟨x17, e0, H⟩ := H
          refine Exists.intro x17 (And.intro e0 ?_)
          refine zq_icge (pc' := 40) rfl rfl rfl rfl (And.intro (fun c => ?_) (fun c => ?_))
          · have H := H.1 c
            refine zq_ipushn (pc' := 71) rfl rfl rfl ?_
            exact zq_iret rfl trivial H
          · have H := H.2 c
            refine zq_iload (pc' := 41) rfl rfl rfl rfl ?_
            refine zq_iload (pc' := 43) rfl rfl rfl rfl ?_
            refine zq_ishr (pc' := 44) rfl rfl rfl ?_
            refine zq_ipush (pc' := 45) rfl rfl rfl ?_
            refine zq_iand (pc' := 46) rfl rfl rfl ?_
            refine zq_ifne (pc' := 49) rfl rfl rfl rfl (And.intro (fun c => ?_) (fun c => ?_))
            · have H := H.1 c
              refine zq_aload (pc' := 50) rfl rfl rfl rfl ?_
              refine zq_iload (pc' := 52) rfl rfl rfl rfl ?_
              refine zq_callr (pc' := 55) rfl rfl rfl rfl rfl rfl (zE_mono H (fun r19 h18 H => ?_))
              rcases r19 with v20 | e21
              · obtain ⟨a22, e0, H⟩ := H
                refine Exists.intro a22 (And.intro e0 ?_)
                refine zq_calli (pc' := 58) rfl rfl rfl rfl rfl rfl (zE_mono H (fun r24 h23 H => ?_))
                rcases r24 with v25 | e26
                · obtain ⟨x27, e0, H⟩ := H
                  refine Exists.intro x27 (And.intro e0 ?_)
                  refine zq_aload (pc' := 59) rfl rfl rfl rfl ?_
                  refine zq_iload (pc' := 61) rfl rfl rfl rfl ?_
                  refine zq_callr (pc' := 64) rfl rfl rfl rfl rfl rfl (zE_mono H (fun r29 h28 H => ?_))
                  rcases r29 with v30 | e31
                  · obtain ⟨a32, e0, H⟩ := H
                    refine Exists.intro a32 (And.intro e0 ?_)
                    refine zq_calli (pc' := 67) rfl rfl rfl rfl rfl rfl (zE_mono H (fun r34 h33 H => ?_))
                    rcases r34 with v35 | e36
                    · obtain ⟨x37, e0, H⟩ := H
                      refine Exists.intro x37 (And.intro e0 ?_)
                      refine zq_iceq (pc' := 70) rfl rfl rfl rfl (And.intro (fun c => ?_) (fun c => ?_))
                      · have H := H.1 c
                        refine zq_iload (pc' := 73) rfl rfl rfl rfl ?_
                        refine zq_ipush (pc' := 74) rfl rfl rfl ?_
                        refine zq_iload (pc' := 76) rfl rfl rfl rfl ?_
                        refine zq_ishl (pc' := 77) rfl rfl rfl ?_
                        refine zq_ior (pc' := 78) rfl rfl rfl ?_
                        refine zq_istore (pc' := 79) rfl rfl rfl ?_
                        refine zq_iload (pc' := 80) rfl rfl rfl rfl ?_
                        refine zq_aload (pc' := 81) rfl rfl rfl rfl ?_
                        obtain ⟨a38, e0, H⟩ := H
                        refine zq_getR (pc' := 84) rfl rfl rfl e0 ?_
                        refine zq_aload (pc' := 85) rfl rfl rfl rfl ?_
                        refine zq_iload (pc' := 87) rfl rfl rfl rfl ?_
                        refine zq_callr (pc' := 90) rfl rfl rfl rfl rfl rfl (zE_mono H (fun r40 h39 H => ?_))
                        rcases r40 with v41 | e42
                        · obtain ⟨a43, e0, H⟩ := H
                          refine Exists.intro a43 (And.intro e0 ?_)
                          refine zq_aload (pc' := 91) rfl rfl rfl rfl ?_
                          refine zq_iload (pc' := 93) rfl rfl rfl rfl ?_
                          refine zq_callr (pc' := 96) rfl rfl rfl rfl rfl rfl (zE_mono H (fun r45 h44 H => ?_))
                          rcases r45 with v46 | e47
                          · obtain ⟨a48, e0, H⟩ := H
                            refine Exists.intro a48 (And.intro e0 ?_)
                            refine zq_ipush (pc' := 97) rfl rfl rfl ?_
                            refine zq_calli (pc' := 100) rfl rfl rfl rfl rfl rfl (zE_mono H (fun r50 h49 H => ?_))
                            rcases r50 with v51 | e52
                            · obtain ⟨x53, e0, H⟩ := H
                              refine Exists.intro x53 (And.intro e0 ?_)
                              refine zq_iadd (pc' := 101) rfl rfl rfl ?_
                              refine zq_istore (pc' := 102) rfl rfl rfl ?_
                              refine zq_iinc (pc' := 105) rfl rfl rfl rfl ?_
                              refine zq_goto_c (pc' := 7) rfl rfl ?_
                              exact H
                            · exact H
                          · exact H
                        · exact H
                      · have H := H.2 c
                        refine zq_ipushn (pc' := 71) rfl rfl rfl ?_
                        exact zq_iret rfl trivial H
                    · exact H
                  · exact H
                · exact H
              · exact H
            · have H := H.2 c
              refine zq_ipushn (pc' := 71) rfl rfl rfl ?_
              exact zq_iret rfl trivial H
        · exact H
      · exact H
  · exact H
theorem zr_X7_toPinch_0 {d : Nat} {Q : zR → zH → Prop} {p0 : Nat} {p1 : Int32} {p2 : Int32} {h : zH} (H :
    zE d 207 [.ref p0, .int p1] h (fun r2 h1 => match r2 with
      | .inl v3 => ∃ a5 : Nat, v3 = some (.ref a5) ∧ zE d 205 [.int p2, .int 1, .int 60] h1 (fun r7 h6 => match r7 with
          | .inl v8 => v8 = none ∧ zE d 212 [.ref p0, .ref a5, .int p2] h6 (fun r11 h10 => match r11 with
              | .inl v12 => ∃ x14 : Int32, v12 = some (.int x14) ∧ zW (zE d) zm_X7_toPinch Q (27, [(0, .ref p0), (1, .int p1), (2, .int p2), (4, .int x14), (5, .int (-1)), (6, .int 0)], [], h10)
              | .inr e13 => Q (.inr e13) h10)
          | .inr e9 => Q (.inr e9) h6)
      | .inr e4 => Q (.inr e4) h1)) : zW (zE d) zm_X7_toPinch Q (0, [(0, .ref p0), (1, .int p1), (2, .int p2)], [], h) := by
  refine zq_aload (pc' := 1) rfl rfl rfl rfl ?_
  refine zq_iload (pc' := 2) rfl rfl rfl rfl ?_
  refine zq_callr (pc' := 5) rfl rfl rfl rfl rfl rfl (zE_mono H (fun r2 h1 H => ?_))
  rcases r2 with v3 | e4
  · obtain ⟨a5, e0, H⟩ := H
    refine Exists.intro a5 (And.intro e0 ?_)
    refine zq_astore (pc' := 6) rfl rfl rfl ?_
    refine zq_iload (pc' := 7) rfl rfl rfl rfl ?_
    refine zq_ipush (pc' := 8) rfl rfl rfl ?_
    refine zq_ipush (pc' := 10) rfl rfl rfl ?_
    refine zq_callv (pc' := 13) rfl rfl rfl rfl rfl rfl (zE_mono H (fun r7 h6 H => ?_))
    rcases r7 with v8 | e9
    · obtain ⟨e0, H⟩ := H
      refine And.intro e0 ?_
      refine zq_aload (pc' := 14) rfl rfl rfl rfl ?_
      refine zq_aload (pc' := 15) rfl rfl rfl rfl ?_
      refine zq_iload (pc' := 16) rfl rfl rfl rfl ?_
      refine zq_calli (pc' := 19) rfl rfl rfl rfl rfl rfl (zE_mono H (fun r11 h10 H => ?_))
      rcases r11 with v12 | e13
      · obtain ⟨x14, e0, H⟩ := H
        refine Exists.intro x14 (And.intro e0 ?_)
        refine zq_istore (pc' := 21) rfl rfl rfl ?_
        refine zq_ipushn (pc' := 22) rfl rfl rfl ?_
        refine zq_istore (pc' := 24) rfl rfl rfl ?_
        refine zq_ipush (pc' := 25) rfl rfl rfl ?_
        refine zq_istore_c (pc' := 27) rfl rfl ?_
        exact H
      · exact H
    · exact H
  · exact H
theorem zr_X7_toPinch_27 {d : Nat} {Q : zR → zH → Prop} {l0 : Nat} {l1 : Int32} {l2 : Int32} {l4 : Int32} {l5 : Int32} {l6 : Int32} {h : zH} (H :
    zE d 201 [.ref l0, .int l1] h (fun r2 h1 => match r2 with
      | .inl v3 => ∃ a5 : Nat, v3 = some (.ref a5) ∧ zE d 112 [.ref a5] h1 (fun r7 h6 => match r7 with
          | .inl v8 => ∃ x10 : Int32, v8 = some (.int x10) ∧ zbr (x10 ≤ l6)
            (Q (.inl (some (.int l5))) h6)
            (zE d 207 [.ref l0, .int l1] h6 (fun r12 h11 => match r12 with
                | .inl v13 => ∃ a15 : Nat, v13 = some (.ref a15) ∧ zE d 130 [.ref a15, .int 0, .int l6] h11 (fun r17 h16 => match r17 with
                    | .inl v18 => v18 = none ∧ zE d 130 [.ref a15, .int 1, .int l6] h16 (fun r21 h20 => match r21 with
                        | .inl v22 => v22 = none ∧ zE d 212 [.ref l0, .ref a15, .int l2] h20 (fun r25 h24 => match r25 with
                            | .inl v26 => ∃ x28 : Int32, v26 = some (.int x28) ∧ zbr (x28 ≤ l4)
                              (zW (zE d) zm_X7_toPinch Q (27, [(0, .ref l0), (1, .int l1), (2, .int l2), (4, .int l4), (5, .int l5), (6, .int (l6 + 1))], [], h24))
                              (zW (zE d) zm_X7_toPinch Q (27, [(0, .ref l0), (1, .int l1), (2, .int l2), (4, .int x28), (5, .int l6), (6, .int (l6 + 1))], [], h24))
                            | .inr e27 => Q (.inr e27) h24)
                        | .inr e23 => Q (.inr e23) h20)
                    | .inr e19 => Q (.inr e19) h16)
                | .inr e14 => Q (.inr e14) h11))
          | .inr e9 => Q (.inr e9) h6)
      | .inr e4 => Q (.inr e4) h1)) : zW (zE d) zm_X7_toPinch Q (27, [(0, .ref l0), (1, .int l1), (2, .int l2), (4, .int l4), (5, .int l5), (6, .int l6)], [], h) := by
  refine zq_iload (pc' := 29) rfl rfl rfl rfl ?_
  refine zq_aload (pc' := 30) rfl rfl rfl rfl ?_
  refine zq_iload (pc' := 31) rfl rfl rfl rfl ?_
  refine zq_callr (pc' := 34) rfl rfl rfl rfl rfl rfl (zE_mono H (fun r2 h1 H => ?_))
  rcases r2 with v3 | e4
  · obtain ⟨a5, e0, H⟩ := H
    refine Exists.intro a5 (And.intro e0 ?_)
    refine zq_calli (pc' := 37) rfl rfl rfl rfl rfl rfl (zE_mono H (fun r7 h6 H => ?_))
    rcases r7 with v8 | e9
    · obtain ⟨x10, e0, H⟩ := H
      refine Exists.intro x10 (And.intro e0 ?_)
      refine zq_icge (pc' := 40) rfl rfl rfl rfl (And.intro (fun c => ?_) (fun c => ?_))
      · have H := H.1 c
        refine zq_iload (pc' := 95) rfl rfl rfl rfl ?_
        exact zq_iret rfl trivial H
      · have H := H.2 c
        refine zq_aload (pc' := 41) rfl rfl rfl rfl ?_
        refine zq_iload (pc' := 42) rfl rfl rfl rfl ?_
        refine zq_callr (pc' := 45) rfl rfl rfl rfl rfl rfl (zE_mono H (fun r12 h11 H => ?_))
        rcases r12 with v13 | e14
        · obtain ⟨a15, e0, H⟩ := H
          refine Exists.intro a15 (And.intro e0 ?_)
          refine zq_astore (pc' := 47) rfl rfl rfl ?_
          refine zq_aload (pc' := 49) rfl rfl rfl rfl ?_
          refine zq_ipush (pc' := 50) rfl rfl rfl ?_
          refine zq_iload (pc' := 52) rfl rfl rfl rfl ?_
          refine zq_callv (pc' := 55) rfl rfl rfl rfl rfl rfl (zE_mono H (fun r17 h16 H => ?_))
          rcases r17 with v18 | e19
          · obtain ⟨e0, H⟩ := H
            refine And.intro e0 ?_
            refine zq_aload (pc' := 57) rfl rfl rfl rfl ?_
            refine zq_ipush (pc' := 58) rfl rfl rfl ?_
            refine zq_iload (pc' := 60) rfl rfl rfl rfl ?_
            refine zq_callv (pc' := 63) rfl rfl rfl rfl rfl rfl (zE_mono H (fun r21 h20 H => ?_))
            rcases r21 with v22 | e23
            · obtain ⟨e0, H⟩ := H
              refine And.intro e0 ?_
              refine zq_aload (pc' := 64) rfl rfl rfl rfl ?_
              refine zq_aload (pc' := 66) rfl rfl rfl rfl ?_
              refine zq_iload (pc' := 67) rfl rfl rfl rfl ?_
              refine zq_calli (pc' := 70) rfl rfl rfl rfl rfl rfl (zE_mono H (fun r25 h24 H => ?_))
              rcases r25 with v26 | e27
              · obtain ⟨x28, e0, H⟩ := H
                refine Exists.intro x28 (And.intro e0 ?_)
                refine zq_istore (pc' := 72) rfl rfl rfl ?_
                refine zq_iload (pc' := 74) rfl rfl rfl rfl ?_
                refine zq_iload (pc' := 76) rfl rfl rfl rfl ?_
                refine zq_icle (pc' := 79) rfl rfl rfl rfl (And.intro (fun c => ?_) (fun c => ?_))
                · have H := H.1 c
                  refine zq_iinc (pc' := 90) rfl rfl rfl rfl ?_
                  refine zq_goto_c (pc' := 27) rfl rfl ?_
                  exact H
                · have H := H.2 c
                  refine zq_iload (pc' := 81) rfl rfl rfl rfl ?_
                  refine zq_istore (pc' := 83) rfl rfl rfl ?_
                  refine zq_iload (pc' := 85) rfl rfl rfl rfl ?_
                  refine zq_istore (pc' := 87) rfl rfl rfl ?_
                  refine zq_iinc (pc' := 90) rfl rfl rfl rfl ?_
                  refine zq_goto_c (pc' := 27) rfl rfl ?_
                  exact H
              · exact H
            · exact H
          · exact H
        · exact H
    · exact H
  · exact H
theorem zr_X7_toSlide_0 {d : Nat} {Q : zR → zH → Prop} {p0 : Nat} {p1 : Int32} {p2 : Int32} {p3 : Int32} {h : zH} (H :
    zE d 201 [.ref p0, .int p1] h (fun r2 h1 => match r2 with
      | .inl v3 => ∃ a5 : Nat, v3 = some (.ref a5) ∧ zE d 204 [.int p3, .int 2] h1 (fun r7 h6 => match r7 with
          | .inl v8 => v8 = none ∧ zE d 205 [.int p2, .int 1, .int 60] h6 (fun r11 h10 => match r11 with
              | .inl v12 => v12 = none ∧ zW (zE d) zm_X7_toSlide Q (28, [(0, .ref p0), (1, .int p1), (2, .int p2), (3, .int p3), (4, .ref a5), (5, .int (-1)), (6, .int 0), (7, .int 0)], [], h10)
              | .inr e13 => Q (.inr e13) h10)
          | .inr e9 => Q (.inr e9) h6)
      | .inr e4 => Q (.inr e4) h1)) : zW (zE d) zm_X7_toSlide Q (0, [(0, .ref p0), (1, .int p1), (2, .int p2), (3, .int p3)], [], h) := by
  refine zq_aload (pc' := 1) rfl rfl rfl rfl ?_
  refine zq_iload (pc' := 2) rfl rfl rfl rfl ?_
  refine zq_callr (pc' := 5) rfl rfl rfl rfl rfl rfl (zE_mono H (fun r2 h1 H => ?_))
  rcases r2 with v3 | e4
  · obtain ⟨a5, e0, H⟩ := H
    refine Exists.intro a5 (And.intro e0 ?_)
    refine zq_astore (pc' := 7) rfl rfl rfl ?_
    refine zq_iload (pc' := 8) rfl rfl rfl rfl ?_
    refine zq_ipush (pc' := 9) rfl rfl rfl ?_
    refine zq_callv (pc' := 12) rfl rfl rfl rfl rfl rfl (zE_mono H (fun r7 h6 H => ?_))
    rcases r7 with v8 | e9
    · obtain ⟨e0, H⟩ := H
      refine And.intro e0 ?_
      refine zq_iload (pc' := 13) rfl rfl rfl rfl ?_
      refine zq_ipush (pc' := 14) rfl rfl rfl ?_
      refine zq_ipush (pc' := 16) rfl rfl rfl ?_
      refine zq_callv (pc' := 19) rfl rfl rfl rfl rfl rfl (zE_mono H (fun r11 h10 H => ?_))
      rcases r11 with v12 | e13
      · obtain ⟨e0, H⟩ := H
        refine And.intro e0 ?_
        refine zq_ipushn (pc' := 20) rfl rfl rfl ?_
        refine zq_istore (pc' := 22) rfl rfl rfl ?_
        refine zq_ipush (pc' := 23) rfl rfl rfl ?_
        refine zq_istore (pc' := 25) rfl rfl rfl ?_
        refine zq_ipush (pc' := 26) rfl rfl rfl ?_
        refine zq_istore_c (pc' := 28) rfl rfl ?_
        exact H
      · exact H
    · exact H
  · exact H
theorem zr_X7_toSlide_28 {d : Nat} {Q : zR → zH → Prop} {l0 : Nat} {l1 : Int32} {l2 : Int32} {l3 : Int32} {l4 : Nat} {l5 : Int32} {l6 : Int32} {l7 : Int32} {h : zH} (H :
    zE d 112 [.ref l4] h (fun r2 h1 => match r2 with
      | .inl v3 => ∃ x5 : Int32, v3 = some (.int x5) ∧ zbr (x5 < l7)
        (zbr (l3 = 0)
          (Q (.inl (some (.int l6))) h1)
          (Q (.inl (some (.int l5))) h1))
        (zE d 207 [.ref l0, .int l1] h1 (fun r7 h6 => match r7 with
            | .inl v8 => ∃ a10 : Nat, v8 = some (.ref a10) ∧ zE d 126 [.ref a10, .int l7] h6 (fun r12 h11 => match r12 with
                | .inl v13 => v13 = none ∧ zE d 212 [.ref l0, .ref a10, .int l2] h11 (fun r16 h15 => match r16 with
                    | .inl v17 => ∃ x19 : Int32, v17 = some (.int x19) ∧ zbr (x19 ≤ l5)
                      (zW (zE d) zm_X7_toSlide Q (28, [(0, .ref l0), (1, .int l1), (2, .int l2), (3, .int l3), (4, .ref l4), (5, .int l5), (6, .int l6), (7, .int (l7 + 1))], [], h15))
                      (zW (zE d) zm_X7_toSlide Q (28, [(0, .ref l0), (1, .int l1), (2, .int l2), (3, .int l3), (4, .ref l4), (5, .int x19), (6, .int l7), (7, .int (l7 + 1))], [], h15))
                    | .inr e18 => Q (.inr e18) h15)
                | .inr e14 => Q (.inr e14) h11)
            | .inr e9 => Q (.inr e9) h6))
      | .inr e4 => Q (.inr e4) h1)) : zW (zE d) zm_X7_toSlide Q (28, [(0, .ref l0), (1, .int l1), (2, .int l2), (3, .int l3), (4, .ref l4), (5, .int l5), (6, .int l6), (7, .int l7)], [], h) := by
  refine zq_iload (pc' := 30) rfl rfl rfl rfl ?_
  refine zq_aload (pc' := 32) rfl rfl rfl rfl ?_
  refine zq_calli (pc' := 35) rfl rfl rfl rfl rfl rfl (zE_mono H (fun r2 h1 H => ?_))
  rcases r2 with v3 | e4
  · obtain ⟨x5, e0, H⟩ := H
    refine Exists.intro x5 (And.intro e0 ?_)
    refine zq_icgt (pc' := 38) rfl rfl rfl rfl (And.intro (fun c => ?_) (fun c => ?_))
    · have H := H.1 c
      refine zq_iload (pc' := 83) rfl rfl rfl rfl ?_
      refine zq_ifne (pc' := 86) rfl rfl rfl rfl (And.intro (fun c => ?_) (fun c => ?_))
      · have H := H.1 c
        refine zq_iload (pc' := 88) rfl rfl rfl rfl ?_
        refine zq_goto (pc' := 93) rfl rfl rfl ?_
        exact zq_iret rfl trivial H
      · have H := H.2 c
        refine zq_iload (pc' := 93) rfl rfl rfl rfl ?_
        exact zq_iret rfl trivial H
    · have H := H.2 c
      refine zq_aload (pc' := 39) rfl rfl rfl rfl ?_
      refine zq_iload (pc' := 40) rfl rfl rfl rfl ?_
      refine zq_callr (pc' := 43) rfl rfl rfl rfl rfl rfl (zE_mono H (fun r7 h6 H => ?_))
      rcases r7 with v8 | e9
      · obtain ⟨a10, e0, H⟩ := H
        refine Exists.intro a10 (And.intro e0 ?_)
        refine zq_astore (pc' := 45) rfl rfl rfl ?_
        refine zq_aload (pc' := 47) rfl rfl rfl rfl ?_
        refine zq_iload (pc' := 49) rfl rfl rfl rfl ?_
        refine zq_callv (pc' := 52) rfl rfl rfl rfl rfl rfl (zE_mono H (fun r12 h11 H => ?_))
        rcases r12 with v13 | e14
        · obtain ⟨e0, H⟩ := H
          refine And.intro e0 ?_
          refine zq_aload (pc' := 53) rfl rfl rfl rfl ?_
          refine zq_aload (pc' := 55) rfl rfl rfl rfl ?_
          refine zq_iload (pc' := 56) rfl rfl rfl rfl ?_
          refine zq_calli (pc' := 59) rfl rfl rfl rfl rfl rfl (zE_mono H (fun r16 h15 H => ?_))
          rcases r16 with v17 | e18
          · obtain ⟨x19, e0, H⟩ := H
            refine Exists.intro x19 (And.intro e0 ?_)
            refine zq_istore (pc' := 61) rfl rfl rfl ?_
            refine zq_iload (pc' := 63) rfl rfl rfl rfl ?_
            refine zq_iload (pc' := 65) rfl rfl rfl rfl ?_
            refine zq_icle (pc' := 68) rfl rfl rfl rfl (And.intro (fun c => ?_) (fun c => ?_))
            · have H := H.1 c
              refine zq_iinc (pc' := 79) rfl rfl rfl rfl ?_
              refine zq_goto_c (pc' := 28) rfl rfl ?_
              exact H
            · have H := H.2 c
              refine zq_iload (pc' := 70) rfl rfl rfl rfl ?_
              refine zq_istore (pc' := 72) rfl rfl rfl ?_
              refine zq_iload (pc' := 74) rfl rfl rfl rfl ?_
              refine zq_istore (pc' := 76) rfl rfl rfl ?_
              refine zq_iinc (pc' := 79) rfl rfl rfl rfl ?_
              refine zq_goto_c (pc' := 28) rfl rfl ?_
              exact H
          · exact H
        · exact H
      · exact H
  · exact H
theorem zr_X7_toSet_0 {d : Nat} {Q : zR → zH → Prop} {p0 : Nat} {p1 : Int32} {p2 : Int32} {h : zH} (H :
    zE d 201 [.ref p0, .int p1] h (fun r2 h1 => match r2 with
      | .inl v3 => ∃ a5 : Nat, v3 = some (.ref a5) ∧ zE d 205 [.int p2, .int 1, .int 60] h1 (fun r7 h6 => match r7 with
          | .inl v8 => v8 = none ∧ zW (zE d) zm_X7_toSet Q (22, [(0, .ref p0), (1, .int p1), (2, .int p2), (3, .ref a5), (4, .int (-1)), (5, .int (-1)), (6, .int 0)], [], h6)
          | .inr e9 => Q (.inr e9) h6)
      | .inr e4 => Q (.inr e4) h1)) : zW (zE d) zm_X7_toSet Q (0, [(0, .ref p0), (1, .int p1), (2, .int p2)], [], h) := by
  refine zq_aload (pc' := 1) rfl rfl rfl rfl ?_
  refine zq_iload (pc' := 2) rfl rfl rfl rfl ?_
  refine zq_callr (pc' := 5) rfl rfl rfl rfl rfl rfl (zE_mono H (fun r2 h1 H => ?_))
  rcases r2 with v3 | e4
  · obtain ⟨a5, e0, H⟩ := H
    refine Exists.intro a5 (And.intro e0 ?_)
    refine zq_astore (pc' := 6) rfl rfl rfl ?_
    refine zq_iload (pc' := 7) rfl rfl rfl rfl ?_
    refine zq_ipush (pc' := 8) rfl rfl rfl ?_
    refine zq_ipush (pc' := 10) rfl rfl rfl ?_
    refine zq_callv (pc' := 13) rfl rfl rfl rfl rfl rfl (zE_mono H (fun r7 h6 H => ?_))
    rcases r7 with v8 | e9
    · obtain ⟨e0, H⟩ := H
      refine And.intro e0 ?_
      refine zq_ipushn (pc' := 14) rfl rfl rfl ?_
      refine zq_istore (pc' := 16) rfl rfl rfl ?_
      refine zq_ipushn (pc' := 17) rfl rfl rfl ?_
      refine zq_istore (pc' := 19) rfl rfl rfl ?_
      refine zq_ipush (pc' := 20) rfl rfl rfl ?_
      refine zq_istore_c (pc' := 22) rfl rfl ?_
      exact H
    · exact H
  · exact H
theorem zr_X7_toSet_22 {d : Nat} {Q : zR → zH → Prop} {l0 : Nat} {l1 : Int32} {l2 : Int32} {l3 : Nat} {l4 : Int32} {l5 : Int32} {l6 : Int32} {h : zH} (H :
    zE d 112 [.ref l3] h (fun r2 h1 => match r2 with
      | .inl v3 => ∃ x5 : Int32, v3 = some (.int x5) ∧ zbr (x5 ≤ l6)
        (Q (.inl (some (.int l5))) h1)
        (zE d 120 [.ref l3, .int l6] h1 (fun r7 h6 => match r7 with
            | .inl v8 => ∃ x10 : Int32, v8 = some (.int x10) ∧ zbr (x10 = 0)
              (zE d 207 [.ref l0, .int l1] h6 (fun r12 h11 => match r12 with
                  | .inl v13 => ∃ a15 : Nat, v13 = some (.ref a15) ∧ zE d 133 [.ref a15, .int l6] h11 (fun r17 h16 => match r17 with
                      | .inl v18 => v18 = none ∧ zE d 127 [.ref a15] h16 (fun r21 h20 => match r21 with
                          | .inl v22 => v22 = none ∧ zE d 212 [.ref l0, .ref a15, .int l2] h20 (fun r25 h24 => match r25 with
                              | .inl v26 => ∃ x28 : Int32, v26 = some (.int x28) ∧ zbr (x28 ≤ l4)
                                (zW (zE d) zm_X7_toSet Q (22, [(0, .ref l0), (1, .int l1), (2, .int l2), (3, .ref l3), (4, .int l4), (5, .int l5), (6, .int (l6 + 1))], [], h24))
                                (zW (zE d) zm_X7_toSet Q (22, [(0, .ref l0), (1, .int l1), (2, .int l2), (3, .ref l3), (4, .int x28), (5, .int l6), (6, .int (l6 + 1))], [], h24))
                              | .inr e27 => Q (.inr e27) h24)
                          | .inr e23 => Q (.inr e23) h20)
                      | .inr e19 => Q (.inr e19) h16)
                  | .inr e14 => Q (.inr e14) h11))
              (zW (zE d) zm_X7_toSet Q (22, [(0, .ref l0), (1, .int l1), (2, .int l2), (3, .ref l3), (4, .int l4), (5, .int l5), (6, .int (l6 + 1))], [], h6))
            | .inr e9 => Q (.inr e9) h6))
      | .inr e4 => Q (.inr e4) h1)) : zW (zE d) zm_X7_toSet Q (22, [(0, .ref l0), (1, .int l1), (2, .int l2), (3, .ref l3), (4, .int l4), (5, .int l5), (6, .int l6)], [], h) := by
  refine zq_iload (pc' := 24) rfl rfl rfl rfl ?_
  refine zq_aload (pc' := 25) rfl rfl rfl rfl ?_
  refine zq_calli (pc' := 28) rfl rfl rfl rfl rfl rfl (zE_mono H (fun r2 h1 H => ?_))
  rcases r2 with v3 | e4
  · obtain ⟨x5, e0, H⟩ := H
    refine Exists.intro x5 (And.intro e0 ?_)
    refine zq_icge (pc' := 31) rfl rfl rfl rfl (And.intro (fun c => ?_) (fun c => ?_))
    · have H := H.1 c
      refine zq_iload (pc' := 91) rfl rfl rfl rfl ?_
      exact zq_iret rfl trivial H
    · have H := H.2 c
      refine zq_aload (pc' := 32) rfl rfl rfl rfl ?_
      refine zq_iload (pc' := 34) rfl rfl rfl rfl ?_
      refine zq_calli (pc' := 37) rfl rfl rfl rfl rfl rfl (zE_mono H (fun r7 h6 H => ?_))
      rcases r7 with v8 | e9
      · obtain ⟨x10, e0, H⟩ := H
        refine Exists.intro x10 (And.intro e0 ?_)
        refine zq_ifne (pc' := 40) rfl rfl rfl rfl (And.intro (fun c => ?_) (fun c => ?_))
        · have H := H.1 c
          refine zq_aload (pc' := 41) rfl rfl rfl rfl ?_
          refine zq_iload (pc' := 42) rfl rfl rfl rfl ?_
          refine zq_callr (pc' := 45) rfl rfl rfl rfl rfl rfl (zE_mono H (fun r12 h11 H => ?_))
          rcases r12 with v13 | e14
          · obtain ⟨a15, e0, H⟩ := H
            refine Exists.intro a15 (And.intro e0 ?_)
            refine zq_astore (pc' := 47) rfl rfl rfl ?_
            refine zq_aload (pc' := 49) rfl rfl rfl rfl ?_
            refine zq_iload (pc' := 51) rfl rfl rfl rfl ?_
            refine zq_callv (pc' := 54) rfl rfl rfl rfl rfl rfl (zE_mono H (fun r17 h16 H => ?_))
            rcases r17 with v18 | e19
            · obtain ⟨e0, H⟩ := H
              refine And.intro e0 ?_
              refine zq_aload (pc' := 56) rfl rfl rfl rfl ?_
              refine zq_callv (pc' := 59) rfl rfl rfl rfl rfl rfl (zE_mono H (fun r21 h20 H => ?_))
              rcases r21 with v22 | e23
              · obtain ⟨e0, H⟩ := H
                refine And.intro e0 ?_
                refine zq_aload (pc' := 60) rfl rfl rfl rfl ?_
                refine zq_aload (pc' := 62) rfl rfl rfl rfl ?_
                refine zq_iload (pc' := 63) rfl rfl rfl rfl ?_
                refine zq_calli (pc' := 66) rfl rfl rfl rfl rfl rfl (zE_mono H (fun r25 h24 H => ?_))
                rcases r25 with v26 | e27
                · obtain ⟨x28, e0, H⟩ := H
                  refine Exists.intro x28 (And.intro e0 ?_)
                  refine zq_istore (pc' := 68) rfl rfl rfl ?_
                  refine zq_iload (pc' := 70) rfl rfl rfl rfl ?_
                  refine zq_iload (pc' := 72) rfl rfl rfl rfl ?_
                  refine zq_icle (pc' := 75) rfl rfl rfl rfl (And.intro (fun c => ?_) (fun c => ?_))
                  · have H := H.1 c
                    refine zq_iinc (pc' := 86) rfl rfl rfl rfl ?_
                    refine zq_goto_c (pc' := 22) rfl rfl ?_
                    exact H
                  · have H := H.2 c
                    refine zq_iload (pc' := 77) rfl rfl rfl rfl ?_
                    refine zq_istore (pc' := 79) rfl rfl rfl ?_
                    refine zq_iload (pc' := 81) rfl rfl rfl rfl ?_
                    refine zq_istore (pc' := 83) rfl rfl rfl ?_
                    refine zq_iinc (pc' := 86) rfl rfl rfl rfl ?_
                    refine zq_goto_c (pc' := 22) rfl rfl ?_
                    exact H
                · exact H
              · exact H
            · exact H
          · exact H
        · have H := H.2 c
          refine zq_iinc (pc' := 86) rfl rfl rfl rfl ?_
          refine zq_goto_c (pc' := 22) rfl rfl ?_
          exact H
      · exact H
  · exact H
theorem zr_X7_note_0 {d : Nat} {Q : zR → zH → Prop} {p0 : Nat} {p1 : Int32} {p2 : Int32} {p3 : Int32} {p4 : Int32} {h : zH} (H :
    zE d 201 [.ref p0, .int p1] h (fun r2 h1 => match r2 with
      | .inl v3 => ∃ a5 : Nat, v3 = some (.ref a5) ∧ zE d 202 [.ref a5, .int p2] h1 (fun r7 h6 => match r7 with
          | .inl v8 => v8 = none ∧ zbr (p3 < 0)
            (∃ a10 : Nat, zgf h6 p0 7 6 = some (.ref a10) ∧
              zE d 20 [.ref a10, .int 2] h6 (fun r12 h11 => match r12 with
                | .inl v13 => v13 = none ∧ Q (.inl (some (.int (-1)))) h11
                | .inr e14 => Q (.inr e14) h11))
            (zbr (20 < p3)
              (∃ a15 : Nat, zgf h6 p0 7 6 = some (.ref a15) ∧
                zE d 20 [.ref a15, .int 2] h6 (fun r17 h16 => match r17 with
                  | .inl v18 => v18 = none ∧ Q (.inl (some (.int (-1)))) h16
                  | .inr e19 => Q (.inr e19) h16))
              (∃ a20 : Nat, zgf h6 p0 7 6 = some (.ref a20) ∧
                zE d 30 [.ref a20, .int p1, .int p2, .int p3, .int p4] h6 (fun r22 h21 => match r22 with
                  | .inl v23 => ∃ x25 : Int32, v23 = some (.int x25) ∧ zbr (x25 = 0)
                    (∃ a26 : Nat, zgf h21 p0 7 6 = some (.ref a26) ∧
                      zE d 20 [.ref a26, .int 2] h21 (fun r28 h27 => match r28 with
                        | .inl v29 => v29 = none ∧ Q (.inl (some (.int (-1)))) h27
                        | .inr e30 => Q (.inr e30) h27))
                    (∃ a31 : Nat, zgf h21 p0 7 6 = some (.ref a31) ∧
                      zE d 18 [.ref a31] h21 (fun r33 h32 => match r33 with
                        | .inl v34 => ∃ x36 : Int32, v34 = some (.int x36) ∧ Q (.inl (some (.int x36))) h32
                        | .inr e35 => Q (.inr e35) h32))
                  | .inr e24 => Q (.inr e24) h21)))
          | .inr e9 => Q (.inr e9) h6)
      | .inr e4 => Q (.inr e4) h1)) : zW (zE d) zm_X7_note Q (0, [(0, .ref p0), (1, .int p1), (2, .int p2), (3, .int p3), (4, .int p4)], [], h) := by
  refine zq_aload (pc' := 1) rfl rfl rfl rfl ?_
  refine zq_iload (pc' := 2) rfl rfl rfl rfl ?_
  refine zq_callr (pc' := 5) rfl rfl rfl rfl rfl rfl (zE_mono H (fun r2 h1 H => ?_))
  rcases r2 with v3 | e4
  · obtain ⟨a5, e0, H⟩ := H
    refine Exists.intro a5 (And.intro e0 ?_)
    refine zq_iload (pc' := 6) rfl rfl rfl rfl ?_
    refine zq_callv (pc' := 9) rfl rfl rfl rfl rfl rfl (zE_mono H (fun r7 h6 H => ?_))
    rcases r7 with v8 | e9
    · obtain ⟨e0, H⟩ := H
      refine And.intro e0 ?_
      refine zq_iload (pc' := 10) rfl rfl rfl rfl ?_
      refine zq_iflt (pc' := 13) rfl rfl rfl rfl (And.intro (fun c => ?_) (fun c => ?_))
      · have H := H.1 c
        refine zq_aload (pc' := 35) rfl rfl rfl rfl ?_
        obtain ⟨a10, e0, H⟩ := H
        refine zq_getR (pc' := 38) rfl rfl rfl e0 ?_
        refine zq_ipush (pc' := 39) rfl rfl rfl ?_
        refine zq_callv (pc' := 42) rfl rfl rfl rfl rfl rfl (zE_mono H (fun r12 h11 H => ?_))
        rcases r12 with v13 | e14
        · obtain ⟨e0, H⟩ := H
          refine And.intro e0 ?_
          refine zq_ipushn (pc' := 43) rfl rfl rfl ?_
          exact zq_iret rfl trivial H
        · exact H
      · have H := H.2 c
        refine zq_iload (pc' := 14) rfl rfl rfl rfl ?_
        refine zq_ipush (pc' := 16) rfl rfl rfl ?_
        refine zq_icgt (pc' := 19) rfl rfl rfl rfl (And.intro (fun c => ?_) (fun c => ?_))
        · have H := H.1 c
          refine zq_aload (pc' := 35) rfl rfl rfl rfl ?_
          obtain ⟨a15, e0, H⟩ := H
          refine zq_getR (pc' := 38) rfl rfl rfl e0 ?_
          refine zq_ipush (pc' := 39) rfl rfl rfl ?_
          refine zq_callv (pc' := 42) rfl rfl rfl rfl rfl rfl (zE_mono H (fun r17 h16 H => ?_))
          rcases r17 with v18 | e19
          · obtain ⟨e0, H⟩ := H
            refine And.intro e0 ?_
            refine zq_ipushn (pc' := 43) rfl rfl rfl ?_
            exact zq_iret rfl trivial H
          · exact H
        · have H := H.2 c
          refine zq_aload (pc' := 20) rfl rfl rfl rfl ?_
          obtain ⟨a20, e0, H⟩ := H
          refine zq_getR (pc' := 23) rfl rfl rfl e0 ?_
          refine zq_iload (pc' := 24) rfl rfl rfl rfl ?_
          refine zq_iload (pc' := 25) rfl rfl rfl rfl ?_
          refine zq_iload (pc' := 26) rfl rfl rfl rfl ?_
          refine zq_iload (pc' := 28) rfl rfl rfl rfl ?_
          refine zq_calli (pc' := 31) rfl rfl rfl rfl rfl rfl (zE_mono H (fun r22 h21 H => ?_))
          rcases r22 with v23 | e24
          · obtain ⟨x25, e0, H⟩ := H
            refine Exists.intro x25 (And.intro e0 ?_)
            refine zq_ifne (pc' := 34) rfl rfl rfl rfl (And.intro (fun c => ?_) (fun c => ?_))
            · have H := H.1 c
              refine zq_aload (pc' := 35) rfl rfl rfl rfl ?_
              obtain ⟨a26, e0, H⟩ := H
              refine zq_getR (pc' := 38) rfl rfl rfl e0 ?_
              refine zq_ipush (pc' := 39) rfl rfl rfl ?_
              refine zq_callv (pc' := 42) rfl rfl rfl rfl rfl rfl (zE_mono H (fun r28 h27 H => ?_))
              rcases r28 with v29 | e30
              · obtain ⟨e0, H⟩ := H
                refine And.intro e0 ?_
                refine zq_ipushn (pc' := 43) rfl rfl rfl ?_
                exact zq_iret rfl trivial H
              · exact H
            · have H := H.2 c
              refine zq_aload (pc' := 45) rfl rfl rfl rfl ?_
              obtain ⟨a31, e0, H⟩ := H
              refine zq_getR (pc' := 48) rfl rfl rfl e0 ?_
              refine zq_calli (pc' := 51) rfl rfl rfl rfl rfl rfl (zE_mono H (fun r33 h32 H => ?_))
              rcases r33 with v34 | e35
              · obtain ⟨x36, e0, H⟩ := H
                refine Exists.intro x36 (And.intro e0 ?_)
                exact zq_iret rfl trivial H
              · exact H
          · exact H
    · exact H
  · exact H
theorem zr_X7_forced_0 {d : Nat} {Q : zR → zH → Prop} {p0 : Nat} {p1 : Int32} {h : zH} (H :
    zE d 204 [.int p1, .int 3] h (fun r2 h1 => match r2 with
      | .inl v3 => v3 = none ∧ zbr (p1 = 2)
        (zE d 185 [.ref p0] h1 (fun r6 h5 => match r6 with
            | .inl v7 => ∃ x9 : Int32, v7 = some (.int x9) ∧ zbr (x9 = 0)
              (Q (.inl (some (.int 0))) h5)
              (Q (.inl (some (.int 1))) h5)
            | .inr e8 => Q (.inr e8) h5))
        (zW (zE d) zm_X7_forced Q (27, [(0, .ref p0), (1, .int p1), (2, .int 0), (3, .int 0)], [], h1))
      | .inr e4 => Q (.inr e4) h1)) : zW (zE d) zm_X7_forced Q (0, [(0, .ref p0), (1, .int p1)], [], h) := by
  refine zq_iload (pc' := 1) rfl rfl rfl rfl ?_
  refine zq_ipush (pc' := 2) rfl rfl rfl ?_
  refine zq_callv (pc' := 5) rfl rfl rfl rfl rfl rfl (zE_mono H (fun r2 h1 H => ?_))
  rcases r2 with v3 | e4
  · obtain ⟨e0, H⟩ := H
    refine And.intro e0 ?_
    refine zq_iload (pc' := 6) rfl rfl rfl rfl ?_
    refine zq_ipush (pc' := 7) rfl rfl rfl ?_
    refine zq_icne (pc' := 10) rfl rfl rfl rfl (And.intro (fun c => ?_) (fun c => ?_))
    · have H := H.1 c
      refine zq_aload (pc' := 11) rfl rfl rfl rfl ?_
      refine zq_calli (pc' := 14) rfl rfl rfl rfl rfl rfl (zE_mono H (fun r6 h5 H => ?_))
      rcases r6 with v7 | e8
      · obtain ⟨x9, e0, H⟩ := H
        refine Exists.intro x9 (And.intro e0 ?_)
        refine zq_ifeq (pc' := 17) rfl rfl rfl rfl (And.intro (fun c => ?_) (fun c => ?_))
        · have H := H.1 c
          refine zq_ipush (pc' := 22) rfl rfl rfl ?_
          exact zq_iret rfl trivial H
        · have H := H.2 c
          refine zq_ipush (pc' := 18) rfl rfl rfl ?_
          refine zq_goto (pc' := 22) rfl rfl rfl ?_
          exact zq_iret rfl trivial H
      · exact H
    · have H := H.2 c
      refine zq_ipush (pc' := 24) rfl rfl rfl ?_
      refine zq_istore (pc' := 25) rfl rfl rfl ?_
      refine zq_ipush (pc' := 26) rfl rfl rfl ?_
      refine zq_istore_c (pc' := 27) rfl rfl ?_
      exact H
  · exact H
theorem zr_X7_forced_27 {d : Nat} {Q : zR → zH → Prop} {l0 : Nat} {l1 : Int32} {l2 : Int32} {l3 : Int32} {h : zH} (H :
    ∃ a1 : Nat, zgf h l0 7 4 = some (.ref a1) ∧
    zE d 51 [.ref a1] h (fun r3 h2 => match r3 with
      | .inl v4 => ∃ x6 : Int32, v4 = some (.int x6) ∧ zbr ((10 * x6) ≤ l3)
        (zbr (l1 = 0)
          (Q (.inl (some (.int l2))) h2)
          (Q (.inl (some (.int (-1)))) h2))
        (zE d 184 [.ref l0, .int l3] h2 (fun r8 h7 => match r8 with
            | .inl v9 => ∃ x11 : Int32, v9 = some (.int x11) ∧ zbr (x11 = 0)
              (zW (zE d) zm_X7_forced Q (27, [(0, .ref l0), (1, .int l1), (2, .int l2), (3, .int (l3 + 1))], [], h7))
              (zbr (l1 = 1)
                (Q (.inl (some (.int l3))) h7)
                (zW (zE d) zm_X7_forced Q (27, [(0, .ref l0), (1, .int l1), (2, .int (l2 + 1)), (3, .int (l3 + 1))], [], h7)))
            | .inr e10 => Q (.inr e10) h7))
      | .inr e5 => Q (.inr e5) h2)) : zW (zE d) zm_X7_forced Q (27, [(0, .ref l0), (1, .int l1), (2, .int l2), (3, .int l3)], [], h) := by
  refine zq_iload (pc' := 28) rfl rfl rfl rfl ?_
  refine zq_ipush (pc' := 30) rfl rfl rfl ?_
  refine zq_aload (pc' := 31) rfl rfl rfl rfl ?_
  obtain ⟨a1, e0, H⟩ := H
  refine zq_getR (pc' := 34) rfl rfl rfl e0 ?_
  refine zq_calli (pc' := 37) rfl rfl rfl rfl rfl rfl (zE_mono H (fun r3 h2 H => ?_))
  rcases r3 with v4 | e5
  · obtain ⟨x6, e0, H⟩ := H
    refine Exists.intro x6 (And.intro e0 ?_)
    refine zq_imul (pc' := 38) rfl rfl rfl ?_
    refine zq_icge (pc' := 41) rfl rfl rfl rfl (And.intro (fun c => ?_) (fun c => ?_))
    · have H := H.1 c
      refine zq_iload (pc' := 66) rfl rfl rfl rfl ?_
      refine zq_ifne (pc' := 69) rfl rfl rfl rfl (And.intro (fun c => ?_) (fun c => ?_))
      · have H := H.1 c
        refine zq_iload (pc' := 70) rfl rfl rfl rfl ?_
        refine zq_goto (pc' := 74) rfl rfl rfl ?_
        exact zq_iret rfl trivial H
      · have H := H.2 c
        refine zq_ipushn (pc' := 74) rfl rfl rfl ?_
        exact zq_iret rfl trivial H
    · have H := H.2 c
      refine zq_aload (pc' := 42) rfl rfl rfl rfl ?_
      refine zq_iload (pc' := 43) rfl rfl rfl rfl ?_
      refine zq_calli (pc' := 46) rfl rfl rfl rfl rfl rfl (zE_mono H (fun r8 h7 H => ?_))
      rcases r8 with v9 | e10
      · obtain ⟨x11, e0, H⟩ := H
        refine Exists.intro x11 (And.intro e0 ?_)
        refine zq_ifeq (pc' := 49) rfl rfl rfl rfl (And.intro (fun c => ?_) (fun c => ?_))
        · have H := H.1 c
          refine zq_iinc (pc' := 62) rfl rfl rfl rfl ?_
          refine zq_goto_c (pc' := 27) rfl rfl ?_
          exact H
        · have H := H.2 c
          refine zq_iload (pc' := 50) rfl rfl rfl rfl ?_
          refine zq_ipush (pc' := 51) rfl rfl rfl ?_
          refine zq_icne (pc' := 54) rfl rfl rfl rfl (And.intro (fun c => ?_) (fun c => ?_))
          · have H := H.1 c
            refine zq_iload (pc' := 55) rfl rfl rfl rfl ?_
            exact zq_iret rfl trivial H
          · have H := H.2 c
            refine zq_iinc (pc' := 59) rfl rfl rfl rfl ?_
            refine zq_iinc (pc' := 62) rfl rfl rfl rfl ?_
            refine zq_goto_c (pc' := 27) rfl rfl ?_
            exact H
      · exact H
  · exact H
theorem zr_X7_isForced_0 {d : Nat} {Q : zR → zH → Prop} {p0 : Nat} {p1 : Int32} {h : zH} (H :
    ∃ a1 : Nat, zgf h p0 7 4 = some (.ref a1) ∧
    zE d 52 [.ref a1, .int (p1 / 10)] h (fun r3 h2 => match r3 with
      | .inl v4 => ∃ x6 : Int32, v4 = some (.int x6) ∧ zbr (x6 = (p1 - p1 / 10 * 10))
        (Q (.inl (some (.int 0))) h2)
        (zW (zE d) zm_X7_isForced Q (27, [(0, .ref p0), (2, .int (p1 / 10)), (3, .int (p1 - p1 / 10 * 10)), (4, .int 0)], [], h2))
      | .inr e5 => Q (.inr e5) h2)) : zW (zE d) zm_X7_isForced Q (0, [(0, .ref p0), (1, .int p1)], [], h) := by
  refine zq_iload (pc' := 1) rfl rfl rfl rfl ?_
  refine zq_ipush (pc' := 3) rfl rfl rfl ?_
  refine zq_idiv (pc' := 4) rfl rfl rfl (by decide) ?_
  refine zq_istore (pc' := 5) rfl rfl rfl ?_
  refine zq_iload (pc' := 6) rfl rfl rfl rfl ?_
  refine zq_ipush (pc' := 8) rfl rfl rfl ?_
  refine zq_irem (pc' := 9) rfl rfl rfl (by decide) ?_
  refine zq_istore (pc' := 10) rfl rfl rfl ?_
  refine zq_aload (pc' := 11) rfl rfl rfl rfl ?_
  obtain ⟨a1, e0, H⟩ := H
  refine zq_getR (pc' := 14) rfl rfl rfl e0 ?_
  refine zq_iload (pc' := 15) rfl rfl rfl rfl ?_
  refine zq_calli (pc' := 18) rfl rfl rfl rfl rfl rfl (zE_mono H (fun r3 h2 H => ?_))
  rcases r3 with v4 | e5
  · obtain ⟨x6, e0, H⟩ := H
    refine Exists.intro x6 (And.intro e0 ?_)
    refine zq_iload (pc' := 19) rfl rfl rfl rfl ?_
    refine zq_icne (pc' := 22) rfl rfl rfl rfl (And.intro (fun c => ?_) (fun c => ?_))
    · have H := H.1 c
      refine zq_ipush (pc' := 23) rfl rfl rfl ?_
      exact zq_iret rfl (Or.inl rfl) H
    · have H := H.2 c
      refine zq_ipush (pc' := 25) rfl rfl rfl ?_
      refine zq_istore_c (pc' := 27) rfl rfl ?_
      exact H
  · exact H
theorem zr_X7_isForced_27 {d : Nat} {Q : zR → zH → Prop} {l0 : Nat} {l2 : Int32} {l3 : Int32} {l4 : Int32} {h : zH} (H :
    ∃ a1 : Nat, zgf h l0 7 4 = some (.ref a1) ∧
    zE d 46 [.ref a1] h (fun r3 h2 => match r3 with
      | .inl v4 => ∃ x6 : Int32, v4 = some (.int x6) ∧ zbr (x6 ≤ l4)
        (Q (.inl (some (.int 1))) h2)
        (zE d 186 [.ref l0, .int l4, .int l2, .int l3] h2 (fun r8 h7 => match r8 with
            | .inl v9 => ∃ x11 : Int32, v9 = some (.int x11) ∧ zbr (x11 = 0)
              (Q (.inl (some (.int 0))) h7)
              (zW (zE d) zm_X7_isForced Q (27, [(0, .ref l0), (2, .int l2), (3, .int l3), (4, .int (l4 + 1))], [], h7))
            | .inr e10 => Q (.inr e10) h7))
      | .inr e5 => Q (.inr e5) h2)) : zW (zE d) zm_X7_isForced Q (27, [(0, .ref l0), (2, .int l2), (3, .int l3), (4, .int l4)], [], h) := by
  refine zq_iload (pc' := 29) rfl rfl rfl rfl ?_
  refine zq_aload (pc' := 30) rfl rfl rfl rfl ?_
  obtain ⟨a1, e0, H⟩ := H
  refine zq_getR (pc' := 33) rfl rfl rfl e0 ?_
  refine zq_calli (pc' := 36) rfl rfl rfl rfl rfl rfl (zE_mono H (fun r3 h2 H => ?_))
  rcases r3 with v4 | e5
  · obtain ⟨x6, e0, H⟩ := H
    refine Exists.intro x6 (And.intro e0 ?_)
    refine zq_icge (pc' := 39) rfl rfl rfl rfl (And.intro (fun c => ?_) (fun c => ?_))
    · have H := H.1 c
      refine zq_ipush (pc' := 59) rfl rfl rfl ?_
      exact zq_iret rfl (Or.inr rfl) H
    · have H := H.2 c
      refine zq_aload (pc' := 40) rfl rfl rfl rfl ?_
      refine zq_iload (pc' := 42) rfl rfl rfl rfl ?_
      refine zq_iload (pc' := 43) rfl rfl rfl rfl ?_
      refine zq_iload (pc' := 44) rfl rfl rfl rfl ?_
      refine zq_calli (pc' := 47) rfl rfl rfl rfl rfl rfl (zE_mono H (fun r8 h7 H => ?_))
      rcases r8 with v9 | e10
      · obtain ⟨x11, e0, H⟩ := H
        refine Exists.intro x11 (And.intro e0 ?_)
        refine zq_ifne (pc' := 50) rfl rfl rfl rfl (And.intro (fun c => ?_) (fun c => ?_))
        · have H := H.1 c
          refine zq_ipush (pc' := 51) rfl rfl rfl ?_
          exact zq_iret rfl (Or.inl rfl) H
        · have H := H.2 c
          refine zq_iinc (pc' := 55) rfl rfl rfl rfl ?_
          refine zq_goto_c (pc' := 27) rfl rfl ?_
          exact H
      · exact H
  · exact H
theorem zr_X7_isSoWithout_0 {d : Nat} {Q : zR → zH → Prop} {p0 : Nat} {h : zH} (H :
    zW (zE d) zm_X7_isSoWithout Q (2, [(0, .ref p0), (1, .int 0)], [], h)) : zW (zE d) zm_X7_isSoWithout Q (0, [(0, .ref p0)], [], h) := by
  refine zq_ipush (pc' := 1) rfl rfl rfl ?_
  refine zq_istore_c (pc' := 2) rfl rfl ?_
  exact H
theorem zr_X7_isSoWithout_2 {d : Nat} {Q : zR → zH → Prop} {l0 : Nat} {l1 : Int32} {h : zH} (H :
    ∃ a1 : Nat, zgf h l0 7 4 = some (.ref a1) ∧
    zE d 46 [.ref a1] h (fun r3 h2 => match r3 with
      | .inl v4 => ∃ x6 : Int32, v4 = some (.int x6) ∧ zbr (x6 ≤ l1)
        (Q (.inl (some (.int 1))) h2)
        (zE d 186 [.ref l0, .int l1, .int (-1), .int 0] h2 (fun r8 h7 => match r8 with
            | .inl v9 => ∃ x11 : Int32, v9 = some (.int x11) ∧ zbr (x11 = 0)
              (Q (.inl (some (.int 0))) h7)
              (zW (zE d) zm_X7_isSoWithout Q (2, [(0, .ref l0), (1, .int (l1 + 1))], [], h7))
            | .inr e10 => Q (.inr e10) h7))
      | .inr e5 => Q (.inr e5) h2)) : zW (zE d) zm_X7_isSoWithout Q (2, [(0, .ref l0), (1, .int l1)], [], h) := by
  refine zq_iload (pc' := 3) rfl rfl rfl rfl ?_
  refine zq_aload (pc' := 4) rfl rfl rfl rfl ?_
  obtain ⟨a1, e0, H⟩ := H
  refine zq_getR (pc' := 7) rfl rfl rfl e0 ?_
  refine zq_calli (pc' := 10) rfl rfl rfl rfl rfl rfl (zE_mono H (fun r3 h2 H => ?_))
  rcases r3 with v4 | e5
  · obtain ⟨x6, e0, H⟩ := H
    refine Exists.intro x6 (And.intro e0 ?_)
    refine zq_icge (pc' := 13) rfl rfl rfl rfl (And.intro (fun c => ?_) (fun c => ?_))
    · have H := H.1 c
      refine zq_ipush (pc' := 32) rfl rfl rfl ?_
      exact zq_iret rfl (Or.inr rfl) H
    · have H := H.2 c
      refine zq_aload (pc' := 14) rfl rfl rfl rfl ?_
      refine zq_iload (pc' := 15) rfl rfl rfl rfl ?_
      refine zq_ipushn (pc' := 16) rfl rfl rfl ?_
      refine zq_ipush (pc' := 17) rfl rfl rfl ?_
      refine zq_calli (pc' := 20) rfl rfl rfl rfl rfl rfl (zE_mono H (fun r8 h7 H => ?_))
      rcases r8 with v9 | e10
      · obtain ⟨x11, e0, H⟩ := H
        refine Exists.intro x11 (And.intro e0 ?_)
        refine zq_ifne (pc' := 23) rfl rfl rfl rfl (And.intro (fun c => ?_) (fun c => ?_))
        · have H := H.1 c
          refine zq_ipush (pc' := 24) rfl rfl rfl ?_
          exact zq_iret rfl (Or.inl rfl) H
        · have H := H.2 c
          refine zq_iinc (pc' := 28) rfl rfl rfl rfl ?_
          refine zq_goto_c (pc' := 2) rfl rfl ?_
          exact H
      · exact H
  · exact H
theorem zr_X7_notedSo_0 {d : Nat} {Q : zR → zH → Prop} {p0 : Nat} {p1 : Int32} {p2 : Int32} {p3 : Int32} {h : zH} (H :
    ∃ a1 : Nat, zgf h p0 7 6 = some (.ref a1) ∧
    zE d 31 [.ref a1, .int p1] h (fun r3 h2 => match r3 with
      | .inl v4 => ∃ x6 : Int32, v4 = some (.int x6) ∧ zE d 207 [.ref p0, .int p1] h2 (fun r8 h7 => match r8 with
          | .inl v9 => ∃ a11 : Nat, v9 = some (.ref a11) ∧ zW (zE d) zm_X7_notedSo Q (20, [(0, .ref p0), (1, .int p1), (2, .int p2), (3, .int p3), (4, .int x6), (5, .ref a11), (6, .int 0)], [], h7)
          | .inr e10 => Q (.inr e10) h7)
      | .inr e5 => Q (.inr e5) h2)) : zW (zE d) zm_X7_notedSo Q (0, [(0, .ref p0), (1, .int p1), (2, .int p2), (3, .int p3)], [], h) := by
  refine zq_aload (pc' := 1) rfl rfl rfl rfl ?_
  obtain ⟨a1, e0, H⟩ := H
  refine zq_getR (pc' := 4) rfl rfl rfl e0 ?_
  refine zq_iload (pc' := 5) rfl rfl rfl rfl ?_
  refine zq_calli (pc' := 8) rfl rfl rfl rfl rfl rfl (zE_mono H (fun r3 h2 H => ?_))
  rcases r3 with v4 | e5
  · obtain ⟨x6, e0, H⟩ := H
    refine Exists.intro x6 (And.intro e0 ?_)
    refine zq_istore (pc' := 10) rfl rfl rfl ?_
    refine zq_aload (pc' := 11) rfl rfl rfl rfl ?_
    refine zq_iload (pc' := 12) rfl rfl rfl rfl ?_
    refine zq_callr (pc' := 15) rfl rfl rfl rfl rfl rfl (zE_mono H (fun r8 h7 H => ?_))
    rcases r8 with v9 | e10
    · obtain ⟨a11, e0, H⟩ := H
      refine Exists.intro a11 (And.intro e0 ?_)
      refine zq_astore (pc' := 17) rfl rfl rfl ?_
      refine zq_ipush (pc' := 18) rfl rfl rfl ?_
      refine zq_istore_c (pc' := 20) rfl rfl ?_
      exact H
    · exact H
  · exact H
theorem zr_X7_notedSo_20 {d : Nat} {Q : zR → zH → Prop} {l0 : Nat} {l1 : Int32} {l2 : Int32} {l3 : Int32} {l4 : Int32} {l5 : Nat} {l6 : Int32} {h : zH} (H :
    zbr (l4 < l6)
    (Q (.inl (some (.int 1))) h)
    (∃ a1 : Nat, zgf h l0 7 6 = some (.ref a1) ∧
      zE d 115 [.ref l5] h (fun r3 h2 => match r3 with
        | .inl v4 => ∃ x6 : Int32, v4 = some (.int x6) ∧ zE d 32 [.ref a1, .int l1, .int l6, .int x6] h2 (fun r8 h7 => match r8 with
            | .inl v9 => ∃ x11 : Int32, v9 = some (.int x11) ∧ zbr (x11 = 0)
              (Q (.inl (some (.int 0))) h7)
              (∃ a12 : Nat, zgf h7 l0 7 4 = some (.ref a12) ∧
                zE d 49 [.ref a12] h7 (fun r14 h13 => match r14 with
                  | .inl v15 => ∃ x17 : Int32, v15 = some (.int x17) ∧ zbr (l4 ≤ l6)
                    (zW (zE d) zm_X7_notedSo Q (20, [(0, .ref l0), (1, .int l1), (2, .int l2), (3, .int l3), (4, .int l4), (5, .ref l5), (6, .int (l6 + 1))], [], h13))
                    (∃ a18 : Nat, zgf h13 l0 7 4 = some (.ref a18) ∧
                      ∃ a19 : Nat, zgf h13 l0 7 4 = some (.ref a19) ∧
                      zE d 54 [.ref a19, .int (x17 + l6), .int l2, .int l3] h13 (fun r21 h20 => match r21 with
                        | .inl v22 => ∃ x24 : Int32, v22 = some (.int x24) ∧ zE d 58 [.ref a18, .ref l5, .int x24, .int (x17 + l6)] h20 (fun r26 h25 => match r26 with
                            | .inl v27 => ∃ x29 : Int32, v27 = some (.int x29) ∧ zW (zE d) zm_X7_notedSo Q (20, [(0, .ref l0), (1, .int l1), (2, .int l2), (3, .int l3), (4, .int l4), (5, .ref l5), (6, .int (l6 + 1))], [], h25)
                            | .inr e28 => Q (.inr e28) h25)
                        | .inr e23 => Q (.inr e23) h20))
                  | .inr e16 => Q (.inr e16) h13))
            | .inr e10 => Q (.inr e10) h7)
        | .inr e5 => Q (.inr e5) h2))) : zW (zE d) zm_X7_notedSo Q (20, [(0, .ref l0), (1, .int l1), (2, .int l2), (3, .int l3), (4, .int l4), (5, .ref l5), (6, .int l6)], [], h) := by
  refine zq_iload (pc' := 22) rfl rfl rfl rfl ?_
  refine zq_iload (pc' := 24) rfl rfl rfl rfl ?_
  refine zq_icgt (pc' := 27) rfl rfl rfl rfl (And.intro (fun c => ?_) (fun c => ?_))
  · have H := H.1 c
    refine zq_ipush (pc' := 96) rfl rfl rfl ?_
    exact zq_iret rfl (Or.inr rfl) H
  · have H := H.2 c
    refine zq_aload (pc' := 28) rfl rfl rfl rfl ?_
    obtain ⟨a1, e0, H⟩ := H
    refine zq_getR (pc' := 31) rfl rfl rfl e0 ?_
    refine zq_iload (pc' := 32) rfl rfl rfl rfl ?_
    refine zq_iload (pc' := 34) rfl rfl rfl rfl ?_
    refine zq_aload (pc' := 36) rfl rfl rfl rfl ?_
    refine zq_calli (pc' := 39) rfl rfl rfl rfl rfl rfl (zE_mono H (fun r3 h2 H => ?_))
    rcases r3 with v4 | e5
    · obtain ⟨x6, e0, H⟩ := H
      refine Exists.intro x6 (And.intro e0 ?_)
      refine zq_calli (pc' := 42) rfl rfl rfl rfl rfl rfl (zE_mono H (fun r8 h7 H => ?_))
      rcases r8 with v9 | e10
      · obtain ⟨x11, e0, H⟩ := H
        refine Exists.intro x11 (And.intro e0 ?_)
        refine zq_ifne (pc' := 45) rfl rfl rfl rfl (And.intro (fun c => ?_) (fun c => ?_))
        · have H := H.1 c
          refine zq_ipush (pc' := 46) rfl rfl rfl ?_
          exact zq_iret rfl (Or.inl rfl) H
        · have H := H.2 c
          refine zq_aload (pc' := 48) rfl rfl rfl rfl ?_
          obtain ⟨a12, e0, H⟩ := H
          refine zq_getR (pc' := 51) rfl rfl rfl e0 ?_
          refine zq_calli (pc' := 54) rfl rfl rfl rfl rfl rfl (zE_mono H (fun r14 h13 H => ?_))
          rcases r14 with v15 | e16
          · obtain ⟨x17, e0, H⟩ := H
            refine Exists.intro x17 (And.intro e0 ?_)
            refine zq_iload (pc' := 56) rfl rfl rfl rfl ?_
            refine zq_iadd (pc' := 57) rfl rfl rfl ?_
            refine zq_istore (pc' := 59) rfl rfl rfl ?_
            refine zq_iload (pc' := 61) rfl rfl rfl rfl ?_
            refine zq_iload (pc' := 63) rfl rfl rfl rfl ?_
            refine zq_icge (pc' := 66) rfl rfl rfl rfl (And.intro (fun c => ?_) (fun c => ?_))
            · have H := H.1 c
              refine zq_iinc (pc' := 92) rfl rfl rfl rfl ?_
              refine zq_goto_c (pc' := 20) rfl rfl ?_
              exact H
            · have H := H.2 c
              refine zq_aload (pc' := 67) rfl rfl rfl rfl ?_
              obtain ⟨a18, e0, H⟩ := H
              refine zq_getR (pc' := 70) rfl rfl rfl e0 ?_
              refine zq_aload (pc' := 72) rfl rfl rfl rfl ?_
              refine zq_aload (pc' := 73) rfl rfl rfl rfl ?_
              obtain ⟨a19, e0, H⟩ := H
              refine zq_getR (pc' := 76) rfl rfl rfl e0 ?_
              refine zq_iload (pc' := 78) rfl rfl rfl rfl ?_
              refine zq_iload (pc' := 79) rfl rfl rfl rfl ?_
              refine zq_iload (pc' := 80) rfl rfl rfl rfl ?_
              refine zq_calli (pc' := 83) rfl rfl rfl rfl rfl rfl (zE_mono H (fun r21 h20 H => ?_))
              rcases r21 with v22 | e23
              · obtain ⟨x24, e0, H⟩ := H
                refine Exists.intro x24 (And.intro e0 ?_)
                refine zq_iload (pc' := 85) rfl rfl rfl rfl ?_
                refine zq_calli (pc' := 88) rfl rfl rfl rfl rfl rfl (zE_mono H (fun r26 h25 H => ?_))
                rcases r26 with v27 | e28
                · obtain ⟨x29, e0, H⟩ := H
                  refine Exists.intro x29 (And.intro e0 ?_)
                  refine zq_pop (pc' := 89) rfl rfl rfl rfl ?_
                  refine zq_iinc (pc' := 92) rfl rfl rfl rfl ?_
                  refine zq_goto_c (pc' := 20) rfl rfl ?_
                  exact H
                · exact H
              · exact H
          · exact H
      · exact H
    · exact H
theorem zr_X7_look_0 {d : Nat} {Q : zR → zH → Prop} {p0 : Nat} {p1 : Int32} {h : zH} (H :
    zE d 204 [.int p1, .int 2] h (fun r2 h1 => match r2 with
      | .inl v3 => v3 = none ∧ zE d 188 [.ref p0] h1 (fun r6 h5 => match r6 with
          | .inl v7 => v7 = none ∧ zW (zE d) zm_X7_look Q (16, [(0, .ref p0), (1, .int p1), (2, .int 0), (3, .int (-1)), (4, .int 0)], [], h5)
          | .inr e8 => Q (.inr e8) h5)
      | .inr e4 => Q (.inr e4) h1)) : zW (zE d) zm_X7_look Q (0, [(0, .ref p0), (1, .int p1)], [], h) := by
  refine zq_iload (pc' := 1) rfl rfl rfl rfl ?_
  refine zq_ipush (pc' := 2) rfl rfl rfl ?_
  refine zq_callv (pc' := 5) rfl rfl rfl rfl rfl rfl (zE_mono H (fun r2 h1 H => ?_))
  rcases r2 with v3 | e4
  · obtain ⟨e0, H⟩ := H
    refine And.intro e0 ?_
    refine zq_aload (pc' := 6) rfl rfl rfl rfl ?_
    refine zq_callv (pc' := 9) rfl rfl rfl rfl rfl rfl (zE_mono H (fun r6 h5 H => ?_))
    rcases r6 with v7 | e8
    · obtain ⟨e0, H⟩ := H
      refine And.intro e0 ?_
      refine zq_ipush (pc' := 10) rfl rfl rfl ?_
      refine zq_istore (pc' := 11) rfl rfl rfl ?_
      refine zq_ipushn (pc' := 12) rfl rfl rfl ?_
      refine zq_istore (pc' := 13) rfl rfl rfl ?_
      refine zq_ipush (pc' := 14) rfl rfl rfl ?_
      refine zq_istore_c (pc' := 16) rfl rfl ?_
      exact H
    · exact H
  · exact H
theorem zr_X7_look_16 {d : Nat} {Q : zR → zH → Prop} {l0 : Nat} {l1 : Int32} {l2 : Int32} {l3 : Int32} {l4 : Int32} {h : zH} (H :
    ∃ a1 : Nat, zgf h l0 7 4 = some (.ref a1) ∧
    zE d 46 [.ref a1] h (fun r3 h2 => match r3 with
      | .inl v4 => ∃ x6 : Int32, v4 = some (.int x6) ∧ zbr (x6 ≤ l4)
        (zbr (l1 = 0)
          (Q (.inl (some (.int l3))) h2)
          (Q (.inl (some (.int l2))) h2))
        (∃ a7 : Nat, zgf h2 l0 7 10 = some (.ref a7) ∧
          ∃ x8, zal h2 a7 = some x8 ∧
          zbr (x8 ≤ l4)
          (zbr (l1 = 0)
            (Q (.inl (some (.int l3))) h2)
            (Q (.inl (some (.int l2))) h2))
          (∃ a9 : Nat, zgf h2 l0 7 10 = some (.ref a9) ∧
            ∃ x10, zia h2 a9 l4 = some x10 ∧
            zE d 0 [.int x10] h2 (fun r12 h11 => match r12 with
              | .inl v13 => ∃ x15 : Int32, v13 = some (.int x15) ∧ zbr (x15 ≤ l2)
                (zW (zE d) zm_X7_look Q (16, [(0, .ref l0), (1, .int l1), (2, .int l2), (3, .int l3), (4, .int (l4 + 1))], [], h11))
                (zW (zE d) zm_X7_look Q (16, [(0, .ref l0), (1, .int l1), (2, .int x15), (3, .int l4), (4, .int (l4 + 1))], [], h11))
              | .inr e14 => Q (.inr e14) h11)))
      | .inr e5 => Q (.inr e5) h2)) : zW (zE d) zm_X7_look Q (16, [(0, .ref l0), (1, .int l1), (2, .int l2), (3, .int l3), (4, .int l4)], [], h) := by
  refine zq_iload (pc' := 18) rfl rfl rfl rfl ?_
  refine zq_aload (pc' := 19) rfl rfl rfl rfl ?_
  obtain ⟨a1, e0, H⟩ := H
  refine zq_getR (pc' := 22) rfl rfl rfl e0 ?_
  refine zq_calli (pc' := 25) rfl rfl rfl rfl rfl rfl (zE_mono H (fun r3 h2 H => ?_))
  rcases r3 with v4 | e5
  · obtain ⟨x6, e0, H⟩ := H
    refine Exists.intro x6 (And.intro e0 ?_)
    refine zq_icge (pc' := 28) rfl rfl rfl rfl (And.intro (fun c => ?_) (fun c => ?_))
    · have H := H.1 c
      refine zq_iload (pc' := 69) rfl rfl rfl rfl ?_
      refine zq_ifne (pc' := 72) rfl rfl rfl rfl (And.intro (fun c => ?_) (fun c => ?_))
      · have H := H.1 c
        refine zq_iload (pc' := 73) rfl rfl rfl rfl ?_
        refine zq_goto (pc' := 77) rfl rfl rfl ?_
        exact zq_iret rfl trivial H
      · have H := H.2 c
        refine zq_iload (pc' := 77) rfl rfl rfl rfl ?_
        exact zq_iret rfl trivial H
    · have H := H.2 c
      refine zq_iload (pc' := 30) rfl rfl rfl rfl ?_
      refine zq_aload (pc' := 31) rfl rfl rfl rfl ?_
      obtain ⟨a7, e0, H⟩ := H
      refine zq_getR (pc' := 34) rfl rfl rfl e0 ?_
      obtain ⟨x8, e0, H⟩ := H
      refine zq_alen (pc' := 35) rfl rfl rfl e0 ?_
      refine zq_icge (pc' := 38) rfl rfl rfl rfl (And.intro (fun c => ?_) (fun c => ?_))
      · have H := H.1 c
        refine zq_iload (pc' := 69) rfl rfl rfl rfl ?_
        refine zq_ifne (pc' := 72) rfl rfl rfl rfl (And.intro (fun c => ?_) (fun c => ?_))
        · have H := H.1 c
          refine zq_iload (pc' := 73) rfl rfl rfl rfl ?_
          refine zq_goto (pc' := 77) rfl rfl rfl ?_
          exact zq_iret rfl trivial H
        · have H := H.2 c
          refine zq_iload (pc' := 77) rfl rfl rfl rfl ?_
          exact zq_iret rfl trivial H
      · have H := H.2 c
        refine zq_aload (pc' := 39) rfl rfl rfl rfl ?_
        obtain ⟨a9, e0, H⟩ := H
        refine zq_getR (pc' := 42) rfl rfl rfl e0 ?_
        refine zq_iload (pc' := 44) rfl rfl rfl rfl ?_
        obtain ⟨x10, e0, H⟩ := H
        refine zq_iald (pc' := 45) rfl rfl rfl e0 ?_
        refine zq_calli (pc' := 48) rfl rfl rfl rfl rfl rfl (zE_mono H (fun r12 h11 H => ?_))
        rcases r12 with v13 | e14
        · obtain ⟨x15, e0, H⟩ := H
          refine Exists.intro x15 (And.intro e0 ?_)
          refine zq_istore (pc' := 50) rfl rfl rfl ?_
          refine zq_iload (pc' := 52) rfl rfl rfl rfl ?_
          refine zq_iload (pc' := 53) rfl rfl rfl rfl ?_
          refine zq_icle (pc' := 56) rfl rfl rfl rfl (And.intro (fun c => ?_) (fun c => ?_))
          · have H := H.1 c
            refine zq_iinc (pc' := 65) rfl rfl rfl rfl ?_
            refine zq_goto_c (pc' := 16) rfl rfl ?_
            exact H
          · have H := H.2 c
            refine zq_iload (pc' := 58) rfl rfl rfl rfl ?_
            refine zq_istore (pc' := 59) rfl rfl rfl ?_
            refine zq_iload (pc' := 61) rfl rfl rfl rfl ?_
            refine zq_istore (pc' := 62) rfl rfl rfl ?_
            refine zq_iinc (pc' := 65) rfl rfl rfl rfl ?_
            refine zq_goto_c (pc' := 16) rfl rfl ?_
            exact H
        · exact H
  · exact H
theorem zr_X7_seeNumbers_0 {d : Nat} {Q : zR → zH → Prop} {p0 : Nat} {h : zH} (H :
    zW (zE d) zm_X7_seeNumbers Q (2, [(0, .ref p0), (1, .int 0)], [], h)) : zW (zE d) zm_X7_seeNumbers Q (0, [(0, .ref p0)], [], h) := by
  refine zq_ipush (pc' := 1) rfl rfl rfl ?_
  refine zq_istore_c (pc' := 2) rfl rfl ?_
  exact H
theorem zr_X7_seeNumbers_2 {d : Nat} {Q : zR → zH → Prop} {l0 : Nat} {l1 : Int32} {h : zH} (H :
    ∃ a1 : Nat, zgf h l0 7 10 = some (.ref a1) ∧
    ∃ x2, zal h a1 = some x2 ∧
    zbr (x2 ≤ l1)
    (zW (zE d) zm_X7_seeNumbers Q (26, [(0, .ref l0), (1, .int 0)], [], h))
    (∃ a3 : Nat, zgf h l0 7 10 = some (.ref a3) ∧
      ∃ h4, zis h a3 l1 0 = some h4 ∧
      zW (zE d) zm_X7_seeNumbers Q (2, [(0, .ref l0), (1, .int (l1 + 1))], [], h4))) : zW (zE d) zm_X7_seeNumbers Q (2, [(0, .ref l0), (1, .int l1)], [], h) := by
  refine zq_iload (pc' := 3) rfl rfl rfl rfl ?_
  refine zq_aload (pc' := 4) rfl rfl rfl rfl ?_
  obtain ⟨a1, e0, H⟩ := H
  refine zq_getR (pc' := 7) rfl rfl rfl e0 ?_
  obtain ⟨x2, e0, H⟩ := H
  refine zq_alen (pc' := 8) rfl rfl rfl e0 ?_
  refine zq_icge (pc' := 11) rfl rfl rfl rfl (And.intro (fun c => ?_) (fun c => ?_))
  · have H := H.1 c
    refine zq_ipush (pc' := 25) rfl rfl rfl ?_
    refine zq_istore_c (pc' := 26) rfl rfl ?_
    exact H
  · have H := H.2 c
    refine zq_aload (pc' := 12) rfl rfl rfl rfl ?_
    obtain ⟨a3, e0, H⟩ := H
    refine zq_getR (pc' := 15) rfl rfl rfl e0 ?_
    refine zq_iload (pc' := 16) rfl rfl rfl rfl ?_
    refine zq_ipush (pc' := 17) rfl rfl rfl ?_
    obtain ⟨h4, e0, H⟩ := H
    refine zq_iast (pc' := 18) rfl rfl rfl e0 ?_
    refine zq_iinc (pc' := 21) rfl rfl rfl rfl ?_
    refine zq_goto_c (pc' := 2) rfl rfl ?_
    exact H
theorem zr_X7_seeNumbers_26 {d : Nat} {Q : zR → zH → Prop} {l0 : Nat} {l1 : Int32} {h : zH} (H :
    ∃ a1 : Nat, zgf h l0 7 4 = some (.ref a1) ∧
    zE d 51 [.ref a1] h (fun r3 h2 => match r3 with
      | .inl v4 => ∃ x6 : Int32, v4 = some (.int x6) ∧ zbr ((10 * x6) ≤ l1)
        (Q (.inl none) h2)
        (zE d 184 [.ref l0, .int l1] h2 (fun r8 h7 => match r8 with
            | .inl v9 => ∃ x11 : Int32, v9 = some (.int x11) ∧ zbr (x11 = 0)
              (zW (zE d) zm_X7_seeNumbers Q (26, [(0, .ref l0), (1, .int (l1 + 1))], [], h7))
              (zW (zE d) zm_X7_seeNumbers Q (50, [(0, .ref l0), (1, .int l1), (2, .int 0)], [], h7))
            | .inr e10 => Q (.inr e10) h7))
      | .inr e5 => Q (.inr e5) h2)) : zW (zE d) zm_X7_seeNumbers Q (26, [(0, .ref l0), (1, .int l1)], [], h) := by
  refine zq_iload (pc' := 27) rfl rfl rfl rfl ?_
  refine zq_ipush (pc' := 29) rfl rfl rfl ?_
  refine zq_aload (pc' := 30) rfl rfl rfl rfl ?_
  obtain ⟨a1, e0, H⟩ := H
  refine zq_getR (pc' := 33) rfl rfl rfl e0 ?_
  refine zq_calli (pc' := 36) rfl rfl rfl rfl rfl rfl (zE_mono H (fun r3 h2 H => ?_))
  rcases r3 with v4 | e5
  · obtain ⟨x6, e0, H⟩ := H
    refine Exists.intro x6 (And.intro e0 ?_)
    refine zq_imul (pc' := 37) rfl rfl rfl ?_
    refine zq_icge (pc' := 40) rfl rfl rfl rfl (And.intro (fun c => ?_) (fun c => ?_))
    · have H := H.1 c
      exact zq_vret rfl H
    · have H := H.2 c
      refine zq_aload (pc' := 41) rfl rfl rfl rfl ?_
      refine zq_iload (pc' := 42) rfl rfl rfl rfl ?_
      refine zq_calli (pc' := 45) rfl rfl rfl rfl rfl rfl (zE_mono H (fun r8 h7 H => ?_))
      rcases r8 with v9 | e10
      · obtain ⟨x11, e0, H⟩ := H
        refine Exists.intro x11 (And.intro e0 ?_)
        refine zq_ifeq (pc' := 48) rfl rfl rfl rfl (And.intro (fun c => ?_) (fun c => ?_))
        · have H := H.1 c
          refine zq_iinc (pc' := 103) rfl rfl rfl rfl ?_
          refine zq_goto_c (pc' := 26) rfl rfl ?_
          exact H
        · have H := H.2 c
          refine zq_ipush (pc' := 49) rfl rfl rfl ?_
          refine zq_istore_c (pc' := 50) rfl rfl ?_
          exact H
      · exact H
  · exact H
theorem zr_X7_seeNumbers_50 {d : Nat} {Q : zR → zH → Prop} {l0 : Nat} {l1 : Int32} {l2 : Int32} {h : zH} (H :
    ∃ a1 : Nat, zgf h l0 7 4 = some (.ref a1) ∧
    zE d 46 [.ref a1] h (fun r3 h2 => match r3 with
      | .inl v4 => ∃ x6 : Int32, v4 = some (.int x6) ∧ zbr (x6 ≤ l2)
        (zW (zE d) zm_X7_seeNumbers Q (26, [(0, .ref l0), (1, .int (l1 + 1))], [], h2))
        (∃ a7 : Nat, zgf h2 l0 7 10 = some (.ref a7) ∧
          ∃ x8, zal h2 a7 = some x8 ∧
          zbr (x8 ≤ l2)
          (zW (zE d) zm_X7_seeNumbers Q (26, [(0, .ref l0), (1, .int (l1 + 1))], [], h2))
          (∃ a9 : Nat, zgf h2 l0 7 10 = some (.ref a9) ∧
            ∃ x10, zia h2 a9 l2 = some x10 ∧
            zE d 189 [.ref l0, .int l2, .int (l1 / 10), .int (l1 - l1 / 10 * 10)] h2 (fun r12 h11 => match r12 with
              | .inl v13 => ∃ x15 : Int32, v13 = some (.int x15) ∧ ∃ h16, zis h11 a9 l2 (x10 ||| (1 <<< (x15 &&& 31))) = some h16 ∧
                zW (zE d) zm_X7_seeNumbers Q (50, [(0, .ref l0), (1, .int l1), (2, .int (l2 + 1))], [], h16)
              | .inr e14 => Q (.inr e14) h11)))
      | .inr e5 => Q (.inr e5) h2)) : zW (zE d) zm_X7_seeNumbers Q (50, [(0, .ref l0), (1, .int l1), (2, .int l2)], [], h) := by
  refine zq_iload (pc' := 51) rfl rfl rfl rfl ?_
  refine zq_aload (pc' := 52) rfl rfl rfl rfl ?_
  obtain ⟨a1, e0, H⟩ := H
  refine zq_getR (pc' := 55) rfl rfl rfl e0 ?_
  refine zq_calli (pc' := 58) rfl rfl rfl rfl rfl rfl (zE_mono H (fun r3 h2 H => ?_))
  rcases r3 with v4 | e5
  · obtain ⟨x6, e0, H⟩ := H
    refine Exists.intro x6 (And.intro e0 ?_)
    refine zq_icge (pc' := 61) rfl rfl rfl rfl (And.intro (fun c => ?_) (fun c => ?_))
    · have H := H.1 c
      refine zq_iinc (pc' := 103) rfl rfl rfl rfl ?_
      refine zq_goto_c (pc' := 26) rfl rfl ?_
      exact H
    · have H := H.2 c
      refine zq_iload (pc' := 62) rfl rfl rfl rfl ?_
      refine zq_aload (pc' := 63) rfl rfl rfl rfl ?_
      obtain ⟨a7, e0, H⟩ := H
      refine zq_getR (pc' := 66) rfl rfl rfl e0 ?_
      obtain ⟨x8, e0, H⟩ := H
      refine zq_alen (pc' := 67) rfl rfl rfl e0 ?_
      refine zq_icge (pc' := 70) rfl rfl rfl rfl (And.intro (fun c => ?_) (fun c => ?_))
      · have H := H.1 c
        refine zq_iinc (pc' := 103) rfl rfl rfl rfl ?_
        refine zq_goto_c (pc' := 26) rfl rfl ?_
        exact H
      · have H := H.2 c
        refine zq_aload (pc' := 71) rfl rfl rfl rfl ?_
        obtain ⟨a9, e0, H⟩ := H
        refine zq_getR (pc' := 74) rfl rfl rfl e0 ?_
        refine zq_iload (pc' := 75) rfl rfl rfl rfl ?_
        refine zq_dup2 (pc' := 76) rfl rfl rfl rfl rfl ?_
        obtain ⟨x10, e0, H⟩ := H
        refine zq_iald (pc' := 77) rfl rfl rfl e0 ?_
        refine zq_ipush (pc' := 78) rfl rfl rfl ?_
        refine zq_aload (pc' := 79) rfl rfl rfl rfl ?_
        refine zq_iload (pc' := 80) rfl rfl rfl rfl ?_
        refine zq_iload (pc' := 81) rfl rfl rfl rfl ?_
        refine zq_ipush (pc' := 83) rfl rfl rfl ?_
        refine zq_idiv (pc' := 84) rfl rfl rfl (by decide) ?_
        refine zq_iload (pc' := 85) rfl rfl rfl rfl ?_
        refine zq_ipush (pc' := 87) rfl rfl rfl ?_
        refine zq_irem (pc' := 88) rfl rfl rfl (by decide) ?_
        refine zq_calli (pc' := 91) rfl rfl rfl rfl rfl rfl (zE_mono H (fun r12 h11 H => ?_))
        rcases r12 with v13 | e14
        · obtain ⟨x15, e0, H⟩ := H
          refine Exists.intro x15 (And.intro e0 ?_)
          refine zq_ishl (pc' := 92) rfl rfl rfl ?_
          refine zq_ior (pc' := 93) rfl rfl rfl ?_
          obtain ⟨h16, e0, H⟩ := H
          refine zq_iast (pc' := 94) rfl rfl rfl e0 ?_
          refine zq_iinc (pc' := 97) rfl rfl rfl rfl ?_
          refine zq_goto_c (pc' := 50) rfl rfl ?_
          exact H
        · exact H
  · exact H
theorem zr_X7_closedWith_0 {d : Nat} {Q : zR → zH → Prop} {p0 : Nat} {p1 : Int32} {p2 : Int32} {p3 : Int32} {h : zH} (H :
    zE d 207 [.ref p0, .int p1] h (fun r2 h1 => match r2 with
      | .inl v3 => ∃ a5 : Nat, v3 = some (.ref a5) ∧ zW (zE d) zm_X7_closedWith Q (10, [(0, .ref p0), (2, .int p2), (3, .int p3), (4, .ref a5), (5, .int 0)], [], h1)
      | .inr e4 => Q (.inr e4) h1)) : zW (zE d) zm_X7_closedWith Q (0, [(0, .ref p0), (1, .int p1), (2, .int p2), (3, .int p3)], [], h) := by
  refine zq_aload (pc' := 1) rfl rfl rfl rfl ?_
  refine zq_iload (pc' := 2) rfl rfl rfl rfl ?_
  refine zq_callr (pc' := 5) rfl rfl rfl rfl rfl rfl (zE_mono H (fun r2 h1 H => ?_))
  rcases r2 with v3 | e4
  · obtain ⟨a5, e0, H⟩ := H
    refine Exists.intro a5 (And.intro e0 ?_)
    refine zq_astore (pc' := 7) rfl rfl rfl ?_
    refine zq_ipush (pc' := 8) rfl rfl rfl ?_
    refine zq_istore_c (pc' := 10) rfl rfl ?_
    exact H
  · exact H
theorem zr_X7_closedWith_10 {d : Nat} {Q : zR → zH → Prop} {l0 : Nat} {l2 : Int32} {l3 : Int32} {l4 : Nat} {l5 : Int32} {h : zH} (H :
    zbr (6 ≤ l5)
    (zE d 116 [.ref l4] h (fun r2 h1 => match r2 with
        | .inl v3 => ∃ x5 : Int32, v3 = some (.int x5) ∧ Q (.inl (some (.int x5))) h1
        | .inr e4 => Q (.inr e4) h1))
    (∃ a6 : Nat, zgf h l0 7 4 = some (.ref a6) ∧
      zE d 49 [.ref a6] h (fun r8 h7 => match r8 with
        | .inl v9 => ∃ x11 : Int32, v9 = some (.int x11) ∧ ∃ a12 : Nat, zgf h7 l0 7 4 = some (.ref a12) ∧
          ∃ a13 : Nat, zgf h7 l0 7 4 = some (.ref a13) ∧
          zE d 54 [.ref a13, .int (x11 + l5), .int l2, .int l3] h7 (fun r15 h14 => match r15 with
            | .inl v16 => ∃ x18 : Int32, v16 = some (.int x18) ∧ zE d 58 [.ref a12, .ref l4, .int x18, .int (x11 + l5)] h14 (fun r20 h19 => match r20 with
                | .inl v21 => ∃ x23 : Int32, v21 = some (.int x23) ∧ zW (zE d) zm_X7_closedWith Q (10, [(0, .ref l0), (2, .int l2), (3, .int l3), (4, .ref l4), (5, .int (l5 + 1))], [], h19)
                | .inr e22 => Q (.inr e22) h19)
            | .inr e17 => Q (.inr e17) h14)
        | .inr e10 => Q (.inr e10) h7))) : zW (zE d) zm_X7_closedWith Q (10, [(0, .ref l0), (2, .int l2), (3, .int l3), (4, .ref l4), (5, .int l5)], [], h) := by
  refine zq_iload (pc' := 12) rfl rfl rfl rfl ?_
  refine zq_ipush (pc' := 14) rfl rfl rfl ?_
  refine zq_icge (pc' := 17) rfl rfl rfl rfl (And.intro (fun c => ?_) (fun c => ?_))
  · have H := H.1 c
    refine zq_aload (pc' := 60) rfl rfl rfl rfl ?_
    refine zq_calli (pc' := 63) rfl rfl rfl rfl rfl rfl (zE_mono H (fun r2 h1 H => ?_))
    rcases r2 with v3 | e4
    · obtain ⟨x5, e0, H⟩ := H
      refine Exists.intro x5 (And.intro e0 ?_)
      exact zq_iret rfl trivial H
    · exact H
  · have H := H.2 c
    refine zq_aload (pc' := 18) rfl rfl rfl rfl ?_
    obtain ⟨a6, e0, H⟩ := H
    refine zq_getR (pc' := 21) rfl rfl rfl e0 ?_
    refine zq_calli (pc' := 24) rfl rfl rfl rfl rfl rfl (zE_mono H (fun r8 h7 H => ?_))
    rcases r8 with v9 | e10
    · obtain ⟨x11, e0, H⟩ := H
      refine Exists.intro x11 (And.intro e0 ?_)
      refine zq_iload (pc' := 26) rfl rfl rfl rfl ?_
      refine zq_iadd (pc' := 27) rfl rfl rfl ?_
      refine zq_istore (pc' := 29) rfl rfl rfl ?_
      refine zq_aload (pc' := 30) rfl rfl rfl rfl ?_
      obtain ⟨a12, e0, H⟩ := H
      refine zq_getR (pc' := 33) rfl rfl rfl e0 ?_
      refine zq_aload (pc' := 35) rfl rfl rfl rfl ?_
      refine zq_aload (pc' := 36) rfl rfl rfl rfl ?_
      obtain ⟨a13, e0, H⟩ := H
      refine zq_getR (pc' := 39) rfl rfl rfl e0 ?_
      refine zq_iload (pc' := 41) rfl rfl rfl rfl ?_
      refine zq_iload (pc' := 42) rfl rfl rfl rfl ?_
      refine zq_iload (pc' := 43) rfl rfl rfl rfl ?_
      refine zq_calli (pc' := 46) rfl rfl rfl rfl rfl rfl (zE_mono H (fun r15 h14 H => ?_))
      rcases r15 with v16 | e17
      · obtain ⟨x18, e0, H⟩ := H
        refine Exists.intro x18 (And.intro e0 ?_)
        refine zq_iload (pc' := 48) rfl rfl rfl rfl ?_
        refine zq_calli (pc' := 51) rfl rfl rfl rfl rfl rfl (zE_mono H (fun r20 h19 H => ?_))
        rcases r20 with v21 | e22
        · obtain ⟨x23, e0, H⟩ := H
          refine Exists.intro x23 (And.intro e0 ?_)
          refine zq_pop (pc' := 52) rfl rfl rfl rfl ?_
          refine zq_iinc (pc' := 55) rfl rfl rfl rfl ?_
          refine zq_goto_c (pc' := 10) rfl rfl ?_
          exact H
        · exact H
      · exact H
    · exact H
theorem zr_X7_forget_0 {d : Nat} {Q : zR → zH → Prop} {p0 : Nat} {h : zH} (H :
    ∃ a1 : Nat, zgf h p0 7 6 = some (.ref a1) ∧
    zE d 22 [.ref a1] h (fun r3 h2 => match r3 with
      | .inl v4 => v4 = none ∧ Q (.inl none) h2
      | .inr e5 => Q (.inr e5) h2)) : zW (zE d) zm_X7_forget Q (0, [(0, .ref p0)], [], h) := by
  refine zq_aload (pc' := 1) rfl rfl rfl rfl ?_
  obtain ⟨a1, e0, H⟩ := H
  refine zq_getR (pc' := 4) rfl rfl rfl e0 ?_
  refine zq_callv (pc' := 7) rfl rfl rfl rfl rfl rfl (zE_mono H (fun r3 h2 H => ?_))
  rcases r3 with v4 | e5
  · obtain ⟨e0, H⟩ := H
    refine And.intro e0 ?_
    exact zq_vret rfl H
  · exact H
theorem zr_X7_wind_0 {d : Nat} {Q : zR → zH → Prop} {p0 : Nat} {p1 : Int32} {p2 : Int32} {p3 : Int32} {p4 : Int32} {h : zH} (H :
    zE d 201 [.ref p0, .int p1] h (fun r2 h1 => match r2 with
      | .inl v3 => ∃ a5 : Nat, v3 = some (.ref a5) ∧ zE d 202 [.ref a5, .int p2] h1 (fun r7 h6 => match r7 with
          | .inl v8 => v8 = none ∧ zE d 205 [.int p3, .int 1, .int 5] h6 (fun r11 h10 => match r11 with
              | .inl v12 => v12 = none ∧ zE d 205 [.int p4, .int 0, .int 10] h10 (fun r15 h14 => match r15 with
                  | .inl v16 => v16 = none ∧ zW (zE d) zm_X7_wind Q (29, [(0, .ref p0), (1, .int p1), (2, .int p2), (3, .int p3), (4, .int p4), (5, .int 0), (6, .int 0)], [], h14)
                  | .inr e17 => Q (.inr e17) h14)
              | .inr e13 => Q (.inr e13) h10)
          | .inr e9 => Q (.inr e9) h6)
      | .inr e4 => Q (.inr e4) h1)) : zW (zE d) zm_X7_wind Q (0, [(0, .ref p0), (1, .int p1), (2, .int p2), (3, .int p3), (4, .int p4)], [], h) := by
  refine zq_aload (pc' := 1) rfl rfl rfl rfl ?_
  refine zq_iload (pc' := 2) rfl rfl rfl rfl ?_
  refine zq_callr (pc' := 5) rfl rfl rfl rfl rfl rfl (zE_mono H (fun r2 h1 H => ?_))
  rcases r2 with v3 | e4
  · obtain ⟨a5, e0, H⟩ := H
    refine Exists.intro a5 (And.intro e0 ?_)
    refine zq_iload (pc' := 6) rfl rfl rfl rfl ?_
    refine zq_callv (pc' := 9) rfl rfl rfl rfl rfl rfl (zE_mono H (fun r7 h6 H => ?_))
    rcases r7 with v8 | e9
    · obtain ⟨e0, H⟩ := H
      refine And.intro e0 ?_
      refine zq_iload (pc' := 10) rfl rfl rfl rfl ?_
      refine zq_ipush (pc' := 11) rfl rfl rfl ?_
      refine zq_ipush (pc' := 12) rfl rfl rfl ?_
      refine zq_callv (pc' := 15) rfl rfl rfl rfl rfl rfl (zE_mono H (fun r11 h10 H => ?_))
      rcases r11 with v12 | e13
      · obtain ⟨e0, H⟩ := H
        refine And.intro e0 ?_
        refine zq_iload (pc' := 17) rfl rfl rfl rfl ?_
        refine zq_ipush (pc' := 18) rfl rfl rfl ?_
        refine zq_ipush (pc' := 20) rfl rfl rfl ?_
        refine zq_callv (pc' := 23) rfl rfl rfl rfl rfl rfl (zE_mono H (fun r15 h14 H => ?_))
        rcases r15 with v16 | e17
        · obtain ⟨e0, H⟩ := H
          refine And.intro e0 ?_
          refine zq_ipush (pc' := 24) rfl rfl rfl ?_
          refine zq_istore (pc' := 26) rfl rfl rfl ?_
          refine zq_ipush (pc' := 27) rfl rfl rfl ?_
          refine zq_istore_c (pc' := 29) rfl rfl ?_
          exact H
        · exact H
      · exact H
    · exact H
  · exact H
theorem zr_X7_wind_29 {d : Nat} {Q : zR → zH → Prop} {l0 : Nat} {l1 : Int32} {l2 : Int32} {l3 : Int32} {l4 : Int32} {l5 : Int32} {l6 : Int32} {h : zH} (H :
    zbr ((1 <<< (l3 &&& 31)) ≤ l6)
    (Q (.inl (some (.int l5))) h)
    (zE d 192 [.int l6, .int l3, .int l4] h (fun r2 h1 => match r2 with
        | .inl v3 => ∃ x5 : Int32, v3 = some (.int x5) ∧ zbr (x5 ≤ 0)
          (zW (zE d) zm_X7_wind Q (29, [(0, .ref l0), (1, .int l1), (2, .int l2), (3, .int l3), (4, .int l4), (5, .int l5), (6, .int (l6 + 1))], [], h1))
          (zE d 193 [.ref l0, .int l1, .int l2, .int l6, .int l3] h1 (fun r7 h6 => match r7 with
              | .inl v8 => ∃ x10 : Int32, v8 = some (.int x10) ∧ zbr (x10 = 0)
                (zW (zE d) zm_X7_wind Q (29, [(0, .ref l0), (1, .int l1), (2, .int l2), (3, .int l3), (4, .int l4), (5, .int l5), (6, .int (l6 + 1))], [], h6))
                (zW (zE d) zm_X7_wind Q (29, [(0, .ref l0), (1, .int l1), (2, .int l2), (3, .int l3), (4, .int l4), (5, .int (l5 + x5)), (6, .int (l6 + 1))], [], h6))
              | .inr e9 => Q (.inr e9) h6))
        | .inr e4 => Q (.inr e4) h1))) : zW (zE d) zm_X7_wind Q (29, [(0, .ref l0), (1, .int l1), (2, .int l2), (3, .int l3), (4, .int l4), (5, .int l5), (6, .int l6)], [], h) := by
  refine zq_iload (pc' := 31) rfl rfl rfl rfl ?_
  refine zq_ipush (pc' := 32) rfl rfl rfl ?_
  refine zq_iload (pc' := 33) rfl rfl rfl rfl ?_
  refine zq_ishl (pc' := 34) rfl rfl rfl ?_
  refine zq_icge (pc' := 37) rfl rfl rfl rfl (And.intro (fun c => ?_) (fun c => ?_))
  · have H := H.1 c
    refine zq_iload (pc' := 79) rfl rfl rfl rfl ?_
    exact zq_iret rfl trivial H
  · have H := H.2 c
    refine zq_iload (pc' := 39) rfl rfl rfl rfl ?_
    refine zq_iload (pc' := 40) rfl rfl rfl rfl ?_
    refine zq_iload (pc' := 42) rfl rfl rfl rfl ?_
    refine zq_calli (pc' := 45) rfl rfl rfl rfl rfl rfl (zE_mono H (fun r2 h1 H => ?_))
    rcases r2 with v3 | e4
    · obtain ⟨x5, e0, H⟩ := H
      refine Exists.intro x5 (And.intro e0 ?_)
      refine zq_istore (pc' := 47) rfl rfl rfl ?_
      refine zq_iload (pc' := 49) rfl rfl rfl rfl ?_
      refine zq_ifle (pc' := 52) rfl rfl rfl rfl (And.intro (fun c => ?_) (fun c => ?_))
      · have H := H.1 c
        refine zq_iinc (pc' := 74) rfl rfl rfl rfl ?_
        refine zq_goto_c (pc' := 29) rfl rfl ?_
        exact H
      · have H := H.2 c
        refine zq_aload (pc' := 53) rfl rfl rfl rfl ?_
        refine zq_iload (pc' := 54) rfl rfl rfl rfl ?_
        refine zq_iload (pc' := 55) rfl rfl rfl rfl ?_
        refine zq_iload (pc' := 57) rfl rfl rfl rfl ?_
        refine zq_iload (pc' := 58) rfl rfl rfl rfl ?_
        refine zq_calli (pc' := 61) rfl rfl rfl rfl rfl rfl (zE_mono H (fun r7 h6 H => ?_))
        rcases r7 with v8 | e9
        · obtain ⟨x10, e0, H⟩ := H
          refine Exists.intro x10 (And.intro e0 ?_)
          refine zq_ifeq (pc' := 64) rfl rfl rfl rfl (And.intro (fun c => ?_) (fun c => ?_))
          · have H := H.1 c
            refine zq_iinc (pc' := 74) rfl rfl rfl rfl ?_
            refine zq_goto_c (pc' := 29) rfl rfl ?_
            exact H
          · have H := H.2 c
            refine zq_iload (pc' := 66) rfl rfl rfl rfl ?_
            refine zq_iload (pc' := 68) rfl rfl rfl rfl ?_
            refine zq_iadd (pc' := 69) rfl rfl rfl ?_
            refine zq_istore (pc' := 71) rfl rfl rfl ?_
            refine zq_iinc (pc' := 74) rfl rfl rfl rfl ?_
            refine zq_goto_c (pc' := 29) rfl rfl ?_
            exact H
        · exact H
    · exact H
theorem zr_X7_weightOf_0 {d : Nat} {Q : zR → zH → Prop} {p0 : Int32} {p1 : Int32} {p2 : Int32} {h : zH} (H :
    zW (zE d) zm_X7_weightOf Q (5, [(0, .int p0), (1, .int p1), (2, .int p2), (3, .int 1), (4, .int 0)], [], h)) : zW (zE d) zm_X7_weightOf Q (0, [(0, .int p0), (1, .int p1), (2, .int p2)], [], h) := by
  refine zq_ipush (pc' := 1) rfl rfl rfl ?_
  refine zq_istore (pc' := 2) rfl rfl rfl ?_
  refine zq_ipush (pc' := 3) rfl rfl rfl ?_
  refine zq_istore_c (pc' := 5) rfl rfl ?_
  exact H
theorem zr_X7_weightOf_5 {d : Nat} {Q : zR → zH → Prop} {l0 : Int32} {l1 : Int32} {l2 : Int32} {l3 : Int32} {l4 : Int32} {h : zH} (H :
    zbr (l1 ≤ l4)
    (Q (.inl (some (.int l3))) h)
    (zbr (((l0 >>> (l4 &&& 31)) &&& 1) = 0)
      (zW (zE d) zm_X7_weightOf Q (5, [(0, .int l0), (1, .int l1), (2, .int l2), (3, .int (l3 * (10 - l2))), (4, .int (l4 + 1))], [], h))
      (zW (zE d) zm_X7_weightOf Q (5, [(0, .int l0), (1, .int l1), (2, .int l2), (3, .int (l3 * l2)), (4, .int (l4 + 1))], [], h)))) : zW (zE d) zm_X7_weightOf Q (5, [(0, .int l0), (1, .int l1), (2, .int l2), (3, .int l3), (4, .int l4)], [], h) := by
  refine zq_iload (pc' := 7) rfl rfl rfl rfl ?_
  refine zq_iload (pc' := 8) rfl rfl rfl rfl ?_
  refine zq_icge (pc' := 11) rfl rfl rfl rfl (And.intro (fun c => ?_) (fun c => ?_))
  · have H := H.1 c
    refine zq_iload (pc' := 38) rfl rfl rfl rfl ?_
    exact zq_iret rfl trivial H
  · have H := H.2 c
    refine zq_iload (pc' := 12) rfl rfl rfl rfl ?_
    refine zq_iload (pc' := 13) rfl rfl rfl rfl ?_
    refine zq_iload (pc' := 15) rfl rfl rfl rfl ?_
    refine zq_ishr (pc' := 16) rfl rfl rfl ?_
    refine zq_ipush (pc' := 17) rfl rfl rfl ?_
    refine zq_iand (pc' := 18) rfl rfl rfl ?_
    refine zq_ifeq (pc' := 21) rfl rfl rfl rfl (And.intro (fun c => ?_) (fun c => ?_))
    · have H := H.1 c
      refine zq_ipush (pc' := 27) rfl rfl rfl ?_
      refine zq_iload (pc' := 28) rfl rfl rfl rfl ?_
      refine zq_isub (pc' := 29) rfl rfl rfl ?_
      refine zq_imul (pc' := 30) rfl rfl rfl ?_
      refine zq_istore (pc' := 31) rfl rfl rfl ?_
      refine zq_iinc (pc' := 34) rfl rfl rfl rfl ?_
      refine zq_goto_c (pc' := 5) rfl rfl ?_
      exact H
    · have H := H.2 c
      refine zq_iload (pc' := 22) rfl rfl rfl rfl ?_
      refine zq_goto (pc' := 29) rfl rfl rfl ?_
      refine zq_imul (pc' := 30) rfl rfl rfl ?_
      refine zq_istore (pc' := 31) rfl rfl rfl ?_
      refine zq_iinc (pc' := 34) rfl rfl rfl rfl ?_
      refine zq_goto_c (pc' := 5) rfl rfl ?_
      exact H
theorem zr_X7_closedInWind_0 {d : Nat} {Q : zR → zH → Prop} {p0 : Nat} {p1 : Int32} {p2 : Int32} {p3 : Int32} {p4 : Int32} {h : zH} (H :
    zE d 207 [.ref p0, .int p1] h (fun r2 h1 => match r2 with
      | .inl v3 => ∃ a5 : Nat, v3 = some (.ref a5) ∧ zW (zE d) zm_X7_closedInWind Q (10, [(0, .ref p0), (2, .int p2), (3, .int p3), (4, .int p4), (5, .ref a5), (6, .int 0)], [], h1)
      | .inr e4 => Q (.inr e4) h1)) : zW (zE d) zm_X7_closedInWind Q (0, [(0, .ref p0), (1, .int p1), (2, .int p2), (3, .int p3), (4, .int p4)], [], h) := by
  refine zq_aload (pc' := 1) rfl rfl rfl rfl ?_
  refine zq_iload (pc' := 2) rfl rfl rfl rfl ?_
  refine zq_callr (pc' := 5) rfl rfl rfl rfl rfl rfl (zE_mono H (fun r2 h1 H => ?_))
  rcases r2 with v3 | e4
  · obtain ⟨a5, e0, H⟩ := H
    refine Exists.intro a5 (And.intro e0 ?_)
    refine zq_astore (pc' := 7) rfl rfl rfl ?_
    refine zq_ipush (pc' := 8) rfl rfl rfl ?_
    refine zq_istore_c (pc' := 10) rfl rfl ?_
    exact H
  · exact H
theorem zr_X7_closedInWind_10 {d : Nat} {Q : zR → zH → Prop} {l0 : Nat} {l2 : Int32} {l3 : Int32} {l4 : Int32} {l5 : Nat} {l6 : Int32} {h : zH} (H :
    zbr (l4 ≤ l6)
    (zE d 117 [.ref l5, .int l2] h (fun r2 h1 => match r2 with
        | .inl v3 => ∃ x5 : Int32, v3 = some (.int x5) ∧ (x5 = 0 ∨ x5 = 1) ∧ Q (.inl (some (.int x5))) h1
        | .inr e4 => Q (.inr e4) h1))
    (∃ a6 : Nat, zgf h l0 7 4 = some (.ref a6) ∧
      zbr (((l3 >>> (l6 &&& 31)) &&& 1) = 0)
      (∃ a7 : Nat, zgf h l0 7 4 = some (.ref a7) ∧
        zE d 49 [.ref a7] h (fun r9 h8 => match r9 with
          | .inl v10 => ∃ x12 : Int32, v10 = some (.int x12) ∧ zE d 58 [.ref a6, .ref l5, .int 0, .int (x12 + l6)] h8 (fun r14 h13 => match r14 with
              | .inl v15 => ∃ x17 : Int32, v15 = some (.int x17) ∧ zW (zE d) zm_X7_closedInWind Q (10, [(0, .ref l0), (2, .int l2), (3, .int l3), (4, .int l4), (5, .ref l5), (6, .int (l6 + 1))], [], h13)
              | .inr e16 => Q (.inr e16) h13)
          | .inr e11 => Q (.inr e11) h8))
      (∃ a18 : Nat, zgf h l0 7 4 = some (.ref a18) ∧
        zE d 49 [.ref a18] h (fun r20 h19 => match r20 with
          | .inl v21 => ∃ x23 : Int32, v21 = some (.int x23) ∧ zE d 58 [.ref a6, .ref l5, .int 9, .int (x23 + l6)] h19 (fun r25 h24 => match r25 with
              | .inl v26 => ∃ x28 : Int32, v26 = some (.int x28) ∧ zW (zE d) zm_X7_closedInWind Q (10, [(0, .ref l0), (2, .int l2), (3, .int l3), (4, .int l4), (5, .ref l5), (6, .int (l6 + 1))], [], h24)
              | .inr e27 => Q (.inr e27) h24)
          | .inr e22 => Q (.inr e22) h19)))) : zW (zE d) zm_X7_closedInWind Q (10, [(0, .ref l0), (2, .int l2), (3, .int l3), (4, .int l4), (5, .ref l5), (6, .int l6)], [], h) := by
  refine zq_iload (pc' := 12) rfl rfl rfl rfl ?_
  refine zq_iload (pc' := 14) rfl rfl rfl rfl ?_
  refine zq_icge (pc' := 17) rfl rfl rfl rfl (And.intro (fun c => ?_) (fun c => ?_))
  · have H := H.1 c
    refine zq_aload (pc' := 60) rfl rfl rfl rfl ?_
    refine zq_iload (pc' := 61) rfl rfl rfl rfl ?_
    refine zq_calli (pc' := 64) rfl rfl rfl rfl rfl rfl (zE_mono H (fun r2 h1 H => ?_))
    rcases r2 with v3 | e4
    · obtain ⟨x5, e0, H⟩ := H
      refine Exists.intro x5 (And.intro e0 ?_)
      exact zq_iret rfl H.1 H.2
    · exact H
  · have H := H.2 c
    refine zq_aload (pc' := 18) rfl rfl rfl rfl ?_
    obtain ⟨a6, e0, H⟩ := H
    refine zq_getR (pc' := 21) rfl rfl rfl e0 ?_
    refine zq_aload (pc' := 23) rfl rfl rfl rfl ?_
    refine zq_iload (pc' := 24) rfl rfl rfl rfl ?_
    refine zq_iload (pc' := 26) rfl rfl rfl rfl ?_
    refine zq_ishr (pc' := 27) rfl rfl rfl ?_
    refine zq_ipush (pc' := 28) rfl rfl rfl ?_
    refine zq_iand (pc' := 29) rfl rfl rfl ?_
    refine zq_ifeq (pc' := 32) rfl rfl rfl rfl (And.intro (fun c => ?_) (fun c => ?_))
    · have H := H.1 c
      refine zq_ipush (pc' := 38) rfl rfl rfl ?_
      refine zq_aload (pc' := 39) rfl rfl rfl rfl ?_
      obtain ⟨a7, e0, H⟩ := H
      refine zq_getR (pc' := 42) rfl rfl rfl e0 ?_
      refine zq_calli (pc' := 45) rfl rfl rfl rfl rfl rfl (zE_mono H (fun r9 h8 H => ?_))
      rcases r9 with v10 | e11
      · obtain ⟨x12, e0, H⟩ := H
        refine Exists.intro x12 (And.intro e0 ?_)
        refine zq_iload (pc' := 47) rfl rfl rfl rfl ?_
        refine zq_iadd (pc' := 48) rfl rfl rfl ?_
        refine zq_calli (pc' := 51) rfl rfl rfl rfl rfl rfl (zE_mono H (fun r14 h13 H => ?_))
        rcases r14 with v15 | e16
        · obtain ⟨x17, e0, H⟩ := H
          refine Exists.intro x17 (And.intro e0 ?_)
          refine zq_pop (pc' := 52) rfl rfl rfl rfl ?_
          refine zq_iinc (pc' := 55) rfl rfl rfl rfl ?_
          refine zq_goto_c (pc' := 10) rfl rfl ?_
          exact H
        · exact H
      · exact H
    · have H := H.2 c
      refine zq_ipush (pc' := 34) rfl rfl rfl ?_
      refine zq_goto (pc' := 38) rfl rfl rfl ?_
      refine zq_aload (pc' := 39) rfl rfl rfl rfl ?_
      obtain ⟨a18, e0, H⟩ := H
      refine zq_getR (pc' := 42) rfl rfl rfl e0 ?_
      refine zq_calli (pc' := 45) rfl rfl rfl rfl rfl rfl (zE_mono H (fun r20 h19 H => ?_))
      rcases r20 with v21 | e22
      · obtain ⟨x23, e0, H⟩ := H
        refine Exists.intro x23 (And.intro e0 ?_)
        refine zq_iload (pc' := 47) rfl rfl rfl rfl ?_
        refine zq_iadd (pc' := 48) rfl rfl rfl ?_
        refine zq_calli (pc' := 51) rfl rfl rfl rfl rfl rfl (zE_mono H (fun r25 h24 H => ?_))
        rcases r25 with v26 | e27
        · obtain ⟨x28, e0, H⟩ := H
          refine Exists.intro x28 (And.intro e0 ?_)
          refine zq_pop (pc' := 52) rfl rfl rfl rfl ?_
          refine zq_iinc (pc' := 55) rfl rfl rfl rfl ?_
          refine zq_goto_c (pc' := 10) rfl rfl ?_
          exact H
        · exact H
      · exact H
theorem zr_X7_game_0 {d : Nat} {Q : zR → zH → Prop} {p0 : Nat} {p1 : Int32} {p2 : Int32} {p3 : Int32} {h : zH} (H :
    zE d 201 [.ref p0, .int p1] h (fun r2 h1 => match r2 with
      | .inl v3 => ∃ a5 : Nat, v3 = some (.ref a5) ∧ zE d 201 [.ref p0, .int p2] h1 (fun r7 h6 => match r7 with
          | .inl v8 => ∃ a10 : Nat, v8 = some (.ref a10) ∧ zE d 204 [.int p3, .int 2] h6 (fun r12 h11 => match r12 with
              | .inl v13 => v13 = none ∧ zbr (p1 = p2)
                (∃ h15, znx h11 = some h15 ∧ Q (.inr 0) h15)
                (zE d 195 [.ref p0, .int p1, .int 1] h11 (fun r17 h16 => match r17 with
                    | .inl v18 => ∃ x20 : Int32, v18 = some (.int x20) ∧ zE d 195 [.ref p0, .int p1, .int 0] h16 (fun r22 h21 => match r22 with
                        | .inl v23 => ∃ x25 : Int32, v23 = some (.int x25) ∧ zE d 195 [.ref p0, .int p2, .int 1] h21 (fun r27 h26 => match r27 with
                            | .inl v28 => ∃ x30 : Int32, v28 = some (.int x30) ∧ zE d 195 [.ref p0, .int p2, .int 0] h26 (fun r32 h31 => match r32 with
                                | .inl v33 => ∃ x35 : Int32, v33 = some (.int x35) ∧ zW (zE d) zm_X7_game Q (72, [(3, .int p3), (4, .int (x20 - x25)), (5, .int (x30 - x35)), (6, .int 0), (7, .int (-1)), (8, .int 0)], [], h31)
                                | .inr e34 => Q (.inr e34) h31)
                            | .inr e29 => Q (.inr e29) h26)
                        | .inr e24 => Q (.inr e24) h21)
                    | .inr e19 => Q (.inr e19) h16))
              | .inr e14 => Q (.inr e14) h11)
          | .inr e9 => Q (.inr e9) h6)
      | .inr e4 => Q (.inr e4) h1)) : zW (zE d) zm_X7_game Q (0, [(0, .ref p0), (1, .int p1), (2, .int p2), (3, .int p3)], [], h) := by
  refine zq_aload (pc' := 1) rfl rfl rfl rfl ?_
  refine zq_iload (pc' := 2) rfl rfl rfl rfl ?_
  refine zq_callr (pc' := 5) rfl rfl rfl rfl rfl rfl (zE_mono H (fun r2 h1 H => ?_))
  rcases r2 with v3 | e4
  · obtain ⟨a5, e0, H⟩ := H
    refine Exists.intro a5 (And.intro e0 ?_)
    refine zq_pop (pc' := 6) rfl rfl rfl rfl ?_
    refine zq_aload (pc' := 7) rfl rfl rfl rfl ?_
    refine zq_iload (pc' := 8) rfl rfl rfl rfl ?_
    refine zq_callr (pc' := 11) rfl rfl rfl rfl rfl rfl (zE_mono H (fun r7 h6 H => ?_))
    rcases r7 with v8 | e9
    · obtain ⟨a10, e0, H⟩ := H
      refine Exists.intro a10 (And.intro e0 ?_)
      refine zq_pop (pc' := 12) rfl rfl rfl rfl ?_
      refine zq_iload (pc' := 13) rfl rfl rfl rfl ?_
      refine zq_ipush (pc' := 14) rfl rfl rfl ?_
      refine zq_callv (pc' := 17) rfl rfl rfl rfl rfl rfl (zE_mono H (fun r12 h11 H => ?_))
      rcases r12 with v13 | e14
      · obtain ⟨e0, H⟩ := H
        refine And.intro e0 ?_
        refine zq_iload (pc' := 18) rfl rfl rfl rfl ?_
        refine zq_iload (pc' := 19) rfl rfl rfl rfl ?_
        refine zq_icne (pc' := 22) rfl rfl rfl rfl (And.intro (fun c => ?_) (fun c => ?_))
        · have H := H.1 c
          obtain ⟨h15, e0, H⟩ := H
          exact zq_throw rfl rfl e0 H
        · have H := H.2 c
          refine zq_aload (pc' := 34) rfl rfl rfl rfl ?_
          refine zq_iload (pc' := 35) rfl rfl rfl rfl ?_
          refine zq_ipush (pc' := 36) rfl rfl rfl ?_
          refine zq_calli (pc' := 39) rfl rfl rfl rfl rfl rfl (zE_mono H (fun r17 h16 H => ?_))
          rcases r17 with v18 | e19
          · obtain ⟨x20, e0, H⟩ := H
            refine Exists.intro x20 (And.intro e0 ?_)
            refine zq_aload (pc' := 40) rfl rfl rfl rfl ?_
            refine zq_iload (pc' := 41) rfl rfl rfl rfl ?_
            refine zq_ipush (pc' := 42) rfl rfl rfl ?_
            refine zq_calli (pc' := 45) rfl rfl rfl rfl rfl rfl (zE_mono H (fun r22 h21 H => ?_))
            rcases r22 with v23 | e24
            · obtain ⟨x25, e0, H⟩ := H
              refine Exists.intro x25 (And.intro e0 ?_)
              refine zq_isub (pc' := 46) rfl rfl rfl ?_
              refine zq_istore (pc' := 48) rfl rfl rfl ?_
              refine zq_aload (pc' := 49) rfl rfl rfl rfl ?_
              refine zq_iload (pc' := 50) rfl rfl rfl rfl ?_
              refine zq_ipush (pc' := 51) rfl rfl rfl ?_
              refine zq_calli (pc' := 54) rfl rfl rfl rfl rfl rfl (zE_mono H (fun r27 h26 H => ?_))
              rcases r27 with v28 | e29
              · obtain ⟨x30, e0, H⟩ := H
                refine Exists.intro x30 (And.intro e0 ?_)
                refine zq_aload (pc' := 55) rfl rfl rfl rfl ?_
                refine zq_iload (pc' := 56) rfl rfl rfl rfl ?_
                refine zq_ipush (pc' := 57) rfl rfl rfl ?_
                refine zq_calli (pc' := 60) rfl rfl rfl rfl rfl rfl (zE_mono H (fun r32 h31 H => ?_))
                rcases r32 with v33 | e34
                · obtain ⟨x35, e0, H⟩ := H
                  refine Exists.intro x35 (And.intro e0 ?_)
                  refine zq_isub (pc' := 61) rfl rfl rfl ?_
                  refine zq_istore (pc' := 63) rfl rfl rfl ?_
                  refine zq_ipush (pc' := 64) rfl rfl rfl ?_
                  refine zq_istore (pc' := 66) rfl rfl rfl ?_
                  refine zq_ipushn (pc' := 67) rfl rfl rfl ?_
                  refine zq_istore (pc' := 69) rfl rfl rfl ?_
                  refine zq_ipush (pc' := 70) rfl rfl rfl ?_
                  refine zq_istore_c (pc' := 72) rfl rfl ?_
                  exact H
                · exact H
              · exact H
            · exact H
          · exact H
      · exact H
    · exact H
  · exact H
theorem zr_X7_game_72 {d : Nat} {Q : zR → zH → Prop} {l3 : Int32} {l4 : Int32} {l5 : Int32} {l6 : Int32} {l7 : Int32} {l8 : Int32} {h : zH} (H :
    zbr (1 < l8)
    (zbr (l3 = 0)
      (Q (.inl (some (.int l6))) h)
      (Q (.inl (some (.int l7))) h))
    (zW (zE d) zm_X7_game Q (81, [(3, .int l3), (4, .int l4), (5, .int l5), (6, .int l6), (7, .int l7), (8, .int l8), (9, .int 0)], [], h))) : zW (zE d) zm_X7_game Q (72, [(3, .int l3), (4, .int l4), (5, .int l5), (6, .int l6), (7, .int l7), (8, .int l8)], [], h) := by
  refine zq_iload (pc' := 74) rfl rfl rfl rfl ?_
  refine zq_ipush (pc' := 75) rfl rfl rfl ?_
  refine zq_icgt (pc' := 78) rfl rfl rfl rfl (And.intro (fun c => ?_) (fun c => ?_))
  · have H := H.1 c
    refine zq_iload (pc' := 143) rfl rfl rfl rfl ?_
    refine zq_ifne (pc' := 146) rfl rfl rfl rfl (And.intro (fun c => ?_) (fun c => ?_))
    · have H := H.1 c
      refine zq_iload (pc' := 148) rfl rfl rfl rfl ?_
      refine zq_goto (pc' := 153) rfl rfl rfl ?_
      exact zq_iret rfl trivial H
    · have H := H.2 c
      refine zq_iload (pc' := 153) rfl rfl rfl rfl ?_
      exact zq_iret rfl trivial H
  · have H := H.2 c
    refine zq_ipush (pc' := 79) rfl rfl rfl ?_
    refine zq_istore_c (pc' := 81) rfl rfl ?_
    exact H
theorem zr_X7_game_81 {d : Nat} {Q : zR → zH → Prop} {l3 : Int32} {l4 : Int32} {l5 : Int32} {l6 : Int32} {l7 : Int32} {l8 : Int32} {l9 : Int32} {h : zH} (H :
    zbr (1 < l9)
    (zW (zE d) zm_X7_game Q (72, [(3, .int l3), (4, .int l4), (5, .int l5), (6, .int l6), (7, .int l7), (8, .int (l8 + 1))], [], h))
    (zE d 196 [.int l8, .int l4] h (fun r2 h1 => match r2 with
        | .inl v3 => ∃ x5 : Int32, v3 = some (.int x5) ∧ zbr (x5 = 0)
          (zW (zE d) zm_X7_game Q (81, [(3, .int l3), (4, .int l4), (5, .int l5), (6, .int l6), (7, .int l7), (8, .int l8), (9, .int (l9 + 1))], [], h1))
          (zE d 196 [.int l9, .int l5] h1 (fun r7 h6 => match r7 with
              | .inl v8 => ∃ x10 : Int32, v8 = some (.int x10) ∧ zbr (x10 = 0)
                (zW (zE d) zm_X7_game Q (81, [(3, .int l3), (4, .int l4), (5, .int l5), (6, .int l6), (7, .int l7), (8, .int l8), (9, .int (l9 + 1))], [], h6))
                (zbr (l6 = 0)
                  (zW (zE d) zm_X7_game Q (81, [(3, .int l3), (4, .int l4), (5, .int l5), (6, .int (l6 + 1)), (7, .int ((10 * l8) + l9)), (8, .int l8), (9, .int (l9 + 1))], [], h6))
                  (zW (zE d) zm_X7_game Q (81, [(3, .int l3), (4, .int l4), (5, .int l5), (6, .int (l6 + 1)), (7, .int l7), (8, .int l8), (9, .int (l9 + 1))], [], h6)))
              | .inr e9 => Q (.inr e9) h6))
        | .inr e4 => Q (.inr e4) h1))) : zW (zE d) zm_X7_game Q (81, [(3, .int l3), (4, .int l4), (5, .int l5), (6, .int l6), (7, .int l7), (8, .int l8), (9, .int l9)], [], h) := by
  refine zq_iload (pc' := 83) rfl rfl rfl rfl ?_
  refine zq_ipush (pc' := 84) rfl rfl rfl ?_
  refine zq_icgt (pc' := 87) rfl rfl rfl rfl (And.intro (fun c => ?_) (fun c => ?_))
  · have H := H.1 c
    refine zq_iinc (pc' := 139) rfl rfl rfl rfl ?_
    refine zq_goto_c (pc' := 72) rfl rfl ?_
    exact H
  · have H := H.2 c
    refine zq_iload (pc' := 89) rfl rfl rfl rfl ?_
    refine zq_iload (pc' := 91) rfl rfl rfl rfl ?_
    refine zq_calli (pc' := 94) rfl rfl rfl rfl rfl rfl (zE_mono H (fun r2 h1 H => ?_))
    rcases r2 with v3 | e4
    · obtain ⟨x5, e0, H⟩ := H
      refine Exists.intro x5 (And.intro e0 ?_)
      refine zq_ifeq (pc' := 97) rfl rfl rfl rfl (And.intro (fun c => ?_) (fun c => ?_))
      · have H := H.1 c
        refine zq_iinc (pc' := 133) rfl rfl rfl rfl ?_
        refine zq_goto_c (pc' := 81) rfl rfl ?_
        exact H
      · have H := H.2 c
        refine zq_iload (pc' := 99) rfl rfl rfl rfl ?_
        refine zq_iload (pc' := 101) rfl rfl rfl rfl ?_
        refine zq_calli (pc' := 104) rfl rfl rfl rfl rfl rfl (zE_mono H (fun r7 h6 H => ?_))
        rcases r7 with v8 | e9
        · obtain ⟨x10, e0, H⟩ := H
          refine Exists.intro x10 (And.intro e0 ?_)
          refine zq_ifeq (pc' := 107) rfl rfl rfl rfl (And.intro (fun c => ?_) (fun c => ?_))
          · have H := H.1 c
            refine zq_iinc (pc' := 133) rfl rfl rfl rfl ?_
            refine zq_goto_c (pc' := 81) rfl rfl ?_
            exact H
          · have H := H.2 c
            refine zq_iload (pc' := 109) rfl rfl rfl rfl ?_
            refine zq_ifne (pc' := 112) rfl rfl rfl rfl (And.intro (fun c => ?_) (fun c => ?_))
            · have H := H.1 c
              refine zq_ipush (pc' := 114) rfl rfl rfl ?_
              refine zq_iload (pc' := 116) rfl rfl rfl rfl ?_
              refine zq_imul (pc' := 117) rfl rfl rfl ?_
              refine zq_iload (pc' := 119) rfl rfl rfl rfl ?_
              refine zq_iadd (pc' := 120) rfl rfl rfl ?_
              refine zq_goto (pc' := 125) rfl rfl rfl ?_
              refine zq_istore (pc' := 127) rfl rfl rfl ?_
              refine zq_iinc (pc' := 130) rfl rfl rfl rfl ?_
              refine zq_iinc (pc' := 133) rfl rfl rfl rfl ?_
              refine zq_goto_c (pc' := 81) rfl rfl ?_
              exact H
            · have H := H.2 c
              refine zq_iload (pc' := 125) rfl rfl rfl rfl ?_
              refine zq_istore (pc' := 127) rfl rfl rfl ?_
              refine zq_iinc (pc' := 130) rfl rfl rfl rfl ?_
              refine zq_iinc (pc' := 133) rfl rfl rfl rfl ?_
              refine zq_goto_c (pc' := 81) rfl rfl ?_
              exact H
        · exact H
    · exact H
theorem zr_X7_ownGain_0 {d : Nat} {Q : zR → zH → Prop} {p0 : Nat} {p1 : Int32} {p2 : Int32} {h : zH} (H :
    zE d 207 [.ref p0, .int p1] h (fun r2 h1 => match r2 with
      | .inl v3 => ∃ a5 : Nat, v3 = some (.ref a5) ∧ zbr (p2 = 1)
        (zE d 127 [.ref a5] h1 (fun r7 h6 => match r7 with
            | .inl v8 => v8 = none ∧ zE d 212 [.ref p0, .ref a5, .int 6] h6 (fun r11 h10 => match r11 with
                | .inl v12 => ∃ x14 : Int32, v12 = some (.int x14) ∧ Q (.inl (some (.int ((2 * x14) - (3 * p2))))) h10
                | .inr e13 => Q (.inr e13) h10)
            | .inr e9 => Q (.inr e9) h6))
        (zE d 212 [.ref p0, .ref a5, .int 6] h1 (fun r16 h15 => match r16 with
            | .inl v17 => ∃ x19 : Int32, v17 = some (.int x19) ∧ Q (.inl (some (.int ((2 * x19) - (3 * p2))))) h15
            | .inr e18 => Q (.inr e18) h15))
      | .inr e4 => Q (.inr e4) h1)) : zW (zE d) zm_X7_ownGain Q (0, [(0, .ref p0), (1, .int p1), (2, .int p2)], [], h) := by
  refine zq_aload (pc' := 1) rfl rfl rfl rfl ?_
  refine zq_iload (pc' := 2) rfl rfl rfl rfl ?_
  refine zq_callr (pc' := 5) rfl rfl rfl rfl rfl rfl (zE_mono H (fun r2 h1 H => ?_))
  rcases r2 with v3 | e4
  · obtain ⟨a5, e0, H⟩ := H
    refine Exists.intro a5 (And.intro e0 ?_)
    refine zq_astore (pc' := 6) rfl rfl rfl ?_
    refine zq_iload (pc' := 7) rfl rfl rfl rfl ?_
    refine zq_ipush (pc' := 8) rfl rfl rfl ?_
    refine zq_icne (pc' := 11) rfl rfl rfl rfl (And.intro (fun c => ?_) (fun c => ?_))
    · have H := H.1 c
      refine zq_aload (pc' := 12) rfl rfl rfl rfl ?_
      refine zq_callv (pc' := 15) rfl rfl rfl rfl rfl rfl (zE_mono H (fun r7 h6 H => ?_))
      rcases r7 with v8 | e9
      · obtain ⟨e0, H⟩ := H
        refine And.intro e0 ?_
        refine zq_ipush (pc' := 16) rfl rfl rfl ?_
        refine zq_aload (pc' := 17) rfl rfl rfl rfl ?_
        refine zq_aload (pc' := 18) rfl rfl rfl rfl ?_
        refine zq_ipush (pc' := 20) rfl rfl rfl ?_
        refine zq_calli (pc' := 23) rfl rfl rfl rfl rfl rfl (zE_mono H (fun r11 h10 H => ?_))
        rcases r11 with v12 | e13
        · obtain ⟨x14, e0, H⟩ := H
          refine Exists.intro x14 (And.intro e0 ?_)
          refine zq_imul (pc' := 24) rfl rfl rfl ?_
          refine zq_ipush (pc' := 25) rfl rfl rfl ?_
          refine zq_iload (pc' := 26) rfl rfl rfl rfl ?_
          refine zq_imul (pc' := 27) rfl rfl rfl ?_
          refine zq_isub (pc' := 28) rfl rfl rfl ?_
          exact zq_iret rfl trivial H
        · exact H
      · exact H
    · have H := H.2 c
      refine zq_ipush (pc' := 16) rfl rfl rfl ?_
      refine zq_aload (pc' := 17) rfl rfl rfl rfl ?_
      refine zq_aload (pc' := 18) rfl rfl rfl rfl ?_
      refine zq_ipush (pc' := 20) rfl rfl rfl ?_
      refine zq_calli (pc' := 23) rfl rfl rfl rfl rfl rfl (zE_mono H (fun r16 h15 H => ?_))
      rcases r16 with v17 | e18
      · obtain ⟨x19, e0, H⟩ := H
        refine Exists.intro x19 (And.intro e0 ?_)
        refine zq_imul (pc' := 24) rfl rfl rfl ?_
        refine zq_ipush (pc' := 25) rfl rfl rfl ?_
        refine zq_iload (pc' := 26) rfl rfl rfl rfl ?_
        refine zq_imul (pc' := 27) rfl rfl rfl ?_
        refine zq_isub (pc' := 28) rfl rfl rfl ?_
        exact zq_iret rfl trivial H
      · exact H
  · exact H
theorem zr_X7_restsWith_0 {d : Nat} {Q : zR → zH → Prop} {p0 : Int32} {p1 : Int32} {h : zH} (H :
    zbr (p0 = 1)
    (zbr (p1 < 0)
      (Q (.inl (some (.int 0))) h)
      (Q (.inl (some (.int 1))) h))
    (zbr (0 < p1)
      (Q (.inl (some (.int 0))) h)
      (Q (.inl (some (.int 1))) h))) : zW (zE d) zm_X7_restsWith Q (0, [(0, .int p0), (1, .int p1)], [], h) := by
  refine zq_iload (pc' := 1) rfl rfl rfl rfl ?_
  refine zq_ipush (pc' := 2) rfl rfl rfl ?_
  refine zq_icne (pc' := 5) rfl rfl rfl rfl (And.intro (fun c => ?_) (fun c => ?_))
  · have H := H.1 c
    refine zq_iload (pc' := 6) rfl rfl rfl rfl ?_
    refine zq_iflt (pc' := 9) rfl rfl rfl rfl (And.intro (fun c => ?_) (fun c => ?_))
    · have H := H.1 c
      refine zq_ipush (pc' := 14) rfl rfl rfl ?_
      refine zq_goto (pc' := 26) rfl rfl rfl ?_
      exact zq_iret rfl (Or.inl rfl) H
    · have H := H.2 c
      refine zq_ipush (pc' := 10) rfl rfl rfl ?_
      refine zq_goto (pc' := 26) rfl rfl rfl ?_
      exact zq_iret rfl (Or.inr rfl) H
  · have H := H.2 c
    refine zq_iload (pc' := 18) rfl rfl rfl rfl ?_
    refine zq_ifgt (pc' := 21) rfl rfl rfl rfl (And.intro (fun c => ?_) (fun c => ?_))
    · have H := H.1 c
      refine zq_ipush (pc' := 26) rfl rfl rfl ?_
      exact zq_iret rfl (Or.inl rfl) H
    · have H := H.2 c
      refine zq_ipush (pc' := 22) rfl rfl rfl ?_
      refine zq_goto (pc' := 26) rfl rfl rfl ?_
      exact zq_iret rfl (Or.inr rfl) H
theorem zr_X7_years_0 {d : Nat} {Q : zR → zH → Prop} {p0 : Nat} {p1 : Int32} {p2 : Int32} {p3 : Int32} {h : zH} (H :
    zE d 204 [.int p3, .int 3] h (fun r2 h1 => match r2 with
      | .inl v3 => v3 = none ∧ zE d 205 [.int p2, .int 0, .int 60] h1 (fun r6 h5 => match r6 with
          | .inl v7 => v7 = none ∧ zE d 208 [.ref p0] h5 (fun r10 h9 => match r10 with
              | .inl v11 => v11 = none ∧ ∃ a13 : Nat, zgf h9 p0 7 12 = some (.ref a13) ∧
                zE d 34 [.ref a13, .int p1] h9 (fun r15 h14 => match r15 with
                  | .inl v16 => v16 = none ∧ zW (zE d) zm_X7_years Q (30, [(0, .ref p0), (2, .int p2), (3, .int p3), (4, .int 0), (5, .int 0)], [], h14)
                  | .inr e17 => Q (.inr e17) h14)
              | .inr e12 => Q (.inr e12) h9)
          | .inr e8 => Q (.inr e8) h5)
      | .inr e4 => Q (.inr e4) h1)) : zW (zE d) zm_X7_years Q (0, [(0, .ref p0), (1, .int p1), (2, .int p2), (3, .int p3)], [], h) := by
  refine zq_iload (pc' := 1) rfl rfl rfl rfl ?_
  refine zq_ipush (pc' := 2) rfl rfl rfl ?_
  refine zq_callv (pc' := 5) rfl rfl rfl rfl rfl rfl (zE_mono H (fun r2 h1 H => ?_))
  rcases r2 with v3 | e4
  · obtain ⟨e0, H⟩ := H
    refine And.intro e0 ?_
    refine zq_iload (pc' := 6) rfl rfl rfl rfl ?_
    refine zq_ipush (pc' := 7) rfl rfl rfl ?_
    refine zq_ipush (pc' := 9) rfl rfl rfl ?_
    refine zq_callv (pc' := 12) rfl rfl rfl rfl rfl rfl (zE_mono H (fun r6 h5 H => ?_))
    rcases r6 with v7 | e8
    · obtain ⟨e0, H⟩ := H
      refine And.intro e0 ?_
      refine zq_aload (pc' := 13) rfl rfl rfl rfl ?_
      refine zq_callv (pc' := 16) rfl rfl rfl rfl rfl rfl (zE_mono H (fun r10 h9 H => ?_))
      rcases r10 with v11 | e12
      · obtain ⟨e0, H⟩ := H
        refine And.intro e0 ?_
        refine zq_aload (pc' := 17) rfl rfl rfl rfl ?_
        obtain ⟨a13, e0, H⟩ := H
        refine zq_getR (pc' := 20) rfl rfl rfl e0 ?_
        refine zq_iload (pc' := 21) rfl rfl rfl rfl ?_
        refine zq_callv (pc' := 24) rfl rfl rfl rfl rfl rfl (zE_mono H (fun r15 h14 H => ?_))
        rcases r15 with v16 | e17
        · obtain ⟨e0, H⟩ := H
          refine And.intro e0 ?_
          refine zq_ipush (pc' := 25) rfl rfl rfl ?_
          refine zq_istore (pc' := 27) rfl rfl rfl ?_
          refine zq_ipush (pc' := 28) rfl rfl rfl ?_
          refine zq_istore_c (pc' := 30) rfl rfl ?_
          exact H
        · exact H
      · exact H
    · exact H
  · exact H
theorem zr_X7_years_30 {d : Nat} {Q : zR → zH → Prop} {l0 : Nat} {l2 : Int32} {l3 : Int32} {l4 : Int32} {l5 : Int32} {h : zH} (H :
    zbr (l2 ≤ l5)
    (zW (zE d) zm_X7_years Q (66, [(0, .ref l0), (3, .int l3), (4, .int l4), (5, .int 0), (6, .int 0), (7, .int 0)], [], h))
    (zE d 198 [.ref l0] h (fun r2 h1 => match r2 with
        | .inl v3 => v3 = none ∧ zE d 209 [.ref l0, .int l5] h1 (fun r6 h5 => match r6 with
            | .inl v7 => ∃ x9 : Int32, v7 = some (.int x9) ∧ zW (zE d) zm_X7_years Q (30, [(0, .ref l0), (2, .int l2), (3, .int l3), (4, .int (l4 + x9)), (5, .int (l5 + 1))], [], h5)
            | .inr e8 => Q (.inr e8) h5)
        | .inr e4 => Q (.inr e4) h1))) : zW (zE d) zm_X7_years Q (30, [(0, .ref l0), (2, .int l2), (3, .int l3), (4, .int l4), (5, .int l5)], [], h) := by
  refine zq_iload (pc' := 32) rfl rfl rfl rfl ?_
  refine zq_iload (pc' := 33) rfl rfl rfl rfl ?_
  refine zq_icge (pc' := 36) rfl rfl rfl rfl (And.intro (fun c => ?_) (fun c => ?_))
  · have H := H.1 c
    refine zq_ipush (pc' := 58) rfl rfl rfl ?_
    refine zq_istore (pc' := 60) rfl rfl rfl ?_
    refine zq_ipush (pc' := 61) rfl rfl rfl ?_
    refine zq_istore (pc' := 63) rfl rfl rfl ?_
    refine zq_ipush (pc' := 64) rfl rfl rfl ?_
    refine zq_istore_c (pc' := 66) rfl rfl ?_
    exact H
  · have H := H.2 c
    refine zq_aload (pc' := 37) rfl rfl rfl rfl ?_
    refine zq_callv (pc' := 40) rfl rfl rfl rfl rfl rfl (zE_mono H (fun r2 h1 H => ?_))
    rcases r2 with v3 | e4
    · obtain ⟨e0, H⟩ := H
      refine And.intro e0 ?_
      refine zq_iload (pc' := 42) rfl rfl rfl rfl ?_
      refine zq_aload (pc' := 43) rfl rfl rfl rfl ?_
      refine zq_iload (pc' := 45) rfl rfl rfl rfl ?_
      refine zq_calli (pc' := 48) rfl rfl rfl rfl rfl rfl (zE_mono H (fun r6 h5 H => ?_))
      rcases r6 with v7 | e8
      · obtain ⟨x9, e0, H⟩ := H
        refine Exists.intro x9 (And.intro e0 ?_)
        refine zq_iadd (pc' := 49) rfl rfl rfl ?_
        refine zq_istore (pc' := 51) rfl rfl rfl ?_
        refine zq_iinc (pc' := 54) rfl rfl rfl rfl ?_
        refine zq_goto_c (pc' := 30) rfl rfl ?_
        exact H
      · exact H
    · exact H
theorem zr_X7_years_66 {d : Nat} {Q : zR → zH → Prop} {l0 : Nat} {l3 : Int32} {l4 : Int32} {l5 : Int32} {l6 : Int32} {l7 : Int32} {h : zH} (H :
    ∃ a1 : Nat, zgf h l0 7 4 = some (.ref a1) ∧
    zE d 46 [.ref a1] h (fun r3 h2 => match r3 with
      | .inl v4 => ∃ x6 : Int32, v4 = some (.int x6) ∧ zbr (x6 ≤ l7)
        (zbr (l3 = 0)
          (Q (.inl (some (.int l4))) h2)
          (zbr (l3 = 1)
            (Q (.inl (some (.int l5))) h2)
            (Q (.inl (some (.int l6))) h2)))
        (zE d 206 [.ref l0, .int l7] h2 (fun r8 h7 => match r8 with
            | .inl v9 => ∃ a11 : Nat, v9 = some (.ref a11) ∧ zE d 116 [.ref a11] h7 (fun r13 h12 => match r13 with
                | .inl v14 => ∃ x16 : Int32, v14 = some (.int x16) ∧ zE d 206 [.ref l0, .int l7] h12 (fun r18 h17 => match r18 with
                    | .inl v19 => ∃ a21 : Nat, v19 = some (.ref a21) ∧ zE d 123 [.ref a21] h17 (fun r23 h22 => match r23 with
                        | .inl v24 => ∃ x26 : Int32, v24 = some (.int x26) ∧ zW (zE d) zm_X7_years Q (66, [(0, .ref l0), (3, .int l3), (4, .int l4), (5, .int (l5 + x16)), (6, .int (l6 + x26)), (7, .int (l7 + 1))], [], h22)
                        | .inr e25 => Q (.inr e25) h22)
                    | .inr e20 => Q (.inr e20) h17)
                | .inr e15 => Q (.inr e15) h12)
            | .inr e10 => Q (.inr e10) h7))
      | .inr e5 => Q (.inr e5) h2)) : zW (zE d) zm_X7_years Q (66, [(0, .ref l0), (3, .int l3), (4, .int l4), (5, .int l5), (6, .int l6), (7, .int l7)], [], h) := by
  refine zq_iload (pc' := 68) rfl rfl rfl rfl ?_
  refine zq_aload (pc' := 69) rfl rfl rfl rfl ?_
  obtain ⟨a1, e0, H⟩ := H
  refine zq_getR (pc' := 72) rfl rfl rfl e0 ?_
  refine zq_calli (pc' := 75) rfl rfl rfl rfl rfl rfl (zE_mono H (fun r3 h2 H => ?_))
  rcases r3 with v4 | e5
  · obtain ⟨x6, e0, H⟩ := H
    refine Exists.intro x6 (And.intro e0 ?_)
    refine zq_icge (pc' := 78) rfl rfl rfl rfl (And.intro (fun c => ?_) (fun c => ?_))
    · have H := H.1 c
      refine zq_iload (pc' := 113) rfl rfl rfl rfl ?_
      refine zq_ifne (pc' := 116) rfl rfl rfl rfl (And.intro (fun c => ?_) (fun c => ?_))
      · have H := H.1 c
        refine zq_iload (pc' := 118) rfl rfl rfl rfl ?_
        refine zq_goto (pc' := 133) rfl rfl rfl ?_
        exact zq_iret rfl trivial H
      · have H := H.2 c
        refine zq_iload (pc' := 122) rfl rfl rfl rfl ?_
        refine zq_ipush (pc' := 123) rfl rfl rfl ?_
        refine zq_icne (pc' := 126) rfl rfl rfl rfl (And.intro (fun c => ?_) (fun c => ?_))
        · have H := H.1 c
          refine zq_iload (pc' := 128) rfl rfl rfl rfl ?_
          refine zq_goto (pc' := 133) rfl rfl rfl ?_
          exact zq_iret rfl trivial H
        · have H := H.2 c
          refine zq_iload (pc' := 133) rfl rfl rfl rfl ?_
          exact zq_iret rfl trivial H
    · have H := H.2 c
      refine zq_iload (pc' := 80) rfl rfl rfl rfl ?_
      refine zq_aload (pc' := 81) rfl rfl rfl rfl ?_
      refine zq_iload (pc' := 83) rfl rfl rfl rfl ?_
      refine zq_callr (pc' := 86) rfl rfl rfl rfl rfl rfl (zE_mono H (fun r8 h7 H => ?_))
      rcases r8 with v9 | e10
      · obtain ⟨a11, e0, H⟩ := H
        refine Exists.intro a11 (And.intro e0 ?_)
        refine zq_calli (pc' := 89) rfl rfl rfl rfl rfl rfl (zE_mono H (fun r13 h12 H => ?_))
        rcases r13 with v14 | e15
        · obtain ⟨x16, e0, H⟩ := H
          refine Exists.intro x16 (And.intro e0 ?_)
          refine zq_iadd (pc' := 90) rfl rfl rfl ?_
          refine zq_istore (pc' := 92) rfl rfl rfl ?_
          refine zq_iload (pc' := 94) rfl rfl rfl rfl ?_
          refine zq_aload (pc' := 95) rfl rfl rfl rfl ?_
          refine zq_iload (pc' := 97) rfl rfl rfl rfl ?_
          refine zq_callr (pc' := 100) rfl rfl rfl rfl rfl rfl (zE_mono H (fun r18 h17 H => ?_))
          rcases r18 with v19 | e20
          · obtain ⟨a21, e0, H⟩ := H
            refine Exists.intro a21 (And.intro e0 ?_)
            refine zq_calli (pc' := 103) rfl rfl rfl rfl rfl rfl (zE_mono H (fun r23 h22 H => ?_))
            rcases r23 with v24 | e25
            · obtain ⟨x26, e0, H⟩ := H
              refine Exists.intro x26 (And.intro e0 ?_)
              refine zq_iadd (pc' := 104) rfl rfl rfl ?_
              refine zq_istore (pc' := 106) rfl rfl rfl ?_
              refine zq_iinc (pc' := 109) rfl rfl rfl rfl ?_
              refine zq_goto_c (pc' := 66) rfl rfl ?_
              exact H
            · exact H
          · exact H
        · exact H
      · exact H
  · exact H
theorem zr_X7_drawChange_0 {d : Nat} {Q : zR → zH → Prop} {p0 : Nat} {h : zH} (H :
    ∃ a1 : Nat, zgf h p0 7 12 = some (.ref a1) ∧
    zE d 35 [.ref a1, .int 6] h (fun r3 h2 => match r3 with
      | .inl v4 => ∃ x6 : Int32, v4 = some (.int x6) ∧ zbr (2 < x6)
        (Q (.inl none) h2)
        (∃ a7 : Nat, zgf h2 p0 7 4 = some (.ref a7) ∧
          zE d 46 [.ref a7] h2 (fun r9 h8 => match r9 with
            | .inl v10 => ∃ x12 : Int32, v10 = some (.int x12) ∧ zbr (x12 = 0)
              (Q (.inl none) h8)
              (∃ a13 : Nat, zgf h8 p0 7 12 = some (.ref a13) ∧
                ∃ a14 : Nat, zgf h8 p0 7 4 = some (.ref a14) ∧
                zE d 46 [.ref a14] h8 (fun r16 h15 => match r16 with
                  | .inl v17 => ∃ x19 : Int32, v17 = some (.int x19) ∧ zE d 35 [.ref a13, .int x19] h15 (fun r21 h20 => match r21 with
                      | .inl v22 => ∃ x24 : Int32, v22 = some (.int x24) ∧ zE d 206 [.ref p0, .int x24] h20 (fun r26 h25 => match r26 with
                          | .inl v27 => ∃ a29 : Nat, v27 = some (.ref a29) ∧ zbr (x6 = 0)
                            (zE d 127 [.ref a29] h25 (fun r31 h30 => match r31 with
                                | .inl v32 => v32 = none ∧ Q (.inl none) h30
                                | .inr e33 => Q (.inr e33) h30))
                            (∃ a34 : Nat, zgf h25 p0 7 12 = some (.ref a34) ∧
                              zE d 112 [.ref a29] h25 (fun r36 h35 => match r36 with
                                | .inl v37 => ∃ x39 : Int32, v37 = some (.int x39) ∧ zE d 35 [.ref a34, .int x39] h35 (fun r41 h40 => match r41 with
                                    | .inl v42 => ∃ x44 : Int32, v42 = some (.int x44) ∧ ∃ a45 : Nat, zgf h40 p0 7 12 = some (.ref a45) ∧
                                      zE d 35 [.ref a45, .int 2] h40 (fun r47 h46 => match r47 with
                                        | .inl v48 => ∃ x50 : Int32, v48 = some (.int x50) ∧ zbr (x6 = 1)
                                          (zE d 130 [.ref a29, .int x50, .int x44] h46 (fun r52 h51 => match r52 with
                                              | .inl v53 => v53 = none ∧ Q (.inl none) h51
                                              | .inr e54 => Q (.inr e54) h51))
                                          (zE d 131 [.ref a29, .int x50, .int x44] h46 (fun r56 h55 => match r56 with
                                              | .inl v57 => v57 = none ∧ Q (.inl none) h55
                                              | .inr e58 => Q (.inr e58) h55))
                                        | .inr e49 => Q (.inr e49) h46)
                                    | .inr e43 => Q (.inr e43) h40)
                                | .inr e38 => Q (.inr e38) h35))
                          | .inr e28 => Q (.inr e28) h25)
                      | .inr e23 => Q (.inr e23) h20)
                  | .inr e18 => Q (.inr e18) h15))
            | .inr e11 => Q (.inr e11) h8))
      | .inr e5 => Q (.inr e5) h2)) : zW (zE d) zm_X7_drawChange Q (0, [(0, .ref p0)], [], h) := by
  refine zq_aload (pc' := 1) rfl rfl rfl rfl ?_
  obtain ⟨a1, e0, H⟩ := H
  refine zq_getR (pc' := 4) rfl rfl rfl e0 ?_
  refine zq_ipush (pc' := 6) rfl rfl rfl ?_
  refine zq_calli (pc' := 9) rfl rfl rfl rfl rfl rfl (zE_mono H (fun r3 h2 H => ?_))
  rcases r3 with v4 | e5
  · obtain ⟨x6, e0, H⟩ := H
    refine Exists.intro x6 (And.intro e0 ?_)
    refine zq_istore (pc' := 10) rfl rfl rfl ?_
    refine zq_iload (pc' := 11) rfl rfl rfl rfl ?_
    refine zq_ipush (pc' := 12) rfl rfl rfl ?_
    refine zq_icgt (pc' := 15) rfl rfl rfl rfl (And.intro (fun c => ?_) (fun c => ?_))
    · have H := H.1 c
      exact zq_vret rfl H
    · have H := H.2 c
      refine zq_aload (pc' := 16) rfl rfl rfl rfl ?_
      obtain ⟨a7, e0, H⟩ := H
      refine zq_getR (pc' := 19) rfl rfl rfl e0 ?_
      refine zq_calli (pc' := 22) rfl rfl rfl rfl rfl rfl (zE_mono H (fun r9 h8 H => ?_))
      rcases r9 with v10 | e11
      · obtain ⟨x12, e0, H⟩ := H
        refine Exists.intro x12 (And.intro e0 ?_)
        refine zq_ifne (pc' := 25) rfl rfl rfl rfl (And.intro (fun c => ?_) (fun c => ?_))
        · have H := H.1 c
          exact zq_vret rfl H
        · have H := H.2 c
          refine zq_aload (pc' := 27) rfl rfl rfl rfl ?_
          refine zq_aload (pc' := 28) rfl rfl rfl rfl ?_
          obtain ⟨a13, e0, H⟩ := H
          refine zq_getR (pc' := 31) rfl rfl rfl e0 ?_
          refine zq_aload (pc' := 32) rfl rfl rfl rfl ?_
          obtain ⟨a14, e0, H⟩ := H
          refine zq_getR (pc' := 35) rfl rfl rfl e0 ?_
          refine zq_calli (pc' := 38) rfl rfl rfl rfl rfl rfl (zE_mono H (fun r16 h15 H => ?_))
          rcases r16 with v17 | e18
          · obtain ⟨x19, e0, H⟩ := H
            refine Exists.intro x19 (And.intro e0 ?_)
            refine zq_calli (pc' := 41) rfl rfl rfl rfl rfl rfl (zE_mono H (fun r21 h20 H => ?_))
            rcases r21 with v22 | e23
            · obtain ⟨x24, e0, H⟩ := H
              refine Exists.intro x24 (And.intro e0 ?_)
              refine zq_callr (pc' := 44) rfl rfl rfl rfl rfl rfl (zE_mono H (fun r26 h25 H => ?_))
              rcases r26 with v27 | e28
              · obtain ⟨a29, e0, H⟩ := H
                refine Exists.intro a29 (And.intro e0 ?_)
                refine zq_astore (pc' := 45) rfl rfl rfl ?_
                refine zq_iload (pc' := 46) rfl rfl rfl rfl ?_
                refine zq_ifne (pc' := 49) rfl rfl rfl rfl (And.intro (fun c => ?_) (fun c => ?_))
                · have H := H.1 c
                  refine zq_aload (pc' := 50) rfl rfl rfl rfl ?_
                  refine zq_callv (pc' := 53) rfl rfl rfl rfl rfl rfl (zE_mono H (fun r31 h30 H => ?_))
                  rcases r31 with v32 | e33
                  · obtain ⟨e0, H⟩ := H
                    refine And.intro e0 ?_
                    exact zq_vret rfl H
                  · exact H
                · have H := H.2 c
                  refine zq_aload (pc' := 55) rfl rfl rfl rfl ?_
                  obtain ⟨a34, e0, H⟩ := H
                  refine zq_getR (pc' := 58) rfl rfl rfl e0 ?_
                  refine zq_aload (pc' := 59) rfl rfl rfl rfl ?_
                  refine zq_calli (pc' := 62) rfl rfl rfl rfl rfl rfl (zE_mono H (fun r36 h35 H => ?_))
                  rcases r36 with v37 | e38
                  · obtain ⟨x39, e0, H⟩ := H
                    refine Exists.intro x39 (And.intro e0 ?_)
                    refine zq_calli (pc' := 65) rfl rfl rfl rfl rfl rfl (zE_mono H (fun r41 h40 H => ?_))
                    rcases r41 with v42 | e43
                    · obtain ⟨x44, e0, H⟩ := H
                      refine Exists.intro x44 (And.intro e0 ?_)
                      refine zq_istore (pc' := 66) rfl rfl rfl ?_
                      refine zq_aload (pc' := 67) rfl rfl rfl rfl ?_
                      obtain ⟨a45, e0, H⟩ := H
                      refine zq_getR (pc' := 70) rfl rfl rfl e0 ?_
                      refine zq_ipush (pc' := 71) rfl rfl rfl ?_
                      refine zq_calli (pc' := 74) rfl rfl rfl rfl rfl rfl (zE_mono H (fun r47 h46 H => ?_))
                      rcases r47 with v48 | e49
                      · obtain ⟨x50, e0, H⟩ := H
                        refine Exists.intro x50 (And.intro e0 ?_)
                        refine zq_istore (pc' := 76) rfl rfl rfl ?_
                        refine zq_iload (pc' := 77) rfl rfl rfl rfl ?_
                        refine zq_ipush (pc' := 78) rfl rfl rfl ?_
                        refine zq_icne (pc' := 81) rfl rfl rfl rfl (And.intro (fun c => ?_) (fun c => ?_))
                        · have H := H.1 c
                          refine zq_aload (pc' := 82) rfl rfl rfl rfl ?_
                          refine zq_iload (pc' := 84) rfl rfl rfl rfl ?_
                          refine zq_iload (pc' := 85) rfl rfl rfl rfl ?_
                          refine zq_callv (pc' := 88) rfl rfl rfl rfl rfl rfl (zE_mono H (fun r52 h51 H => ?_))
                          rcases r52 with v53 | e54
                          · obtain ⟨e0, H⟩ := H
                            refine And.intro e0 ?_
                            refine zq_goto (pc' := 98) rfl rfl rfl ?_
                            exact zq_vret rfl H
                          · exact H
                        · have H := H.2 c
                          refine zq_aload (pc' := 92) rfl rfl rfl rfl ?_
                          refine zq_iload (pc' := 94) rfl rfl rfl rfl ?_
                          refine zq_iload (pc' := 95) rfl rfl rfl rfl ?_
                          refine zq_callv (pc' := 98) rfl rfl rfl rfl rfl rfl (zE_mono H (fun r56 h55 H => ?_))
                          rcases r56 with v57 | e58
                          · obtain ⟨e0, H⟩ := H
                            refine And.intro e0 ?_
                            exact zq_vret rfl H
                          · exact H
                      · exact H
                    · exact H
                  · exact H
              · exact H
            · exact H
          · exact H
      · exact H
  · exact H
theorem zr_X7_image_0 {d : Nat} {Q : zR → zH → Prop} {p0 : Nat} {h : zH} (H :
    ∃ a1 : Nat, zgf h p0 7 6 = some (.ref a1) ∧
    ∃ a2 : Nat, zgf h p0 7 4 = some (.ref a2) ∧
    zE d 25 [.ref a1, .ref a2] h (fun r4 h3 => match r4 with
      | .inl v5 => v5 = none ∧ ∃ a7 : Nat, zgf h3 p0 7 7 = some (.ref a7) ∧
        ∃ a8 : Nat, zgf h3 p0 7 6 = some (.ref a8) ∧
        zE d 29 [.ref a7, .ref a8] h3 (fun r10 h9 => match r10 with
          | .inl v11 => v11 = none ∧ ∃ h13, zpf h9 p0 7 8 (.int 1) = some h13 ∧
            Q (.inl none) h13
          | .inr e12 => Q (.inr e12) h9)
      | .inr e6 => Q (.inr e6) h3)) : zW (zE d) zm_X7_image Q (0, [(0, .ref p0)], [], h) := by
  refine zq_aload (pc' := 1) rfl rfl rfl rfl ?_
  obtain ⟨a1, e0, H⟩ := H
  refine zq_getR (pc' := 4) rfl rfl rfl e0 ?_
  refine zq_aload (pc' := 5) rfl rfl rfl rfl ?_
  obtain ⟨a2, e0, H⟩ := H
  refine zq_getR (pc' := 8) rfl rfl rfl e0 ?_
  refine zq_callv (pc' := 11) rfl rfl rfl rfl rfl rfl (zE_mono H (fun r4 h3 H => ?_))
  rcases r4 with v5 | e6
  · obtain ⟨e0, H⟩ := H
    refine And.intro e0 ?_
    refine zq_aload (pc' := 12) rfl rfl rfl rfl ?_
    obtain ⟨a7, e0, H⟩ := H
    refine zq_getR (pc' := 15) rfl rfl rfl e0 ?_
    refine zq_aload (pc' := 16) rfl rfl rfl rfl ?_
    obtain ⟨a8, e0, H⟩ := H
    refine zq_getR (pc' := 19) rfl rfl rfl e0 ?_
    refine zq_callv (pc' := 22) rfl rfl rfl rfl rfl rfl (zE_mono H (fun r10 h9 H => ?_))
    rcases r10 with v11 | e12
    · obtain ⟨e0, H⟩ := H
      refine And.intro e0 ?_
      refine zq_aload (pc' := 23) rfl rfl rfl rfl ?_
      refine zq_ipush (pc' := 24) rfl rfl rfl ?_
      obtain ⟨h13, e0, H⟩ := H
      refine zq_put (pc' := 27) rfl rfl rfl (Or.inr rfl) e0 ?_
      exact zq_vret rfl H
    · exact H
  · exact H
theorem zr_X7_restore_0 {d : Nat} {Q : zR → zH → Prop} {p0 : Nat} {h : zH} (H :
    ∃ x1 : Int32, zgf h p0 7 8 = some (.int x1) ∧
    zbr (x1 = 0)
    (Q (.inl (some (.int 0))) h)
    (∃ a2 : Nat, zgf h p0 7 6 = some (.ref a2) ∧
      ∃ a3 : Nat, zgf h p0 7 7 = some (.ref a3) ∧
      zE d 29 [.ref a2, .ref a3] h (fun r5 h4 => match r5 with
        | .inl v6 => v6 = none ∧ ∃ a8 : Nat, zgf h4 p0 7 6 = some (.ref a8) ∧
          ∃ a9 : Nat, zgf h4 p0 7 4 = some (.ref a9) ∧
          zE d 26 [.ref a8, .ref a9] h4 (fun r11 h10 => match r11 with
            | .inl v12 => v12 = none ∧ Q (.inl (some (.int 1))) h10
            | .inr e13 => Q (.inr e13) h10)
        | .inr e7 => Q (.inr e7) h4))) : zW (zE d) zm_X7_restore Q (0, [(0, .ref p0)], [], h) := by
  refine zq_aload (pc' := 1) rfl rfl rfl rfl ?_
  obtain ⟨x1, e0, H⟩ := H
  refine zq_getI (pc' := 4) rfl rfl rfl e0 ?_
  refine zq_ifne (pc' := 7) rfl rfl rfl rfl (And.intro (fun c => ?_) (fun c => ?_))
  · have H := H.1 c
    refine zq_ipush (pc' := 8) rfl rfl rfl ?_
    exact zq_iret rfl (Or.inl rfl) H
  · have H := H.2 c
    refine zq_aload (pc' := 10) rfl rfl rfl rfl ?_
    obtain ⟨a2, e0, H⟩ := H
    refine zq_getR (pc' := 13) rfl rfl rfl e0 ?_
    refine zq_aload (pc' := 14) rfl rfl rfl rfl ?_
    obtain ⟨a3, e0, H⟩ := H
    refine zq_getR (pc' := 17) rfl rfl rfl e0 ?_
    refine zq_callv (pc' := 20) rfl rfl rfl rfl rfl rfl (zE_mono H (fun r5 h4 H => ?_))
    rcases r5 with v6 | e7
    · obtain ⟨e0, H⟩ := H
      refine And.intro e0 ?_
      refine zq_aload (pc' := 21) rfl rfl rfl rfl ?_
      obtain ⟨a8, e0, H⟩ := H
      refine zq_getR (pc' := 24) rfl rfl rfl e0 ?_
      refine zq_aload (pc' := 25) rfl rfl rfl rfl ?_
      obtain ⟨a9, e0, H⟩ := H
      refine zq_getR (pc' := 28) rfl rfl rfl e0 ?_
      refine zq_callv (pc' := 31) rfl rfl rfl rfl rfl rfl (zE_mono H (fun r11 h10 H => ?_))
      rcases r11 with v12 | e13
      · obtain ⟨e0, H⟩ := H
        refine And.intro e0 ?_
        refine zq_ipush (pc' := 32) rfl rfl rfl ?_
        exact zq_iret rfl (Or.inr rfl) H
      · exact H
    · exact H
theorem zr_X7_theZip_0 {d : Nat} {Q : zR → zH → Prop} {p0 : Nat} {p1 : Int32} {h : zH} (H :
    ∃ a1 : Nat, zgf h p0 7 4 = some (.ref a1) ∧
    zE d 47 [.ref a1, .int p1] h (fun r3 h2 => match r3 with
      | .inl v4 => ∃ x6 : Int32, v4 = some (.int x6) ∧ zbr (x6 = 0)
        (∃ h7, znx h2 = some h7 ∧ Q (.inr 1) h7)
        (∃ a8 : Nat, zgf h2 p0 7 4 = some (.ref a8) ∧
          zE d 48 [.ref a8, .int p1] h2 (fun r10 h9 => match r10 with
            | .inl v11 => ∃ a13 : Nat, v11 = some (.ref a13) ∧ Q (.inl (some (.ref a13))) h9
            | .inr e12 => Q (.inr e12) h9))
      | .inr e5 => Q (.inr e5) h2)) : zW (zE d) zm_X7_theZip Q (0, [(0, .ref p0), (1, .int p1)], [], h) := by
  refine zq_aload (pc' := 1) rfl rfl rfl rfl ?_
  obtain ⟨a1, e0, H⟩ := H
  refine zq_getR (pc' := 4) rfl rfl rfl e0 ?_
  refine zq_iload (pc' := 5) rfl rfl rfl rfl ?_
  refine zq_calli (pc' := 8) rfl rfl rfl rfl rfl rfl (zE_mono H (fun r3 h2 H => ?_))
  rcases r3 with v4 | e5
  · obtain ⟨x6, e0, H⟩ := H
    refine Exists.intro x6 (And.intro e0 ?_)
    refine zq_ifne (pc' := 11) rfl rfl rfl rfl (And.intro (fun c => ?_) (fun c => ?_))
    · have H := H.1 c
      obtain ⟨h7, e0, H⟩ := H
      exact zq_throw rfl rfl e0 H
    · have H := H.2 c
      refine zq_aload (pc' := 23) rfl rfl rfl rfl ?_
      obtain ⟨a8, e0, H⟩ := H
      refine zq_getR (pc' := 26) rfl rfl rfl e0 ?_
      refine zq_iload (pc' := 27) rfl rfl rfl rfl ?_
      refine zq_callr (pc' := 30) rfl rfl rfl rfl rfl rfl (zE_mono H (fun r10 h9 H => ?_))
      rcases r10 with v11 | e12
      · obtain ⟨a13, e0, H⟩ := H
        refine Exists.intro a13 (And.intro e0 ?_)
        exact zq_aret rfl H
      · exact H
  · exact H
theorem zr_X7_checkPlace_0 {d : Nat} {Q : zR → zH → Prop} {p0 : Nat} {p1 : Int32} {h : zH} (H :
    zbr (p1 < 0)
    (∃ h1, znx h = some h1 ∧ Q (.inr 1) h1)
    (zE d 112 [.ref p0] h (fun r3 h2 => match r3 with
        | .inl v4 => ∃ x6 : Int32, v4 = some (.int x6) ∧ zbr (p1 < x6)
          (Q (.inl none) h2)
          (∃ h7, znx h2 = some h7 ∧ Q (.inr 1) h7)
        | .inr e5 => Q (.inr e5) h2))) : zW (zE d) zm_X7_checkPlace Q (0, [(0, .ref p0), (1, .int p1)], [], h) := by
  refine zq_iload (pc' := 1) rfl rfl rfl rfl ?_
  refine zq_iflt (pc' := 4) rfl rfl rfl rfl (And.intro (fun c => ?_) (fun c => ?_))
  · have H := H.1 c
    obtain ⟨h1, e0, H⟩ := H
    exact zq_throw rfl rfl e0 H
  · have H := H.2 c
    refine zq_iload (pc' := 5) rfl rfl rfl rfl ?_
    refine zq_aload (pc' := 6) rfl rfl rfl rfl ?_
    refine zq_calli (pc' := 9) rfl rfl rfl rfl rfl rfl (zE_mono H (fun r3 h2 H => ?_))
    rcases r3 with v4 | e5
    · obtain ⟨x6, e0, H⟩ := H
      refine Exists.intro x6 (And.intro e0 ?_)
      refine zq_iclt (pc' := 12) rfl rfl rfl rfl (And.intro (fun c => ?_) (fun c => ?_))
      · have H := H.1 c
        exact zq_vret rfl H
      · have H := H.2 c
        obtain ⟨h7, e0, H⟩ := H
        exact zq_throw rfl rfl e0 H
    · exact H
theorem zr_X7_checkTape_0 {d : Nat} {Q : zR → zH → Prop} {p0 : Int32} {h : zH} (H :
    zbr (p0 = 0)
    (Q (.inl none) h)
    (zbr (p0 = 1)
      (Q (.inl none) h)
      (∃ h1, znx h = some h1 ∧ Q (.inr 1) h1))) : zW (zE d) zm_X7_checkTape Q (0, [(0, .int p0)], [], h) := by
  refine zq_iload (pc' := 1) rfl rfl rfl rfl ?_
  refine zq_ifeq (pc' := 4) rfl rfl rfl rfl (And.intro (fun c => ?_) (fun c => ?_))
  · have H := H.1 c
    exact zq_vret rfl H
  · have H := H.2 c
    refine zq_iload (pc' := 5) rfl rfl rfl rfl ?_
    refine zq_ipush (pc' := 6) rfl rfl rfl ?_
    refine zq_iceq (pc' := 9) rfl rfl rfl rfl (And.intro (fun c => ?_) (fun c => ?_))
    · have H := H.1 c
      exact zq_vret rfl H
    · have H := H.2 c
      obtain ⟨h1, e0, H⟩ := H
      exact zq_throw rfl rfl e0 H
theorem zr_X7_checkWhat_0 {d : Nat} {Q : zR → zH → Prop} {p0 : Int32} {p1 : Int32} {h : zH} (H :
    zbr (p0 < 0)
    (∃ h1, znx h = some h1 ∧ Q (.inr 1) h1)
    (zbr (p0 < p1)
      (Q (.inl none) h)
      (∃ h2, znx h = some h2 ∧ Q (.inr 1) h2))) : zW (zE d) zm_X7_checkWhat Q (0, [(0, .int p0), (1, .int p1)], [], h) := by
  refine zq_iload (pc' := 1) rfl rfl rfl rfl ?_
  refine zq_iflt (pc' := 4) rfl rfl rfl rfl (And.intro (fun c => ?_) (fun c => ?_))
  · have H := H.1 c
    obtain ⟨h1, e0, H⟩ := H
    exact zq_throw rfl rfl e0 H
  · have H := H.2 c
    refine zq_iload (pc' := 5) rfl rfl rfl rfl ?_
    refine zq_iload (pc' := 6) rfl rfl rfl rfl ?_
    refine zq_iclt (pc' := 9) rfl rfl rfl rfl (And.intro (fun c => ?_) (fun c => ?_))
    · have H := H.1 c
      exact zq_vret rfl H
    · have H := H.2 c
      obtain ⟨h2, e0, H⟩ := H
      exact zq_throw rfl rfl e0 H
theorem zr_X7_checkRange_0 {d : Nat} {Q : zR → zH → Prop} {p0 : Int32} {p1 : Int32} {p2 : Int32} {h : zH} (H :
    zbr (p0 < p1)
    (∃ h1, znx h = some h1 ∧ Q (.inr 0) h1)
    (zbr (p0 ≤ p2)
      (Q (.inl none) h)
      (∃ h2, znx h = some h2 ∧ Q (.inr 0) h2))) : zW (zE d) zm_X7_checkRange Q (0, [(0, .int p0), (1, .int p1), (2, .int p2)], [], h) := by
  refine zq_iload (pc' := 1) rfl rfl rfl rfl ?_
  refine zq_iload (pc' := 2) rfl rfl rfl rfl ?_
  refine zq_iclt (pc' := 5) rfl rfl rfl rfl (And.intro (fun c => ?_) (fun c => ?_))
  · have H := H.1 c
    obtain ⟨h1, e0, H⟩ := H
    exact zq_throw rfl rfl e0 H
  · have H := H.2 c
    refine zq_iload (pc' := 6) rfl rfl rfl rfl ?_
    refine zq_iload (pc' := 7) rfl rfl rfl rfl ?_
    refine zq_icle (pc' := 10) rfl rfl rfl rfl (And.intro (fun c => ?_) (fun c => ?_))
    · have H := H.1 c
      exact zq_vret rfl H
    · have H := H.2 c
      obtain ⟨h2, e0, H⟩ := H
      exact zq_throw rfl rfl e0 H
theorem zr_X7_trialAt_0 {d : Nat} {Q : zR → zH → Prop} {p0 : Nat} {p1 : Int32} {h : zH} (H :
    zbr (p1 < 0)
    (∃ h1, znx h = some h1 ∧ Q (.inr 1) h1)
    (∃ a2 : Nat, zgf h p0 7 9 = some (.ref a2) ∧
      ∃ x3, zal h a2 = some x3 ∧
      zbr (p1 < x3)
      (∃ a4 : Nat, zgf h p0 7 9 = some (.ref a4) ∧
        ∃ a5, zaa h a4 p1 = some a5 ∧
        Q (.inl (some (.ref a5))) h)
      (∃ h6, znx h = some h6 ∧ Q (.inr 1) h6))) : zW (zE d) zm_X7_trialAt Q (0, [(0, .ref p0), (1, .int p1)], [], h) := by
  refine zq_iload (pc' := 1) rfl rfl rfl rfl ?_
  refine zq_iflt (pc' := 4) rfl rfl rfl rfl (And.intro (fun c => ?_) (fun c => ?_))
  · have H := H.1 c
    obtain ⟨h1, e0, H⟩ := H
    exact zq_throw rfl rfl e0 H
  · have H := H.2 c
    refine zq_iload (pc' := 5) rfl rfl rfl rfl ?_
    refine zq_aload (pc' := 6) rfl rfl rfl rfl ?_
    obtain ⟨a2, e0, H⟩ := H
    refine zq_getR (pc' := 9) rfl rfl rfl e0 ?_
    obtain ⟨x3, e0, H⟩ := H
    refine zq_alen (pc' := 10) rfl rfl rfl e0 ?_
    refine zq_iclt (pc' := 13) rfl rfl rfl rfl (And.intro (fun c => ?_) (fun c => ?_))
    · have H := H.1 c
      refine zq_aload (pc' := 25) rfl rfl rfl rfl ?_
      obtain ⟨a4, e0, H⟩ := H
      refine zq_getR (pc' := 28) rfl rfl rfl e0 ?_
      refine zq_iload (pc' := 29) rfl rfl rfl rfl ?_
      obtain ⟨a5, e0, H⟩ := H
      refine zq_aald (pc' := 30) rfl rfl rfl e0 ?_
      exact zq_aret rfl H
    · have H := H.2 c
      obtain ⟨h6, e0, H⟩ := H
      exact zq_throw rfl rfl e0 H
theorem zr_X7_trialOf_0 {d : Nat} {Q : zR → zH → Prop} {p0 : Nat} {p1 : Int32} {h : zH} (H :
    zE d 201 [.ref p0, .int p1] h (fun r2 h1 => match r2 with
      | .inl v3 => ∃ a5 : Nat, v3 = some (.ref a5) ∧ zE d 206 [.ref p0, .int p1] h1 (fun r7 h6 => match r7 with
          | .inl v8 => ∃ a10 : Nat, v8 = some (.ref a10) ∧ zE d 109 [.ref a10, .ref a5] h6 (fun r12 h11 => match r12 with
              | .inl v13 => v13 = none ∧ Q (.inl (some (.ref a10))) h11
              | .inr e14 => Q (.inr e14) h11)
          | .inr e9 => Q (.inr e9) h6)
      | .inr e4 => Q (.inr e4) h1)) : zW (zE d) zm_X7_trialOf Q (0, [(0, .ref p0), (1, .int p1)], [], h) := by
  refine zq_aload (pc' := 1) rfl rfl rfl rfl ?_
  refine zq_iload (pc' := 2) rfl rfl rfl rfl ?_
  refine zq_callr (pc' := 5) rfl rfl rfl rfl rfl rfl (zE_mono H (fun r2 h1 H => ?_))
  rcases r2 with v3 | e4
  · obtain ⟨a5, e0, H⟩ := H
    refine Exists.intro a5 (And.intro e0 ?_)
    refine zq_astore (pc' := 6) rfl rfl rfl ?_
    refine zq_aload (pc' := 7) rfl rfl rfl rfl ?_
    refine zq_iload (pc' := 8) rfl rfl rfl rfl ?_
    refine zq_callr (pc' := 11) rfl rfl rfl rfl rfl rfl (zE_mono H (fun r7 h6 H => ?_))
    rcases r7 with v8 | e9
    · obtain ⟨a10, e0, H⟩ := H
      refine Exists.intro a10 (And.intro e0 ?_)
      refine zq_astore (pc' := 12) rfl rfl rfl ?_
      refine zq_aload (pc' := 13) rfl rfl rfl rfl ?_
      refine zq_aload (pc' := 14) rfl rfl rfl rfl ?_
      refine zq_callv (pc' := 17) rfl rfl rfl rfl rfl rfl (zE_mono H (fun r12 h11 H => ?_))
      rcases r12 with v13 | e14
      · obtain ⟨e0, H⟩ := H
        refine And.intro e0 ?_
        refine zq_aload (pc' := 18) rfl rfl rfl rfl ?_
        exact zq_aret rfl H
      · exact H
    · exact H
  · exact H
theorem zr_X7_tryAll_0 {d : Nat} {Q : zR → zH → Prop} {p0 : Nat} {h : zH} (H :
    zW (zE d) zm_X7_tryAll Q (2, [(0, .ref p0), (1, .int 0)], [], h)) : zW (zE d) zm_X7_tryAll Q (0, [(0, .ref p0)], [], h) := by
  refine zq_ipush (pc' := 1) rfl rfl rfl ?_
  refine zq_istore_c (pc' := 2) rfl rfl ?_
  exact H
theorem zr_X7_tryAll_2 {d : Nat} {Q : zR → zH → Prop} {l0 : Nat} {l1 : Int32} {h : zH} (H :
    ∃ a1 : Nat, zgf h l0 7 4 = some (.ref a1) ∧
    zE d 46 [.ref a1] h (fun r3 h2 => match r3 with
      | .inl v4 => ∃ x6 : Int32, v4 = some (.int x6) ∧ zbr (x6 ≤ l1)
        (Q (.inl none) h2)
        (zE d 207 [.ref l0, .int l1] h2 (fun r8 h7 => match r8 with
            | .inl v9 => ∃ a11 : Nat, v9 = some (.ref a11) ∧ zW (zE d) zm_X7_tryAll Q (2, [(0, .ref l0), (1, .int (l1 + 1))], [], h7)
            | .inr e10 => Q (.inr e10) h7))
      | .inr e5 => Q (.inr e5) h2)) : zW (zE d) zm_X7_tryAll Q (2, [(0, .ref l0), (1, .int l1)], [], h) := by
  refine zq_iload (pc' := 3) rfl rfl rfl rfl ?_
  refine zq_aload (pc' := 4) rfl rfl rfl rfl ?_
  obtain ⟨a1, e0, H⟩ := H
  refine zq_getR (pc' := 7) rfl rfl rfl e0 ?_
  refine zq_calli (pc' := 10) rfl rfl rfl rfl rfl rfl (zE_mono H (fun r3 h2 H => ?_))
  rcases r3 with v4 | e5
  · obtain ⟨x6, e0, H⟩ := H
    refine Exists.intro x6 (And.intro e0 ?_)
    refine zq_icge (pc' := 13) rfl rfl rfl rfl (And.intro (fun c => ?_) (fun c => ?_))
    · have H := H.1 c
      exact zq_vret rfl H
    · have H := H.2 c
      refine zq_aload (pc' := 14) rfl rfl rfl rfl ?_
      refine zq_iload (pc' := 15) rfl rfl rfl rfl ?_
      refine zq_callr (pc' := 18) rfl rfl rfl rfl rfl rfl (zE_mono H (fun r8 h7 H => ?_))
      rcases r8 with v9 | e10
      · obtain ⟨a11, e0, H⟩ := H
        refine Exists.intro a11 (And.intro e0 ?_)
        refine zq_pop (pc' := 19) rfl rfl rfl rfl ?_
        refine zq_iinc (pc' := 22) rfl rfl rfl rfl ?_
        refine zq_goto_c (pc' := 2) rfl rfl ?_
        exact H
      · exact H
  · exact H
theorem zr_X7_passAll_0 {d : Nat} {Q : zR → zH → Prop} {p0 : Nat} {p1 : Int32} {h : zH} (H :
    zW (zE d) zm_X7_passAll Q (4, [(0, .ref p0), (1, .int p1), (2, .int 0), (3, .int 0)], [], h)) : zW (zE d) zm_X7_passAll Q (0, [(0, .ref p0), (1, .int p1)], [], h) := by
  refine zq_ipush (pc' := 1) rfl rfl rfl ?_
  refine zq_istore (pc' := 2) rfl rfl rfl ?_
  refine zq_ipush (pc' := 3) rfl rfl rfl ?_
  refine zq_istore_c (pc' := 4) rfl rfl ?_
  exact H
theorem zr_X7_passAll_4 {d : Nat} {Q : zR → zH → Prop} {l0 : Nat} {l1 : Int32} {l2 : Int32} {l3 : Int32} {h : zH} (H :
    ∃ a1 : Nat, zgf h l0 7 4 = some (.ref a1) ∧
    zE d 46 [.ref a1] h (fun r3 h2 => match r3 with
      | .inl v4 => ∃ x6 : Int32, v4 = some (.int x6) ∧ zbr (x6 ≤ l3)
        (Q (.inl (some (.int l2))) h2)
        (zE d 206 [.ref l0, .int l3] h2 (fun r8 h7 => match r8 with
            | .inl v9 => ∃ a11 : Nat, v9 = some (.ref a11) ∧ zE d 210 [.ref l0, .ref a11, .int l1] h7 (fun r13 h12 => match r13 with
                | .inl v14 => ∃ x16 : Int32, v14 = some (.int x16) ∧ zE d 0 [.int x16] h12 (fun r18 h17 => match r18 with
                    | .inl v19 => ∃ x21 : Int32, v19 = some (.int x21) ∧ zW (zE d) zm_X7_passAll Q (4, [(0, .ref l0), (1, .int l1), (2, .int (l2 + x21)), (3, .int (l3 + 1))], [], h17)
                    | .inr e20 => Q (.inr e20) h17)
                | .inr e15 => Q (.inr e15) h12)
            | .inr e10 => Q (.inr e10) h7))
      | .inr e5 => Q (.inr e5) h2)) : zW (zE d) zm_X7_passAll Q (4, [(0, .ref l0), (1, .int l1), (2, .int l2), (3, .int l3)], [], h) := by
  refine zq_iload (pc' := 5) rfl rfl rfl rfl ?_
  refine zq_aload (pc' := 6) rfl rfl rfl rfl ?_
  obtain ⟨a1, e0, H⟩ := H
  refine zq_getR (pc' := 9) rfl rfl rfl e0 ?_
  refine zq_calli (pc' := 12) rfl rfl rfl rfl rfl rfl (zE_mono H (fun r3 h2 H => ?_))
  rcases r3 with v4 | e5
  · obtain ⟨x6, e0, H⟩ := H
    refine Exists.intro x6 (And.intro e0 ?_)
    refine zq_icge (pc' := 15) rfl rfl rfl rfl (And.intro (fun c => ?_) (fun c => ?_))
    · have H := H.1 c
      refine zq_iload (pc' := 38) rfl rfl rfl rfl ?_
      exact zq_iret rfl trivial H
    · have H := H.2 c
      refine zq_iload (pc' := 16) rfl rfl rfl rfl ?_
      refine zq_aload (pc' := 17) rfl rfl rfl rfl ?_
      refine zq_aload (pc' := 18) rfl rfl rfl rfl ?_
      refine zq_iload (pc' := 19) rfl rfl rfl rfl ?_
      refine zq_callr (pc' := 22) rfl rfl rfl rfl rfl rfl (zE_mono H (fun r8 h7 H => ?_))
      rcases r8 with v9 | e10
      · obtain ⟨a11, e0, H⟩ := H
        refine Exists.intro a11 (And.intro e0 ?_)
        refine zq_iload (pc' := 23) rfl rfl rfl rfl ?_
        refine zq_calli (pc' := 26) rfl rfl rfl rfl rfl rfl (zE_mono H (fun r13 h12 H => ?_))
        rcases r13 with v14 | e15
        · obtain ⟨x16, e0, H⟩ := H
          refine Exists.intro x16 (And.intro e0 ?_)
          refine zq_calli (pc' := 29) rfl rfl rfl rfl rfl rfl (zE_mono H (fun r18 h17 H => ?_))
          rcases r18 with v19 | e20
          · obtain ⟨x21, e0, H⟩ := H
            refine Exists.intro x21 (And.intro e0 ?_)
            refine zq_iadd (pc' := 30) rfl rfl rfl ?_
            refine zq_istore (pc' := 31) rfl rfl rfl ?_
            refine zq_iinc (pc' := 34) rfl rfl rfl rfl ?_
            refine zq_goto_c (pc' := 4) rfl rfl ?_
            exact H
          · exact H
        · exact H
      · exact H
  · exact H
theorem zr_X7_passDay_0 {d : Nat} {Q : zR → zH → Prop} {p0 : Nat} {p1 : Nat} {p2 : Int32} {h : zH} (H :
    ∃ a1 : Nat, zgf h p0 7 4 = some (.ref a1) ∧
    zE d 49 [.ref a1] h (fun r3 h2 => match r3 with
      | .inl v4 => ∃ x6 : Int32, v4 = some (.int x6) ∧ ∃ a7 : Nat, zgf h2 p0 7 4 = some (.ref a7) ∧
        ∃ a8 : Nat, zgf h2 p0 7 4 = some (.ref a8) ∧
        zE d 53 [.ref a8, .int (x6 + p2)] h2 (fun r10 h9 => match r10 with
          | .inl v11 => ∃ x13 : Int32, v11 = some (.int x13) ∧ zE d 58 [.ref a7, .ref p1, .int x13, .int (x6 + p2)] h9 (fun r15 h14 => match r15 with
              | .inl v16 => ∃ x18 : Int32, v16 = some (.int x18) ∧ Q (.inl (some (.int x18))) h14
              | .inr e17 => Q (.inr e17) h14)
          | .inr e12 => Q (.inr e12) h9)
      | .inr e5 => Q (.inr e5) h2)) : zW (zE d) zm_X7_passDay Q (0, [(0, .ref p0), (1, .ref p1), (2, .int p2)], [], h) := by
  refine zq_aload (pc' := 1) rfl rfl rfl rfl ?_
  obtain ⟨a1, e0, H⟩ := H
  refine zq_getR (pc' := 4) rfl rfl rfl e0 ?_
  refine zq_calli (pc' := 7) rfl rfl rfl rfl rfl rfl (zE_mono H (fun r3 h2 H => ?_))
  rcases r3 with v4 | e5
  · obtain ⟨x6, e0, H⟩ := H
    refine Exists.intro x6 (And.intro e0 ?_)
    refine zq_iload (pc' := 8) rfl rfl rfl rfl ?_
    refine zq_iadd (pc' := 9) rfl rfl rfl ?_
    refine zq_istore (pc' := 10) rfl rfl rfl ?_
    refine zq_aload (pc' := 11) rfl rfl rfl rfl ?_
    obtain ⟨a7, e0, H⟩ := H
    refine zq_getR (pc' := 14) rfl rfl rfl e0 ?_
    refine zq_aload (pc' := 15) rfl rfl rfl rfl ?_
    refine zq_aload (pc' := 16) rfl rfl rfl rfl ?_
    obtain ⟨a8, e0, H⟩ := H
    refine zq_getR (pc' := 19) rfl rfl rfl e0 ?_
    refine zq_iload (pc' := 20) rfl rfl rfl rfl ?_
    refine zq_calli (pc' := 23) rfl rfl rfl rfl rfl rfl (zE_mono H (fun r10 h9 H => ?_))
    rcases r10 with v11 | e12
    · obtain ⟨x13, e0, H⟩ := H
      refine Exists.intro x13 (And.intro e0 ?_)
      refine zq_iload (pc' := 24) rfl rfl rfl rfl ?_
      refine zq_calli (pc' := 27) rfl rfl rfl rfl rfl rfl (zE_mono H (fun r15 h14 H => ?_))
      rcases r15 with v16 | e17
      · obtain ⟨x18, e0, H⟩ := H
        refine Exists.intro x18 (And.intro e0 ?_)
        exact zq_iret rfl trivial H
      · exact H
    · exact H
  · exact H
theorem zr_X7_passDays_0 {d : Nat} {Q : zR → zH → Prop} {p0 : Nat} {p1 : Nat} {p2 : Int32} {h : zH} (H :
    zW (zE d) zm_X7_passDays Q (5, [(0, .ref p0), (1, .ref p1), (2, .int p2), (3, .int 0), (4, .int 0)], [], h)) : zW (zE d) zm_X7_passDays Q (0, [(0, .ref p0), (1, .ref p1), (2, .int p2)], [], h) := by
  refine zq_ipush (pc' := 1) rfl rfl rfl ?_
  refine zq_istore (pc' := 2) rfl rfl rfl ?_
  refine zq_ipush (pc' := 3) rfl rfl rfl ?_
  refine zq_istore_c (pc' := 5) rfl rfl ?_
  exact H
theorem zr_X7_passDays_5 {d : Nat} {Q : zR → zH → Prop} {l0 : Nat} {l1 : Nat} {l2 : Int32} {l3 : Int32} {l4 : Int32} {h : zH} (H :
    zbr (l2 ≤ l4)
    (Q (.inl (some (.int l3))) h)
    (zE d 115 [.ref l1] h (fun r2 h1 => match r2 with
        | .inl v3 => ∃ x5 : Int32, v3 = some (.int x5) ∧ zbr (x5 = 0)
          (Q (.inl (some (.int l3))) h1)
          (∃ a6 : Nat, zgf h1 l0 7 4 = some (.ref a6) ∧
            zE d 49 [.ref a6] h1 (fun r8 h7 => match r8 with
              | .inl v9 => ∃ x11 : Int32, v9 = some (.int x11) ∧ ∃ a12 : Nat, zgf h7 l0 7 4 = some (.ref a12) ∧
                ∃ a13 : Nat, zgf h7 l0 7 4 = some (.ref a13) ∧
                zE d 53 [.ref a13, .int (x11 + l4)] h7 (fun r15 h14 => match r15 with
                  | .inl v16 => ∃ x18 : Int32, v16 = some (.int x18) ∧ zE d 58 [.ref a12, .ref l1, .int x18, .int (x11 + l4)] h14 (fun r20 h19 => match r20 with
                      | .inl v21 => ∃ x23 : Int32, v21 = some (.int x23) ∧ zE d 0 [.int x23] h19 (fun r25 h24 => match r25 with
                          | .inl v26 => ∃ x28 : Int32, v26 = some (.int x28) ∧ zW (zE d) zm_X7_passDays Q (5, [(0, .ref l0), (1, .ref l1), (2, .int l2), (3, .int (l3 + x28)), (4, .int (l4 + 1))], [], h24)
                          | .inr e27 => Q (.inr e27) h24)
                      | .inr e22 => Q (.inr e22) h19)
                  | .inr e17 => Q (.inr e17) h14)
              | .inr e10 => Q (.inr e10) h7))
        | .inr e4 => Q (.inr e4) h1))) : zW (zE d) zm_X7_passDays Q (5, [(0, .ref l0), (1, .ref l1), (2, .int l2), (3, .int l3), (4, .int l4)], [], h) := by
  refine zq_iload (pc' := 7) rfl rfl rfl rfl ?_
  refine zq_iload (pc' := 8) rfl rfl rfl rfl ?_
  refine zq_icge (pc' := 11) rfl rfl rfl rfl (And.intro (fun c => ?_) (fun c => ?_))
  · have H := H.1 c
    refine zq_iload (pc' := 62) rfl rfl rfl rfl ?_
    exact zq_iret rfl trivial H
  · have H := H.2 c
    refine zq_aload (pc' := 12) rfl rfl rfl rfl ?_
    refine zq_calli (pc' := 15) rfl rfl rfl rfl rfl rfl (zE_mono H (fun r2 h1 H => ?_))
    rcases r2 with v3 | e4
    · obtain ⟨x5, e0, H⟩ := H
      refine Exists.intro x5 (And.intro e0 ?_)
      refine zq_ifeq (pc' := 18) rfl rfl rfl rfl (And.intro (fun c => ?_) (fun c => ?_))
      · have H := H.1 c
        refine zq_iload (pc' := 62) rfl rfl rfl rfl ?_
        exact zq_iret rfl trivial H
      · have H := H.2 c
        refine zq_aload (pc' := 19) rfl rfl rfl rfl ?_
        obtain ⟨a6, e0, H⟩ := H
        refine zq_getR (pc' := 22) rfl rfl rfl e0 ?_
        refine zq_calli (pc' := 25) rfl rfl rfl rfl rfl rfl (zE_mono H (fun r8 h7 H => ?_))
        rcases r8 with v9 | e10
        · obtain ⟨x11, e0, H⟩ := H
          refine Exists.intro x11 (And.intro e0 ?_)
          refine zq_iload (pc' := 27) rfl rfl rfl rfl ?_
          refine zq_iadd (pc' := 28) rfl rfl rfl ?_
          refine zq_istore (pc' := 30) rfl rfl rfl ?_
          refine zq_iload (pc' := 31) rfl rfl rfl rfl ?_
          refine zq_aload (pc' := 32) rfl rfl rfl rfl ?_
          obtain ⟨a12, e0, H⟩ := H
          refine zq_getR (pc' := 35) rfl rfl rfl e0 ?_
          refine zq_aload (pc' := 36) rfl rfl rfl rfl ?_
          refine zq_aload (pc' := 37) rfl rfl rfl rfl ?_
          obtain ⟨a13, e0, H⟩ := H
          refine zq_getR (pc' := 40) rfl rfl rfl e0 ?_
          refine zq_iload (pc' := 42) rfl rfl rfl rfl ?_
          refine zq_calli (pc' := 45) rfl rfl rfl rfl rfl rfl (zE_mono H (fun r15 h14 H => ?_))
          rcases r15 with v16 | e17
          · obtain ⟨x18, e0, H⟩ := H
            refine Exists.intro x18 (And.intro e0 ?_)
            refine zq_iload (pc' := 47) rfl rfl rfl rfl ?_
            refine zq_calli (pc' := 50) rfl rfl rfl rfl rfl rfl (zE_mono H (fun r20 h19 H => ?_))
            rcases r20 with v21 | e22
            · obtain ⟨x23, e0, H⟩ := H
              refine Exists.intro x23 (And.intro e0 ?_)
              refine zq_calli (pc' := 53) rfl rfl rfl rfl rfl rfl (zE_mono H (fun r25 h24 H => ?_))
              rcases r25 with v26 | e27
              · obtain ⟨x28, e0, H⟩ := H
                refine Exists.intro x28 (And.intro e0 ?_)
                refine zq_iadd (pc' := 54) rfl rfl rfl ?_
                refine zq_istore (pc' := 55) rfl rfl rfl ?_
                refine zq_iinc (pc' := 58) rfl rfl rfl rfl ?_
                refine zq_goto_c (pc' := 5) rfl rfl ?_
                exact H
              · exact H
            · exact H
          · exact H
        · exact H
    · exact H
theorem zr_X7_closedBehind_0 {d : Nat} {Q : zR → zH → Prop} {p0 : Nat} {p1 : Nat} {p2 : Int32} {h : zH} (H :
    zE d 211 [.ref p0, .ref p1, .int p2] h (fun r2 h1 => match r2 with
      | .inl v3 => ∃ x5 : Int32, v3 = some (.int x5) ∧ zE d 116 [.ref p1] h1 (fun r7 h6 => match r7 with
          | .inl v8 => ∃ x10 : Int32, v8 = some (.int x10) ∧ Q (.inl (some (.int x10))) h6
          | .inr e9 => Q (.inr e9) h6)
      | .inr e4 => Q (.inr e4) h1)) : zW (zE d) zm_X7_closedBehind Q (0, [(0, .ref p0), (1, .ref p1), (2, .int p2)], [], h) := by
  refine zq_aload (pc' := 1) rfl rfl rfl rfl ?_
  refine zq_aload (pc' := 2) rfl rfl rfl rfl ?_
  refine zq_iload (pc' := 3) rfl rfl rfl rfl ?_
  refine zq_calli (pc' := 6) rfl rfl rfl rfl rfl rfl (zE_mono H (fun r2 h1 H => ?_))
  rcases r2 with v3 | e4
  · obtain ⟨x5, e0, H⟩ := H
    refine Exists.intro x5 (And.intro e0 ?_)
    refine zq_pop (pc' := 7) rfl rfl rfl rfl ?_
    refine zq_aload (pc' := 8) rfl rfl rfl rfl ?_
    refine zq_calli (pc' := 11) rfl rfl rfl rfl rfl rfl (zE_mono H (fun r7 h6 H => ?_))
    rcases r7 with v8 | e9
    · obtain ⟨x10, e0, H⟩ := H
      refine Exists.intro x10 (And.intro e0 ?_)
      exact zq_iret rfl trivial H
    · exact H
  · exact H
