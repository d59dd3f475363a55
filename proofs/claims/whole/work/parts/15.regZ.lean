theorem zr_X1_init_0 {d : Nat} {Q : zR → zH → Prop} {p0 : Nat} {h : zH} (H :
    Q (.inl none) h) : zW (zE d) zm_X1_init Q (0, [(0, .ref p0)], [], h) := by
  refine zq_aload (pc' := 1) rfl rfl rfl rfl ?_
  refine zq_nop (pc' := 4) rfl rfl rfl rfl rfl ?_
  exact zq_vret rfl H
theorem zr_X1_take_0 {d : Nat} {Q : zR → zH → Prop} {p0 : Nat} {p1 : Int32} {h : zH} (H :
    ∃ h1, zpf h p0 1 0 (.int p1) = some h1 ∧
    Q (.inl none) h1) : zW (zE d) zm_X1_take Q (0, [(0, .ref p0), (1, .int p1)], [], h) := by
  refine zq_aload (pc' := 1) rfl rfl rfl rfl ?_
  refine zq_iload (pc' := 2) rfl rfl rfl rfl ?_
  obtain ⟨h1, e0, H⟩ := H
  refine zq_put (pc' := 5) rfl rfl rfl trivial e0 ?_
  exact zq_vret rfl H
theorem zr_X1_draw_0 {d : Nat} {Q : zR → zH → Prop} {p0 : Nat} {p1 : Int32} {h : zH} (H :
    ∃ x1 : Int32, zgf h p0 1 0 = some (.int x1) ∧
    ∃ h2, zpf h p0 1 0 (.int ((x1 * 1103515245) + 12345)) = some h2 ∧
    zbr (p1 ≤ 0)
    (Q (.inl (some (.int 0))) h2)
    (∃ x3 : Int32, zgf h2 p0 1 0 = some (.int x3) ∧
      ¬ p1 = 0 ∧ Q (.inl (some (.int (((((x3 : Int32).toUInt32 >>> ((16 : Int32).toUInt32 &&& Int32.toUInt32 31)).toInt32) &&& 32767) - ((((x3 : Int32).toUInt32 >>> ((16 : Int32).toUInt32 &&& Int32.toUInt32 31)).toInt32) &&& 32767) / p1 * p1)))) h2)) : zW (zE d) zm_X1_draw Q (0, [(0, .ref p0), (1, .int p1)], [], h) := by
  refine zq_aload (pc' := 1) rfl rfl rfl rfl ?_
  refine zq_aload (pc' := 2) rfl rfl rfl rfl ?_
  obtain ⟨x1, e0, H⟩ := H
  refine zq_getI (pc' := 5) rfl rfl rfl e0 ?_
  refine zq_ipush (pc' := 7) rfl rfl rfl ?_
  refine zq_imul (pc' := 8) rfl rfl rfl ?_
  refine zq_ipush (pc' := 11) rfl rfl rfl ?_
  refine zq_iadd (pc' := 12) rfl rfl rfl ?_
  obtain ⟨h2, e0, H⟩ := H
  refine zq_put (pc' := 15) rfl rfl rfl trivial e0 ?_
  refine zq_iload (pc' := 16) rfl rfl rfl rfl ?_
  refine zq_ifle (pc' := 19) rfl rfl rfl rfl (And.intro (fun c => ?_) (fun c => ?_))
  · have H := H.1 c
    refine zq_ipush (pc' := 36) rfl rfl rfl ?_
    exact zq_iret rfl trivial H
  · have H := H.2 c
    refine zq_aload (pc' := 20) rfl rfl rfl rfl ?_
    obtain ⟨x3, e0, H⟩ := H
    refine zq_getI (pc' := 23) rfl rfl rfl e0 ?_
    refine zq_ipush (pc' := 25) rfl rfl rfl ?_
    refine zq_iushr (pc' := 26) rfl rfl rfl ?_
    refine zq_ipush (pc' := 29) rfl rfl rfl ?_
    refine zq_iand (pc' := 30) rfl rfl rfl ?_
    refine zq_iload (pc' := 31) rfl rfl rfl rfl ?_
    obtain ⟨e0, H⟩ := H
    refine zq_irem (pc' := 32) rfl rfl rfl e0 ?_
    refine zq_goto (pc' := 36) rfl rfl rfl ?_
    exact zq_iret rfl trivial H
theorem zr_X4_init_0 {d : Nat} {Q : zR → zH → Prop} {p0 : Nat} {p1 : Nat} {h : zH} (H :
    ∃ h1, zpf h p0 4 0 (.ref p1) = some h1 ∧
    ∃ h2, zpf h1 p0 4 1 (.int 0) = some h2 ∧
    ∃ h3, zpf h2 p0 4 2 (.int 0) = some h3 ∧
    ∃ h4, zpf h3 p0 4 3 (.int 0) = some h4 ∧
    ∃ h5, zpf h4 p0 4 4 (.int 0) = some h5 ∧
    ∃ h6, zna h5 0 40 = some h6 ∧
    ∃ h7, zpf h6 p0 4 5 (.ref (999 + h5.1)) = some h7 ∧
    Q (.inl none) h7) : zW (zE d) zm_X4_init Q (0, [(0, .ref p0), (1, .ref p1)], [], h) := by
  refine zq_aload (pc' := 1) rfl rfl rfl rfl ?_
  refine zq_nop (pc' := 4) rfl rfl rfl rfl rfl ?_
  refine zq_aload (pc' := 5) rfl rfl rfl rfl ?_
  refine zq_aload (pc' := 6) rfl rfl rfl rfl ?_
  obtain ⟨h1, e0, H⟩ := H
  refine zq_put (pc' := 9) rfl rfl rfl trivial e0 ?_
  refine zq_aload (pc' := 10) rfl rfl rfl rfl ?_
  refine zq_ipush (pc' := 11) rfl rfl rfl ?_
  obtain ⟨h2, e0, H⟩ := H
  refine zq_put (pc' := 14) rfl rfl rfl trivial e0 ?_
  refine zq_aload (pc' := 15) rfl rfl rfl rfl ?_
  refine zq_ipush (pc' := 16) rfl rfl rfl ?_
  obtain ⟨h3, e0, H⟩ := H
  refine zq_put (pc' := 19) rfl rfl rfl trivial e0 ?_
  refine zq_aload (pc' := 20) rfl rfl rfl rfl ?_
  refine zq_ipush (pc' := 21) rfl rfl rfl ?_
  obtain ⟨h4, e0, H⟩ := H
  refine zq_put (pc' := 24) rfl rfl rfl (Or.inl rfl) e0 ?_
  refine zq_aload (pc' := 25) rfl rfl rfl rfl ?_
  refine zq_ipush (pc' := 26) rfl rfl rfl ?_
  obtain ⟨h5, e0, H⟩ := H
  refine zq_put (pc' := 29) rfl rfl rfl (Or.inl rfl) e0 ?_
  refine zq_aload (pc' := 30) rfl rfl rfl rfl ?_
  refine zq_ipush (pc' := 32) rfl rfl rfl ?_
  obtain ⟨h6, e0, H⟩ := H
  refine zq_newa (pc' := 34) rfl rfl rfl e0 ?_
  obtain ⟨h7, e0, H⟩ := H
  refine zq_put (pc' := 37) rfl rfl rfl trivial e0 ?_
  exact zq_vret rfl H
theorem zr_X4_untell_0 {d : Nat} {Q : zR → zH → Prop} {p0 : Nat} {h : zH} (H :
    ∃ h1, zpf h p0 4 3 (.int 0) = some h1 ∧
    ∃ h2, zpf h1 p0 4 4 (.int 0) = some h2 ∧
    Q (.inl none) h2) : zW (zE d) zm_X4_untell Q (0, [(0, .ref p0)], [], h) := by
  refine zq_aload (pc' := 1) rfl rfl rfl rfl ?_
  refine zq_ipush (pc' := 2) rfl rfl rfl ?_
  obtain ⟨h1, e0, H⟩ := H
  refine zq_put (pc' := 5) rfl rfl rfl (Or.inl rfl) e0 ?_
  refine zq_aload (pc' := 6) rfl rfl rfl rfl ?_
  refine zq_ipush (pc' := 7) rfl rfl rfl ?_
  obtain ⟨h2, e0, H⟩ := H
  refine zq_put (pc' := 10) rfl rfl rfl (Or.inl rfl) e0 ?_
  exact zq_vret rfl H
theorem zr_X4_isTold_0 {d : Nat} {Q : zR → zH → Prop} {p0 : Nat} {h : zH} (H :
    ∃ x1 : Int32, zgf h p0 4 3 = some (.int x1) ∧
    (x1 = 0 ∨ x1 = 1) ∧ Q (.inl (some (.int x1))) h) : zW (zE d) zm_X4_isTold Q (0, [(0, .ref p0)], [], h) := by
  refine zq_aload (pc' := 1) rfl rfl rfl rfl ?_
  obtain ⟨x1, e0, H⟩ := H
  refine zq_getI (pc' := 4) rfl rfl rfl e0 ?_
  exact zq_iret rfl H.1 H.2
theorem zr_X4_tell_0 {d : Nat} {Q : zR → zH → Prop} {p0 : Nat} {p1 : Int32} {p2 : Int32} {h : zH} (H :
    ∃ h1, zpf h p0 4 1 (.int p1) = some h1 ∧
    ∃ h2, zpf h1 p0 4 2 (.int p2) = some h2 ∧
    ∃ h3, zpf h2 p0 4 3 (.int 1) = some h3 ∧
    ∃ x4 : Int32, zgf h3 p0 4 1 = some (.int x4) ∧
    zE d 2 [.int 0, .int x4] h3 (fun r6 h5 => match r6 with
      | .inl v7 => ∃ x9 : Int32, v7 = some (.int x9) ∧ zW (zE d) zm_X4_tell Q (24, [(0, .ref p0), (3, .int x9)], [], h5)
      | .inr e8 => Q (.inr e8) h5)) : zW (zE d) zm_X4_tell Q (0, [(0, .ref p0), (1, .int p1), (2, .int p2)], [], h) := by
  refine zq_aload (pc' := 1) rfl rfl rfl rfl ?_
  refine zq_iload (pc' := 2) rfl rfl rfl rfl ?_
  obtain ⟨h1, e0, H⟩ := H
  refine zq_put (pc' := 5) rfl rfl rfl trivial e0 ?_
  refine zq_aload (pc' := 6) rfl rfl rfl rfl ?_
  refine zq_iload (pc' := 7) rfl rfl rfl rfl ?_
  obtain ⟨h2, e0, H⟩ := H
  refine zq_put (pc' := 10) rfl rfl rfl trivial e0 ?_
  refine zq_aload (pc' := 11) rfl rfl rfl rfl ?_
  refine zq_ipush (pc' := 12) rfl rfl rfl ?_
  obtain ⟨h3, e0, H⟩ := H
  refine zq_put (pc' := 15) rfl rfl rfl (Or.inr rfl) e0 ?_
  refine zq_ipush (pc' := 16) rfl rfl rfl ?_
  refine zq_aload (pc' := 17) rfl rfl rfl rfl ?_
  obtain ⟨x4, e0, H⟩ := H
  refine zq_getI (pc' := 20) rfl rfl rfl e0 ?_
  refine zq_calli (pc' := 23) rfl rfl rfl rfl rfl rfl (zE_mono H (fun r6 h5 H => ?_))
  rcases r6 with v7 | e8
  · obtain ⟨x9, e0, H⟩ := H
    refine Exists.intro x9 (And.intro e0 ?_)
    refine zq_istore_c (pc' := 24) rfl rfl ?_
    exact H
  · exact H
theorem zr_X4_tell_24 {d : Nat} {Q : zR → zH → Prop} {l0 : Nat} {l3 : Int32} {h : zH} (H :
    ∃ x1 : Int32, zgf h l0 4 2 = some (.int x1) ∧
    zbr (x1 ≤ l3)
    (Q (.inl none) h)
    (∃ a2 : Nat, zgf h l0 4 0 = some (.ref a2) ∧
      ∃ x3, zal h a2 = some x3 ∧
      zbr (x3 ≤ l3)
      (Q (.inl none) h)
      (∃ x4 : Int32, zgf h l0 4 4 = some (.int x4) ∧
        zbr (x4 = 0)
        (∃ a5 : Nat, zgf h l0 4 0 = some (.ref a5) ∧
          ∃ x6, zia h a5 l3 = some x6 ∧
          zbr (x6 = (-4))
          (∃ h7, zpf h l0 4 4 (.int 1) = some h7 ∧
            zW (zE d) zm_X4_tell Q (24, [(0, .ref l0), (3, .int (l3 + 1))], [], h7))
          (∃ h8, zpf h l0 4 4 (.int 0) = some h8 ∧
            zW (zE d) zm_X4_tell Q (24, [(0, .ref l0), (3, .int (l3 + 1))], [], h8)))
        (∃ h9, zpf h l0 4 4 (.int 1) = some h9 ∧
          zW (zE d) zm_X4_tell Q (24, [(0, .ref l0), (3, .int (l3 + 1))], [], h9))))) : zW (zE d) zm_X4_tell Q (24, [(0, .ref l0), (3, .int l3)], [], h) := by
  refine zq_iload (pc' := 25) rfl rfl rfl rfl ?_
  refine zq_aload (pc' := 26) rfl rfl rfl rfl ?_
  obtain ⟨x1, e0, H⟩ := H
  refine zq_getI (pc' := 29) rfl rfl rfl e0 ?_
  refine zq_icge (pc' := 32) rfl rfl rfl rfl (And.intro (fun c => ?_) (fun c => ?_))
  · have H := H.1 c
    exact zq_vret rfl H
  · have H := H.2 c
    refine zq_iload (pc' := 33) rfl rfl rfl rfl ?_
    refine zq_aload (pc' := 34) rfl rfl rfl rfl ?_
    obtain ⟨a2, e0, H⟩ := H
    refine zq_getR (pc' := 37) rfl rfl rfl e0 ?_
    obtain ⟨x3, e0, H⟩ := H
    refine zq_alen (pc' := 38) rfl rfl rfl e0 ?_
    refine zq_icge (pc' := 41) rfl rfl rfl rfl (And.intro (fun c => ?_) (fun c => ?_))
    · have H := H.1 c
      exact zq_vret rfl H
    · have H := H.2 c
      refine zq_aload (pc' := 42) rfl rfl rfl rfl ?_
      refine zq_aload (pc' := 43) rfl rfl rfl rfl ?_
      obtain ⟨x4, e0, H⟩ := H
      refine zq_getI (pc' := 46) rfl rfl rfl e0 ?_
      refine zq_ifne (pc' := 49) rfl rfl rfl rfl (And.intro (fun c => ?_) (fun c => ?_))
      · have H := H.1 c
        refine zq_aload (pc' := 50) rfl rfl rfl rfl ?_
        obtain ⟨a5, e0, H⟩ := H
        refine zq_getR (pc' := 53) rfl rfl rfl e0 ?_
        refine zq_iload (pc' := 54) rfl rfl rfl rfl ?_
        obtain ⟨x6, e0, H⟩ := H
        refine zq_iald (pc' := 55) rfl rfl rfl e0 ?_
        refine zq_ipushn (pc' := 57) rfl rfl rfl ?_
        refine zq_icne (pc' := 60) rfl rfl rfl rfl (And.intro (fun c => ?_) (fun c => ?_))
        · have H := H.1 c
          refine zq_ipush (pc' := 61) rfl rfl rfl ?_
          refine zq_goto (pc' := 65) rfl rfl rfl ?_
          obtain ⟨h7, e0, H⟩ := H
          refine zq_put (pc' := 68) rfl rfl rfl (Or.inr rfl) e0 ?_
          refine zq_iinc (pc' := 71) rfl rfl rfl rfl ?_
          refine zq_goto_c (pc' := 24) rfl rfl ?_
          exact H
        · have H := H.2 c
          refine zq_ipush (pc' := 65) rfl rfl rfl ?_
          obtain ⟨h8, e0, H⟩ := H
          refine zq_put (pc' := 68) rfl rfl rfl (Or.inl rfl) e0 ?_
          refine zq_iinc (pc' := 71) rfl rfl rfl rfl ?_
          refine zq_goto_c (pc' := 24) rfl rfl ?_
          exact H
      · have H := H.2 c
        refine zq_ipush (pc' := 61) rfl rfl rfl ?_
        refine zq_goto (pc' := 65) rfl rfl rfl ?_
        obtain ⟨h9, e0, H⟩ := H
        refine zq_put (pc' := 68) rfl rfl rfl (Or.inr rfl) e0 ?_
        refine zq_iinc (pc' := 71) rfl rfl rfl rfl ?_
        refine zq_goto_c (pc' := 24) rfl rfl ?_
        exact H
theorem zr_X4_asksForDay_0 {d : Nat} {Q : zR → zH → Prop} {p0 : Nat} {h : zH} (H :
    ∃ x1 : Int32, zgf h p0 4 4 = some (.int x1) ∧
    (x1 = 0 ∨ x1 = 1) ∧ Q (.inl (some (.int x1))) h) : zW (zE d) zm_X4_asksForDay Q (0, [(0, .ref p0)], [], h) := by
  refine zq_aload (pc' := 1) rfl rfl rfl rfl ?_
  obtain ⟨x1, e0, H⟩ := H
  refine zq_getI (pc' := 4) rfl rfl rfl e0 ?_
  exact zq_iret rfl H.1 H.2
theorem zr_X4_value_0 {d : Nat} {Q : zR → zH → Prop} {p0 : Nat} {p1 : Int32} {p2 : Int32} {p3 : Int32} {p4 : Int32} {p5 : Int32} {h : zH} (H :
    ∃ x1 : Int32, zgf h p0 4 1 = some (.int x1) ∧
    zE d 2 [.int 0, .int x1] h (fun r3 h2 => match r3 with
      | .inl v4 => ∃ x6 : Int32, v4 = some (.int x6) ∧ zW (zE d) zm_X4_value Q (13, [(0, .ref p0), (1, .int p1), (2, .int p2), (3, .int p3), (4, .int p4), (5, .int p5), (6, .int 0), (7, .int x6)], [], h2)
      | .inr e5 => Q (.inr e5) h2)) : zW (zE d) zm_X4_value Q (0, [(0, .ref p0), (1, .int p1), (2, .int p2), (3, .int p3), (4, .int p4), (5, .int p5)], [], h) := by
  refine zq_ipush (pc' := 1) rfl rfl rfl ?_
  refine zq_istore (pc' := 3) rfl rfl rfl ?_
  refine zq_ipush (pc' := 4) rfl rfl rfl ?_
  refine zq_aload (pc' := 5) rfl rfl rfl rfl ?_
  obtain ⟨x1, e0, H⟩ := H
  refine zq_getI (pc' := 8) rfl rfl rfl e0 ?_
  refine zq_calli (pc' := 11) rfl rfl rfl rfl rfl rfl (zE_mono H (fun r3 h2 H => ?_))
  rcases r3 with v4 | e5
  · obtain ⟨x6, e0, H⟩ := H
    refine Exists.intro x6 (And.intro e0 ?_)
    refine zq_istore_c (pc' := 13) rfl rfl ?_
    exact H
  · exact H
theorem zr_X4_value_13 {d : Nat} {Q : zR → zH → Prop} {l0 : Nat} {l1 : Int32} {l2 : Int32} {l3 : Int32} {l4 : Int32} {l5 : Int32} {l6 : Int32} {l7 : Int32} {h : zH} (H :
    ∃ x1 : Int32, zgf h l0 4 2 = some (.int x1) ∧
    zbr (x1 ≤ l7)
    (∃ a2 : Nat, zgf h l0 4 5 = some (.ref a2) ∧
      ∃ x3, zia h a2 0 = some x3 ∧
      Q (.inl (some (.int x3))) h)
    (∃ a4 : Nat, zgf h l0 4 0 = some (.ref a4) ∧
      ∃ x5, zal h a4 = some x5 ∧
      zbr (x5 ≤ l7)
      (∃ a6 : Nat, zgf h l0 4 5 = some (.ref a6) ∧
        ∃ x7, zia h a6 0 = some x7 ∧
        Q (.inl (some (.int x7))) h)
      (∃ a8 : Nat, zgf h l0 4 0 = some (.ref a8) ∧
        ∃ x9, zia h a8 l7 = some x9 ∧
        zbr (x9 ≤ (-6))
        (zbr (x9 = (-6))
          (zbr (l6 < 1)
            (zW (zE d) zm_X4_value Q (13, [(0, .ref l0), (1, .int l1), (2, .int l2), (3, .int l3), (4, .int l4), (5, .int l5), (6, .int l6), (7, .int (l7 + 1))], [], h))
            (∃ a10 : Nat, zgf h l0 4 5 = some (.ref a10) ∧
              ∃ a11 : Nat, zgf h l0 4 5 = some (.ref a11) ∧
              ∃ x12, zia h a11 (l6 - 1) = some x12 ∧
              zbr (x12 = 0)
              (∃ h13, zis h a10 (l6 - 1) 1 = some h13 ∧
                zW (zE d) zm_X4_value Q (13, [(0, .ref l0), (1, .int l1), (2, .int l2), (3, .int l3), (4, .int l4), (5, .int l5), (6, .int l6), (7, .int (l7 + 1))], [], h13))
              (∃ h14, zis h a10 (l6 - 1) 0 = some h14 ∧
                zW (zE d) zm_X4_value Q (13, [(0, .ref l0), (1, .int l1), (2, .int l2), (3, .int l3), (4, .int l4), (5, .int l5), (6, .int l6), (7, .int (l7 + 1))], [], h14))))
          (zbr (l6 < 2)
            (zW (zE d) zm_X4_value Q (13, [(0, .ref l0), (1, .int l1), (2, .int l2), (3, .int l3), (4, .int l4), (5, .int l5), (6, .int l6), (7, .int (l7 + 1))], [], h))
            (∃ a15 : Nat, zgf h l0 4 5 = some (.ref a15) ∧
              ∃ a16 : Nat, zgf h l0 4 5 = some (.ref a16) ∧
              ∃ x17, zia h a16 ((l6 + (-1)) - 1) = some x17 ∧
              ∃ a18 : Nat, zgf h l0 4 5 = some (.ref a18) ∧
              ∃ x19, zia h a18 (l6 + (-1)) = some x19 ∧
              zE d 97 [.int x9, .int x17, .int x19] h (fun r21 h20 => match r21 with
                | .inl v22 => ∃ x24 : Int32, v22 = some (.int x24) ∧ ∃ h25, zis h20 a15 ((l6 + (-1)) - 1) x24 = some h25 ∧
                  zW (zE d) zm_X4_value Q (13, [(0, .ref l0), (1, .int l1), (2, .int l2), (3, .int l3), (4, .int l4), (5, .int l5), (6, .int (l6 + (-1))), (7, .int (l7 + 1))], [], h25)
                | .inr e23 => Q (.inr e23) h20))))
        (∃ a26 : Nat, zgf h l0 4 5 = some (.ref a26) ∧
          ∃ x27, zal h a26 = some x27 ∧
          zbr (l6 < x27)
          (zbr (x9 = -nI 5)
            (∃ a28 : Nat, zgf h l0 4 5 = some (.ref a28) ∧
              ∃ h29, zis h a28 l6 l5 = some h29 ∧
              zW (zE d) zm_X4_value Q (13, [(0, .ref l0), (1, .int l1), (2, .int l2), (3, .int l3), (4, .int l4), (5, .int l5), (6, .int (l6 + 1)), (7, .int (l7 + 1))], [], h29))
            (zbr (x9 = -nI 4)
            (∃ a30 : Nat, zgf h l0 4 5 = some (.ref a30) ∧
              ∃ h31, zis h a30 l6 l4 = some h31 ∧
              zW (zE d) zm_X4_value Q (13, [(0, .ref l0), (1, .int l1), (2, .int l2), (3, .int l3), (4, .int l4), (5, .int l5), (6, .int (l6 + 1)), (7, .int (l7 + 1))], [], h31))
            (zbr (x9 = -nI 3)
            (∃ a32 : Nat, zgf h l0 4 5 = some (.ref a32) ∧
              ∃ h33, zis h a32 l6 l3 = some h33 ∧
              zW (zE d) zm_X4_value Q (13, [(0, .ref l0), (1, .int l1), (2, .int l2), (3, .int l3), (4, .int l4), (5, .int l5), (6, .int (l6 + 1)), (7, .int (l7 + 1))], [], h33))
            (zbr (x9 = -nI 2)
            (∃ a34 : Nat, zgf h l0 4 5 = some (.ref a34) ∧
              ∃ h35, zis h a34 l6 l2 = some h35 ∧
              zW (zE d) zm_X4_value Q (13, [(0, .ref l0), (1, .int l1), (2, .int l2), (3, .int l3), (4, .int l4), (5, .int l5), (6, .int (l6 + 1)), (7, .int (l7 + 1))], [], h35))
            (zbr (x9 = -nI 1)
            (∃ a36 : Nat, zgf h l0 4 5 = some (.ref a36) ∧
              ∃ h37, zis h a36 l6 l1 = some h37 ∧
              zW (zE d) zm_X4_value Q (13, [(0, .ref l0), (1, .int l1), (2, .int l2), (3, .int l3), (4, .int l4), (5, .int l5), (6, .int (l6 + 1)), (7, .int (l7 + 1))], [], h37))
            (∃ a38 : Nat, zgf h l0 4 5 = some (.ref a38) ∧
              ∃ h39, zis h a38 l6 x9 = some h39 ∧
              zW (zE d) zm_X4_value Q (13, [(0, .ref l0), (1, .int l1), (2, .int l2), (3, .int l3), (4, .int l4), (5, .int l5), (6, .int (l6 + 1)), (7, .int (l7 + 1))], [], h39)))))))
          (Q (.inl (some (.int 0))) h))))) : zW (zE d) zm_X4_value Q (13, [(0, .ref l0), (1, .int l1), (2, .int l2), (3, .int l3), (4, .int l4), (5, .int l5), (6, .int l6), (7, .int l7)], [], h) := by
  refine zq_iload (pc' := 15) rfl rfl rfl rfl ?_
  refine zq_aload (pc' := 16) rfl rfl rfl rfl ?_
  obtain ⟨x1, e0, H⟩ := H
  refine zq_getI (pc' := 19) rfl rfl rfl e0 ?_
  refine zq_icge (pc' := 22) rfl rfl rfl rfl (And.intro (fun c => ?_) (fun c => ?_))
  · have H := H.1 c
    refine zq_aload (pc' := 256) rfl rfl rfl rfl ?_
    obtain ⟨a2, e0, H⟩ := H
    refine zq_getR (pc' := 259) rfl rfl rfl e0 ?_
    refine zq_ipush (pc' := 260) rfl rfl rfl ?_
    obtain ⟨x3, e0, H⟩ := H
    refine zq_iald (pc' := 261) rfl rfl rfl e0 ?_
    exact zq_iret rfl trivial H
  · have H := H.2 c
    refine zq_iload (pc' := 24) rfl rfl rfl rfl ?_
    refine zq_aload (pc' := 25) rfl rfl rfl rfl ?_
    obtain ⟨a4, e0, H⟩ := H
    refine zq_getR (pc' := 28) rfl rfl rfl e0 ?_
    obtain ⟨x5, e0, H⟩ := H
    refine zq_alen (pc' := 29) rfl rfl rfl e0 ?_
    refine zq_icge (pc' := 32) rfl rfl rfl rfl (And.intro (fun c => ?_) (fun c => ?_))
    · have H := H.1 c
      refine zq_aload (pc' := 256) rfl rfl rfl rfl ?_
      obtain ⟨a6, e0, H⟩ := H
      refine zq_getR (pc' := 259) rfl rfl rfl e0 ?_
      refine zq_ipush (pc' := 260) rfl rfl rfl ?_
      obtain ⟨x7, e0, H⟩ := H
      refine zq_iald (pc' := 261) rfl rfl rfl e0 ?_
      exact zq_iret rfl trivial H
    · have H := H.2 c
      refine zq_aload (pc' := 33) rfl rfl rfl rfl ?_
      obtain ⟨a8, e0, H⟩ := H
      refine zq_getR (pc' := 36) rfl rfl rfl e0 ?_
      refine zq_iload (pc' := 38) rfl rfl rfl rfl ?_
      obtain ⟨x9, e0, H⟩ := H
      refine zq_iald (pc' := 39) rfl rfl rfl e0 ?_
      refine zq_istore (pc' := 41) rfl rfl rfl ?_
      refine zq_iload (pc' := 43) rfl rfl rfl rfl ?_
      refine zq_ipushn (pc' := 45) rfl rfl rfl ?_
      refine zq_icle (pc' := 48) rfl rfl rfl rfl (And.intro (fun c => ?_) (fun c => ?_))
      · have H := H.1 c
        refine zq_iload (pc' := 170) rfl rfl rfl rfl ?_
        refine zq_ipushn (pc' := 172) rfl rfl rfl ?_
        refine zq_icne (pc' := 175) rfl rfl rfl rfl (And.intro (fun c => ?_) (fun c => ?_))
        · have H := H.1 c
          refine zq_iload (pc' := 177) rfl rfl rfl rfl ?_
          refine zq_ipush (pc' := 178) rfl rfl rfl ?_
          refine zq_iclt (pc' := 181) rfl rfl rfl rfl (And.intro (fun c => ?_) (fun c => ?_))
          · have H := H.1 c
            refine zq_iinc (pc' := 252) rfl rfl rfl rfl ?_
            refine zq_goto_c (pc' := 13) rfl rfl ?_
            exact H
          · have H := H.2 c
            refine zq_aload (pc' := 182) rfl rfl rfl rfl ?_
            obtain ⟨a10, e0, H⟩ := H
            refine zq_getR (pc' := 185) rfl rfl rfl e0 ?_
            refine zq_iload (pc' := 187) rfl rfl rfl rfl ?_
            refine zq_ipush (pc' := 188) rfl rfl rfl ?_
            refine zq_isub (pc' := 189) rfl rfl rfl ?_
            refine zq_aload (pc' := 190) rfl rfl rfl rfl ?_
            obtain ⟨a11, e0, H⟩ := H
            refine zq_getR (pc' := 193) rfl rfl rfl e0 ?_
            refine zq_iload (pc' := 195) rfl rfl rfl rfl ?_
            refine zq_ipush (pc' := 196) rfl rfl rfl ?_
            refine zq_isub (pc' := 197) rfl rfl rfl ?_
            obtain ⟨x12, e0, H⟩ := H
            refine zq_iald (pc' := 198) rfl rfl rfl e0 ?_
            refine zq_ifne (pc' := 201) rfl rfl rfl rfl (And.intro (fun c => ?_) (fun c => ?_))
            · have H := H.1 c
              refine zq_ipush (pc' := 202) rfl rfl rfl ?_
              refine zq_goto (pc' := 206) rfl rfl rfl ?_
              obtain ⟨h13, e0, H⟩ := H
              refine zq_iast (pc' := 207) rfl rfl rfl e0 ?_
              refine zq_goto (pc' := 249) rfl rfl rfl ?_
              refine zq_iinc (pc' := 252) rfl rfl rfl rfl ?_
              refine zq_goto_c (pc' := 13) rfl rfl ?_
              exact H
            · have H := H.2 c
              refine zq_ipush (pc' := 206) rfl rfl rfl ?_
              obtain ⟨h14, e0, H⟩ := H
              refine zq_iast (pc' := 207) rfl rfl rfl e0 ?_
              refine zq_goto (pc' := 249) rfl rfl rfl ?_
              refine zq_iinc (pc' := 252) rfl rfl rfl rfl ?_
              refine zq_goto_c (pc' := 13) rfl rfl ?_
              exact H
        · have H := H.2 c
          refine zq_iload (pc' := 212) rfl rfl rfl rfl ?_
          refine zq_ipush (pc' := 213) rfl rfl rfl ?_
          refine zq_iclt (pc' := 216) rfl rfl rfl rfl (And.intro (fun c => ?_) (fun c => ?_))
          · have H := H.1 c
            refine zq_iinc (pc' := 252) rfl rfl rfl rfl ?_
            refine zq_goto_c (pc' := 13) rfl rfl ?_
            exact H
          · have H := H.2 c
            refine zq_iincn (pc' := 219) rfl rfl rfl rfl ?_
            refine zq_aload (pc' := 220) rfl rfl rfl rfl ?_
            obtain ⟨a15, e0, H⟩ := H
            refine zq_getR (pc' := 223) rfl rfl rfl e0 ?_
            refine zq_iload (pc' := 225) rfl rfl rfl rfl ?_
            refine zq_ipush (pc' := 226) rfl rfl rfl ?_
            refine zq_isub (pc' := 227) rfl rfl rfl ?_
            refine zq_iload (pc' := 229) rfl rfl rfl rfl ?_
            refine zq_aload (pc' := 230) rfl rfl rfl rfl ?_
            obtain ⟨a16, e0, H⟩ := H
            refine zq_getR (pc' := 233) rfl rfl rfl e0 ?_
            refine zq_iload (pc' := 235) rfl rfl rfl rfl ?_
            refine zq_ipush (pc' := 236) rfl rfl rfl ?_
            refine zq_isub (pc' := 237) rfl rfl rfl ?_
            obtain ⟨x17, e0, H⟩ := H
            refine zq_iald (pc' := 238) rfl rfl rfl e0 ?_
            refine zq_aload (pc' := 239) rfl rfl rfl rfl ?_
            obtain ⟨a18, e0, H⟩ := H
            refine zq_getR (pc' := 242) rfl rfl rfl e0 ?_
            refine zq_iload (pc' := 244) rfl rfl rfl rfl ?_
            obtain ⟨x19, e0, H⟩ := H
            refine zq_iald (pc' := 245) rfl rfl rfl e0 ?_
            refine zq_calli (pc' := 248) rfl rfl rfl rfl rfl rfl (zE_mono H (fun r21 h20 H => ?_))
            rcases r21 with v22 | e23
            · obtain ⟨x24, e0, H⟩ := H
              refine Exists.intro x24 (And.intro e0 ?_)
              obtain ⟨h25, e0, H⟩ := H
              refine zq_iast (pc' := 249) rfl rfl rfl e0 ?_
              refine zq_iinc (pc' := 252) rfl rfl rfl rfl ?_
              refine zq_goto_c (pc' := 13) rfl rfl ?_
              exact H
            · exact H
      · have H := H.2 c
        refine zq_iload (pc' := 50) rfl rfl rfl rfl ?_
        refine zq_aload (pc' := 51) rfl rfl rfl rfl ?_
        obtain ⟨a26, e0, H⟩ := H
        refine zq_getR (pc' := 54) rfl rfl rfl e0 ?_
        obtain ⟨x27, e0, H⟩ := H
        refine zq_alen (pc' := 55) rfl rfl rfl e0 ?_
        refine zq_iclt (pc' := 58) rfl rfl rfl rfl (And.intro (fun c => ?_) (fun c => ?_))
        · have H := H.1 c
          refine zq_iload (pc' := 62) rfl rfl rfl rfl ?_
          refine zq_switchn rfl ?_
          refine And.intro (fun c => ?_) (fun c => ?_)
          · have H := H.1 c
            show zW (zE d) zm_X4_value Q (141, [(8, .int x9), (0, .ref l0), (1, .int l1), (2, .int l2), (3, .int l3), (4, .int l4), (5, .int l5), (6, .int l6), (7, .int l7)], [], h)
            refine zq_aload (pc' := 142) rfl rfl rfl rfl ?_
            obtain ⟨a28, e0, H⟩ := H
            refine zq_getR (pc' := 145) rfl rfl rfl e0 ?_
            refine zq_iload (pc' := 147) rfl rfl rfl rfl ?_
            refine zq_iload (pc' := 149) rfl rfl rfl rfl ?_
            obtain ⟨h29, e0, H⟩ := H
            refine zq_iast (pc' := 150) rfl rfl rfl e0 ?_
            refine zq_goto (pc' := 162) rfl rfl rfl ?_
            refine zq_iinc (pc' := 165) rfl rfl rfl rfl ?_
            refine zq_goto (pc' := 249) rfl rfl rfl ?_
            refine zq_iinc (pc' := 252) rfl rfl rfl rfl ?_
            refine zq_goto_c (pc' := 13) rfl rfl ?_
            exact H
          · have H := H.2 c
            refine And.intro (fun c => ?_) (fun c => ?_)
            · have H := H.1 c
              show zW (zE d) zm_X4_value Q (129, [(8, .int x9), (0, .ref l0), (1, .int l1), (2, .int l2), (3, .int l3), (4, .int l4), (5, .int l5), (6, .int l6), (7, .int l7)], [], h)
              refine zq_aload (pc' := 130) rfl rfl rfl rfl ?_
              obtain ⟨a30, e0, H⟩ := H
              refine zq_getR (pc' := 133) rfl rfl rfl e0 ?_
              refine zq_iload (pc' := 135) rfl rfl rfl rfl ?_
              refine zq_iload (pc' := 137) rfl rfl rfl rfl ?_
              obtain ⟨h31, e0, H⟩ := H
              refine zq_iast (pc' := 138) rfl rfl rfl e0 ?_
              refine zq_goto (pc' := 162) rfl rfl rfl ?_
              refine zq_iinc (pc' := 165) rfl rfl rfl rfl ?_
              refine zq_goto (pc' := 249) rfl rfl rfl ?_
              refine zq_iinc (pc' := 252) rfl rfl rfl rfl ?_
              refine zq_goto_c (pc' := 13) rfl rfl ?_
              exact H
            · have H := H.2 c
              refine And.intro (fun c => ?_) (fun c => ?_)
              · have H := H.1 c
                show zW (zE d) zm_X4_value Q (118, [(8, .int x9), (0, .ref l0), (1, .int l1), (2, .int l2), (3, .int l3), (4, .int l4), (5, .int l5), (6, .int l6), (7, .int l7)], [], h)
                refine zq_aload (pc' := 119) rfl rfl rfl rfl ?_
                obtain ⟨a32, e0, H⟩ := H
                refine zq_getR (pc' := 122) rfl rfl rfl e0 ?_
                refine zq_iload (pc' := 124) rfl rfl rfl rfl ?_
                refine zq_iload (pc' := 125) rfl rfl rfl rfl ?_
                obtain ⟨h33, e0, H⟩ := H
                refine zq_iast (pc' := 126) rfl rfl rfl e0 ?_
                refine zq_goto (pc' := 162) rfl rfl rfl ?_
                refine zq_iinc (pc' := 165) rfl rfl rfl rfl ?_
                refine zq_goto (pc' := 249) rfl rfl rfl ?_
                refine zq_iinc (pc' := 252) rfl rfl rfl rfl ?_
                refine zq_goto_c (pc' := 13) rfl rfl ?_
                exact H
              · have H := H.2 c
                refine And.intro (fun c => ?_) (fun c => ?_)
                · have H := H.1 c
                  show zW (zE d) zm_X4_value Q (107, [(8, .int x9), (0, .ref l0), (1, .int l1), (2, .int l2), (3, .int l3), (4, .int l4), (5, .int l5), (6, .int l6), (7, .int l7)], [], h)
                  refine zq_aload (pc' := 108) rfl rfl rfl rfl ?_
                  obtain ⟨a34, e0, H⟩ := H
                  refine zq_getR (pc' := 111) rfl rfl rfl e0 ?_
                  refine zq_iload (pc' := 113) rfl rfl rfl rfl ?_
                  refine zq_iload (pc' := 114) rfl rfl rfl rfl ?_
                  obtain ⟨h35, e0, H⟩ := H
                  refine zq_iast (pc' := 115) rfl rfl rfl e0 ?_
                  refine zq_goto (pc' := 162) rfl rfl rfl ?_
                  refine zq_iinc (pc' := 165) rfl rfl rfl rfl ?_
                  refine zq_goto (pc' := 249) rfl rfl rfl ?_
                  refine zq_iinc (pc' := 252) rfl rfl rfl rfl ?_
                  refine zq_goto_c (pc' := 13) rfl rfl ?_
                  exact H
                · have H := H.2 c
                  refine And.intro (fun c => ?_) (fun c => ?_)
                  · have H := H.1 c
                    show zW (zE d) zm_X4_value Q (96, [(8, .int x9), (0, .ref l0), (1, .int l1), (2, .int l2), (3, .int l3), (4, .int l4), (5, .int l5), (6, .int l6), (7, .int l7)], [], h)
                    refine zq_aload (pc' := 97) rfl rfl rfl rfl ?_
                    obtain ⟨a36, e0, H⟩ := H
                    refine zq_getR (pc' := 100) rfl rfl rfl e0 ?_
                    refine zq_iload (pc' := 102) rfl rfl rfl rfl ?_
                    refine zq_iload (pc' := 103) rfl rfl rfl rfl ?_
                    obtain ⟨h37, e0, H⟩ := H
                    refine zq_iast (pc' := 104) rfl rfl rfl e0 ?_
                    refine zq_goto (pc' := 162) rfl rfl rfl ?_
                    refine zq_iinc (pc' := 165) rfl rfl rfl rfl ?_
                    refine zq_goto (pc' := 249) rfl rfl rfl ?_
                    refine zq_iinc (pc' := 252) rfl rfl rfl rfl ?_
                    refine zq_goto_c (pc' := 13) rfl rfl ?_
                    exact H
                  · have H := H.2 c
                    show zW (zE d) zm_X4_value Q (153, [(8, .int x9), (0, .ref l0), (1, .int l1), (2, .int l2), (3, .int l3), (4, .int l4), (5, .int l5), (6, .int l6), (7, .int l7)], [], h)
                    refine zq_aload (pc' := 154) rfl rfl rfl rfl ?_
                    obtain ⟨a38, e0, H⟩ := H
                    refine zq_getR (pc' := 157) rfl rfl rfl e0 ?_
                    refine zq_iload (pc' := 159) rfl rfl rfl rfl ?_
                    refine zq_iload (pc' := 161) rfl rfl rfl rfl ?_
                    obtain ⟨h39, e0, H⟩ := H
                    refine zq_iast (pc' := 162) rfl rfl rfl e0 ?_
                    refine zq_iinc (pc' := 165) rfl rfl rfl rfl ?_
                    refine zq_goto (pc' := 249) rfl rfl rfl ?_
                    refine zq_iinc (pc' := 252) rfl rfl rfl rfl ?_
                    refine zq_goto_c (pc' := 13) rfl rfl ?_
                    exact H
        · have H := H.2 c
          refine zq_ipush (pc' := 59) rfl rfl rfl ?_
          exact zq_iret rfl trivial H
theorem zr_X4_joined_0 {d : Nat} {Q : zR → zH → Prop} {p0 : Int32} {p1 : Int32} {p2 : Int32} {h : zH} (H :
    zbr (p0 = -nI 13)
    (Q (.inl (some (.int (p1 * p2)))) h)
    (zbr (p0 = -nI 12)
    (Q (.inl (some (.int (p1 - p2)))) h)
    (zbr (p0 = -nI 11)
    (Q (.inl (some (.int (p1 + p2)))) h)
    (zbr (p0 = -nI 10)
    (zbr (p1 = p2)
      (Q (.inl (some (.int 1))) h)
      (Q (.inl (some (.int 0))) h))
    (zbr (p0 = -nI 9)
    (zbr (p2 ≤ p1)
      (Q (.inl (some (.int 0))) h)
      (Q (.inl (some (.int 1))) h))
    (zbr (p0 = -nI 8)
    (zbr (p1 = 0)
      (Q (.inl (some (.int 0))) h)
      (zbr (p2 = 0)
        (Q (.inl (some (.int 0))) h)
        (Q (.inl (some (.int 1))) h)))
    (zbr (p0 = -nI 7)
    (zbr (p1 = 0)
      (zbr (p2 = 0)
        (Q (.inl (some (.int 0))) h)
        (Q (.inl (some (.int 1))) h))
      (Q (.inl (some (.int 1))) h))
    (zbr (p2 = 0)
      (Q (.inl (some (.int 0))) h)
      (¬ p2 = 0 ∧ Q (.inl (some (.int (p1 / p2)))) h))))))))) : zW (zE d) zm_X4_joined Q (0, [(0, .int p0), (1, .int p1), (2, .int p2)], [], h) := by
  refine zq_iload (pc' := 1) rfl rfl rfl rfl ?_
  refine zq_switchn rfl ?_
  refine And.intro (fun c => ?_) (fun c => ?_)
  · have H := H.1 c
    show zW (zE d) zm_X4_joined Q (102, [(0, .int p0), (1, .int p1), (2, .int p2)], [], h)
    refine zq_iload (pc' := 103) rfl rfl rfl rfl ?_
    refine zq_iload (pc' := 104) rfl rfl rfl rfl ?_
    refine zq_imul (pc' := 105) rfl rfl rfl ?_
    exact zq_iret rfl trivial H
  · have H := H.2 c
    refine And.intro (fun c => ?_) (fun c => ?_)
    · have H := H.1 c
      show zW (zE d) zm_X4_joined Q (98, [(0, .int p0), (1, .int p1), (2, .int p2)], [], h)
      refine zq_iload (pc' := 99) rfl rfl rfl rfl ?_
      refine zq_iload (pc' := 100) rfl rfl rfl rfl ?_
      refine zq_isub (pc' := 101) rfl rfl rfl ?_
      exact zq_iret rfl trivial H
    · have H := H.2 c
      refine And.intro (fun c => ?_) (fun c => ?_)
      · have H := H.1 c
        show zW (zE d) zm_X4_joined Q (94, [(0, .int p0), (1, .int p1), (2, .int p2)], [], h)
        refine zq_iload (pc' := 95) rfl rfl rfl rfl ?_
        refine zq_iload (pc' := 96) rfl rfl rfl rfl ?_
        refine zq_iadd (pc' := 97) rfl rfl rfl ?_
        exact zq_iret rfl trivial H
      · have H := H.2 c
        refine And.intro (fun c => ?_) (fun c => ?_)
        · have H := H.1 c
          show zW (zE d) zm_X4_joined Q (83, [(0, .int p0), (1, .int p1), (2, .int p2)], [], h)
          refine zq_iload (pc' := 84) rfl rfl rfl rfl ?_
          refine zq_iload (pc' := 85) rfl rfl rfl rfl ?_
          refine zq_icne (pc' := 88) rfl rfl rfl rfl (And.intro (fun c => ?_) (fun c => ?_))
          · have H := H.1 c
            refine zq_ipush (pc' := 89) rfl rfl rfl ?_
            refine zq_goto (pc' := 93) rfl rfl rfl ?_
            exact zq_iret rfl trivial H
          · have H := H.2 c
            refine zq_ipush (pc' := 93) rfl rfl rfl ?_
            exact zq_iret rfl trivial H
        · have H := H.2 c
          refine And.intro (fun c => ?_) (fun c => ?_)
          · have H := H.1 c
            show zW (zE d) zm_X4_joined Q (72, [(0, .int p0), (1, .int p1), (2, .int p2)], [], h)
            refine zq_iload (pc' := 73) rfl rfl rfl rfl ?_
            refine zq_iload (pc' := 74) rfl rfl rfl rfl ?_
            refine zq_icge (pc' := 77) rfl rfl rfl rfl (And.intro (fun c => ?_) (fun c => ?_))
            · have H := H.1 c
              refine zq_ipush (pc' := 82) rfl rfl rfl ?_
              exact zq_iret rfl trivial H
            · have H := H.2 c
              refine zq_ipush (pc' := 78) rfl rfl rfl ?_
              refine zq_goto (pc' := 82) rfl rfl rfl ?_
              exact zq_iret rfl trivial H
          · have H := H.2 c
            refine And.intro (fun c => ?_) (fun c => ?_)
            · have H := H.1 c
              show zW (zE d) zm_X4_joined Q (58, [(0, .int p0), (1, .int p1), (2, .int p2)], [], h)
              refine zq_iload (pc' := 59) rfl rfl rfl rfl ?_
              refine zq_ifeq (pc' := 62) rfl rfl rfl rfl (And.intro (fun c => ?_) (fun c => ?_))
              · have H := H.1 c
                refine zq_ipush (pc' := 71) rfl rfl rfl ?_
                exact zq_iret rfl trivial H
              · have H := H.2 c
                refine zq_iload (pc' := 63) rfl rfl rfl rfl ?_
                refine zq_ifeq (pc' := 66) rfl rfl rfl rfl (And.intro (fun c => ?_) (fun c => ?_))
                · have H := H.1 c
                  refine zq_ipush (pc' := 71) rfl rfl rfl ?_
                  exact zq_iret rfl trivial H
                · have H := H.2 c
                  refine zq_ipush (pc' := 67) rfl rfl rfl ?_
                  refine zq_goto (pc' := 71) rfl rfl rfl ?_
                  exact zq_iret rfl trivial H
            · have H := H.2 c
              refine And.intro (fun c => ?_) (fun c => ?_)
              · have H := H.1 c
                show zW (zE d) zm_X4_joined Q (44, [(0, .int p0), (1, .int p1), (2, .int p2)], [], h)
                refine zq_iload (pc' := 45) rfl rfl rfl rfl ?_
                refine zq_ifne (pc' := 48) rfl rfl rfl rfl (And.intro (fun c => ?_) (fun c => ?_))
                · have H := H.1 c
                  refine zq_iload (pc' := 49) rfl rfl rfl rfl ?_
                  refine zq_ifeq (pc' := 52) rfl rfl rfl rfl (And.intro (fun c => ?_) (fun c => ?_))
                  · have H := H.1 c
                    refine zq_ipush (pc' := 57) rfl rfl rfl ?_
                    exact zq_iret rfl trivial H
                  · have H := H.2 c
                    refine zq_ipush (pc' := 53) rfl rfl rfl ?_
                    refine zq_goto (pc' := 57) rfl rfl rfl ?_
                    exact zq_iret rfl trivial H
                · have H := H.2 c
                  refine zq_ipush (pc' := 53) rfl rfl rfl ?_
                  refine zq_goto (pc' := 57) rfl rfl rfl ?_
                  exact zq_iret rfl trivial H
              · have H := H.2 c
                show zW (zE d) zm_X4_joined Q (106, [(0, .int p0), (1, .int p1), (2, .int p2)], [], h)
                refine zq_iload (pc' := 107) rfl rfl rfl rfl ?_
                refine zq_ifne (pc' := 110) rfl rfl rfl rfl (And.intro (fun c => ?_) (fun c => ?_))
                · have H := H.1 c
                  refine zq_ipush (pc' := 111) rfl rfl rfl ?_
                  refine zq_goto (pc' := 117) rfl rfl rfl ?_
                  exact zq_iret rfl trivial H
                · have H := H.2 c
                  refine zq_iload (pc' := 115) rfl rfl rfl rfl ?_
                  refine zq_iload (pc' := 116) rfl rfl rfl rfl ?_
                  obtain ⟨e0, H⟩ := H
                  refine zq_idiv (pc' := 117) rfl rfl rfl e0 ?_
                  exact zq_iret rfl trivial H
theorem zr_X5_init_0 {d : Nat} {Q : zR → zH → Prop} {p0 : Nat} {h : zH} (H :
    ∃ h1, zna h 0 289 = some h1 ∧
    ∃ h2, zpf h1 p0 5 0 (.ref (999 + h.1)) = some h2 ∧
    Q (.inl none) h2) : zW (zE d) zm_X5_init Q (0, [(0, .ref p0)], [], h) := by
  refine zq_aload (pc' := 1) rfl rfl rfl rfl ?_
  refine zq_nop (pc' := 4) rfl rfl rfl rfl rfl ?_
  refine zq_aload (pc' := 5) rfl rfl rfl rfl ?_
  refine zq_ipush (pc' := 8) rfl rfl rfl ?_
  obtain ⟨h1, e0, H⟩ := H
  refine zq_newa (pc' := 10) rfl rfl rfl e0 ?_
  obtain ⟨h2, e0, H⟩ := H
  refine zq_put (pc' := 13) rfl rfl rfl trivial e0 ?_
  exact zq_vret rfl H
theorem zr_X5_holdOf_0 {d : Nat} {Q : zR → zH → Prop} {p0 : Nat} {p1 : Int32} {p2 : Nat} {p3 : Int32} {h : zH} (H :
    zE d 118 [.ref p0, .int 0, .int p1] h (fun r2 h1 => match r2 with
      | .inl v3 => ∃ x5 : Int32, v3 = some (.int x5) ∧ zE d 118 [.ref p2, .int 1, .int p3] h1 (fun r7 h6 => match r7 with
          | .inl v8 => ∃ x10 : Int32, v8 = some (.int x10) ∧ zE d 3 [.int x5, .int x10] h6 (fun r12 h11 => match r12 with
              | .inl v13 => ∃ x15 : Int32, v13 = some (.int x15) ∧ Q (.inl (some (.int x15))) h11
              | .inr e14 => Q (.inr e14) h11)
          | .inr e9 => Q (.inr e9) h6)
      | .inr e4 => Q (.inr e4) h1)) : zW (zE d) zm_X5_holdOf Q (0, [(0, .ref p0), (1, .int p1), (2, .ref p2), (3, .int p3)], [], h) := by
  refine zq_aload (pc' := 1) rfl rfl rfl rfl ?_
  refine zq_ipush (pc' := 2) rfl rfl rfl ?_
  refine zq_iload (pc' := 3) rfl rfl rfl rfl ?_
  refine zq_calli (pc' := 6) rfl rfl rfl rfl rfl rfl (zE_mono H (fun r2 h1 H => ?_))
  rcases r2 with v3 | e4
  · obtain ⟨x5, e0, H⟩ := H
    refine Exists.intro x5 (And.intro e0 ?_)
    refine zq_aload (pc' := 7) rfl rfl rfl rfl ?_
    refine zq_ipush (pc' := 8) rfl rfl rfl ?_
    refine zq_iload (pc' := 9) rfl rfl rfl rfl ?_
    refine zq_calli (pc' := 12) rfl rfl rfl rfl rfl rfl (zE_mono H (fun r7 h6 H => ?_))
    rcases r7 with v8 | e9
    · obtain ⟨x10, e0, H⟩ := H
      refine Exists.intro x10 (And.intro e0 ?_)
      refine zq_calli (pc' := 15) rfl rfl rfl rfl rfl rfl (zE_mono H (fun r12 h11 H => ?_))
      rcases r12 with v13 | e14
      · obtain ⟨x15, e0, H⟩ := H
        refine Exists.intro x15 (And.intro e0 ?_)
        exact zq_iret rfl trivial H
      · exact H
    · exact H
  · exact H
theorem zr_X5_heldAt_0 {d : Nat} {Q : zR → zH → Prop} {p0 : Nat} {p1 : Nat} {p2 : Nat} {p3 : Int32} {h : zH} (H :
    zW (zE d) zm_X5_heldAt Q (6, [(1, .ref p1), (2, .ref p2), (3, .int p3), (4, .int 0), (5, .int 0)], [], h)) : zW (zE d) zm_X5_heldAt Q (0, [(0, .ref p0), (1, .ref p1), (2, .ref p2), (3, .int p3)], [], h) := by
  refine zq_ipush (pc' := 1) rfl rfl rfl ?_
  refine zq_istore (pc' := 3) rfl rfl rfl ?_
  refine zq_ipush (pc' := 4) rfl rfl rfl ?_
  refine zq_istore_c (pc' := 6) rfl rfl ?_
  exact H
theorem zr_X5_heldAt_6 {d : Nat} {Q : zR → zH → Prop} {l1 : Nat} {l2 : Nat} {l3 : Int32} {l4 : Int32} {l5 : Int32} {h : zH} (H :
    zE d 112 [.ref l2] h (fun r2 h1 => match r2 with
      | .inl v3 => ∃ x5 : Int32, v3 = some (.int x5) ∧ zbr (x5 ≤ l5)
        (Q (.inl (some (.int l4))) h1)
        (zbr ((l5 + l3) < 0)
          (zW (zE d) zm_X5_heldAt Q (6, [(1, .ref l1), (2, .ref l2), (3, .int l3), (4, .int l4), (5, .int (l5 + 1))], [], h1))
          (zE d 112 [.ref l1] h1 (fun r7 h6 => match r7 with
              | .inl v8 => ∃ x10 : Int32, v8 = some (.int x10) ∧ zbr (x10 ≤ (l5 + l3))
                (zW (zE d) zm_X5_heldAt Q (6, [(1, .ref l1), (2, .ref l2), (3, .int l3), (4, .int l4), (5, .int (l5 + 1))], [], h6))
                (zE d 99 [.ref l1, .int (l5 + l3), .ref l2, .int l5] h6 (fun r12 h11 => match r12 with
                    | .inl v13 => ∃ x15 : Int32, v13 = some (.int x15) ∧ zW (zE d) zm_X5_heldAt Q (6, [(1, .ref l1), (2, .ref l2), (3, .int l3), (4, .int (l4 + x15)), (5, .int (l5 + 1))], [], h11)
                    | .inr e14 => Q (.inr e14) h11))
              | .inr e9 => Q (.inr e9) h6)))
      | .inr e4 => Q (.inr e4) h1)) : zW (zE d) zm_X5_heldAt Q (6, [(1, .ref l1), (2, .ref l2), (3, .int l3), (4, .int l4), (5, .int l5)], [], h) := by
  refine zq_iload (pc' := 8) rfl rfl rfl rfl ?_
  refine zq_aload (pc' := 9) rfl rfl rfl rfl ?_
  refine zq_calli (pc' := 12) rfl rfl rfl rfl rfl rfl (zE_mono H (fun r2 h1 H => ?_))
  rcases r2 with v3 | e4
  · obtain ⟨x5, e0, H⟩ := H
    refine Exists.intro x5 (And.intro e0 ?_)
    refine zq_icge (pc' := 15) rfl rfl rfl rfl (And.intro (fun c => ?_) (fun c => ?_))
    · have H := H.1 c
      refine zq_iload (pc' := 57) rfl rfl rfl rfl ?_
      exact zq_iret rfl trivial H
    · have H := H.2 c
      refine zq_iload (pc' := 17) rfl rfl rfl rfl ?_
      refine zq_iload (pc' := 18) rfl rfl rfl rfl ?_
      refine zq_iadd (pc' := 19) rfl rfl rfl ?_
      refine zq_iflt (pc' := 22) rfl rfl rfl rfl (And.intro (fun c => ?_) (fun c => ?_))
      · have H := H.1 c
        refine zq_iinc (pc' := 52) rfl rfl rfl rfl ?_
        refine zq_goto_c (pc' := 6) rfl rfl ?_
        exact H
      · have H := H.2 c
        refine zq_iload (pc' := 24) rfl rfl rfl rfl ?_
        refine zq_iload (pc' := 25) rfl rfl rfl rfl ?_
        refine zq_iadd (pc' := 26) rfl rfl rfl ?_
        refine zq_aload (pc' := 27) rfl rfl rfl rfl ?_
        refine zq_calli (pc' := 30) rfl rfl rfl rfl rfl rfl (zE_mono H (fun r7 h6 H => ?_))
        rcases r7 with v8 | e9
        · obtain ⟨x10, e0, H⟩ := H
          refine Exists.intro x10 (And.intro e0 ?_)
          refine zq_icge (pc' := 33) rfl rfl rfl rfl (And.intro (fun c => ?_) (fun c => ?_))
          · have H := H.1 c
            refine zq_iinc (pc' := 52) rfl rfl rfl rfl ?_
            refine zq_goto_c (pc' := 6) rfl rfl ?_
            exact H
          · have H := H.2 c
            refine zq_iload (pc' := 35) rfl rfl rfl rfl ?_
            refine zq_aload (pc' := 36) rfl rfl rfl rfl ?_
            refine zq_iload (pc' := 38) rfl rfl rfl rfl ?_
            refine zq_iload (pc' := 39) rfl rfl rfl rfl ?_
            refine zq_iadd (pc' := 40) rfl rfl rfl ?_
            refine zq_aload (pc' := 41) rfl rfl rfl rfl ?_
            refine zq_iload (pc' := 43) rfl rfl rfl rfl ?_
            refine zq_calli (pc' := 46) rfl rfl rfl rfl rfl rfl (zE_mono H (fun r12 h11 H => ?_))
            rcases r12 with v13 | e14
            · obtain ⟨x15, e0, H⟩ := H
              refine Exists.intro x15 (And.intro e0 ?_)
              refine zq_iadd (pc' := 47) rfl rfl rfl ?_
              refine zq_istore (pc' := 49) rfl rfl rfl ?_
              refine zq_iinc (pc' := 52) rfl rfl rfl rfl ?_
              refine zq_goto_c (pc' := 6) rfl rfl ?_
              exact H
            · exact H
        · exact H
  · exact H
theorem zr_X5_heldFrom_0 {d : Nat} {Q : zR → zH → Prop} {p0 : Nat} {p1 : Int32} {p2 : Int32} {h : zH} (H :
    zbr (((p1 * 17) + p2) < 0)
    (Q (.inl (some (.int 0))) h)
    (∃ a1 : Nat, zgf h p0 5 0 = some (.ref a1) ∧
      ∃ x2, zal h a1 = some x2 ∧
      zbr (x2 ≤ ((p1 * 17) + p2))
      (Q (.inl (some (.int 0))) h)
      (∃ a3 : Nat, zgf h p0 5 0 = some (.ref a3) ∧
        ∃ x4, zia h a3 ((p1 * 17) + p2) = some x4 ∧
        Q (.inl (some (.int x4))) h))) : zW (zE d) zm_X5_heldFrom Q (0, [(0, .ref p0), (1, .int p1), (2, .int p2)], [], h) := by
  refine zq_iload (pc' := 1) rfl rfl rfl rfl ?_
  refine zq_ipush (pc' := 3) rfl rfl rfl ?_
  refine zq_imul (pc' := 4) rfl rfl rfl ?_
  refine zq_iload (pc' := 5) rfl rfl rfl rfl ?_
  refine zq_iadd (pc' := 6) rfl rfl rfl ?_
  refine zq_istore (pc' := 7) rfl rfl rfl ?_
  refine zq_iload (pc' := 8) rfl rfl rfl rfl ?_
  refine zq_iflt (pc' := 11) rfl rfl rfl rfl (And.intro (fun c => ?_) (fun c => ?_))
  · have H := H.1 c
    refine zq_ipush (pc' := 30) rfl rfl rfl ?_
    exact zq_iret rfl trivial H
  · have H := H.2 c
    refine zq_iload (pc' := 12) rfl rfl rfl rfl ?_
    refine zq_aload (pc' := 13) rfl rfl rfl rfl ?_
    obtain ⟨a1, e0, H⟩ := H
    refine zq_getR (pc' := 16) rfl rfl rfl e0 ?_
    obtain ⟨x2, e0, H⟩ := H
    refine zq_alen (pc' := 17) rfl rfl rfl e0 ?_
    refine zq_icge (pc' := 20) rfl rfl rfl rfl (And.intro (fun c => ?_) (fun c => ?_))
    · have H := H.1 c
      refine zq_ipush (pc' := 30) rfl rfl rfl ?_
      exact zq_iret rfl trivial H
    · have H := H.2 c
      refine zq_aload (pc' := 21) rfl rfl rfl rfl ?_
      obtain ⟨a3, e0, H⟩ := H
      refine zq_getR (pc' := 24) rfl rfl rfl e0 ?_
      refine zq_iload (pc' := 25) rfl rfl rfl rfl ?_
      obtain ⟨x4, e0, H⟩ := H
      refine zq_iald (pc' := 26) rfl rfl rfl e0 ?_
      refine zq_goto (pc' := 30) rfl rfl rfl ?_
      exact zq_iret rfl trivial H
theorem zr_X5_putHeld_0 {d : Nat} {Q : zR → zH → Prop} {p0 : Nat} {p1 : Int32} {p2 : Int32} {p3 : Int32} {h : zH} (H :
    zbr (((p1 * 17) + p2) < 0)
    (Q (.inl none) h)
    (∃ a1 : Nat, zgf h p0 5 0 = some (.ref a1) ∧
      ∃ x2, zal h a1 = some x2 ∧
      zbr (x2 ≤ ((p1 * 17) + p2))
      (Q (.inl none) h)
      (∃ a3 : Nat, zgf h p0 5 0 = some (.ref a3) ∧
        ∃ h4, zis h a3 ((p1 * 17) + p2) p3 = some h4 ∧
        Q (.inl none) h4))) : zW (zE d) zm_X5_putHeld Q (0, [(0, .ref p0), (1, .int p1), (2, .int p2), (3, .int p3)], [], h) := by
  refine zq_iload (pc' := 1) rfl rfl rfl rfl ?_
  refine zq_ipush (pc' := 3) rfl rfl rfl ?_
  refine zq_imul (pc' := 4) rfl rfl rfl ?_
  refine zq_iload (pc' := 5) rfl rfl rfl rfl ?_
  refine zq_iadd (pc' := 6) rfl rfl rfl ?_
  refine zq_istore (pc' := 8) rfl rfl rfl ?_
  refine zq_iload (pc' := 10) rfl rfl rfl rfl ?_
  refine zq_iflt (pc' := 13) rfl rfl rfl rfl (And.intro (fun c => ?_) (fun c => ?_))
  · have H := H.1 c
    exact zq_vret rfl H
  · have H := H.2 c
    refine zq_iload (pc' := 15) rfl rfl rfl rfl ?_
    refine zq_aload (pc' := 16) rfl rfl rfl rfl ?_
    obtain ⟨a1, e0, H⟩ := H
    refine zq_getR (pc' := 19) rfl rfl rfl e0 ?_
    obtain ⟨x2, e0, H⟩ := H
    refine zq_alen (pc' := 20) rfl rfl rfl e0 ?_
    refine zq_icge (pc' := 23) rfl rfl rfl rfl (And.intro (fun c => ?_) (fun c => ?_))
    · have H := H.1 c
      exact zq_vret rfl H
    · have H := H.2 c
      refine zq_aload (pc' := 24) rfl rfl rfl rfl ?_
      obtain ⟨a3, e0, H⟩ := H
      refine zq_getR (pc' := 27) rfl rfl rfl e0 ?_
      refine zq_iload (pc' := 29) rfl rfl rfl rfl ?_
      refine zq_iload (pc' := 30) rfl rfl rfl rfl ?_
      obtain ⟨h4, e0, H⟩ := H
      refine zq_iast (pc' := 31) rfl rfl rfl e0 ?_
      exact zq_vret rfl H
theorem zr_X5_meshed_0 {d : Nat} {Q : zR → zH → Prop} {p0 : Nat} {p1 : Nat} {p2 : Nat} {h : zH} (H :
    zE d 112 [.ref p1] h (fun r2 h1 => match r2 with
      | .inl v3 => ∃ x5 : Int32, v3 = some (.int x5) ∧ zW (zE d) zm_X5_meshed Q (5, [(0, .ref p0), (1, .ref p1), (2, .ref p2), (3, .int x5)], [], h1)
      | .inr e4 => Q (.inr e4) h1)) : zW (zE d) zm_X5_meshed Q (0, [(0, .ref p0), (1, .ref p1), (2, .ref p2)], [], h) := by
  refine zq_aload (pc' := 1) rfl rfl rfl rfl ?_
  refine zq_calli (pc' := 4) rfl rfl rfl rfl rfl rfl (zE_mono H (fun r2 h1 H => ?_))
  rcases r2 with v3 | e4
  · obtain ⟨x5, e0, H⟩ := H
    refine Exists.intro x5 (And.intro e0 ?_)
    refine zq_istore_c (pc' := 5) rfl rfl ?_
    exact H
  · exact H
theorem zr_X5_meshed_5 {d : Nat} {Q : zR → zH → Prop} {l0 : Nat} {l1 : Nat} {l2 : Nat} {l3 : Int32} {h : zH} (H :
    zbr (l3 < 0)
    (zE d 101 [.ref l0, .int 0, .int 0] h (fun r2 h1 => match r2 with
        | .inl v3 => ∃ x5 : Int32, v3 = some (.int x5) ∧ Q (.inl (some (.int x5))) h1
        | .inr e4 => Q (.inr e4) h1))
    (zE d 112 [.ref l2] h (fun r7 h6 => match r7 with
        | .inl v8 => ∃ x10 : Int32, v8 = some (.int x10) ∧ zW (zE d) zm_X5_meshed Q (15, [(0, .ref l0), (1, .ref l1), (2, .ref l2), (3, .int l3), (4, .int x10)], [], h6)
        | .inr e9 => Q (.inr e9) h6))) : zW (zE d) zm_X5_meshed Q (5, [(0, .ref l0), (1, .ref l1), (2, .ref l2), (3, .int l3)], [], h) := by
  refine zq_iload (pc' := 6) rfl rfl rfl rfl ?_
  refine zq_iflt (pc' := 9) rfl rfl rfl rfl (And.intro (fun c => ?_) (fun c => ?_))
  · have H := H.1 c
    refine zq_aload (pc' := 112) rfl rfl rfl rfl ?_
    refine zq_ipush (pc' := 113) rfl rfl rfl ?_
    refine zq_ipush (pc' := 114) rfl rfl rfl ?_
    refine zq_calli (pc' := 117) rfl rfl rfl rfl rfl rfl (zE_mono H (fun r2 h1 H => ?_))
    rcases r2 with v3 | e4
    · obtain ⟨x5, e0, H⟩ := H
      refine Exists.intro x5 (And.intro e0 ?_)
      exact zq_iret rfl trivial H
    · exact H
  · have H := H.2 c
    refine zq_aload (pc' := 10) rfl rfl rfl rfl ?_
    refine zq_calli (pc' := 13) rfl rfl rfl rfl rfl rfl (zE_mono H (fun r7 h6 H => ?_))
    rcases r7 with v8 | e9
    · obtain ⟨x10, e0, H⟩ := H
      refine Exists.intro x10 (And.intro e0 ?_)
      refine zq_istore_c (pc' := 15) rfl rfl ?_
      exact H
    · exact H
theorem zr_X5_meshed_15 {d : Nat} {Q : zR → zH → Prop} {l0 : Nat} {l1 : Nat} {l2 : Nat} {l3 : Int32} {l4 : Int32} {h : zH} (H :
    zbr (l4 < 0)
    (zW (zE d) zm_X5_meshed Q (5, [(0, .ref l0), (1, .ref l1), (2, .ref l2), (3, .int (l3 + (-1)))], [], h))
    (zE d 112 [.ref l1] h (fun r2 h1 => match r2 with
        | .inl v3 => ∃ x5 : Int32, v3 = some (.int x5) ∧ zbr (x5 ≤ l3)
          (zE d 102 [.ref l0, .int l3, .int l4, .int 0] h1 (fun r7 h6 => match r7 with
              | .inl v8 => v8 = none ∧ zW (zE d) zm_X5_meshed Q (15, [(0, .ref l0), (1, .ref l1), (2, .ref l2), (3, .int l3), (4, .int (l4 + (-1)))], [], h6)
              | .inr e9 => Q (.inr e9) h6))
          (zE d 112 [.ref l2] h1 (fun r11 h10 => match r11 with
              | .inl v12 => ∃ x14 : Int32, v12 = some (.int x14) ∧ zbr (x14 ≤ l4)
                (zE d 102 [.ref l0, .int l3, .int l4, .int 0] h10 (fun r16 h15 => match r16 with
                    | .inl v17 => v17 = none ∧ zW (zE d) zm_X5_meshed Q (15, [(0, .ref l0), (1, .ref l1), (2, .ref l2), (3, .int l3), (4, .int (l4 + (-1)))], [], h15)
                    | .inr e18 => Q (.inr e18) h15))
                (zE d 101 [.ref l0, .int (l3 + 1), .int l4] h10 (fun r20 h19 => match r20 with
                    | .inl v21 => ∃ x23 : Int32, v21 = some (.int x23) ∧ zE d 101 [.ref l0, .int l3, .int (l4 + 1)] h19 (fun r25 h24 => match r25 with
                        | .inl v26 => ∃ x28 : Int32, v26 = some (.int x28) ∧ zE d 2 [.int x23, .int x28] h24 (fun r30 h29 => match r30 with
                            | .inl v31 => ∃ x33 : Int32, v31 = some (.int x33) ∧ zE d 99 [.ref l1, .int l3, .ref l2, .int l4] h29 (fun r35 h34 => match r35 with
                                | .inl v36 => ∃ x38 : Int32, v36 = some (.int x38) ∧ zE d 101 [.ref l0, .int (l3 + 1), .int (l4 + 1)] h34 (fun r40 h39 => match r40 with
                                    | .inl v41 => ∃ x43 : Int32, v41 = some (.int x43) ∧ zE d 2 [.int x33, .int (x38 + x43)] h39 (fun r45 h44 => match r45 with
                                        | .inl v46 => ∃ x48 : Int32, v46 = some (.int x48) ∧ zE d 102 [.ref l0, .int l3, .int l4, .int x48] h44 (fun r50 h49 => match r50 with
                                            | .inl v51 => v51 = none ∧ zW (zE d) zm_X5_meshed Q (15, [(0, .ref l0), (1, .ref l1), (2, .ref l2), (3, .int l3), (4, .int (l4 + (-1)))], [], h49)
                                            | .inr e52 => Q (.inr e52) h49)
                                        | .inr e47 => Q (.inr e47) h44)
                                    | .inr e42 => Q (.inr e42) h39)
                                | .inr e37 => Q (.inr e37) h34)
                            | .inr e32 => Q (.inr e32) h29)
                        | .inr e27 => Q (.inr e27) h24)
                    | .inr e22 => Q (.inr e22) h19))
              | .inr e13 => Q (.inr e13) h10))
        | .inr e4 => Q (.inr e4) h1))) : zW (zE d) zm_X5_meshed Q (15, [(0, .ref l0), (1, .ref l1), (2, .ref l2), (3, .int l3), (4, .int l4)], [], h) := by
  refine zq_iload (pc' := 17) rfl rfl rfl rfl ?_
  refine zq_iflt (pc' := 20) rfl rfl rfl rfl (And.intro (fun c => ?_) (fun c => ?_))
  · have H := H.1 c
    refine zq_iincn (pc' := 108) rfl rfl rfl rfl ?_
    refine zq_goto_c (pc' := 5) rfl rfl ?_
    exact H
  · have H := H.2 c
    refine zq_ipush (pc' := 21) rfl rfl rfl ?_
    refine zq_istore (pc' := 23) rfl rfl rfl ?_
    refine zq_iload (pc' := 24) rfl rfl rfl rfl ?_
    refine zq_aload (pc' := 25) rfl rfl rfl rfl ?_
    refine zq_calli (pc' := 28) rfl rfl rfl rfl rfl rfl (zE_mono H (fun r2 h1 H => ?_))
    rcases r2 with v3 | e4
    · obtain ⟨x5, e0, H⟩ := H
      refine Exists.intro x5 (And.intro e0 ?_)
      refine zq_icge (pc' := 31) rfl rfl rfl rfl (And.intro (fun c => ?_) (fun c => ?_))
      · have H := H.1 c
        refine zq_aload (pc' := 91) rfl rfl rfl rfl ?_
        refine zq_iload (pc' := 92) rfl rfl rfl rfl ?_
        refine zq_iload (pc' := 94) rfl rfl rfl rfl ?_
        refine zq_iload (pc' := 96) rfl rfl rfl rfl ?_
        refine zq_callv (pc' := 99) rfl rfl rfl rfl rfl rfl (zE_mono H (fun r7 h6 H => ?_))
        rcases r7 with v8 | e9
        · obtain ⟨e0, H⟩ := H
          refine And.intro e0 ?_
          refine zq_iincn (pc' := 102) rfl rfl rfl rfl ?_
          refine zq_goto_c (pc' := 15) rfl rfl ?_
          exact H
        · exact H
      · have H := H.2 c
        refine zq_iload (pc' := 33) rfl rfl rfl rfl ?_
        refine zq_aload (pc' := 34) rfl rfl rfl rfl ?_
        refine zq_calli (pc' := 37) rfl rfl rfl rfl rfl rfl (zE_mono H (fun r11 h10 H => ?_))
        rcases r11 with v12 | e13
        · obtain ⟨x14, e0, H⟩ := H
          refine Exists.intro x14 (And.intro e0 ?_)
          refine zq_icge (pc' := 40) rfl rfl rfl rfl (And.intro (fun c => ?_) (fun c => ?_))
          · have H := H.1 c
            refine zq_aload (pc' := 91) rfl rfl rfl rfl ?_
            refine zq_iload (pc' := 92) rfl rfl rfl rfl ?_
            refine zq_iload (pc' := 94) rfl rfl rfl rfl ?_
            refine zq_iload (pc' := 96) rfl rfl rfl rfl ?_
            refine zq_callv (pc' := 99) rfl rfl rfl rfl rfl rfl (zE_mono H (fun r16 h15 H => ?_))
            rcases r16 with v17 | e18
            · obtain ⟨e0, H⟩ := H
              refine And.intro e0 ?_
              refine zq_iincn (pc' := 102) rfl rfl rfl rfl ?_
              refine zq_goto_c (pc' := 15) rfl rfl ?_
              exact H
            · exact H
          · have H := H.2 c
            refine zq_aload (pc' := 41) rfl rfl rfl rfl ?_
            refine zq_iload (pc' := 42) rfl rfl rfl rfl ?_
            refine zq_ipush (pc' := 43) rfl rfl rfl ?_
            refine zq_iadd (pc' := 44) rfl rfl rfl ?_
            refine zq_iload (pc' := 46) rfl rfl rfl rfl ?_
            refine zq_calli (pc' := 49) rfl rfl rfl rfl rfl rfl (zE_mono H (fun r20 h19 H => ?_))
            rcases r20 with v21 | e22
            · obtain ⟨x23, e0, H⟩ := H
              refine Exists.intro x23 (And.intro e0 ?_)
              refine zq_aload (pc' := 50) rfl rfl rfl rfl ?_
              refine zq_iload (pc' := 51) rfl rfl rfl rfl ?_
              refine zq_iload (pc' := 53) rfl rfl rfl rfl ?_
              refine zq_ipush (pc' := 54) rfl rfl rfl ?_
              refine zq_iadd (pc' := 55) rfl rfl rfl ?_
              refine zq_calli (pc' := 58) rfl rfl rfl rfl rfl rfl (zE_mono H (fun r25 h24 H => ?_))
              rcases r25 with v26 | e27
              · obtain ⟨x28, e0, H⟩ := H
                refine Exists.intro x28 (And.intro e0 ?_)
                refine zq_calli (pc' := 61) rfl rfl rfl rfl rfl rfl (zE_mono H (fun r30 h29 H => ?_))
                rcases r30 with v31 | e32
                · obtain ⟨x33, e0, H⟩ := H
                  refine Exists.intro x33 (And.intro e0 ?_)
                  refine zq_istore (pc' := 63) rfl rfl rfl ?_
                  refine zq_iload (pc' := 65) rfl rfl rfl rfl ?_
                  refine zq_aload (pc' := 66) rfl rfl rfl rfl ?_
                  refine zq_iload (pc' := 67) rfl rfl rfl rfl ?_
                  refine zq_aload (pc' := 68) rfl rfl rfl rfl ?_
                  refine zq_iload (pc' := 70) rfl rfl rfl rfl ?_
                  refine zq_calli (pc' := 73) rfl rfl rfl rfl rfl rfl (zE_mono H (fun r35 h34 H => ?_))
                  rcases r35 with v36 | e37
                  · obtain ⟨x38, e0, H⟩ := H
                    refine Exists.intro x38 (And.intro e0 ?_)
                    refine zq_aload (pc' := 74) rfl rfl rfl rfl ?_
                    refine zq_iload (pc' := 75) rfl rfl rfl rfl ?_
                    refine zq_ipush (pc' := 76) rfl rfl rfl ?_
                    refine zq_iadd (pc' := 77) rfl rfl rfl ?_
                    refine zq_iload (pc' := 79) rfl rfl rfl rfl ?_
                    refine zq_ipush (pc' := 80) rfl rfl rfl ?_
                    refine zq_iadd (pc' := 81) rfl rfl rfl ?_
                    refine zq_calli (pc' := 84) rfl rfl rfl rfl rfl rfl (zE_mono H (fun r40 h39 H => ?_))
                    rcases r40 with v41 | e42
                    · obtain ⟨x43, e0, H⟩ := H
                      refine Exists.intro x43 (And.intro e0 ?_)
                      refine zq_iadd (pc' := 85) rfl rfl rfl ?_
                      refine zq_calli (pc' := 88) rfl rfl rfl rfl rfl rfl (zE_mono H (fun r45 h44 H => ?_))
                      rcases r45 with v46 | e47
                      · obtain ⟨x48, e0, H⟩ := H
                        refine Exists.intro x48 (And.intro e0 ?_)
                        refine zq_istore (pc' := 90) rfl rfl rfl ?_
                        refine zq_aload (pc' := 91) rfl rfl rfl rfl ?_
                        refine zq_iload (pc' := 92) rfl rfl rfl rfl ?_
                        refine zq_iload (pc' := 94) rfl rfl rfl rfl ?_
                        refine zq_iload (pc' := 96) rfl rfl rfl rfl ?_
                        refine zq_callv (pc' := 99) rfl rfl rfl rfl rfl rfl (zE_mono H (fun r50 h49 H => ?_))
                        rcases r50 with v51 | e52
                        · obtain ⟨e0, H⟩ := H
                          refine And.intro e0 ?_
                          refine zq_iincn (pc' := 102) rfl rfl rfl rfl ?_
                          refine zq_goto_c (pc' := 15) rfl rfl ?_
                          exact H
                        · exact H
                      · exact H
                    · exact H
                  · exact H
                · exact H
              · exact H
            · exact H
        · exact H
    · exact H
theorem zr_X5_meshedWith_0 {d : Nat} {Q : zR → zH → Prop} {p0 : Nat} {p1 : Nat} {p2 : Nat} {p3 : Int32} {h : zH} (H :
    zE d 103 [.ref p0, .ref p1, .ref p2] h (fun r2 h1 => match r2 with
      | .inl v3 => ∃ x5 : Int32, v3 = some (.int x5) ∧ zW (zE d) zm_X5_meshedWith Q (16, [(0, .ref p0), (1, .ref p1), (2, .ref p2), (3, .int p3), (4, .int 0), (5, .int (-1)), (6, .int 0)], [], h1)
      | .inr e4 => Q (.inr e4) h1)) : zW (zE d) zm_X5_meshedWith Q (0, [(0, .ref p0), (1, .ref p1), (2, .ref p2), (3, .int p3)], [], h) := by
  refine zq_aload (pc' := 1) rfl rfl rfl rfl ?_
  refine zq_aload (pc' := 2) rfl rfl rfl rfl ?_
  refine zq_aload (pc' := 3) rfl rfl rfl rfl ?_
  refine zq_calli (pc' := 6) rfl rfl rfl rfl rfl rfl (zE_mono H (fun r2 h1 H => ?_))
  rcases r2 with v3 | e4
  · obtain ⟨x5, e0, H⟩ := H
    refine Exists.intro x5 (And.intro e0 ?_)
    refine zq_pop (pc' := 7) rfl rfl rfl rfl ?_
    refine zq_ipush (pc' := 8) rfl rfl rfl ?_
    refine zq_istore (pc' := 10) rfl rfl rfl ?_
    refine zq_ipushn (pc' := 11) rfl rfl rfl ?_
    refine zq_istore (pc' := 13) rfl rfl rfl ?_
    refine zq_ipush (pc' := 14) rfl rfl rfl ?_
    refine zq_istore_c (pc' := 16) rfl rfl ?_
    exact H
  · exact H
theorem zr_X5_meshedWith_16 {d : Nat} {Q : zR → zH → Prop} {l0 : Nat} {l1 : Nat} {l2 : Nat} {l3 : Int32} {l4 : Int32} {l5 : Int32} {l6 : Int32} {h : zH} (H :
    zbr (l3 < l6)
    (Q (.inl (some (.int l5))) h)
    (zE d 112 [.ref l1] h (fun r2 h1 => match r2 with
        | .inl v3 => ∃ x5 : Int32, v3 = some (.int x5) ∧ zbr (x5 ≤ l6)
          (Q (.inl (some (.int l5))) h1)
          (zE d 105 [.ref l0, .ref l1, .ref l2, .int l6, .int l4] h1 (fun r7 h6 => match r7 with
              | .inl v8 => ∃ x10 : Int32, v8 = some (.int x10) ∧ zbr (x10 = (-1))
                (zW (zE d) zm_X5_meshedWith Q (16, [(0, .ref l0), (1, .ref l1), (2, .ref l2), (3, .int l3), (4, .int l4), (5, .int x10), (6, .int (l6 + 1))], [], h6))
                (zW (zE d) zm_X5_meshedWith Q (16, [(0, .ref l0), (1, .ref l1), (2, .ref l2), (3, .int l3), (4, .int (x10 + 1)), (5, .int x10), (6, .int (l6 + 1))], [], h6))
              | .inr e9 => Q (.inr e9) h6))
        | .inr e4 => Q (.inr e4) h1))) : zW (zE d) zm_X5_meshedWith Q (16, [(0, .ref l0), (1, .ref l1), (2, .ref l2), (3, .int l3), (4, .int l4), (5, .int l5), (6, .int l6)], [], h) := by
  refine zq_iload (pc' := 18) rfl rfl rfl rfl ?_
  refine zq_iload (pc' := 19) rfl rfl rfl rfl ?_
  refine zq_icgt (pc' := 22) rfl rfl rfl rfl (And.intro (fun c => ?_) (fun c => ?_))
  · have H := H.1 c
    refine zq_iload (pc' := 63) rfl rfl rfl rfl ?_
    exact zq_iret rfl trivial H
  · have H := H.2 c
    refine zq_iload (pc' := 24) rfl rfl rfl rfl ?_
    refine zq_aload (pc' := 25) rfl rfl rfl rfl ?_
    refine zq_calli (pc' := 28) rfl rfl rfl rfl rfl rfl (zE_mono H (fun r2 h1 H => ?_))
    rcases r2 with v3 | e4
    · obtain ⟨x5, e0, H⟩ := H
      refine Exists.intro x5 (And.intro e0 ?_)
      refine zq_icge (pc' := 31) rfl rfl rfl rfl (And.intro (fun c => ?_) (fun c => ?_))
      · have H := H.1 c
        refine zq_iload (pc' := 63) rfl rfl rfl rfl ?_
        exact zq_iret rfl trivial H
      · have H := H.2 c
        refine zq_aload (pc' := 32) rfl rfl rfl rfl ?_
        refine zq_aload (pc' := 33) rfl rfl rfl rfl ?_
        refine zq_aload (pc' := 34) rfl rfl rfl rfl ?_
        refine zq_iload (pc' := 36) rfl rfl rfl rfl ?_
        refine zq_iload (pc' := 38) rfl rfl rfl rfl ?_
        refine zq_calli (pc' := 41) rfl rfl rfl rfl rfl rfl (zE_mono H (fun r7 h6 H => ?_))
        rcases r7 with v8 | e9
        · obtain ⟨x10, e0, H⟩ := H
          refine Exists.intro x10 (And.intro e0 ?_)
          refine zq_istore (pc' := 43) rfl rfl rfl ?_
          refine zq_iload (pc' := 45) rfl rfl rfl rfl ?_
          refine zq_ipushn (pc' := 46) rfl rfl rfl ?_
          refine zq_iceq (pc' := 49) rfl rfl rfl rfl (And.intro (fun c => ?_) (fun c => ?_))
          · have H := H.1 c
            refine zq_iinc (pc' := 58) rfl rfl rfl rfl ?_
            refine zq_goto_c (pc' := 16) rfl rfl ?_
            exact H
          · have H := H.2 c
            refine zq_iload (pc' := 51) rfl rfl rfl rfl ?_
            refine zq_ipush (pc' := 52) rfl rfl rfl ?_
            refine zq_iadd (pc' := 53) rfl rfl rfl ?_
            refine zq_istore (pc' := 55) rfl rfl rfl ?_
            refine zq_iinc (pc' := 58) rfl rfl rfl rfl ?_
            refine zq_goto_c (pc' := 16) rfl rfl ?_
            exact H
        · exact H
    · exact H
theorem zr_X5_firstPartner_0 {d : Nat} {Q : zR → zH → Prop} {p0 : Nat} {p1 : Nat} {p2 : Nat} {p3 : Int32} {p4 : Int32} {h : zH} (H :
    zW (zE d) zm_X5_firstPartner Q (4, [(0, .ref p0), (1, .ref p1), (2, .ref p2), (3, .int p3), (4, .int p4), (5, .int p4)], [], h)) : zW (zE d) zm_X5_firstPartner Q (0, [(0, .ref p0), (1, .ref p1), (2, .ref p2), (3, .int p3), (4, .int p4)], [], h) := by
  refine zq_iload (pc' := 2) rfl rfl rfl rfl ?_
  refine zq_istore_c (pc' := 4) rfl rfl ?_
  exact H
theorem zr_X5_firstPartner_4 {d : Nat} {Q : zR → zH → Prop} {l0 : Nat} {l1 : Nat} {l2 : Nat} {l3 : Int32} {l4 : Int32} {l5 : Int32} {h : zH} (H :
    zE d 112 [.ref l2] h (fun r2 h1 => match r2 with
      | .inl v3 => ∃ x5 : Int32, v3 = some (.int x5) ∧ zbr (x5 ≤ l5)
        (Q (.inl (some (.int (-1)))) h1)
        (zE d 99 [.ref l1, .int l3, .ref l2, .int l5] h1 (fun r7 h6 => match r7 with
            | .inl v8 => ∃ x10 : Int32, v8 = some (.int x10) ∧ zbr (x10 ≤ 0)
              (zW (zE d) zm_X5_firstPartner Q (4, [(0, .ref l0), (1, .ref l1), (2, .ref l2), (3, .int l3), (4, .int l4), (5, .int (l5 + 1))], [], h6))
              (zE d 101 [.ref l0, .int (l3 + 1), .int (l5 + 1)] h6 (fun r12 h11 => match r12 with
                  | .inl v13 => ∃ x15 : Int32, v13 = some (.int x15) ∧ zE d 101 [.ref l0, .int l3, .int l4] h11 (fun r17 h16 => match r17 with
                      | .inl v18 => ∃ x20 : Int32, v18 = some (.int x20) ∧ zbr ((x10 + x15) = x20)
                        (Q (.inl (some (.int l5))) h16)
                        (zW (zE d) zm_X5_firstPartner Q (4, [(0, .ref l0), (1, .ref l1), (2, .ref l2), (3, .int l3), (4, .int l4), (5, .int (l5 + 1))], [], h16))
                      | .inr e19 => Q (.inr e19) h16)
                  | .inr e14 => Q (.inr e14) h11))
            | .inr e9 => Q (.inr e9) h6))
      | .inr e4 => Q (.inr e4) h1)) : zW (zE d) zm_X5_firstPartner Q (4, [(0, .ref l0), (1, .ref l1), (2, .ref l2), (3, .int l3), (4, .int l4), (5, .int l5)], [], h) := by
  refine zq_iload (pc' := 6) rfl rfl rfl rfl ?_
  refine zq_aload (pc' := 7) rfl rfl rfl rfl ?_
  refine zq_calli (pc' := 10) rfl rfl rfl rfl rfl rfl (zE_mono H (fun r2 h1 H => ?_))
  rcases r2 with v3 | e4
  · obtain ⟨x5, e0, H⟩ := H
    refine Exists.intro x5 (And.intro e0 ?_)
    refine zq_icge (pc' := 13) rfl rfl rfl rfl (And.intro (fun c => ?_) (fun c => ?_))
    · have H := H.1 c
      refine zq_ipushn (pc' := 62) rfl rfl rfl ?_
      exact zq_iret rfl trivial H
    · have H := H.2 c
      refine zq_aload (pc' := 14) rfl rfl rfl rfl ?_
      refine zq_iload (pc' := 15) rfl rfl rfl rfl ?_
      refine zq_aload (pc' := 16) rfl rfl rfl rfl ?_
      refine zq_iload (pc' := 18) rfl rfl rfl rfl ?_
      refine zq_calli (pc' := 21) rfl rfl rfl rfl rfl rfl (zE_mono H (fun r7 h6 H => ?_))
      rcases r7 with v8 | e9
      · obtain ⟨x10, e0, H⟩ := H
        refine Exists.intro x10 (And.intro e0 ?_)
        refine zq_istore (pc' := 23) rfl rfl rfl ?_
        refine zq_iload (pc' := 25) rfl rfl rfl rfl ?_
        refine zq_ifle (pc' := 28) rfl rfl rfl rfl (And.intro (fun c => ?_) (fun c => ?_))
        · have H := H.1 c
          refine zq_iinc (pc' := 58) rfl rfl rfl rfl ?_
          refine zq_goto_c (pc' := 4) rfl rfl ?_
          exact H
        · have H := H.2 c
          refine zq_iload (pc' := 30) rfl rfl rfl rfl ?_
          refine zq_aload (pc' := 31) rfl rfl rfl rfl ?_
          refine zq_iload (pc' := 32) rfl rfl rfl rfl ?_
          refine zq_ipush (pc' := 33) rfl rfl rfl ?_
          refine zq_iadd (pc' := 34) rfl rfl rfl ?_
          refine zq_iload (pc' := 36) rfl rfl rfl rfl ?_
          refine zq_ipush (pc' := 37) rfl rfl rfl ?_
          refine zq_iadd (pc' := 38) rfl rfl rfl ?_
          refine zq_calli (pc' := 41) rfl rfl rfl rfl rfl rfl (zE_mono H (fun r12 h11 H => ?_))
          rcases r12 with v13 | e14
          · obtain ⟨x15, e0, H⟩ := H
            refine Exists.intro x15 (And.intro e0 ?_)
            refine zq_iadd (pc' := 42) rfl rfl rfl ?_
            refine zq_aload (pc' := 43) rfl rfl rfl rfl ?_
            refine zq_iload (pc' := 44) rfl rfl rfl rfl ?_
            refine zq_iload (pc' := 46) rfl rfl rfl rfl ?_
            refine zq_calli (pc' := 49) rfl rfl rfl rfl rfl rfl (zE_mono H (fun r17 h16 H => ?_))
            rcases r17 with v18 | e19
            · obtain ⟨x20, e0, H⟩ := H
              refine Exists.intro x20 (And.intro e0 ?_)
              refine zq_icne (pc' := 52) rfl rfl rfl rfl (And.intro (fun c => ?_) (fun c => ?_))
              · have H := H.1 c
                refine zq_iload (pc' := 54) rfl rfl rfl rfl ?_
                exact zq_iret rfl trivial H
              · have H := H.2 c
                refine zq_iinc (pc' := 58) rfl rfl rfl rfl ?_
                refine zq_goto_c (pc' := 4) rfl rfl ?_
                exact H
            · exact H
          · exact H
      · exact H
  · exact H
theorem zr_X6_init_0 {d : Nat} {Q : zR → zH → Prop} {p0 : Nat} {h : zH} (H :
    Q (.inl none) h) : zW (zE d) zm_X6_init Q (0, [(0, .ref p0)], [], h) := by
  refine zq_aload (pc' := 1) rfl rfl rfl rfl ?_
  refine zq_nop (pc' := 4) rfl rfl rfl rfl rfl ?_
  exact zq_vret rfl H
theorem zr_X6_makeEmpty_0 {d : Nat} {Q : zR → zH → Prop} {p0 : Nat} {p1 : Int32} {h : zH} (H :
    ∃ h1, zpf h p0 6 6 (.int 0) = some h1 ∧
    ∃ h2, zpf h1 p0 6 0 (.int 0) = some h2 ∧
    (p1 = 0 ∨ p1 = 1) ∧ ∃ h3, zpf h2 p0 6 1 (.int p1) = some h3 ∧
    ∃ h4, zpf h3 p0 6 2 (.long 0) = some h4 ∧
    ∃ h5, zpf h4 p0 6 3 (.long 0) = some h5 ∧
    ∃ h6, zpf h5 p0 6 4 (.int 0) = some h6 ∧
    ∃ h7, zpf h6 p0 6 5 (.int 0) = some h7 ∧
    Q (.inl none) h7) : zW (zE d) zm_X6_makeEmpty Q (0, [(0, .ref p0), (1, .int p1)], [], h) := by
  refine zq_aload (pc' := 1) rfl rfl rfl rfl ?_
  refine zq_ipush (pc' := 2) rfl rfl rfl ?_
  obtain ⟨h1, e0, H⟩ := H
  refine zq_put (pc' := 5) rfl rfl rfl trivial e0 ?_
  refine zq_aload (pc' := 6) rfl rfl rfl rfl ?_
  refine zq_ipush (pc' := 7) rfl rfl rfl ?_
  obtain ⟨h2, e0, H⟩ := H
  refine zq_put (pc' := 10) rfl rfl rfl trivial e0 ?_
  refine zq_aload (pc' := 11) rfl rfl rfl rfl ?_
  refine zq_iload (pc' := 12) rfl rfl rfl rfl ?_
  obtain ⟨e1, H⟩ := H
  obtain ⟨h3, e0, H⟩ := H
  refine zq_put (pc' := 15) rfl rfl rfl e1 e0 ?_
  refine zq_aload (pc' := 16) rfl rfl rfl rfl ?_
  refine zq_lpush (pc' := 17) rfl rfl rfl ?_
  obtain ⟨h4, e0, H⟩ := H
  refine zq_put (pc' := 20) rfl rfl rfl trivial e0 ?_
  refine zq_aload (pc' := 21) rfl rfl rfl rfl ?_
  refine zq_lpush (pc' := 22) rfl rfl rfl ?_
  obtain ⟨h5, e0, H⟩ := H
  refine zq_put (pc' := 25) rfl rfl rfl trivial e0 ?_
  refine zq_aload (pc' := 26) rfl rfl rfl rfl ?_
  refine zq_ipush (pc' := 27) rfl rfl rfl ?_
  obtain ⟨h6, e0, H⟩ := H
  refine zq_put (pc' := 30) rfl rfl rfl trivial e0 ?_
  refine zq_aload (pc' := 31) rfl rfl rfl rfl ?_
  refine zq_ipush (pc' := 32) rfl rfl rfl ?_
  obtain ⟨h7, e0, H⟩ := H
  refine zq_put (pc' := 35) rfl rfl rfl trivial e0 ?_
  exact zq_vret rfl H
theorem zr_X6_makeSize_0 {d : Nat} {Q : zR → zH → Prop} {p0 : Nat} {p1 : Int32} {h : zH} (H :
    ∃ h1, zpf h p0 6 0 (.int p1) = some h1 ∧
    Q (.inl none) h1) : zW (zE d) zm_X6_makeSize Q (0, [(0, .ref p0), (1, .int p1)], [], h) := by
  refine zq_aload (pc' := 1) rfl rfl rfl rfl ?_
  refine zq_iload (pc' := 2) rfl rfl rfl rfl ?_
  obtain ⟨h1, e0, H⟩ := H
  refine zq_put (pc' := 5) rfl rfl rfl trivial e0 ?_
  exact zq_vret rfl H
theorem zr_X6_copyOf_0 {d : Nat} {Q : zR → zH → Prop} {p0 : Nat} {p1 : Nat} {h : zH} (H :
    ∃ x1 : Int32, zgf h p1 6 0 = some (.int x1) ∧
    ∃ h2, zpf h p0 6 0 (.int x1) = some h2 ∧
    ∃ x3 : Int32, zgf h2 p1 6 1 = some (.int x3) ∧
    (x3 = 0 ∨ x3 = 1) ∧ ∃ h4, zpf h2 p0 6 1 (.int x3) = some h4 ∧
    ∃ y5 : Int64, zgf h4 p1 6 2 = some (.long y5) ∧
    ∃ h6, zpf h4 p0 6 2 (.long y5) = some h6 ∧
    ∃ y7 : Int64, zgf h6 p1 6 3 = some (.long y7) ∧
    ∃ h8, zpf h6 p0 6 3 (.long y7) = some h8 ∧
    ∃ x9 : Int32, zgf h8 p1 6 4 = some (.int x9) ∧
    ∃ h10, zpf h8 p0 6 4 (.int x9) = some h10 ∧
    ∃ x11 : Int32, zgf h10 p1 6 5 = some (.int x11) ∧
    ∃ h12, zpf h10 p0 6 5 (.int x11) = some h12 ∧
    ∃ x13 : Int32, zgf h12 p1 6 6 = some (.int x13) ∧
    ∃ h14, zpf h12 p0 6 6 (.int x13) = some h14 ∧
    Q (.inl none) h14) : zW (zE d) zm_X6_copyOf Q (0, [(0, .ref p0), (1, .ref p1)], [], h) := by
  refine zq_aload (pc' := 1) rfl rfl rfl rfl ?_
  refine zq_aload (pc' := 2) rfl rfl rfl rfl ?_
  obtain ⟨x1, e0, H⟩ := H
  refine zq_getI (pc' := 5) rfl rfl rfl e0 ?_
  obtain ⟨h2, e0, H⟩ := H
  refine zq_put (pc' := 8) rfl rfl rfl trivial e0 ?_
  refine zq_aload (pc' := 9) rfl rfl rfl rfl ?_
  refine zq_aload (pc' := 10) rfl rfl rfl rfl ?_
  obtain ⟨x3, e0, H⟩ := H
  refine zq_getI (pc' := 13) rfl rfl rfl e0 ?_
  obtain ⟨e1, H⟩ := H
  obtain ⟨h4, e0, H⟩ := H
  refine zq_put (pc' := 16) rfl rfl rfl e1 e0 ?_
  refine zq_aload (pc' := 17) rfl rfl rfl rfl ?_
  refine zq_aload (pc' := 18) rfl rfl rfl rfl ?_
  obtain ⟨y5, e0, H⟩ := H
  refine zq_getJ (pc' := 21) rfl rfl rfl e0 ?_
  obtain ⟨h6, e0, H⟩ := H
  refine zq_put (pc' := 24) rfl rfl rfl trivial e0 ?_
  refine zq_aload (pc' := 25) rfl rfl rfl rfl ?_
  refine zq_aload (pc' := 26) rfl rfl rfl rfl ?_
  obtain ⟨y7, e0, H⟩ := H
  refine zq_getJ (pc' := 29) rfl rfl rfl e0 ?_
  obtain ⟨h8, e0, H⟩ := H
  refine zq_put (pc' := 32) rfl rfl rfl trivial e0 ?_
  refine zq_aload (pc' := 33) rfl rfl rfl rfl ?_
  refine zq_aload (pc' := 34) rfl rfl rfl rfl ?_
  obtain ⟨x9, e0, H⟩ := H
  refine zq_getI (pc' := 37) rfl rfl rfl e0 ?_
  obtain ⟨h10, e0, H⟩ := H
  refine zq_put (pc' := 40) rfl rfl rfl trivial e0 ?_
  refine zq_aload (pc' := 41) rfl rfl rfl rfl ?_
  refine zq_aload (pc' := 42) rfl rfl rfl rfl ?_
  obtain ⟨x11, e0, H⟩ := H
  refine zq_getI (pc' := 45) rfl rfl rfl e0 ?_
  obtain ⟨h12, e0, H⟩ := H
  refine zq_put (pc' := 48) rfl rfl rfl trivial e0 ?_
  refine zq_aload (pc' := 49) rfl rfl rfl rfl ?_
  refine zq_aload (pc' := 50) rfl rfl rfl rfl ?_
  obtain ⟨x13, e0, H⟩ := H
  refine zq_getI (pc' := 53) rfl rfl rfl e0 ?_
  obtain ⟨h14, e0, H⟩ := H
  refine zq_put (pc' := 56) rfl rfl rfl trivial e0 ?_
  exact zq_vret rfl H
theorem zr_X6_isHarmless_0 {d : Nat} {Q : zR → zH → Prop} {p0 : Nat} {p1 : Int32} {h : zH} (H :
    zbr (32 ≤ p1)
    (Q (.inl (some (.int 0))) h)
    (∃ x1 : Int32, zgf h p0 6 6 = some (.int x1) ∧
      zbr (((x1 >>> (p1 &&& 31)) &&& 1) = 0)
      (Q (.inl (some (.int 0))) h)
      (Q (.inl (some (.int 1))) h))) : zW (zE d) zm_X6_isHarmless Q (0, [(0, .ref p0), (1, .int p1)], [], h) := by
  refine zq_iload (pc' := 1) rfl rfl rfl rfl ?_
  refine zq_ipush (pc' := 3) rfl rfl rfl ?_
  refine zq_icge (pc' := 6) rfl rfl rfl rfl (And.intro (fun c => ?_) (fun c => ?_))
  · have H := H.1 c
    refine zq_ipush (pc' := 22) rfl rfl rfl ?_
    exact zq_iret rfl (Or.inl rfl) H
  · have H := H.2 c
    refine zq_aload (pc' := 7) rfl rfl rfl rfl ?_
    obtain ⟨x1, e0, H⟩ := H
    refine zq_getI (pc' := 10) rfl rfl rfl e0 ?_
    refine zq_iload (pc' := 11) rfl rfl rfl rfl ?_
    refine zq_ishr (pc' := 12) rfl rfl rfl ?_
    refine zq_ipush (pc' := 13) rfl rfl rfl ?_
    refine zq_iand (pc' := 14) rfl rfl rfl ?_
    refine zq_ifeq (pc' := 17) rfl rfl rfl rfl (And.intro (fun c => ?_) (fun c => ?_))
    · have H := H.1 c
      refine zq_ipush (pc' := 22) rfl rfl rfl ?_
      exact zq_iret rfl (Or.inl rfl) H
    · have H := H.2 c
      refine zq_ipush (pc' := 18) rfl rfl rfl ?_
      refine zq_goto (pc' := 22) rfl rfl rfl ?_
      exact zq_iret rfl (Or.inr rfl) H
theorem zr_X6_findHarmless_0 {d : Nat} {Q : zR → zH → Prop} {p0 : Nat} {p1 : Int32} {h : zH} (H :
    zbr (32 ≤ p1)
    (Q (.inl none) h)
    (∃ x1 : Int32, zgf h p0 6 6 = some (.int x1) ∧
      ∃ h2, zpf h p0 6 6 (.int (x1 ||| (1 <<< (p1 &&& 31)))) = some h2 ∧
      Q (.inl none) h2)) : zW (zE d) zm_X6_findHarmless Q (0, [(0, .ref p0), (1, .int p1)], [], h) := by
  refine zq_iload (pc' := 1) rfl rfl rfl rfl ?_
  refine zq_ipush (pc' := 3) rfl rfl rfl ?_
  refine zq_icge (pc' := 6) rfl rfl rfl rfl (And.intro (fun c => ?_) (fun c => ?_))
  · have H := H.1 c
    exact zq_vret rfl H
  · have H := H.2 c
    refine zq_aload (pc' := 7) rfl rfl rfl rfl ?_
    refine zq_dup (pc' := 8) rfl rfl rfl rfl ?_
    obtain ⟨x1, e0, H⟩ := H
    refine zq_getI (pc' := 11) rfl rfl rfl e0 ?_
    refine zq_ipush (pc' := 12) rfl rfl rfl ?_
    refine zq_iload (pc' := 13) rfl rfl rfl rfl ?_
    refine zq_ishl (pc' := 14) rfl rfl rfl ?_
    refine zq_ior (pc' := 15) rfl rfl rfl ?_
    obtain ⟨h2, e0, H⟩ := H
    refine zq_put (pc' := 18) rfl rfl rfl trivial e0 ?_
    exact zq_vret rfl H
theorem zr_X6_size_0 {d : Nat} {Q : zR → zH → Prop} {p0 : Nat} {h : zH} (H :
    ∃ x1 : Int32, zgf h p0 6 0 = some (.int x1) ∧
    Q (.inl (some (.int x1))) h) : zW (zE d) zm_X6_size Q (0, [(0, .ref p0)], [], h) := by
  refine zq_aload (pc' := 1) rfl rfl rfl rfl ?_
  obtain ⟨x1, e0, H⟩ := H
  refine zq_getI (pc' := 4) rfl rfl rfl e0 ?_
  exact zq_iret rfl trivial H
theorem zr_X6_isCoil_0 {d : Nat} {Q : zR → zH → Prop} {p0 : Nat} {h : zH} (H :
    ∃ x1 : Int32, zgf h p0 6 1 = some (.int x1) ∧
    (x1 = 0 ∨ x1 = 1) ∧ Q (.inl (some (.int x1))) h) : zW (zE d) zm_X6_isCoil Q (0, [(0, .ref p0)], [], h) := by
  refine zq_aload (pc' := 1) rfl rfl rfl rfl ?_
  obtain ⟨x1, e0, H⟩ := H
  refine zq_getI (pc' := 4) rfl rfl rfl e0 ?_
  exact zq_iret rfl H.1 H.2
theorem zr_X6_sliderHeight_0 {d : Nat} {Q : zR → zH → Prop} {p0 : Nat} {h : zH} (H :
    ∃ x1 : Int32, zgf h p0 6 5 = some (.int x1) ∧
    Q (.inl (some (.int x1))) h) : zW (zE d) zm_X6_sliderHeight Q (0, [(0, .ref p0)], [], h) := by
  refine zq_aload (pc' := 1) rfl rfl rfl rfl ?_
  obtain ⟨x1, e0, H⟩ := H
  refine zq_getI (pc' := 4) rfl rfl rfl e0 ?_
  exact zq_iret rfl trivial H
theorem zr_X6_closedBits_0 {d : Nat} {Q : zR → zH → Prop} {p0 : Nat} {h : zH} (H :
    ∃ x1 : Int32, zgf h p0 6 4 = some (.int x1) ∧
    Q (.inl (some (.int x1))) h) : zW (zE d) zm_X6_closedBits Q (0, [(0, .ref p0)], [], h) := by
  refine zq_aload (pc' := 1) rfl rfl rfl rfl ?_
  obtain ⟨x1, e0, H⟩ := H
  refine zq_getI (pc' := 4) rfl rfl rfl e0 ?_
  exact zq_iret rfl trivial H
theorem zr_X6_closedCount_0 {d : Nat} {Q : zR → zH → Prop} {p0 : Nat} {h : zH} (H :
    ∃ x1 : Int32, zgf h p0 6 4 = some (.int x1) ∧
    zE d 0 [.int x1] h (fun r3 h2 => match r3 with
      | .inl v4 => ∃ x6 : Int32, v4 = some (.int x6) ∧ Q (.inl (some (.int x6))) h2
      | .inr e5 => Q (.inr e5) h2)) : zW (zE d) zm_X6_closedCount Q (0, [(0, .ref p0)], [], h) := by
  refine zq_aload (pc' := 1) rfl rfl rfl rfl ?_
  obtain ⟨x1, e0, H⟩ := H
  refine zq_getI (pc' := 4) rfl rfl rfl e0 ?_
  refine zq_calli (pc' := 7) rfl rfl rfl rfl rfl rfl (zE_mono H (fun r3 h2 H => ?_))
  rcases r3 with v4 | e5
  · obtain ⟨x6, e0, H⟩ := H
    refine Exists.intro x6 (And.intro e0 ?_)
    exact zq_iret rfl trivial H
  · exact H
theorem zr_X6_isClosed_0 {d : Nat} {Q : zR → zH → Prop} {p0 : Nat} {p1 : Int32} {h : zH} (H :
    ∃ x1 : Int32, zgf h p0 6 4 = some (.int x1) ∧
    zbr (((x1 >>> (p1 &&& 31)) &&& 1) = 0)
    (Q (.inl (some (.int 0))) h)
    (Q (.inl (some (.int 1))) h)) : zW (zE d) zm_X6_isClosed Q (0, [(0, .ref p0), (1, .int p1)], [], h) := by
  refine zq_aload (pc' := 1) rfl rfl rfl rfl ?_
  obtain ⟨x1, e0, H⟩ := H
  refine zq_getI (pc' := 4) rfl rfl rfl e0 ?_
  refine zq_iload (pc' := 5) rfl rfl rfl rfl ?_
  refine zq_ishr (pc' := 6) rfl rfl rfl ?_
  refine zq_ipush (pc' := 7) rfl rfl rfl ?_
  refine zq_iand (pc' := 8) rfl rfl rfl ?_
  refine zq_ifeq (pc' := 11) rfl rfl rfl rfl (And.intro (fun c => ?_) (fun c => ?_))
  · have H := H.1 c
    refine zq_ipush (pc' := 16) rfl rfl rfl ?_
    exact zq_iret rfl (Or.inl rfl) H
  · have H := H.2 c
    refine zq_ipush (pc' := 12) rfl rfl rfl ?_
    refine zq_goto (pc' := 16) rfl rfl rfl ?_
    exact zq_iret rfl (Or.inr rfl) H
theorem zr_X6_grip_0 {d : Nat} {Q : zR → zH → Prop} {p0 : Nat} {p1 : Int32} {p2 : Int32} {h : zH} (H :
    zbr (p1 = 0)
    (∃ y1 : Int64, zgf h p0 6 2 = some (.long y1) ∧
      Q (.inl (some (.int (((((y1 : Int64).toUInt64 >>> ((4 * p2 : Int32).toInt64.toUInt64 &&& Int64.toUInt64 63)).toInt64 : Int64).toInt32) &&& 15)))) h)
    (∃ y2 : Int64, zgf h p0 6 3 = some (.long y2) ∧
      Q (.inl (some (.int (((((y2 : Int64).toUInt64 >>> ((4 * p2 : Int32).toInt64.toUInt64 &&& Int64.toUInt64 63)).toInt64 : Int64).toInt32) &&& 15)))) h)) : zW (zE d) zm_X6_grip Q (0, [(0, .ref p0), (1, .int p1), (2, .int p2)], [], h) := by
  refine zq_iload (pc' := 1) rfl rfl rfl rfl ?_
  refine zq_ifne (pc' := 4) rfl rfl rfl rfl (And.intro (fun c => ?_) (fun c => ?_))
  · have H := H.1 c
    refine zq_aload (pc' := 5) rfl rfl rfl rfl ?_
    obtain ⟨y1, e0, H⟩ := H
    refine zq_getJ (pc' := 8) rfl rfl rfl e0 ?_
    refine zq_goto (pc' := 15) rfl rfl rfl ?_
    refine zq_ipush (pc' := 16) rfl rfl rfl ?_
    refine zq_iload (pc' := 17) rfl rfl rfl rfl ?_
    refine zq_imul (pc' := 18) rfl rfl rfl ?_
    refine zq_lushr (pc' := 19) rfl rfl rfl ?_
    refine zq_l2i (pc' := 20) rfl rfl rfl ?_
    refine zq_ipush (pc' := 22) rfl rfl rfl ?_
    refine zq_iand (pc' := 23) rfl rfl rfl ?_
    exact zq_iret rfl trivial H
  · have H := H.2 c
    refine zq_aload (pc' := 12) rfl rfl rfl rfl ?_
    obtain ⟨y2, e0, H⟩ := H
    refine zq_getJ (pc' := 15) rfl rfl rfl e0 ?_
    refine zq_ipush (pc' := 16) rfl rfl rfl ?_
    refine zq_iload (pc' := 17) rfl rfl rfl rfl ?_
    refine zq_imul (pc' := 18) rfl rfl rfl ?_
    refine zq_lushr (pc' := 19) rfl rfl rfl ?_
    refine zq_l2i (pc' := 20) rfl rfl rfl ?_
    refine zq_ipush (pc' := 22) rfl rfl rfl ?_
    refine zq_iand (pc' := 23) rfl rfl rfl ?_
    exact zq_iret rfl trivial H
theorem zr_X6_putGrip_0 {d : Nat} {Q : zR → zH → Prop} {p0 : Nat} {p1 : Int32} {p2 : Int32} {p3 : Int32} {h : zH} (H :
    ∃ h1, zpf h p0 6 6 (.int 0) = some h1 ∧
    zbr (p1 = 0)
    (∃ y2 : Int64, zgf h1 p0 6 2 = some (.long y2) ∧
      ∃ h3, zpf h1 p0 6 2 (.long ((y2 &&& ((15 <<< ((4 * p2 : Int32).toInt64 &&& 63)) ^^^ (-1))) ||| (((p3 : Int32).toInt64) <<< ((4 * p2 : Int32).toInt64 &&& 63)))) = some h3 ∧
      Q (.inl none) h3)
    (∃ y4 : Int64, zgf h1 p0 6 3 = some (.long y4) ∧
      ∃ h5, zpf h1 p0 6 3 (.long ((y4 &&& ((15 <<< ((4 * p2 : Int32).toInt64 &&& 63)) ^^^ (-1))) ||| (((p3 : Int32).toInt64) <<< ((4 * p2 : Int32).toInt64 &&& 63)))) = some h5 ∧
      Q (.inl none) h5)) : zW (zE d) zm_X6_putGrip Q (0, [(0, .ref p0), (1, .int p1), (2, .int p2), (3, .int p3)], [], h) := by
  refine zq_aload (pc' := 1) rfl rfl rfl rfl ?_
  refine zq_ipush (pc' := 2) rfl rfl rfl ?_
  obtain ⟨h1, e0, H⟩ := H
  refine zq_put (pc' := 5) rfl rfl rfl trivial e0 ?_
  refine zq_lpush (pc' := 8) rfl rfl rfl ?_
  refine zq_ipush (pc' := 9) rfl rfl rfl ?_
  refine zq_iload (pc' := 10) rfl rfl rfl rfl ?_
  refine zq_imul (pc' := 11) rfl rfl rfl ?_
  refine zq_lshl (pc' := 12) rfl rfl rfl ?_
  refine zq_lpushn (pc' := 15) rfl rfl rfl ?_
  refine zq_lxor (pc' := 16) rfl rfl rfl ?_
  refine zq_lstore (pc' := 18) rfl rfl rfl ?_
  refine zq_iload (pc' := 19) rfl rfl rfl rfl ?_
  refine zq_i2l (pc' := 20) rfl rfl rfl ?_
  refine zq_ipush (pc' := 21) rfl rfl rfl ?_
  refine zq_iload (pc' := 22) rfl rfl rfl rfl ?_
  refine zq_imul (pc' := 23) rfl rfl rfl ?_
  refine zq_lshl (pc' := 24) rfl rfl rfl ?_
  refine zq_lstore (pc' := 26) rfl rfl rfl ?_
  refine zq_iload (pc' := 27) rfl rfl rfl rfl ?_
  refine zq_ifne (pc' := 30) rfl rfl rfl rfl (And.intro (fun c => ?_) (fun c => ?_))
  · have H := H.1 c
    refine zq_aload (pc' := 31) rfl rfl rfl rfl ?_
    refine zq_aload (pc' := 32) rfl rfl rfl rfl ?_
    obtain ⟨y2, e0, H⟩ := H
    refine zq_getJ (pc' := 35) rfl rfl rfl e0 ?_
    refine zq_lload (pc' := 37) rfl rfl rfl rfl ?_
    refine zq_land (pc' := 38) rfl rfl rfl ?_
    refine zq_lload (pc' := 40) rfl rfl rfl rfl ?_
    refine zq_lor (pc' := 41) rfl rfl rfl ?_
    obtain ⟨h3, e0, H⟩ := H
    refine zq_put (pc' := 44) rfl rfl rfl trivial e0 ?_
    refine zq_goto (pc' := 61) rfl rfl rfl ?_
    exact zq_vret rfl H
  · have H := H.2 c
    refine zq_aload (pc' := 48) rfl rfl rfl rfl ?_
    refine zq_aload (pc' := 49) rfl rfl rfl rfl ?_
    obtain ⟨y4, e0, H⟩ := H
    refine zq_getJ (pc' := 52) rfl rfl rfl e0 ?_
    refine zq_lload (pc' := 54) rfl rfl rfl rfl ?_
    refine zq_land (pc' := 55) rfl rfl rfl ?_
    refine zq_lload (pc' := 57) rfl rfl rfl rfl ?_
    refine zq_lor (pc' := 58) rfl rfl rfl ?_
    obtain ⟨h5, e0, H⟩ := H
    refine zq_put (pc' := 61) rfl rfl rfl trivial e0 ?_
    exact zq_vret rfl H
theorem zr_X6_hold_0 {d : Nat} {Q : zR → zH → Prop} {p0 : Nat} {p1 : Int32} {h : zH} (H :
    zE d 118 [.ref p0, .int 0, .int p1] h (fun r2 h1 => match r2 with
      | .inl v3 => ∃ x5 : Int32, v3 = some (.int x5) ∧ zE d 118 [.ref p0, .int 1, .int p1] h1 (fun r7 h6 => match r7 with
          | .inl v8 => ∃ x10 : Int32, v8 = some (.int x10) ∧ zE d 3 [.int x5, .int x10] h6 (fun r12 h11 => match r12 with
              | .inl v13 => ∃ x15 : Int32, v13 = some (.int x15) ∧ Q (.inl (some (.int x15))) h11
              | .inr e14 => Q (.inr e14) h11)
          | .inr e9 => Q (.inr e9) h6)
      | .inr e4 => Q (.inr e4) h1)) : zW (zE d) zm_X6_hold Q (0, [(0, .ref p0), (1, .int p1)], [], h) := by
  refine zq_aload (pc' := 1) rfl rfl rfl rfl ?_
  refine zq_ipush (pc' := 2) rfl rfl rfl ?_
  refine zq_iload (pc' := 3) rfl rfl rfl rfl ?_
  refine zq_calli (pc' := 6) rfl rfl rfl rfl rfl rfl (zE_mono H (fun r2 h1 H => ?_))
  rcases r2 with v3 | e4
  · obtain ⟨x5, e0, H⟩ := H
    refine Exists.intro x5 (And.intro e0 ?_)
    refine zq_aload (pc' := 7) rfl rfl rfl rfl ?_
    refine zq_ipush (pc' := 8) rfl rfl rfl ?_
    refine zq_iload (pc' := 9) rfl rfl rfl rfl ?_
    refine zq_calli (pc' := 12) rfl rfl rfl rfl rfl rfl (zE_mono H (fun r7 h6 H => ?_))
    rcases r7 with v8 | e9
    · obtain ⟨x10, e0, H⟩ := H
      refine Exists.intro x10 (And.intro e0 ?_)
      refine zq_calli (pc' := 15) rfl rfl rfl rfl rfl rfl (zE_mono H (fun r12 h11 H => ?_))
      rcases r12 with v13 | e14
      · obtain ⟨x15, e0, H⟩ := H
        refine Exists.intro x15 (And.intro e0 ?_)
        exact zq_iret rfl trivial H
      · exact H
    · exact H
  · exact H
theorem zr_X6_holding_0 {d : Nat} {Q : zR → zH → Prop} {p0 : Nat} {h : zH} (H :
    zW (zE d) zm_X6_holding Q (4, [(0, .ref p0), (1, .int 0), (2, .int 0)], [], h)) : zW (zE d) zm_X6_holding Q (0, [(0, .ref p0)], [], h) := by
  refine zq_ipush (pc' := 1) rfl rfl rfl ?_
  refine zq_istore (pc' := 2) rfl rfl rfl ?_
  refine zq_ipush (pc' := 3) rfl rfl rfl ?_
  refine zq_istore_c (pc' := 4) rfl rfl ?_
  exact H
theorem zr_X6_holding_4 {d : Nat} {Q : zR → zH → Prop} {l0 : Nat} {l1 : Int32} {l2 : Int32} {h : zH} (H :
    ∃ x1 : Int32, zgf h l0 6 0 = some (.int x1) ∧
    zbr (x1 ≤ l2)
    (Q (.inl (some (.int l1))) h)
    (∃ y2 : Int64, zgf h l0 6 2 = some (.long y2) ∧
      zbr ((lg_cmp ((((y2 : Int64).toUInt64 >>> ((4 * l2 : Int32).toInt64.toUInt64 &&& Int64.toUInt64 63)).toInt64) &&& 15) 0) = 0)
      (zW (zE d) zm_X6_holding Q (4, [(0, .ref l0), (1, .int l1), (2, .int (l2 + 1))], [], h))
      (∃ y3 : Int64, zgf h l0 6 3 = some (.long y3) ∧
        zbr ((lg_cmp ((((y3 : Int64).toUInt64 >>> ((4 * l2 : Int32).toInt64.toUInt64 &&& Int64.toUInt64 63)).toInt64) &&& 15) 0) = 0)
        (zW (zE d) zm_X6_holding Q (4, [(0, .ref l0), (1, .int l1), (2, .int (l2 + 1))], [], h))
        (zW (zE d) zm_X6_holding Q (4, [(0, .ref l0), (1, .int (l1 ||| (1 <<< (l2 &&& 31)))), (2, .int (l2 + 1))], [], h))))) : zW (zE d) zm_X6_holding Q (4, [(0, .ref l0), (1, .int l1), (2, .int l2)], [], h) := by
  refine zq_iload (pc' := 5) rfl rfl rfl rfl ?_
  refine zq_aload (pc' := 6) rfl rfl rfl rfl ?_
  obtain ⟨x1, e0, H⟩ := H
  refine zq_getI (pc' := 9) rfl rfl rfl e0 ?_
  refine zq_icge (pc' := 12) rfl rfl rfl rfl (And.intro (fun c => ?_) (fun c => ?_))
  · have H := H.1 c
    refine zq_iload (pc' := 59) rfl rfl rfl rfl ?_
    exact zq_iret rfl trivial H
  · have H := H.2 c
    refine zq_aload (pc' := 13) rfl rfl rfl rfl ?_
    obtain ⟨y2, e0, H⟩ := H
    refine zq_getJ (pc' := 16) rfl rfl rfl e0 ?_
    refine zq_ipush (pc' := 17) rfl rfl rfl ?_
    refine zq_iload (pc' := 18) rfl rfl rfl rfl ?_
    refine zq_imul (pc' := 19) rfl rfl rfl ?_
    refine zq_lushr (pc' := 20) rfl rfl rfl ?_
    refine zq_lpush (pc' := 23) rfl rfl rfl ?_
    refine zq_land (pc' := 24) rfl rfl rfl ?_
    refine zq_lpush (pc' := 25) rfl rfl rfl ?_
    refine zq_lcmp (pc' := 26) rfl rfl rfl ?_
    refine zq_ifeq (pc' := 29) rfl rfl rfl rfl (And.intro (fun c => ?_) (fun c => ?_))
    · have H := H.1 c
      refine zq_iinc (pc' := 55) rfl rfl rfl rfl ?_
      refine zq_goto_c (pc' := 4) rfl rfl ?_
      exact H
    · have H := H.2 c
      refine zq_aload (pc' := 30) rfl rfl rfl rfl ?_
      obtain ⟨y3, e0, H⟩ := H
      refine zq_getJ (pc' := 33) rfl rfl rfl e0 ?_
      refine zq_ipush (pc' := 34) rfl rfl rfl ?_
      refine zq_iload (pc' := 35) rfl rfl rfl rfl ?_
      refine zq_imul (pc' := 36) rfl rfl rfl ?_
      refine zq_lushr (pc' := 37) rfl rfl rfl ?_
      refine zq_lpush (pc' := 40) rfl rfl rfl ?_
      refine zq_land (pc' := 41) rfl rfl rfl ?_
      refine zq_lpush (pc' := 42) rfl rfl rfl ?_
      refine zq_lcmp (pc' := 43) rfl rfl rfl ?_
      refine zq_ifeq (pc' := 46) rfl rfl rfl rfl (And.intro (fun c => ?_) (fun c => ?_))
      · have H := H.1 c
        refine zq_iinc (pc' := 55) rfl rfl rfl rfl ?_
        refine zq_goto_c (pc' := 4) rfl rfl ?_
        exact H
      · have H := H.2 c
        refine zq_iload (pc' := 47) rfl rfl rfl rfl ?_
        refine zq_ipush (pc' := 48) rfl rfl rfl ?_
        refine zq_iload (pc' := 49) rfl rfl rfl rfl ?_
        refine zq_ishl (pc' := 50) rfl rfl rfl ?_
        refine zq_ior (pc' := 51) rfl rfl rfl ?_
        refine zq_istore (pc' := 52) rfl rfl rfl ?_
        refine zq_iinc (pc' := 55) rfl rfl rfl rfl ?_
        refine zq_goto_c (pc' := 4) rfl rfl ?_
        exact H
theorem zr_X6_holdsBetween_0 {d : Nat} {Q : zR → zH → Prop} {p0 : Nat} {p1 : Int32} {p2 : Int32} {h : zH} (H :
    zW (zE d) zm_X6_holdsBetween Q (5, [(0, .ref p0), (2, .int p2), (3, .int 0), (4, .int p1)], [], h)) : zW (zE d) zm_X6_holdsBetween Q (0, [(0, .ref p0), (1, .int p1), (2, .int p2)], [], h) := by
  refine zq_ipush (pc' := 1) rfl rfl rfl ?_
  refine zq_istore (pc' := 2) rfl rfl rfl ?_
  refine zq_iload (pc' := 3) rfl rfl rfl rfl ?_
  refine zq_istore_c (pc' := 5) rfl rfl ?_
  exact H
theorem zr_X6_holdsBetween_5 {d : Nat} {Q : zR → zH → Prop} {l0 : Nat} {l2 : Int32} {l3 : Int32} {l4 : Int32} {h : zH} (H :
    zbr (l2 ≤ l4)
    (Q (.inl (some (.int l3))) h)
    (zE d 120 [.ref l0, .int l4] h (fun r2 h1 => match r2 with
        | .inl v3 => ∃ x5 : Int32, v3 = some (.int x5) ∧ zW (zE d) zm_X6_holdsBetween Q (5, [(0, .ref l0), (2, .int l2), (3, .int (l3 + x5)), (4, .int (l4 + 1))], [], h1)
        | .inr e4 => Q (.inr e4) h1))) : zW (zE d) zm_X6_holdsBetween Q (5, [(0, .ref l0), (2, .int l2), (3, .int l3), (4, .int l4)], [], h) := by
  refine zq_iload (pc' := 7) rfl rfl rfl rfl ?_
  refine zq_iload (pc' := 8) rfl rfl rfl rfl ?_
  refine zq_icge (pc' := 11) rfl rfl rfl rfl (And.intro (fun c => ?_) (fun c => ?_))
  · have H := H.1 c
    refine zq_iload (pc' := 27) rfl rfl rfl rfl ?_
    exact zq_iret rfl trivial H
  · have H := H.2 c
    refine zq_iload (pc' := 12) rfl rfl rfl rfl ?_
    refine zq_aload (pc' := 13) rfl rfl rfl rfl ?_
    refine zq_iload (pc' := 15) rfl rfl rfl rfl ?_
    refine zq_calli (pc' := 18) rfl rfl rfl rfl rfl rfl (zE_mono H (fun r2 h1 H => ?_))
    rcases r2 with v3 | e4
    · obtain ⟨x5, e0, H⟩ := H
      refine Exists.intro x5 (And.intro e0 ?_)
      refine zq_iadd (pc' := 19) rfl rfl rfl ?_
      refine zq_istore (pc' := 20) rfl rfl rfl ?_
      refine zq_iinc (pc' := 23) rfl rfl rfl rfl ?_
      refine zq_goto_c (pc' := 5) rfl rfl ?_
      exact H
    · exact H
theorem zr_X6_gripSum_0 {d : Nat} {Q : zR → zH → Prop} {p0 : Nat} {h : zH} (H :
    zW (zE d) zm_X6_gripSum Q (4, [(0, .ref p0), (1, .int 0), (2, .int 0)], [], h)) : zW (zE d) zm_X6_gripSum Q (0, [(0, .ref p0)], [], h) := by
  refine zq_ipush (pc' := 1) rfl rfl rfl ?_
  refine zq_istore (pc' := 2) rfl rfl rfl ?_
  refine zq_ipush (pc' := 3) rfl rfl rfl ?_
  refine zq_istore_c (pc' := 4) rfl rfl ?_
  exact H
theorem zr_X6_gripSum_4 {d : Nat} {Q : zR → zH → Prop} {l0 : Nat} {l1 : Int32} {l2 : Int32} {h : zH} (H :
    ∃ x1 : Int32, zgf h l0 6 0 = some (.int x1) ∧
    zbr (x1 ≤ l2)
    (Q (.inl (some (.int l1))) h)
    (zE d 118 [.ref l0, .int 0, .int l2] h (fun r3 h2 => match r3 with
        | .inl v4 => ∃ x6 : Int32, v4 = some (.int x6) ∧ zE d 118 [.ref l0, .int 1, .int l2] h2 (fun r8 h7 => match r8 with
            | .inl v9 => ∃ x11 : Int32, v9 = some (.int x11) ∧ zW (zE d) zm_X6_gripSum Q (4, [(0, .ref l0), (1, .int (l1 + (x6 + x11))), (2, .int (l2 + 1))], [], h7)
            | .inr e10 => Q (.inr e10) h7)
        | .inr e5 => Q (.inr e5) h2))) : zW (zE d) zm_X6_gripSum Q (4, [(0, .ref l0), (1, .int l1), (2, .int l2)], [], h) := by
  refine zq_iload (pc' := 5) rfl rfl rfl rfl ?_
  refine zq_aload (pc' := 6) rfl rfl rfl rfl ?_
  obtain ⟨x1, e0, H⟩ := H
  refine zq_getI (pc' := 9) rfl rfl rfl e0 ?_
  refine zq_icge (pc' := 12) rfl rfl rfl rfl (And.intro (fun c => ?_) (fun c => ?_))
  · have H := H.1 c
    refine zq_iload (pc' := 35) rfl rfl rfl rfl ?_
    exact zq_iret rfl trivial H
  · have H := H.2 c
    refine zq_iload (pc' := 13) rfl rfl rfl rfl ?_
    refine zq_aload (pc' := 14) rfl rfl rfl rfl ?_
    refine zq_ipush (pc' := 15) rfl rfl rfl ?_
    refine zq_iload (pc' := 16) rfl rfl rfl rfl ?_
    refine zq_calli (pc' := 19) rfl rfl rfl rfl rfl rfl (zE_mono H (fun r3 h2 H => ?_))
    rcases r3 with v4 | e5
    · obtain ⟨x6, e0, H⟩ := H
      refine Exists.intro x6 (And.intro e0 ?_)
      refine zq_aload (pc' := 20) rfl rfl rfl rfl ?_
      refine zq_ipush (pc' := 21) rfl rfl rfl ?_
      refine zq_iload (pc' := 22) rfl rfl rfl rfl ?_
      refine zq_calli (pc' := 25) rfl rfl rfl rfl rfl rfl (zE_mono H (fun r8 h7 H => ?_))
      rcases r8 with v9 | e10
      · obtain ⟨x11, e0, H⟩ := H
        refine Exists.intro x11 (And.intro e0 ?_)
        refine zq_iadd (pc' := 26) rfl rfl rfl ?_
        refine zq_iadd (pc' := 27) rfl rfl rfl ?_
        refine zq_istore (pc' := 28) rfl rfl rfl ?_
        refine zq_iinc (pc' := 31) rfl rfl rfl rfl ?_
        refine zq_goto_c (pc' := 4) rfl rfl ?_
        exact H
      · exact H
    · exact H
theorem zr_X6_hasGripsOf_0 {d : Nat} {Q : zR → zH → Prop} {p0 : Nat} {p1 : Nat} {h : zH} (H :
    ∃ x1 : Int32, zgf h p0 6 0 = some (.int x1) ∧
    ∃ x2 : Int32, zgf h p1 6 0 = some (.int x2) ∧
    zbr (x1 = x2)
    (∃ y3 : Int64, zgf h p0 6 2 = some (.long y3) ∧
      ∃ y4 : Int64, zgf h p1 6 2 = some (.long y4) ∧
      zbr ((lg_cmp y3 y4) = 0)
      (∃ y5 : Int64, zgf h p0 6 3 = some (.long y5) ∧
        ∃ y6 : Int64, zgf h p1 6 3 = some (.long y6) ∧
        zbr ((lg_cmp y5 y6) = 0)
        (Q (.inl (some (.int 1))) h)
        (Q (.inl (some (.int 0))) h))
      (Q (.inl (some (.int 0))) h))
    (Q (.inl (some (.int 0))) h)) : zW (zE d) zm_X6_hasGripsOf Q (0, [(0, .ref p0), (1, .ref p1)], [], h) := by
  refine zq_aload (pc' := 1) rfl rfl rfl rfl ?_
  obtain ⟨x1, e0, H⟩ := H
  refine zq_getI (pc' := 4) rfl rfl rfl e0 ?_
  refine zq_aload (pc' := 5) rfl rfl rfl rfl ?_
  obtain ⟨x2, e0, H⟩ := H
  refine zq_getI (pc' := 8) rfl rfl rfl e0 ?_
  refine zq_icne (pc' := 11) rfl rfl rfl rfl (And.intro (fun c => ?_) (fun c => ?_))
  · have H := H.1 c
    refine zq_aload (pc' := 12) rfl rfl rfl rfl ?_
    obtain ⟨y3, e0, H⟩ := H
    refine zq_getJ (pc' := 15) rfl rfl rfl e0 ?_
    refine zq_aload (pc' := 16) rfl rfl rfl rfl ?_
    obtain ⟨y4, e0, H⟩ := H
    refine zq_getJ (pc' := 19) rfl rfl rfl e0 ?_
    refine zq_lcmp (pc' := 20) rfl rfl rfl ?_
    refine zq_ifne (pc' := 23) rfl rfl rfl rfl (And.intro (fun c => ?_) (fun c => ?_))
    · have H := H.1 c
      refine zq_aload (pc' := 24) rfl rfl rfl rfl ?_
      obtain ⟨y5, e0, H⟩ := H
      refine zq_getJ (pc' := 27) rfl rfl rfl e0 ?_
      refine zq_aload (pc' := 28) rfl rfl rfl rfl ?_
      obtain ⟨y6, e0, H⟩ := H
      refine zq_getJ (pc' := 31) rfl rfl rfl e0 ?_
      refine zq_lcmp (pc' := 32) rfl rfl rfl ?_
      refine zq_ifne (pc' := 35) rfl rfl rfl rfl (And.intro (fun c => ?_) (fun c => ?_))
      · have H := H.1 c
        refine zq_ipush (pc' := 36) rfl rfl rfl ?_
        refine zq_goto (pc' := 40) rfl rfl rfl ?_
        exact zq_iret rfl (Or.inr rfl) H
      · have H := H.2 c
        refine zq_ipush (pc' := 40) rfl rfl rfl ?_
        exact zq_iret rfl (Or.inl rfl) H
    · have H := H.2 c
      refine zq_ipush (pc' := 40) rfl rfl rfl ?_
      exact zq_iret rfl (Or.inl rfl) H
  · have H := H.2 c
    refine zq_ipush (pc' := 40) rfl rfl rfl ?_
    exact zq_iret rfl (Or.inl rfl) H
theorem zr_X6_openBeside_0 {d : Nat} {Q : zR → zH → Prop} {p0 : Nat} {p1 : Int32} {h : zH} (H :
    zbr (p1 ≤ 0)
    (zW (zE d) zm_X6_openBeside Q (19, [(0, .ref p0), (1, .int p1), (2, .int 0)], [], h))
    (zE d 117 [.ref p0, .int (p1 - 1)] h (fun r2 h1 => match r2 with
        | .inl v3 => ∃ x5 : Int32, v3 = some (.int x5) ∧ zbr (x5 = 0)
          (zW (zE d) zm_X6_openBeside Q (19, [(0, .ref p0), (1, .int p1), (2, .int (0 + 1))], [], h1))
          (zW (zE d) zm_X6_openBeside Q (19, [(0, .ref p0), (1, .int p1), (2, .int 0)], [], h1))
        | .inr e4 => Q (.inr e4) h1))) : zW (zE d) zm_X6_openBeside Q (0, [(0, .ref p0), (1, .int p1)], [], h) := by
  refine zq_ipush (pc' := 1) rfl rfl rfl ?_
  refine zq_istore (pc' := 2) rfl rfl rfl ?_
  refine zq_iload (pc' := 3) rfl rfl rfl rfl ?_
  refine zq_ifle_c (pc' := 6) (lt := [(0, .ref p0), (1, .int p1), (2, .int 0)]) (lf := [(2, .int 0), (0, .ref p0), (1, .int p1)]) rfl rfl rfl rfl (And.intro (fun c => ?_) (fun c => ?_))
  · have H := H.1 c
    exact H
  · have H := H.2 c
    refine zq_aload (pc' := 7) rfl rfl rfl rfl ?_
    refine zq_iload (pc' := 8) rfl rfl rfl rfl ?_
    refine zq_ipush (pc' := 9) rfl rfl rfl ?_
    refine zq_isub (pc' := 10) rfl rfl rfl ?_
    refine zq_calli (pc' := 13) rfl rfl rfl rfl rfl rfl (zE_mono H (fun r2 h1 H => ?_))
    rcases r2 with v3 | e4
    · obtain ⟨x5, e0, H⟩ := H
      refine Exists.intro x5 (And.intro e0 ?_)
      refine zq_ifne_c (pc' := 16) (lt := [(0, .ref p0), (1, .int p1), (2, .int 0)]) (lf := [(2, .int 0), (0, .ref p0), (1, .int p1)]) rfl rfl rfl rfl (And.intro (fun c => ?_) (fun c => ?_))
      · have H := H.1 c
        refine zq_iinc_c (pc' := 19) rfl rfl rfl ?_
        exact H
      · have H := H.2 c
        exact H
    · exact H
theorem zr_X6_openBeside_19 {d : Nat} {Q : zR → zH → Prop} {l0 : Nat} {l1 : Int32} {l2 : Int32} {h : zH} (H :
    ∃ x1 : Int32, zgf h l0 6 0 = some (.int x1) ∧
    zbr (x1 ≤ (l1 + 1))
    (Q (.inl (some (.int l2))) h)
    (zE d 117 [.ref l0, .int (l1 + 1)] h (fun r3 h2 => match r3 with
        | .inl v4 => ∃ x6 : Int32, v4 = some (.int x6) ∧ zbr (x6 = 0)
          (Q (.inl (some (.int (l2 + 1)))) h2)
          (Q (.inl (some (.int l2))) h2)
        | .inr e5 => Q (.inr e5) h2))) : zW (zE d) zm_X6_openBeside Q (19, [(0, .ref l0), (1, .int l1), (2, .int l2)], [], h) := by
  refine zq_iload (pc' := 20) rfl rfl rfl rfl ?_
  refine zq_ipush (pc' := 21) rfl rfl rfl ?_
  refine zq_iadd (pc' := 22) rfl rfl rfl ?_
  refine zq_aload (pc' := 23) rfl rfl rfl rfl ?_
  obtain ⟨x1, e0, H⟩ := H
  refine zq_getI (pc' := 26) rfl rfl rfl e0 ?_
  refine zq_icge (pc' := 29) rfl rfl rfl rfl (And.intro (fun c => ?_) (fun c => ?_))
  · have H := H.1 c
    refine zq_iload (pc' := 43) rfl rfl rfl rfl ?_
    exact zq_iret rfl trivial H
  · have H := H.2 c
    refine zq_aload (pc' := 30) rfl rfl rfl rfl ?_
    refine zq_iload (pc' := 31) rfl rfl rfl rfl ?_
    refine zq_ipush (pc' := 32) rfl rfl rfl ?_
    refine zq_iadd (pc' := 33) rfl rfl rfl ?_
    refine zq_calli (pc' := 36) rfl rfl rfl rfl rfl rfl (zE_mono H (fun r3 h2 H => ?_))
    rcases r3 with v4 | e5
    · obtain ⟨x6, e0, H⟩ := H
      refine Exists.intro x6 (And.intro e0 ?_)
      refine zq_ifne (pc' := 39) rfl rfl rfl rfl (And.intro (fun c => ?_) (fun c => ?_))
      · have H := H.1 c
        refine zq_iinc (pc' := 42) rfl rfl rfl rfl ?_
        refine zq_iload (pc' := 43) rfl rfl rfl rfl ?_
        exact zq_iret rfl trivial H
      · have H := H.2 c
        refine zq_iload (pc' := 43) rfl rfl rfl rfl ?_
        exact zq_iret rfl trivial H
    · exact H
theorem zr_X6_slideTo_0 {d : Nat} {Q : zR → zH → Prop} {p0 : Nat} {p1 : Int32} {h : zH} (H :
    ∃ h1, zpf h p0 6 6 (.int 0) = some h1 ∧
    ∃ h2, zpf h1 p0 6 5 (.int p1) = some h2 ∧
    zE d 121 [.ref p0] h2 (fun r4 h3 => match r4 with
      | .inl v5 => ∃ x7 : Int32, v5 = some (.int x7) ∧ ∃ h8, zpf h3 p0 6 4 (.int (x7 &&& ((1 <<< (p1 &&& 31)) - 1))) = some h8 ∧
        Q (.inl none) h8
      | .inr e6 => Q (.inr e6) h3)) : zW (zE d) zm_X6_slideTo Q (0, [(0, .ref p0), (1, .int p1)], [], h) := by
  refine zq_aload (pc' := 1) rfl rfl rfl rfl ?_
  refine zq_ipush (pc' := 2) rfl rfl rfl ?_
  obtain ⟨h1, e0, H⟩ := H
  refine zq_put (pc' := 5) rfl rfl rfl trivial e0 ?_
  refine zq_aload (pc' := 6) rfl rfl rfl rfl ?_
  refine zq_iload (pc' := 7) rfl rfl rfl rfl ?_
  obtain ⟨h2, e0, H⟩ := H
  refine zq_put (pc' := 10) rfl rfl rfl trivial e0 ?_
  refine zq_aload (pc' := 11) rfl rfl rfl rfl ?_
  refine zq_aload (pc' := 12) rfl rfl rfl rfl ?_
  refine zq_calli (pc' := 15) rfl rfl rfl rfl rfl rfl (zE_mono H (fun r4 h3 H => ?_))
  rcases r4 with v5 | e6
  · obtain ⟨x7, e0, H⟩ := H
    refine Exists.intro x7 (And.intro e0 ?_)
    refine zq_ipush (pc' := 16) rfl rfl rfl ?_
    refine zq_iload (pc' := 17) rfl rfl rfl rfl ?_
    refine zq_ishl (pc' := 18) rfl rfl rfl ?_
    refine zq_ipush (pc' := 19) rfl rfl rfl ?_
    refine zq_isub (pc' := 20) rfl rfl rfl ?_
    refine zq_iand (pc' := 21) rfl rfl rfl ?_
    obtain ⟨h8, e0, H⟩ := H
    refine zq_put (pc' := 24) rfl rfl rfl trivial e0 ?_
    exact zq_vret rfl H
  · exact H
theorem zr_X6_slideToTop_0 {d : Nat} {Q : zR → zH → Prop} {p0 : Nat} {h : zH} (H :
    ∃ x1 : Int32, zgf h p0 6 0 = some (.int x1) ∧
    zE d 126 [.ref p0, .int x1] h (fun r3 h2 => match r3 with
      | .inl v4 => v4 = none ∧ Q (.inl none) h2
      | .inr e5 => Q (.inr e5) h2)) : zW (zE d) zm_X6_slideToTop Q (0, [(0, .ref p0)], [], h) := by
  refine zq_aload (pc' := 1) rfl rfl rfl rfl ?_
  refine zq_aload (pc' := 2) rfl rfl rfl rfl ?_
  obtain ⟨x1, e0, H⟩ := H
  refine zq_getI (pc' := 5) rfl rfl rfl e0 ?_
  refine zq_callv (pc' := 8) rfl rfl rfl rfl rfl rfl (zE_mono H (fun r3 h2 H => ?_))
  rcases r3 with v4 | e5
  · obtain ⟨e0, H⟩ := H
    refine And.intro e0 ?_
    exact zq_vret rfl H
  · exact H
theorem zr_X6_openAt_0 {d : Nat} {Q : zR → zH → Prop} {p0 : Nat} {p1 : Int32} {h : zH} (H :
    ∃ h1, zpf h p0 6 6 (.int 0) = some h1 ∧
    ∃ x2 : Int32, zgf h1 p0 6 4 = some (.int x2) ∧
    ∃ h3, zpf h1 p0 6 4 (.int (x2 &&& ((1 <<< (p1 &&& 31)) ^^^ (-1)))) = some h3 ∧
    Q (.inl none) h3) : zW (zE d) zm_X6_openAt Q (0, [(0, .ref p0), (1, .int p1)], [], h) := by
  refine zq_aload (pc' := 1) rfl rfl rfl rfl ?_
  refine zq_ipush (pc' := 2) rfl rfl rfl ?_
  obtain ⟨h1, e0, H⟩ := H
  refine zq_put (pc' := 5) rfl rfl rfl trivial e0 ?_
  refine zq_aload (pc' := 6) rfl rfl rfl rfl ?_
  refine zq_dup (pc' := 7) rfl rfl rfl rfl ?_
  obtain ⟨x2, e0, H⟩ := H
  refine zq_getI (pc' := 10) rfl rfl rfl e0 ?_
  refine zq_ipush (pc' := 11) rfl rfl rfl ?_
  refine zq_iload (pc' := 12) rfl rfl rfl rfl ?_
  refine zq_ishl (pc' := 13) rfl rfl rfl ?_
  refine zq_ipushn (pc' := 14) rfl rfl rfl ?_
  refine zq_ixor (pc' := 15) rfl rfl rfl ?_
  refine zq_iand (pc' := 16) rfl rfl rfl ?_
  obtain ⟨h3, e0, H⟩ := H
  refine zq_put (pc' := 19) rfl rfl rfl trivial e0 ?_
  exact zq_vret rfl H
theorem zr_X6_mayPinch_0 {d : Nat} {Q : zR → zH → Prop} {p0 : Nat} {p1 : Int32} {p2 : Int32} {h : zH} (H :
    zE d 118 [.ref p0, .int p1, .int p2] h (fun r2 h1 => match r2 with
      | .inl v3 => ∃ x5 : Int32, v3 = some (.int x5) ∧ zbr (x5 ≤ 0)
        (Q (.inl (some (.int 0))) h1)
        (zE d 118 [.ref p0, .int p1, .int p2] h1 (fun r7 h6 => match r7 with
            | .inl v8 => ∃ x10 : Int32, v8 = some (.int x10) ∧ zbr (9 ≤ x10)
              (Q (.inl (some (.int 0))) h6)
              (Q (.inl (some (.int 1))) h6)
            | .inr e9 => Q (.inr e9) h6))
      | .inr e4 => Q (.inr e4) h1)) : zW (zE d) zm_X6_mayPinch Q (0, [(0, .ref p0), (1, .int p1), (2, .int p2)], [], h) := by
  refine zq_aload (pc' := 1) rfl rfl rfl rfl ?_
  refine zq_iload (pc' := 2) rfl rfl rfl rfl ?_
  refine zq_iload (pc' := 3) rfl rfl rfl rfl ?_
  refine zq_calli (pc' := 6) rfl rfl rfl rfl rfl rfl (zE_mono H (fun r2 h1 H => ?_))
  rcases r2 with v3 | e4
  · obtain ⟨x5, e0, H⟩ := H
    refine Exists.intro x5 (And.intro e0 ?_)
    refine zq_ifle (pc' := 9) rfl rfl rfl rfl (And.intro (fun c => ?_) (fun c => ?_))
    · have H := H.1 c
      refine zq_ipush (pc' := 25) rfl rfl rfl ?_
      exact zq_iret rfl (Or.inl rfl) H
    · have H := H.2 c
      refine zq_aload (pc' := 10) rfl rfl rfl rfl ?_
      refine zq_iload (pc' := 11) rfl rfl rfl rfl ?_
      refine zq_iload (pc' := 12) rfl rfl rfl rfl ?_
      refine zq_calli (pc' := 15) rfl rfl rfl rfl rfl rfl (zE_mono H (fun r7 h6 H => ?_))
      rcases r7 with v8 | e9
      · obtain ⟨x10, e0, H⟩ := H
        refine Exists.intro x10 (And.intro e0 ?_)
        refine zq_ipush (pc' := 17) rfl rfl rfl ?_
        refine zq_icge (pc' := 20) rfl rfl rfl rfl (And.intro (fun c => ?_) (fun c => ?_))
        · have H := H.1 c
          refine zq_ipush (pc' := 25) rfl rfl rfl ?_
          exact zq_iret rfl (Or.inl rfl) H
        · have H := H.2 c
          refine zq_ipush (pc' := 21) rfl rfl rfl ?_
          refine zq_goto (pc' := 25) rfl rfl rfl ?_
          exact zq_iret rfl (Or.inr rfl) H
      · exact H
  · exact H
theorem zr_X6_pinchTooth_0 {d : Nat} {Q : zR → zH → Prop} {p0 : Nat} {p1 : Int32} {p2 : Int32} {h : zH} (H :
    zE d 129 [.ref p0, .int p1, .int p2] h (fun r2 h1 => match r2 with
      | .inl v3 => ∃ x5 : Int32, v3 = some (.int x5) ∧ zbr (x5 = 0)
        (Q (.inl none) h1)
        (zE d 118 [.ref p0, .int p1, .int p2] h1 (fun r7 h6 => match r7 with
            | .inl v8 => ∃ x10 : Int32, v8 = some (.int x10) ∧ zE d 119 [.ref p0, .int p1, .int p2, .int (x10 + 1)] h6 (fun r12 h11 => match r12 with
                | .inl v13 => v13 = none ∧ Q (.inl none) h11
                | .inr e14 => Q (.inr e14) h11)
            | .inr e9 => Q (.inr e9) h6))
      | .inr e4 => Q (.inr e4) h1)) : zW (zE d) zm_X6_pinchTooth Q (0, [(0, .ref p0), (1, .int p1), (2, .int p2)], [], h) := by
  refine zq_aload (pc' := 1) rfl rfl rfl rfl ?_
  refine zq_iload (pc' := 2) rfl rfl rfl rfl ?_
  refine zq_iload (pc' := 3) rfl rfl rfl rfl ?_
  refine zq_calli (pc' := 6) rfl rfl rfl rfl rfl rfl (zE_mono H (fun r2 h1 H => ?_))
  rcases r2 with v3 | e4
  · obtain ⟨x5, e0, H⟩ := H
    refine Exists.intro x5 (And.intro e0 ?_)
    refine zq_ifeq (pc' := 9) rfl rfl rfl rfl (And.intro (fun c => ?_) (fun c => ?_))
    · have H := H.1 c
      exact zq_vret rfl H
    · have H := H.2 c
      refine zq_aload (pc' := 10) rfl rfl rfl rfl ?_
      refine zq_iload (pc' := 11) rfl rfl rfl rfl ?_
      refine zq_iload (pc' := 12) rfl rfl rfl rfl ?_
      refine zq_aload (pc' := 13) rfl rfl rfl rfl ?_
      refine zq_iload (pc' := 14) rfl rfl rfl rfl ?_
      refine zq_iload (pc' := 15) rfl rfl rfl rfl ?_
      refine zq_calli (pc' := 18) rfl rfl rfl rfl rfl rfl (zE_mono H (fun r7 h6 H => ?_))
      rcases r7 with v8 | e9
      · obtain ⟨x10, e0, H⟩ := H
        refine Exists.intro x10 (And.intro e0 ?_)
        refine zq_ipush (pc' := 19) rfl rfl rfl ?_
        refine zq_iadd (pc' := 20) rfl rfl rfl ?_
        refine zq_callv (pc' := 23) rfl rfl rfl rfl rfl rfl (zE_mono H (fun r12 h11 H => ?_))
        rcases r12 with v13 | e14
        · obtain ⟨e0, H⟩ := H
          refine And.intro e0 ?_
          exact zq_vret rfl H
        · exact H
      · exact H
  · exact H
theorem zr_X6_weakenTooth_0 {d : Nat} {Q : zR → zH → Prop} {p0 : Nat} {p1 : Int32} {p2 : Int32} {h : zH} (H :
    zE d 118 [.ref p0, .int p1, .int p2] h (fun r2 h1 => match r2 with
      | .inl v3 => ∃ x5 : Int32, v3 = some (.int x5) ∧ zbr (x5 ≤ 0)
        (zE d 120 [.ref p0, .int p2] h1 (fun r7 h6 => match r7 with
            | .inl v8 => ∃ x10 : Int32, v8 = some (.int x10) ∧ zbr (x10 = 0)
              (zE d 128 [.ref p0, .int p2] h6 (fun r12 h11 => match r12 with
                  | .inl v13 => v13 = none ∧ Q (.inl none) h11
                  | .inr e14 => Q (.inr e14) h11))
              (Q (.inl none) h6)
            | .inr e9 => Q (.inr e9) h6))
        (zE d 118 [.ref p0, .int p1, .int p2] h1 (fun r16 h15 => match r16 with
            | .inl v17 => ∃ x19 : Int32, v17 = some (.int x19) ∧ zE d 119 [.ref p0, .int p1, .int p2, .int (x19 - 1)] h15 (fun r21 h20 => match r21 with
                | .inl v22 => v22 = none ∧ zE d 120 [.ref p0, .int p2] h20 (fun r25 h24 => match r25 with
                    | .inl v26 => ∃ x28 : Int32, v26 = some (.int x28) ∧ zbr (x28 = 0)
                      (zE d 128 [.ref p0, .int p2] h24 (fun r30 h29 => match r30 with
                          | .inl v31 => v31 = none ∧ Q (.inl none) h29
                          | .inr e32 => Q (.inr e32) h29))
                      (Q (.inl none) h24)
                    | .inr e27 => Q (.inr e27) h24)
                | .inr e23 => Q (.inr e23) h20)
            | .inr e18 => Q (.inr e18) h15))
      | .inr e4 => Q (.inr e4) h1)) : zW (zE d) zm_X6_weakenTooth Q (0, [(0, .ref p0), (1, .int p1), (2, .int p2)], [], h) := by
  refine zq_aload (pc' := 1) rfl rfl rfl rfl ?_
  refine zq_iload (pc' := 2) rfl rfl rfl rfl ?_
  refine zq_iload (pc' := 3) rfl rfl rfl rfl ?_
  refine zq_calli (pc' := 6) rfl rfl rfl rfl rfl rfl (zE_mono H (fun r2 h1 H => ?_))
  rcases r2 with v3 | e4
  · obtain ⟨x5, e0, H⟩ := H
    refine Exists.intro x5 (And.intro e0 ?_)
    refine zq_ifle (pc' := 9) rfl rfl rfl rfl (And.intro (fun c => ?_) (fun c => ?_))
    · have H := H.1 c
      refine zq_aload (pc' := 24) rfl rfl rfl rfl ?_
      refine zq_iload (pc' := 25) rfl rfl rfl rfl ?_
      refine zq_calli (pc' := 28) rfl rfl rfl rfl rfl rfl (zE_mono H (fun r7 h6 H => ?_))
      rcases r7 with v8 | e9
      · obtain ⟨x10, e0, H⟩ := H
        refine Exists.intro x10 (And.intro e0 ?_)
        refine zq_ifne (pc' := 31) rfl rfl rfl rfl (And.intro (fun c => ?_) (fun c => ?_))
        · have H := H.1 c
          refine zq_aload (pc' := 32) rfl rfl rfl rfl ?_
          refine zq_iload (pc' := 33) rfl rfl rfl rfl ?_
          refine zq_callv (pc' := 36) rfl rfl rfl rfl rfl rfl (zE_mono H (fun r12 h11 H => ?_))
          rcases r12 with v13 | e14
          · obtain ⟨e0, H⟩ := H
            refine And.intro e0 ?_
            exact zq_vret rfl H
          · exact H
        · have H := H.2 c
          exact zq_vret rfl H
      · exact H
    · have H := H.2 c
      refine zq_aload (pc' := 10) rfl rfl rfl rfl ?_
      refine zq_iload (pc' := 11) rfl rfl rfl rfl ?_
      refine zq_iload (pc' := 12) rfl rfl rfl rfl ?_
      refine zq_aload (pc' := 13) rfl rfl rfl rfl ?_
      refine zq_iload (pc' := 14) rfl rfl rfl rfl ?_
      refine zq_iload (pc' := 15) rfl rfl rfl rfl ?_
      refine zq_calli (pc' := 18) rfl rfl rfl rfl rfl rfl (zE_mono H (fun r16 h15 H => ?_))
      rcases r16 with v17 | e18
      · obtain ⟨x19, e0, H⟩ := H
        refine Exists.intro x19 (And.intro e0 ?_)
        refine zq_ipush (pc' := 19) rfl rfl rfl ?_
        refine zq_isub (pc' := 20) rfl rfl rfl ?_
        refine zq_callv (pc' := 23) rfl rfl rfl rfl rfl rfl (zE_mono H (fun r21 h20 H => ?_))
        rcases r21 with v22 | e23
        · obtain ⟨e0, H⟩ := H
          refine And.intro e0 ?_
          refine zq_aload (pc' := 24) rfl rfl rfl rfl ?_
          refine zq_iload (pc' := 25) rfl rfl rfl rfl ?_
          refine zq_calli (pc' := 28) rfl rfl rfl rfl rfl rfl (zE_mono H (fun r25 h24 H => ?_))
          rcases r25 with v26 | e27
          · obtain ⟨x28, e0, H⟩ := H
            refine Exists.intro x28 (And.intro e0 ?_)
            refine zq_ifne (pc' := 31) rfl rfl rfl rfl (And.intro (fun c => ?_) (fun c => ?_))
            · have H := H.1 c
              refine zq_aload (pc' := 32) rfl rfl rfl rfl ?_
              refine zq_iload (pc' := 33) rfl rfl rfl rfl ?_
              refine zq_callv (pc' := 36) rfl rfl rfl rfl rfl rfl (zE_mono H (fun r30 h29 H => ?_))
              rcases r30 with v31 | e32
              · obtain ⟨e0, H⟩ := H
                refine And.intro e0 ?_
                exact zq_vret rfl H
              · exact H
            · have H := H.2 c
              exact zq_vret rfl H
          · exact H
        · exact H
      · exact H
  · exact H
theorem zr_X6_wearAt_0 {d : Nat} {Q : zR → zH → Prop} {p0 : Nat} {p1 : Int32} {p2 : Int32} {h : zH} (H :
    zE d 118 [.ref p0, .int 0, .int p1] h (fun r2 h1 => match r2 with
      | .inl v3 => ∃ x5 : Int32, v3 = some (.int x5) ∧ zE d 2 [.int 0, .int (x5 - p2)] h1 (fun r7 h6 => match r7 with
          | .inl v8 => ∃ x10 : Int32, v8 = some (.int x10) ∧ zE d 119 [.ref p0, .int 0, .int p1, .int x10] h6 (fun r12 h11 => match r12 with
              | .inl v13 => v13 = none ∧ zE d 118 [.ref p0, .int 1, .int p1] h11 (fun r16 h15 => match r16 with
                  | .inl v17 => ∃ x19 : Int32, v17 = some (.int x19) ∧ zE d 2 [.int 0, .int (x19 - p2)] h15 (fun r21 h20 => match r21 with
                      | .inl v22 => ∃ x24 : Int32, v22 = some (.int x24) ∧ zE d 119 [.ref p0, .int 1, .int p1, .int x24] h20 (fun r26 h25 => match r26 with
                          | .inl v27 => v27 = none ∧ Q (.inl none) h25
                          | .inr e28 => Q (.inr e28) h25)
                      | .inr e23 => Q (.inr e23) h20)
                  | .inr e18 => Q (.inr e18) h15)
              | .inr e14 => Q (.inr e14) h11)
          | .inr e9 => Q (.inr e9) h6)
      | .inr e4 => Q (.inr e4) h1)) : zW (zE d) zm_X6_wearAt Q (0, [(0, .ref p0), (1, .int p1), (2, .int p2)], [], h) := by
  refine zq_aload (pc' := 1) rfl rfl rfl rfl ?_
  refine zq_ipush (pc' := 2) rfl rfl rfl ?_
  refine zq_iload (pc' := 3) rfl rfl rfl rfl ?_
  refine zq_ipush (pc' := 4) rfl rfl rfl ?_
  refine zq_aload (pc' := 5) rfl rfl rfl rfl ?_
  refine zq_ipush (pc' := 6) rfl rfl rfl ?_
  refine zq_iload (pc' := 7) rfl rfl rfl rfl ?_
  refine zq_calli (pc' := 10) rfl rfl rfl rfl rfl rfl (zE_mono H (fun r2 h1 H => ?_))
  rcases r2 with v3 | e4
  · obtain ⟨x5, e0, H⟩ := H
    refine Exists.intro x5 (And.intro e0 ?_)
    refine zq_iload (pc' := 11) rfl rfl rfl rfl ?_
    refine zq_isub (pc' := 12) rfl rfl rfl ?_
    refine zq_calli (pc' := 15) rfl rfl rfl rfl rfl rfl (zE_mono H (fun r7 h6 H => ?_))
    rcases r7 with v8 | e9
    · obtain ⟨x10, e0, H⟩ := H
      refine Exists.intro x10 (And.intro e0 ?_)
      refine zq_callv (pc' := 18) rfl rfl rfl rfl rfl rfl (zE_mono H (fun r12 h11 H => ?_))
      rcases r12 with v13 | e14
      · obtain ⟨e0, H⟩ := H
        refine And.intro e0 ?_
        refine zq_aload (pc' := 19) rfl rfl rfl rfl ?_
        refine zq_ipush (pc' := 20) rfl rfl rfl ?_
        refine zq_iload (pc' := 21) rfl rfl rfl rfl ?_
        refine zq_ipush (pc' := 22) rfl rfl rfl ?_
        refine zq_aload (pc' := 23) rfl rfl rfl rfl ?_
        refine zq_ipush (pc' := 24) rfl rfl rfl ?_
        refine zq_iload (pc' := 25) rfl rfl rfl rfl ?_
        refine zq_calli (pc' := 28) rfl rfl rfl rfl rfl rfl (zE_mono H (fun r16 h15 H => ?_))
        rcases r16 with v17 | e18
        · obtain ⟨x19, e0, H⟩ := H
          refine Exists.intro x19 (And.intro e0 ?_)
          refine zq_iload (pc' := 29) rfl rfl rfl rfl ?_
          refine zq_isub (pc' := 30) rfl rfl rfl ?_
          refine zq_calli (pc' := 33) rfl rfl rfl rfl rfl rfl (zE_mono H (fun r21 h20 H => ?_))
          rcases r21 with v22 | e23
          · obtain ⟨x24, e0, H⟩ := H
            refine Exists.intro x24 (And.intro e0 ?_)
            refine zq_callv (pc' := 36) rfl rfl rfl rfl rfl rfl (zE_mono H (fun r26 h25 H => ?_))
            rcases r26 with v27 | e28
            · obtain ⟨e0, H⟩ := H
              refine And.intro e0 ?_
              exact zq_vret rfl H
            · exact H
          · exact H
        · exact H
      · exact H
    · exact H
  · exact H
theorem zr_X6_setLacking_0 {d : Nat} {Q : zR → zH → Prop} {p0 : Nat} {p1 : Int32} {h : zH} (H :
    zE d 118 [.ref p0, .int 0, .int p1] h (fun r2 h1 => match r2 with
      | .inl v3 => ∃ x5 : Int32, v3 = some (.int x5) ∧ zbr (x5 = 0)
        (zE d 119 [.ref p0, .int 0, .int p1, .int 9] h1 (fun r7 h6 => match r7 with
            | .inl v8 => v8 = none ∧ zE d 118 [.ref p0, .int 1, .int p1] h6 (fun r11 h10 => match r11 with
                | .inl v12 => ∃ x14 : Int32, v12 = some (.int x14) ∧ zbr (x14 = 0)
                  (zE d 119 [.ref p0, .int 1, .int p1, .int 9] h10 (fun r16 h15 => match r16 with
                      | .inl v17 => v17 = none ∧ Q (.inl none) h15
                      | .inr e18 => Q (.inr e18) h15))
                  (Q (.inl none) h10)
                | .inr e13 => Q (.inr e13) h10)
            | .inr e9 => Q (.inr e9) h6))
        (zE d 118 [.ref p0, .int 1, .int p1] h1 (fun r20 h19 => match r20 with
            | .inl v21 => ∃ x23 : Int32, v21 = some (.int x23) ∧ zbr (x23 = 0)
              (zE d 119 [.ref p0, .int 1, .int p1, .int 9] h19 (fun r25 h24 => match r25 with
                  | .inl v26 => v26 = none ∧ Q (.inl none) h24
                  | .inr e27 => Q (.inr e27) h24))
              (Q (.inl none) h19)
            | .inr e22 => Q (.inr e22) h19))
      | .inr e4 => Q (.inr e4) h1)) : zW (zE d) zm_X6_setLacking Q (0, [(0, .ref p0), (1, .int p1)], [], h) := by
  refine zq_aload (pc' := 1) rfl rfl rfl rfl ?_
  refine zq_ipush (pc' := 2) rfl rfl rfl ?_
  refine zq_iload (pc' := 3) rfl rfl rfl rfl ?_
  refine zq_calli (pc' := 6) rfl rfl rfl rfl rfl rfl (zE_mono H (fun r2 h1 H => ?_))
  rcases r2 with v3 | e4
  · obtain ⟨x5, e0, H⟩ := H
    refine Exists.intro x5 (And.intro e0 ?_)
    refine zq_ifne (pc' := 9) rfl rfl rfl rfl (And.intro (fun c => ?_) (fun c => ?_))
    · have H := H.1 c
      refine zq_aload (pc' := 10) rfl rfl rfl rfl ?_
      refine zq_ipush (pc' := 11) rfl rfl rfl ?_
      refine zq_iload (pc' := 12) rfl rfl rfl rfl ?_
      refine zq_ipush (pc' := 14) rfl rfl rfl ?_
      refine zq_callv (pc' := 17) rfl rfl rfl rfl rfl rfl (zE_mono H (fun r7 h6 H => ?_))
      rcases r7 with v8 | e9
      · obtain ⟨e0, H⟩ := H
        refine And.intro e0 ?_
        refine zq_aload (pc' := 18) rfl rfl rfl rfl ?_
        refine zq_ipush (pc' := 19) rfl rfl rfl ?_
        refine zq_iload (pc' := 20) rfl rfl rfl rfl ?_
        refine zq_calli (pc' := 23) rfl rfl rfl rfl rfl rfl (zE_mono H (fun r11 h10 H => ?_))
        rcases r11 with v12 | e13
        · obtain ⟨x14, e0, H⟩ := H
          refine Exists.intro x14 (And.intro e0 ?_)
          refine zq_ifne (pc' := 26) rfl rfl rfl rfl (And.intro (fun c => ?_) (fun c => ?_))
          · have H := H.1 c
            refine zq_aload (pc' := 27) rfl rfl rfl rfl ?_
            refine zq_ipush (pc' := 28) rfl rfl rfl ?_
            refine zq_iload (pc' := 29) rfl rfl rfl rfl ?_
            refine zq_ipush (pc' := 31) rfl rfl rfl ?_
            refine zq_callv (pc' := 34) rfl rfl rfl rfl rfl rfl (zE_mono H (fun r16 h15 H => ?_))
            rcases r16 with v17 | e18
            · obtain ⟨e0, H⟩ := H
              refine And.intro e0 ?_
              exact zq_vret rfl H
            · exact H
          · have H := H.2 c
            exact zq_vret rfl H
        · exact H
      · exact H
    · have H := H.2 c
      refine zq_aload (pc' := 18) rfl rfl rfl rfl ?_
      refine zq_ipush (pc' := 19) rfl rfl rfl ?_
      refine zq_iload (pc' := 20) rfl rfl rfl rfl ?_
      refine zq_calli (pc' := 23) rfl rfl rfl rfl rfl rfl (zE_mono H (fun r20 h19 H => ?_))
      rcases r20 with v21 | e22
      · obtain ⟨x23, e0, H⟩ := H
        refine Exists.intro x23 (And.intro e0 ?_)
        refine zq_ifne (pc' := 26) rfl rfl rfl rfl (And.intro (fun c => ?_) (fun c => ?_))
        · have H := H.1 c
          refine zq_aload (pc' := 27) rfl rfl rfl rfl ?_
          refine zq_ipush (pc' := 28) rfl rfl rfl ?_
          refine zq_iload (pc' := 29) rfl rfl rfl rfl ?_
          refine zq_ipush (pc' := 31) rfl rfl rfl ?_
          refine zq_callv (pc' := 34) rfl rfl rfl rfl rfl rfl (zE_mono H (fun r25 h24 H => ?_))
          rcases r25 with v26 | e27
          · obtain ⟨e0, H⟩ := H
            refine And.intro e0 ?_
            exact zq_vret rfl H
          · exact H
        · have H := H.2 c
          exact zq_vret rfl H
      · exact H
  · exact H
theorem zr_X6_swapLeft_0 {d : Nat} {Q : zR → zH → Prop} {p0 : Nat} {p1 : Nat} {h : zH} (H :
    ∃ y1 : Int64, zgf h p0 6 2 = some (.long y1) ∧
    ∃ y2 : Int64, zgf h p1 6 2 = some (.long y2) ∧
    ∃ h3, zpf h p0 6 2 (.long y2) = some h3 ∧
    ∃ h4, zpf h3 p1 6 2 (.long y1) = some h4 ∧
    zE d 126 [.ref p0, .int 0] h4 (fun r6 h5 => match r6 with
      | .inl v7 => v7 = none ∧ zE d 126 [.ref p1, .int 0] h5 (fun r10 h9 => match r10 with
          | .inl v11 => v11 = none ∧ Q (.inl none) h9
          | .inr e12 => Q (.inr e12) h9)
      | .inr e8 => Q (.inr e8) h5)) : zW (zE d) zm_X6_swapLeft Q (0, [(0, .ref p0), (1, .ref p1)], [], h) := by
  refine zq_aload (pc' := 1) rfl rfl rfl rfl ?_
  obtain ⟨y1, e0, H⟩ := H
  refine zq_getJ (pc' := 4) rfl rfl rfl e0 ?_
  refine zq_lstore (pc' := 5) rfl rfl rfl ?_
  refine zq_aload (pc' := 6) rfl rfl rfl rfl ?_
  refine zq_aload (pc' := 7) rfl rfl rfl rfl ?_
  obtain ⟨y2, e0, H⟩ := H
  refine zq_getJ (pc' := 10) rfl rfl rfl e0 ?_
  obtain ⟨h3, e0, H⟩ := H
  refine zq_put (pc' := 13) rfl rfl rfl trivial e0 ?_
  refine zq_aload (pc' := 14) rfl rfl rfl rfl ?_
  refine zq_lload (pc' := 15) rfl rfl rfl rfl ?_
  obtain ⟨h4, e0, H⟩ := H
  refine zq_put (pc' := 18) rfl rfl rfl trivial e0 ?_
  refine zq_aload (pc' := 19) rfl rfl rfl rfl ?_
  refine zq_ipush (pc' := 20) rfl rfl rfl ?_
  refine zq_callv (pc' := 23) rfl rfl rfl rfl rfl rfl (zE_mono H (fun r6 h5 H => ?_))
  rcases r6 with v7 | e8
  · obtain ⟨e0, H⟩ := H
    refine And.intro e0 ?_
    refine zq_aload (pc' := 24) rfl rfl rfl rfl ?_
    refine zq_ipush (pc' := 25) rfl rfl rfl ?_
    refine zq_callv (pc' := 28) rfl rfl rfl rfl rfl rfl (zE_mono H (fun r10 h9 H => ?_))
    rcases r10 with v11 | e12
    · obtain ⟨e0, H⟩ := H
      refine And.intro e0 ?_
      exact zq_vret rfl H
    · exact H
  · exact H
theorem zr_X6_runs_0 {d : Nat} {Q : zR → zH → Prop} {p0 : Nat} {h : zH} (H :
    ∃ x1 : Int32, zgf h p0 6 4 = some (.int x1) ∧
    ∃ x2 : Int32, zgf h p0 6 4 = some (.int x2) ∧
    zE d 0 [.int (x1 &&& ((x2 <<< ((1 : Int32) &&& 31)) ^^^ (-1)))] h (fun r4 h3 => match r4 with
      | .inl v5 => ∃ x7 : Int32, v5 = some (.int x7) ∧ Q (.inl (some (.int x7))) h3
      | .inr e6 => Q (.inr e6) h3)) : zW (zE d) zm_X6_runs Q (0, [(0, .ref p0)], [], h) := by
  refine zq_aload (pc' := 1) rfl rfl rfl rfl ?_
  obtain ⟨x1, e0, H⟩ := H
  refine zq_getI (pc' := 4) rfl rfl rfl e0 ?_
  refine zq_aload (pc' := 5) rfl rfl rfl rfl ?_
  obtain ⟨x2, e0, H⟩ := H
  refine zq_getI (pc' := 8) rfl rfl rfl e0 ?_
  refine zq_ipush (pc' := 9) rfl rfl rfl ?_
  refine zq_ishl (pc' := 10) rfl rfl rfl ?_
  refine zq_ipushn (pc' := 11) rfl rfl rfl ?_
  refine zq_ixor (pc' := 12) rfl rfl rfl ?_
  refine zq_iand (pc' := 13) rfl rfl rfl ?_
  refine zq_calli (pc' := 16) rfl rfl rfl rfl rfl rfl (zE_mono H (fun r4 h3 H => ?_))
  rcases r4 with v5 | e6
  · obtain ⟨x7, e0, H⟩ := H
    refine Exists.intro x7 (And.intro e0 ?_)
    exact zq_iret rfl trivial H
  · exact H
theorem zr_X6_longestRun_0 {d : Nat} {Q : zR → zH → Prop} {p0 : Nat} {h : zH} (H :
    zW (zE d) zm_X6_longestRun Q (6, [(0, .ref p0), (1, .int 0), (2, .int 0), (3, .int 0)], [], h)) : zW (zE d) zm_X6_longestRun Q (0, [(0, .ref p0)], [], h) := by
  refine zq_ipush (pc' := 1) rfl rfl rfl ?_
  refine zq_istore (pc' := 2) rfl rfl rfl ?_
  refine zq_ipush (pc' := 3) rfl rfl rfl ?_
  refine zq_istore (pc' := 4) rfl rfl rfl ?_
  refine zq_ipush (pc' := 5) rfl rfl rfl ?_
  refine zq_istore_c (pc' := 6) rfl rfl ?_
  exact H
theorem zr_X6_longestRun_6 {d : Nat} {Q : zR → zH → Prop} {l0 : Nat} {l1 : Int32} {l2 : Int32} {l3 : Int32} {h : zH} (H :
    ∃ x1 : Int32, zgf h l0 6 0 = some (.int x1) ∧
    zbr (x1 ≤ l3)
    (Q (.inl (some (.int l1))) h)
    (zE d 117 [.ref l0, .int l3] h (fun r3 h2 => match r3 with
        | .inl v4 => ∃ x6 : Int32, v4 = some (.int x6) ∧ zbr (x6 = 0)
          (zE d 2 [.int l1, .int 0] h2 (fun r8 h7 => match r8 with
              | .inl v9 => ∃ x11 : Int32, v9 = some (.int x11) ∧ zW (zE d) zm_X6_longestRun Q (6, [(0, .ref l0), (1, .int x11), (2, .int 0), (3, .int (l3 + 1))], [], h7)
              | .inr e10 => Q (.inr e10) h7))
          (zE d 2 [.int l1, .int (l2 + 1)] h2 (fun r13 h12 => match r13 with
              | .inl v14 => ∃ x16 : Int32, v14 = some (.int x16) ∧ zW (zE d) zm_X6_longestRun Q (6, [(0, .ref l0), (1, .int x16), (2, .int (l2 + 1)), (3, .int (l3 + 1))], [], h12)
              | .inr e15 => Q (.inr e15) h12))
        | .inr e5 => Q (.inr e5) h2))) : zW (zE d) zm_X6_longestRun Q (6, [(0, .ref l0), (1, .int l1), (2, .int l2), (3, .int l3)], [], h) := by
  refine zq_iload (pc' := 7) rfl rfl rfl rfl ?_
  refine zq_aload (pc' := 8) rfl rfl rfl rfl ?_
  obtain ⟨x1, e0, H⟩ := H
  refine zq_getI (pc' := 11) rfl rfl rfl e0 ?_
  refine zq_icge (pc' := 14) rfl rfl rfl rfl (And.intro (fun c => ?_) (fun c => ?_))
  · have H := H.1 c
    refine zq_iload (pc' := 43) rfl rfl rfl rfl ?_
    exact zq_iret rfl trivial H
  · have H := H.2 c
    refine zq_aload (pc' := 15) rfl rfl rfl rfl ?_
    refine zq_iload (pc' := 16) rfl rfl rfl rfl ?_
    refine zq_calli (pc' := 19) rfl rfl rfl rfl rfl rfl (zE_mono H (fun r3 h2 H => ?_))
    rcases r3 with v4 | e5
    · obtain ⟨x6, e0, H⟩ := H
      refine Exists.intro x6 (And.intro e0 ?_)
      refine zq_ifeq (pc' := 22) rfl rfl rfl rfl (And.intro (fun c => ?_) (fun c => ?_))
      · have H := H.1 c
        refine zq_ipush (pc' := 29) rfl rfl rfl ?_
        refine zq_istore (pc' := 30) rfl rfl rfl ?_
        refine zq_iload (pc' := 31) rfl rfl rfl rfl ?_
        refine zq_iload (pc' := 32) rfl rfl rfl rfl ?_
        refine zq_calli (pc' := 35) rfl rfl rfl rfl rfl rfl (zE_mono H (fun r8 h7 H => ?_))
        rcases r8 with v9 | e10
        · obtain ⟨x11, e0, H⟩ := H
          refine Exists.intro x11 (And.intro e0 ?_)
          refine zq_istore (pc' := 36) rfl rfl rfl ?_
          refine zq_iinc (pc' := 39) rfl rfl rfl rfl ?_
          refine zq_goto_c (pc' := 6) rfl rfl ?_
          exact H
        · exact H
      · have H := H.2 c
        refine zq_iload (pc' := 23) rfl rfl rfl rfl ?_
        refine zq_ipush (pc' := 24) rfl rfl rfl ?_
        refine zq_iadd (pc' := 25) rfl rfl rfl ?_
        refine zq_goto (pc' := 29) rfl rfl rfl ?_
        refine zq_istore (pc' := 30) rfl rfl rfl ?_
        refine zq_iload (pc' := 31) rfl rfl rfl rfl ?_
        refine zq_iload (pc' := 32) rfl rfl rfl rfl ?_
        refine zq_calli (pc' := 35) rfl rfl rfl rfl rfl rfl (zE_mono H (fun r13 h12 H => ?_))
        rcases r13 with v14 | e15
        · obtain ⟨x16, e0, H⟩ := H
          refine Exists.intro x16 (And.intro e0 ?_)
          refine zq_istore (pc' := 36) rfl rfl rfl ?_
          refine zq_iinc (pc' := 39) rfl rfl rfl rfl ?_
          refine zq_goto_c (pc' := 6) rfl rfl ?_
          exact H
        · exact H
    · exact H
theorem zr_X6_lowestOfLongest_0 {d : Nat} {Q : zR → zH → Prop} {p0 : Nat} {h : zH} (H :
    zE d 136 [.ref p0] h (fun r2 h1 => match r2 with
      | .inl v3 => ∃ x5 : Int32, v3 = some (.int x5) ∧ zW (zE d) zm_X6_lowestOfLongest Q (9, [(0, .ref p0), (1, .int x5), (2, .int 0), (3, .int 0)], [], h1)
      | .inr e4 => Q (.inr e4) h1)) : zW (zE d) zm_X6_lowestOfLongest Q (0, [(0, .ref p0)], [], h) := by
  refine zq_aload (pc' := 1) rfl rfl rfl rfl ?_
  refine zq_calli (pc' := 4) rfl rfl rfl rfl rfl rfl (zE_mono H (fun r2 h1 H => ?_))
  rcases r2 with v3 | e4
  · obtain ⟨x5, e0, H⟩ := H
    refine Exists.intro x5 (And.intro e0 ?_)
    refine zq_istore (pc' := 5) rfl rfl rfl ?_
    refine zq_ipush (pc' := 6) rfl rfl rfl ?_
    refine zq_istore (pc' := 7) rfl rfl rfl ?_
    refine zq_ipush (pc' := 8) rfl rfl rfl ?_
    refine zq_istore_c (pc' := 9) rfl rfl ?_
    exact H
  · exact H
theorem zr_X6_lowestOfLongest_9 {d : Nat} {Q : zR → zH → Prop} {l0 : Nat} {l1 : Int32} {l2 : Int32} {l3 : Int32} {h : zH} (H :
    ∃ x1 : Int32, zgf h l0 6 0 = some (.int x1) ∧
    zbr (x1 ≤ l3)
    (Q (.inl (some (.int (-1)))) h)
    (zE d 117 [.ref l0, .int l3] h (fun r3 h2 => match r3 with
        | .inl v4 => ∃ x6 : Int32, v4 = some (.int x6) ∧ zbr (x6 = 0)
          (zbr ((0 : Int32) ≤ 0)
            (zW (zE d) zm_X6_lowestOfLongest Q (9, [(0, .ref l0), (1, .int l1), (2, .int 0), (3, .int (l3 + 1))], [], h2))
            (zbr ((0 : Int32) = l1)
              (Q (.inl (some (.int ((l3 - 0) + 1)))) h2)
              (zW (zE d) zm_X6_lowestOfLongest Q (9, [(0, .ref l0), (1, .int l1), (2, .int 0), (3, .int (l3 + 1))], [], h2))))
          (zbr ((l2 + 1) ≤ 0)
            (zW (zE d) zm_X6_lowestOfLongest Q (9, [(0, .ref l0), (1, .int l1), (2, .int (l2 + 1)), (3, .int (l3 + 1))], [], h2))
            (zbr ((l2 + 1) = l1)
              (Q (.inl (some (.int ((l3 - (l2 + 1)) + 1)))) h2)
              (zW (zE d) zm_X6_lowestOfLongest Q (9, [(0, .ref l0), (1, .int l1), (2, .int (l2 + 1)), (3, .int (l3 + 1))], [], h2))))
        | .inr e5 => Q (.inr e5) h2))) : zW (zE d) zm_X6_lowestOfLongest Q (9, [(0, .ref l0), (1, .int l1), (2, .int l2), (3, .int l3)], [], h) := by
  refine zq_iload (pc' := 10) rfl rfl rfl rfl ?_
  refine zq_aload (pc' := 11) rfl rfl rfl rfl ?_
  obtain ⟨x1, e0, H⟩ := H
  refine zq_getI (pc' := 14) rfl rfl rfl e0 ?_
  refine zq_icge (pc' := 17) rfl rfl rfl rfl (And.intro (fun c => ?_) (fun c => ?_))
  · have H := H.1 c
    refine zq_ipushn (pc' := 55) rfl rfl rfl ?_
    exact zq_iret rfl trivial H
  · have H := H.2 c
    refine zq_aload (pc' := 18) rfl rfl rfl rfl ?_
    refine zq_iload (pc' := 19) rfl rfl rfl rfl ?_
    refine zq_calli (pc' := 22) rfl rfl rfl rfl rfl rfl (zE_mono H (fun r3 h2 H => ?_))
    rcases r3 with v4 | e5
    · obtain ⟨x6, e0, H⟩ := H
      refine Exists.intro x6 (And.intro e0 ?_)
      refine zq_ifeq (pc' := 25) rfl rfl rfl rfl (And.intro (fun c => ?_) (fun c => ?_))
      · have H := H.1 c
        refine zq_ipush (pc' := 32) rfl rfl rfl ?_
        refine zq_istore (pc' := 33) rfl rfl rfl ?_
        refine zq_iload (pc' := 34) rfl rfl rfl rfl ?_
        refine zq_ifle (pc' := 37) rfl rfl rfl rfl (And.intro (fun c => ?_) (fun c => ?_))
        · have H := H.1 c
          refine zq_iinc (pc' := 51) rfl rfl rfl rfl ?_
          refine zq_goto_c (pc' := 9) rfl rfl ?_
          exact H
        · have H := H.2 c
          refine zq_iload (pc' := 38) rfl rfl rfl rfl ?_
          refine zq_iload (pc' := 39) rfl rfl rfl rfl ?_
          refine zq_icne (pc' := 42) rfl rfl rfl rfl (And.intro (fun c => ?_) (fun c => ?_))
          · have H := H.1 c
            refine zq_iload (pc' := 43) rfl rfl rfl rfl ?_
            refine zq_iload (pc' := 44) rfl rfl rfl rfl ?_
            refine zq_isub (pc' := 45) rfl rfl rfl ?_
            refine zq_ipush (pc' := 46) rfl rfl rfl ?_
            refine zq_iadd (pc' := 47) rfl rfl rfl ?_
            exact zq_iret rfl trivial H
          · have H := H.2 c
            refine zq_iinc (pc' := 51) rfl rfl rfl rfl ?_
            refine zq_goto_c (pc' := 9) rfl rfl ?_
            exact H
      · have H := H.2 c
        refine zq_iload (pc' := 26) rfl rfl rfl rfl ?_
        refine zq_ipush (pc' := 27) rfl rfl rfl ?_
        refine zq_iadd (pc' := 28) rfl rfl rfl ?_
        refine zq_goto (pc' := 32) rfl rfl rfl ?_
        refine zq_istore (pc' := 33) rfl rfl rfl ?_
        refine zq_iload (pc' := 34) rfl rfl rfl rfl ?_
        refine zq_ifle (pc' := 37) rfl rfl rfl rfl (And.intro (fun c => ?_) (fun c => ?_))
        · have H := H.1 c
          refine zq_iinc (pc' := 51) rfl rfl rfl rfl ?_
          refine zq_goto_c (pc' := 9) rfl rfl ?_
          exact H
        · have H := H.2 c
          refine zq_iload (pc' := 38) rfl rfl rfl rfl ?_
          refine zq_iload (pc' := 39) rfl rfl rfl rfl ?_
          refine zq_icne (pc' := 42) rfl rfl rfl rfl (And.intro (fun c => ?_) (fun c => ?_))
          · have H := H.1 c
            refine zq_iload (pc' := 43) rfl rfl rfl rfl ?_
            refine zq_iload (pc' := 44) rfl rfl rfl rfl ?_
            refine zq_isub (pc' := 45) rfl rfl rfl ?_
            refine zq_ipush (pc' := 46) rfl rfl rfl ?_
            refine zq_iadd (pc' := 47) rfl rfl rfl ?_
            exact zq_iret rfl trivial H
          · have H := H.2 c
            refine zq_iinc (pc' := 51) rfl rfl rfl rfl ?_
            refine zq_goto_c (pc' := 9) rfl rfl ?_
            exact H
    · exact H
theorem zr_X6_weakest_0 {d : Nat} {Q : zR → zH → Prop} {p0 : Nat} {h : zH} (H :
    zW (zE d) zm_X6_weakest Q (7, [(0, .ref p0), (1, .int (-1)), (2, .int 10), (3, .int 0)], [], h)) : zW (zE d) zm_X6_weakest Q (0, [(0, .ref p0)], [], h) := by
  refine zq_ipushn (pc' := 1) rfl rfl rfl ?_
  refine zq_istore (pc' := 2) rfl rfl rfl ?_
  refine zq_ipush (pc' := 4) rfl rfl rfl ?_
  refine zq_istore (pc' := 5) rfl rfl rfl ?_
  refine zq_ipush (pc' := 6) rfl rfl rfl ?_
  refine zq_istore_c (pc' := 7) rfl rfl ?_
  exact H
theorem zr_X6_weakest_7 {d : Nat} {Q : zR → zH → Prop} {l0 : Nat} {l1 : Int32} {l2 : Int32} {l3 : Int32} {h : zH} (H :
    ∃ x1 : Int32, zgf h l0 6 0 = some (.int x1) ∧
    zbr (x1 ≤ l3)
    (Q (.inl (some (.int l1))) h)
    (zE d 117 [.ref l0, .int l3] h (fun r3 h2 => match r3 with
        | .inl v4 => ∃ x6 : Int32, v4 = some (.int x6) ∧ zbr (x6 = 0)
          (zW (zE d) zm_X6_weakest Q (7, [(0, .ref l0), (1, .int l1), (2, .int l2), (3, .int (l3 + 1))], [], h2))
          (zE d 120 [.ref l0, .int l3] h2 (fun r8 h7 => match r8 with
              | .inl v9 => ∃ x11 : Int32, v9 = some (.int x11) ∧ zbr (l2 ≤ x11)
                (zW (zE d) zm_X6_weakest Q (7, [(0, .ref l0), (1, .int l1), (2, .int l2), (3, .int (l3 + 1))], [], h7))
                (zE d 120 [.ref l0, .int l3] h7 (fun r13 h12 => match r13 with
                    | .inl v14 => ∃ x16 : Int32, v14 = some (.int x16) ∧ zW (zE d) zm_X6_weakest Q (7, [(0, .ref l0), (1, .int l3), (2, .int x16), (3, .int (l3 + 1))], [], h12)
                    | .inr e15 => Q (.inr e15) h12))
              | .inr e10 => Q (.inr e10) h7))
        | .inr e5 => Q (.inr e5) h2))) : zW (zE d) zm_X6_weakest Q (7, [(0, .ref l0), (1, .int l1), (2, .int l2), (3, .int l3)], [], h) := by
  refine zq_iload (pc' := 8) rfl rfl rfl rfl ?_
  refine zq_aload (pc' := 9) rfl rfl rfl rfl ?_
  obtain ⟨x1, e0, H⟩ := H
  refine zq_getI (pc' := 12) rfl rfl rfl e0 ?_
  refine zq_icge (pc' := 15) rfl rfl rfl rfl (And.intro (fun c => ?_) (fun c => ?_))
  · have H := H.1 c
    refine zq_iload (pc' := 47) rfl rfl rfl rfl ?_
    exact zq_iret rfl trivial H
  · have H := H.2 c
    refine zq_aload (pc' := 16) rfl rfl rfl rfl ?_
    refine zq_iload (pc' := 17) rfl rfl rfl rfl ?_
    refine zq_calli (pc' := 20) rfl rfl rfl rfl rfl rfl (zE_mono H (fun r3 h2 H => ?_))
    rcases r3 with v4 | e5
    · obtain ⟨x6, e0, H⟩ := H
      refine Exists.intro x6 (And.intro e0 ?_)
      refine zq_ifeq (pc' := 23) rfl rfl rfl rfl (And.intro (fun c => ?_) (fun c => ?_))
      · have H := H.1 c
        refine zq_iinc (pc' := 43) rfl rfl rfl rfl ?_
        refine zq_goto_c (pc' := 7) rfl rfl ?_
        exact H
      · have H := H.2 c
        refine zq_aload (pc' := 24) rfl rfl rfl rfl ?_
        refine zq_iload (pc' := 25) rfl rfl rfl rfl ?_
        refine zq_calli (pc' := 28) rfl rfl rfl rfl rfl rfl (zE_mono H (fun r8 h7 H => ?_))
        rcases r8 with v9 | e10
        · obtain ⟨x11, e0, H⟩ := H
          refine Exists.intro x11 (And.intro e0 ?_)
          refine zq_iload (pc' := 29) rfl rfl rfl rfl ?_
          refine zq_icge (pc' := 32) rfl rfl rfl rfl (And.intro (fun c => ?_) (fun c => ?_))
          · have H := H.1 c
            refine zq_iinc (pc' := 43) rfl rfl rfl rfl ?_
            refine zq_goto_c (pc' := 7) rfl rfl ?_
            exact H
          · have H := H.2 c
            refine zq_aload (pc' := 33) rfl rfl rfl rfl ?_
            refine zq_iload (pc' := 34) rfl rfl rfl rfl ?_
            refine zq_calli (pc' := 37) rfl rfl rfl rfl rfl rfl (zE_mono H (fun r13 h12 H => ?_))
            rcases r13 with v14 | e15
            · obtain ⟨x16, e0, H⟩ := H
              refine Exists.intro x16 (And.intro e0 ?_)
              refine zq_istore (pc' := 38) rfl rfl rfl ?_
              refine zq_iload (pc' := 39) rfl rfl rfl rfl ?_
              refine zq_istore (pc' := 40) rfl rfl rfl ?_
              refine zq_iinc (pc' := 43) rfl rfl rfl rfl ?_
              refine zq_goto_c (pc' := 7) rfl rfl ?_
              exact H
            · exact H
        · exact H
    · exact H
theorem zr_X6_stateBits_0 {d : Nat} {Q : zR → zH → Prop} {p0 : Nat} {h : zH} (H :
    ∃ x1 : Int32, zgf h p0 6 4 = some (.int x1) ∧
    ∃ x2 : Int32, zgf h p0 6 5 = some (.int x2) ∧
    Q (.inl (some (.int (x1 ||| (x2 <<< ((16 : Int32) &&& 31)))))) h) : zW (zE d) zm_X6_stateBits Q (0, [(0, .ref p0)], [], h) := by
  refine zq_aload (pc' := 1) rfl rfl rfl rfl ?_
  obtain ⟨x1, e0, H⟩ := H
  refine zq_getI (pc' := 4) rfl rfl rfl e0 ?_
  refine zq_aload (pc' := 5) rfl rfl rfl rfl ?_
  obtain ⟨x2, e0, H⟩ := H
  refine zq_getI (pc' := 8) rfl rfl rfl e0 ?_
  refine zq_ipush (pc' := 10) rfl rfl rfl ?_
  refine zq_ishl (pc' := 11) rfl rfl rfl ?_
  refine zq_ior (pc' := 12) rfl rfl rfl ?_
  exact zq_iret rfl trivial H
theorem zr_X6_takeState_0 {d : Nat} {Q : zR → zH → Prop} {p0 : Nat} {p1 : Int64} {p2 : Int64} {p3 : Int32} {h : zH} (H :
    ∃ h1, zpf h p0 6 6 (.int 0) = some h1 ∧
    ∃ h2, zpf h1 p0 6 2 (.long p1) = some h2 ∧
    ∃ h3, zpf h2 p0 6 3 (.long p2) = some h3 ∧
    ∃ h4, zpf h3 p0 6 4 (.int (p3 &&& 65535)) = some h4 ∧
    ∃ h5, zpf h4 p0 6 5 (.int (p3 >>> ((16 : Int32) &&& 31))) = some h5 ∧
    Q (.inl none) h5) : zW (zE d) zm_X6_takeState Q (0, [(0, .ref p0), (1, .long p1), (3, .long p2), (5, .int p3)], [], h) := by
  refine zq_aload (pc' := 1) rfl rfl rfl rfl ?_
  refine zq_ipush (pc' := 2) rfl rfl rfl ?_
  obtain ⟨h1, e0, H⟩ := H
  refine zq_put (pc' := 5) rfl rfl rfl trivial e0 ?_
  refine zq_aload (pc' := 6) rfl rfl rfl rfl ?_
  refine zq_lload (pc' := 7) rfl rfl rfl rfl ?_
  obtain ⟨h2, e0, H⟩ := H
  refine zq_put (pc' := 10) rfl rfl rfl trivial e0 ?_
  refine zq_aload (pc' := 11) rfl rfl rfl rfl ?_
  refine zq_lload (pc' := 12) rfl rfl rfl rfl ?_
  obtain ⟨h3, e0, H⟩ := H
  refine zq_put (pc' := 15) rfl rfl rfl trivial e0 ?_
  refine zq_aload (pc' := 16) rfl rfl rfl rfl ?_
  refine zq_iload (pc' := 18) rfl rfl rfl rfl ?_
  refine zq_ipush (pc' := 20) rfl rfl rfl ?_
  refine zq_iand (pc' := 21) rfl rfl rfl ?_
  obtain ⟨h4, e0, H⟩ := H
  refine zq_put (pc' := 24) rfl rfl rfl trivial e0 ?_
  refine zq_aload (pc' := 25) rfl rfl rfl rfl ?_
  refine zq_iload (pc' := 27) rfl rfl rfl rfl ?_
  refine zq_ipush (pc' := 29) rfl rfl rfl ?_
  refine zq_ishr (pc' := 30) rfl rfl rfl ?_
  obtain ⟨h5, e0, H⟩ := H
  refine zq_put (pc' := 33) rfl rfl rfl trivial e0 ?_
  exact zq_vret rfl H
theorem zr_X6_leftGrips_0 {d : Nat} {Q : zR → zH → Prop} {p0 : Nat} {h : zH} (H :
    ∃ y1 : Int64, zgf h p0 6 2 = some (.long y1) ∧
    Q (.inl (some (.long y1))) h) : zW (zE d) zm_X6_leftGrips Q (0, [(0, .ref p0)], [], h) := by
  refine zq_aload (pc' := 1) rfl rfl rfl rfl ?_
  obtain ⟨y1, e0, H⟩ := H
  refine zq_getJ (pc' := 4) rfl rfl rfl e0 ?_
  exact zq_lret rfl H
theorem zr_X6_rightGrips_0 {d : Nat} {Q : zR → zH → Prop} {p0 : Nat} {h : zH} (H :
    ∃ y1 : Int64, zgf h p0 6 3 = some (.long y1) ∧
    Q (.inl (some (.long y1))) h) : zW (zE d) zm_X6_rightGrips Q (0, [(0, .ref p0)], [], h) := by
  refine zq_aload (pc' := 1) rfl rfl rfl rfl ?_
  obtain ⟨y1, e0, H⟩ := H
  refine zq_getJ (pc' := 4) rfl rfl rfl e0 ?_
  exact zq_lret rfl H
