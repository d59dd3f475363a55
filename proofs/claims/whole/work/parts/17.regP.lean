theorem zr_X3_init_0 {d : Nat} {Q : zR → zH → Prop} {p0 : Nat} {p1 : Nat} {p2 : Nat} {h : zH} (H :
    ∃ h1, zpf h p0 3 0 (.ref p1) = some h1 ∧
    ∃ h2, zpf h1 p0 3 1 (.int 0) = some h2 ∧
    ∃ h3, zpf h2 p0 3 2 (.int 0) = some h3 ∧
    ∃ h4, zpf h3 p0 3 3 (.int 0) = some h4 ∧
    ∃ h5, zpf h4 p0 3 4 (.int 0) = some h5 ∧
    ∃ h6, zpf h5 p0 3 5 (.int 0) = some h6 ∧
    ∃ h7, zpf h6 p0 3 6 (.int 0) = some h7 ∧
    ∃ h8, zpf h7 p0 3 7 (.ref p2) = some h8 ∧
    ∃ h9, zpf h8 p0 3 8 (.int 0) = some h9 ∧
    Q (.inl none) h9) : zW (zE d) zm_X3_init Q (0, [(0, .ref p0), (1, .ref p1), (2, .ref p2)], [], h) := by
  refine zq_aload (pc' := 1) rfl rfl rfl rfl ?_
  refine zq_nop (pc' := 4) rfl rfl rfl rfl rfl ?_
  refine zq_aload (pc' := 5) rfl rfl rfl rfl ?_
  refine zq_aload (pc' := 6) rfl rfl rfl rfl ?_
  obtain ⟨h1, e0, H⟩ := H
  refine zq_put (pc' := 9) rfl rfl rfl trivial e0 ?_
  refine zq_aload (pc' := 10) rfl rfl rfl rfl ?_
  refine zq_ipush (pc' := 11) rfl rfl rfl ?_
  obtain ⟨h2, e0, H⟩ := H
  refine zq_put (pc' := 14) rfl rfl rfl trivial e0 ?_
  refine zq_aload (pc' := 15) rfl rfl rfl rfl ?_
  refine zq_ipush (pc' := 16) rfl rfl rfl ?_
  obtain ⟨h3, e0, H⟩ := H
  refine zq_put (pc' := 19) rfl rfl rfl trivial e0 ?_
  refine zq_aload (pc' := 20) rfl rfl rfl rfl ?_
  refine zq_ipush (pc' := 21) rfl rfl rfl ?_
  obtain ⟨h4, e0, H⟩ := H
  refine zq_put (pc' := 24) rfl rfl rfl trivial e0 ?_
  refine zq_aload (pc' := 25) rfl rfl rfl rfl ?_
  refine zq_ipush (pc' := 26) rfl rfl rfl ?_
  obtain ⟨h5, e0, H⟩ := H
  refine zq_put (pc' := 29) rfl rfl rfl trivial e0 ?_
  refine zq_aload (pc' := 30) rfl rfl rfl rfl ?_
  refine zq_ipush (pc' := 31) rfl rfl rfl ?_
  obtain ⟨h6, e0, H⟩ := H
  refine zq_put (pc' := 34) rfl rfl rfl trivial e0 ?_
  refine zq_aload (pc' := 35) rfl rfl rfl rfl ?_
  refine zq_ipush (pc' := 36) rfl rfl rfl ?_
  obtain ⟨h7, e0, H⟩ := H
  refine zq_put (pc' := 39) rfl rfl rfl trivial e0 ?_
  refine zq_aload (pc' := 40) rfl rfl rfl rfl ?_
  refine zq_aload (pc' := 41) rfl rfl rfl rfl ?_
  obtain ⟨h8, e0, H⟩ := H
  refine zq_put (pc' := 44) rfl rfl rfl trivial e0 ?_
  refine zq_aload (pc' := 45) rfl rfl rfl rfl ?_
  refine zq_ipush (pc' := 46) rfl rfl rfl ?_
  obtain ⟨h9, e0, H⟩ := H
  refine zq_put (pc' := 49) rfl rfl rfl (Or.inl rfl) e0 ?_
  exact zq_vret rfl H
theorem zr_X3_faultAt_0 {d : Nat} {Q : zR → zH → Prop} {p0 : Nat} {h : zH} (H :
    ∃ x1 : Int32, zgf h p0 3 3 = some (.int x1) ∧
    Q (.inl (some (.int x1))) h) : zW (zE d) zm_X3_faultAt Q (0, [(0, .ref p0)], [], h) := by
  refine zq_aload (pc' := 1) rfl rfl rfl rfl ?_
  obtain ⟨x1, e0, H⟩ := H
  refine zq_getI (pc' := 4) rfl rfl rfl e0 ?_
  exact zq_iret rfl trivial H
theorem zr_X3_read_0 {d : Nat} {Q : zR → zH → Prop} {p0 : Nat} {p1 : Int32} {p2 : Nat} {h : zH} (H :
    ∃ a1 : Nat, zgf h p0 3 0 = some (.ref a1) ∧
    ∃ x2, zal h a1 = some x2 ∧
    zE d 3 [.int p1, .int x2] h (fun r4 h3 => match r4 with
      | .inl v5 => ∃ x7 : Int32, v5 = some (.int x7) ∧ zE d 2 [.int 0, .int x7] h3 (fun r9 h8 => match r9 with
          | .inl v10 => ∃ x12 : Int32, v10 = some (.int x12) ∧ ∃ h13, zpf h8 p0 3 1 (.int x12) = some h13 ∧
            ∃ h14, zpf h13 p0 3 4 (.int 0) = some h14 ∧
            ∃ h15, zpf h14 p0 3 6 (.int 0) = some h15 ∧
            ∃ h16, zpf h15 p0 3 7 (.ref p2) = some h16 ∧
            ∃ a17 : Nat, zgf h16 p0 3 7 = some (.ref a17) ∧
            zE d 37 [.ref a17] h16 (fun r19 h18 => match r19 with
              | .inl v20 => v20 = none ∧ zE d 70 [.ref p0] h18 (fun r23 h22 => match r23 with
                  | .inl v24 => v24 = none ∧ zW (zE d) zm_X3_read Q (45, [(0, .ref p0), (3, .int 0)], [], h22)
                  | .inr e25 => Q (.inr e25) h22)
              | .inr e21 => Q (.inr e21) h18)
          | .inr e11 => Q (.inr e11) h8)
      | .inr e6 => Q (.inr e6) h3)) : zW (zE d) zm_X3_read Q (0, [(0, .ref p0), (1, .int p1), (2, .ref p2)], [], h) := by
  refine zq_aload (pc' := 1) rfl rfl rfl rfl ?_
  refine zq_ipush (pc' := 2) rfl rfl rfl ?_
  refine zq_iload (pc' := 3) rfl rfl rfl rfl ?_
  refine zq_aload (pc' := 4) rfl rfl rfl rfl ?_
  obtain ⟨a1, e0, H⟩ := H
  refine zq_getR (pc' := 7) rfl rfl rfl e0 ?_
  obtain ⟨x2, e0, H⟩ := H
  refine zq_alen (pc' := 8) rfl rfl rfl e0 ?_
  refine zq_calli (pc' := 11) rfl rfl rfl rfl rfl rfl (zE_mono H (fun r4 h3 H => ?_))
  rcases r4 with v5 | e6
  · obtain ⟨x7, e0, H⟩ := H
    refine Exists.intro x7 (And.intro e0 ?_)
    refine zq_calli (pc' := 14) rfl rfl rfl rfl rfl rfl (zE_mono H (fun r9 h8 H => ?_))
    rcases r9 with v10 | e11
    · obtain ⟨x12, e0, H⟩ := H
      refine Exists.intro x12 (And.intro e0 ?_)
      obtain ⟨h13, e0, H⟩ := H
      refine zq_put (pc' := 17) rfl rfl rfl trivial e0 ?_
      refine zq_aload (pc' := 18) rfl rfl rfl rfl ?_
      refine zq_ipush (pc' := 19) rfl rfl rfl ?_
      obtain ⟨h14, e0, H⟩ := H
      refine zq_put (pc' := 22) rfl rfl rfl trivial e0 ?_
      refine zq_aload (pc' := 23) rfl rfl rfl rfl ?_
      refine zq_ipush (pc' := 24) rfl rfl rfl ?_
      obtain ⟨h15, e0, H⟩ := H
      refine zq_put (pc' := 27) rfl rfl rfl trivial e0 ?_
      refine zq_aload (pc' := 28) rfl rfl rfl rfl ?_
      refine zq_aload (pc' := 29) rfl rfl rfl rfl ?_
      obtain ⟨h16, e0, H⟩ := H
      refine zq_put (pc' := 32) rfl rfl rfl trivial e0 ?_
      refine zq_aload (pc' := 33) rfl rfl rfl rfl ?_
      obtain ⟨a17, e0, H⟩ := H
      refine zq_getR (pc' := 36) rfl rfl rfl e0 ?_
      refine zq_callv (pc' := 39) rfl rfl rfl rfl rfl rfl (zE_mono H (fun r19 h18 H => ?_))
      rcases r19 with v20 | e21
      · obtain ⟨e0, H⟩ := H
        refine And.intro e0 ?_
        refine zq_aload (pc' := 40) rfl rfl rfl rfl ?_
        refine zq_callv (pc' := 43) rfl rfl rfl rfl rfl rfl (zE_mono H (fun r23 h22 H => ?_))
        rcases r23 with v24 | e25
        · obtain ⟨e0, H⟩ := H
          refine And.intro e0 ?_
          refine zq_ipush (pc' := 44) rfl rfl rfl ?_
          refine zq_istore_c (pc' := 45) rfl rfl ?_
          exact H
        · exact H
      · exact H
    · exact H
  · exact H
theorem zr_X3_read_45 {d : Nat} {Q : zR → zH → Prop} {l0 : Nat} {l3 : Int32} {h : zH} (H :
    zbr (700 < l3)
    (Q (.inl (some (.int 0))) h)
    (∃ x1 : Int32, zgf h l0 3 2 = some (.int x1) ∧
      zbr (x1 = 0)
      (Q (.inl (some (.int 0))) h)
      (zE d 76 [.ref l0] h (fun r3 h2 => match r3 with
          | .inl v4 => ∃ x6 : Int32, v4 = some (.int x6) ∧ zbr (x6 = 0)
            (∃ x7 : Int32, zgf h2 l0 3 6 = some (.int x7) ∧
              Q (.inl (some (.int x7))) h2)
            (zW (zE d) zm_X3_read Q (45, [(0, .ref l0), (3, .int (l3 + 1))], [], h2))
          | .inr e5 => Q (.inr e5) h2)))) : zW (zE d) zm_X3_read Q (45, [(0, .ref l0), (3, .int l3)], [], h) := by
  refine zq_iload (pc' := 46) rfl rfl rfl rfl ?_
  refine zq_ipush (pc' := 49) rfl rfl rfl ?_
  refine zq_icgt (pc' := 52) rfl rfl rfl rfl (And.intro (fun c => ?_) (fun c => ?_))
  · have H := H.1 c
    refine zq_ipush (pc' := 78) rfl rfl rfl ?_
    exact zq_iret rfl trivial H
  · have H := H.2 c
    refine zq_aload (pc' := 53) rfl rfl rfl rfl ?_
    obtain ⟨x1, e0, H⟩ := H
    refine zq_getI (pc' := 56) rfl rfl rfl e0 ?_
    refine zq_ifeq (pc' := 59) rfl rfl rfl rfl (And.intro (fun c => ?_) (fun c => ?_))
    · have H := H.1 c
      refine zq_ipush (pc' := 78) rfl rfl rfl ?_
      exact zq_iret rfl trivial H
    · have H := H.2 c
      refine zq_aload (pc' := 60) rfl rfl rfl rfl ?_
      refine zq_calli (pc' := 63) rfl rfl rfl rfl rfl rfl (zE_mono H (fun r3 h2 H => ?_))
      rcases r3 with v4 | e5
      · obtain ⟨x6, e0, H⟩ := H
        refine Exists.intro x6 (And.intro e0 ?_)
        refine zq_ifne (pc' := 66) rfl rfl rfl rfl (And.intro (fun c => ?_) (fun c => ?_))
        · have H := H.1 c
          refine zq_aload (pc' := 67) rfl rfl rfl rfl ?_
          obtain ⟨x7, e0, H⟩ := H
          refine zq_getI (pc' := 70) rfl rfl rfl e0 ?_
          exact zq_iret rfl trivial H
        · have H := H.2 c
          refine zq_iinc (pc' := 74) rfl rfl rfl rfl ?_
          refine zq_goto_c (pc' := 45) rfl rfl ?_
          exact H
      · exact H
theorem zr_X3_byteAt_0 {d : Nat} {Q : zR → zH → Prop} {p0 : Nat} {p1 : Int32} {h : zH} (H :
    zbr (p1 < 0)
    (Q (.inl (some (.int 0))) h)
    (∃ x1 : Int32, zgf h p0 3 1 = some (.int x1) ∧
      zbr (x1 ≤ p1)
      (Q (.inl (some (.int 0))) h)
      (∃ a2 : Nat, zgf h p0 3 0 = some (.ref a2) ∧
        ∃ x3, zal h a2 = some x3 ∧
        zbr (x3 ≤ p1)
        (Q (.inl (some (.int 0))) h)
        (∃ a4 : Nat, zgf h p0 3 0 = some (.ref a4) ∧
          ∃ x5, zba h a4 p1 = some x5 ∧
          Q (.inl (some (.int x5))) h)))) : zW (zE d) zm_X3_byteAt Q (0, [(0, .ref p0), (1, .int p1)], [], h) := by
  refine zq_iload (pc' := 1) rfl rfl rfl rfl ?_
  refine zq_iflt (pc' := 4) rfl rfl rfl rfl (And.intro (fun c => ?_) (fun c => ?_))
  · have H := H.1 c
    refine zq_ipush (pc' := 31) rfl rfl rfl ?_
    exact zq_iret rfl trivial H
  · have H := H.2 c
    refine zq_iload (pc' := 5) rfl rfl rfl rfl ?_
    refine zq_aload (pc' := 6) rfl rfl rfl rfl ?_
    obtain ⟨x1, e0, H⟩ := H
    refine zq_getI (pc' := 9) rfl rfl rfl e0 ?_
    refine zq_icge (pc' := 12) rfl rfl rfl rfl (And.intro (fun c => ?_) (fun c => ?_))
    · have H := H.1 c
      refine zq_ipush (pc' := 31) rfl rfl rfl ?_
      exact zq_iret rfl trivial H
    · have H := H.2 c
      refine zq_iload (pc' := 13) rfl rfl rfl rfl ?_
      refine zq_aload (pc' := 14) rfl rfl rfl rfl ?_
      obtain ⟨a2, e0, H⟩ := H
      refine zq_getR (pc' := 17) rfl rfl rfl e0 ?_
      obtain ⟨x3, e0, H⟩ := H
      refine zq_alen (pc' := 18) rfl rfl rfl e0 ?_
      refine zq_icge (pc' := 21) rfl rfl rfl rfl (And.intro (fun c => ?_) (fun c => ?_))
      · have H := H.1 c
        refine zq_ipush (pc' := 31) rfl rfl rfl ?_
        exact zq_iret rfl trivial H
      · have H := H.2 c
        refine zq_aload (pc' := 22) rfl rfl rfl rfl ?_
        obtain ⟨a4, e0, H⟩ := H
        refine zq_getR (pc' := 25) rfl rfl rfl e0 ?_
        refine zq_iload (pc' := 26) rfl rfl rfl rfl ?_
        obtain ⟨x5, e0, H⟩ := H
        refine zq_bald (pc' := 27) rfl rfl rfl e0 ?_
        refine zq_goto (pc' := 31) rfl rfl rfl ?_
        exact zq_iret rfl trivial H
theorem zr_X3_isLetter_0 {d : Nat} {Q : zR → zH → Prop} {p0 : Nat} {p1 : Int32} {h : zH} (H :
    zE d 66 [.ref p0, .int p1] h (fun r2 h1 => match r2 with
      | .inl v3 => ∃ x5 : Int32, v3 = some (.int x5) ∧ zbr (x5 < 97)
        (Q (.inl (some (.int 0))) h1)
        (zE d 66 [.ref p0, .int p1] h1 (fun r7 h6 => match r7 with
            | .inl v8 => ∃ x10 : Int32, v8 = some (.int x10) ∧ zbr (122 < x10)
              (Q (.inl (some (.int 0))) h6)
              (Q (.inl (some (.int 1))) h6)
            | .inr e9 => Q (.inr e9) h6))
      | .inr e4 => Q (.inr e4) h1)) : zW (zE d) zm_X3_isLetter Q (0, [(0, .ref p0), (1, .int p1)], [], h) := by
  refine zq_aload (pc' := 1) rfl rfl rfl rfl ?_
  refine zq_iload (pc' := 2) rfl rfl rfl rfl ?_
  refine zq_calli (pc' := 5) rfl rfl rfl rfl rfl rfl (zE_mono H (fun r2 h1 H => ?_))
  rcases r2 with v3 | e4
  · obtain ⟨x5, e0, H⟩ := H
    refine Exists.intro x5 (And.intro e0 ?_)
    refine zq_ipush (pc' := 7) rfl rfl rfl ?_
    refine zq_iclt (pc' := 10) rfl rfl rfl rfl (And.intro (fun c => ?_) (fun c => ?_))
    · have H := H.1 c
      refine zq_ipush (pc' := 25) rfl rfl rfl ?_
      exact zq_iret rfl (Or.inl rfl) H
    · have H := H.2 c
      refine zq_aload (pc' := 11) rfl rfl rfl rfl ?_
      refine zq_iload (pc' := 12) rfl rfl rfl rfl ?_
      refine zq_calli (pc' := 15) rfl rfl rfl rfl rfl rfl (zE_mono H (fun r7 h6 H => ?_))
      rcases r7 with v8 | e9
      · obtain ⟨x10, e0, H⟩ := H
        refine Exists.intro x10 (And.intro e0 ?_)
        refine zq_ipush (pc' := 17) rfl rfl rfl ?_
        refine zq_icgt (pc' := 20) rfl rfl rfl rfl (And.intro (fun c => ?_) (fun c => ?_))
        · have H := H.1 c
          refine zq_ipush (pc' := 25) rfl rfl rfl ?_
          exact zq_iret rfl (Or.inl rfl) H
        · have H := H.2 c
          refine zq_ipush (pc' := 21) rfl rfl rfl ?_
          refine zq_goto (pc' := 25) rfl rfl rfl ?_
          exact zq_iret rfl (Or.inr rfl) H
      · exact H
  · exact H
theorem zr_X3_isDigit_0 {d : Nat} {Q : zR → zH → Prop} {p0 : Nat} {p1 : Int32} {h : zH} (H :
    zE d 66 [.ref p0, .int p1] h (fun r2 h1 => match r2 with
      | .inl v3 => ∃ x5 : Int32, v3 = some (.int x5) ∧ zbr (x5 < 48)
        (Q (.inl (some (.int 0))) h1)
        (zE d 66 [.ref p0, .int p1] h1 (fun r7 h6 => match r7 with
            | .inl v8 => ∃ x10 : Int32, v8 = some (.int x10) ∧ zbr (57 < x10)
              (Q (.inl (some (.int 0))) h6)
              (Q (.inl (some (.int 1))) h6)
            | .inr e9 => Q (.inr e9) h6))
      | .inr e4 => Q (.inr e4) h1)) : zW (zE d) zm_X3_isDigit Q (0, [(0, .ref p0), (1, .int p1)], [], h) := by
  refine zq_aload (pc' := 1) rfl rfl rfl rfl ?_
  refine zq_iload (pc' := 2) rfl rfl rfl rfl ?_
  refine zq_calli (pc' := 5) rfl rfl rfl rfl rfl rfl (zE_mono H (fun r2 h1 H => ?_))
  rcases r2 with v3 | e4
  · obtain ⟨x5, e0, H⟩ := H
    refine Exists.intro x5 (And.intro e0 ?_)
    refine zq_ipush (pc' := 7) rfl rfl rfl ?_
    refine zq_iclt (pc' := 10) rfl rfl rfl rfl (And.intro (fun c => ?_) (fun c => ?_))
    · have H := H.1 c
      refine zq_ipush (pc' := 25) rfl rfl rfl ?_
      exact zq_iret rfl (Or.inl rfl) H
    · have H := H.2 c
      refine zq_aload (pc' := 11) rfl rfl rfl rfl ?_
      refine zq_iload (pc' := 12) rfl rfl rfl rfl ?_
      refine zq_calli (pc' := 15) rfl rfl rfl rfl rfl rfl (zE_mono H (fun r7 h6 H => ?_))
      rcases r7 with v8 | e9
      · obtain ⟨x10, e0, H⟩ := H
        refine Exists.intro x10 (And.intro e0 ?_)
        refine zq_ipush (pc' := 17) rfl rfl rfl ?_
        refine zq_icgt (pc' := 20) rfl rfl rfl rfl (And.intro (fun c => ?_) (fun c => ?_))
        · have H := H.1 c
          refine zq_ipush (pc' := 25) rfl rfl rfl ?_
          exact zq_iret rfl (Or.inl rfl) H
        · have H := H.2 c
          refine zq_ipush (pc' := 21) rfl rfl rfl ?_
          refine zq_goto (pc' := 25) rfl rfl rfl ?_
          exact zq_iret rfl (Or.inr rfl) H
      · exact H
  · exact H
theorem zr_X3_isBlank_0 {d : Nat} {Q : zR → zH → Prop} {p0 : Nat} {p1 : Int32} {h : zH} (H :
    zE d 66 [.ref p0, .int p1] h (fun r2 h1 => match r2 with
      | .inl v3 => ∃ x5 : Int32, v3 = some (.int x5) ∧ zbr (x5 = 32)
        (Q (.inl (some (.int 1))) h1)
        (zE d 66 [.ref p0, .int p1] h1 (fun r7 h6 => match r7 with
            | .inl v8 => ∃ x10 : Int32, v8 = some (.int x10) ∧ zbr (x10 = 10)
              (Q (.inl (some (.int 1))) h6)
              (Q (.inl (some (.int 0))) h6)
            | .inr e9 => Q (.inr e9) h6))
      | .inr e4 => Q (.inr e4) h1)) : zW (zE d) zm_X3_isBlank Q (0, [(0, .ref p0), (1, .int p1)], [], h) := by
  refine zq_aload (pc' := 1) rfl rfl rfl rfl ?_
  refine zq_iload (pc' := 2) rfl rfl rfl rfl ?_
  refine zq_calli (pc' := 5) rfl rfl rfl rfl rfl rfl (zE_mono H (fun r2 h1 H => ?_))
  rcases r2 with v3 | e4
  · obtain ⟨x5, e0, H⟩ := H
    refine Exists.intro x5 (And.intro e0 ?_)
    refine zq_ipush (pc' := 7) rfl rfl rfl ?_
    refine zq_iceq (pc' := 10) rfl rfl rfl rfl (And.intro (fun c => ?_) (fun c => ?_))
    · have H := H.1 c
      refine zq_ipush (pc' := 21) rfl rfl rfl ?_
      refine zq_goto (pc' := 25) rfl rfl rfl ?_
      exact zq_iret rfl (Or.inr rfl) H
    · have H := H.2 c
      refine zq_aload (pc' := 11) rfl rfl rfl rfl ?_
      refine zq_iload (pc' := 12) rfl rfl rfl rfl ?_
      refine zq_calli (pc' := 15) rfl rfl rfl rfl rfl rfl (zE_mono H (fun r7 h6 H => ?_))
      rcases r7 with v8 | e9
      · obtain ⟨x10, e0, H⟩ := H
        refine Exists.intro x10 (And.intro e0 ?_)
        refine zq_ipush (pc' := 17) rfl rfl rfl ?_
        refine zq_icne (pc' := 20) rfl rfl rfl rfl (And.intro (fun c => ?_) (fun c => ?_))
        · have H := H.1 c
          refine zq_ipush (pc' := 21) rfl rfl rfl ?_
          refine zq_goto (pc' := 25) rfl rfl rfl ?_
          exact zq_iret rfl (Or.inr rfl) H
        · have H := H.2 c
          refine zq_ipush (pc' := 25) rfl rfl rfl ?_
          exact zq_iret rfl (Or.inl rfl) H
      · exact H
  · exact H
theorem zr_X3_advance_0 {d : Nat} {Q : zR → zH → Prop} {p0 : Nat} {h : zH} (H :
    ∃ x1 : Int32, zgf h p0 3 4 = some (.int x1) ∧
    ∃ h2, zpf h p0 3 3 (.int x1) = some h2 ∧
    zW (zE d) zm_X3_advance Q (8, [(0, .ref p0)], [], h2)) : zW (zE d) zm_X3_advance Q (0, [(0, .ref p0)], [], h) := by
  refine zq_aload (pc' := 1) rfl rfl rfl rfl ?_
  refine zq_aload (pc' := 2) rfl rfl rfl rfl ?_
  obtain ⟨x1, e0, H⟩ := H
  refine zq_getI (pc' := 5) rfl rfl rfl e0 ?_
  obtain ⟨h2, e0, H⟩ := H
  refine zq_put_c (pc' := 8) rfl rfl trivial e0 ?_
  exact H
theorem zr_X3_advance_8 {d : Nat} {Q : zR → zH → Prop} {l0 : Nat} {h : zH} (H :
    ∃ x1 : Int32, zgf h l0 3 3 = some (.int x1) ∧
    ∃ x2 : Int32, zgf h l0 3 1 = some (.int x2) ∧
    zbr (x2 ≤ x1)
    (zW (zE d) zm_X3_advance Q (43, [(0, .ref l0)], [], h))
    (∃ x3 : Int32, zgf h l0 3 3 = some (.int x3) ∧
      zE d 69 [.ref l0, .int x3] h (fun r5 h4 => match r5 with
        | .inl v6 => ∃ x8 : Int32, v6 = some (.int x8) ∧ zbr (x8 = 0)
          (zW (zE d) zm_X3_advance Q (43, [(0, .ref l0)], [], h4))
          (∃ x9 : Int32, zgf h4 l0 3 3 = some (.int x9) ∧
            ∃ h10, zpf h4 l0 3 3 (.int (x9 + 1)) = some h10 ∧
            zW (zE d) zm_X3_advance Q (8, [(0, .ref l0)], [], h10))
        | .inr e7 => Q (.inr e7) h4))) : zW (zE d) zm_X3_advance Q (8, [(0, .ref l0)], [], h) := by
  refine zq_aload (pc' := 9) rfl rfl rfl rfl ?_
  obtain ⟨x1, e0, H⟩ := H
  refine zq_getI (pc' := 12) rfl rfl rfl e0 ?_
  refine zq_aload (pc' := 13) rfl rfl rfl rfl ?_
  obtain ⟨x2, e0, H⟩ := H
  refine zq_getI (pc' := 16) rfl rfl rfl e0 ?_
  refine zq_icge_c (pc' := 19) (lt := [(0, .ref l0)]) (lf := [(0, .ref l0)]) rfl rfl rfl rfl (And.intro (fun c => ?_) (fun c => ?_))
  · have H := H.1 c
    exact H
  · have H := H.2 c
    refine zq_aload (pc' := 20) rfl rfl rfl rfl ?_
    refine zq_aload (pc' := 21) rfl rfl rfl rfl ?_
    obtain ⟨x3, e0, H⟩ := H
    refine zq_getI (pc' := 24) rfl rfl rfl e0 ?_
    refine zq_calli (pc' := 27) rfl rfl rfl rfl rfl rfl (zE_mono H (fun r5 h4 H => ?_))
    rcases r5 with v6 | e7
    · obtain ⟨x8, e0, H⟩ := H
      refine Exists.intro x8 (And.intro e0 ?_)
      refine zq_ifeq_c (pc' := 30) (lt := [(0, .ref l0)]) (lf := [(0, .ref l0)]) rfl rfl rfl rfl (And.intro (fun c => ?_) (fun c => ?_))
      · have H := H.1 c
        exact H
      · have H := H.2 c
        refine zq_aload (pc' := 31) rfl rfl rfl rfl ?_
        refine zq_dup (pc' := 32) rfl rfl rfl rfl ?_
        obtain ⟨x9, e0, H⟩ := H
        refine zq_getI (pc' := 35) rfl rfl rfl e0 ?_
        refine zq_ipush (pc' := 36) rfl rfl rfl ?_
        refine zq_iadd (pc' := 37) rfl rfl rfl ?_
        obtain ⟨h10, e0, H⟩ := H
        refine zq_put (pc' := 40) rfl rfl rfl trivial e0 ?_
        refine zq_goto_c (pc' := 8) rfl rfl ?_
        exact H
    · exact H
theorem zr_X3_advance_43 {d : Nat} {Q : zR → zH → Prop} {l0 : Nat} {h : zH} (H :
    ∃ x1 : Int32, zgf h l0 3 3 = some (.int x1) ∧
    ∃ h2, zpf h l0 3 4 (.int x1) = some h2 ∧
    ∃ x3 : Int32, zgf h2 l0 3 3 = some (.int x3) ∧
    ∃ x4 : Int32, zgf h2 l0 3 1 = some (.int x4) ∧
    zbr (x3 < x4)
    (∃ x5 : Int32, zgf h2 l0 3 3 = some (.int x5) ∧
      zE d 67 [.ref l0, .int x5] h2 (fun r7 h6 => match r7 with
        | .inl v8 => ∃ x10 : Int32, v8 = some (.int x10) ∧ zbr (x10 = 0)
          (∃ x11 : Int32, zgf h6 l0 3 3 = some (.int x11) ∧
            zE d 68 [.ref l0, .int x11] h6 (fun r13 h12 => match r13 with
              | .inl v14 => ∃ x16 : Int32, v14 = some (.int x16) ∧ zbr (x16 = 0)
                (∃ x17 : Int32, zgf h12 l0 3 3 = some (.int x17) ∧
                  zE d 66 [.ref l0, .int x17] h12 (fun r19 h18 => match r19 with
                    | .inl v20 => ∃ x22 : Int32, v20 = some (.int x22) ∧ zE d 6 [.ref 0, .int (((x22 &&& 255 : Int32).toUInt32 % 65536).toInt32)] h18 (fun r24 h23 => match r24 with
                        | .inl v25 => ∃ x27 : Int32, v25 = some (.int x27) ∧ zbr (x27 < 0)
                          (∃ h28, zpf h23 l0 3 2 (.int 4) = some h28 ∧
                            ∃ x29 : Int32, zgf h28 l0 3 4 = some (.int x29) ∧
                            ∃ h30, zpf h28 l0 3 4 (.int (x29 + 1)) = some h30 ∧
                            Q (.inl none) h30)
                          (∃ h31, zpf h23 l0 3 2 (.int 3) = some h31 ∧
                            ∃ x32 : Int32, zgf h31 l0 3 4 = some (.int x32) ∧
                            ∃ h33, zpf h31 l0 3 4 (.int (x32 + 1)) = some h33 ∧
                            Q (.inl none) h33)
                        | .inr e26 => Q (.inr e26) h23)
                    | .inr e21 => Q (.inr e21) h18))
                (∃ h34, zpf h12 l0 3 2 (.int 2) = some h34 ∧
                  zE d 71 [.ref l0] h34 (fun r36 h35 => match r36 with
                    | .inl v37 => v37 = none ∧ Q (.inl none) h35
                    | .inr e38 => Q (.inr e38) h35))
              | .inr e15 => Q (.inr e15) h12))
          (∃ h39, zpf h6 l0 3 2 (.int 1) = some h39 ∧
            zW (zE d) zm_X3_advance Q (86, [(0, .ref l0)], [], h39))
        | .inr e9 => Q (.inr e9) h6))
    (∃ h40, zpf h2 l0 3 2 (.int 0) = some h40 ∧
      Q (.inl none) h40)) : zW (zE d) zm_X3_advance Q (43, [(0, .ref l0)], [], h) := by
  refine zq_aload (pc' := 44) rfl rfl rfl rfl ?_
  refine zq_aload (pc' := 45) rfl rfl rfl rfl ?_
  obtain ⟨x1, e0, H⟩ := H
  refine zq_getI (pc' := 48) rfl rfl rfl e0 ?_
  obtain ⟨h2, e0, H⟩ := H
  refine zq_put (pc' := 51) rfl rfl rfl trivial e0 ?_
  refine zq_aload (pc' := 52) rfl rfl rfl rfl ?_
  obtain ⟨x3, e0, H⟩ := H
  refine zq_getI (pc' := 55) rfl rfl rfl e0 ?_
  refine zq_aload (pc' := 56) rfl rfl rfl rfl ?_
  obtain ⟨x4, e0, H⟩ := H
  refine zq_getI (pc' := 59) rfl rfl rfl e0 ?_
  refine zq_iclt (pc' := 62) rfl rfl rfl rfl (And.intro (fun c => ?_) (fun c => ?_))
  · have H := H.1 c
    refine zq_aload (pc' := 71) rfl rfl rfl rfl ?_
    refine zq_aload (pc' := 72) rfl rfl rfl rfl ?_
    obtain ⟨x5, e0, H⟩ := H
    refine zq_getI (pc' := 75) rfl rfl rfl e0 ?_
    refine zq_calli (pc' := 78) rfl rfl rfl rfl rfl rfl (zE_mono H (fun r7 h6 H => ?_))
    rcases r7 with v8 | e9
    · obtain ⟨x10, e0, H⟩ := H
      refine Exists.intro x10 (And.intro e0 ?_)
      refine zq_ifeq (pc' := 81) rfl rfl rfl rfl (And.intro (fun c => ?_) (fun c => ?_))
      · have H := H.1 c
        refine zq_aload (pc' := 122) rfl rfl rfl rfl ?_
        refine zq_aload (pc' := 123) rfl rfl rfl rfl ?_
        obtain ⟨x11, e0, H⟩ := H
        refine zq_getI (pc' := 126) rfl rfl rfl e0 ?_
        refine zq_calli (pc' := 129) rfl rfl rfl rfl rfl rfl (zE_mono H (fun r13 h12 H => ?_))
        rcases r13 with v14 | e15
        · obtain ⟨x16, e0, H⟩ := H
          refine Exists.intro x16 (And.intro e0 ?_)
          refine zq_ifeq (pc' := 132) rfl rfl rfl rfl (And.intro (fun c => ?_) (fun c => ?_))
          · have H := H.1 c
            refine zq_aload (pc' := 145) rfl rfl rfl rfl ?_
            refine zq_rpush (pc' := 147) rfl rfl rfl ?_
            refine zq_aload (pc' := 148) rfl rfl rfl rfl ?_
            refine zq_aload (pc' := 149) rfl rfl rfl rfl ?_
            obtain ⟨x17, e0, H⟩ := H
            refine zq_getI (pc' := 152) rfl rfl rfl e0 ?_
            refine zq_calli (pc' := 155) rfl rfl rfl rfl rfl rfl (zE_mono H (fun r19 h18 H => ?_))
            rcases r19 with v20 | e21
            · obtain ⟨x22, e0, H⟩ := H
              refine Exists.intro x22 (And.intro e0 ?_)
              refine zq_ipush (pc' := 158) rfl rfl rfl ?_
              refine zq_iand (pc' := 159) rfl rfl rfl ?_
              refine zq_i2c (pc' := 160) rfl rfl rfl ?_
              refine zq_calli (pc' := 163) rfl rfl rfl rfl rfl rfl (zE_mono H (fun r24 h23 H => ?_))
              rcases r24 with v25 | e26
              · obtain ⟨x27, e0, H⟩ := H
                refine Exists.intro x27 (And.intro e0 ?_)
                refine zq_iflt (pc' := 166) rfl rfl rfl rfl (And.intro (fun c => ?_) (fun c => ?_))
                · have H := H.1 c
                  refine zq_ipush (pc' := 171) rfl rfl rfl ?_
                  obtain ⟨h28, e0, H⟩ := H
                  refine zq_put (pc' := 174) rfl rfl rfl trivial e0 ?_
                  refine zq_aload (pc' := 175) rfl rfl rfl rfl ?_
                  refine zq_dup (pc' := 176) rfl rfl rfl rfl ?_
                  obtain ⟨x29, e0, H⟩ := H
                  refine zq_getI (pc' := 179) rfl rfl rfl e0 ?_
                  refine zq_ipush (pc' := 180) rfl rfl rfl ?_
                  refine zq_iadd (pc' := 181) rfl rfl rfl ?_
                  obtain ⟨h30, e0, H⟩ := H
                  refine zq_put (pc' := 184) rfl rfl rfl trivial e0 ?_
                  exact zq_vret rfl H
                · have H := H.2 c
                  refine zq_ipush (pc' := 167) rfl rfl rfl ?_
                  refine zq_goto (pc' := 171) rfl rfl rfl ?_
                  obtain ⟨h31, e0, H⟩ := H
                  refine zq_put (pc' := 174) rfl rfl rfl trivial e0 ?_
                  refine zq_aload (pc' := 175) rfl rfl rfl rfl ?_
                  refine zq_dup (pc' := 176) rfl rfl rfl rfl ?_
                  obtain ⟨x32, e0, H⟩ := H
                  refine zq_getI (pc' := 179) rfl rfl rfl e0 ?_
                  refine zq_ipush (pc' := 180) rfl rfl rfl ?_
                  refine zq_iadd (pc' := 181) rfl rfl rfl ?_
                  obtain ⟨h33, e0, H⟩ := H
                  refine zq_put (pc' := 184) rfl rfl rfl trivial e0 ?_
                  exact zq_vret rfl H
              · exact H
            · exact H
          · have H := H.2 c
            refine zq_aload (pc' := 133) rfl rfl rfl rfl ?_
            refine zq_ipush (pc' := 134) rfl rfl rfl ?_
            obtain ⟨h34, e0, H⟩ := H
            refine zq_put (pc' := 137) rfl rfl rfl trivial e0 ?_
            refine zq_aload (pc' := 138) rfl rfl rfl rfl ?_
            refine zq_callv (pc' := 141) rfl rfl rfl rfl rfl rfl (zE_mono H (fun r36 h35 H => ?_))
            rcases r36 with v37 | e38
            · obtain ⟨e0, H⟩ := H
              refine And.intro e0 ?_
              refine zq_goto (pc' := 184) rfl rfl rfl ?_
              exact zq_vret rfl H
            · exact H
        · exact H
      · have H := H.2 c
        refine zq_aload (pc' := 82) rfl rfl rfl rfl ?_
        refine zq_ipush (pc' := 83) rfl rfl rfl ?_
        obtain ⟨h39, e0, H⟩ := H
        refine zq_put_c (pc' := 86) rfl rfl trivial e0 ?_
        exact H
    · exact H
  · have H := H.2 c
    refine zq_aload (pc' := 63) rfl rfl rfl rfl ?_
    refine zq_ipush (pc' := 64) rfl rfl rfl ?_
    obtain ⟨h40, e0, H⟩ := H
    refine zq_put (pc' := 67) rfl rfl rfl trivial e0 ?_
    refine zq_goto (pc' := 184) rfl rfl rfl ?_
    exact zq_vret rfl H
theorem zr_X3_advance_86 {d : Nat} {Q : zR → zH → Prop} {l0 : Nat} {h : zH} (H :
    ∃ x1 : Int32, zgf h l0 3 4 = some (.int x1) ∧
    ∃ x2 : Int32, zgf h l0 3 1 = some (.int x2) ∧
    zbr (x2 ≤ x1)
    (Q (.inl none) h)
    (∃ x3 : Int32, zgf h l0 3 4 = some (.int x3) ∧
      zE d 67 [.ref l0, .int x3] h (fun r5 h4 => match r5 with
        | .inl v6 => ∃ x8 : Int32, v6 = some (.int x8) ∧ zbr (x8 = 0)
          (Q (.inl none) h4)
          (∃ x9 : Int32, zgf h4 l0 3 4 = some (.int x9) ∧
            ∃ h10, zpf h4 l0 3 4 (.int (x9 + 1)) = some h10 ∧
            zW (zE d) zm_X3_advance Q (86, [(0, .ref l0)], [], h10))
        | .inr e7 => Q (.inr e7) h4))) : zW (zE d) zm_X3_advance Q (86, [(0, .ref l0)], [], h) := by
  refine zq_aload (pc' := 87) rfl rfl rfl rfl ?_
  obtain ⟨x1, e0, H⟩ := H
  refine zq_getI (pc' := 90) rfl rfl rfl e0 ?_
  refine zq_aload (pc' := 91) rfl rfl rfl rfl ?_
  obtain ⟨x2, e0, H⟩ := H
  refine zq_getI (pc' := 94) rfl rfl rfl e0 ?_
  refine zq_icge (pc' := 97) rfl rfl rfl rfl (And.intro (fun c => ?_) (fun c => ?_))
  · have H := H.1 c
    exact zq_vret rfl H
  · have H := H.2 c
    refine zq_aload (pc' := 98) rfl rfl rfl rfl ?_
    refine zq_aload (pc' := 99) rfl rfl rfl rfl ?_
    obtain ⟨x3, e0, H⟩ := H
    refine zq_getI (pc' := 102) rfl rfl rfl e0 ?_
    refine zq_calli (pc' := 105) rfl rfl rfl rfl rfl rfl (zE_mono H (fun r5 h4 H => ?_))
    rcases r5 with v6 | e7
    · obtain ⟨x8, e0, H⟩ := H
      refine Exists.intro x8 (And.intro e0 ?_)
      refine zq_ifeq (pc' := 108) rfl rfl rfl rfl (And.intro (fun c => ?_) (fun c => ?_))
      · have H := H.1 c
        exact zq_vret rfl H
      · have H := H.2 c
        refine zq_aload (pc' := 109) rfl rfl rfl rfl ?_
        refine zq_dup (pc' := 110) rfl rfl rfl rfl ?_
        obtain ⟨x9, e0, H⟩ := H
        refine zq_getI (pc' := 113) rfl rfl rfl e0 ?_
        refine zq_ipush (pc' := 114) rfl rfl rfl ?_
        refine zq_iadd (pc' := 115) rfl rfl rfl ?_
        obtain ⟨h10, e0, H⟩ := H
        refine zq_put (pc' := 118) rfl rfl rfl trivial e0 ?_
        refine zq_goto_c (pc' := 86) rfl rfl ?_
        exact H
    · exact H
theorem zr_X3_takeNumber_0 {d : Nat} {Q : zR → zH → Prop} {p0 : Nat} {h : zH} (H :
    ∃ h1, zpf h p0 3 5 (.int 0) = some h1 ∧
    zW (zE d) zm_X3_takeNumber Q (5, [(0, .ref p0)], [], h1)) : zW (zE d) zm_X3_takeNumber Q (0, [(0, .ref p0)], [], h) := by
  refine zq_aload (pc' := 1) rfl rfl rfl rfl ?_
  refine zq_ipush (pc' := 2) rfl rfl rfl ?_
  obtain ⟨h1, e0, H⟩ := H
  refine zq_put_c (pc' := 5) rfl rfl trivial e0 ?_
  exact H
theorem zr_X3_takeNumber_5 {d : Nat} {Q : zR → zH → Prop} {l0 : Nat} {h : zH} (H :
    ∃ x1 : Int32, zgf h l0 3 4 = some (.int x1) ∧
    ∃ x2 : Int32, zgf h l0 3 1 = some (.int x2) ∧
    zbr (x2 ≤ x1)
    (∃ x3 : Int32, zgf h l0 3 4 = some (.int x3) ∧
      ∃ x4 : Int32, zgf h l0 3 3 = some (.int x4) ∧
      zbr ((x3 - x4) ≤ 4)
      (Q (.inl none) h)
      (∃ h5, zpf h l0 3 5 (.int 10000) = some h5 ∧
        Q (.inl none) h5))
    (∃ x6 : Int32, zgf h l0 3 4 = some (.int x6) ∧
      zE d 68 [.ref l0, .int x6] h (fun r8 h7 => match r8 with
        | .inl v9 => ∃ x11 : Int32, v9 = some (.int x11) ∧ zbr (x11 = 0)
          (∃ x12 : Int32, zgf h7 l0 3 4 = some (.int x12) ∧
            ∃ x13 : Int32, zgf h7 l0 3 3 = some (.int x13) ∧
            zbr ((x12 - x13) ≤ 4)
            (Q (.inl none) h7)
            (∃ h14, zpf h7 l0 3 5 (.int 10000) = some h14 ∧
              Q (.inl none) h14))
          (∃ x15 : Int32, zgf h7 l0 3 5 = some (.int x15) ∧
            ∃ x16 : Int32, zgf h7 l0 3 4 = some (.int x16) ∧
            zE d 66 [.ref l0, .int x16] h7 (fun r18 h17 => match r18 with
              | .inl v19 => ∃ x21 : Int32, v19 = some (.int x21) ∧ zE d 3 [.int 10000, .int (((x15 * 10) + x21) - 48)] h17 (fun r23 h22 => match r23 with
                  | .inl v24 => ∃ x26 : Int32, v24 = some (.int x26) ∧ ∃ h27, zpf h22 l0 3 5 (.int x26) = some h27 ∧
                    ∃ x28 : Int32, zgf h27 l0 3 4 = some (.int x28) ∧
                    ∃ h29, zpf h27 l0 3 4 (.int (x28 + 1)) = some h29 ∧
                    zW (zE d) zm_X3_takeNumber Q (5, [(0, .ref l0)], [], h29)
                  | .inr e25 => Q (.inr e25) h22)
              | .inr e20 => Q (.inr e20) h17))
        | .inr e10 => Q (.inr e10) h7))) : zW (zE d) zm_X3_takeNumber Q (5, [(0, .ref l0)], [], h) := by
  refine zq_aload (pc' := 6) rfl rfl rfl rfl ?_
  obtain ⟨x1, e0, H⟩ := H
  refine zq_getI (pc' := 9) rfl rfl rfl e0 ?_
  refine zq_aload (pc' := 10) rfl rfl rfl rfl ?_
  obtain ⟨x2, e0, H⟩ := H
  refine zq_getI (pc' := 13) rfl rfl rfl e0 ?_
  refine zq_icge (pc' := 16) rfl rfl rfl rfl (And.intro (fun c => ?_) (fun c => ?_))
  · have H := H.1 c
    refine zq_aload (pc' := 70) rfl rfl rfl rfl ?_
    obtain ⟨x3, e0, H⟩ := H
    refine zq_getI (pc' := 73) rfl rfl rfl e0 ?_
    refine zq_aload (pc' := 74) rfl rfl rfl rfl ?_
    obtain ⟨x4, e0, H⟩ := H
    refine zq_getI (pc' := 77) rfl rfl rfl e0 ?_
    refine zq_isub (pc' := 78) rfl rfl rfl ?_
    refine zq_ipush (pc' := 79) rfl rfl rfl ?_
    refine zq_icle (pc' := 82) rfl rfl rfl rfl (And.intro (fun c => ?_) (fun c => ?_))
    · have H := H.1 c
      exact zq_vret rfl H
    · have H := H.2 c
      refine zq_aload (pc' := 83) rfl rfl rfl rfl ?_
      refine zq_ipush (pc' := 86) rfl rfl rfl ?_
      obtain ⟨h5, e0, H⟩ := H
      refine zq_put (pc' := 89) rfl rfl rfl trivial e0 ?_
      exact zq_vret rfl H
  · have H := H.2 c
    refine zq_aload (pc' := 17) rfl rfl rfl rfl ?_
    refine zq_aload (pc' := 18) rfl rfl rfl rfl ?_
    obtain ⟨x6, e0, H⟩ := H
    refine zq_getI (pc' := 21) rfl rfl rfl e0 ?_
    refine zq_calli (pc' := 24) rfl rfl rfl rfl rfl rfl (zE_mono H (fun r8 h7 H => ?_))
    rcases r8 with v9 | e10
    · obtain ⟨x11, e0, H⟩ := H
      refine Exists.intro x11 (And.intro e0 ?_)
      refine zq_ifeq (pc' := 27) rfl rfl rfl rfl (And.intro (fun c => ?_) (fun c => ?_))
      · have H := H.1 c
        refine zq_aload (pc' := 70) rfl rfl rfl rfl ?_
        obtain ⟨x12, e0, H⟩ := H
        refine zq_getI (pc' := 73) rfl rfl rfl e0 ?_
        refine zq_aload (pc' := 74) rfl rfl rfl rfl ?_
        obtain ⟨x13, e0, H⟩ := H
        refine zq_getI (pc' := 77) rfl rfl rfl e0 ?_
        refine zq_isub (pc' := 78) rfl rfl rfl ?_
        refine zq_ipush (pc' := 79) rfl rfl rfl ?_
        refine zq_icle (pc' := 82) rfl rfl rfl rfl (And.intro (fun c => ?_) (fun c => ?_))
        · have H := H.1 c
          exact zq_vret rfl H
        · have H := H.2 c
          refine zq_aload (pc' := 83) rfl rfl rfl rfl ?_
          refine zq_ipush (pc' := 86) rfl rfl rfl ?_
          obtain ⟨h14, e0, H⟩ := H
          refine zq_put (pc' := 89) rfl rfl rfl trivial e0 ?_
          exact zq_vret rfl H
      · have H := H.2 c
        refine zq_aload (pc' := 28) rfl rfl rfl rfl ?_
        refine zq_ipush (pc' := 31) rfl rfl rfl ?_
        refine zq_aload (pc' := 32) rfl rfl rfl rfl ?_
        obtain ⟨x15, e0, H⟩ := H
        refine zq_getI (pc' := 35) rfl rfl rfl e0 ?_
        refine zq_ipush (pc' := 37) rfl rfl rfl ?_
        refine zq_imul (pc' := 38) rfl rfl rfl ?_
        refine zq_aload (pc' := 39) rfl rfl rfl rfl ?_
        refine zq_aload (pc' := 40) rfl rfl rfl rfl ?_
        obtain ⟨x16, e0, H⟩ := H
        refine zq_getI (pc' := 43) rfl rfl rfl e0 ?_
        refine zq_calli (pc' := 46) rfl rfl rfl rfl rfl rfl (zE_mono H (fun r18 h17 H => ?_))
        rcases r18 with v19 | e20
        · obtain ⟨x21, e0, H⟩ := H
          refine Exists.intro x21 (And.intro e0 ?_)
          refine zq_iadd (pc' := 47) rfl rfl rfl ?_
          refine zq_ipush (pc' := 49) rfl rfl rfl ?_
          refine zq_isub (pc' := 50) rfl rfl rfl ?_
          refine zq_calli (pc' := 53) rfl rfl rfl rfl rfl rfl (zE_mono H (fun r23 h22 H => ?_))
          rcases r23 with v24 | e25
          · obtain ⟨x26, e0, H⟩ := H
            refine Exists.intro x26 (And.intro e0 ?_)
            obtain ⟨h27, e0, H⟩ := H
            refine zq_put (pc' := 56) rfl rfl rfl trivial e0 ?_
            refine zq_aload (pc' := 57) rfl rfl rfl rfl ?_
            refine zq_dup (pc' := 58) rfl rfl rfl rfl ?_
            obtain ⟨x28, e0, H⟩ := H
            refine zq_getI (pc' := 61) rfl rfl rfl e0 ?_
            refine zq_ipush (pc' := 62) rfl rfl rfl ?_
            refine zq_iadd (pc' := 63) rfl rfl rfl ?_
            obtain ⟨h29, e0, H⟩ := H
            refine zq_put (pc' := 66) rfl rfl rfl trivial e0 ?_
            refine zq_goto_c (pc' := 5) rfl rfl ?_
            exact H
          · exact H
        · exact H
    · exact H
theorem zr_X3_isWord_0 {d : Nat} {Q : zR → zH → Prop} {p0 : Nat} {p1 : Nat} {h : zH} (H :
    ∃ x1 : Int32, zgf h p0 3 2 = some (.int x1) ∧
    zbr (x1 = 1)
    (∃ x2 : Int32, zgf h p0 3 4 = some (.int x2) ∧
      ∃ x3 : Int32, zgf h p0 3 3 = some (.int x3) ∧
      zE d 4 [.ref p1] h (fun r5 h4 => match r5 with
        | .inl v6 => ∃ x8 : Int32, v6 = some (.int x8) ∧ zbr ((x2 - x3) = x8)
          (zW (zE d) zm_X3_isWord Q (28, [(0, .ref p0), (1, .ref p1), (2, .int 0)], [], h4))
          (Q (.inl (some (.int 0))) h4)
        | .inr e7 => Q (.inr e7) h4))
    (Q (.inl (some (.int 0))) h)) : zW (zE d) zm_X3_isWord Q (0, [(0, .ref p0), (1, .ref p1)], [], h) := by
  refine zq_aload (pc' := 1) rfl rfl rfl rfl ?_
  obtain ⟨x1, e0, H⟩ := H
  refine zq_getI (pc' := 4) rfl rfl rfl e0 ?_
  refine zq_ipush (pc' := 5) rfl rfl rfl ?_
  refine zq_icne (pc' := 8) rfl rfl rfl rfl (And.intro (fun c => ?_) (fun c => ?_))
  · have H := H.1 c
    refine zq_aload (pc' := 9) rfl rfl rfl rfl ?_
    obtain ⟨x2, e0, H⟩ := H
    refine zq_getI (pc' := 12) rfl rfl rfl e0 ?_
    refine zq_aload (pc' := 13) rfl rfl rfl rfl ?_
    obtain ⟨x3, e0, H⟩ := H
    refine zq_getI (pc' := 16) rfl rfl rfl e0 ?_
    refine zq_isub (pc' := 17) rfl rfl rfl ?_
    refine zq_aload (pc' := 18) rfl rfl rfl rfl ?_
    refine zq_calli (pc' := 21) rfl rfl rfl rfl rfl rfl (zE_mono H (fun r5 h4 H => ?_))
    rcases r5 with v6 | e7
    · obtain ⟨x8, e0, H⟩ := H
      refine Exists.intro x8 (And.intro e0 ?_)
      refine zq_iceq (pc' := 24) rfl rfl rfl rfl (And.intro (fun c => ?_) (fun c => ?_))
      · have H := H.1 c
        refine zq_ipush (pc' := 27) rfl rfl rfl ?_
        refine zq_istore_c (pc' := 28) rfl rfl ?_
        exact H
      · have H := H.2 c
        refine zq_ipush (pc' := 25) rfl rfl rfl ?_
        exact zq_iret rfl (Or.inl rfl) H
    · exact H
  · have H := H.2 c
    refine zq_ipush (pc' := 25) rfl rfl rfl ?_
    exact zq_iret rfl (Or.inl rfl) H
theorem zr_X3_isWord_28 {d : Nat} {Q : zR → zH → Prop} {l0 : Nat} {l1 : Nat} {l2 : Int32} {h : zH} (H :
    zE d 4 [.ref l1] h (fun r2 h1 => match r2 with
      | .inl v3 => ∃ x5 : Int32, v3 = some (.int x5) ∧ zbr (x5 ≤ l2)
        (Q (.inl (some (.int 1))) h1)
        (∃ x6 : Int32, zgf h1 l0 3 3 = some (.int x6) ∧
          zE d 66 [.ref l0, .int (x6 + l2)] h1 (fun r8 h7 => match r8 with
            | .inl v9 => ∃ x11 : Int32, v9 = some (.int x11) ∧ zE d 5 [.ref l1, .int l2] h7 (fun r13 h12 => match r13 with
                | .inl v14 => ∃ x16 : Int32, v14 = some (.int x16) ∧ zbr (x11 = x16)
                  (zW (zE d) zm_X3_isWord Q (28, [(0, .ref l0), (1, .ref l1), (2, .int (l2 + 1))], [], h12))
                  (Q (.inl (some (.int 0))) h12)
                | .inr e15 => Q (.inr e15) h12)
            | .inr e10 => Q (.inr e10) h7))
      | .inr e4 => Q (.inr e4) h1)) : zW (zE d) zm_X3_isWord Q (28, [(0, .ref l0), (1, .ref l1), (2, .int l2)], [], h) := by
  refine zq_iload (pc' := 29) rfl rfl rfl rfl ?_
  refine zq_aload (pc' := 30) rfl rfl rfl rfl ?_
  refine zq_calli (pc' := 33) rfl rfl rfl rfl rfl rfl (zE_mono H (fun r2 h1 H => ?_))
  rcases r2 with v3 | e4
  · obtain ⟨x5, e0, H⟩ := H
    refine Exists.intro x5 (And.intro e0 ?_)
    refine zq_icge (pc' := 36) rfl rfl rfl rfl (And.intro (fun c => ?_) (fun c => ?_))
    · have H := H.1 c
      refine zq_ipush (pc' := 63) rfl rfl rfl ?_
      exact zq_iret rfl (Or.inr rfl) H
    · have H := H.2 c
      refine zq_aload (pc' := 37) rfl rfl rfl rfl ?_
      refine zq_aload (pc' := 38) rfl rfl rfl rfl ?_
      obtain ⟨x6, e0, H⟩ := H
      refine zq_getI (pc' := 41) rfl rfl rfl e0 ?_
      refine zq_iload (pc' := 42) rfl rfl rfl rfl ?_
      refine zq_iadd (pc' := 43) rfl rfl rfl ?_
      refine zq_calli (pc' := 46) rfl rfl rfl rfl rfl rfl (zE_mono H (fun r8 h7 H => ?_))
      rcases r8 with v9 | e10
      · obtain ⟨x11, e0, H⟩ := H
        refine Exists.intro x11 (And.intro e0 ?_)
        refine zq_aload (pc' := 47) rfl rfl rfl rfl ?_
        refine zq_iload (pc' := 48) rfl rfl rfl rfl ?_
        refine zq_calli (pc' := 51) rfl rfl rfl rfl rfl rfl (zE_mono H (fun r13 h12 H => ?_))
        rcases r13 with v14 | e15
        · obtain ⟨x16, e0, H⟩ := H
          refine Exists.intro x16 (And.intro e0 ?_)
          refine zq_iceq (pc' := 54) rfl rfl rfl rfl (And.intro (fun c => ?_) (fun c => ?_))
          · have H := H.1 c
            refine zq_iinc (pc' := 59) rfl rfl rfl rfl ?_
            refine zq_goto_c (pc' := 28) rfl rfl ?_
            exact H
          · have H := H.2 c
            refine zq_ipush (pc' := 55) rfl rfl rfl ?_
            exact zq_iret rfl (Or.inl rfl) H
        · exact H
      · exact H
  · exact H
theorem zr_X3_isSign_0 {d : Nat} {Q : zR → zH → Prop} {p0 : Nat} {p1 : Int32} {h : zH} (H :
    ∃ x1 : Int32, zgf h p0 3 2 = some (.int x1) ∧
    zbr (x1 = 3)
    (∃ x2 : Int32, zgf h p0 3 3 = some (.int x2) ∧
      zE d 66 [.ref p0, .int x2] h (fun r4 h3 => match r4 with
        | .inl v5 => ∃ x7 : Int32, v5 = some (.int x7) ∧ zbr (x7 = p1)
          (Q (.inl (some (.int 1))) h3)
          (Q (.inl (some (.int 0))) h3)
        | .inr e6 => Q (.inr e6) h3))
    (Q (.inl (some (.int 0))) h)) : zW (zE d) zm_X3_isSign Q (0, [(0, .ref p0), (1, .int p1)], [], h) := by
  refine zq_aload (pc' := 1) rfl rfl rfl rfl ?_
  obtain ⟨x1, e0, H⟩ := H
  refine zq_getI (pc' := 4) rfl rfl rfl e0 ?_
  refine zq_ipush (pc' := 5) rfl rfl rfl ?_
  refine zq_icne (pc' := 8) rfl rfl rfl rfl (And.intro (fun c => ?_) (fun c => ?_))
  · have H := H.1 c
    refine zq_aload (pc' := 9) rfl rfl rfl rfl ?_
    refine zq_aload (pc' := 10) rfl rfl rfl rfl ?_
    obtain ⟨x2, e0, H⟩ := H
    refine zq_getI (pc' := 13) rfl rfl rfl e0 ?_
    refine zq_calli (pc' := 16) rfl rfl rfl rfl rfl rfl (zE_mono H (fun r4 h3 H => ?_))
    rcases r4 with v5 | e6
    · obtain ⟨x7, e0, H⟩ := H
      refine Exists.intro x7 (And.intro e0 ?_)
      refine zq_iload (pc' := 17) rfl rfl rfl rfl ?_
      refine zq_icne (pc' := 20) rfl rfl rfl rfl (And.intro (fun c => ?_) (fun c => ?_))
      · have H := H.1 c
        refine zq_ipush (pc' := 21) rfl rfl rfl ?_
        refine zq_goto (pc' := 25) rfl rfl rfl ?_
        exact zq_iret rfl (Or.inr rfl) H
      · have H := H.2 c
        refine zq_ipush (pc' := 25) rfl rfl rfl ?_
        exact zq_iret rfl (Or.inl rfl) H
    · exact H
  · have H := H.2 c
    refine zq_ipush (pc' := 25) rfl rfl rfl ?_
    exact zq_iret rfl (Or.inl rfl) H
theorem zr_X3_fail_0 {d : Nat} {Q : zR → zH → Prop} {p0 : Nat} {p1 : Int32} {h : zH} (H :
    ∃ h1, zpf h p0 3 6 (.int p1) = some h1 ∧
    Q (.inl (some (.int 0))) h1) : zW (zE d) zm_X3_fail Q (0, [(0, .ref p0), (1, .int p1)], [], h) := by
  refine zq_aload (pc' := 1) rfl rfl rfl rfl ?_
  refine zq_iload (pc' := 2) rfl rfl rfl rfl ?_
  obtain ⟨h1, e0, H⟩ := H
  refine zq_put (pc' := 5) rfl rfl rfl trivial e0 ?_
  refine zq_ipush (pc' := 6) rfl rfl rfl ?_
  exact zq_iret rfl (Or.inl rfl) H
theorem zr_X3_takeSign_0 {d : Nat} {Q : zR → zH → Prop} {p0 : Nat} {p1 : Int32} {h : zH} (H :
    zE d 73 [.ref p0, .int p1] h (fun r2 h1 => match r2 with
      | .inl v3 => ∃ x5 : Int32, v3 = some (.int x5) ∧ zbr (x5 = 0)
        (zE d 74 [.ref p0, .int 1] h1 (fun r7 h6 => match r7 with
            | .inl v8 => ∃ x10 : Int32, v8 = some (.int x10) ∧ (x10 = 0 ∨ x10 = 1) ∧ Q (.inl (some (.int x10))) h6
            | .inr e9 => Q (.inr e9) h6))
        (zE d 70 [.ref p0] h1 (fun r12 h11 => match r12 with
            | .inl v13 => v13 = none ∧ Q (.inl (some (.int 1))) h11
            | .inr e14 => Q (.inr e14) h11))
      | .inr e4 => Q (.inr e4) h1)) : zW (zE d) zm_X3_takeSign Q (0, [(0, .ref p0), (1, .int p1)], [], h) := by
  refine zq_aload (pc' := 1) rfl rfl rfl rfl ?_
  refine zq_iload (pc' := 2) rfl rfl rfl rfl ?_
  refine zq_calli (pc' := 5) rfl rfl rfl rfl rfl rfl (zE_mono H (fun r2 h1 H => ?_))
  rcases r2 with v3 | e4
  · obtain ⟨x5, e0, H⟩ := H
    refine Exists.intro x5 (And.intro e0 ?_)
    refine zq_ifne (pc' := 8) rfl rfl rfl rfl (And.intro (fun c => ?_) (fun c => ?_))
    · have H := H.1 c
      refine zq_aload (pc' := 9) rfl rfl rfl rfl ?_
      refine zq_ipush (pc' := 10) rfl rfl rfl ?_
      refine zq_calli (pc' := 13) rfl rfl rfl rfl rfl rfl (zE_mono H (fun r7 h6 H => ?_))
      rcases r7 with v8 | e9
      · obtain ⟨x10, e0, H⟩ := H
        refine Exists.intro x10 (And.intro e0 ?_)
        exact zq_iret rfl H.1 H.2
      · exact H
    · have H := H.2 c
      refine zq_aload (pc' := 15) rfl rfl rfl rfl ?_
      refine zq_callv (pc' := 18) rfl rfl rfl rfl rfl rfl (zE_mono H (fun r12 h11 H => ?_))
      rcases r12 with v13 | e14
      · obtain ⟨e0, H⟩ := H
        refine And.intro e0 ?_
        refine zq_ipush (pc' := 19) rfl rfl rfl ?_
        exact zq_iret rfl (Or.inr rfl) H
      · exact H
  · exact H
theorem zr_X3_line_0 {d : Nat} {Q : zR → zH → Prop} {p0 : Nat} {h : zH} (H :
    zE d 72 [.ref p0, .ref 2] h (fun r2 h1 => match r2 with
      | .inl v3 => ∃ x5 : Int32, v3 = some (.int x5) ∧ zbr (x5 = 0)
        (zE d 72 [.ref p0, .ref 4] h1 (fun r7 h6 => match r7 with
            | .inl v8 => ∃ x10 : Int32, v8 = some (.int x10) ∧ zbr (x10 = 0)
              (zE d 72 [.ref p0, .ref 6] h6 (fun r12 h11 => match r12 with
                  | .inl v13 => ∃ x15 : Int32, v13 = some (.int x15) ∧ zbr (x15 = 0)
                    (zE d 72 [.ref p0, .ref 8] h11 (fun r17 h16 => match r17 with
                        | .inl v18 => ∃ x20 : Int32, v18 = some (.int x20) ∧ zbr (x20 = 0)
                          (zE d 72 [.ref p0, .ref 10] h16 (fun r22 h21 => match r22 with
                              | .inl v23 => ∃ x25 : Int32, v23 = some (.int x25) ∧ zbr (x25 = 0)
                                (zE d 74 [.ref p0, .int 1] h21 (fun r27 h26 => match r27 with
                                    | .inl v28 => ∃ x30 : Int32, v28 = some (.int x30) ∧ (x30 = 0 ∨ x30 = 1) ∧ Q (.inl (some (.int x30))) h26
                                    | .inr e29 => Q (.inr e29) h26))
                                (∃ a31 : Nat, zgf h21 p0 3 7 = some (.ref a31) ∧
                                  zE d 45 [.ref a31] h21 (fun r33 h32 => match r33 with
                                    | .inl v34 => ∃ a36 : Nat, v34 = some (.ref a36) ∧ zE d 81 [.ref p0, .ref a36, .int 0] h32 (fun r38 h37 => match r38 with
                                        | .inl v39 => ∃ x41 : Int32, v39 = some (.int x41) ∧ (x41 = 0 ∨ x41 = 1) ∧ Q (.inl (some (.int x41))) h37
                                        | .inr e40 => Q (.inr e40) h37)
                                    | .inr e35 => Q (.inr e35) h32))
                              | .inr e24 => Q (.inr e24) h21))
                          (∃ a42 : Nat, zgf h16 p0 3 7 = some (.ref a42) ∧
                            zE d 44 [.ref a42] h16 (fun r44 h43 => match r44 with
                              | .inl v45 => ∃ a47 : Nat, v45 = some (.ref a47) ∧ zE d 81 [.ref p0, .ref a47, .int 1] h43 (fun r49 h48 => match r49 with
                                  | .inl v50 => ∃ x52 : Int32, v50 = some (.int x52) ∧ (x52 = 0 ∨ x52 = 1) ∧ Q (.inl (some (.int x52))) h48
                                  | .inr e51 => Q (.inr e51) h48)
                              | .inr e46 => Q (.inr e46) h43))
                        | .inr e19 => Q (.inr e19) h16))
                    (zE d 80 [.ref p0] h11 (fun r54 h53 => match r54 with
                        | .inl v55 => ∃ x57 : Int32, v55 = some (.int x57) ∧ (x57 = 0 ∨ x57 = 1) ∧ Q (.inl (some (.int x57))) h53
                        | .inr e56 => Q (.inr e56) h53))
                  | .inr e14 => Q (.inr e14) h11))
              (zE d 77 [.ref p0, .int 1] h6 (fun r59 h58 => match r59 with
                  | .inl v60 => ∃ x62 : Int32, v60 = some (.int x62) ∧ (x62 = 0 ∨ x62 = 1) ∧ Q (.inl (some (.int x62))) h58
                  | .inr e61 => Q (.inr e61) h58))
            | .inr e9 => Q (.inr e9) h6))
        (zE d 77 [.ref p0, .int 0] h1 (fun r64 h63 => match r64 with
            | .inl v65 => ∃ x67 : Int32, v65 = some (.int x67) ∧ (x67 = 0 ∨ x67 = 1) ∧ Q (.inl (some (.int x67))) h63
            | .inr e66 => Q (.inr e66) h63))
      | .inr e4 => Q (.inr e4) h1)) : zW (zE d) zm_X3_line Q (0, [(0, .ref p0)], [], h) := by
  refine zq_aload (pc' := 1) rfl rfl rfl rfl ?_
  refine zq_rpush (pc' := 3) rfl rfl rfl ?_
  refine zq_calli (pc' := 6) rfl rfl rfl rfl rfl rfl (zE_mono H (fun r2 h1 H => ?_))
  rcases r2 with v3 | e4
  · obtain ⟨x5, e0, H⟩ := H
    refine Exists.intro x5 (And.intro e0 ?_)
    refine zq_ifeq (pc' := 9) rfl rfl rfl rfl (And.intro (fun c => ?_) (fun c => ?_))
    · have H := H.1 c
      refine zq_aload (pc' := 16) rfl rfl rfl rfl ?_
      refine zq_rpush (pc' := 18) rfl rfl rfl ?_
      refine zq_calli (pc' := 21) rfl rfl rfl rfl rfl rfl (zE_mono H (fun r7 h6 H => ?_))
      rcases r7 with v8 | e9
      · obtain ⟨x10, e0, H⟩ := H
        refine Exists.intro x10 (And.intro e0 ?_)
        refine zq_ifeq (pc' := 24) rfl rfl rfl rfl (And.intro (fun c => ?_) (fun c => ?_))
        · have H := H.1 c
          refine zq_aload (pc' := 31) rfl rfl rfl rfl ?_
          refine zq_rpush (pc' := 33) rfl rfl rfl ?_
          refine zq_calli (pc' := 36) rfl rfl rfl rfl rfl rfl (zE_mono H (fun r12 h11 H => ?_))
          rcases r12 with v13 | e14
          · obtain ⟨x15, e0, H⟩ := H
            refine Exists.intro x15 (And.intro e0 ?_)
            refine zq_ifeq (pc' := 39) rfl rfl rfl rfl (And.intro (fun c => ?_) (fun c => ?_))
            · have H := H.1 c
              refine zq_aload (pc' := 45) rfl rfl rfl rfl ?_
              refine zq_rpush (pc' := 47) rfl rfl rfl ?_
              refine zq_calli (pc' := 50) rfl rfl rfl rfl rfl rfl (zE_mono H (fun r17 h16 H => ?_))
              rcases r17 with v18 | e19
              · obtain ⟨x20, e0, H⟩ := H
                refine Exists.intro x20 (And.intro e0 ?_)
                refine zq_ifeq (pc' := 53) rfl rfl rfl rfl (And.intro (fun c => ?_) (fun c => ?_))
                · have H := H.1 c
                  refine zq_aload (pc' := 67) rfl rfl rfl rfl ?_
                  refine zq_rpush (pc' := 69) rfl rfl rfl ?_
                  refine zq_calli (pc' := 72) rfl rfl rfl rfl rfl rfl (zE_mono H (fun r22 h21 H => ?_))
                  rcases r22 with v23 | e24
                  · obtain ⟨x25, e0, H⟩ := H
                    refine Exists.intro x25 (And.intro e0 ?_)
                    refine zq_ifeq (pc' := 75) rfl rfl rfl rfl (And.intro (fun c => ?_) (fun c => ?_))
                    · have H := H.1 c
                      refine zq_aload (pc' := 89) rfl rfl rfl rfl ?_
                      refine zq_ipush (pc' := 90) rfl rfl rfl ?_
                      refine zq_calli (pc' := 93) rfl rfl rfl rfl rfl rfl (zE_mono H (fun r27 h26 H => ?_))
                      rcases r27 with v28 | e29
                      · obtain ⟨x30, e0, H⟩ := H
                        refine Exists.intro x30 (And.intro e0 ?_)
                        exact zq_iret rfl H.1 H.2
                      · exact H
                    · have H := H.2 c
                      refine zq_aload (pc' := 76) rfl rfl rfl rfl ?_
                      refine zq_aload (pc' := 77) rfl rfl rfl rfl ?_
                      obtain ⟨a31, e0, H⟩ := H
                      refine zq_getR (pc' := 80) rfl rfl rfl e0 ?_
                      refine zq_callr (pc' := 83) rfl rfl rfl rfl rfl rfl (zE_mono H (fun r33 h32 H => ?_))
                      rcases r33 with v34 | e35
                      · obtain ⟨a36, e0, H⟩ := H
                        refine Exists.intro a36 (And.intro e0 ?_)
                        refine zq_ipush (pc' := 84) rfl rfl rfl ?_
                        refine zq_calli (pc' := 87) rfl rfl rfl rfl rfl rfl (zE_mono H (fun r38 h37 H => ?_))
                        rcases r38 with v39 | e40
                        · obtain ⟨x41, e0, H⟩ := H
                          refine Exists.intro x41 (And.intro e0 ?_)
                          exact zq_iret rfl H.1 H.2
                        · exact H
                      · exact H
                  · exact H
                · have H := H.2 c
                  refine zq_aload (pc' := 54) rfl rfl rfl rfl ?_
                  refine zq_aload (pc' := 55) rfl rfl rfl rfl ?_
                  obtain ⟨a42, e0, H⟩ := H
                  refine zq_getR (pc' := 58) rfl rfl rfl e0 ?_
                  refine zq_callr (pc' := 61) rfl rfl rfl rfl rfl rfl (zE_mono H (fun r44 h43 H => ?_))
                  rcases r44 with v45 | e46
                  · obtain ⟨a47, e0, H⟩ := H
                    refine Exists.intro a47 (And.intro e0 ?_)
                    refine zq_ipush (pc' := 62) rfl rfl rfl ?_
                    refine zq_calli (pc' := 65) rfl rfl rfl rfl rfl rfl (zE_mono H (fun r49 h48 H => ?_))
                    rcases r49 with v50 | e51
                    · obtain ⟨x52, e0, H⟩ := H
                      refine Exists.intro x52 (And.intro e0 ?_)
                      exact zq_iret rfl H.1 H.2
                    · exact H
                  · exact H
              · exact H
            · have H := H.2 c
              refine zq_aload (pc' := 40) rfl rfl rfl rfl ?_
              refine zq_calli (pc' := 43) rfl rfl rfl rfl rfl rfl (zE_mono H (fun r54 h53 H => ?_))
              rcases r54 with v55 | e56
              · obtain ⟨x57, e0, H⟩ := H
                refine Exists.intro x57 (And.intro e0 ?_)
                exact zq_iret rfl H.1 H.2
              · exact H
          · exact H
        · have H := H.2 c
          refine zq_aload (pc' := 25) rfl rfl rfl rfl ?_
          refine zq_ipush (pc' := 26) rfl rfl rfl ?_
          refine zq_calli (pc' := 29) rfl rfl rfl rfl rfl rfl (zE_mono H (fun r59 h58 H => ?_))
          rcases r59 with v60 | e61
          · obtain ⟨x62, e0, H⟩ := H
            refine Exists.intro x62 (And.intro e0 ?_)
            exact zq_iret rfl H.1 H.2
          · exact H
      · exact H
    · have H := H.2 c
      refine zq_aload (pc' := 10) rfl rfl rfl rfl ?_
      refine zq_ipush (pc' := 11) rfl rfl rfl ?_
      refine zq_calli (pc' := 14) rfl rfl rfl rfl rfl rfl (zE_mono H (fun r64 h63 H => ?_))
      rcases r64 with v65 | e66
      · obtain ⟨x67, e0, H⟩ := H
        refine Exists.intro x67 (And.intro e0 ?_)
        exact zq_iret rfl H.1 H.2
      · exact H
  · exact H
theorem zr_X3_zipLine_0 {d : Nat} {Q : zR → zH → Prop} {p0 : Nat} {p1 : Int32} {h : zH} (H :
    ∃ a1 : Nat, zgf h p0 3 7 = some (.ref a1) ∧
    zE d 38 [.ref a1] h (fun r3 h2 => match r3 with
      | .inl v4 => ∃ x6 : Int32, v4 = some (.int x6) ∧ zbr (x6 = 0)
        (∃ a7 : Nat, zgf h2 p0 3 7 = some (.ref a7) ∧
          zE d 39 [.ref a7] h2 (fun r9 h8 => match r9 with
            | .inl v10 => ∃ a12 : Nat, v10 = some (.ref a12) ∧ zE d 107 [.ref a12, .int p1] h8 (fun r14 h13 => match r14 with
                | .inl v15 => v15 = none ∧ zE d 70 [.ref p0] h13 (fun r18 h17 => match r18 with
                    | .inl v19 => v19 = none ∧ zE d 78 [.ref p0, .ref a12] h17 (fun r22 h21 => match r22 with
                        | .inl v23 => ∃ x25 : Int32, v23 = some (.int x25) ∧ zbr (x25 = 0)
                          (Q (.inl (some (.int 0))) h21)
                          (zE d 79 [.ref p0, .ref a12] h21 (fun r27 h26 => match r27 with
                              | .inl v28 => ∃ x30 : Int32, v28 = some (.int x30) ∧ zbr (x30 = 0)
                                (Q (.inl (some (.int 0))) h26)
                                (zE d 75 [.ref p0, .int 59] h26 (fun r32 h31 => match r32 with
                                    | .inl v33 => ∃ x35 : Int32, v33 = some (.int x35) ∧ zbr (x35 = 0)
                                      (Q (.inl (some (.int 0))) h31)
                                      (∃ a36 : Nat, zgf h31 p0 3 7 = some (.ref a36) ∧
                                        zE d 40 [.ref a36] h31 (fun r38 h37 => match r38 with
                                          | .inl v39 => v39 = none ∧ Q (.inl (some (.int 1))) h37
                                          | .inr e40 => Q (.inr e40) h37))
                                    | .inr e34 => Q (.inr e34) h31))
                              | .inr e29 => Q (.inr e29) h26))
                        | .inr e24 => Q (.inr e24) h21)
                    | .inr e20 => Q (.inr e20) h17)
                | .inr e16 => Q (.inr e16) h13)
            | .inr e11 => Q (.inr e11) h8))
        (zE d 74 [.ref p0, .int 2] h2 (fun r42 h41 => match r42 with
            | .inl v43 => ∃ x45 : Int32, v43 = some (.int x45) ∧ (x45 = 0 ∨ x45 = 1) ∧ Q (.inl (some (.int x45))) h41
            | .inr e44 => Q (.inr e44) h41))
      | .inr e5 => Q (.inr e5) h2)) : zW (zE d) zm_X3_zipLine Q (0, [(0, .ref p0), (1, .int p1)], [], h) := by
  refine zq_aload (pc' := 1) rfl rfl rfl rfl ?_
  obtain ⟨a1, e0, H⟩ := H
  refine zq_getR (pc' := 4) rfl rfl rfl e0 ?_
  refine zq_calli (pc' := 7) rfl rfl rfl rfl rfl rfl (zE_mono H (fun r3 h2 H => ?_))
  rcases r3 with v4 | e5
  · obtain ⟨x6, e0, H⟩ := H
    refine Exists.intro x6 (And.intro e0 ?_)
    refine zq_ifeq (pc' := 10) rfl rfl rfl rfl (And.intro (fun c => ?_) (fun c => ?_))
    · have H := H.1 c
      refine zq_aload (pc' := 17) rfl rfl rfl rfl ?_
      obtain ⟨a7, e0, H⟩ := H
      refine zq_getR (pc' := 20) rfl rfl rfl e0 ?_
      refine zq_callr (pc' := 23) rfl rfl rfl rfl rfl rfl (zE_mono H (fun r9 h8 H => ?_))
      rcases r9 with v10 | e11
      · obtain ⟨a12, e0, H⟩ := H
        refine Exists.intro a12 (And.intro e0 ?_)
        refine zq_astore (pc' := 24) rfl rfl rfl ?_
        refine zq_aload (pc' := 25) rfl rfl rfl rfl ?_
        refine zq_iload (pc' := 26) rfl rfl rfl rfl ?_
        refine zq_callv (pc' := 29) rfl rfl rfl rfl rfl rfl (zE_mono H (fun r14 h13 H => ?_))
        rcases r14 with v15 | e16
        · obtain ⟨e0, H⟩ := H
          refine And.intro e0 ?_
          refine zq_aload (pc' := 30) rfl rfl rfl rfl ?_
          refine zq_callv (pc' := 33) rfl rfl rfl rfl rfl rfl (zE_mono H (fun r18 h17 H => ?_))
          rcases r18 with v19 | e20
          · obtain ⟨e0, H⟩ := H
            refine And.intro e0 ?_
            refine zq_aload (pc' := 34) rfl rfl rfl rfl ?_
            refine zq_aload (pc' := 35) rfl rfl rfl rfl ?_
            refine zq_calli (pc' := 38) rfl rfl rfl rfl rfl rfl (zE_mono H (fun r22 h21 H => ?_))
            rcases r22 with v23 | e24
            · obtain ⟨x25, e0, H⟩ := H
              refine Exists.intro x25 (And.intro e0 ?_)
              refine zq_ifeq (pc' := 41) rfl rfl rfl rfl (And.intro (fun c => ?_) (fun c => ?_))
              · have H := H.1 c
                refine zq_ipush (pc' := 59) rfl rfl rfl ?_
                exact zq_iret rfl (Or.inl rfl) H
              · have H := H.2 c
                refine zq_aload (pc' := 42) rfl rfl rfl rfl ?_
                refine zq_aload (pc' := 43) rfl rfl rfl rfl ?_
                refine zq_calli (pc' := 46) rfl rfl rfl rfl rfl rfl (zE_mono H (fun r27 h26 H => ?_))
                rcases r27 with v28 | e29
                · obtain ⟨x30, e0, H⟩ := H
                  refine Exists.intro x30 (And.intro e0 ?_)
                  refine zq_ifeq (pc' := 49) rfl rfl rfl rfl (And.intro (fun c => ?_) (fun c => ?_))
                  · have H := H.1 c
                    refine zq_ipush (pc' := 59) rfl rfl rfl ?_
                    exact zq_iret rfl (Or.inl rfl) H
                  · have H := H.2 c
                    refine zq_aload (pc' := 50) rfl rfl rfl rfl ?_
                    refine zq_ipush (pc' := 52) rfl rfl rfl ?_
                    refine zq_calli (pc' := 55) rfl rfl rfl rfl rfl rfl (zE_mono H (fun r32 h31 H => ?_))
                    rcases r32 with v33 | e34
                    · obtain ⟨x35, e0, H⟩ := H
                      refine Exists.intro x35 (And.intro e0 ?_)
                      refine zq_ifne (pc' := 58) rfl rfl rfl rfl (And.intro (fun c => ?_) (fun c => ?_))
                      · have H := H.1 c
                        refine zq_ipush (pc' := 59) rfl rfl rfl ?_
                        exact zq_iret rfl (Or.inl rfl) H
                      · have H := H.2 c
                        refine zq_aload (pc' := 61) rfl rfl rfl rfl ?_
                        obtain ⟨a36, e0, H⟩ := H
                        refine zq_getR (pc' := 64) rfl rfl rfl e0 ?_
                        refine zq_callv (pc' := 67) rfl rfl rfl rfl rfl rfl (zE_mono H (fun r38 h37 H => ?_))
                        rcases r38 with v39 | e40
                        · obtain ⟨e0, H⟩ := H
                          refine And.intro e0 ?_
                          refine zq_ipush (pc' := 68) rfl rfl rfl ?_
                          exact zq_iret rfl (Or.inr rfl) H
                        · exact H
                    · exact H
                · exact H
            · exact H
          · exact H
        · exact H
      · exact H
    · have H := H.2 c
      refine zq_aload (pc' := 11) rfl rfl rfl rfl ?_
      refine zq_ipush (pc' := 12) rfl rfl rfl ?_
      refine zq_calli (pc' := 15) rfl rfl rfl rfl rfl rfl (zE_mono H (fun r42 h41 H => ?_))
      rcases r42 with v43 | e44
      · obtain ⟨x45, e0, H⟩ := H
        refine Exists.intro x45 (And.intro e0 ?_)
        exact zq_iret rfl H.1 H.2
      · exact H
  · exact H
theorem zr_X3_leftTape_0 {d : Nat} {Q : zR → zH → Prop} {p0 : Nat} {p1 : Nat} {h : zH} (H :
    zW (zE d) zm_X3_leftTape Q (2, [(0, .ref p0), (1, .ref p1), (2, .int 0)], [], h)) : zW (zE d) zm_X3_leftTape Q (0, [(0, .ref p0), (1, .ref p1)], [], h) := by
  refine zq_ipush (pc' := 1) rfl rfl rfl ?_
  refine zq_istore_c (pc' := 2) rfl rfl ?_
  exact H
theorem zr_X3_leftTape_2 {d : Nat} {Q : zR → zH → Prop} {l0 : Nat} {l1 : Nat} {l2 : Int32} {h : zH} (H :
    zbr (16 < l2)
    (zE d 74 [.ref l0, .int 1] h (fun r2 h1 => match r2 with
        | .inl v3 => ∃ x5 : Int32, v3 = some (.int x5) ∧ (x5 = 0 ∨ x5 = 1) ∧ Q (.inl (some (.int x5))) h1
        | .inr e4 => Q (.inr e4) h1))
    (zbr (l2 ≤ 0)
      (zW (zE d) zm_X3_leftTape Q (32, [(0, .ref l0), (1, .ref l1), (2, .int l2)], [], h))
      (zE d 72 [.ref l0, .ref 12] h (fun r7 h6 => match r7 with
          | .inl v8 => ∃ x10 : Int32, v8 = some (.int x10) ∧ zbr (x10 = 0)
            (zW (zE d) zm_X3_leftTape Q (32, [(0, .ref l0), (1, .ref l1), (2, .int l2)], [], h6))
            (zE d 108 [.ref l1, .int l2] h6 (fun r12 h11 => match r12 with
                | .inl v13 => v13 = none ∧ zE d 70 [.ref l0] h11 (fun r16 h15 => match r16 with
                    | .inl v17 => v17 = none ∧ Q (.inl (some (.int 1))) h15
                    | .inr e18 => Q (.inr e18) h15)
                | .inr e14 => Q (.inr e14) h11))
          | .inr e9 => Q (.inr e9) h6)))) : zW (zE d) zm_X3_leftTape Q (2, [(0, .ref l0), (1, .ref l1), (2, .int l2)], [], h) := by
  refine zq_iload (pc' := 3) rfl rfl rfl rfl ?_
  refine zq_ipush (pc' := 5) rfl rfl rfl ?_
  refine zq_icgt (pc' := 8) rfl rfl rfl rfl (And.intro (fun c => ?_) (fun c => ?_))
  · have H := H.1 c
    refine zq_aload (pc' := 88) rfl rfl rfl rfl ?_
    refine zq_ipush (pc' := 89) rfl rfl rfl ?_
    refine zq_calli (pc' := 92) rfl rfl rfl rfl rfl rfl (zE_mono H (fun r2 h1 H => ?_))
    rcases r2 with v3 | e4
    · obtain ⟨x5, e0, H⟩ := H
      refine Exists.intro x5 (And.intro e0 ?_)
      exact zq_iret rfl H.1 H.2
    · exact H
  · have H := H.2 c
    refine zq_iload (pc' := 9) rfl rfl rfl rfl ?_
    refine zq_ifle_c (pc' := 12) (lt := [(0, .ref l0), (1, .ref l1), (2, .int l2)]) (lf := [(0, .ref l0), (1, .ref l1), (2, .int l2)]) rfl rfl rfl rfl (And.intro (fun c => ?_) (fun c => ?_))
    · have H := H.1 c
      exact H
    · have H := H.2 c
      refine zq_aload (pc' := 13) rfl rfl rfl rfl ?_
      refine zq_rpush (pc' := 15) rfl rfl rfl ?_
      refine zq_calli (pc' := 18) rfl rfl rfl rfl rfl rfl (zE_mono H (fun r7 h6 H => ?_))
      rcases r7 with v8 | e9
      · obtain ⟨x10, e0, H⟩ := H
        refine Exists.intro x10 (And.intro e0 ?_)
        refine zq_ifeq_c (pc' := 21) (lt := [(0, .ref l0), (1, .ref l1), (2, .int l2)]) (lf := [(0, .ref l0), (1, .ref l1), (2, .int l2)]) rfl rfl rfl rfl (And.intro (fun c => ?_) (fun c => ?_))
        · have H := H.1 c
          exact H
        · have H := H.2 c
          refine zq_aload (pc' := 22) rfl rfl rfl rfl ?_
          refine zq_iload (pc' := 23) rfl rfl rfl rfl ?_
          refine zq_callv (pc' := 26) rfl rfl rfl rfl rfl rfl (zE_mono H (fun r12 h11 H => ?_))
          rcases r12 with v13 | e14
          · obtain ⟨e0, H⟩ := H
            refine And.intro e0 ?_
            refine zq_aload (pc' := 27) rfl rfl rfl rfl ?_
            refine zq_callv (pc' := 30) rfl rfl rfl rfl rfl rfl (zE_mono H (fun r16 h15 H => ?_))
            rcases r16 with v17 | e18
            · obtain ⟨e0, H⟩ := H
              refine And.intro e0 ?_
              refine zq_ipush (pc' := 31) rfl rfl rfl ?_
              exact zq_iret rfl (Or.inr rfl) H
            · exact H
          · exact H
      · exact H
theorem zr_X3_leftTape_32 {d : Nat} {Q : zR → zH → Prop} {l0 : Nat} {l1 : Nat} {l2 : Int32} {h : zH} (H :
    ∃ x1 : Int32, zgf h l0 3 2 = some (.int x1) ∧
    zbr (x1 = 2)
    (zbr (l2 = 16)
      (zE d 74 [.ref l0, .int 2] h (fun r3 h2 => match r3 with
          | .inl v4 => ∃ x6 : Int32, v4 = some (.int x6) ∧ (x6 = 0 ∨ x6 = 1) ∧ Q (.inl (some (.int x6))) h2
          | .inr e5 => Q (.inr e5) h2))
      (∃ x7 : Int32, zgf h l0 3 5 = some (.int x7) ∧
        zbr (x7 ≤ 9)
        (∃ x8 : Int32, zgf h l0 3 5 = some (.int x8) ∧
          zE d 119 [.ref l1, .int 0, .int l2, .int x8] h (fun r10 h9 => match r10 with
            | .inl v11 => v11 = none ∧ zE d 70 [.ref l0] h9 (fun r14 h13 => match r14 with
                | .inl v15 => v15 = none ∧ zW (zE d) zm_X3_leftTape Q (2, [(0, .ref l0), (1, .ref l1), (2, .int (l2 + 1))], [], h13)
                | .inr e16 => Q (.inr e16) h13)
            | .inr e12 => Q (.inr e12) h9))
        (zE d 74 [.ref l0, .int 2] h (fun r18 h17 => match r18 with
            | .inl v19 => ∃ x21 : Int32, v19 = some (.int x21) ∧ (x21 = 0 ∨ x21 = 1) ∧ Q (.inl (some (.int x21))) h17
            | .inr e20 => Q (.inr e20) h17))))
    (zE d 74 [.ref l0, .int 1] h (fun r23 h22 => match r23 with
        | .inl v24 => ∃ x26 : Int32, v24 = some (.int x26) ∧ (x26 = 0 ∨ x26 = 1) ∧ Q (.inl (some (.int x26))) h22
        | .inr e25 => Q (.inr e25) h22))) : zW (zE d) zm_X3_leftTape Q (32, [(0, .ref l0), (1, .ref l1), (2, .int l2)], [], h) := by
  refine zq_aload (pc' := 33) rfl rfl rfl rfl ?_
  obtain ⟨x1, e0, H⟩ := H
  refine zq_getI (pc' := 36) rfl rfl rfl e0 ?_
  refine zq_ipush (pc' := 37) rfl rfl rfl ?_
  refine zq_iceq (pc' := 40) rfl rfl rfl rfl (And.intro (fun c => ?_) (fun c => ?_))
  · have H := H.1 c
    refine zq_iload (pc' := 47) rfl rfl rfl rfl ?_
    refine zq_ipush (pc' := 49) rfl rfl rfl ?_
    refine zq_iceq (pc' := 52) rfl rfl rfl rfl (And.intro (fun c => ?_) (fun c => ?_))
    · have H := H.1 c
      refine zq_aload (pc' := 62) rfl rfl rfl rfl ?_
      refine zq_ipush (pc' := 63) rfl rfl rfl ?_
      refine zq_calli (pc' := 66) rfl rfl rfl rfl rfl rfl (zE_mono H (fun r3 h2 H => ?_))
      rcases r3 with v4 | e5
      · obtain ⟨x6, e0, H⟩ := H
        refine Exists.intro x6 (And.intro e0 ?_)
        exact zq_iret rfl H.1 H.2
      · exact H
    · have H := H.2 c
      refine zq_aload (pc' := 53) rfl rfl rfl rfl ?_
      obtain ⟨x7, e0, H⟩ := H
      refine zq_getI (pc' := 56) rfl rfl rfl e0 ?_
      refine zq_ipush (pc' := 58) rfl rfl rfl ?_
      refine zq_icle (pc' := 61) rfl rfl rfl rfl (And.intro (fun c => ?_) (fun c => ?_))
      · have H := H.1 c
        refine zq_aload (pc' := 68) rfl rfl rfl rfl ?_
        refine zq_ipush (pc' := 69) rfl rfl rfl ?_
        refine zq_iload (pc' := 70) rfl rfl rfl rfl ?_
        refine zq_aload (pc' := 71) rfl rfl rfl rfl ?_
        obtain ⟨x8, e0, H⟩ := H
        refine zq_getI (pc' := 74) rfl rfl rfl e0 ?_
        refine zq_callv (pc' := 77) rfl rfl rfl rfl rfl rfl (zE_mono H (fun r10 h9 H => ?_))
        rcases r10 with v11 | e12
        · obtain ⟨e0, H⟩ := H
          refine And.intro e0 ?_
          refine zq_aload (pc' := 78) rfl rfl rfl rfl ?_
          refine zq_callv (pc' := 81) rfl rfl rfl rfl rfl rfl (zE_mono H (fun r14 h13 H => ?_))
          rcases r14 with v15 | e16
          · obtain ⟨e0, H⟩ := H
            refine And.intro e0 ?_
            refine zq_iinc (pc' := 84) rfl rfl rfl rfl ?_
            refine zq_goto_c (pc' := 2) rfl rfl ?_
            exact H
          · exact H
        · exact H
      · have H := H.2 c
        refine zq_aload (pc' := 62) rfl rfl rfl rfl ?_
        refine zq_ipush (pc' := 63) rfl rfl rfl ?_
        refine zq_calli (pc' := 66) rfl rfl rfl rfl rfl rfl (zE_mono H (fun r18 h17 H => ?_))
        rcases r18 with v19 | e20
        · obtain ⟨x21, e0, H⟩ := H
          refine Exists.intro x21 (And.intro e0 ?_)
          exact zq_iret rfl H.1 H.2
        · exact H
  · have H := H.2 c
    refine zq_aload (pc' := 41) rfl rfl rfl rfl ?_
    refine zq_ipush (pc' := 42) rfl rfl rfl ?_
    refine zq_calli (pc' := 45) rfl rfl rfl rfl rfl rfl (zE_mono H (fun r23 h22 H => ?_))
    rcases r23 with v24 | e25
    · obtain ⟨x26, e0, H⟩ := H
      refine Exists.intro x26 (And.intro e0 ?_)
      exact zq_iret rfl H.1 H.2
    · exact H
theorem zr_X3_rightTape_0 {d : Nat} {Q : zR → zH → Prop} {p0 : Nat} {p1 : Nat} {h : zH} (H :
    zW (zE d) zm_X3_rightTape Q (2, [(0, .ref p0), (1, .ref p1), (2, .int 0)], [], h)) : zW (zE d) zm_X3_rightTape Q (0, [(0, .ref p0), (1, .ref p1)], [], h) := by
  refine zq_ipush (pc' := 1) rfl rfl rfl ?_
  refine zq_istore_c (pc' := 2) rfl rfl ?_
  exact H
theorem zr_X3_rightTape_2 {d : Nat} {Q : zR → zH → Prop} {l0 : Nat} {l1 : Nat} {l2 : Int32} {h : zH} (H :
    zE d 112 [.ref l1] h (fun r2 h1 => match r2 with
      | .inl v3 => ∃ x5 : Int32, v3 = some (.int x5) ∧ zbr (x5 ≤ l2)
        (Q (.inl (some (.int 1))) h1)
        (∃ x6 : Int32, zgf h1 l0 3 2 = some (.int x6) ∧
          zbr (x6 = 2)
          (∃ x7 : Int32, zgf h1 l0 3 5 = some (.int x7) ∧
            zbr (x7 ≤ 9)
            (∃ x8 : Int32, zgf h1 l0 3 5 = some (.int x8) ∧
              zE d 119 [.ref l1, .int 1, .int l2, .int x8] h1 (fun r10 h9 => match r10 with
                | .inl v11 => v11 = none ∧ zE d 70 [.ref l0] h9 (fun r14 h13 => match r14 with
                    | .inl v15 => v15 = none ∧ zW (zE d) zm_X3_rightTape Q (2, [(0, .ref l0), (1, .ref l1), (2, .int (l2 + 1))], [], h13)
                    | .inr e16 => Q (.inr e16) h13)
                | .inr e12 => Q (.inr e12) h9))
            (zE d 74 [.ref l0, .int 2] h1 (fun r18 h17 => match r18 with
                | .inl v19 => ∃ x21 : Int32, v19 = some (.int x21) ∧ (x21 = 0 ∨ x21 = 1) ∧ Q (.inl (some (.int x21))) h17
                | .inr e20 => Q (.inr e20) h17)))
          (zE d 74 [.ref l0, .int 1] h1 (fun r23 h22 => match r23 with
              | .inl v24 => ∃ x26 : Int32, v24 = some (.int x26) ∧ (x26 = 0 ∨ x26 = 1) ∧ Q (.inl (some (.int x26))) h22
              | .inr e25 => Q (.inr e25) h22)))
      | .inr e4 => Q (.inr e4) h1)) : zW (zE d) zm_X3_rightTape Q (2, [(0, .ref l0), (1, .ref l1), (2, .int l2)], [], h) := by
  refine zq_iload (pc' := 3) rfl rfl rfl rfl ?_
  refine zq_aload (pc' := 4) rfl rfl rfl rfl ?_
  refine zq_calli (pc' := 7) rfl rfl rfl rfl rfl rfl (zE_mono H (fun r2 h1 H => ?_))
  rcases r2 with v3 | e4
  · obtain ⟨x5, e0, H⟩ := H
    refine Exists.intro x5 (And.intro e0 ?_)
    refine zq_icge (pc' := 10) rfl rfl rfl rfl (And.intro (fun c => ?_) (fun c => ?_))
    · have H := H.1 c
      refine zq_ipush (pc' := 60) rfl rfl rfl ?_
      exact zq_iret rfl (Or.inr rfl) H
    · have H := H.2 c
      refine zq_aload (pc' := 11) rfl rfl rfl rfl ?_
      obtain ⟨x6, e0, H⟩ := H
      refine zq_getI (pc' := 14) rfl rfl rfl e0 ?_
      refine zq_ipush (pc' := 15) rfl rfl rfl ?_
      refine zq_iceq (pc' := 18) rfl rfl rfl rfl (And.intro (fun c => ?_) (fun c => ?_))
      · have H := H.1 c
        refine zq_aload (pc' := 25) rfl rfl rfl rfl ?_
        obtain ⟨x7, e0, H⟩ := H
        refine zq_getI (pc' := 28) rfl rfl rfl e0 ?_
        refine zq_ipush (pc' := 30) rfl rfl rfl ?_
        refine zq_icle (pc' := 33) rfl rfl rfl rfl (And.intro (fun c => ?_) (fun c => ?_))
        · have H := H.1 c
          refine zq_aload (pc' := 40) rfl rfl rfl rfl ?_
          refine zq_ipush (pc' := 41) rfl rfl rfl ?_
          refine zq_iload (pc' := 42) rfl rfl rfl rfl ?_
          refine zq_aload (pc' := 43) rfl rfl rfl rfl ?_
          obtain ⟨x8, e0, H⟩ := H
          refine zq_getI (pc' := 46) rfl rfl rfl e0 ?_
          refine zq_callv (pc' := 49) rfl rfl rfl rfl rfl rfl (zE_mono H (fun r10 h9 H => ?_))
          rcases r10 with v11 | e12
          · obtain ⟨e0, H⟩ := H
            refine And.intro e0 ?_
            refine zq_aload (pc' := 50) rfl rfl rfl rfl ?_
            refine zq_callv (pc' := 53) rfl rfl rfl rfl rfl rfl (zE_mono H (fun r14 h13 H => ?_))
            rcases r14 with v15 | e16
            · obtain ⟨e0, H⟩ := H
              refine And.intro e0 ?_
              refine zq_iinc (pc' := 56) rfl rfl rfl rfl ?_
              refine zq_goto_c (pc' := 2) rfl rfl ?_
              exact H
            · exact H
          · exact H
        · have H := H.2 c
          refine zq_aload (pc' := 34) rfl rfl rfl rfl ?_
          refine zq_ipush (pc' := 35) rfl rfl rfl ?_
          refine zq_calli (pc' := 38) rfl rfl rfl rfl rfl rfl (zE_mono H (fun r18 h17 H => ?_))
          rcases r18 with v19 | e20
          · obtain ⟨x21, e0, H⟩ := H
            refine Exists.intro x21 (And.intro e0 ?_)
            exact zq_iret rfl H.1 H.2
          · exact H
      · have H := H.2 c
        refine zq_aload (pc' := 19) rfl rfl rfl rfl ?_
        refine zq_ipush (pc' := 20) rfl rfl rfl ?_
        refine zq_calli (pc' := 23) rfl rfl rfl rfl rfl rfl (zE_mono H (fun r23 h22 H => ?_))
        rcases r23 with v24 | e25
        · obtain ⟨x26, e0, H⟩ := H
          refine Exists.intro x26 (And.intro e0 ?_)
          exact zq_iret rfl H.1 H.2
        · exact H
  · exact H
theorem zr_X3_strainLine_0 {d : Nat} {Q : zR → zH → Prop} {p0 : Nat} {h : zH} (H :
    ∃ a1 : Nat, zgf h p0 3 7 = some (.ref a1) ∧
    zE d 51 [.ref a1] h (fun r3 h2 => match r3 with
      | .inl v4 => ∃ x6 : Int32, v4 = some (.int x6) ∧ zbr (x6 ≤ 0)
        (zE d 70 [.ref p0] h2 (fun r8 h7 => match r8 with
            | .inl v9 => v9 = none ∧ zW (zE d) zm_X3_strainLine Q (22, [(0, .ref p0), (1, .int 0)], [], h7)
            | .inr e10 => Q (.inr e10) h7))
        (zE d 74 [.ref p0, .int 5] h2 (fun r12 h11 => match r12 with
            | .inl v13 => ∃ x15 : Int32, v13 = some (.int x15) ∧ (x15 = 0 ∨ x15 = 1) ∧ Q (.inl (some (.int x15))) h11
            | .inr e14 => Q (.inr e14) h11))
      | .inr e5 => Q (.inr e5) h2)) : zW (zE d) zm_X3_strainLine Q (0, [(0, .ref p0)], [], h) := by
  refine zq_aload (pc' := 1) rfl rfl rfl rfl ?_
  obtain ⟨a1, e0, H⟩ := H
  refine zq_getR (pc' := 4) rfl rfl rfl e0 ?_
  refine zq_calli (pc' := 7) rfl rfl rfl rfl rfl rfl (zE_mono H (fun r3 h2 H => ?_))
  rcases r3 with v4 | e5
  · obtain ⟨x6, e0, H⟩ := H
    refine Exists.intro x6 (And.intro e0 ?_)
    refine zq_ifle (pc' := 10) rfl rfl rfl rfl (And.intro (fun c => ?_) (fun c => ?_))
    · have H := H.1 c
      refine zq_aload (pc' := 17) rfl rfl rfl rfl ?_
      refine zq_callv (pc' := 20) rfl rfl rfl rfl rfl rfl (zE_mono H (fun r8 h7 H => ?_))
      rcases r8 with v9 | e10
      · obtain ⟨e0, H⟩ := H
        refine And.intro e0 ?_
        refine zq_ipush (pc' := 21) rfl rfl rfl ?_
        refine zq_istore_c (pc' := 22) rfl rfl ?_
        exact H
      · exact H
    · have H := H.2 c
      refine zq_aload (pc' := 11) rfl rfl rfl rfl ?_
      refine zq_ipush (pc' := 12) rfl rfl rfl ?_
      refine zq_calli (pc' := 15) rfl rfl rfl rfl rfl rfl (zE_mono H (fun r12 h11 H => ?_))
      rcases r12 with v13 | e14
      · obtain ⟨x15, e0, H⟩ := H
        refine Exists.intro x15 (And.intro e0 ?_)
        exact zq_iret rfl H.1 H.2
      · exact H
  · exact H
theorem zr_X3_strainLine_22 {d : Nat} {Q : zR → zH → Prop} {l0 : Nat} {l1 : Int32} {h : zH} (H :
    zbr (8 < l1)
    (zE d 74 [.ref l0, .int 1] h (fun r2 h1 => match r2 with
        | .inl v3 => ∃ x5 : Int32, v3 = some (.int x5) ∧ (x5 = 0 ∨ x5 = 1) ∧ Q (.inl (some (.int x5))) h1
        | .inr e4 => Q (.inr e4) h1))
    (zbr (l1 ≤ 0)
      (zW (zE d) zm_X3_strainLine Q (47, [(0, .ref l0), (1, .int l1)], [], h))
      (zE d 73 [.ref l0, .int 59] h (fun r7 h6 => match r7 with
          | .inl v8 => ∃ x10 : Int32, v8 = some (.int x10) ∧ zbr (x10 = 0)
            (zW (zE d) zm_X3_strainLine Q (47, [(0, .ref l0), (1, .int l1)], [], h6))
            (zE d 70 [.ref l0] h6 (fun r12 h11 => match r12 with
                | .inl v13 => v13 = none ∧ Q (.inl (some (.int 1))) h11
                | .inr e14 => Q (.inr e14) h11))
          | .inr e9 => Q (.inr e9) h6)))) : zW (zE d) zm_X3_strainLine Q (22, [(0, .ref l0), (1, .int l1)], [], h) := by
  refine zq_iload (pc' := 23) rfl rfl rfl rfl ?_
  refine zq_ipush (pc' := 25) rfl rfl rfl ?_
  refine zq_icgt (pc' := 28) rfl rfl rfl rfl (And.intro (fun c => ?_) (fun c => ?_))
  · have H := H.1 c
    refine zq_aload (pc' := 101) rfl rfl rfl rfl ?_
    refine zq_ipush (pc' := 102) rfl rfl rfl ?_
    refine zq_calli (pc' := 105) rfl rfl rfl rfl rfl rfl (zE_mono H (fun r2 h1 H => ?_))
    rcases r2 with v3 | e4
    · obtain ⟨x5, e0, H⟩ := H
      refine Exists.intro x5 (And.intro e0 ?_)
      exact zq_iret rfl H.1 H.2
    · exact H
  · have H := H.2 c
    refine zq_iload (pc' := 29) rfl rfl rfl rfl ?_
    refine zq_ifle_c (pc' := 32) (lt := [(0, .ref l0), (1, .int l1)]) (lf := [(0, .ref l0), (1, .int l1)]) rfl rfl rfl rfl (And.intro (fun c => ?_) (fun c => ?_))
    · have H := H.1 c
      exact H
    · have H := H.2 c
      refine zq_aload (pc' := 33) rfl rfl rfl rfl ?_
      refine zq_ipush (pc' := 35) rfl rfl rfl ?_
      refine zq_calli (pc' := 38) rfl rfl rfl rfl rfl rfl (zE_mono H (fun r7 h6 H => ?_))
      rcases r7 with v8 | e9
      · obtain ⟨x10, e0, H⟩ := H
        refine Exists.intro x10 (And.intro e0 ?_)
        refine zq_ifeq_c (pc' := 41) (lt := [(0, .ref l0), (1, .int l1)]) (lf := [(0, .ref l0), (1, .int l1)]) rfl rfl rfl rfl (And.intro (fun c => ?_) (fun c => ?_))
        · have H := H.1 c
          exact H
        · have H := H.2 c
          refine zq_aload (pc' := 42) rfl rfl rfl rfl ?_
          refine zq_callv (pc' := 45) rfl rfl rfl rfl rfl rfl (zE_mono H (fun r12 h11 H => ?_))
          rcases r12 with v13 | e14
          · obtain ⟨e0, H⟩ := H
            refine And.intro e0 ?_
            refine zq_ipush (pc' := 46) rfl rfl rfl ?_
            exact zq_iret rfl (Or.inr rfl) H
          · exact H
      · exact H
theorem zr_X3_strainLine_47 {d : Nat} {Q : zR → zH → Prop} {l0 : Nat} {l1 : Int32} {h : zH} (H :
    ∃ x1 : Int32, zgf h l0 3 2 = some (.int x1) ∧
    zbr (x1 = 2)
    (∃ x2 : Int32, zgf h l0 3 5 = some (.int x2) ∧
      zbr (9 < x2)
      (zE d 74 [.ref l0, .int 2] h (fun r4 h3 => match r4 with
          | .inl v5 => ∃ x7 : Int32, v5 = some (.int x7) ∧ (x7 = 0 ∨ x7 = 1) ∧ Q (.inl (some (.int x7))) h3
          | .inr e6 => Q (.inr e6) h3))
      (∃ a8 : Nat, zgf h l0 3 7 = some (.ref a8) ∧
        ∃ x9 : Int32, zgf h l0 3 5 = some (.int x9) ∧
        zE d 41 [.ref a8, .int x9] h (fun r11 h10 => match r11 with
          | .inl v12 => ∃ x14 : Int32, v12 = some (.int x14) ∧ zbr (x14 = 0)
            (zE d 74 [.ref l0, .int 2] h10 (fun r16 h15 => match r16 with
                | .inl v17 => ∃ x19 : Int32, v17 = some (.int x19) ∧ (x19 = 0 ∨ x19 = 1) ∧ Q (.inl (some (.int x19))) h15
                | .inr e18 => Q (.inr e18) h15))
            (zE d 70 [.ref l0] h10 (fun r21 h20 => match r21 with
                | .inl v22 => v22 = none ∧ zW (zE d) zm_X3_strainLine Q (22, [(0, .ref l0), (1, .int (l1 + 1))], [], h20)
                | .inr e23 => Q (.inr e23) h20))
          | .inr e13 => Q (.inr e13) h10)))
    (zE d 74 [.ref l0, .int 1] h (fun r25 h24 => match r25 with
        | .inl v26 => ∃ x28 : Int32, v26 = some (.int x28) ∧ (x28 = 0 ∨ x28 = 1) ∧ Q (.inl (some (.int x28))) h24
        | .inr e27 => Q (.inr e27) h24))) : zW (zE d) zm_X3_strainLine Q (47, [(0, .ref l0), (1, .int l1)], [], h) := by
  refine zq_aload (pc' := 48) rfl rfl rfl rfl ?_
  obtain ⟨x1, e0, H⟩ := H
  refine zq_getI (pc' := 51) rfl rfl rfl e0 ?_
  refine zq_ipush (pc' := 52) rfl rfl rfl ?_
  refine zq_iceq (pc' := 55) rfl rfl rfl rfl (And.intro (fun c => ?_) (fun c => ?_))
  · have H := H.1 c
    refine zq_aload (pc' := 62) rfl rfl rfl rfl ?_
    obtain ⟨x2, e0, H⟩ := H
    refine zq_getI (pc' := 65) rfl rfl rfl e0 ?_
    refine zq_ipush (pc' := 67) rfl rfl rfl ?_
    refine zq_icgt (pc' := 70) rfl rfl rfl rfl (And.intro (fun c => ?_) (fun c => ?_))
    · have H := H.1 c
      refine zq_aload (pc' := 85) rfl rfl rfl rfl ?_
      refine zq_ipush (pc' := 86) rfl rfl rfl ?_
      refine zq_calli (pc' := 89) rfl rfl rfl rfl rfl rfl (zE_mono H (fun r4 h3 H => ?_))
      rcases r4 with v5 | e6
      · obtain ⟨x7, e0, H⟩ := H
        refine Exists.intro x7 (And.intro e0 ?_)
        exact zq_iret rfl H.1 H.2
      · exact H
    · have H := H.2 c
      refine zq_aload (pc' := 71) rfl rfl rfl rfl ?_
      obtain ⟨a8, e0, H⟩ := H
      refine zq_getR (pc' := 74) rfl rfl rfl e0 ?_
      refine zq_aload (pc' := 75) rfl rfl rfl rfl ?_
      obtain ⟨x9, e0, H⟩ := H
      refine zq_getI (pc' := 78) rfl rfl rfl e0 ?_
      refine zq_calli (pc' := 81) rfl rfl rfl rfl rfl rfl (zE_mono H (fun r11 h10 H => ?_))
      rcases r11 with v12 | e13
      · obtain ⟨x14, e0, H⟩ := H
        refine Exists.intro x14 (And.intro e0 ?_)
        refine zq_ifne (pc' := 84) rfl rfl rfl rfl (And.intro (fun c => ?_) (fun c => ?_))
        · have H := H.1 c
          refine zq_aload (pc' := 85) rfl rfl rfl rfl ?_
          refine zq_ipush (pc' := 86) rfl rfl rfl ?_
          refine zq_calli (pc' := 89) rfl rfl rfl rfl rfl rfl (zE_mono H (fun r16 h15 H => ?_))
          rcases r16 with v17 | e18
          · obtain ⟨x19, e0, H⟩ := H
            refine Exists.intro x19 (And.intro e0 ?_)
            exact zq_iret rfl H.1 H.2
          · exact H
        · have H := H.2 c
          refine zq_aload (pc' := 91) rfl rfl rfl rfl ?_
          refine zq_callv (pc' := 94) rfl rfl rfl rfl rfl rfl (zE_mono H (fun r21 h20 H => ?_))
          rcases r21 with v22 | e23
          · obtain ⟨e0, H⟩ := H
            refine And.intro e0 ?_
            refine zq_iinc (pc' := 97) rfl rfl rfl rfl ?_
            refine zq_goto_c (pc' := 22) rfl rfl ?_
            exact H
          · exact H
      · exact H
  · have H := H.2 c
    refine zq_aload (pc' := 56) rfl rfl rfl rfl ?_
    refine zq_ipush (pc' := 57) rfl rfl rfl ?_
    refine zq_calli (pc' := 60) rfl rfl rfl rfl rfl rfl (zE_mono H (fun r25 h24 H => ?_))
    rcases r25 with v26 | e27
    · obtain ⟨x28, e0, H⟩ := H
      refine Exists.intro x28 (And.intro e0 ?_)
      exact zq_iret rfl H.1 H.2
    · exact H
theorem zr_X3_ruleLine_0 {d : Nat} {Q : zR → zH → Prop} {p0 : Nat} {p1 : Nat} {p2 : Int32} {h : zH} (H :
    zE d 93 [.ref p1] h (fun r2 h1 => match r2 with
      | .inl v3 => ∃ x5 : Int32, v3 = some (.int x5) ∧ zbr (x5 = 0)
        ((p2 = 0 ∨ p2 = 1) ∧ ∃ h6, zpf h1 p0 3 8 (.int p2) = some h6 ∧
          zE d 70 [.ref p0] h6 (fun r8 h7 => match r8 with
            | .inl v9 => v9 = none ∧ ∃ a11 : Nat, zgf h7 p0 3 7 = some (.ref a11) ∧
              zE d 43 [.ref a11] h7 (fun r13 h12 => match r13 with
                | .inl v14 => ∃ x16 : Int32, v14 = some (.int x16) ∧ zE d 82 [.ref p0, .int 0] h12 (fun r18 h17 => match r18 with
                    | .inl v19 => ∃ x21 : Int32, v19 = some (.int x21) ∧ zbr (x21 = 0)
                      (Q (.inl (some (.int 0))) h17)
                      (zE d 75 [.ref p0, .int 59] h17 (fun r23 h22 => match r23 with
                          | .inl v24 => ∃ x26 : Int32, v24 = some (.int x26) ∧ zbr (x26 = 0)
                            (Q (.inl (some (.int 0))) h22)
                            (∃ a27 : Nat, zgf h22 p0 3 7 = some (.ref a27) ∧
                              zE d 43 [.ref a27] h22 (fun r29 h28 => match r29 with
                                | .inl v30 => ∃ x32 : Int32, v30 = some (.int x32) ∧ zE d 94 [.ref p1, .int x16, .int x32] h28 (fun r34 h33 => match r34 with
                                    | .inl v35 => v35 = none ∧ Q (.inl (some (.int 1))) h33
                                    | .inr e36 => Q (.inr e36) h33)
                                | .inr e31 => Q (.inr e31) h28))
                          | .inr e25 => Q (.inr e25) h22))
                    | .inr e20 => Q (.inr e20) h17)
                | .inr e15 => Q (.inr e15) h12)
            | .inr e10 => Q (.inr e10) h7))
        (zE d 74 [.ref p0, .int 5] h1 (fun r38 h37 => match r38 with
            | .inl v39 => ∃ x41 : Int32, v39 = some (.int x41) ∧ (x41 = 0 ∨ x41 = 1) ∧ Q (.inl (some (.int x41))) h37
            | .inr e40 => Q (.inr e40) h37))
      | .inr e4 => Q (.inr e4) h1)) : zW (zE d) zm_X3_ruleLine Q (0, [(0, .ref p0), (1, .ref p1), (2, .int p2)], [], h) := by
  refine zq_aload (pc' := 1) rfl rfl rfl rfl ?_
  refine zq_calli (pc' := 4) rfl rfl rfl rfl rfl rfl (zE_mono H (fun r2 h1 H => ?_))
  rcases r2 with v3 | e4
  · obtain ⟨x5, e0, H⟩ := H
    refine Exists.intro x5 (And.intro e0 ?_)
    refine zq_ifeq (pc' := 7) rfl rfl rfl rfl (And.intro (fun c => ?_) (fun c => ?_))
    · have H := H.1 c
      refine zq_aload (pc' := 14) rfl rfl rfl rfl ?_
      refine zq_iload (pc' := 15) rfl rfl rfl rfl ?_
      obtain ⟨e1, H⟩ := H
      obtain ⟨h6, e0, H⟩ := H
      refine zq_put (pc' := 18) rfl rfl rfl e1 e0 ?_
      refine zq_aload (pc' := 19) rfl rfl rfl rfl ?_
      refine zq_callv (pc' := 22) rfl rfl rfl rfl rfl rfl (zE_mono H (fun r8 h7 H => ?_))
      rcases r8 with v9 | e10
      · obtain ⟨e0, H⟩ := H
        refine And.intro e0 ?_
        refine zq_aload (pc' := 23) rfl rfl rfl rfl ?_
        obtain ⟨a11, e0, H⟩ := H
        refine zq_getR (pc' := 26) rfl rfl rfl e0 ?_
        refine zq_calli (pc' := 29) rfl rfl rfl rfl rfl rfl (zE_mono H (fun r13 h12 H => ?_))
        rcases r13 with v14 | e15
        · obtain ⟨x16, e0, H⟩ := H
          refine Exists.intro x16 (And.intro e0 ?_)
          refine zq_istore (pc' := 30) rfl rfl rfl ?_
          refine zq_aload (pc' := 31) rfl rfl rfl rfl ?_
          refine zq_ipush (pc' := 32) rfl rfl rfl ?_
          refine zq_calli (pc' := 35) rfl rfl rfl rfl rfl rfl (zE_mono H (fun r18 h17 H => ?_))
          rcases r18 with v19 | e20
          · obtain ⟨x21, e0, H⟩ := H
            refine Exists.intro x21 (And.intro e0 ?_)
            refine zq_ifeq (pc' := 38) rfl rfl rfl rfl (And.intro (fun c => ?_) (fun c => ?_))
            · have H := H.1 c
              refine zq_ipush (pc' := 48) rfl rfl rfl ?_
              exact zq_iret rfl (Or.inl rfl) H
            · have H := H.2 c
              refine zq_aload (pc' := 39) rfl rfl rfl rfl ?_
              refine zq_ipush (pc' := 41) rfl rfl rfl ?_
              refine zq_calli (pc' := 44) rfl rfl rfl rfl rfl rfl (zE_mono H (fun r23 h22 H => ?_))
              rcases r23 with v24 | e25
              · obtain ⟨x26, e0, H⟩ := H
                refine Exists.intro x26 (And.intro e0 ?_)
                refine zq_ifne (pc' := 47) rfl rfl rfl rfl (And.intro (fun c => ?_) (fun c => ?_))
                · have H := H.1 c
                  refine zq_ipush (pc' := 48) rfl rfl rfl ?_
                  exact zq_iret rfl (Or.inl rfl) H
                · have H := H.2 c
                  refine zq_aload (pc' := 50) rfl rfl rfl rfl ?_
                  refine zq_iload (pc' := 51) rfl rfl rfl rfl ?_
                  refine zq_aload (pc' := 52) rfl rfl rfl rfl ?_
                  obtain ⟨a27, e0, H⟩ := H
                  refine zq_getR (pc' := 55) rfl rfl rfl e0 ?_
                  refine zq_calli (pc' := 58) rfl rfl rfl rfl rfl rfl (zE_mono H (fun r29 h28 H => ?_))
                  rcases r29 with v30 | e31
                  · obtain ⟨x32, e0, H⟩ := H
                    refine Exists.intro x32 (And.intro e0 ?_)
                    refine zq_callv (pc' := 61) rfl rfl rfl rfl rfl rfl (zE_mono H (fun r34 h33 H => ?_))
                    rcases r34 with v35 | e36
                    · obtain ⟨e0, H⟩ := H
                      refine And.intro e0 ?_
                      refine zq_ipush (pc' := 62) rfl rfl rfl ?_
                      exact zq_iret rfl (Or.inr rfl) H
                    · exact H
                  · exact H
              · exact H
          · exact H
        · exact H
      · exact H
    · have H := H.2 c
      refine zq_aload (pc' := 8) rfl rfl rfl rfl ?_
      refine zq_ipush (pc' := 9) rfl rfl rfl ?_
      refine zq_calli (pc' := 12) rfl rfl rfl rfl rfl rfl (zE_mono H (fun r38 h37 H => ?_))
      rcases r38 with v39 | e40
      · obtain ⟨x41, e0, H⟩ := H
        refine Exists.intro x41 (And.intro e0 ?_)
        exact zq_iret rfl H.1 H.2
      · exact H
  · exact H
theorem zr_X3_anyOf_0 {d : Nat} {Q : zR → zH → Prop} {p0 : Nat} {p1 : Int32} {h : zH} (H :
    zbr (p1 < 6)
    (zE d 84 [.ref p0, .int p1] h (fun r2 h1 => match r2 with
        | .inl v3 => ∃ x5 : Int32, v3 = some (.int x5) ∧ zbr (x5 = 0)
          (Q (.inl (some (.int 0))) h1)
          (zW (zE d) zm_X3_anyOf Q (35, [(0, .ref p0), (1, .int p1), (2, .int 0)], [], h1))
        | .inr e4 => Q (.inr e4) h1))
    (zE d 83 [.ref p0] h (fun r7 h6 => match r7 with
        | .inl v8 => ∃ x10 : Int32, v8 = some (.int x10) ∧ zbr (x10 = 0)
          (zE d 74 [.ref p0, .int 1] h6 (fun r12 h11 => match r12 with
              | .inl v13 => ∃ x15 : Int32, v13 = some (.int x15) ∧ (x15 = 0 ∨ x15 = 1) ∧ Q (.inl (some (.int x15))) h11
              | .inr e14 => Q (.inr e14) h11))
          (zE d 74 [.ref p0, .int 2] h6 (fun r17 h16 => match r17 with
              | .inl v18 => ∃ x20 : Int32, v18 = some (.int x20) ∧ (x20 = 0 ∨ x20 = 1) ∧ Q (.inl (some (.int x20))) h16
              | .inr e19 => Q (.inr e19) h16))
        | .inr e9 => Q (.inr e9) h6))) : zW (zE d) zm_X3_anyOf Q (0, [(0, .ref p0), (1, .int p1)], [], h) := by
  refine zq_iload (pc' := 1) rfl rfl rfl rfl ?_
  refine zq_ipush (pc' := 3) rfl rfl rfl ?_
  refine zq_iclt (pc' := 6) rfl rfl rfl rfl (And.intro (fun c => ?_) (fun c => ?_))
  · have H := H.1 c
    refine zq_aload (pc' := 24) rfl rfl rfl rfl ?_
    refine zq_iload (pc' := 25) rfl rfl rfl rfl ?_
    refine zq_calli (pc' := 28) rfl rfl rfl rfl rfl rfl (zE_mono H (fun r2 h1 H => ?_))
    rcases r2 with v3 | e4
    · obtain ⟨x5, e0, H⟩ := H
      refine Exists.intro x5 (And.intro e0 ?_)
      refine zq_ifne (pc' := 31) rfl rfl rfl rfl (And.intro (fun c => ?_) (fun c => ?_))
      · have H := H.1 c
        refine zq_ipush (pc' := 32) rfl rfl rfl ?_
        exact zq_iret rfl (Or.inl rfl) H
      · have H := H.2 c
        refine zq_ipush (pc' := 34) rfl rfl rfl ?_
        refine zq_istore_c (pc' := 35) rfl rfl ?_
        exact H
    · exact H
  · have H := H.2 c
    refine zq_aload (pc' := 7) rfl rfl rfl rfl ?_
    refine zq_aload (pc' := 8) rfl rfl rfl rfl ?_
    refine zq_calli (pc' := 11) rfl rfl rfl rfl rfl rfl (zE_mono H (fun r7 h6 H => ?_))
    rcases r7 with v8 | e9
    · obtain ⟨x10, e0, H⟩ := H
      refine Exists.intro x10 (And.intro e0 ?_)
      refine zq_ifeq (pc' := 14) rfl rfl rfl rfl (And.intro (fun c => ?_) (fun c => ?_))
      · have H := H.1 c
        refine zq_ipush (pc' := 19) rfl rfl rfl ?_
        refine zq_calli (pc' := 22) rfl rfl rfl rfl rfl rfl (zE_mono H (fun r12 h11 H => ?_))
        rcases r12 with v13 | e14
        · obtain ⟨x15, e0, H⟩ := H
          refine Exists.intro x15 (And.intro e0 ?_)
          exact zq_iret rfl H.1 H.2
        · exact H
      · have H := H.2 c
        refine zq_ipush (pc' := 15) rfl rfl rfl ?_
        refine zq_goto (pc' := 19) rfl rfl rfl ?_
        refine zq_calli (pc' := 22) rfl rfl rfl rfl rfl rfl (zE_mono H (fun r17 h16 H => ?_))
        rcases r17 with v18 | e19
        · obtain ⟨x20, e0, H⟩ := H
          refine Exists.intro x20 (And.intro e0 ?_)
          exact zq_iret rfl H.1 H.2
        · exact H
    · exact H
theorem zr_X3_anyOf_35 {d : Nat} {Q : zR → zH → Prop} {l0 : Nat} {l1 : Int32} {l2 : Int32} {h : zH} (H :
    zbr (700 ≤ l2)
    (Q (.inl (some (.int 1))) h)
    (zE d 72 [.ref l0, .ref 14] h (fun r2 h1 => match r2 with
        | .inl v3 => ∃ x5 : Int32, v3 = some (.int x5) ∧ zbr (x5 = 0)
          (Q (.inl (some (.int 1))) h1)
          (zE d 70 [.ref l0] h1 (fun r7 h6 => match r7 with
              | .inl v8 => v8 = none ∧ zE d 84 [.ref l0, .int l1] h6 (fun r11 h10 => match r11 with
                  | .inl v12 => ∃ x14 : Int32, v12 = some (.int x14) ∧ zbr (x14 = 0)
                    (Q (.inl (some (.int 0))) h10)
                    (∃ a15 : Nat, zgf h10 l0 3 7 = some (.ref a15) ∧
                      zE d 42 [.ref a15, .int (-7)] h10 (fun r17 h16 => match r17 with
                        | .inl v18 => v18 = none ∧ zW (zE d) zm_X3_anyOf Q (35, [(0, .ref l0), (1, .int l1), (2, .int (l2 + 1))], [], h16)
                        | .inr e19 => Q (.inr e19) h16))
                  | .inr e13 => Q (.inr e13) h10)
              | .inr e9 => Q (.inr e9) h6))
        | .inr e4 => Q (.inr e4) h1))) : zW (zE d) zm_X3_anyOf Q (35, [(0, .ref l0), (1, .int l1), (2, .int l2)], [], h) := by
  refine zq_iload (pc' := 36) rfl rfl rfl rfl ?_
  refine zq_ipush (pc' := 39) rfl rfl rfl ?_
  refine zq_icge (pc' := 42) rfl rfl rfl rfl (And.intro (fun c => ?_) (fun c => ?_))
  · have H := H.1 c
    refine zq_ipush (pc' := 81) rfl rfl rfl ?_
    exact zq_iret rfl (Or.inr rfl) H
  · have H := H.2 c
    refine zq_aload (pc' := 43) rfl rfl rfl rfl ?_
    refine zq_rpush (pc' := 45) rfl rfl rfl ?_
    refine zq_calli (pc' := 48) rfl rfl rfl rfl rfl rfl (zE_mono H (fun r2 h1 H => ?_))
    rcases r2 with v3 | e4
    · obtain ⟨x5, e0, H⟩ := H
      refine Exists.intro x5 (And.intro e0 ?_)
      refine zq_ifeq (pc' := 51) rfl rfl rfl rfl (And.intro (fun c => ?_) (fun c => ?_))
      · have H := H.1 c
        refine zq_ipush (pc' := 81) rfl rfl rfl ?_
        exact zq_iret rfl (Or.inr rfl) H
      · have H := H.2 c
        refine zq_aload (pc' := 52) rfl rfl rfl rfl ?_
        refine zq_callv (pc' := 55) rfl rfl rfl rfl rfl rfl (zE_mono H (fun r7 h6 H => ?_))
        rcases r7 with v8 | e9
        · obtain ⟨e0, H⟩ := H
          refine And.intro e0 ?_
          refine zq_aload (pc' := 56) rfl rfl rfl rfl ?_
          refine zq_iload (pc' := 57) rfl rfl rfl rfl ?_
          refine zq_calli (pc' := 60) rfl rfl rfl rfl rfl rfl (zE_mono H (fun r11 h10 H => ?_))
          rcases r11 with v12 | e13
          · obtain ⟨x14, e0, H⟩ := H
            refine Exists.intro x14 (And.intro e0 ?_)
            refine zq_ifne (pc' := 63) rfl rfl rfl rfl (And.intro (fun c => ?_) (fun c => ?_))
            · have H := H.1 c
              refine zq_ipush (pc' := 64) rfl rfl rfl ?_
              exact zq_iret rfl (Or.inl rfl) H
            · have H := H.2 c
              refine zq_aload (pc' := 66) rfl rfl rfl rfl ?_
              obtain ⟨a15, e0, H⟩ := H
              refine zq_getR (pc' := 69) rfl rfl rfl e0 ?_
              refine zq_ipushn (pc' := 71) rfl rfl rfl ?_
              refine zq_callv (pc' := 74) rfl rfl rfl rfl rfl rfl (zE_mono H (fun r17 h16 H => ?_))
              rcases r17 with v18 | e19
              · obtain ⟨e0, H⟩ := H
                refine And.intro e0 ?_
                refine zq_iinc (pc' := 77) rfl rfl rfl rfl ?_
                refine zq_goto_c (pc' := 35) rfl rfl ?_
                exact H
              · exact H
          · exact H
        · exact H
    · exact H
theorem zr_X3_mayBegin_0 {d : Nat} {Q : zR → zH → Prop} {p0 : Nat} {h : zH} (H :
    ∃ x1 : Int32, zgf h p0 3 2 = some (.int x1) ∧
    zbr (x1 = 2)
    (Q (.inl (some (.int 1))) h)
    (∃ x2 : Int32, zgf h p0 3 2 = some (.int x2) ∧
      zbr (x2 = 1)
      (Q (.inl (some (.int 1))) h)
      (zE d 73 [.ref p0, .int 40] h (fun r4 h3 => match r4 with
          | .inl v5 => ∃ x7 : Int32, v5 = some (.int x7) ∧ zbr (x7 = 0)
            (Q (.inl (some (.int 0))) h3)
            (Q (.inl (some (.int 1))) h3)
          | .inr e6 => Q (.inr e6) h3)))) : zW (zE d) zm_X3_mayBegin Q (0, [(0, .ref p0)], [], h) := by
  refine zq_aload (pc' := 1) rfl rfl rfl rfl ?_
  obtain ⟨x1, e0, H⟩ := H
  refine zq_getI (pc' := 4) rfl rfl rfl e0 ?_
  refine zq_ipush (pc' := 5) rfl rfl rfl ?_
  refine zq_iceq (pc' := 8) rfl rfl rfl rfl (And.intro (fun c => ?_) (fun c => ?_))
  · have H := H.1 c
    refine zq_ipush (pc' := 26) rfl rfl rfl ?_
    refine zq_goto (pc' := 30) rfl rfl rfl ?_
    exact zq_iret rfl (Or.inr rfl) H
  · have H := H.2 c
    refine zq_aload (pc' := 9) rfl rfl rfl rfl ?_
    obtain ⟨x2, e0, H⟩ := H
    refine zq_getI (pc' := 12) rfl rfl rfl e0 ?_
    refine zq_ipush (pc' := 13) rfl rfl rfl ?_
    refine zq_iceq (pc' := 16) rfl rfl rfl rfl (And.intro (fun c => ?_) (fun c => ?_))
    · have H := H.1 c
      refine zq_ipush (pc' := 26) rfl rfl rfl ?_
      refine zq_goto (pc' := 30) rfl rfl rfl ?_
      exact zq_iret rfl (Or.inr rfl) H
    · have H := H.2 c
      refine zq_aload (pc' := 17) rfl rfl rfl rfl ?_
      refine zq_ipush (pc' := 19) rfl rfl rfl ?_
      refine zq_calli (pc' := 22) rfl rfl rfl rfl rfl rfl (zE_mono H (fun r4 h3 H => ?_))
      rcases r4 with v5 | e6
      · obtain ⟨x7, e0, H⟩ := H
        refine Exists.intro x7 (And.intro e0 ?_)
        refine zq_ifeq (pc' := 25) rfl rfl rfl rfl (And.intro (fun c => ?_) (fun c => ?_))
        · have H := H.1 c
          refine zq_ipush (pc' := 30) rfl rfl rfl ?_
          exact zq_iret rfl (Or.inl rfl) H
        · have H := H.2 c
          refine zq_ipush (pc' := 26) rfl rfl rfl ?_
          refine zq_goto (pc' := 30) rfl rfl rfl ?_
          exact zq_iret rfl (Or.inr rfl) H
      · exact H
theorem zr_X3_allOf_0 {d : Nat} {Q : zR → zH → Prop} {p0 : Nat} {p1 : Int32} {h : zH} (H :
    zE d 85 [.ref p0, .int p1] h (fun r2 h1 => match r2 with
      | .inl v3 => ∃ x5 : Int32, v3 = some (.int x5) ∧ zbr (x5 = 0)
        (Q (.inl (some (.int 0))) h1)
        (zW (zE d) zm_X3_allOf Q (12, [(0, .ref p0), (1, .int p1), (2, .int 0)], [], h1))
      | .inr e4 => Q (.inr e4) h1)) : zW (zE d) zm_X3_allOf Q (0, [(0, .ref p0), (1, .int p1)], [], h) := by
  refine zq_aload (pc' := 1) rfl rfl rfl rfl ?_
  refine zq_iload (pc' := 2) rfl rfl rfl rfl ?_
  refine zq_calli (pc' := 5) rfl rfl rfl rfl rfl rfl (zE_mono H (fun r2 h1 H => ?_))
  rcases r2 with v3 | e4
  · obtain ⟨x5, e0, H⟩ := H
    refine Exists.intro x5 (And.intro e0 ?_)
    refine zq_ifne (pc' := 8) rfl rfl rfl rfl (And.intro (fun c => ?_) (fun c => ?_))
    · have H := H.1 c
      refine zq_ipush (pc' := 9) rfl rfl rfl ?_
      exact zq_iret rfl (Or.inl rfl) H
    · have H := H.2 c
      refine zq_ipush (pc' := 11) rfl rfl rfl ?_
      refine zq_istore_c (pc' := 12) rfl rfl ?_
      exact H
  · exact H
theorem zr_X3_allOf_12 {d : Nat} {Q : zR → zH → Prop} {l0 : Nat} {l1 : Int32} {l2 : Int32} {h : zH} (H :
    zbr (700 ≤ l2)
    (Q (.inl (some (.int 1))) h)
    (zE d 72 [.ref l0, .ref 16] h (fun r2 h1 => match r2 with
        | .inl v3 => ∃ x5 : Int32, v3 = some (.int x5) ∧ zbr (x5 = 0)
          (Q (.inl (some (.int 1))) h1)
          (zE d 70 [.ref l0] h1 (fun r7 h6 => match r7 with
              | .inl v8 => v8 = none ∧ zE d 85 [.ref l0, .int l1] h6 (fun r11 h10 => match r11 with
                  | .inl v12 => ∃ x14 : Int32, v12 = some (.int x14) ∧ zbr (x14 = 0)
                    (Q (.inl (some (.int 0))) h10)
                    (∃ a15 : Nat, zgf h10 l0 3 7 = some (.ref a15) ∧
                      zE d 42 [.ref a15, .int (-8)] h10 (fun r17 h16 => match r17 with
                        | .inl v18 => v18 = none ∧ zW (zE d) zm_X3_allOf Q (12, [(0, .ref l0), (1, .int l1), (2, .int (l2 + 1))], [], h16)
                        | .inr e19 => Q (.inr e19) h16))
                  | .inr e13 => Q (.inr e13) h10)
              | .inr e9 => Q (.inr e9) h6))
        | .inr e4 => Q (.inr e4) h1))) : zW (zE d) zm_X3_allOf Q (12, [(0, .ref l0), (1, .int l1), (2, .int l2)], [], h) := by
  refine zq_iload (pc' := 13) rfl rfl rfl rfl ?_
  refine zq_ipush (pc' := 16) rfl rfl rfl ?_
  refine zq_icge (pc' := 19) rfl rfl rfl rfl (And.intro (fun c => ?_) (fun c => ?_))
  · have H := H.1 c
    refine zq_ipush (pc' := 58) rfl rfl rfl ?_
    exact zq_iret rfl (Or.inr rfl) H
  · have H := H.2 c
    refine zq_aload (pc' := 20) rfl rfl rfl rfl ?_
    refine zq_rpush (pc' := 22) rfl rfl rfl ?_
    refine zq_calli (pc' := 25) rfl rfl rfl rfl rfl rfl (zE_mono H (fun r2 h1 H => ?_))
    rcases r2 with v3 | e4
    · obtain ⟨x5, e0, H⟩ := H
      refine Exists.intro x5 (And.intro e0 ?_)
      refine zq_ifeq (pc' := 28) rfl rfl rfl rfl (And.intro (fun c => ?_) (fun c => ?_))
      · have H := H.1 c
        refine zq_ipush (pc' := 58) rfl rfl rfl ?_
        exact zq_iret rfl (Or.inr rfl) H
      · have H := H.2 c
        refine zq_aload (pc' := 29) rfl rfl rfl rfl ?_
        refine zq_callv (pc' := 32) rfl rfl rfl rfl rfl rfl (zE_mono H (fun r7 h6 H => ?_))
        rcases r7 with v8 | e9
        · obtain ⟨e0, H⟩ := H
          refine And.intro e0 ?_
          refine zq_aload (pc' := 33) rfl rfl rfl rfl ?_
          refine zq_iload (pc' := 34) rfl rfl rfl rfl ?_
          refine zq_calli (pc' := 37) rfl rfl rfl rfl rfl rfl (zE_mono H (fun r11 h10 H => ?_))
          rcases r11 with v12 | e13
          · obtain ⟨x14, e0, H⟩ := H
            refine Exists.intro x14 (And.intro e0 ?_)
            refine zq_ifne (pc' := 40) rfl rfl rfl rfl (And.intro (fun c => ?_) (fun c => ?_))
            · have H := H.1 c
              refine zq_ipush (pc' := 41) rfl rfl rfl ?_
              exact zq_iret rfl (Or.inl rfl) H
            · have H := H.2 c
              refine zq_aload (pc' := 43) rfl rfl rfl rfl ?_
              obtain ⟨a15, e0, H⟩ := H
              refine zq_getR (pc' := 46) rfl rfl rfl e0 ?_
              refine zq_ipushn (pc' := 48) rfl rfl rfl ?_
              refine zq_callv (pc' := 51) rfl rfl rfl rfl rfl rfl (zE_mono H (fun r17 h16 H => ?_))
              rcases r17 with v18 | e19
              · obtain ⟨e0, H⟩ := H
                refine And.intro e0 ?_
                refine zq_iinc (pc' := 54) rfl rfl rfl rfl ?_
                refine zq_goto_c (pc' := 12) rfl rfl ?_
                exact H
              · exact H
          · exact H
        · exact H
    · exact H
theorem zr_X3_negation_0 {d : Nat} {Q : zR → zH → Prop} {p0 : Nat} {p1 : Int32} {h : zH} (H :
    zW (zE d) zm_X3_negation Q (2, [(0, .ref p0), (1, .int p1), (2, .int 0)], [], h)) : zW (zE d) zm_X3_negation Q (0, [(0, .ref p0), (1, .int p1)], [], h) := by
  refine zq_ipush (pc' := 1) rfl rfl rfl ?_
  refine zq_istore_c (pc' := 2) rfl rfl ?_
  exact H
theorem zr_X3_negation_2 {d : Nat} {Q : zR → zH → Prop} {l0 : Nat} {l1 : Int32} {l2 : Int32} {h : zH} (H :
    zbr (6 ≤ l2)
    (zW (zE d) zm_X3_negation Q (27, [(0, .ref l0), (1, .int l1), (2, .int l2)], [], h))
    (zE d 72 [.ref l0, .ref 18] h (fun r2 h1 => match r2 with
        | .inl v3 => ∃ x5 : Int32, v3 = some (.int x5) ∧ zbr (x5 = 0)
          (zW (zE d) zm_X3_negation Q (27, [(0, .ref l0), (1, .int l1), (2, .int l2)], [], h1))
          (zE d 70 [.ref l0] h1 (fun r7 h6 => match r7 with
              | .inl v8 => v8 = none ∧ zW (zE d) zm_X3_negation Q (2, [(0, .ref l0), (1, .int l1), (2, .int (l2 + 1))], [], h6)
              | .inr e9 => Q (.inr e9) h6))
        | .inr e4 => Q (.inr e4) h1))) : zW (zE d) zm_X3_negation Q (2, [(0, .ref l0), (1, .int l1), (2, .int l2)], [], h) := by
  refine zq_iload (pc' := 3) rfl rfl rfl rfl ?_
  refine zq_ipush (pc' := 5) rfl rfl rfl ?_
  refine zq_icge_c (pc' := 8) (lt := [(0, .ref l0), (1, .int l1), (2, .int l2)]) (lf := [(0, .ref l0), (1, .int l1), (2, .int l2)]) rfl rfl rfl rfl (And.intro (fun c => ?_) (fun c => ?_))
  · have H := H.1 c
    exact H
  · have H := H.2 c
    refine zq_aload (pc' := 9) rfl rfl rfl rfl ?_
    refine zq_rpush (pc' := 11) rfl rfl rfl ?_
    refine zq_calli (pc' := 14) rfl rfl rfl rfl rfl rfl (zE_mono H (fun r2 h1 H => ?_))
    rcases r2 with v3 | e4
    · obtain ⟨x5, e0, H⟩ := H
      refine Exists.intro x5 (And.intro e0 ?_)
      refine zq_ifeq_c (pc' := 17) (lt := [(0, .ref l0), (1, .int l1), (2, .int l2)]) (lf := [(0, .ref l0), (1, .int l1), (2, .int l2)]) rfl rfl rfl rfl (And.intro (fun c => ?_) (fun c => ?_))
      · have H := H.1 c
        exact H
      · have H := H.2 c
        refine zq_iinc (pc' := 20) rfl rfl rfl rfl ?_
        refine zq_aload (pc' := 21) rfl rfl rfl rfl ?_
        refine zq_callv (pc' := 24) rfl rfl rfl rfl rfl rfl (zE_mono H (fun r7 h6 H => ?_))
        rcases r7 with v8 | e9
        · obtain ⟨e0, H⟩ := H
          refine And.intro e0 ?_
          refine zq_goto_c (pc' := 2) rfl rfl ?_
          exact H
        · exact H
    · exact H
theorem zr_X3_negation_27 {d : Nat} {Q : zR → zH → Prop} {l0 : Nat} {l1 : Int32} {l2 : Int32} {h : zH} (H :
    zE d 72 [.ref l0, .ref 18] h (fun r2 h1 => match r2 with
      | .inl v3 => ∃ x5 : Int32, v3 = some (.int x5) ∧ zbr (x5 = 0)
        (zE d 86 [.ref l0, .int l1] h1 (fun r7 h6 => match r7 with
            | .inl v8 => ∃ x10 : Int32, v8 = some (.int x10) ∧ zbr (x10 = 0)
              (Q (.inl (some (.int 0))) h6)
              (zW (zE d) zm_X3_negation Q (54, [(0, .ref l0), (2, .int l2), (3, .int 0)], [], h6))
            | .inr e9 => Q (.inr e9) h6))
        (zE d 74 [.ref l0, .int 2] h1 (fun r12 h11 => match r12 with
            | .inl v13 => ∃ x15 : Int32, v13 = some (.int x15) ∧ (x15 = 0 ∨ x15 = 1) ∧ Q (.inl (some (.int x15))) h11
            | .inr e14 => Q (.inr e14) h11))
      | .inr e4 => Q (.inr e4) h1)) : zW (zE d) zm_X3_negation Q (27, [(0, .ref l0), (1, .int l1), (2, .int l2)], [], h) := by
  refine zq_aload (pc' := 28) rfl rfl rfl rfl ?_
  refine zq_rpush (pc' := 30) rfl rfl rfl ?_
  refine zq_calli (pc' := 33) rfl rfl rfl rfl rfl rfl (zE_mono H (fun r2 h1 H => ?_))
  rcases r2 with v3 | e4
  · obtain ⟨x5, e0, H⟩ := H
    refine Exists.intro x5 (And.intro e0 ?_)
    refine zq_ifeq (pc' := 36) rfl rfl rfl rfl (And.intro (fun c => ?_) (fun c => ?_))
    · have H := H.1 c
      refine zq_aload (pc' := 43) rfl rfl rfl rfl ?_
      refine zq_iload (pc' := 44) rfl rfl rfl rfl ?_
      refine zq_calli (pc' := 47) rfl rfl rfl rfl rfl rfl (zE_mono H (fun r7 h6 H => ?_))
      rcases r7 with v8 | e9
      · obtain ⟨x10, e0, H⟩ := H
        refine Exists.intro x10 (And.intro e0 ?_)
        refine zq_ifne (pc' := 50) rfl rfl rfl rfl (And.intro (fun c => ?_) (fun c => ?_))
        · have H := H.1 c
          refine zq_ipush (pc' := 51) rfl rfl rfl ?_
          exact zq_iret rfl (Or.inl rfl) H
        · have H := H.2 c
          refine zq_ipush (pc' := 53) rfl rfl rfl ?_
          refine zq_istore_c (pc' := 54) rfl rfl ?_
          exact H
      · exact H
    · have H := H.2 c
      refine zq_aload (pc' := 37) rfl rfl rfl rfl ?_
      refine zq_ipush (pc' := 38) rfl rfl rfl ?_
      refine zq_calli (pc' := 41) rfl rfl rfl rfl rfl rfl (zE_mono H (fun r12 h11 H => ?_))
      rcases r12 with v13 | e14
      · obtain ⟨x15, e0, H⟩ := H
        refine Exists.intro x15 (And.intro e0 ?_)
        exact zq_iret rfl H.1 H.2
      · exact H
  · exact H
theorem zr_X3_negation_54 {d : Nat} {Q : zR → zH → Prop} {l0 : Nat} {l2 : Int32} {l3 : Int32} {h : zH} (H :
    zbr (l2 ≤ l3)
    (Q (.inl (some (.int 1))) h)
    (∃ a1 : Nat, zgf h l0 3 7 = some (.ref a1) ∧
      zE d 42 [.ref a1, .int (-6)] h (fun r3 h2 => match r3 with
        | .inl v4 => v4 = none ∧ zW (zE d) zm_X3_negation Q (54, [(0, .ref l0), (2, .int l2), (3, .int (l3 + 1))], [], h2)
        | .inr e5 => Q (.inr e5) h2))) : zW (zE d) zm_X3_negation Q (54, [(0, .ref l0), (2, .int l2), (3, .int l3)], [], h) := by
  refine zq_iload (pc' := 55) rfl rfl rfl rfl ?_
  refine zq_iload (pc' := 56) rfl rfl rfl rfl ?_
  refine zq_icge (pc' := 59) rfl rfl rfl rfl (And.intro (fun c => ?_) (fun c => ?_))
  · have H := H.1 c
    refine zq_ipush (pc' := 75) rfl rfl rfl ?_
    exact zq_iret rfl (Or.inr rfl) H
  · have H := H.2 c
    refine zq_aload (pc' := 60) rfl rfl rfl rfl ?_
    obtain ⟨a1, e0, H⟩ := H
    refine zq_getR (pc' := 63) rfl rfl rfl e0 ?_
    refine zq_ipushn (pc' := 65) rfl rfl rfl ?_
    refine zq_callv (pc' := 68) rfl rfl rfl rfl rfl rfl (zE_mono H (fun r3 h2 H => ?_))
    rcases r3 with v4 | e5
    · obtain ⟨e0, H⟩ := H
      refine And.intro e0 ?_
      refine zq_iinc (pc' := 71) rfl rfl rfl rfl ?_
      refine zq_goto_c (pc' := 54) rfl rfl ?_
      exact H
    · exact H
theorem zr_X3_comparison_0 {d : Nat} {Q : zR → zH → Prop} {p0 : Nat} {p1 : Int32} {h : zH} (H :
    zE d 87 [.ref p0, .int p1] h (fun r2 h1 => match r2 with
      | .inl v3 => ∃ x5 : Int32, v3 = some (.int x5) ∧ zbr (x5 = 0)
        (Q (.inl (some (.int 0))) h1)
        (zE d 73 [.ref p0, .int 60] h1 (fun r7 h6 => match r7 with
            | .inl v8 => ∃ x10 : Int32, v8 = some (.int x10) ∧ zbr (x10 = 0)
              (zE d 73 [.ref p0, .int 61] h6 (fun r12 h11 => match r12 with
                  | .inl v13 => ∃ x15 : Int32, v13 = some (.int x15) ∧ zbr (x15 = 0)
                    (Q (.inl (some (.int 1))) h11)
                    (zW (zE d) zm_X3_comparison Q (30, [(0, .ref p0), (1, .int p1)], [], h11))
                  | .inr e14 => Q (.inr e14) h11))
              (zW (zE d) zm_X3_comparison Q (30, [(0, .ref p0), (1, .int p1)], [], h6))
            | .inr e9 => Q (.inr e9) h6))
      | .inr e4 => Q (.inr e4) h1)) : zW (zE d) zm_X3_comparison Q (0, [(0, .ref p0), (1, .int p1)], [], h) := by
  refine zq_aload (pc' := 1) rfl rfl rfl rfl ?_
  refine zq_iload (pc' := 2) rfl rfl rfl rfl ?_
  refine zq_calli (pc' := 5) rfl rfl rfl rfl rfl rfl (zE_mono H (fun r2 h1 H => ?_))
  rcases r2 with v3 | e4
  · obtain ⟨x5, e0, H⟩ := H
    refine Exists.intro x5 (And.intro e0 ?_)
    refine zq_ifne (pc' := 8) rfl rfl rfl rfl (And.intro (fun c => ?_) (fun c => ?_))
    · have H := H.1 c
      refine zq_ipush (pc' := 9) rfl rfl rfl ?_
      exact zq_iret rfl (Or.inl rfl) H
    · have H := H.2 c
      refine zq_aload (pc' := 11) rfl rfl rfl rfl ?_
      refine zq_ipush (pc' := 13) rfl rfl rfl ?_
      refine zq_calli (pc' := 16) rfl rfl rfl rfl rfl rfl (zE_mono H (fun r7 h6 H => ?_))
      rcases r7 with v8 | e9
      · obtain ⟨x10, e0, H⟩ := H
        refine Exists.intro x10 (And.intro e0 ?_)
        refine zq_ifne_c (pc' := 19) (lt := [(0, .ref p0), (1, .int p1)]) (lf := [(0, .ref p0), (1, .int p1)]) rfl rfl rfl rfl (And.intro (fun c => ?_) (fun c => ?_))
        · have H := H.1 c
          refine zq_aload (pc' := 20) rfl rfl rfl rfl ?_
          refine zq_ipush (pc' := 22) rfl rfl rfl ?_
          refine zq_calli (pc' := 25) rfl rfl rfl rfl rfl rfl (zE_mono H (fun r12 h11 H => ?_))
          rcases r12 with v13 | e14
          · obtain ⟨x15, e0, H⟩ := H
            refine Exists.intro x15 (And.intro e0 ?_)
            refine zq_ifne_c (pc' := 28) (lt := [(0, .ref p0), (1, .int p1)]) (lf := [(0, .ref p0), (1, .int p1)]) rfl rfl rfl rfl (And.intro (fun c => ?_) (fun c => ?_))
            · have H := H.1 c
              refine zq_ipush (pc' := 29) rfl rfl rfl ?_
              exact zq_iret rfl (Or.inr rfl) H
            · have H := H.2 c
              exact H
          · exact H
        · have H := H.2 c
          exact H
      · exact H
  · exact H
theorem zr_X3_comparison_30 {d : Nat} {Q : zR → zH → Prop} {l0 : Nat} {l1 : Int32} {h : zH} (H :
    zE d 73 [.ref l0, .int 60] h (fun r2 h1 => match r2 with
      | .inl v3 => ∃ x5 : Int32, v3 = some (.int x5) ∧ zbr (x5 = 0)
        (zE d 70 [.ref l0] h1 (fun r7 h6 => match r7 with
            | .inl v8 => v8 = none ∧ zE d 87 [.ref l0, .int l1] h6 (fun r11 h10 => match r11 with
                | .inl v12 => ∃ x14 : Int32, v12 = some (.int x14) ∧ zbr (x14 = 0)
                  (Q (.inl (some (.int 0))) h10)
                  (∃ a15 : Nat, zgf h10 l0 3 7 = some (.ref a15) ∧
                    zE d 42 [.ref a15, .int (-10)] h10 (fun r17 h16 => match r17 with
                      | .inl v18 => v18 = none ∧ Q (.inl (some (.int 1))) h16
                      | .inr e19 => Q (.inr e19) h16))
                | .inr e13 => Q (.inr e13) h10)
            | .inr e9 => Q (.inr e9) h6))
        (zE d 70 [.ref l0] h1 (fun r21 h20 => match r21 with
            | .inl v22 => v22 = none ∧ zE d 87 [.ref l0, .int l1] h20 (fun r25 h24 => match r25 with
                | .inl v26 => ∃ x28 : Int32, v26 = some (.int x28) ∧ zbr (x28 = 0)
                  (Q (.inl (some (.int 0))) h24)
                  (∃ a29 : Nat, zgf h24 l0 3 7 = some (.ref a29) ∧
                    zE d 42 [.ref a29, .int (-9)] h24 (fun r31 h30 => match r31 with
                      | .inl v32 => v32 = none ∧ Q (.inl (some (.int 1))) h30
                      | .inr e33 => Q (.inr e33) h30))
                | .inr e27 => Q (.inr e27) h24)
            | .inr e23 => Q (.inr e23) h20))
      | .inr e4 => Q (.inr e4) h1)) : zW (zE d) zm_X3_comparison Q (30, [(0, .ref l0), (1, .int l1)], [], h) := by
  refine zq_aload (pc' := 31) rfl rfl rfl rfl ?_
  refine zq_ipush (pc' := 33) rfl rfl rfl ?_
  refine zq_calli (pc' := 36) rfl rfl rfl rfl rfl rfl (zE_mono H (fun r2 h1 H => ?_))
  rcases r2 with v3 | e4
  · obtain ⟨x5, e0, H⟩ := H
    refine Exists.intro x5 (And.intro e0 ?_)
    refine zq_ifeq (pc' := 39) rfl rfl rfl rfl (And.intro (fun c => ?_) (fun c => ?_))
    · have H := H.1 c
      refine zq_ipushn (pc' := 46) rfl rfl rfl ?_
      refine zq_istore (pc' := 47) rfl rfl rfl ?_
      refine zq_aload (pc' := 48) rfl rfl rfl rfl ?_
      refine zq_callv (pc' := 51) rfl rfl rfl rfl rfl rfl (zE_mono H (fun r7 h6 H => ?_))
      rcases r7 with v8 | e9
      · obtain ⟨e0, H⟩ := H
        refine And.intro e0 ?_
        refine zq_aload (pc' := 52) rfl rfl rfl rfl ?_
        refine zq_iload (pc' := 53) rfl rfl rfl rfl ?_
        refine zq_calli (pc' := 56) rfl rfl rfl rfl rfl rfl (zE_mono H (fun r11 h10 H => ?_))
        rcases r11 with v12 | e13
        · obtain ⟨x14, e0, H⟩ := H
          refine Exists.intro x14 (And.intro e0 ?_)
          refine zq_ifne (pc' := 59) rfl rfl rfl rfl (And.intro (fun c => ?_) (fun c => ?_))
          · have H := H.1 c
            refine zq_ipush (pc' := 60) rfl rfl rfl ?_
            exact zq_iret rfl (Or.inl rfl) H
          · have H := H.2 c
            refine zq_aload (pc' := 62) rfl rfl rfl rfl ?_
            obtain ⟨a15, e0, H⟩ := H
            refine zq_getR (pc' := 65) rfl rfl rfl e0 ?_
            refine zq_iload (pc' := 66) rfl rfl rfl rfl ?_
            refine zq_callv (pc' := 69) rfl rfl rfl rfl rfl rfl (zE_mono H (fun r17 h16 H => ?_))
            rcases r17 with v18 | e19
            · obtain ⟨e0, H⟩ := H
              refine And.intro e0 ?_
              refine zq_ipush (pc' := 70) rfl rfl rfl ?_
              exact zq_iret rfl (Or.inr rfl) H
            · exact H
        · exact H
      · exact H
    · have H := H.2 c
      refine zq_ipushn (pc' := 41) rfl rfl rfl ?_
      refine zq_goto (pc' := 46) rfl rfl rfl ?_
      refine zq_istore (pc' := 47) rfl rfl rfl ?_
      refine zq_aload (pc' := 48) rfl rfl rfl rfl ?_
      refine zq_callv (pc' := 51) rfl rfl rfl rfl rfl rfl (zE_mono H (fun r21 h20 H => ?_))
      rcases r21 with v22 | e23
      · obtain ⟨e0, H⟩ := H
        refine And.intro e0 ?_
        refine zq_aload (pc' := 52) rfl rfl rfl rfl ?_
        refine zq_iload (pc' := 53) rfl rfl rfl rfl ?_
        refine zq_calli (pc' := 56) rfl rfl rfl rfl rfl rfl (zE_mono H (fun r25 h24 H => ?_))
        rcases r25 with v26 | e27
        · obtain ⟨x28, e0, H⟩ := H
          refine Exists.intro x28 (And.intro e0 ?_)
          refine zq_ifne (pc' := 59) rfl rfl rfl rfl (And.intro (fun c => ?_) (fun c => ?_))
          · have H := H.1 c
            refine zq_ipush (pc' := 60) rfl rfl rfl ?_
            exact zq_iret rfl (Or.inl rfl) H
          · have H := H.2 c
            refine zq_aload (pc' := 62) rfl rfl rfl rfl ?_
            obtain ⟨a29, e0, H⟩ := H
            refine zq_getR (pc' := 65) rfl rfl rfl e0 ?_
            refine zq_iload (pc' := 66) rfl rfl rfl rfl ?_
            refine zq_callv (pc' := 69) rfl rfl rfl rfl rfl rfl (zE_mono H (fun r31 h30 H => ?_))
            rcases r31 with v32 | e33
            · obtain ⟨e0, H⟩ := H
              refine And.intro e0 ?_
              refine zq_ipush (pc' := 70) rfl rfl rfl ?_
              exact zq_iret rfl (Or.inr rfl) H
            · exact H
        · exact H
      · exact H
  · exact H
theorem zr_X3_sum_0 {d : Nat} {Q : zR → zH → Prop} {p0 : Nat} {p1 : Int32} {h : zH} (H :
    zE d 88 [.ref p0, .int p1] h (fun r2 h1 => match r2 with
      | .inl v3 => ∃ x5 : Int32, v3 = some (.int x5) ∧ zbr (x5 = 0)
        (Q (.inl (some (.int 0))) h1)
        (zW (zE d) zm_X3_sum Q (12, [(0, .ref p0), (1, .int p1), (2, .int 0)], [], h1))
      | .inr e4 => Q (.inr e4) h1)) : zW (zE d) zm_X3_sum Q (0, [(0, .ref p0), (1, .int p1)], [], h) := by
  refine zq_aload (pc' := 1) rfl rfl rfl rfl ?_
  refine zq_iload (pc' := 2) rfl rfl rfl rfl ?_
  refine zq_calli (pc' := 5) rfl rfl rfl rfl rfl rfl (zE_mono H (fun r2 h1 H => ?_))
  rcases r2 with v3 | e4
  · obtain ⟨x5, e0, H⟩ := H
    refine Exists.intro x5 (And.intro e0 ?_)
    refine zq_ifne (pc' := 8) rfl rfl rfl rfl (And.intro (fun c => ?_) (fun c => ?_))
    · have H := H.1 c
      refine zq_ipush (pc' := 9) rfl rfl rfl ?_
      exact zq_iret rfl (Or.inl rfl) H
    · have H := H.2 c
      refine zq_ipush (pc' := 11) rfl rfl rfl ?_
      refine zq_istore_c (pc' := 12) rfl rfl ?_
      exact H
  · exact H
theorem zr_X3_sum_12 {d : Nat} {Q : zR → zH → Prop} {l0 : Nat} {l1 : Int32} {l2 : Int32} {h : zH} (H :
    zbr (700 ≤ l2)
    (Q (.inl (some (.int 1))) h)
    (zE d 73 [.ref l0, .int 43] h (fun r2 h1 => match r2 with
        | .inl v3 => ∃ x5 : Int32, v3 = some (.int x5) ∧ zbr (x5 = 0)
          (zE d 73 [.ref l0, .int 45] h1 (fun r7 h6 => match r7 with
              | .inl v8 => ∃ x10 : Int32, v8 = some (.int x10) ∧ zbr (x10 = 0)
                (Q (.inl (some (.int 1))) h6)
                (zW (zE d) zm_X3_sum Q (37, [(0, .ref l0), (1, .int l1), (2, .int l2)], [], h6))
              | .inr e9 => Q (.inr e9) h6))
          (zW (zE d) zm_X3_sum Q (37, [(0, .ref l0), (1, .int l1), (2, .int l2)], [], h1))
        | .inr e4 => Q (.inr e4) h1))) : zW (zE d) zm_X3_sum Q (12, [(0, .ref l0), (1, .int l1), (2, .int l2)], [], h) := by
  refine zq_iload (pc' := 13) rfl rfl rfl rfl ?_
  refine zq_ipush (pc' := 16) rfl rfl rfl ?_
  refine zq_icge (pc' := 19) rfl rfl rfl rfl (And.intro (fun c => ?_) (fun c => ?_))
  · have H := H.1 c
    refine zq_ipush (pc' := 83) rfl rfl rfl ?_
    exact zq_iret rfl (Or.inr rfl) H
  · have H := H.2 c
    refine zq_aload (pc' := 20) rfl rfl rfl rfl ?_
    refine zq_ipush (pc' := 22) rfl rfl rfl ?_
    refine zq_calli (pc' := 25) rfl rfl rfl rfl rfl rfl (zE_mono H (fun r2 h1 H => ?_))
    rcases r2 with v3 | e4
    · obtain ⟨x5, e0, H⟩ := H
      refine Exists.intro x5 (And.intro e0 ?_)
      refine zq_ifne_c (pc' := 28) (lt := [(0, .ref l0), (1, .int l1), (2, .int l2)]) (lf := [(0, .ref l0), (1, .int l1), (2, .int l2)]) rfl rfl rfl rfl (And.intro (fun c => ?_) (fun c => ?_))
      · have H := H.1 c
        refine zq_aload (pc' := 29) rfl rfl rfl rfl ?_
        refine zq_ipush (pc' := 31) rfl rfl rfl ?_
        refine zq_calli (pc' := 34) rfl rfl rfl rfl rfl rfl (zE_mono H (fun r7 h6 H => ?_))
        rcases r7 with v8 | e9
        · obtain ⟨x10, e0, H⟩ := H
          refine Exists.intro x10 (And.intro e0 ?_)
          refine zq_ifeq_c (pc' := 37) (lt := [(0, .ref l0), (1, .int l1), (2, .int l2)]) (lf := [(0, .ref l0), (1, .int l1), (2, .int l2)]) rfl rfl rfl rfl (And.intro (fun c => ?_) (fun c => ?_))
          · have H := H.1 c
            refine zq_ipush (pc' := 83) rfl rfl rfl ?_
            exact zq_iret rfl (Or.inr rfl) H
          · have H := H.2 c
            exact H
        · exact H
      · have H := H.2 c
        exact H
    · exact H
theorem zr_X3_sum_37 {d : Nat} {Q : zR → zH → Prop} {l0 : Nat} {l1 : Int32} {l2 : Int32} {h : zH} (H :
    zE d 73 [.ref l0, .int 43] h (fun r2 h1 => match r2 with
      | .inl v3 => ∃ x5 : Int32, v3 = some (.int x5) ∧ zbr (x5 = 0)
        (zE d 70 [.ref l0] h1 (fun r7 h6 => match r7 with
            | .inl v8 => v8 = none ∧ zE d 88 [.ref l0, .int l1] h6 (fun r11 h10 => match r11 with
                | .inl v12 => ∃ x14 : Int32, v12 = some (.int x14) ∧ zbr (x14 = 0)
                  (Q (.inl (some (.int 0))) h10)
                  (∃ a15 : Nat, zgf h10 l0 3 7 = some (.ref a15) ∧
                    zE d 42 [.ref a15, .int (-12)] h10 (fun r17 h16 => match r17 with
                      | .inl v18 => v18 = none ∧ zW (zE d) zm_X3_sum Q (12, [(0, .ref l0), (1, .int l1), (2, .int (l2 + 1))], [], h16)
                      | .inr e19 => Q (.inr e19) h16))
                | .inr e13 => Q (.inr e13) h10)
            | .inr e9 => Q (.inr e9) h6))
        (zE d 70 [.ref l0] h1 (fun r21 h20 => match r21 with
            | .inl v22 => v22 = none ∧ zE d 88 [.ref l0, .int l1] h20 (fun r25 h24 => match r25 with
                | .inl v26 => ∃ x28 : Int32, v26 = some (.int x28) ∧ zbr (x28 = 0)
                  (Q (.inl (some (.int 0))) h24)
                  (∃ a29 : Nat, zgf h24 l0 3 7 = some (.ref a29) ∧
                    zE d 42 [.ref a29, .int (-11)] h24 (fun r31 h30 => match r31 with
                      | .inl v32 => v32 = none ∧ zW (zE d) zm_X3_sum Q (12, [(0, .ref l0), (1, .int l1), (2, .int (l2 + 1))], [], h30)
                      | .inr e33 => Q (.inr e33) h30))
                | .inr e27 => Q (.inr e27) h24)
            | .inr e23 => Q (.inr e23) h20))
      | .inr e4 => Q (.inr e4) h1)) : zW (zE d) zm_X3_sum Q (37, [(0, .ref l0), (1, .int l1), (2, .int l2)], [], h) := by
  refine zq_aload (pc' := 38) rfl rfl rfl rfl ?_
  refine zq_ipush (pc' := 40) rfl rfl rfl ?_
  refine zq_calli (pc' := 43) rfl rfl rfl rfl rfl rfl (zE_mono H (fun r2 h1 H => ?_))
  rcases r2 with v3 | e4
  · obtain ⟨x5, e0, H⟩ := H
    refine Exists.intro x5 (And.intro e0 ?_)
    refine zq_ifeq (pc' := 46) rfl rfl rfl rfl (And.intro (fun c => ?_) (fun c => ?_))
    · have H := H.1 c
      refine zq_ipushn (pc' := 53) rfl rfl rfl ?_
      refine zq_istore (pc' := 54) rfl rfl rfl ?_
      refine zq_aload (pc' := 55) rfl rfl rfl rfl ?_
      refine zq_callv (pc' := 58) rfl rfl rfl rfl rfl rfl (zE_mono H (fun r7 h6 H => ?_))
      rcases r7 with v8 | e9
      · obtain ⟨e0, H⟩ := H
        refine And.intro e0 ?_
        refine zq_aload (pc' := 59) rfl rfl rfl rfl ?_
        refine zq_iload (pc' := 60) rfl rfl rfl rfl ?_
        refine zq_calli (pc' := 63) rfl rfl rfl rfl rfl rfl (zE_mono H (fun r11 h10 H => ?_))
        rcases r11 with v12 | e13
        · obtain ⟨x14, e0, H⟩ := H
          refine Exists.intro x14 (And.intro e0 ?_)
          refine zq_ifne (pc' := 66) rfl rfl rfl rfl (And.intro (fun c => ?_) (fun c => ?_))
          · have H := H.1 c
            refine zq_ipush (pc' := 67) rfl rfl rfl ?_
            exact zq_iret rfl (Or.inl rfl) H
          · have H := H.2 c
            refine zq_aload (pc' := 69) rfl rfl rfl rfl ?_
            obtain ⟨a15, e0, H⟩ := H
            refine zq_getR (pc' := 72) rfl rfl rfl e0 ?_
            refine zq_iload (pc' := 73) rfl rfl rfl rfl ?_
            refine zq_callv (pc' := 76) rfl rfl rfl rfl rfl rfl (zE_mono H (fun r17 h16 H => ?_))
            rcases r17 with v18 | e19
            · obtain ⟨e0, H⟩ := H
              refine And.intro e0 ?_
              refine zq_iinc (pc' := 79) rfl rfl rfl rfl ?_
              refine zq_goto_c (pc' := 12) rfl rfl ?_
              exact H
            · exact H
        · exact H
      · exact H
    · have H := H.2 c
      refine zq_ipushn (pc' := 48) rfl rfl rfl ?_
      refine zq_goto (pc' := 53) rfl rfl rfl ?_
      refine zq_istore (pc' := 54) rfl rfl rfl ?_
      refine zq_aload (pc' := 55) rfl rfl rfl rfl ?_
      refine zq_callv (pc' := 58) rfl rfl rfl rfl rfl rfl (zE_mono H (fun r21 h20 H => ?_))
      rcases r21 with v22 | e23
      · obtain ⟨e0, H⟩ := H
        refine And.intro e0 ?_
        refine zq_aload (pc' := 59) rfl rfl rfl rfl ?_
        refine zq_iload (pc' := 60) rfl rfl rfl rfl ?_
        refine zq_calli (pc' := 63) rfl rfl rfl rfl rfl rfl (zE_mono H (fun r25 h24 H => ?_))
        rcases r25 with v26 | e27
        · obtain ⟨x28, e0, H⟩ := H
          refine Exists.intro x28 (And.intro e0 ?_)
          refine zq_ifne (pc' := 66) rfl rfl rfl rfl (And.intro (fun c => ?_) (fun c => ?_))
          · have H := H.1 c
            refine zq_ipush (pc' := 67) rfl rfl rfl ?_
            exact zq_iret rfl (Or.inl rfl) H
          · have H := H.2 c
            refine zq_aload (pc' := 69) rfl rfl rfl rfl ?_
            obtain ⟨a29, e0, H⟩ := H
            refine zq_getR (pc' := 72) rfl rfl rfl e0 ?_
            refine zq_iload (pc' := 73) rfl rfl rfl rfl ?_
            refine zq_callv (pc' := 76) rfl rfl rfl rfl rfl rfl (zE_mono H (fun r31 h30 H => ?_))
            rcases r31 with v32 | e33
            · obtain ⟨e0, H⟩ := H
              refine And.intro e0 ?_
              refine zq_iinc (pc' := 79) rfl rfl rfl rfl ?_
              refine zq_goto_c (pc' := 12) rfl rfl ?_
              exact H
            · exact H
        · exact H
      · exact H
  · exact H
theorem zr_X3_product_0 {d : Nat} {Q : zR → zH → Prop} {p0 : Nat} {p1 : Int32} {h : zH} (H :
    zE d 89 [.ref p0, .int p1] h (fun r2 h1 => match r2 with
      | .inl v3 => ∃ x5 : Int32, v3 = some (.int x5) ∧ zbr (x5 = 0)
        (Q (.inl (some (.int 0))) h1)
        (zW (zE d) zm_X3_product Q (12, [(0, .ref p0), (1, .int p1), (2, .int 0)], [], h1))
      | .inr e4 => Q (.inr e4) h1)) : zW (zE d) zm_X3_product Q (0, [(0, .ref p0), (1, .int p1)], [], h) := by
  refine zq_aload (pc' := 1) rfl rfl rfl rfl ?_
  refine zq_iload (pc' := 2) rfl rfl rfl rfl ?_
  refine zq_calli (pc' := 5) rfl rfl rfl rfl rfl rfl (zE_mono H (fun r2 h1 H => ?_))
  rcases r2 with v3 | e4
  · obtain ⟨x5, e0, H⟩ := H
    refine Exists.intro x5 (And.intro e0 ?_)
    refine zq_ifne (pc' := 8) rfl rfl rfl rfl (And.intro (fun c => ?_) (fun c => ?_))
    · have H := H.1 c
      refine zq_ipush (pc' := 9) rfl rfl rfl ?_
      exact zq_iret rfl (Or.inl rfl) H
    · have H := H.2 c
      refine zq_ipush (pc' := 11) rfl rfl rfl ?_
      refine zq_istore_c (pc' := 12) rfl rfl ?_
      exact H
  · exact H
theorem zr_X3_product_12 {d : Nat} {Q : zR → zH → Prop} {l0 : Nat} {l1 : Int32} {l2 : Int32} {h : zH} (H :
    zbr (700 ≤ l2)
    (Q (.inl (some (.int 1))) h)
    (zE d 73 [.ref l0, .int 42] h (fun r2 h1 => match r2 with
        | .inl v3 => ∃ x5 : Int32, v3 = some (.int x5) ∧ zbr (x5 = 0)
          (zE d 73 [.ref l0, .int 47] h1 (fun r7 h6 => match r7 with
              | .inl v8 => ∃ x10 : Int32, v8 = some (.int x10) ∧ zbr (x10 = 0)
                (Q (.inl (some (.int 1))) h6)
                (zW (zE d) zm_X3_product Q (37, [(0, .ref l0), (1, .int l1), (2, .int l2)], [], h6))
              | .inr e9 => Q (.inr e9) h6))
          (zW (zE d) zm_X3_product Q (37, [(0, .ref l0), (1, .int l1), (2, .int l2)], [], h1))
        | .inr e4 => Q (.inr e4) h1))) : zW (zE d) zm_X3_product Q (12, [(0, .ref l0), (1, .int l1), (2, .int l2)], [], h) := by
  refine zq_iload (pc' := 13) rfl rfl rfl rfl ?_
  refine zq_ipush (pc' := 16) rfl rfl rfl ?_
  refine zq_icge (pc' := 19) rfl rfl rfl rfl (And.intro (fun c => ?_) (fun c => ?_))
  · have H := H.1 c
    refine zq_ipush (pc' := 83) rfl rfl rfl ?_
    exact zq_iret rfl (Or.inr rfl) H
  · have H := H.2 c
    refine zq_aload (pc' := 20) rfl rfl rfl rfl ?_
    refine zq_ipush (pc' := 22) rfl rfl rfl ?_
    refine zq_calli (pc' := 25) rfl rfl rfl rfl rfl rfl (zE_mono H (fun r2 h1 H => ?_))
    rcases r2 with v3 | e4
    · obtain ⟨x5, e0, H⟩ := H
      refine Exists.intro x5 (And.intro e0 ?_)
      refine zq_ifne_c (pc' := 28) (lt := [(0, .ref l0), (1, .int l1), (2, .int l2)]) (lf := [(0, .ref l0), (1, .int l1), (2, .int l2)]) rfl rfl rfl rfl (And.intro (fun c => ?_) (fun c => ?_))
      · have H := H.1 c
        refine zq_aload (pc' := 29) rfl rfl rfl rfl ?_
        refine zq_ipush (pc' := 31) rfl rfl rfl ?_
        refine zq_calli (pc' := 34) rfl rfl rfl rfl rfl rfl (zE_mono H (fun r7 h6 H => ?_))
        rcases r7 with v8 | e9
        · obtain ⟨x10, e0, H⟩ := H
          refine Exists.intro x10 (And.intro e0 ?_)
          refine zq_ifeq_c (pc' := 37) (lt := [(0, .ref l0), (1, .int l1), (2, .int l2)]) (lf := [(0, .ref l0), (1, .int l1), (2, .int l2)]) rfl rfl rfl rfl (And.intro (fun c => ?_) (fun c => ?_))
          · have H := H.1 c
            refine zq_ipush (pc' := 83) rfl rfl rfl ?_
            exact zq_iret rfl (Or.inr rfl) H
          · have H := H.2 c
            exact H
        · exact H
      · have H := H.2 c
        exact H
    · exact H
theorem zr_X3_product_37 {d : Nat} {Q : zR → zH → Prop} {l0 : Nat} {l1 : Int32} {l2 : Int32} {h : zH} (H :
    zE d 73 [.ref l0, .int 42] h (fun r2 h1 => match r2 with
      | .inl v3 => ∃ x5 : Int32, v3 = some (.int x5) ∧ zbr (x5 = 0)
        (zE d 70 [.ref l0] h1 (fun r7 h6 => match r7 with
            | .inl v8 => v8 = none ∧ zE d 89 [.ref l0, .int l1] h6 (fun r11 h10 => match r11 with
                | .inl v12 => ∃ x14 : Int32, v12 = some (.int x14) ∧ zbr (x14 = 0)
                  (Q (.inl (some (.int 0))) h10)
                  (∃ a15 : Nat, zgf h10 l0 3 7 = some (.ref a15) ∧
                    zE d 42 [.ref a15, .int (-14)] h10 (fun r17 h16 => match r17 with
                      | .inl v18 => v18 = none ∧ zW (zE d) zm_X3_product Q (12, [(0, .ref l0), (1, .int l1), (2, .int (l2 + 1))], [], h16)
                      | .inr e19 => Q (.inr e19) h16))
                | .inr e13 => Q (.inr e13) h10)
            | .inr e9 => Q (.inr e9) h6))
        (zE d 70 [.ref l0] h1 (fun r21 h20 => match r21 with
            | .inl v22 => v22 = none ∧ zE d 89 [.ref l0, .int l1] h20 (fun r25 h24 => match r25 with
                | .inl v26 => ∃ x28 : Int32, v26 = some (.int x28) ∧ zbr (x28 = 0)
                  (Q (.inl (some (.int 0))) h24)
                  (∃ a29 : Nat, zgf h24 l0 3 7 = some (.ref a29) ∧
                    zE d 42 [.ref a29, .int (-13)] h24 (fun r31 h30 => match r31 with
                      | .inl v32 => v32 = none ∧ zW (zE d) zm_X3_product Q (12, [(0, .ref l0), (1, .int l1), (2, .int (l2 + 1))], [], h30)
                      | .inr e33 => Q (.inr e33) h30))
                | .inr e27 => Q (.inr e27) h24)
            | .inr e23 => Q (.inr e23) h20))
      | .inr e4 => Q (.inr e4) h1)) : zW (zE d) zm_X3_product Q (37, [(0, .ref l0), (1, .int l1), (2, .int l2)], [], h) := by
  refine zq_aload (pc' := 38) rfl rfl rfl rfl ?_
  refine zq_ipush (pc' := 40) rfl rfl rfl ?_
  refine zq_calli (pc' := 43) rfl rfl rfl rfl rfl rfl (zE_mono H (fun r2 h1 H => ?_))
  rcases r2 with v3 | e4
  · obtain ⟨x5, e0, H⟩ := H
    refine Exists.intro x5 (And.intro e0 ?_)
    refine zq_ifeq (pc' := 46) rfl rfl rfl rfl (And.intro (fun c => ?_) (fun c => ?_))
    · have H := H.1 c
      refine zq_ipushn (pc' := 53) rfl rfl rfl ?_
      refine zq_istore (pc' := 54) rfl rfl rfl ?_
      refine zq_aload (pc' := 55) rfl rfl rfl rfl ?_
      refine zq_callv (pc' := 58) rfl rfl rfl rfl rfl rfl (zE_mono H (fun r7 h6 H => ?_))
      rcases r7 with v8 | e9
      · obtain ⟨e0, H⟩ := H
        refine And.intro e0 ?_
        refine zq_aload (pc' := 59) rfl rfl rfl rfl ?_
        refine zq_iload (pc' := 60) rfl rfl rfl rfl ?_
        refine zq_calli (pc' := 63) rfl rfl rfl rfl rfl rfl (zE_mono H (fun r11 h10 H => ?_))
        rcases r11 with v12 | e13
        · obtain ⟨x14, e0, H⟩ := H
          refine Exists.intro x14 (And.intro e0 ?_)
          refine zq_ifne (pc' := 66) rfl rfl rfl rfl (And.intro (fun c => ?_) (fun c => ?_))
          · have H := H.1 c
            refine zq_ipush (pc' := 67) rfl rfl rfl ?_
            exact zq_iret rfl (Or.inl rfl) H
          · have H := H.2 c
            refine zq_aload (pc' := 69) rfl rfl rfl rfl ?_
            obtain ⟨a15, e0, H⟩ := H
            refine zq_getR (pc' := 72) rfl rfl rfl e0 ?_
            refine zq_iload (pc' := 73) rfl rfl rfl rfl ?_
            refine zq_callv (pc' := 76) rfl rfl rfl rfl rfl rfl (zE_mono H (fun r17 h16 H => ?_))
            rcases r17 with v18 | e19
            · obtain ⟨e0, H⟩ := H
              refine And.intro e0 ?_
              refine zq_iinc (pc' := 79) rfl rfl rfl rfl ?_
              refine zq_goto_c (pc' := 12) rfl rfl ?_
              exact H
            · exact H
        · exact H
      · exact H
    · have H := H.2 c
      refine zq_ipushn (pc' := 48) rfl rfl rfl ?_
      refine zq_goto (pc' := 53) rfl rfl rfl ?_
      refine zq_istore (pc' := 54) rfl rfl rfl ?_
      refine zq_aload (pc' := 55) rfl rfl rfl rfl ?_
      refine zq_callv (pc' := 58) rfl rfl rfl rfl rfl rfl (zE_mono H (fun r21 h20 H => ?_))
      rcases r21 with v22 | e23
      · obtain ⟨e0, H⟩ := H
        refine And.intro e0 ?_
        refine zq_aload (pc' := 59) rfl rfl rfl rfl ?_
        refine zq_iload (pc' := 60) rfl rfl rfl rfl ?_
        refine zq_calli (pc' := 63) rfl rfl rfl rfl rfl rfl (zE_mono H (fun r25 h24 H => ?_))
        rcases r25 with v26 | e27
        · obtain ⟨x28, e0, H⟩ := H
          refine Exists.intro x28 (And.intro e0 ?_)
          refine zq_ifne (pc' := 66) rfl rfl rfl rfl (And.intro (fun c => ?_) (fun c => ?_))
          · have H := H.1 c
            refine zq_ipush (pc' := 67) rfl rfl rfl ?_
            exact zq_iret rfl (Or.inl rfl) H
          · have H := H.2 c
            refine zq_aload (pc' := 69) rfl rfl rfl rfl ?_
            obtain ⟨a29, e0, H⟩ := H
            refine zq_getR (pc' := 72) rfl rfl rfl e0 ?_
            refine zq_iload (pc' := 73) rfl rfl rfl rfl ?_
            refine zq_callv (pc' := 76) rfl rfl rfl rfl rfl rfl (zE_mono H (fun r31 h30 H => ?_))
            rcases r31 with v32 | e33
            · obtain ⟨e0, H⟩ := H
              refine And.intro e0 ?_
              refine zq_iinc (pc' := 79) rfl rfl rfl rfl ?_
              refine zq_goto_c (pc' := 12) rfl rfl ?_
              exact H
            · exact H
        · exact H
      · exact H
  · exact H
theorem zr_X3_part_0 {d : Nat} {Q : zR → zH → Prop} {p0 : Nat} {p1 : Int32} {h : zH} (H :
    zE d 73 [.ref p0, .int 40] h (fun r2 h1 => match r2 with
      | .inl v3 => ∃ x5 : Int32, v3 = some (.int x5) ∧ zbr (x5 = 0)
        (∃ x6 : Int32, zgf h1 p0 3 2 = some (.int x6) ∧
          zbr (x6 = 2)
          (zW (zE d) zm_X3_part Q (60, [(0, .ref p0)], [], h1))
          (∃ x7 : Int32, zgf h1 p0 3 2 = some (.int x7) ∧
            zbr (x7 = 1)
            (zW (zE d) zm_X3_part Q (60, [(0, .ref p0)], [], h1))
            (zE d 74 [.ref p0, .int 1] h1 (fun r9 h8 => match r9 with
                | .inl v10 => ∃ x12 : Int32, v10 = some (.int x12) ∧ (x12 = 0 ∨ x12 = 1) ∧ Q (.inl (some (.int x12))) h8
                | .inr e11 => Q (.inr e11) h8))))
        (zE d 70 [.ref p0] h1 (fun r14 h13 => match r14 with
            | .inl v15 => v15 = none ∧ zE d 82 [.ref p0, .int (p1 + 1)] h13 (fun r18 h17 => match r18 with
                | .inl v19 => ∃ x21 : Int32, v19 = some (.int x21) ∧ zbr (x21 = 0)
                  (Q (.inl (some (.int 0))) h17)
                  (zE d 75 [.ref p0, .int 41] h17 (fun r23 h22 => match r23 with
                      | .inl v24 => ∃ x26 : Int32, v24 = some (.int x26) ∧ zbr (x26 = 0)
                        (Q (.inl (some (.int 0))) h22)
                        (Q (.inl (some (.int 1))) h22)
                      | .inr e25 => Q (.inr e25) h22))
                | .inr e20 => Q (.inr e20) h17)
            | .inr e16 => Q (.inr e16) h13))
      | .inr e4 => Q (.inr e4) h1)) : zW (zE d) zm_X3_part Q (0, [(0, .ref p0), (1, .int p1)], [], h) := by
  refine zq_aload (pc' := 1) rfl rfl rfl rfl ?_
  refine zq_ipush (pc' := 3) rfl rfl rfl ?_
  refine zq_calli (pc' := 6) rfl rfl rfl rfl rfl rfl (zE_mono H (fun r2 h1 H => ?_))
  rcases r2 with v3 | e4
  · obtain ⟨x5, e0, H⟩ := H
    refine Exists.intro x5 (And.intro e0 ?_)
    refine zq_ifeq (pc' := 9) rfl rfl rfl rfl (And.intro (fun c => ?_) (fun c => ?_))
    · have H := H.1 c
      refine zq_aload (pc' := 39) rfl rfl rfl rfl ?_
      obtain ⟨x6, e0, H⟩ := H
      refine zq_getI (pc' := 42) rfl rfl rfl e0 ?_
      refine zq_ipush (pc' := 43) rfl rfl rfl ?_
      refine zq_iceq_c (pc' := 46) (lt := [(0, .ref p0)]) (lf := [(0, .ref p0), (1, .int p1)]) rfl rfl rfl rfl (And.intro (fun c => ?_) (fun c => ?_))
      · have H := H.1 c
        exact H
      · have H := H.2 c
        refine zq_aload (pc' := 47) rfl rfl rfl rfl ?_
        obtain ⟨x7, e0, H⟩ := H
        refine zq_getI (pc' := 50) rfl rfl rfl e0 ?_
        refine zq_ipush (pc' := 51) rfl rfl rfl ?_
        refine zq_iceq_c (pc' := 54) (lt := [(0, .ref p0)]) (lf := [(0, .ref p0), (1, .int p1)]) rfl rfl rfl rfl (And.intro (fun c => ?_) (fun c => ?_))
        · have H := H.1 c
          exact H
        · have H := H.2 c
          refine zq_aload (pc' := 55) rfl rfl rfl rfl ?_
          refine zq_ipush (pc' := 56) rfl rfl rfl ?_
          refine zq_calli (pc' := 59) rfl rfl rfl rfl rfl rfl (zE_mono H (fun r9 h8 H => ?_))
          rcases r9 with v10 | e11
          · obtain ⟨x12, e0, H⟩ := H
            refine Exists.intro x12 (And.intro e0 ?_)
            exact zq_iret rfl H.1 H.2
          · exact H
    · have H := H.2 c
      refine zq_aload (pc' := 10) rfl rfl rfl rfl ?_
      refine zq_callv (pc' := 13) rfl rfl rfl rfl rfl rfl (zE_mono H (fun r14 h13 H => ?_))
      rcases r14 with v15 | e16
      · obtain ⟨e0, H⟩ := H
        refine And.intro e0 ?_
        refine zq_aload (pc' := 14) rfl rfl rfl rfl ?_
        refine zq_iload (pc' := 15) rfl rfl rfl rfl ?_
        refine zq_ipush (pc' := 16) rfl rfl rfl ?_
        refine zq_iadd (pc' := 17) rfl rfl rfl ?_
        refine zq_calli (pc' := 20) rfl rfl rfl rfl rfl rfl (zE_mono H (fun r18 h17 H => ?_))
        rcases r18 with v19 | e20
        · obtain ⟨x21, e0, H⟩ := H
          refine Exists.intro x21 (And.intro e0 ?_)
          refine zq_ifeq (pc' := 23) rfl rfl rfl rfl (And.intro (fun c => ?_) (fun c => ?_))
          · have H := H.1 c
            refine zq_ipush (pc' := 37) rfl rfl rfl ?_
            exact zq_iret rfl (Or.inl rfl) H
          · have H := H.2 c
            refine zq_aload (pc' := 24) rfl rfl rfl rfl ?_
            refine zq_ipush (pc' := 26) rfl rfl rfl ?_
            refine zq_calli (pc' := 29) rfl rfl rfl rfl rfl rfl (zE_mono H (fun r23 h22 H => ?_))
            rcases r23 with v24 | e25
            · obtain ⟨x26, e0, H⟩ := H
              refine Exists.intro x26 (And.intro e0 ?_)
              refine zq_ifeq (pc' := 32) rfl rfl rfl rfl (And.intro (fun c => ?_) (fun c => ?_))
              · have H := H.1 c
                refine zq_ipush (pc' := 37) rfl rfl rfl ?_
                exact zq_iret rfl (Or.inl rfl) H
              · have H := H.2 c
                refine zq_ipush (pc' := 33) rfl rfl rfl ?_
                refine zq_goto (pc' := 37) rfl rfl rfl ?_
                exact zq_iret rfl (Or.inr rfl) H
            · exact H
        · exact H
      · exact H
  · exact H
theorem zr_X3_part_60 {d : Nat} {Q : zR → zH → Prop} {l0 : Nat} {h : zH} (H :
    ∃ x1 : Int32, zgf h l0 3 2 = some (.int x1) ∧
    zbr (x1 = 2)
    (∃ x2 : Int32, zgf h l0 3 5 = some (.int x2) ∧
      zbr (x2 < 10000)
      (zbr (x2 = (-99))
        (zE d 74 [.ref l0, .int 3] h (fun r4 h3 => match r4 with
            | .inl v5 => ∃ x7 : Int32, v5 = some (.int x7) ∧ (x7 = 0 ∨ x7 = 1) ∧ Q (.inl (some (.int x7))) h3
            | .inr e6 => Q (.inr e6) h3))
        (∃ a8 : Nat, zgf h l0 3 7 = some (.ref a8) ∧
          zE d 42 [.ref a8, .int x2] h (fun r10 h9 => match r10 with
            | .inl v11 => v11 = none ∧ zE d 70 [.ref l0] h9 (fun r14 h13 => match r14 with
                | .inl v15 => v15 = none ∧ Q (.inl (some (.int 1))) h13
                | .inr e16 => Q (.inr e16) h13)
            | .inr e12 => Q (.inr e12) h9)))
      (zE d 74 [.ref l0, .int 2] h (fun r18 h17 => match r18 with
          | .inl v19 => ∃ x21 : Int32, v19 = some (.int x21) ∧ (x21 = 0 ∨ x21 = 1) ∧ Q (.inl (some (.int x21))) h17
          | .inr e20 => Q (.inr e20) h17)))
    (zE d 90 [.ref l0] h (fun r23 h22 => match r23 with
        | .inl v24 => ∃ x26 : Int32, v24 = some (.int x26) ∧ zbr (x26 < 10000)
          (zbr (x26 = (-99))
            (zE d 74 [.ref l0, .int 3] h22 (fun r28 h27 => match r28 with
                | .inl v29 => ∃ x31 : Int32, v29 = some (.int x31) ∧ (x31 = 0 ∨ x31 = 1) ∧ Q (.inl (some (.int x31))) h27
                | .inr e30 => Q (.inr e30) h27))
            (∃ a32 : Nat, zgf h22 l0 3 7 = some (.ref a32) ∧
              zE d 42 [.ref a32, .int x26] h22 (fun r34 h33 => match r34 with
                | .inl v35 => v35 = none ∧ zE d 70 [.ref l0] h33 (fun r38 h37 => match r38 with
                    | .inl v39 => v39 = none ∧ Q (.inl (some (.int 1))) h37
                    | .inr e40 => Q (.inr e40) h37)
                | .inr e36 => Q (.inr e36) h33)))
          (zE d 74 [.ref l0, .int 2] h22 (fun r42 h41 => match r42 with
              | .inl v43 => ∃ x45 : Int32, v43 = some (.int x45) ∧ (x45 = 0 ∨ x45 = 1) ∧ Q (.inl (some (.int x45))) h41
              | .inr e44 => Q (.inr e44) h41))
        | .inr e25 => Q (.inr e25) h22))) : zW (zE d) zm_X3_part Q (60, [(0, .ref l0)], [], h) := by
  refine zq_aload (pc' := 61) rfl rfl rfl rfl ?_
  obtain ⟨x1, e0, H⟩ := H
  refine zq_getI (pc' := 64) rfl rfl rfl e0 ?_
  refine zq_ipush (pc' := 65) rfl rfl rfl ?_
  refine zq_icne (pc' := 68) rfl rfl rfl rfl (And.intro (fun c => ?_) (fun c => ?_))
  · have H := H.1 c
    refine zq_aload (pc' := 69) rfl rfl rfl rfl ?_
    obtain ⟨x2, e0, H⟩ := H
    refine zq_getI (pc' := 72) rfl rfl rfl e0 ?_
    refine zq_goto (pc' := 79) rfl rfl rfl ?_
    refine zq_istore (pc' := 80) rfl rfl rfl ?_
    refine zq_iload (pc' := 81) rfl rfl rfl rfl ?_
    refine zq_ipush (pc' := 84) rfl rfl rfl ?_
    refine zq_iclt (pc' := 87) rfl rfl rfl rfl (And.intro (fun c => ?_) (fun c => ?_))
    · have H := H.1 c
      refine zq_iload (pc' := 94) rfl rfl rfl rfl ?_
      refine zq_ipushn (pc' := 96) rfl rfl rfl ?_
      refine zq_icne (pc' := 99) rfl rfl rfl rfl (And.intro (fun c => ?_) (fun c => ?_))
      · have H := H.1 c
        refine zq_aload (pc' := 100) rfl rfl rfl rfl ?_
        refine zq_ipush (pc' := 101) rfl rfl rfl ?_
        refine zq_calli (pc' := 104) rfl rfl rfl rfl rfl rfl (zE_mono H (fun r4 h3 H => ?_))
        rcases r4 with v5 | e6
        · obtain ⟨x7, e0, H⟩ := H
          refine Exists.intro x7 (And.intro e0 ?_)
          exact zq_iret rfl H.1 H.2
        · exact H
      · have H := H.2 c
        refine zq_aload (pc' := 106) rfl rfl rfl rfl ?_
        obtain ⟨a8, e0, H⟩ := H
        refine zq_getR (pc' := 109) rfl rfl rfl e0 ?_
        refine zq_iload (pc' := 110) rfl rfl rfl rfl ?_
        refine zq_callv (pc' := 113) rfl rfl rfl rfl rfl rfl (zE_mono H (fun r10 h9 H => ?_))
        rcases r10 with v11 | e12
        · obtain ⟨e0, H⟩ := H
          refine And.intro e0 ?_
          refine zq_aload (pc' := 114) rfl rfl rfl rfl ?_
          refine zq_callv (pc' := 117) rfl rfl rfl rfl rfl rfl (zE_mono H (fun r14 h13 H => ?_))
          rcases r14 with v15 | e16
          · obtain ⟨e0, H⟩ := H
            refine And.intro e0 ?_
            refine zq_ipush (pc' := 118) rfl rfl rfl ?_
            exact zq_iret rfl (Or.inr rfl) H
          · exact H
        · exact H
    · have H := H.2 c
      refine zq_aload (pc' := 88) rfl rfl rfl rfl ?_
      refine zq_ipush (pc' := 89) rfl rfl rfl ?_
      refine zq_calli (pc' := 92) rfl rfl rfl rfl rfl rfl (zE_mono H (fun r18 h17 H => ?_))
      rcases r18 with v19 | e20
      · obtain ⟨x21, e0, H⟩ := H
        refine Exists.intro x21 (And.intro e0 ?_)
        exact zq_iret rfl H.1 H.2
      · exact H
  · have H := H.2 c
    refine zq_aload (pc' := 76) rfl rfl rfl rfl ?_
    refine zq_calli (pc' := 79) rfl rfl rfl rfl rfl rfl (zE_mono H (fun r23 h22 H => ?_))
    rcases r23 with v24 | e25
    · obtain ⟨x26, e0, H⟩ := H
      refine Exists.intro x26 (And.intro e0 ?_)
      refine zq_istore (pc' := 80) rfl rfl rfl ?_
      refine zq_iload (pc' := 81) rfl rfl rfl rfl ?_
      refine zq_ipush (pc' := 84) rfl rfl rfl ?_
      refine zq_iclt (pc' := 87) rfl rfl rfl rfl (And.intro (fun c => ?_) (fun c => ?_))
      · have H := H.1 c
        refine zq_iload (pc' := 94) rfl rfl rfl rfl ?_
        refine zq_ipushn (pc' := 96) rfl rfl rfl ?_
        refine zq_icne (pc' := 99) rfl rfl rfl rfl (And.intro (fun c => ?_) (fun c => ?_))
        · have H := H.1 c
          refine zq_aload (pc' := 100) rfl rfl rfl rfl ?_
          refine zq_ipush (pc' := 101) rfl rfl rfl ?_
          refine zq_calli (pc' := 104) rfl rfl rfl rfl rfl rfl (zE_mono H (fun r28 h27 H => ?_))
          rcases r28 with v29 | e30
          · obtain ⟨x31, e0, H⟩ := H
            refine Exists.intro x31 (And.intro e0 ?_)
            exact zq_iret rfl H.1 H.2
          · exact H
        · have H := H.2 c
          refine zq_aload (pc' := 106) rfl rfl rfl rfl ?_
          obtain ⟨a32, e0, H⟩ := H
          refine zq_getR (pc' := 109) rfl rfl rfl e0 ?_
          refine zq_iload (pc' := 110) rfl rfl rfl rfl ?_
          refine zq_callv (pc' := 113) rfl rfl rfl rfl rfl rfl (zE_mono H (fun r34 h33 H => ?_))
          rcases r34 with v35 | e36
          · obtain ⟨e0, H⟩ := H
            refine And.intro e0 ?_
            refine zq_aload (pc' := 114) rfl rfl rfl rfl ?_
            refine zq_callv (pc' := 117) rfl rfl rfl rfl rfl rfl (zE_mono H (fun r38 h37 H => ?_))
            rcases r38 with v39 | e40
            · obtain ⟨e0, H⟩ := H
              refine And.intro e0 ?_
              refine zq_ipush (pc' := 118) rfl rfl rfl ?_
              exact zq_iret rfl (Or.inr rfl) H
            · exact H
          · exact H
      · have H := H.2 c
        refine zq_aload (pc' := 88) rfl rfl rfl rfl ?_
        refine zq_ipush (pc' := 89) rfl rfl rfl ?_
        refine zq_calli (pc' := 92) rfl rfl rfl rfl rfl rfl (zE_mono H (fun r42 h41 H => ?_))
        rcases r42 with v43 | e44
        · obtain ⟨x45, e0, H⟩ := H
          refine Exists.intro x45 (And.intro e0 ?_)
          exact zq_iret rfl H.1 H.2
        · exact H
    · exact H
theorem zr_X3_valueStep_0 {d : Nat} {Q : zR → zH → Prop} {p0 : Nat} {h : zH} (H :
    zE d 72 [.ref p0, .ref 6] h (fun r2 h1 => match r2 with
      | .inl v3 => ∃ x5 : Int32, v3 = some (.int x5) ∧ zbr (x5 = 0)
        (zE d 72 [.ref p0, .ref 20] h1 (fun r7 h6 => match r7 with
            | .inl v8 => ∃ x10 : Int32, v8 = some (.int x10) ∧ zbr (x10 = 0)
              (zE d 72 [.ref p0, .ref 22] h6 (fun r12 h11 => match r12 with
                  | .inl v13 => ∃ x15 : Int32, v13 = some (.int x15) ∧ zbr (x15 = 0)
                    (zE d 72 [.ref p0, .ref 24] h11 (fun r17 h16 => match r17 with
                        | .inl v18 => ∃ x20 : Int32, v18 = some (.int x20) ∧ zbr (x20 = 0)
                          (∃ x21 : Int32, zgf h16 p0 3 8 = some (.int x21) ∧
                            zbr (x21 = 0)
                            (zE d 72 [.ref p0, .ref 28] h16 (fun r23 h22 => match r23 with
                                | .inl v24 => ∃ x26 : Int32, v24 = some (.int x26) ∧ zbr (x26 = 0)
                                  (Q (.inl (some (.int (-99)))) h22)
                                  (Q (.inl (some (.int (-5)))) h22)
                                | .inr e25 => Q (.inr e25) h22))
                            (zE d 72 [.ref p0, .ref 26] h16 (fun r28 h27 => match r28 with
                                | .inl v29 => ∃ x31 : Int32, v29 = some (.int x31) ∧ zbr (x31 = 0)
                                  (Q (.inl (some (.int (-99)))) h27)
                                  (Q (.inl (some (.int (-5)))) h27)
                                | .inr e30 => Q (.inr e30) h27)))
                          (Q (.inl (some (.int (-4)))) h16)
                        | .inr e19 => Q (.inr e19) h16))
                    (Q (.inl (some (.int (-3)))) h11)
                  | .inr e14 => Q (.inr e14) h11))
              (Q (.inl (some (.int (-2)))) h6)
            | .inr e9 => Q (.inr e9) h6))
        (Q (.inl (some (.int (-1)))) h1)
      | .inr e4 => Q (.inr e4) h1)) : zW (zE d) zm_X3_valueStep Q (0, [(0, .ref p0)], [], h) := by
  refine zq_aload (pc' := 1) rfl rfl rfl rfl ?_
  refine zq_rpush (pc' := 3) rfl rfl rfl ?_
  refine zq_calli (pc' := 6) rfl rfl rfl rfl rfl rfl (zE_mono H (fun r2 h1 H => ?_))
  rcases r2 with v3 | e4
  · obtain ⟨x5, e0, H⟩ := H
    refine Exists.intro x5 (And.intro e0 ?_)
    refine zq_ifeq (pc' := 9) rfl rfl rfl rfl (And.intro (fun c => ?_) (fun c => ?_))
    · have H := H.1 c
      refine zq_aload (pc' := 12) rfl rfl rfl rfl ?_
      refine zq_rpush (pc' := 14) rfl rfl rfl ?_
      refine zq_calli (pc' := 17) rfl rfl rfl rfl rfl rfl (zE_mono H (fun r7 h6 H => ?_))
      rcases r7 with v8 | e9
      · obtain ⟨x10, e0, H⟩ := H
        refine Exists.intro x10 (And.intro e0 ?_)
        refine zq_ifeq (pc' := 20) rfl rfl rfl rfl (And.intro (fun c => ?_) (fun c => ?_))
        · have H := H.1 c
          refine zq_aload (pc' := 24) rfl rfl rfl rfl ?_
          refine zq_rpush (pc' := 26) rfl rfl rfl ?_
          refine zq_calli (pc' := 29) rfl rfl rfl rfl rfl rfl (zE_mono H (fun r12 h11 H => ?_))
          rcases r12 with v13 | e14
          · obtain ⟨x15, e0, H⟩ := H
            refine Exists.intro x15 (And.intro e0 ?_)
            refine zq_ifeq (pc' := 32) rfl rfl rfl rfl (And.intro (fun c => ?_) (fun c => ?_))
            · have H := H.1 c
              refine zq_aload (pc' := 36) rfl rfl rfl rfl ?_
              refine zq_rpush (pc' := 38) rfl rfl rfl ?_
              refine zq_calli (pc' := 41) rfl rfl rfl rfl rfl rfl (zE_mono H (fun r17 h16 H => ?_))
              rcases r17 with v18 | e19
              · obtain ⟨x20, e0, H⟩ := H
                refine Exists.intro x20 (And.intro e0 ?_)
                refine zq_ifeq (pc' := 44) rfl rfl rfl rfl (And.intro (fun c => ?_) (fun c => ?_))
                · have H := H.1 c
                  refine zq_aload (pc' := 48) rfl rfl rfl rfl ?_
                  refine zq_aload (pc' := 49) rfl rfl rfl rfl ?_
                  obtain ⟨x21, e0, H⟩ := H
                  refine zq_getI (pc' := 52) rfl rfl rfl e0 ?_
                  refine zq_ifeq (pc' := 55) rfl rfl rfl rfl (And.intro (fun c => ?_) (fun c => ?_))
                  · have H := H.1 c
                    refine zq_rpush (pc' := 62) rfl rfl rfl ?_
                    refine zq_calli (pc' := 65) rfl rfl rfl rfl rfl rfl (zE_mono H (fun r23 h22 H => ?_))
                    rcases r23 with v24 | e25
                    · obtain ⟨x26, e0, H⟩ := H
                      refine Exists.intro x26 (And.intro e0 ?_)
                      refine zq_ifeq (pc' := 68) rfl rfl rfl rfl (And.intro (fun c => ?_) (fun c => ?_))
                      · have H := H.1 c
                        refine zq_ipushn (pc' := 75) rfl rfl rfl ?_
                        exact zq_iret rfl trivial H
                      · have H := H.2 c
                        refine zq_ipushn (pc' := 70) rfl rfl rfl ?_
                        refine zq_goto (pc' := 75) rfl rfl rfl ?_
                        exact zq_iret rfl trivial H
                    · exact H
                  · have H := H.2 c
                    refine zq_rpush (pc' := 57) rfl rfl rfl ?_
                    refine zq_goto (pc' := 62) rfl rfl rfl ?_
                    refine zq_calli (pc' := 65) rfl rfl rfl rfl rfl rfl (zE_mono H (fun r28 h27 H => ?_))
                    rcases r28 with v29 | e30
                    · obtain ⟨x31, e0, H⟩ := H
                      refine Exists.intro x31 (And.intro e0 ?_)
                      refine zq_ifeq (pc' := 68) rfl rfl rfl rfl (And.intro (fun c => ?_) (fun c => ?_))
                      · have H := H.1 c
                        refine zq_ipushn (pc' := 75) rfl rfl rfl ?_
                        exact zq_iret rfl trivial H
                      · have H := H.2 c
                        refine zq_ipushn (pc' := 70) rfl rfl rfl ?_
                        refine zq_goto (pc' := 75) rfl rfl rfl ?_
                        exact zq_iret rfl trivial H
                    · exact H
                · have H := H.2 c
                  refine zq_ipushn (pc' := 46) rfl rfl rfl ?_
                  exact zq_iret rfl trivial H
              · exact H
            · have H := H.2 c
              refine zq_ipushn (pc' := 34) rfl rfl rfl ?_
              exact zq_iret rfl trivial H
          · exact H
        · have H := H.2 c
          refine zq_ipushn (pc' := 22) rfl rfl rfl ?_
          exact zq_iret rfl trivial H
      · exact H
    · have H := H.2 c
      refine zq_ipushn (pc' := 10) rfl rfl rfl ?_
      exact zq_iret rfl trivial H
  · exact H
