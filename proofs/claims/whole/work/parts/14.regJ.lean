theorem zr_J6_bitCount_0f7a4_0 {d : Nat} {Q : zR → zH → Prop} {p0 : Int32} {h : zH} (H :
    Q (.inl (some (.int ((((((((p0 - ((((p0 : Int32).toUInt32 >>> ((1 : Int32).toUInt32 &&& Int32.toUInt32 31)).toInt32) &&& 1431655765)) &&& 858993459) + ((((p0 - ((((p0 : Int32).toUInt32 >>> ((1 : Int32).toUInt32 &&& Int32.toUInt32 31)).toInt32) &&& 1431655765) : Int32).toUInt32 >>> ((2 : Int32).toUInt32 &&& Int32.toUInt32 31)).toInt32) &&& 858993459)) + (((((p0 - ((((p0 : Int32).toUInt32 >>> ((1 : Int32).toUInt32 &&& Int32.toUInt32 31)).toInt32) &&& 1431655765)) &&& 858993459) + ((((p0 - ((((p0 : Int32).toUInt32 >>> ((1 : Int32).toUInt32 &&& Int32.toUInt32 31)).toInt32) &&& 1431655765) : Int32).toUInt32 >>> ((2 : Int32).toUInt32 &&& Int32.toUInt32 31)).toInt32) &&& 858993459) : Int32).toUInt32 >>> ((4 : Int32).toUInt32 &&& Int32.toUInt32 31)).toInt32)) &&& 252645135) + (((((((p0 - ((((p0 : Int32).toUInt32 >>> ((1 : Int32).toUInt32 &&& Int32.toUInt32 31)).toInt32) &&& 1431655765)) &&& 858993459) + ((((p0 - ((((p0 : Int32).toUInt32 >>> ((1 : Int32).toUInt32 &&& Int32.toUInt32 31)).toInt32) &&& 1431655765) : Int32).toUInt32 >>> ((2 : Int32).toUInt32 &&& Int32.toUInt32 31)).toInt32) &&& 858993459)) + (((((p0 - ((((p0 : Int32).toUInt32 >>> ((1 : Int32).toUInt32 &&& Int32.toUInt32 31)).toInt32) &&& 1431655765)) &&& 858993459) + ((((p0 - ((((p0 : Int32).toUInt32 >>> ((1 : Int32).toUInt32 &&& Int32.toUInt32 31)).toInt32) &&& 1431655765) : Int32).toUInt32 >>> ((2 : Int32).toUInt32 &&& Int32.toUInt32 31)).toInt32) &&& 858993459) : Int32).toUInt32 >>> ((4 : Int32).toUInt32 &&& Int32.toUInt32 31)).toInt32)) &&& 252645135 : Int32).toUInt32 >>> ((8 : Int32).toUInt32 &&& Int32.toUInt32 31)).toInt32)) + ((((((((p0 - ((((p0 : Int32).toUInt32 >>> ((1 : Int32).toUInt32 &&& Int32.toUInt32 31)).toInt32) &&& 1431655765)) &&& 858993459) + ((((p0 - ((((p0 : Int32).toUInt32 >>> ((1 : Int32).toUInt32 &&& Int32.toUInt32 31)).toInt32) &&& 1431655765) : Int32).toUInt32 >>> ((2 : Int32).toUInt32 &&& Int32.toUInt32 31)).toInt32) &&& 858993459)) + (((((p0 - ((((p0 : Int32).toUInt32 >>> ((1 : Int32).toUInt32 &&& Int32.toUInt32 31)).toInt32) &&& 1431655765)) &&& 858993459) + ((((p0 - ((((p0 : Int32).toUInt32 >>> ((1 : Int32).toUInt32 &&& Int32.toUInt32 31)).toInt32) &&& 1431655765) : Int32).toUInt32 >>> ((2 : Int32).toUInt32 &&& Int32.toUInt32 31)).toInt32) &&& 858993459) : Int32).toUInt32 >>> ((4 : Int32).toUInt32 &&& Int32.toUInt32 31)).toInt32)) &&& 252645135) + (((((((p0 - ((((p0 : Int32).toUInt32 >>> ((1 : Int32).toUInt32 &&& Int32.toUInt32 31)).toInt32) &&& 1431655765)) &&& 858993459) + ((((p0 - ((((p0 : Int32).toUInt32 >>> ((1 : Int32).toUInt32 &&& Int32.toUInt32 31)).toInt32) &&& 1431655765) : Int32).toUInt32 >>> ((2 : Int32).toUInt32 &&& Int32.toUInt32 31)).toInt32) &&& 858993459)) + (((((p0 - ((((p0 : Int32).toUInt32 >>> ((1 : Int32).toUInt32 &&& Int32.toUInt32 31)).toInt32) &&& 1431655765)) &&& 858993459) + ((((p0 - ((((p0 : Int32).toUInt32 >>> ((1 : Int32).toUInt32 &&& Int32.toUInt32 31)).toInt32) &&& 1431655765) : Int32).toUInt32 >>> ((2 : Int32).toUInt32 &&& Int32.toUInt32 31)).toInt32) &&& 858993459) : Int32).toUInt32 >>> ((4 : Int32).toUInt32 &&& Int32.toUInt32 31)).toInt32)) &&& 252645135 : Int32).toUInt32 >>> ((8 : Int32).toUInt32 &&& Int32.toUInt32 31)).toInt32) : Int32).toUInt32 >>> ((16 : Int32).toUInt32 &&& Int32.toUInt32 31)).toInt32)) &&& 63)))) h) : zW (zE d) zm_J6_bitCount_0f7a4 Q (0, [(0, .int p0)], [], h) := by
  refine zq_iload (pc' := 1) rfl rfl rfl rfl ?_
  refine zq_iload (pc' := 2) rfl rfl rfl rfl ?_
  refine zq_ipush (pc' := 3) rfl rfl rfl ?_
  refine zq_iushr (pc' := 4) rfl rfl rfl ?_
  refine zq_ipush (pc' := 7) rfl rfl rfl ?_
  refine zq_iand (pc' := 8) rfl rfl rfl ?_
  refine zq_isub (pc' := 9) rfl rfl rfl ?_
  refine zq_istore (pc' := 10) rfl rfl rfl ?_
  refine zq_iload (pc' := 11) rfl rfl rfl rfl ?_
  refine zq_ipush (pc' := 14) rfl rfl rfl ?_
  refine zq_iand (pc' := 15) rfl rfl rfl ?_
  refine zq_iload (pc' := 16) rfl rfl rfl rfl ?_
  refine zq_ipush (pc' := 17) rfl rfl rfl ?_
  refine zq_iushr (pc' := 18) rfl rfl rfl ?_
  refine zq_ipush (pc' := 21) rfl rfl rfl ?_
  refine zq_iand (pc' := 22) rfl rfl rfl ?_
  refine zq_iadd (pc' := 23) rfl rfl rfl ?_
  refine zq_istore (pc' := 24) rfl rfl rfl ?_
  refine zq_iload (pc' := 25) rfl rfl rfl rfl ?_
  refine zq_iload (pc' := 26) rfl rfl rfl rfl ?_
  refine zq_ipush (pc' := 27) rfl rfl rfl ?_
  refine zq_iushr (pc' := 28) rfl rfl rfl ?_
  refine zq_iadd (pc' := 29) rfl rfl rfl ?_
  refine zq_ipush (pc' := 32) rfl rfl rfl ?_
  refine zq_iand (pc' := 33) rfl rfl rfl ?_
  refine zq_istore (pc' := 34) rfl rfl rfl ?_
  refine zq_iload (pc' := 35) rfl rfl rfl rfl ?_
  refine zq_iload (pc' := 36) rfl rfl rfl rfl ?_
  refine zq_ipush (pc' := 38) rfl rfl rfl ?_
  refine zq_iushr (pc' := 39) rfl rfl rfl ?_
  refine zq_iadd (pc' := 40) rfl rfl rfl ?_
  refine zq_istore (pc' := 41) rfl rfl rfl ?_
  refine zq_iload (pc' := 42) rfl rfl rfl rfl ?_
  refine zq_iload (pc' := 43) rfl rfl rfl rfl ?_
  refine zq_ipush (pc' := 45) rfl rfl rfl ?_
  refine zq_iushr (pc' := 46) rfl rfl rfl ?_
  refine zq_iadd (pc' := 47) rfl rfl rfl ?_
  refine zq_istore (pc' := 48) rfl rfl rfl ?_
  refine zq_iload (pc' := 49) rfl rfl rfl rfl ?_
  refine zq_ipush (pc' := 51) rfl rfl rfl ?_
  refine zq_iand (pc' := 52) rfl rfl rfl ?_
  exact zq_iret rfl trivial H
theorem zr_J9_abs_0f7a4_0 {d : Nat} {Q : zR → zH → Prop} {p0 : Int32} {h : zH} (H :
    zbr (0 ≤ p0)
    (Q (.inl (some (.int p0))) h)
    (Q (.inl (some (.int (-p0)))) h)) : zW (zE d) zm_J9_abs_0f7a4 Q (0, [(0, .int p0)], [], h) := by
  refine zq_iload (pc' := 1) rfl rfl rfl rfl ?_
  refine zq_ifge (pc' := 4) rfl rfl rfl rfl (And.intro (fun c => ?_) (fun c => ?_))
  · have H := H.1 c
    refine zq_iload (pc' := 10) rfl rfl rfl rfl ?_
    exact zq_iret rfl trivial H
  · have H := H.2 c
    refine zq_iload (pc' := 5) rfl rfl rfl rfl ?_
    refine zq_ineg (pc' := 6) rfl rfl rfl ?_
    refine zq_goto (pc' := 10) rfl rfl rfl ?_
    exact zq_iret rfl trivial H
theorem zr_J9_max_7cf53_0 {d : Nat} {Q : zR → zH → Prop} {p0 : Int32} {p1 : Int32} {h : zH} (H :
    zbr (p0 < p1)
    (Q (.inl (some (.int p1))) h)
    (Q (.inl (some (.int p0))) h)) : zW (zE d) zm_J9_max_7cf53 Q (0, [(0, .int p0), (1, .int p1)], [], h) := by
  refine zq_iload (pc' := 1) rfl rfl rfl rfl ?_
  refine zq_iload (pc' := 2) rfl rfl rfl rfl ?_
  refine zq_iclt (pc' := 5) rfl rfl rfl rfl (And.intro (fun c => ?_) (fun c => ?_))
  · have H := H.1 c
    refine zq_iload (pc' := 10) rfl rfl rfl rfl ?_
    exact zq_iret rfl trivial H
  · have H := H.2 c
    refine zq_iload (pc' := 6) rfl rfl rfl rfl ?_
    refine zq_goto (pc' := 10) rfl rfl rfl ?_
    exact zq_iret rfl trivial H
theorem zr_J9_min_7cf53_0 {d : Nat} {Q : zR → zH → Prop} {p0 : Int32} {p1 : Int32} {h : zH} (H :
    zbr (p1 < p0)
    (Q (.inl (some (.int p1))) h)
    (Q (.inl (some (.int p0))) h)) : zW (zE d) zm_J9_min_7cf53 Q (0, [(0, .int p0), (1, .int p1)], [], h) := by
  refine zq_iload (pc' := 1) rfl rfl rfl rfl ?_
  refine zq_iload (pc' := 2) rfl rfl rfl rfl ?_
  refine zq_icgt (pc' := 5) rfl rfl rfl rfl (And.intro (fun c => ?_) (fun c => ?_))
  · have H := H.1 c
    refine zq_iload (pc' := 10) rfl rfl rfl rfl ?_
    exact zq_iret rfl trivial H
  · have H := H.2 c
    refine zq_iload (pc' := 6) rfl rfl rfl rfl ?_
    refine zq_goto (pc' := 10) rfl rfl rfl ?_
    exact zq_iret rfl trivial H
theorem zr_J0_length_8abf5_0 {d : Nat} {Q : zR → zH → Prop} {p0 : Nat} {h : zH} (H :
    ∃ a1 : Nat, zgf h p0 9 0 = some (.ref a1) ∧
    ∃ x2, zal h a1 = some x2 ∧
    zE d 8 [.ref p0] h (fun r4 h3 => match r4 with
      | .inl v5 => ∃ x7 : Int32, v5 = some (.int x7) ∧ Q (.inl (some (.int (x2 >>> (x7 &&& 31))))) h3
      | .inr e6 => Q (.inr e6) h3)) : zW (zE d) zm_J0_length_8abf5 Q (0, [(0, .ref p0)], [], h) := by
  refine zq_aload (pc' := 1) rfl rfl rfl rfl ?_
  obtain ⟨a1, e0, H⟩ := H
  refine zq_getR (pc' := 4) rfl rfl rfl e0 ?_
  obtain ⟨x2, e0, H⟩ := H
  refine zq_alen (pc' := 5) rfl rfl rfl e0 ?_
  refine zq_aload (pc' := 6) rfl rfl rfl rfl ?_
  refine zq_calli (pc' := 9) rfl rfl rfl rfl rfl rfl (zE_mono H (fun r4 h3 H => ?_))
  rcases r4 with v5 | e6
  · obtain ⟨x7, e0, H⟩ := H
    refine Exists.intro x7 (And.intro e0 ?_)
    refine zq_ishr (pc' := 10) rfl rfl rfl ?_
    exact zq_iret rfl trivial H
  · exact H
theorem zr_J0_charAt_5068e_0 {d : Nat} {Q : zR → zH → Prop} {p0 : Nat} {p1 : Int32} {h : zH} (H :
    zE d 9 [.ref p0] h (fun r2 h1 => match r2 with
      | .inl v3 => ∃ x5 : Int32, v3 = some (.int x5) ∧ zbr (x5 = 0)
        (∃ a6 : Nat, zgf h1 p0 9 0 = some (.ref a6) ∧
          False)
        (∃ a7 : Nat, zgf h1 p0 9 0 = some (.ref a7) ∧
          zE d 11 [.ref a7, .int p1] h1 (fun r9 h8 => match r9 with
            | .inl v10 => ∃ x12 : Int32, v10 = some (.int x12) ∧ (0 ≤ x12 ∧ x12 ≤ 65535) ∧ Q (.inl (some (.int x12))) h8
            | .inr e11 => Q (.inr e11) h8))
      | .inr e4 => Q (.inr e4) h1)) : zW (zE d) zm_J0_charAt_5068e Q (0, [(0, .ref p0), (1, .int p1)], [], h) := by
  refine zq_aload (pc' := 1) rfl rfl rfl rfl ?_
  refine zq_calli (pc' := 4) rfl rfl rfl rfl rfl rfl (zE_mono H (fun r2 h1 H => ?_))
  rcases r2 with v3 | e4
  · obtain ⟨x5, e0, H⟩ := H
    refine Exists.intro x5 (And.intro e0 ?_)
    refine zq_ifeq (pc' := 7) rfl rfl rfl rfl (And.intro (fun c => ?_) (fun c => ?_))
    · have H := H.1 c
      refine zq_aload (pc' := 17) rfl rfl rfl rfl ?_
      obtain ⟨a6, e0, H⟩ := H
      refine zq_getR (pc' := 20) rfl rfl rfl e0 ?_
      refine zq_iload (pc' := 21) rfl rfl rfl rfl ?_
      exact H.elim
    · have H := H.2 c
      refine zq_aload (pc' := 8) rfl rfl rfl rfl ?_
      obtain ⟨a7, e0, H⟩ := H
      refine zq_getR (pc' := 11) rfl rfl rfl e0 ?_
      refine zq_iload (pc' := 12) rfl rfl rfl rfl ?_
      refine zq_calli (pc' := 15) rfl rfl rfl rfl rfl rfl (zE_mono H (fun r9 h8 H => ?_))
      rcases r9 with v10 | e11
      · obtain ⟨x12, e0, H⟩ := H
        refine Exists.intro x12 (And.intro e0 ?_)
        exact zq_iret rfl H.1 H.2
      · exact H
  · exact H
theorem zr_J0_indexOf_0f7a4_0 {d : Nat} {Q : zR → zH → Prop} {p0 : Nat} {p1 : Int32} {h : zH} (H :
    zE d 7 [.ref p0, .int p1, .int 0] h (fun r2 h1 => match r2 with
      | .inl v3 => ∃ x5 : Int32, v3 = some (.int x5) ∧ Q (.inl (some (.int x5))) h1
      | .inr e4 => Q (.inr e4) h1)) : zW (zE d) zm_J0_indexOf_0f7a4 Q (0, [(0, .ref p0), (1, .int p1)], [], h) := by
  refine zq_aload (pc' := 1) rfl rfl rfl rfl ?_
  refine zq_iload (pc' := 2) rfl rfl rfl rfl ?_
  refine zq_ipush (pc' := 3) rfl rfl rfl ?_
  refine zq_calli (pc' := 6) rfl rfl rfl rfl rfl rfl (zE_mono H (fun r2 h1 H => ?_))
  rcases r2 with v3 | e4
  · obtain ⟨x5, e0, H⟩ := H
    refine Exists.intro x5 (And.intro e0 ?_)
    exact zq_iret rfl trivial H
  · exact H
theorem zr_J0_indexOf_7cf53_0 {d : Nat} {Q : zR → zH → Prop} {p0 : Nat} {p1 : Int32} {p2 : Int32} {h : zH} (H :
    zE d 9 [.ref p0] h (fun r2 h1 => match r2 with
      | .inl v3 => ∃ x5 : Int32, v3 = some (.int x5) ∧ zbr (x5 = 0)
        (∃ a6 : Nat, zgf h1 p0 9 0 = some (.ref a6) ∧
          zE d 4 [.ref p0] h1 (fun r8 h7 => match r8 with
            | .inl v9 => ∃ x11 : Int32, v9 = some (.int x11) ∧ False
            | .inr e10 => Q (.inr e10) h7))
        (∃ a12 : Nat, zgf h1 p0 9 0 = some (.ref a12) ∧
          zE d 4 [.ref p0] h1 (fun r14 h13 => match r14 with
            | .inl v15 => ∃ x17 : Int32, v15 = some (.int x17) ∧ zE d 13 [.ref a12, .int p1, .int p2, .int x17] h13 (fun r19 h18 => match r19 with
                | .inl v20 => ∃ x22 : Int32, v20 = some (.int x22) ∧ Q (.inl (some (.int x22))) h18
                | .inr e21 => Q (.inr e21) h18)
            | .inr e16 => Q (.inr e16) h13))
      | .inr e4 => Q (.inr e4) h1)) : zW (zE d) zm_J0_indexOf_7cf53 Q (0, [(0, .ref p0), (1, .int p1), (2, .int p2)], [], h) := by
  refine zq_aload (pc' := 1) rfl rfl rfl rfl ?_
  refine zq_calli (pc' := 4) rfl rfl rfl rfl rfl rfl (zE_mono H (fun r2 h1 H => ?_))
  rcases r2 with v3 | e4
  · obtain ⟨x5, e0, H⟩ := H
    refine Exists.intro x5 (And.intro e0 ?_)
    refine zq_ifeq (pc' := 7) rfl rfl rfl rfl (And.intro (fun c => ?_) (fun c => ?_))
    · have H := H.1 c
      refine zq_aload (pc' := 24) rfl rfl rfl rfl ?_
      obtain ⟨a6, e0, H⟩ := H
      refine zq_getR (pc' := 27) rfl rfl rfl e0 ?_
      refine zq_iload (pc' := 28) rfl rfl rfl rfl ?_
      refine zq_iload (pc' := 29) rfl rfl rfl rfl ?_
      refine zq_aload (pc' := 30) rfl rfl rfl rfl ?_
      refine zq_calli (pc' := 33) rfl rfl rfl rfl rfl rfl (zE_mono H (fun r8 h7 H => ?_))
      rcases r8 with v9 | e10
      · obtain ⟨x11, e0, H⟩ := H
        refine Exists.intro x11 (And.intro e0 ?_)
        exact H.elim
      · exact H
    · have H := H.2 c
      refine zq_aload (pc' := 8) rfl rfl rfl rfl ?_
      obtain ⟨a12, e0, H⟩ := H
      refine zq_getR (pc' := 11) rfl rfl rfl e0 ?_
      refine zq_iload (pc' := 12) rfl rfl rfl rfl ?_
      refine zq_iload (pc' := 13) rfl rfl rfl rfl ?_
      refine zq_aload (pc' := 14) rfl rfl rfl rfl ?_
      refine zq_calli (pc' := 17) rfl rfl rfl rfl rfl rfl (zE_mono H (fun r14 h13 H => ?_))
      rcases r14 with v15 | e16
      · obtain ⟨x17, e0, H⟩ := H
        refine Exists.intro x17 (And.intro e0 ?_)
        refine zq_calli (pc' := 20) rfl rfl rfl rfl rfl rfl (zE_mono H (fun r19 h18 H => ?_))
        rcases r19 with v20 | e21
        · obtain ⟨x22, e0, H⟩ := H
          refine Exists.intro x22 (And.intro e0 ?_)
          refine zq_goto (pc' := 36) rfl rfl rfl ?_
          exact zq_iret rfl trivial H
        · exact H
      · exact H
  · exact H
theorem zr_J0_coder_7d493_0 {d : Nat} {Q : zR → zH → Prop} {p0 : Nat} {h : zH} (H :
    zbr ((1 : Int32) = 0)
    ((-128 ≤ (1 : Int32) ∧ (1 : Int32) ≤ 127) ∧ Q (.inl (some (.int 1))) h)
    (∃ x1 : Int32, zgf h p0 9 1 = some (.int x1) ∧
      (-128 ≤ x1 ∧ x1 ≤ 127) ∧ Q (.inl (some (.int x1))) h)) : zW (zE d) zm_J0_coder_7d493 Q (0, [(0, .ref p0)], [], h) := by
  refine zq_ipush (pc' := 3) rfl rfl rfl ?_
  refine zq_ifeq (pc' := 6) rfl rfl rfl rfl (And.intro (fun c => ?_) (fun c => ?_))
  · have H := H.1 c
    refine zq_ipush (pc' := 14) rfl rfl rfl ?_
    exact zq_iret rfl H.1 H.2
  · have H := H.2 c
    refine zq_aload (pc' := 7) rfl rfl rfl rfl ?_
    obtain ⟨x1, e0, H⟩ := H
    refine zq_getI (pc' := 10) rfl rfl rfl e0 ?_
    refine zq_goto (pc' := 14) rfl rfl rfl ?_
    exact zq_iret rfl H.1 H.2
theorem zr_J0_isLatin1_aae02_0 {d : Nat} {Q : zR → zH → Prop} {p0 : Nat} {h : zH} (H :
    zbr ((1 : Int32) = 0)
    (Q (.inl (some (.int 0))) h)
    (∃ x1 : Int32, zgf h p0 9 1 = some (.int x1) ∧
      zbr (x1 = 0)
      (Q (.inl (some (.int 1))) h)
      (Q (.inl (some (.int 0))) h))) : zW (zE d) zm_J0_isLatin1_aae02 Q (0, [(0, .ref p0)], [], h) := by
  refine zq_ipush (pc' := 3) rfl rfl rfl ?_
  refine zq_ifeq (pc' := 6) rfl rfl rfl rfl (And.intro (fun c => ?_) (fun c => ?_))
  · have H := H.1 c
    refine zq_ipush (pc' := 18) rfl rfl rfl ?_
    exact zq_iret rfl (Or.inl rfl) H
  · have H := H.2 c
    refine zq_aload (pc' := 7) rfl rfl rfl rfl ?_
    obtain ⟨x1, e0, H⟩ := H
    refine zq_getI (pc' := 10) rfl rfl rfl e0 ?_
    refine zq_ifne (pc' := 13) rfl rfl rfl rfl (And.intro (fun c => ?_) (fun c => ?_))
    · have H := H.1 c
      refine zq_ipush (pc' := 14) rfl rfl rfl ?_
      refine zq_goto (pc' := 18) rfl rfl rfl ?_
      exact zq_iret rfl (Or.inr rfl) H
    · have H := H.2 c
      refine zq_ipush (pc' := 18) rfl rfl rfl ?_
      exact zq_iret rfl (Or.inl rfl) H
theorem zr_J0_checkIndex_df160_0 {d : Nat} {Q : zR → zH → Prop} {p0 : Int32} {p1 : Int32} {h : zH} (H :
    zE d 15 [.int p0, .int p1, .retAddr 0] h (fun r2 h1 => match r2 with
      | .inl v3 => ∃ x5 : Int32, v3 = some (.int x5) ∧ Q (.inl none) h1
      | .inr e4 => Q (.inr e4) h1)) : zW (zE d) zm_J0_checkIndex_df160 Q (0, [(0, .int p0), (1, .int p1)], [], h) := by
  refine zq_iload (pc' := 1) rfl rfl rfl rfl ?_
  refine zq_iload (pc' := 2) rfl rfl rfl rfl ?_
  refine zq_opush (pc' := 5) rfl rfl rfl ?_
  refine zq_calli (pc' := 8) rfl rfl rfl rfl rfl rfl (zE_mono H (fun r2 h1 H => ?_))
  rcases r2 with v3 | e4
  · obtain ⟨x5, e0, H⟩ := H
    refine Exists.intro x5 (And.intro e0 ?_)
    refine zq_pop (pc' := 9) rfl rfl rfl rfl ?_
    exact zq_vret rfl H
  · exact H
theorem zr_J1_charAt_3b067_0 {d : Nat} {Q : zR → zH → Prop} {p0 : Nat} {p1 : Int32} {h : zH} (H :
    ∃ x1, zal h p0 = some x1 ∧
    zE d 10 [.int p1, .int x1] h (fun r3 h2 => match r3 with
      | .inl v4 => v4 = none ∧ ∃ x6, zba h2 p0 p1 = some x6 ∧
        (0 ≤ (((x6 &&& 255 : Int32).toUInt32 % 65536).toInt32) ∧ (((x6 &&& 255 : Int32).toUInt32 % 65536).toInt32) ≤ 65535) ∧ Q (.inl (some (.int (((x6 &&& 255 : Int32).toUInt32 % 65536).toInt32)))) h2
      | .inr e5 => Q (.inr e5) h2)) : zW (zE d) zm_J1_charAt_3b067 Q (0, [(0, .ref p0), (1, .int p1)], [], h) := by
  refine zq_iload (pc' := 1) rfl rfl rfl rfl ?_
  refine zq_aload (pc' := 2) rfl rfl rfl rfl ?_
  obtain ⟨x1, e0, H⟩ := H
  refine zq_alen (pc' := 3) rfl rfl rfl e0 ?_
  refine zq_callv (pc' := 6) rfl rfl rfl rfl rfl rfl (zE_mono H (fun r3 h2 H => ?_))
  rcases r3 with v4 | e5
  · obtain ⟨e0, H⟩ := H
    refine And.intro e0 ?_
    refine zq_aload (pc' := 7) rfl rfl rfl rfl ?_
    refine zq_iload (pc' := 8) rfl rfl rfl rfl ?_
    obtain ⟨x6, e0, H⟩ := H
    refine zq_bald (pc' := 9) rfl rfl rfl e0 ?_
    refine zq_ipush (pc' := 12) rfl rfl rfl ?_
    refine zq_iand (pc' := 13) rfl rfl rfl ?_
    refine zq_i2c (pc' := 14) rfl rfl rfl ?_
    exact zq_iret rfl H.1 H.2
  · exact H
theorem zr_J1_canEncode_9a6ad_0 {d : Nat} {Q : zR → zH → Prop} {p0 : Int32} {h : zH} (H :
    zbr (p0 < 0)
    (Q (.inl (some (.int 0))) h)
    (zbr (255 < p0)
      (Q (.inl (some (.int 0))) h)
      (Q (.inl (some (.int 1))) h))) : zW (zE d) zm_J1_canEncode_9a6ad Q (0, [(0, .int p0)], [], h) := by
  refine zq_iload (pc' := 1) rfl rfl rfl rfl ?_
  refine zq_iflt (pc' := 4) rfl rfl rfl rfl (And.intro (fun c => ?_) (fun c => ?_))
  · have H := H.1 c
    refine zq_ipush (pc' := 16) rfl rfl rfl ?_
    exact zq_iret rfl (Or.inl rfl) H
  · have H := H.2 c
    refine zq_iload (pc' := 5) rfl rfl rfl rfl ?_
    refine zq_ipush (pc' := 8) rfl rfl rfl ?_
    refine zq_icgt (pc' := 11) rfl rfl rfl rfl (And.intro (fun c => ?_) (fun c => ?_))
    · have H := H.1 c
      refine zq_ipush (pc' := 16) rfl rfl rfl ?_
      exact zq_iret rfl (Or.inl rfl) H
    · have H := H.2 c
      refine zq_ipush (pc' := 12) rfl rfl rfl ?_
      refine zq_goto (pc' := 16) rfl rfl rfl ?_
      exact zq_iret rfl (Or.inr rfl) H
theorem zr_J1_indexOf_4cfef_0 {d : Nat} {Q : zR → zH → Prop} {p0 : Nat} {p1 : Int32} {p2 : Int32} {p3 : Int32} {h : zH} (H :
    zE d 12 [.int p1] h (fun r2 h1 => match r2 with
      | .inl v3 => ∃ x5 : Int32, v3 = some (.int x5) ∧ zbr (x5 = 0)
        (Q (.inl (some (.int (-1)))) h1)
        (zE d 2 [.int p2, .int 0] h1 (fun r7 h6 => match r7 with
            | .inl v8 => ∃ x10 : Int32, v8 = some (.int x10) ∧ ∃ x11, zal h6 p0 = some x11 ∧
              zE d 3 [.int p3, .int x11] h6 (fun r13 h12 => match r13 with
                | .inl v14 => ∃ x16 : Int32, v14 = some (.int x16) ∧ zbr (x10 < x16)
                  (zE d 14 [.ref p0, .int p1, .int x10, .int x16] h12 (fun r18 h17 => match r18 with
                      | .inl v19 => ∃ x21 : Int32, v19 = some (.int x21) ∧ Q (.inl (some (.int x21))) h17
                      | .inr e20 => Q (.inr e20) h17))
                  (Q (.inl (some (.int (-1)))) h12)
                | .inr e15 => Q (.inr e15) h12)
            | .inr e9 => Q (.inr e9) h6))
      | .inr e4 => Q (.inr e4) h1)) : zW (zE d) zm_J1_indexOf_4cfef Q (0, [(0, .ref p0), (1, .int p1), (2, .int p2), (3, .int p3)], [], h) := by
  refine zq_iload (pc' := 1) rfl rfl rfl rfl ?_
  refine zq_calli (pc' := 4) rfl rfl rfl rfl rfl rfl (zE_mono H (fun r2 h1 H => ?_))
  rcases r2 with v3 | e4
  · obtain ⟨x5, e0, H⟩ := H
    refine Exists.intro x5 (And.intro e0 ?_)
    refine zq_ifne (pc' := 7) rfl rfl rfl rfl (And.intro (fun c => ?_) (fun c => ?_))
    · have H := H.1 c
      refine zq_ipushn (pc' := 8) rfl rfl rfl ?_
      exact zq_iret rfl trivial H
    · have H := H.2 c
      refine zq_iload (pc' := 10) rfl rfl rfl rfl ?_
      refine zq_ipush (pc' := 11) rfl rfl rfl ?_
      refine zq_calli (pc' := 14) rfl rfl rfl rfl rfl rfl (zE_mono H (fun r7 h6 H => ?_))
      rcases r7 with v8 | e9
      · obtain ⟨x10, e0, H⟩ := H
        refine Exists.intro x10 (And.intro e0 ?_)
        refine zq_istore (pc' := 15) rfl rfl rfl ?_
        refine zq_iload (pc' := 16) rfl rfl rfl rfl ?_
        refine zq_aload (pc' := 17) rfl rfl rfl rfl ?_
        obtain ⟨x11, e0, H⟩ := H
        refine zq_alen (pc' := 18) rfl rfl rfl e0 ?_
        refine zq_calli (pc' := 21) rfl rfl rfl rfl rfl rfl (zE_mono H (fun r13 h12 H => ?_))
        rcases r13 with v14 | e15
        · obtain ⟨x16, e0, H⟩ := H
          refine Exists.intro x16 (And.intro e0 ?_)
          refine zq_istore (pc' := 22) rfl rfl rfl ?_
          refine zq_iload (pc' := 23) rfl rfl rfl rfl ?_
          refine zq_iload (pc' := 24) rfl rfl rfl rfl ?_
          refine zq_iclt (pc' := 27) rfl rfl rfl rfl (And.intro (fun c => ?_) (fun c => ?_))
          · have H := H.1 c
            refine zq_aload (pc' := 30) rfl rfl rfl rfl ?_
            refine zq_iload (pc' := 31) rfl rfl rfl rfl ?_
            refine zq_iload (pc' := 32) rfl rfl rfl rfl ?_
            refine zq_iload (pc' := 33) rfl rfl rfl rfl ?_
            refine zq_calli (pc' := 36) rfl rfl rfl rfl rfl rfl (zE_mono H (fun r18 h17 H => ?_))
            rcases r18 with v19 | e20
            · obtain ⟨x21, e0, H⟩ := H
              refine Exists.intro x21 (And.intro e0 ?_)
              exact zq_iret rfl trivial H
            · exact H
          · have H := H.2 c
            refine zq_ipushn (pc' := 28) rfl rfl rfl ?_
            exact zq_iret rfl trivial H
        · exact H
      · exact H
  · exact H
theorem zr_J1_indexOfChar_4cfef_0 {d : Nat} {Q : zR → zH → Prop} {p0 : Nat} {p1 : Int32} {p2 : Int32} {p3 : Int32} {h : zH} (H :
    zW (zE d) zm_J1_indexOfChar_4cfef Q (7, [(0, .ref p0), (3, .int p3), (4, .int ((p1 : Int32).toInt8.toInt32)), (5, .int p2)], [], h)) : zW (zE d) zm_J1_indexOfChar_4cfef Q (0, [(0, .ref p0), (1, .int p1), (2, .int p2), (3, .int p3)], [], h) := by
  refine zq_iload (pc' := 1) rfl rfl rfl rfl ?_
  refine zq_i2b (pc' := 2) rfl rfl rfl ?_
  refine zq_istore (pc' := 4) rfl rfl rfl ?_
  refine zq_iload (pc' := 5) rfl rfl rfl rfl ?_
  refine zq_istore_c (pc' := 7) rfl rfl ?_
  exact H
theorem zr_J1_indexOfChar_4cfef_7 {d : Nat} {Q : zR → zH → Prop} {l0 : Nat} {l3 : Int32} {l4 : Int32} {l5 : Int32} {h : zH} (H :
    zbr (l3 ≤ l5)
    (Q (.inl (some (.int (-1)))) h)
    (∃ x1, zba h l0 l5 = some x1 ∧
      zbr (x1 = l4)
      (Q (.inl (some (.int l5))) h)
      (zW (zE d) zm_J1_indexOfChar_4cfef Q (7, [(0, .ref l0), (3, .int l3), (4, .int l4), (5, .int (l5 + 1))], [], h)))) : zW (zE d) zm_J1_indexOfChar_4cfef Q (7, [(0, .ref l0), (3, .int l3), (4, .int l4), (5, .int l5)], [], h) := by
  refine zq_iload (pc' := 9) rfl rfl rfl rfl ?_
  refine zq_iload (pc' := 10) rfl rfl rfl rfl ?_
  refine zq_icge (pc' := 13) rfl rfl rfl rfl (And.intro (fun c => ?_) (fun c => ?_))
  · have H := H.1 c
    refine zq_ipushn (pc' := 32) rfl rfl rfl ?_
    exact zq_iret rfl trivial H
  · have H := H.2 c
    refine zq_aload (pc' := 14) rfl rfl rfl rfl ?_
    refine zq_iload (pc' := 16) rfl rfl rfl rfl ?_
    obtain ⟨x1, e0, H⟩ := H
    refine zq_bald (pc' := 17) rfl rfl rfl e0 ?_
    refine zq_iload (pc' := 19) rfl rfl rfl rfl ?_
    refine zq_icne (pc' := 22) rfl rfl rfl rfl (And.intro (fun c => ?_) (fun c => ?_))
    · have H := H.1 c
      refine zq_iload (pc' := 24) rfl rfl rfl rfl ?_
      exact zq_iret rfl trivial H
    · have H := H.2 c
      refine zq_iinc (pc' := 28) rfl rfl rfl rfl ?_
      refine zq_goto_c (pc' := 7) rfl rfl ?_
      exact H
theorem zr_J3_checkIndex_8e157_0 {d : Nat} {Q : zR → zH → Prop} {p0 : Int32} {p1 : Int32} {p2 : Nat} {h : zH} (H :
    zbr (p0 < 0)
    (False)
    (zbr (p0 < p1)
      (Q (.inl (some (.int p0))) h)
      (False))) : zW (zE d) zm_J3_checkIndex_8e157 Q (0, [(0, .int p0), (1, .int p1), (2, .ref p2)], [], h) := by
  refine zq_iload (pc' := 1) rfl rfl rfl rfl ?_
  refine zq_iflt (pc' := 4) rfl rfl rfl rfl (And.intro (fun c => ?_) (fun c => ?_))
  · have H := H.1 c
    refine zq_aload (pc' := 10) rfl rfl rfl rfl ?_
    refine zq_iload (pc' := 11) rfl rfl rfl rfl ?_
    refine zq_iload (pc' := 12) rfl rfl rfl rfl ?_
    exact H.elim
  · have H := H.2 c
    refine zq_iload (pc' := 5) rfl rfl rfl rfl ?_
    refine zq_iload (pc' := 6) rfl rfl rfl rfl ?_
    refine zq_iclt (pc' := 9) rfl rfl rfl rfl (And.intro (fun c => ?_) (fun c => ?_))
    · have H := H.1 c
      refine zq_iload (pc' := 17) rfl rfl rfl rfl ?_
      exact zq_iret rfl trivial H
    · have H := H.2 c
      refine zq_aload (pc' := 10) rfl rfl rfl rfl ?_
      refine zq_iload (pc' := 11) rfl rfl rfl rfl ?_
      refine zq_iload (pc' := 12) rfl rfl rfl rfl ?_
      exact H.elim
