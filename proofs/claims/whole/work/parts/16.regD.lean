theorem zr_X0_init_0 {d : Nat} {Q : zR → zH → Prop} {p0 : Nat} {h : zH} (H :
    ∃ h1, zna h 1 520 = some h1 ∧
    ∃ h2, zpf h1 p0 0 0 (.ref (999 + h.1)) = some h2 ∧
    ∃ h3, zpf h2 p0 0 1 (.int 0) = some h3 ∧
    ∃ h4, zna h3 0 8 = some h4 ∧
    ∃ h5, zpf h4 p0 0 2 (.ref (999 + h3.1)) = some h5 ∧
    ∃ h6, zpf h5 p0 0 3 (.int 0) = some h6 ∧
    ∃ h7, zna h6 0 3 = some h7 ∧
    ∃ h8, zpf h7 p0 0 4 (.ref (999 + h6.1)) = some h8 ∧
    ∃ h9, zna h8 1 13 = some h9 ∧
    ∃ h10, zpf h9 p0 0 5 (.ref (999 + h8.1)) = some h10 ∧
    Q (.inl none) h10) : zW (zE d) zm_X0_init Q (0, [(0, .ref p0)], [], h) := by
  refine zq_aload (pc' := 1) rfl rfl rfl rfl ?_
  refine zq_nop (pc' := 4) rfl rfl rfl rfl rfl ?_
  refine zq_aload (pc' := 5) rfl rfl rfl rfl ?_
  refine zq_ipush (pc' := 8) rfl rfl rfl ?_
  obtain ⟨h1, e0, H⟩ := H
  refine zq_newa (pc' := 10) rfl rfl rfl e0 ?_
  obtain ⟨h2, e0, H⟩ := H
  refine zq_put (pc' := 13) rfl rfl rfl trivial e0 ?_
  refine zq_aload (pc' := 14) rfl rfl rfl rfl ?_
  refine zq_ipush (pc' := 15) rfl rfl rfl ?_
  obtain ⟨h3, e0, H⟩ := H
  refine zq_put (pc' := 18) rfl rfl rfl trivial e0 ?_
  refine zq_aload (pc' := 19) rfl rfl rfl rfl ?_
  refine zq_ipush (pc' := 21) rfl rfl rfl ?_
  obtain ⟨h4, e0, H⟩ := H
  refine zq_newa (pc' := 23) rfl rfl rfl e0 ?_
  obtain ⟨h5, e0, H⟩ := H
  refine zq_put (pc' := 26) rfl rfl rfl trivial e0 ?_
  refine zq_aload (pc' := 27) rfl rfl rfl rfl ?_
  refine zq_ipush (pc' := 28) rfl rfl rfl ?_
  obtain ⟨h6, e0, H⟩ := H
  refine zq_put (pc' := 31) rfl rfl rfl trivial e0 ?_
  refine zq_aload (pc' := 32) rfl rfl rfl rfl ?_
  refine zq_ipush (pc' := 33) rfl rfl rfl ?_
  obtain ⟨h7, e0, H⟩ := H
  refine zq_newa (pc' := 35) rfl rfl rfl e0 ?_
  obtain ⟨h8, e0, H⟩ := H
  refine zq_put (pc' := 38) rfl rfl rfl trivial e0 ?_
  refine zq_aload (pc' := 39) rfl rfl rfl rfl ?_
  refine zq_ipush (pc' := 41) rfl rfl rfl ?_
  obtain ⟨h9, e0, H⟩ := H
  refine zq_newa (pc' := 43) rfl rfl rfl e0 ?_
  obtain ⟨h10, e0, H⟩ := H
  refine zq_put (pc' := 46) rfl rfl rfl trivial e0 ?_
  exact zq_vret rfl H
theorem zr_X0_actCount_0 {d : Nat} {Q : zR → zH → Prop} {p0 : Nat} {h : zH} (H :
    ∃ x1 : Int32, zgf h p0 0 1 = some (.int x1) ∧
    Q (.inl (some (.int x1))) h) : zW (zE d) zm_X0_actCount Q (0, [(0, .ref p0)], [], h) := by
  refine zq_aload (pc' := 1) rfl rfl rfl rfl ?_
  obtain ⟨x1, e0, H⟩ := H
  refine zq_getI (pc' := 4) rfl rfl rfl e0 ?_
  exact zq_iret rfl trivial H
theorem zr_X0_noteCount_0 {d : Nat} {Q : zR → zH → Prop} {p0 : Nat} {h : zH} (H :
    ∃ x1 : Int32, zgf h p0 0 3 = some (.int x1) ∧
    Q (.inl (some (.int x1))) h) : zW (zE d) zm_X0_noteCount Q (0, [(0, .ref p0)], [], h) := by
  refine zq_aload (pc' := 1) rfl rfl rfl rfl ?_
  obtain ⟨x1, e0, H⟩ := H
  refine zq_getI (pc' := 4) rfl rfl rfl e0 ?_
  exact zq_iret rfl trivial H
theorem zr_X0_refusedOf_0 {d : Nat} {Q : zR → zH → Prop} {p0 : Nat} {p1 : Int32} {h : zH} (H :
    zbr (p1 < 0)
    (Q (.inl (some (.int 0))) h)
    (∃ a1 : Nat, zgf h p0 0 4 = some (.ref a1) ∧
      ∃ x2, zal h a1 = some x2 ∧
      zbr (x2 ≤ p1)
      (Q (.inl (some (.int 0))) h)
      (∃ a3 : Nat, zgf h p0 0 4 = some (.ref a3) ∧
        ∃ x4, zia h a3 p1 = some x4 ∧
        Q (.inl (some (.int x4))) h))) : zW (zE d) zm_X0_refusedOf Q (0, [(0, .ref p0), (1, .int p1)], [], h) := by
  refine zq_iload (pc' := 1) rfl rfl rfl rfl ?_
  refine zq_iflt (pc' := 4) rfl rfl rfl rfl (And.intro (fun c => ?_) (fun c => ?_))
  · have H := H.1 c
    refine zq_ipush (pc' := 23) rfl rfl rfl ?_
    exact zq_iret rfl trivial H
  · have H := H.2 c
    refine zq_iload (pc' := 5) rfl rfl rfl rfl ?_
    refine zq_aload (pc' := 6) rfl rfl rfl rfl ?_
    obtain ⟨a1, e0, H⟩ := H
    refine zq_getR (pc' := 9) rfl rfl rfl e0 ?_
    obtain ⟨x2, e0, H⟩ := H
    refine zq_alen (pc' := 10) rfl rfl rfl e0 ?_
    refine zq_icge (pc' := 13) rfl rfl rfl rfl (And.intro (fun c => ?_) (fun c => ?_))
    · have H := H.1 c
      refine zq_ipush (pc' := 23) rfl rfl rfl ?_
      exact zq_iret rfl trivial H
    · have H := H.2 c
      refine zq_aload (pc' := 14) rfl rfl rfl rfl ?_
      obtain ⟨a3, e0, H⟩ := H
      refine zq_getR (pc' := 17) rfl rfl rfl e0 ?_
      refine zq_iload (pc' := 18) rfl rfl rfl rfl ?_
      obtain ⟨x4, e0, H⟩ := H
      refine zq_iald (pc' := 19) rfl rfl rfl e0 ?_
      refine zq_goto (pc' := 23) rfl rfl rfl ?_
      exact zq_iret rfl trivial H
theorem zr_X0_refuse_0 {d : Nat} {Q : zR → zH → Prop} {p0 : Nat} {p1 : Int32} {h : zH} (H :
    zbr (p1 < 0)
    (Q (.inl none) h)
    (∃ a1 : Nat, zgf h p0 0 4 = some (.ref a1) ∧
      ∃ x2, zal h a1 = some x2 ∧
      zbr (x2 ≤ p1)
      (Q (.inl none) h)
      (∃ a3 : Nat, zgf h p0 0 4 = some (.ref a3) ∧
        ∃ x4, zia h a3 p1 = some x4 ∧
        ∃ h5, zis h a3 p1 (x4 + 1) = some h5 ∧
        Q (.inl none) h5))) : zW (zE d) zm_X0_refuse Q (0, [(0, .ref p0), (1, .int p1)], [], h) := by
  refine zq_iload (pc' := 1) rfl rfl rfl rfl ?_
  refine zq_iflt (pc' := 4) rfl rfl rfl rfl (And.intro (fun c => ?_) (fun c => ?_))
  · have H := H.1 c
    exact zq_vret rfl H
  · have H := H.2 c
    refine zq_iload (pc' := 5) rfl rfl rfl rfl ?_
    refine zq_aload (pc' := 6) rfl rfl rfl rfl ?_
    obtain ⟨a1, e0, H⟩ := H
    refine zq_getR (pc' := 9) rfl rfl rfl e0 ?_
    obtain ⟨x2, e0, H⟩ := H
    refine zq_alen (pc' := 10) rfl rfl rfl e0 ?_
    refine zq_icge (pc' := 13) rfl rfl rfl rfl (And.intro (fun c => ?_) (fun c => ?_))
    · have H := H.1 c
      exact zq_vret rfl H
    · have H := H.2 c
      refine zq_aload (pc' := 14) rfl rfl rfl rfl ?_
      obtain ⟨a3, e0, H⟩ := H
      refine zq_getR (pc' := 17) rfl rfl rfl e0 ?_
      refine zq_iload (pc' := 18) rfl rfl rfl rfl ?_
      refine zq_dup2 (pc' := 19) rfl rfl rfl rfl rfl ?_
      obtain ⟨x4, e0, H⟩ := H
      refine zq_iald (pc' := 20) rfl rfl rfl e0 ?_
      refine zq_ipush (pc' := 21) rfl rfl rfl ?_
      refine zq_iadd (pc' := 22) rfl rfl rfl ?_
      obtain ⟨h5, e0, H⟩ := H
      refine zq_iast (pc' := 23) rfl rfl rfl e0 ?_
      exact zq_vret rfl H
theorem zr_X0_dropActs_0 {d : Nat} {Q : zR → zH → Prop} {p0 : Nat} {h : zH} (H :
    ∃ h1, zpf h p0 0 1 (.int 0) = some h1 ∧
    Q (.inl none) h1) : zW (zE d) zm_X0_dropActs Q (0, [(0, .ref p0)], [], h) := by
  refine zq_aload (pc' := 1) rfl rfl rfl rfl ?_
  refine zq_ipush (pc' := 2) rfl rfl rfl ?_
  obtain ⟨h1, e0, H⟩ := H
  refine zq_put (pc' := 5) rfl rfl rfl trivial e0 ?_
  exact zq_vret rfl H
theorem zr_X0_dropNotes_0 {d : Nat} {Q : zR → zH → Prop} {p0 : Nat} {h : zH} (H :
    ∃ h1, zpf h p0 0 3 (.int 0) = some h1 ∧
    Q (.inl none) h1) : zW (zE d) zm_X0_dropNotes Q (0, [(0, .ref p0)], [], h) := by
  refine zq_aload (pc' := 1) rfl rfl rfl rfl ?_
  refine zq_ipush (pc' := 2) rfl rfl rfl ?_
  obtain ⟨h1, e0, H⟩ := H
  refine zq_put (pc' := 5) rfl rfl rfl trivial e0 ?_
  exact zq_vret rfl H
theorem zr_X0_beginAct_0 {d : Nat} {Q : zR → zH → Prop} {p0 : Nat} {p1 : Nat} {h : zH} (H :
    ∃ x1 : Int32, zgf h p0 0 1 = some (.int x1) ∧
    zbr (x1 < 40)
    (zW (zE d) zm_X0_beginAct Q (32, [(0, .ref p0), (1, .ref p1)], [], h))
    (∃ a2 : Nat, zgf h p0 0 0 = some (.ref a2) ∧
      ∃ a3 : Nat, zgf h p0 0 0 = some (.ref a3) ∧
      ∃ h4, zcj h a2 13 a3 0 507 = some h4 ∧
      ∃ h5, zpf h4 p0 0 1 (.int 39) = some h5 ∧
      zW (zE d) zm_X0_beginAct Q (32, [(0, .ref p0), (1, .ref p1)], [], h5))) : zW (zE d) zm_X0_beginAct Q (0, [(0, .ref p0), (1, .ref p1)], [], h) := by
  refine zq_aload (pc' := 1) rfl rfl rfl rfl ?_
  obtain ⟨x1, e0, H⟩ := H
  refine zq_getI (pc' := 4) rfl rfl rfl e0 ?_
  refine zq_ipush (pc' := 6) rfl rfl rfl ?_
  refine zq_iclt_c (pc' := 9) (lt := [(0, .ref p0), (1, .ref p1)]) (lf := [(0, .ref p0), (1, .ref p1)]) rfl rfl rfl rfl (And.intro (fun c => ?_) (fun c => ?_))
  · have H := H.1 c
    exact H
  · have H := H.2 c
    refine zq_aload (pc' := 10) rfl rfl rfl rfl ?_
    obtain ⟨a2, e0, H⟩ := H
    refine zq_getR (pc' := 13) rfl rfl rfl e0 ?_
    refine zq_ipush (pc' := 15) rfl rfl rfl ?_
    refine zq_aload (pc' := 16) rfl rfl rfl rfl ?_
    obtain ⟨a3, e0, H⟩ := H
    refine zq_getR (pc' := 19) rfl rfl rfl e0 ?_
    refine zq_ipush (pc' := 20) rfl rfl rfl ?_
    refine zq_ipush (pc' := 23) rfl rfl rfl ?_
    obtain ⟨h4, e0, H⟩ := H
    refine zq_cpj (pc' := 26) rfl rfl rfl rfl e0 ?_
    refine zq_aload (pc' := 27) rfl rfl rfl rfl ?_
    refine zq_ipush (pc' := 29) rfl rfl rfl ?_
    obtain ⟨h5, e0, H⟩ := H
    refine zq_put_c (pc' := 32) rfl rfl trivial e0 ?_
    exact H
theorem zr_X0_beginAct_32 {d : Nat} {Q : zR → zH → Prop} {l0 : Nat} {l1 : Nat} {h : zH} (H :
    ∃ a1 : Nat, zgf h l0 0 0 = some (.ref a1) ∧
    ∃ x2 : Int32, zgf h l0 0 1 = some (.int x2) ∧
    zE d 27 [.ref l1, .ref a1, .int (x2 * 13)] h (fun r4 h3 => match r4 with
      | .inl v5 => v5 = none ∧ ∃ x7 : Int32, zgf h3 l0 0 1 = some (.int x7) ∧
        ∃ h8, zpf h3 l0 0 1 (.int (x7 + 1)) = some h8 ∧
        Q (.inl none) h8
      | .inr e6 => Q (.inr e6) h3)) : zW (zE d) zm_X0_beginAct Q (32, [(0, .ref l0), (1, .ref l1)], [], h) := by
  refine zq_aload (pc' := 33) rfl rfl rfl rfl ?_
  refine zq_aload (pc' := 34) rfl rfl rfl rfl ?_
  obtain ⟨a1, e0, H⟩ := H
  refine zq_getR (pc' := 37) rfl rfl rfl e0 ?_
  refine zq_aload (pc' := 38) rfl rfl rfl rfl ?_
  obtain ⟨x2, e0, H⟩ := H
  refine zq_getI (pc' := 41) rfl rfl rfl e0 ?_
  refine zq_ipush (pc' := 43) rfl rfl rfl ?_
  refine zq_imul (pc' := 44) rfl rfl rfl ?_
  refine zq_callv (pc' := 47) rfl rfl rfl rfl rfl rfl (zE_mono H (fun r4 h3 H => ?_))
  rcases r4 with v5 | e6
  · obtain ⟨e0, H⟩ := H
    refine And.intro e0 ?_
    refine zq_aload (pc' := 48) rfl rfl rfl rfl ?_
    refine zq_dup (pc' := 49) rfl rfl rfl rfl ?_
    obtain ⟨x7, e0, H⟩ := H
    refine zq_getI (pc' := 52) rfl rfl rfl e0 ?_
    refine zq_ipush (pc' := 53) rfl rfl rfl ?_
    refine zq_iadd (pc' := 54) rfl rfl rfl ?_
    obtain ⟨h8, e0, H⟩ := H
    refine zq_put (pc' := 57) rfl rfl rfl trivial e0 ?_
    exact zq_vret rfl H
  · exact H
theorem zr_X0_undoAct_0 {d : Nat} {Q : zR → zH → Prop} {p0 : Nat} {p1 : Nat} {h : zH} (H :
    ∃ x1 : Int32, zgf h p0 0 1 = some (.int x1) ∧
    zbr (0 < x1)
    (∃ x2 : Int32, zgf h p0 0 1 = some (.int x2) ∧
      ∃ h3, zpf h p0 0 1 (.int (x2 - 1)) = some h3 ∧
      ∃ a4 : Nat, zgf h3 p0 0 0 = some (.ref a4) ∧
      ∃ x5 : Int32, zgf h3 p0 0 1 = some (.int x5) ∧
      zE d 28 [.ref p1, .ref a4, .int (x5 * 13)] h3 (fun r7 h6 => match r7 with
        | .inl v8 => v8 = none ∧ Q (.inl (some (.int 1))) h6
        | .inr e9 => Q (.inr e9) h6))
    (Q (.inl (some (.int 0))) h)) : zW (zE d) zm_X0_undoAct Q (0, [(0, .ref p0), (1, .ref p1)], [], h) := by
  refine zq_aload (pc' := 1) rfl rfl rfl rfl ?_
  obtain ⟨x1, e0, H⟩ := H
  refine zq_getI (pc' := 4) rfl rfl rfl e0 ?_
  refine zq_ifgt (pc' := 7) rfl rfl rfl rfl (And.intro (fun c => ?_) (fun c => ?_))
  · have H := H.1 c
    refine zq_aload (pc' := 10) rfl rfl rfl rfl ?_
    refine zq_dup (pc' := 11) rfl rfl rfl rfl ?_
    obtain ⟨x2, e0, H⟩ := H
    refine zq_getI (pc' := 14) rfl rfl rfl e0 ?_
    refine zq_ipush (pc' := 15) rfl rfl rfl ?_
    refine zq_isub (pc' := 16) rfl rfl rfl ?_
    obtain ⟨h3, e0, H⟩ := H
    refine zq_put (pc' := 19) rfl rfl rfl trivial e0 ?_
    refine zq_aload (pc' := 20) rfl rfl rfl rfl ?_
    refine zq_aload (pc' := 21) rfl rfl rfl rfl ?_
    obtain ⟨a4, e0, H⟩ := H
    refine zq_getR (pc' := 24) rfl rfl rfl e0 ?_
    refine zq_aload (pc' := 25) rfl rfl rfl rfl ?_
    obtain ⟨x5, e0, H⟩ := H
    refine zq_getI (pc' := 28) rfl rfl rfl e0 ?_
    refine zq_ipush (pc' := 30) rfl rfl rfl ?_
    refine zq_imul (pc' := 31) rfl rfl rfl ?_
    refine zq_callv (pc' := 34) rfl rfl rfl rfl rfl rfl (zE_mono H (fun r7 h6 H => ?_))
    rcases r7 with v8 | e9
    · obtain ⟨e0, H⟩ := H
      refine And.intro e0 ?_
      refine zq_ipush (pc' := 35) rfl rfl rfl ?_
      exact zq_iret rfl (Or.inr rfl) H
    · exact H
  · have H := H.2 c
    refine zq_ipush (pc' := 8) rfl rfl rfl ?_
    exact zq_iret rfl (Or.inl rfl) H
theorem zr_X0_writeNow_0 {d : Nat} {Q : zR → zH → Prop} {p0 : Nat} {p1 : Nat} {h : zH} (H :
    ∃ a1 : Nat, zgf h p0 0 5 = some (.ref a1) ∧
    zE d 27 [.ref p1, .ref a1, .int 0] h (fun r3 h2 => match r3 with
      | .inl v4 => v4 = none ∧ Q (.inl none) h2
      | .inr e5 => Q (.inr e5) h2)) : zW (zE d) zm_X0_writeNow Q (0, [(0, .ref p0), (1, .ref p1)], [], h) := by
  refine zq_aload (pc' := 1) rfl rfl rfl rfl ?_
  refine zq_aload (pc' := 2) rfl rfl rfl rfl ?_
  obtain ⟨a1, e0, H⟩ := H
  refine zq_getR (pc' := 5) rfl rfl rfl e0 ?_
  refine zq_ipush (pc' := 6) rfl rfl rfl ?_
  refine zq_callv (pc' := 9) rfl rfl rfl rfl rfl rfl (zE_mono H (fun r3 h2 H => ?_))
  rcases r3 with v4 | e5
  · obtain ⟨e0, H⟩ := H
    refine And.intro e0 ?_
    exact zq_vret rfl H
  · exact H
theorem zr_X0_readNow_0 {d : Nat} {Q : zR → zH → Prop} {p0 : Nat} {p1 : Nat} {h : zH} (H :
    ∃ a1 : Nat, zgf h p0 0 5 = some (.ref a1) ∧
    zE d 28 [.ref p1, .ref a1, .int 0] h (fun r3 h2 => match r3 with
      | .inl v4 => v4 = none ∧ Q (.inl none) h2
      | .inr e5 => Q (.inr e5) h2)) : zW (zE d) zm_X0_readNow Q (0, [(0, .ref p0), (1, .ref p1)], [], h) := by
  refine zq_aload (pc' := 1) rfl rfl rfl rfl ?_
  refine zq_aload (pc' := 2) rfl rfl rfl rfl ?_
  obtain ⟨a1, e0, H⟩ := H
  refine zq_getR (pc' := 5) rfl rfl rfl e0 ?_
  refine zq_ipush (pc' := 6) rfl rfl rfl ?_
  refine zq_callv (pc' := 9) rfl rfl rfl rfl rfl rfl (zE_mono H (fun r3 h2 H => ?_))
  rcases r3 with v4 | e5
  · obtain ⟨e0, H⟩ := H
    refine And.intro e0 ?_
    exact zq_vret rfl H
  · exact H
theorem zr_X0_write_0 {d : Nat} {Q : zR → zH → Prop} {p0 : Nat} {p1 : Nat} {p2 : Int32} {h : zH} (H :
    zbr (p2 < 0)
    (Q (.inl none) h)
    (∃ x1, zal h p1 = some x1 ∧
      zbr ((p2 + 13) ≤ x1)
      (zW (zE d) zm_X0_write Q (16, [(0, .ref p0), (1, .ref p1), (2, .int p2), (3, .int 0)], [], h))
      (Q (.inl none) h))) : zW (zE d) zm_X0_write Q (0, [(0, .ref p0), (1, .ref p1), (2, .int p2)], [], h) := by
  refine zq_iload (pc' := 1) rfl rfl rfl rfl ?_
  refine zq_iflt (pc' := 4) rfl rfl rfl rfl (And.intro (fun c => ?_) (fun c => ?_))
  · have H := H.1 c
    exact zq_vret rfl H
  · have H := H.2 c
    refine zq_iload (pc' := 5) rfl rfl rfl rfl ?_
    refine zq_ipush (pc' := 7) rfl rfl rfl ?_
    refine zq_iadd (pc' := 8) rfl rfl rfl ?_
    refine zq_aload (pc' := 9) rfl rfl rfl rfl ?_
    obtain ⟨x1, e0, H⟩ := H
    refine zq_alen (pc' := 10) rfl rfl rfl e0 ?_
    refine zq_icle (pc' := 13) rfl rfl rfl rfl (And.intro (fun c => ?_) (fun c => ?_))
    · have H := H.1 c
      refine zq_ipush (pc' := 15) rfl rfl rfl ?_
      refine zq_istore_c (pc' := 16) rfl rfl ?_
      exact H
    · have H := H.2 c
      exact zq_vret rfl H
theorem zr_X0_write_16 {d : Nat} {Q : zR → zH → Prop} {l0 : Nat} {l1 : Nat} {l2 : Int32} {l3 : Int32} {h : zH} (H :
    zE d 46 [.ref l0] h (fun r2 h1 => match r2 with
      | .inl v3 => ∃ x5 : Int32, v3 = some (.int x5) ∧ zbr (x5 ≤ l3)
        (zE d 49 [.ref l0] h1 (fun r7 h6 => match r7 with
            | .inl v8 => ∃ x10 : Int32, v8 = some (.int x10) ∧ ∃ h11, zjs h6 l1 ((l2 + 13) - 1) ((x10 : Int32).toInt64) = some h11 ∧
              Q (.inl none) h11
            | .inr e9 => Q (.inr e9) h6))
        (zbr (4 ≤ l3)
          (zE d 49 [.ref l0] h1 (fun r13 h12 => match r13 with
              | .inl v14 => ∃ x16 : Int32, v14 = some (.int x16) ∧ ∃ h17, zjs h12 l1 ((l2 + 13) - 1) ((x16 : Int32).toInt64) = some h17 ∧
                Q (.inl none) h17
              | .inr e15 => Q (.inr e15) h12))
          (zE d 48 [.ref l0, .int l3] h1 (fun r19 h18 => match r19 with
              | .inl v20 => ∃ a22 : Nat, v20 = some (.ref a22) ∧ zE d 141 [.ref a22] h18 (fun r24 h23 => match r24 with
                  | .inl v25 => ∃ y27 : Int64, v25 = some (.long y27) ∧ ∃ h28, zjs h23 l1 (l2 + (3 * l3)) y27 = some h28 ∧
                    zE d 142 [.ref a22] h28 (fun r30 h29 => match r30 with
                      | .inl v31 => ∃ y33 : Int64, v31 = some (.long y33) ∧ ∃ h34, zjs h29 l1 ((l2 + (3 * l3)) + 1) y33 = some h34 ∧
                        zE d 139 [.ref a22] h34 (fun r36 h35 => match r36 with
                          | .inl v37 => ∃ x39 : Int32, v37 = some (.int x39) ∧ ∃ h40, zjs h35 l1 ((l2 + (3 * l3)) + 2) ((x39 : Int32).toInt64) = some h40 ∧
                            zW (zE d) zm_X0_write Q (16, [(0, .ref l0), (1, .ref l1), (2, .int l2), (3, .int (l3 + 1))], [], h40)
                          | .inr e38 => Q (.inr e38) h35)
                      | .inr e32 => Q (.inr e32) h29)
                  | .inr e26 => Q (.inr e26) h23)
              | .inr e21 => Q (.inr e21) h18)))
      | .inr e4 => Q (.inr e4) h1)) : zW (zE d) zm_X0_write Q (16, [(0, .ref l0), (1, .ref l1), (2, .int l2), (3, .int l3)], [], h) := by
  refine zq_iload (pc' := 17) rfl rfl rfl rfl ?_
  refine zq_aload (pc' := 18) rfl rfl rfl rfl ?_
  refine zq_calli (pc' := 21) rfl rfl rfl rfl rfl rfl (zE_mono H (fun r2 h1 H => ?_))
  rcases r2 with v3 | e4
  · obtain ⟨x5, e0, H⟩ := H
    refine Exists.intro x5 (And.intro e0 ?_)
    refine zq_icge (pc' := 24) rfl rfl rfl rfl (And.intro (fun c => ?_) (fun c => ?_))
    · have H := H.1 c
      refine zq_aload (pc' := 84) rfl rfl rfl rfl ?_
      refine zq_iload (pc' := 85) rfl rfl rfl rfl ?_
      refine zq_ipush (pc' := 87) rfl rfl rfl ?_
      refine zq_iadd (pc' := 88) rfl rfl rfl ?_
      refine zq_ipush (pc' := 89) rfl rfl rfl ?_
      refine zq_isub (pc' := 90) rfl rfl rfl ?_
      refine zq_aload (pc' := 91) rfl rfl rfl rfl ?_
      refine zq_calli (pc' := 94) rfl rfl rfl rfl rfl rfl (zE_mono H (fun r7 h6 H => ?_))
      rcases r7 with v8 | e9
      · obtain ⟨x10, e0, H⟩ := H
        refine Exists.intro x10 (And.intro e0 ?_)
        refine zq_i2l (pc' := 95) rfl rfl rfl ?_
        obtain ⟨h11, e0, H⟩ := H
        refine zq_last (pc' := 96) rfl rfl rfl e0 ?_
        exact zq_vret rfl H
      · exact H
    · have H := H.2 c
      refine zq_iload (pc' := 25) rfl rfl rfl rfl ?_
      refine zq_ipush (pc' := 26) rfl rfl rfl ?_
      refine zq_icge (pc' := 29) rfl rfl rfl rfl (And.intro (fun c => ?_) (fun c => ?_))
      · have H := H.1 c
        refine zq_aload (pc' := 84) rfl rfl rfl rfl ?_
        refine zq_iload (pc' := 85) rfl rfl rfl rfl ?_
        refine zq_ipush (pc' := 87) rfl rfl rfl ?_
        refine zq_iadd (pc' := 88) rfl rfl rfl ?_
        refine zq_ipush (pc' := 89) rfl rfl rfl ?_
        refine zq_isub (pc' := 90) rfl rfl rfl ?_
        refine zq_aload (pc' := 91) rfl rfl rfl rfl ?_
        refine zq_calli (pc' := 94) rfl rfl rfl rfl rfl rfl (zE_mono H (fun r13 h12 H => ?_))
        rcases r13 with v14 | e15
        · obtain ⟨x16, e0, H⟩ := H
          refine Exists.intro x16 (And.intro e0 ?_)
          refine zq_i2l (pc' := 95) rfl rfl rfl ?_
          obtain ⟨h17, e0, H⟩ := H
          refine zq_last (pc' := 96) rfl rfl rfl e0 ?_
          exact zq_vret rfl H
        · exact H
      · have H := H.2 c
        refine zq_aload (pc' := 30) rfl rfl rfl rfl ?_
        refine zq_iload (pc' := 31) rfl rfl rfl rfl ?_
        refine zq_callr (pc' := 34) rfl rfl rfl rfl rfl rfl (zE_mono H (fun r19 h18 H => ?_))
        rcases r19 with v20 | e21
        · obtain ⟨a22, e0, H⟩ := H
          refine Exists.intro a22 (And.intro e0 ?_)
          refine zq_astore (pc' := 36) rfl rfl rfl ?_
          refine zq_aload (pc' := 37) rfl rfl rfl rfl ?_
          refine zq_iload (pc' := 38) rfl rfl rfl rfl ?_
          refine zq_ipush (pc' := 39) rfl rfl rfl ?_
          refine zq_iload (pc' := 40) rfl rfl rfl rfl ?_
          refine zq_imul (pc' := 41) rfl rfl rfl ?_
          refine zq_iadd (pc' := 42) rfl rfl rfl ?_
          refine zq_aload (pc' := 44) rfl rfl rfl rfl ?_
          refine zq_calll (pc' := 47) rfl rfl rfl rfl rfl rfl (zE_mono H (fun r24 h23 H => ?_))
          rcases r24 with v25 | e26
          · obtain ⟨y27, e0, H⟩ := H
            refine Exists.intro y27 (And.intro e0 ?_)
            obtain ⟨h28, e0, H⟩ := H
            refine zq_last (pc' := 48) rfl rfl rfl e0 ?_
            refine zq_aload (pc' := 49) rfl rfl rfl rfl ?_
            refine zq_iload (pc' := 50) rfl rfl rfl rfl ?_
            refine zq_ipush (pc' := 51) rfl rfl rfl ?_
            refine zq_iload (pc' := 52) rfl rfl rfl rfl ?_
            refine zq_imul (pc' := 53) rfl rfl rfl ?_
            refine zq_iadd (pc' := 54) rfl rfl rfl ?_
            refine zq_ipush (pc' := 55) rfl rfl rfl ?_
            refine zq_iadd (pc' := 56) rfl rfl rfl ?_
            refine zq_aload (pc' := 58) rfl rfl rfl rfl ?_
            refine zq_calll (pc' := 61) rfl rfl rfl rfl rfl rfl (zE_mono H (fun r30 h29 H => ?_))
            rcases r30 with v31 | e32
            · obtain ⟨y33, e0, H⟩ := H
              refine Exists.intro y33 (And.intro e0 ?_)
              obtain ⟨h34, e0, H⟩ := H
              refine zq_last (pc' := 62) rfl rfl rfl e0 ?_
              refine zq_aload (pc' := 63) rfl rfl rfl rfl ?_
              refine zq_iload (pc' := 64) rfl rfl rfl rfl ?_
              refine zq_ipush (pc' := 65) rfl rfl rfl ?_
              refine zq_iload (pc' := 66) rfl rfl rfl rfl ?_
              refine zq_imul (pc' := 67) rfl rfl rfl ?_
              refine zq_iadd (pc' := 68) rfl rfl rfl ?_
              refine zq_ipush (pc' := 69) rfl rfl rfl ?_
              refine zq_iadd (pc' := 70) rfl rfl rfl ?_
              refine zq_aload (pc' := 72) rfl rfl rfl rfl ?_
              refine zq_calli (pc' := 75) rfl rfl rfl rfl rfl rfl (zE_mono H (fun r36 h35 H => ?_))
              rcases r36 with v37 | e38
              · obtain ⟨x39, e0, H⟩ := H
                refine Exists.intro x39 (And.intro e0 ?_)
                refine zq_i2l (pc' := 76) rfl rfl rfl ?_
                obtain ⟨h40, e0, H⟩ := H
                refine zq_last (pc' := 77) rfl rfl rfl e0 ?_
                refine zq_iinc (pc' := 80) rfl rfl rfl rfl ?_
                refine zq_goto_c (pc' := 16) rfl rfl ?_
                exact H
              · exact H
            · exact H
          · exact H
        · exact H
  · exact H
theorem zr_X0_read_0 {d : Nat} {Q : zR → zH → Prop} {p0 : Nat} {p1 : Nat} {p2 : Int32} {h : zH} (H :
    zbr (p2 < 0)
    (Q (.inl none) h)
    (∃ x1, zal h p1 = some x1 ∧
      zbr ((p2 + 13) ≤ x1)
      (zW (zE d) zm_X0_read Q (16, [(0, .ref p0), (1, .ref p1), (2, .int p2), (3, .int 0)], [], h))
      (Q (.inl none) h))) : zW (zE d) zm_X0_read Q (0, [(0, .ref p0), (1, .ref p1), (2, .int p2)], [], h) := by
  refine zq_iload (pc' := 1) rfl rfl rfl rfl ?_
  refine zq_iflt (pc' := 4) rfl rfl rfl rfl (And.intro (fun c => ?_) (fun c => ?_))
  · have H := H.1 c
    exact zq_vret rfl H
  · have H := H.2 c
    refine zq_iload (pc' := 5) rfl rfl rfl rfl ?_
    refine zq_ipush (pc' := 7) rfl rfl rfl ?_
    refine zq_iadd (pc' := 8) rfl rfl rfl ?_
    refine zq_aload (pc' := 9) rfl rfl rfl rfl ?_
    obtain ⟨x1, e0, H⟩ := H
    refine zq_alen (pc' := 10) rfl rfl rfl e0 ?_
    refine zq_icle (pc' := 13) rfl rfl rfl rfl (And.intro (fun c => ?_) (fun c => ?_))
    · have H := H.1 c
      refine zq_ipush (pc' := 15) rfl rfl rfl ?_
      refine zq_istore_c (pc' := 16) rfl rfl ?_
      exact H
    · have H := H.2 c
      exact zq_vret rfl H
theorem zr_X0_read_16 {d : Nat} {Q : zR → zH → Prop} {l0 : Nat} {l1 : Nat} {l2 : Int32} {l3 : Int32} {h : zH} (H :
    zE d 46 [.ref l0] h (fun r2 h1 => match r2 with
      | .inl v3 => ∃ x5 : Int32, v3 = some (.int x5) ∧ zbr (x5 ≤ l3)
        (∃ y6, zla h1 l1 ((l2 + 13) - 1) = some y6 ∧
          zE d 50 [.ref l0, .int ((y6 : Int64).toInt32)] h1 (fun r8 h7 => match r8 with
            | .inl v9 => v9 = none ∧ Q (.inl none) h7
            | .inr e10 => Q (.inr e10) h7))
        (zbr (4 ≤ l3)
          (∃ y11, zla h1 l1 ((l2 + 13) - 1) = some y11 ∧
            zE d 50 [.ref l0, .int ((y11 : Int64).toInt32)] h1 (fun r13 h12 => match r13 with
              | .inl v14 => v14 = none ∧ Q (.inl none) h12
              | .inr e15 => Q (.inr e15) h12))
          (zE d 48 [.ref l0, .int l3] h1 (fun r17 h16 => match r17 with
              | .inl v18 => ∃ a20 : Nat, v18 = some (.ref a20) ∧ ∃ y21, zla h16 l1 (l2 + (3 * l3)) = some y21 ∧
                ∃ y22, zla h16 l1 ((l2 + (3 * l3)) + 1) = some y22 ∧
                ∃ y23, zla h16 l1 ((l2 + (3 * l3)) + 2) = some y23 ∧
                zE d 140 [.ref a20, .long y21, .long y22, .int ((y23 : Int64).toInt32)] h16 (fun r25 h24 => match r25 with
                  | .inl v26 => v26 = none ∧ zW (zE d) zm_X0_read Q (16, [(0, .ref l0), (1, .ref l1), (2, .int l2), (3, .int (l3 + 1))], [], h24)
                  | .inr e27 => Q (.inr e27) h24)
              | .inr e19 => Q (.inr e19) h16)))
      | .inr e4 => Q (.inr e4) h1)) : zW (zE d) zm_X0_read Q (16, [(0, .ref l0), (1, .ref l1), (2, .int l2), (3, .int l3)], [], h) := by
  refine zq_iload (pc' := 17) rfl rfl rfl rfl ?_
  refine zq_aload (pc' := 18) rfl rfl rfl rfl ?_
  refine zq_calli (pc' := 21) rfl rfl rfl rfl rfl rfl (zE_mono H (fun r2 h1 H => ?_))
  rcases r2 with v3 | e4
  · obtain ⟨x5, e0, H⟩ := H
    refine Exists.intro x5 (And.intro e0 ?_)
    refine zq_icge (pc' := 24) rfl rfl rfl rfl (And.intro (fun c => ?_) (fun c => ?_))
    · have H := H.1 c
      refine zq_aload (pc' := 68) rfl rfl rfl rfl ?_
      refine zq_aload (pc' := 69) rfl rfl rfl rfl ?_
      refine zq_iload (pc' := 70) rfl rfl rfl rfl ?_
      refine zq_ipush (pc' := 72) rfl rfl rfl ?_
      refine zq_iadd (pc' := 73) rfl rfl rfl ?_
      refine zq_ipush (pc' := 74) rfl rfl rfl ?_
      refine zq_isub (pc' := 75) rfl rfl rfl ?_
      obtain ⟨y6, e0, H⟩ := H
      refine zq_lald (pc' := 76) rfl rfl rfl e0 ?_
      refine zq_l2i (pc' := 77) rfl rfl rfl ?_
      refine zq_callv (pc' := 80) rfl rfl rfl rfl rfl rfl (zE_mono H (fun r8 h7 H => ?_))
      rcases r8 with v9 | e10
      · obtain ⟨e0, H⟩ := H
        refine And.intro e0 ?_
        exact zq_vret rfl H
      · exact H
    · have H := H.2 c
      refine zq_iload (pc' := 25) rfl rfl rfl rfl ?_
      refine zq_ipush (pc' := 26) rfl rfl rfl ?_
      refine zq_icge (pc' := 29) rfl rfl rfl rfl (And.intro (fun c => ?_) (fun c => ?_))
      · have H := H.1 c
        refine zq_aload (pc' := 68) rfl rfl rfl rfl ?_
        refine zq_aload (pc' := 69) rfl rfl rfl rfl ?_
        refine zq_iload (pc' := 70) rfl rfl rfl rfl ?_
        refine zq_ipush (pc' := 72) rfl rfl rfl ?_
        refine zq_iadd (pc' := 73) rfl rfl rfl ?_
        refine zq_ipush (pc' := 74) rfl rfl rfl ?_
        refine zq_isub (pc' := 75) rfl rfl rfl ?_
        obtain ⟨y11, e0, H⟩ := H
        refine zq_lald (pc' := 76) rfl rfl rfl e0 ?_
        refine zq_l2i (pc' := 77) rfl rfl rfl ?_
        refine zq_callv (pc' := 80) rfl rfl rfl rfl rfl rfl (zE_mono H (fun r13 h12 H => ?_))
        rcases r13 with v14 | e15
        · obtain ⟨e0, H⟩ := H
          refine And.intro e0 ?_
          exact zq_vret rfl H
        · exact H
      · have H := H.2 c
        refine zq_iload (pc' := 30) rfl rfl rfl rfl ?_
        refine zq_ipush (pc' := 31) rfl rfl rfl ?_
        refine zq_iload (pc' := 32) rfl rfl rfl rfl ?_
        refine zq_imul (pc' := 33) rfl rfl rfl ?_
        refine zq_iadd (pc' := 34) rfl rfl rfl ?_
        refine zq_istore (pc' := 36) rfl rfl rfl ?_
        refine zq_aload (pc' := 37) rfl rfl rfl rfl ?_
        refine zq_iload (pc' := 38) rfl rfl rfl rfl ?_
        refine zq_callr (pc' := 41) rfl rfl rfl rfl rfl rfl (zE_mono H (fun r17 h16 H => ?_))
        rcases r17 with v18 | e19
        · obtain ⟨a20, e0, H⟩ := H
          refine Exists.intro a20 (And.intro e0 ?_)
          refine zq_aload (pc' := 42) rfl rfl rfl rfl ?_
          refine zq_iload (pc' := 44) rfl rfl rfl rfl ?_
          obtain ⟨y21, e0, H⟩ := H
          refine zq_lald (pc' := 45) rfl rfl rfl e0 ?_
          refine zq_aload (pc' := 46) rfl rfl rfl rfl ?_
          refine zq_iload (pc' := 48) rfl rfl rfl rfl ?_
          refine zq_ipush (pc' := 49) rfl rfl rfl ?_
          refine zq_iadd (pc' := 50) rfl rfl rfl ?_
          obtain ⟨y22, e0, H⟩ := H
          refine zq_lald (pc' := 51) rfl rfl rfl e0 ?_
          refine zq_aload (pc' := 52) rfl rfl rfl rfl ?_
          refine zq_iload (pc' := 54) rfl rfl rfl rfl ?_
          refine zq_ipush (pc' := 55) rfl rfl rfl ?_
          refine zq_iadd (pc' := 56) rfl rfl rfl ?_
          obtain ⟨y23, e0, H⟩ := H
          refine zq_lald (pc' := 57) rfl rfl rfl e0 ?_
          refine zq_l2i (pc' := 58) rfl rfl rfl ?_
          refine zq_callv (pc' := 61) rfl rfl rfl rfl rfl rfl (zE_mono H (fun r25 h24 H => ?_))
          rcases r25 with v26 | e27
          · obtain ⟨e0, H⟩ := H
            refine And.intro e0 ?_
            refine zq_iinc (pc' := 64) rfl rfl rfl rfl ?_
            refine zq_goto_c (pc' := 16) rfl rfl ?_
            exact H
          · exact H
        · exact H
  · exact H
theorem zr_X0_copyAll_0 {d : Nat} {Q : zR → zH → Prop} {p0 : Nat} {p1 : Nat} {h : zH} (H :
    ∃ a1 : Nat, zgf h p1 0 0 = some (.ref a1) ∧
    ∃ a2 : Nat, zgf h p0 0 0 = some (.ref a2) ∧
    ∃ a3 : Nat, zgf h p0 0 0 = some (.ref a3) ∧
    ∃ x4, zal h a3 = some x4 ∧
    ∃ h5, zcj h a1 0 a2 0 x4 = some h5 ∧
    ∃ x6 : Int32, zgf h5 p1 0 1 = some (.int x6) ∧
    ∃ h7, zpf h5 p0 0 1 (.int x6) = some h7 ∧
    ∃ a8 : Nat, zgf h7 p1 0 2 = some (.ref a8) ∧
    ∃ a9 : Nat, zgf h7 p0 0 2 = some (.ref a9) ∧
    ∃ a10 : Nat, zgf h7 p0 0 2 = some (.ref a10) ∧
    ∃ x11, zal h7 a10 = some x11 ∧
    ∃ h12, zci h7 a8 0 a9 0 x11 = some h12 ∧
    ∃ x13 : Int32, zgf h12 p1 0 3 = some (.int x13) ∧
    ∃ h14, zpf h12 p0 0 3 (.int x13) = some h14 ∧
    ∃ a15 : Nat, zgf h14 p1 0 4 = some (.ref a15) ∧
    ∃ a16 : Nat, zgf h14 p0 0 4 = some (.ref a16) ∧
    ∃ a17 : Nat, zgf h14 p0 0 4 = some (.ref a17) ∧
    ∃ x18, zal h14 a17 = some x18 ∧
    ∃ h19, zci h14 a15 0 a16 0 x18 = some h19 ∧
    ∃ a20 : Nat, zgf h19 p1 0 5 = some (.ref a20) ∧
    ∃ a21 : Nat, zgf h19 p0 0 5 = some (.ref a21) ∧
    ∃ a22 : Nat, zgf h19 p0 0 5 = some (.ref a22) ∧
    ∃ x23, zal h19 a22 = some x23 ∧
    ∃ h24, zcj h19 a20 0 a21 0 x23 = some h24 ∧
    Q (.inl none) h24) : zW (zE d) zm_X0_copyAll Q (0, [(0, .ref p0), (1, .ref p1)], [], h) := by
  refine zq_aload (pc' := 1) rfl rfl rfl rfl ?_
  obtain ⟨a1, e0, H⟩ := H
  refine zq_getR (pc' := 4) rfl rfl rfl e0 ?_
  refine zq_ipush (pc' := 5) rfl rfl rfl ?_
  refine zq_aload (pc' := 6) rfl rfl rfl rfl ?_
  obtain ⟨a2, e0, H⟩ := H
  refine zq_getR (pc' := 9) rfl rfl rfl e0 ?_
  refine zq_ipush (pc' := 10) rfl rfl rfl ?_
  refine zq_aload (pc' := 11) rfl rfl rfl rfl ?_
  obtain ⟨a3, e0, H⟩ := H
  refine zq_getR (pc' := 14) rfl rfl rfl e0 ?_
  obtain ⟨x4, e0, H⟩ := H
  refine zq_alen (pc' := 15) rfl rfl rfl e0 ?_
  obtain ⟨h5, e0, H⟩ := H
  refine zq_cpj (pc' := 18) rfl rfl rfl rfl e0 ?_
  refine zq_aload (pc' := 19) rfl rfl rfl rfl ?_
  refine zq_aload (pc' := 20) rfl rfl rfl rfl ?_
  obtain ⟨x6, e0, H⟩ := H
  refine zq_getI (pc' := 23) rfl rfl rfl e0 ?_
  obtain ⟨h7, e0, H⟩ := H
  refine zq_put (pc' := 26) rfl rfl rfl trivial e0 ?_
  refine zq_aload (pc' := 27) rfl rfl rfl rfl ?_
  obtain ⟨a8, e0, H⟩ := H
  refine zq_getR (pc' := 30) rfl rfl rfl e0 ?_
  refine zq_ipush (pc' := 31) rfl rfl rfl ?_
  refine zq_aload (pc' := 32) rfl rfl rfl rfl ?_
  obtain ⟨a9, e0, H⟩ := H
  refine zq_getR (pc' := 35) rfl rfl rfl e0 ?_
  refine zq_ipush (pc' := 36) rfl rfl rfl ?_
  refine zq_aload (pc' := 37) rfl rfl rfl rfl ?_
  obtain ⟨a10, e0, H⟩ := H
  refine zq_getR (pc' := 40) rfl rfl rfl e0 ?_
  obtain ⟨x11, e0, H⟩ := H
  refine zq_alen (pc' := 41) rfl rfl rfl e0 ?_
  obtain ⟨h12, e0, H⟩ := H
  refine zq_cpi (pc' := 44) rfl rfl rfl rfl e0 ?_
  refine zq_aload (pc' := 45) rfl rfl rfl rfl ?_
  refine zq_aload (pc' := 46) rfl rfl rfl rfl ?_
  obtain ⟨x13, e0, H⟩ := H
  refine zq_getI (pc' := 49) rfl rfl rfl e0 ?_
  obtain ⟨h14, e0, H⟩ := H
  refine zq_put (pc' := 52) rfl rfl rfl trivial e0 ?_
  refine zq_aload (pc' := 53) rfl rfl rfl rfl ?_
  obtain ⟨a15, e0, H⟩ := H
  refine zq_getR (pc' := 56) rfl rfl rfl e0 ?_
  refine zq_ipush (pc' := 57) rfl rfl rfl ?_
  refine zq_aload (pc' := 58) rfl rfl rfl rfl ?_
  obtain ⟨a16, e0, H⟩ := H
  refine zq_getR (pc' := 61) rfl rfl rfl e0 ?_
  refine zq_ipush (pc' := 62) rfl rfl rfl ?_
  refine zq_aload (pc' := 63) rfl rfl rfl rfl ?_
  obtain ⟨a17, e0, H⟩ := H
  refine zq_getR (pc' := 66) rfl rfl rfl e0 ?_
  obtain ⟨x18, e0, H⟩ := H
  refine zq_alen (pc' := 67) rfl rfl rfl e0 ?_
  obtain ⟨h19, e0, H⟩ := H
  refine zq_cpi (pc' := 70) rfl rfl rfl rfl e0 ?_
  refine zq_aload (pc' := 71) rfl rfl rfl rfl ?_
  obtain ⟨a20, e0, H⟩ := H
  refine zq_getR (pc' := 74) rfl rfl rfl e0 ?_
  refine zq_ipush (pc' := 75) rfl rfl rfl ?_
  refine zq_aload (pc' := 76) rfl rfl rfl rfl ?_
  obtain ⟨a21, e0, H⟩ := H
  refine zq_getR (pc' := 79) rfl rfl rfl e0 ?_
  refine zq_ipush (pc' := 80) rfl rfl rfl ?_
  refine zq_aload (pc' := 81) rfl rfl rfl rfl ?_
  obtain ⟨a22, e0, H⟩ := H
  refine zq_getR (pc' := 84) rfl rfl rfl e0 ?_
  obtain ⟨x23, e0, H⟩ := H
  refine zq_alen (pc' := 85) rfl rfl rfl e0 ?_
  obtain ⟨h24, e0, H⟩ := H
  refine zq_cpj (pc' := 88) rfl rfl rfl rfl e0 ?_
  exact zq_vret rfl H
theorem zr_X0_addNote_0 {d : Nat} {Q : zR → zH → Prop} {p0 : Nat} {p1 : Int32} {p2 : Int32} {p3 : Int32} {p4 : Int32} {h : zH} (H :
    ∃ x1 : Int32, zgf h p0 0 3 = some (.int x1) ∧
    zbr (x1 < 0)
    (Q (.inl (some (.int 0))) h)
    (∃ x2 : Int32, zgf h p0 0 3 = some (.int x2) ∧
      ∃ a3 : Nat, zgf h p0 0 2 = some (.ref a3) ∧
      ∃ x4, zal h a3 = some x4 ∧
      zbr (x2 < x4)
      (∃ a5 : Nat, zgf h p0 0 2 = some (.ref a5) ∧
        ∃ x6 : Int32, zgf h p0 0 3 = some (.int x6) ∧
        zbr (p4 = 0)
        (∃ h7, zis h a5 x6 ((((p1 <<< ((10 : Int32) &&& 31)) ||| (p2 <<< ((6 : Int32) &&& 31))) ||| (p3 <<< ((1 : Int32) &&& 31))) ||| 0) = some h7 ∧
          ∃ x8 : Int32, zgf h7 p0 0 3 = some (.int x8) ∧
          ∃ h9, zpf h7 p0 0 3 (.int (x8 + 1)) = some h9 ∧
          Q (.inl (some (.int 1))) h9)
        (∃ h10, zis h a5 x6 ((((p1 <<< ((10 : Int32) &&& 31)) ||| (p2 <<< ((6 : Int32) &&& 31))) ||| (p3 <<< ((1 : Int32) &&& 31))) ||| 1) = some h10 ∧
          ∃ x11 : Int32, zgf h10 p0 0 3 = some (.int x11) ∧
          ∃ h12, zpf h10 p0 0 3 (.int (x11 + 1)) = some h12 ∧
          Q (.inl (some (.int 1))) h12))
      (Q (.inl (some (.int 0))) h))) : zW (zE d) zm_X0_addNote Q (0, [(0, .ref p0), (1, .int p1), (2, .int p2), (3, .int p3), (4, .int p4)], [], h) := by
  refine zq_aload (pc' := 1) rfl rfl rfl rfl ?_
  obtain ⟨x1, e0, H⟩ := H
  refine zq_getI (pc' := 4) rfl rfl rfl e0 ?_
  refine zq_iflt (pc' := 7) rfl rfl rfl rfl (And.intro (fun c => ?_) (fun c => ?_))
  · have H := H.1 c
    refine zq_ipush (pc' := 20) rfl rfl rfl ?_
    exact zq_iret rfl (Or.inl rfl) H
  · have H := H.2 c
    refine zq_aload (pc' := 8) rfl rfl rfl rfl ?_
    obtain ⟨x2, e0, H⟩ := H
    refine zq_getI (pc' := 11) rfl rfl rfl e0 ?_
    refine zq_aload (pc' := 12) rfl rfl rfl rfl ?_
    obtain ⟨a3, e0, H⟩ := H
    refine zq_getR (pc' := 15) rfl rfl rfl e0 ?_
    obtain ⟨x4, e0, H⟩ := H
    refine zq_alen (pc' := 16) rfl rfl rfl e0 ?_
    refine zq_iclt (pc' := 19) rfl rfl rfl rfl (And.intro (fun c => ?_) (fun c => ?_))
    · have H := H.1 c
      refine zq_aload (pc' := 22) rfl rfl rfl rfl ?_
      obtain ⟨a5, e0, H⟩ := H
      refine zq_getR (pc' := 25) rfl rfl rfl e0 ?_
      refine zq_aload (pc' := 26) rfl rfl rfl rfl ?_
      obtain ⟨x6, e0, H⟩ := H
      refine zq_getI (pc' := 29) rfl rfl rfl e0 ?_
      refine zq_iload (pc' := 30) rfl rfl rfl rfl ?_
      refine zq_ipush (pc' := 32) rfl rfl rfl ?_
      refine zq_ishl (pc' := 33) rfl rfl rfl ?_
      refine zq_iload (pc' := 34) rfl rfl rfl rfl ?_
      refine zq_ipush (pc' := 36) rfl rfl rfl ?_
      refine zq_ishl (pc' := 37) rfl rfl rfl ?_
      refine zq_ior (pc' := 38) rfl rfl rfl ?_
      refine zq_iload (pc' := 39) rfl rfl rfl rfl ?_
      refine zq_ipush (pc' := 40) rfl rfl rfl ?_
      refine zq_ishl (pc' := 41) rfl rfl rfl ?_
      refine zq_ior (pc' := 42) rfl rfl rfl ?_
      refine zq_iload (pc' := 44) rfl rfl rfl rfl ?_
      refine zq_ifeq (pc' := 47) rfl rfl rfl rfl (And.intro (fun c => ?_) (fun c => ?_))
      · have H := H.1 c
        refine zq_ipush (pc' := 52) rfl rfl rfl ?_
        refine zq_ior (pc' := 53) rfl rfl rfl ?_
        obtain ⟨h7, e0, H⟩ := H
        refine zq_iast (pc' := 54) rfl rfl rfl e0 ?_
        refine zq_aload (pc' := 55) rfl rfl rfl rfl ?_
        refine zq_dup (pc' := 56) rfl rfl rfl rfl ?_
        obtain ⟨x8, e0, H⟩ := H
        refine zq_getI (pc' := 59) rfl rfl rfl e0 ?_
        refine zq_ipush (pc' := 60) rfl rfl rfl ?_
        refine zq_iadd (pc' := 61) rfl rfl rfl ?_
        obtain ⟨h9, e0, H⟩ := H
        refine zq_put (pc' := 64) rfl rfl rfl trivial e0 ?_
        refine zq_ipush (pc' := 65) rfl rfl rfl ?_
        exact zq_iret rfl (Or.inr rfl) H
      · have H := H.2 c
        refine zq_ipush (pc' := 48) rfl rfl rfl ?_
        refine zq_goto (pc' := 52) rfl rfl rfl ?_
        refine zq_ior (pc' := 53) rfl rfl rfl ?_
        obtain ⟨h10, e0, H⟩ := H
        refine zq_iast (pc' := 54) rfl rfl rfl e0 ?_
        refine zq_aload (pc' := 55) rfl rfl rfl rfl ?_
        refine zq_dup (pc' := 56) rfl rfl rfl rfl ?_
        obtain ⟨x11, e0, H⟩ := H
        refine zq_getI (pc' := 59) rfl rfl rfl e0 ?_
        refine zq_ipush (pc' := 60) rfl rfl rfl ?_
        refine zq_iadd (pc' := 61) rfl rfl rfl ?_
        obtain ⟨h12, e0, H⟩ := H
        refine zq_put (pc' := 64) rfl rfl rfl trivial e0 ?_
        refine zq_ipush (pc' := 65) rfl rfl rfl ?_
        exact zq_iret rfl (Or.inr rfl) H
    · have H := H.2 c
      refine zq_ipush (pc' := 20) rfl rfl rfl ?_
      exact zq_iret rfl (Or.inl rfl) H
theorem zr_X0_lastNoted_0 {d : Nat} {Q : zR → zH → Prop} {p0 : Nat} {p1 : Int32} {h : zH} (H :
    zW (zE d) zm_X0_lastNoted Q (4, [(0, .ref p0), (1, .int p1), (2, .int (-1)), (3, .int 0)], [], h)) : zW (zE d) zm_X0_lastNoted Q (0, [(0, .ref p0), (1, .int p1)], [], h) := by
  refine zq_ipushn (pc' := 1) rfl rfl rfl ?_
  refine zq_istore (pc' := 2) rfl rfl rfl ?_
  refine zq_ipush (pc' := 3) rfl rfl rfl ?_
  refine zq_istore_c (pc' := 4) rfl rfl ?_
  exact H
theorem zr_X0_lastNoted_4 {d : Nat} {Q : zR → zH → Prop} {l0 : Nat} {l1 : Int32} {l2 : Int32} {l3 : Int32} {h : zH} (H :
    ∃ x1 : Int32, zgf h l0 0 3 = some (.int x1) ∧
    zbr (x1 ≤ l3)
    (Q (.inl (some (.int l2))) h)
    (∃ a2 : Nat, zgf h l0 0 2 = some (.ref a2) ∧
      ∃ x3, zal h a2 = some x3 ∧
      zbr (x3 ≤ l3)
      (Q (.inl (some (.int l2))) h)
      (∃ a4 : Nat, zgf h l0 0 2 = some (.ref a4) ∧
        ∃ x5, zia h a4 l3 = some x5 ∧
        zbr ((x5 >>> ((10 : Int32) &&& 31)) = l1)
        (∃ a6 : Nat, zgf h l0 0 2 = some (.ref a6) ∧
          ∃ x7, zia h a6 l3 = some x7 ∧
          zE d 2 [.int l2, .int ((x7 >>> ((1 : Int32) &&& 31)) &&& 31)] h (fun r9 h8 => match r9 with
            | .inl v10 => ∃ x12 : Int32, v10 = some (.int x12) ∧ zW (zE d) zm_X0_lastNoted Q (4, [(0, .ref l0), (1, .int l1), (2, .int x12), (3, .int (l3 + 1))], [], h8)
            | .inr e11 => Q (.inr e11) h8))
        (zW (zE d) zm_X0_lastNoted Q (4, [(0, .ref l0), (1, .int l1), (2, .int l2), (3, .int (l3 + 1))], [], h))))) : zW (zE d) zm_X0_lastNoted Q (4, [(0, .ref l0), (1, .int l1), (2, .int l2), (3, .int l3)], [], h) := by
  refine zq_iload (pc' := 5) rfl rfl rfl rfl ?_
  refine zq_aload (pc' := 6) rfl rfl rfl rfl ?_
  obtain ⟨x1, e0, H⟩ := H
  refine zq_getI (pc' := 9) rfl rfl rfl e0 ?_
  refine zq_icge (pc' := 12) rfl rfl rfl rfl (And.intro (fun c => ?_) (fun c => ?_))
  · have H := H.1 c
    refine zq_iload (pc' := 57) rfl rfl rfl rfl ?_
    exact zq_iret rfl trivial H
  · have H := H.2 c
    refine zq_iload (pc' := 13) rfl rfl rfl rfl ?_
    refine zq_aload (pc' := 14) rfl rfl rfl rfl ?_
    obtain ⟨a2, e0, H⟩ := H
    refine zq_getR (pc' := 17) rfl rfl rfl e0 ?_
    obtain ⟨x3, e0, H⟩ := H
    refine zq_alen (pc' := 18) rfl rfl rfl e0 ?_
    refine zq_icge (pc' := 21) rfl rfl rfl rfl (And.intro (fun c => ?_) (fun c => ?_))
    · have H := H.1 c
      refine zq_iload (pc' := 57) rfl rfl rfl rfl ?_
      exact zq_iret rfl trivial H
    · have H := H.2 c
      refine zq_aload (pc' := 22) rfl rfl rfl rfl ?_
      obtain ⟨a4, e0, H⟩ := H
      refine zq_getR (pc' := 25) rfl rfl rfl e0 ?_
      refine zq_iload (pc' := 26) rfl rfl rfl rfl ?_
      obtain ⟨x5, e0, H⟩ := H
      refine zq_iald (pc' := 27) rfl rfl rfl e0 ?_
      refine zq_ipush (pc' := 29) rfl rfl rfl ?_
      refine zq_ishr (pc' := 30) rfl rfl rfl ?_
      refine zq_iload (pc' := 31) rfl rfl rfl rfl ?_
      refine zq_icne (pc' := 34) rfl rfl rfl rfl (And.intro (fun c => ?_) (fun c => ?_))
      · have H := H.1 c
        refine zq_iload (pc' := 35) rfl rfl rfl rfl ?_
        refine zq_aload (pc' := 36) rfl rfl rfl rfl ?_
        obtain ⟨a6, e0, H⟩ := H
        refine zq_getR (pc' := 39) rfl rfl rfl e0 ?_
        refine zq_iload (pc' := 40) rfl rfl rfl rfl ?_
        obtain ⟨x7, e0, H⟩ := H
        refine zq_iald (pc' := 41) rfl rfl rfl e0 ?_
        refine zq_ipush (pc' := 42) rfl rfl rfl ?_
        refine zq_ishr (pc' := 43) rfl rfl rfl ?_
        refine zq_ipush (pc' := 45) rfl rfl rfl ?_
        refine zq_iand (pc' := 46) rfl rfl rfl ?_
        refine zq_calli (pc' := 49) rfl rfl rfl rfl rfl rfl (zE_mono H (fun r9 h8 H => ?_))
        rcases r9 with v10 | e11
        · obtain ⟨x12, e0, H⟩ := H
          refine Exists.intro x12 (And.intro e0 ?_)
          refine zq_istore (pc' := 50) rfl rfl rfl ?_
          refine zq_iinc (pc' := 53) rfl rfl rfl rfl ?_
          refine zq_goto_c (pc' := 4) rfl rfl ?_
          exact H
        · exact H
      · have H := H.2 c
        refine zq_iinc (pc' := 53) rfl rfl rfl rfl ?_
        refine zq_goto_c (pc' := 4) rfl rfl ?_
        exact H
theorem zr_X0_agrees_0 {d : Nat} {Q : zR → zH → Prop} {p0 : Nat} {p1 : Int32} {p2 : Int32} {p3 : Int32} {h : zH} (H :
    zW (zE d) zm_X0_agrees Q (3, [(0, .ref p0), (1, .int p1), (2, .int p2), (3, .int p3), (4, .int 0)], [], h)) : zW (zE d) zm_X0_agrees Q (0, [(0, .ref p0), (1, .int p1), (2, .int p2), (3, .int p3)], [], h) := by
  refine zq_ipush (pc' := 1) rfl rfl rfl ?_
  refine zq_istore_c (pc' := 3) rfl rfl ?_
  exact H
theorem zr_X0_agrees_3 {d : Nat} {Q : zR → zH → Prop} {l0 : Nat} {l1 : Int32} {l2 : Int32} {l3 : Int32} {l4 : Int32} {h : zH} (H :
    ∃ x1 : Int32, zgf h l0 0 3 = some (.int x1) ∧
    zbr (x1 ≤ l4)
    (Q (.inl (some (.int 1))) h)
    (∃ a2 : Nat, zgf h l0 0 2 = some (.ref a2) ∧
      ∃ x3, zal h a2 = some x3 ∧
      zbr (x3 ≤ l4)
      (Q (.inl (some (.int 1))) h)
      (∃ a4 : Nat, zgf h l0 0 2 = some (.ref a4) ∧
        ∃ x5, zia h a4 l4 = some x5 ∧
        zbr ((x5 >>> ((10 : Int32) &&& 31)) = l1)
        (zbr (((x5 >>> ((1 : Int32) &&& 31)) &&& 31) = l2)
          (zbr ((1 : Int32) = 0)
            (zW (zE d) zm_X0_agrees Q (3, [(0, .ref l0), (1, .int l1), (2, .int l2), (3, .int l3), (4, .int (l4 + 1))], [], h))
            (zbr (((l3 >>> (((x5 >>> ((6 : Int32) &&& 31)) &&& 15) &&& 31)) &&& 1) = (x5 &&& 1))
              (zW (zE d) zm_X0_agrees Q (3, [(0, .ref l0), (1, .int l1), (2, .int l2), (3, .int l3), (4, .int (l4 + 1))], [], h))
              (Q (.inl (some (.int 0))) h)))
          (zW (zE d) zm_X0_agrees Q (55, [(0, .ref l0), (1, .int l1), (2, .int l2), (3, .int l3), (4, .int l4), (5, .int x5)], [], h)))
        (zW (zE d) zm_X0_agrees Q (55, [(0, .ref l0), (1, .int l1), (2, .int l2), (3, .int l3), (4, .int l4), (5, .int x5)], [], h))))) : zW (zE d) zm_X0_agrees Q (3, [(0, .ref l0), (1, .int l1), (2, .int l2), (3, .int l3), (4, .int l4)], [], h) := by
  refine zq_iload (pc' := 5) rfl rfl rfl rfl ?_
  refine zq_aload (pc' := 6) rfl rfl rfl rfl ?_
  obtain ⟨x1, e0, H⟩ := H
  refine zq_getI (pc' := 9) rfl rfl rfl e0 ?_
  refine zq_icge (pc' := 12) rfl rfl rfl rfl (And.intro (fun c => ?_) (fun c => ?_))
  · have H := H.1 c
    refine zq_ipush (pc' := 91) rfl rfl rfl ?_
    exact zq_iret rfl (Or.inr rfl) H
  · have H := H.2 c
    refine zq_iload (pc' := 14) rfl rfl rfl rfl ?_
    refine zq_aload (pc' := 15) rfl rfl rfl rfl ?_
    obtain ⟨a2, e0, H⟩ := H
    refine zq_getR (pc' := 18) rfl rfl rfl e0 ?_
    obtain ⟨x3, e0, H⟩ := H
    refine zq_alen (pc' := 19) rfl rfl rfl e0 ?_
    refine zq_icge (pc' := 22) rfl rfl rfl rfl (And.intro (fun c => ?_) (fun c => ?_))
    · have H := H.1 c
      refine zq_ipush (pc' := 91) rfl rfl rfl ?_
      exact zq_iret rfl (Or.inr rfl) H
    · have H := H.2 c
      refine zq_aload (pc' := 23) rfl rfl rfl rfl ?_
      obtain ⟨a4, e0, H⟩ := H
      refine zq_getR (pc' := 26) rfl rfl rfl e0 ?_
      refine zq_iload (pc' := 28) rfl rfl rfl rfl ?_
      obtain ⟨x5, e0, H⟩ := H
      refine zq_iald (pc' := 29) rfl rfl rfl e0 ?_
      refine zq_istore (pc' := 31) rfl rfl rfl ?_
      refine zq_iload (pc' := 33) rfl rfl rfl rfl ?_
      refine zq_ipush (pc' := 35) rfl rfl rfl ?_
      refine zq_ishr (pc' := 36) rfl rfl rfl ?_
      refine zq_iload (pc' := 37) rfl rfl rfl rfl ?_
      refine zq_icne_c (pc' := 40) (lt := [(0, .ref l0), (1, .int l1), (2, .int l2), (3, .int l3), (4, .int l4), (5, .int x5)]) (lf := [(5, .int x5), (0, .ref l0), (1, .int l1), (2, .int l2), (3, .int l3), (4, .int l4)]) rfl rfl rfl rfl (And.intro (fun c => ?_) (fun c => ?_))
      · have H := H.1 c
        refine zq_iload (pc' := 42) rfl rfl rfl rfl ?_
        refine zq_ipush (pc' := 43) rfl rfl rfl ?_
        refine zq_ishr (pc' := 44) rfl rfl rfl ?_
        refine zq_ipush (pc' := 46) rfl rfl rfl ?_
        refine zq_iand (pc' := 47) rfl rfl rfl ?_
        refine zq_iload (pc' := 48) rfl rfl rfl rfl ?_
        refine zq_icne_c (pc' := 51) (lt := [(0, .ref l0), (1, .int l1), (2, .int l2), (3, .int l3), (4, .int l4), (5, .int x5)]) (lf := [(5, .int x5), (0, .ref l0), (1, .int l1), (2, .int l2), (3, .int l3), (4, .int l4)]) rfl rfl rfl rfl (And.intro (fun c => ?_) (fun c => ?_))
        · have H := H.1 c
          refine zq_ipush (pc' := 52) rfl rfl rfl ?_
          refine zq_goto (pc' := 56) rfl rfl rfl ?_
          refine zq_istore (pc' := 58) rfl rfl rfl ?_
          refine zq_iload (pc' := 60) rfl rfl rfl rfl ?_
          refine zq_ifeq (pc' := 63) rfl rfl rfl rfl (And.intro (fun c => ?_) (fun c => ?_))
          · have H := H.1 c
            refine zq_iinc (pc' := 87) rfl rfl rfl rfl ?_
            refine zq_goto_c (pc' := 3) rfl rfl ?_
            exact H
          · have H := H.2 c
            refine zq_iload (pc' := 64) rfl rfl rfl rfl ?_
            refine zq_iload (pc' := 66) rfl rfl rfl rfl ?_
            refine zq_ipush (pc' := 68) rfl rfl rfl ?_
            refine zq_ishr (pc' := 69) rfl rfl rfl ?_
            refine zq_ipush (pc' := 71) rfl rfl rfl ?_
            refine zq_iand (pc' := 72) rfl rfl rfl ?_
            refine zq_ishr (pc' := 73) rfl rfl rfl ?_
            refine zq_ipush (pc' := 74) rfl rfl rfl ?_
            refine zq_iand (pc' := 75) rfl rfl rfl ?_
            refine zq_iload (pc' := 77) rfl rfl rfl rfl ?_
            refine zq_ipush (pc' := 78) rfl rfl rfl ?_
            refine zq_iand (pc' := 79) rfl rfl rfl ?_
            refine zq_iceq (pc' := 82) rfl rfl rfl rfl (And.intro (fun c => ?_) (fun c => ?_))
            · have H := H.1 c
              refine zq_iinc (pc' := 87) rfl rfl rfl rfl ?_
              refine zq_goto_c (pc' := 3) rfl rfl ?_
              exact H
            · have H := H.2 c
              refine zq_ipush (pc' := 83) rfl rfl rfl ?_
              exact zq_iret rfl (Or.inl rfl) H
        · have H := H.2 c
          exact H
      · have H := H.2 c
        exact H
theorem zr_X0_agrees_55 {d : Nat} {Q : zR → zH → Prop} {l0 : Nat} {l1 : Int32} {l2 : Int32} {l3 : Int32} {l4 : Int32} {l5 : Int32} {h : zH} (H :
    zbr ((0 : Int32) = 0)
    (zW (zE d) zm_X0_agrees Q (3, [(0, .ref l0), (1, .int l1), (2, .int l2), (3, .int l3), (4, .int (l4 + 1))], [], h))
    (zbr (((l3 >>> (((l5 >>> ((6 : Int32) &&& 31)) &&& 15) &&& 31)) &&& 1) = (l5 &&& 1))
      (zW (zE d) zm_X0_agrees Q (3, [(0, .ref l0), (1, .int l1), (2, .int l2), (3, .int l3), (4, .int (l4 + 1))], [], h))
      (Q (.inl (some (.int 0))) h))) : zW (zE d) zm_X0_agrees Q (55, [(0, .ref l0), (1, .int l1), (2, .int l2), (3, .int l3), (4, .int l4), (5, .int l5)], [], h) := by
  refine zq_ipush (pc' := 56) rfl rfl rfl ?_
  refine zq_istore (pc' := 58) rfl rfl rfl ?_
  refine zq_iload (pc' := 60) rfl rfl rfl rfl ?_
  refine zq_ifeq (pc' := 63) rfl rfl rfl rfl (And.intro (fun c => ?_) (fun c => ?_))
  · have H := H.1 c
    refine zq_iinc (pc' := 87) rfl rfl rfl rfl ?_
    refine zq_goto_c (pc' := 3) rfl rfl ?_
    exact H
  · have H := H.2 c
    refine zq_iload (pc' := 64) rfl rfl rfl rfl ?_
    refine zq_iload (pc' := 66) rfl rfl rfl rfl ?_
    refine zq_ipush (pc' := 68) rfl rfl rfl ?_
    refine zq_ishr (pc' := 69) rfl rfl rfl ?_
    refine zq_ipush (pc' := 71) rfl rfl rfl ?_
    refine zq_iand (pc' := 72) rfl rfl rfl ?_
    refine zq_ishr (pc' := 73) rfl rfl rfl ?_
    refine zq_ipush (pc' := 74) rfl rfl rfl ?_
    refine zq_iand (pc' := 75) rfl rfl rfl ?_
    refine zq_iload (pc' := 77) rfl rfl rfl rfl ?_
    refine zq_ipush (pc' := 78) rfl rfl rfl ?_
    refine zq_iand (pc' := 79) rfl rfl rfl ?_
    refine zq_iceq (pc' := 82) rfl rfl rfl rfl (And.intro (fun c => ?_) (fun c => ?_))
    · have H := H.1 c
      refine zq_iinc (pc' := 87) rfl rfl rfl rfl ?_
      refine zq_goto_c (pc' := 3) rfl rfl ?_
      exact H
    · have H := H.2 c
      refine zq_ipush (pc' := 83) rfl rfl rfl ?_
      exact zq_iret rfl (Or.inl rfl) H
theorem zr_X2_init_0 {d : Nat} {Q : zR → zH → Prop} {p0 : Nat} {h : zH} (H :
    ∃ h1, zna h 3 4 = some h1 ∧
    ∃ h2, zpf h1 p0 2 0 (.ref (999 + h.1)) = some h2 ∧
    zW (zE d) zm_X2_init Q (14, [(0, .ref p0), (1, .int 0)], [], h2)) : zW (zE d) zm_X2_init Q (0, [(0, .ref p0)], [], h) := by
  refine zq_aload (pc' := 1) rfl rfl rfl rfl ?_
  refine zq_nop (pc' := 4) rfl rfl rfl rfl rfl ?_
  refine zq_aload (pc' := 5) rfl rfl rfl rfl ?_
  refine zq_ipush (pc' := 6) rfl rfl rfl ?_
  obtain ⟨h1, e0, H⟩ := H
  refine zq_newa (pc' := 9) rfl rfl rfl e0 ?_
  obtain ⟨h2, e0, H⟩ := H
  refine zq_put (pc' := 12) rfl rfl rfl trivial e0 ?_
  refine zq_ipush (pc' := 13) rfl rfl rfl ?_
  refine zq_istore_c (pc' := 14) rfl rfl ?_
  exact H
theorem zr_X2_init_14 {d : Nat} {Q : zR → zH → Prop} {l0 : Nat} {l1 : Int32} {h : zH} (H :
    ∃ a1 : Nat, zgf h l0 2 0 = some (.ref a1) ∧
    ∃ x2, zal h a1 = some x2 ∧
    zbr (x2 ≤ l1)
    (∃ h3, zpf h l0 2 1 (.int 0) = some h3 ∧
      ∃ h4, zna h3 0 8 = some h4 ∧
      ∃ h5, zpf h4 l0 2 2 (.ref (999 + h3.1)) = some h5 ∧
      ∃ h6, zpf h5 l0 2 3 (.int 0) = some h6 ∧
      ∃ h7, zna h6 0 700 = some h7 ∧
      ∃ h8, zpf h7 l0 2 4 (.ref (999 + h6.1)) = some h8 ∧
      ∃ h9, zpf h8 l0 2 5 (.int 0) = some h9 ∧
      ∃ h10, znw h9 4 6 = some h10 ∧
      ∃ a11 : Nat, zgf h10 l0 2 4 = some (.ref a11) ∧
      zE d 91 [.ref (999 + h9.1), .ref a11] h10 (fun r13 h12 => match r13 with
        | .inl v14 => v14 = none ∧ ∃ h16, zpf h12 l0 2 6 (.ref (999 + h9.1)) = some h16 ∧
          ∃ h17, znw h16 4 6 = some h17 ∧
          ∃ a18 : Nat, zgf h17 l0 2 4 = some (.ref a18) ∧
          zE d 91 [.ref (999 + h16.1), .ref a18] h17 (fun r20 h19 => match r20 with
            | .inl v21 => v21 = none ∧ ∃ h23, zpf h19 l0 2 7 (.ref (999 + h16.1)) = some h23 ∧
              ∃ h24, zpf h23 l0 2 8 (.int 0) = some h24 ∧
              ∃ h25, zpf h24 l0 2 9 (.int (-1)) = some h25 ∧
              Q (.inl none) h25
            | .inr e22 => Q (.inr e22) h19)
        | .inr e15 => Q (.inr e15) h12))
    (∃ a26 : Nat, zgf h l0 2 0 = some (.ref a26) ∧
      ∃ h27, znw h 6 7 = some h27 ∧
      zE d 106 [.ref (999 + h.1)] h27 (fun r29 h28 => match r29 with
        | .inl v30 => v30 = none ∧ ∃ h32, zas h28 a26 l1 (999 + h.1) = some h32 ∧
          zW (zE d) zm_X2_init Q (14, [(0, .ref l0), (1, .int (l1 + 1))], [], h32)
        | .inr e31 => Q (.inr e31) h28))) : zW (zE d) zm_X2_init Q (14, [(0, .ref l0), (1, .int l1)], [], h) := by
  refine zq_iload (pc' := 15) rfl rfl rfl rfl ?_
  refine zq_aload (pc' := 16) rfl rfl rfl rfl ?_
  obtain ⟨a1, e0, H⟩ := H
  refine zq_getR (pc' := 19) rfl rfl rfl e0 ?_
  obtain ⟨x2, e0, H⟩ := H
  refine zq_alen (pc' := 20) rfl rfl rfl e0 ?_
  refine zq_icge (pc' := 23) rfl rfl rfl rfl (And.intro (fun c => ?_) (fun c => ?_))
  · have H := H.1 c
    refine zq_aload (pc' := 43) rfl rfl rfl rfl ?_
    refine zq_ipush (pc' := 44) rfl rfl rfl ?_
    obtain ⟨h3, e0, H⟩ := H
    refine zq_put (pc' := 47) rfl rfl rfl trivial e0 ?_
    refine zq_aload (pc' := 48) rfl rfl rfl rfl ?_
    refine zq_ipush (pc' := 50) rfl rfl rfl ?_
    obtain ⟨h4, e0, H⟩ := H
    refine zq_newa (pc' := 52) rfl rfl rfl e0 ?_
    obtain ⟨h5, e0, H⟩ := H
    refine zq_put (pc' := 55) rfl rfl rfl trivial e0 ?_
    refine zq_aload (pc' := 56) rfl rfl rfl rfl ?_
    refine zq_ipush (pc' := 57) rfl rfl rfl ?_
    obtain ⟨h6, e0, H⟩ := H
    refine zq_put (pc' := 60) rfl rfl rfl trivial e0 ?_
    refine zq_aload (pc' := 61) rfl rfl rfl rfl ?_
    refine zq_ipush (pc' := 64) rfl rfl rfl ?_
    obtain ⟨h7, e0, H⟩ := H
    refine zq_newa (pc' := 66) rfl rfl rfl e0 ?_
    obtain ⟨h8, e0, H⟩ := H
    refine zq_put (pc' := 69) rfl rfl rfl trivial e0 ?_
    refine zq_aload (pc' := 70) rfl rfl rfl rfl ?_
    refine zq_ipush (pc' := 71) rfl rfl rfl ?_
    obtain ⟨h9, e0, H⟩ := H
    refine zq_put (pc' := 74) rfl rfl rfl trivial e0 ?_
    refine zq_aload (pc' := 75) rfl rfl rfl rfl ?_
    obtain ⟨h10, e0, H⟩ := H
    refine zq_new (pc' := 78) rfl rfl rfl e0 ?_
    refine zq_dup (pc' := 79) rfl rfl rfl rfl ?_
    refine zq_aload (pc' := 80) rfl rfl rfl rfl ?_
    obtain ⟨a11, e0, H⟩ := H
    refine zq_getR (pc' := 83) rfl rfl rfl e0 ?_
    refine zq_callv (pc' := 86) rfl rfl rfl rfl rfl rfl (zE_mono H (fun r13 h12 H => ?_))
    rcases r13 with v14 | e15
    · obtain ⟨e0, H⟩ := H
      refine And.intro e0 ?_
      obtain ⟨h16, e0, H⟩ := H
      refine zq_put (pc' := 89) rfl rfl rfl trivial e0 ?_
      refine zq_aload (pc' := 90) rfl rfl rfl rfl ?_
      obtain ⟨h17, e0, H⟩ := H
      refine zq_new (pc' := 93) rfl rfl rfl e0 ?_
      refine zq_dup (pc' := 94) rfl rfl rfl rfl ?_
      refine zq_aload (pc' := 95) rfl rfl rfl rfl ?_
      obtain ⟨a18, e0, H⟩ := H
      refine zq_getR (pc' := 98) rfl rfl rfl e0 ?_
      refine zq_callv (pc' := 101) rfl rfl rfl rfl rfl rfl (zE_mono H (fun r20 h19 H => ?_))
      rcases r20 with v21 | e22
      · obtain ⟨e0, H⟩ := H
        refine And.intro e0 ?_
        obtain ⟨h23, e0, H⟩ := H
        refine zq_put (pc' := 104) rfl rfl rfl trivial e0 ?_
        refine zq_aload (pc' := 105) rfl rfl rfl rfl ?_
        refine zq_ipush (pc' := 106) rfl rfl rfl ?_
        obtain ⟨h24, e0, H⟩ := H
        refine zq_put (pc' := 109) rfl rfl rfl trivial e0 ?_
        refine zq_aload (pc' := 110) rfl rfl rfl rfl ?_
        refine zq_ipushn (pc' := 111) rfl rfl rfl ?_
        obtain ⟨h25, e0, H⟩ := H
        refine zq_put (pc' := 114) rfl rfl rfl trivial e0 ?_
        exact zq_vret rfl H
      · exact H
    · exact H
  · have H := H.2 c
    refine zq_aload (pc' := 24) rfl rfl rfl rfl ?_
    obtain ⟨a26, e0, H⟩ := H
    refine zq_getR (pc' := 27) rfl rfl rfl e0 ?_
    refine zq_iload (pc' := 28) rfl rfl rfl rfl ?_
    obtain ⟨h27, e0, H⟩ := H
    refine zq_new (pc' := 31) rfl rfl rfl e0 ?_
    refine zq_dup (pc' := 32) rfl rfl rfl rfl ?_
    refine zq_callv (pc' := 35) rfl rfl rfl rfl rfl rfl (zE_mono H (fun r29 h28 H => ?_))
    rcases r29 with v30 | e31
    · obtain ⟨e0, H⟩ := H
      refine And.intro e0 ?_
      obtain ⟨h32, e0, H⟩ := H
      refine zq_aast (pc' := 36) rfl rfl rfl e0 ?_
      refine zq_iinc (pc' := 39) rfl rfl rfl rfl ?_
      refine zq_goto_c (pc' := 14) rfl rfl ?_
      exact H
    · exact H
theorem zr_X2_makeEmpty_0 {d : Nat} {Q : zR → zH → Prop} {p0 : Nat} {h : zH} (H :
    ∃ h1, zpf h p0 2 1 (.int 0) = some h1 ∧
    ∃ h2, zpf h1 p0 2 3 (.int 0) = some h2 ∧
    ∃ h3, zpf h2 p0 2 5 (.int 0) = some h3 ∧
    ∃ a4 : Nat, zgf h3 p0 2 6 = some (.ref a4) ∧
    zE d 92 [.ref a4] h3 (fun r6 h5 => match r6 with
      | .inl v7 => v7 = none ∧ ∃ a9 : Nat, zgf h5 p0 2 7 = some (.ref a9) ∧
        zE d 92 [.ref a9] h5 (fun r11 h10 => match r11 with
          | .inl v12 => v12 = none ∧ ∃ h14, zpf h10 p0 2 8 (.int 0) = some h14 ∧
            Q (.inl none) h14
          | .inr e13 => Q (.inr e13) h10)
      | .inr e8 => Q (.inr e8) h5)) : zW (zE d) zm_X2_makeEmpty Q (0, [(0, .ref p0)], [], h) := by
  refine zq_aload (pc' := 1) rfl rfl rfl rfl ?_
  refine zq_ipush (pc' := 2) rfl rfl rfl ?_
  obtain ⟨h1, e0, H⟩ := H
  refine zq_put (pc' := 5) rfl rfl rfl trivial e0 ?_
  refine zq_aload (pc' := 6) rfl rfl rfl rfl ?_
  refine zq_ipush (pc' := 7) rfl rfl rfl ?_
  obtain ⟨h2, e0, H⟩ := H
  refine zq_put (pc' := 10) rfl rfl rfl trivial e0 ?_
  refine zq_aload (pc' := 11) rfl rfl rfl rfl ?_
  refine zq_ipush (pc' := 12) rfl rfl rfl ?_
  obtain ⟨h3, e0, H⟩ := H
  refine zq_put (pc' := 15) rfl rfl rfl trivial e0 ?_
  refine zq_aload (pc' := 16) rfl rfl rfl rfl ?_
  obtain ⟨a4, e0, H⟩ := H
  refine zq_getR (pc' := 19) rfl rfl rfl e0 ?_
  refine zq_callv (pc' := 22) rfl rfl rfl rfl rfl rfl (zE_mono H (fun r6 h5 H => ?_))
  rcases r6 with v7 | e8
  · obtain ⟨e0, H⟩ := H
    refine And.intro e0 ?_
    refine zq_aload (pc' := 23) rfl rfl rfl rfl ?_
    obtain ⟨a9, e0, H⟩ := H
    refine zq_getR (pc' := 26) rfl rfl rfl e0 ?_
    refine zq_callv (pc' := 29) rfl rfl rfl rfl rfl rfl (zE_mono H (fun r11 h10 H => ?_))
    rcases r11 with v12 | e13
    · obtain ⟨e0, H⟩ := H
      refine And.intro e0 ?_
      refine zq_aload (pc' := 30) rfl rfl rfl rfl ?_
      refine zq_ipush (pc' := 31) rfl rfl rfl ?_
      obtain ⟨h14, e0, H⟩ := H
      refine zq_put (pc' := 34) rfl rfl rfl trivial e0 ?_
      exact zq_vret rfl H
    · exact H
  · exact H
theorem zr_X2_isFull_0 {d : Nat} {Q : zR → zH → Prop} {p0 : Nat} {h : zH} (H :
    ∃ x1 : Int32, zgf h p0 2 1 = some (.int x1) ∧
    zbr (x1 < 0)
    (Q (.inl (some (.int 1))) h)
    (∃ x2 : Int32, zgf h p0 2 1 = some (.int x2) ∧
      ∃ a3 : Nat, zgf h p0 2 0 = some (.ref a3) ∧
      ∃ x4, zal h a3 = some x4 ∧
      zbr (x2 < x4)
      (Q (.inl (some (.int 0))) h)
      (Q (.inl (some (.int 1))) h))) : zW (zE d) zm_X2_isFull Q (0, [(0, .ref p0)], [], h) := by
  refine zq_aload (pc' := 1) rfl rfl rfl rfl ?_
  obtain ⟨x1, e0, H⟩ := H
  refine zq_getI (pc' := 4) rfl rfl rfl e0 ?_
  refine zq_iflt (pc' := 7) rfl rfl rfl rfl (And.intro (fun c => ?_) (fun c => ?_))
  · have H := H.1 c
    refine zq_ipush (pc' := 20) rfl rfl rfl ?_
    refine zq_goto (pc' := 24) rfl rfl rfl ?_
    exact zq_iret rfl (Or.inr rfl) H
  · have H := H.2 c
    refine zq_aload (pc' := 8) rfl rfl rfl rfl ?_
    obtain ⟨x2, e0, H⟩ := H
    refine zq_getI (pc' := 11) rfl rfl rfl e0 ?_
    refine zq_aload (pc' := 12) rfl rfl rfl rfl ?_
    obtain ⟨a3, e0, H⟩ := H
    refine zq_getR (pc' := 15) rfl rfl rfl e0 ?_
    obtain ⟨x4, e0, H⟩ := H
    refine zq_alen (pc' := 16) rfl rfl rfl e0 ?_
    refine zq_iclt (pc' := 19) rfl rfl rfl rfl (And.intro (fun c => ?_) (fun c => ?_))
    · have H := H.1 c
      refine zq_ipush (pc' := 24) rfl rfl rfl ?_
      exact zq_iret rfl (Or.inl rfl) H
    · have H := H.2 c
      refine zq_ipush (pc' := 20) rfl rfl rfl ?_
      refine zq_goto (pc' := 24) rfl rfl rfl ?_
      exact zq_iret rfl (Or.inr rfl) H
theorem zr_X2_nextZip_0 {d : Nat} {Q : zR → zH → Prop} {p0 : Nat} {h : zH} (H :
    zE d 38 [.ref p0] h (fun r2 h1 => match r2 with
      | .inl v3 => ∃ x5 : Int32, v3 = some (.int x5) ∧ zbr (x5 = 0)
        (∃ a6 : Nat, zgf h1 p0 2 0 = some (.ref a6) ∧
          ∃ x7 : Int32, zgf h1 p0 2 1 = some (.int x7) ∧
          ∃ a8, zaa h1 a6 x7 = some a8 ∧
          Q (.inl (some (.ref a8))) h1)
        (∃ a9 : Nat, zgf h1 p0 2 0 = some (.ref a9) ∧
          ∃ a10 : Nat, zgf h1 p0 2 0 = some (.ref a10) ∧
          ∃ x11, zal h1 a10 = some x11 ∧
          ∃ a12, zaa h1 a9 (x11 - 1) = some a12 ∧
          Q (.inl (some (.ref a12))) h1)
      | .inr e4 => Q (.inr e4) h1)) : zW (zE d) zm_X2_nextZip Q (0, [(0, .ref p0)], [], h) := by
  refine zq_aload (pc' := 1) rfl rfl rfl rfl ?_
  refine zq_calli (pc' := 4) rfl rfl rfl rfl rfl rfl (zE_mono H (fun r2 h1 H => ?_))
  rcases r2 with v3 | e4
  · obtain ⟨x5, e0, H⟩ := H
    refine Exists.intro x5 (And.intro e0 ?_)
    refine zq_ifeq (pc' := 7) rfl rfl rfl rfl (And.intro (fun c => ?_) (fun c => ?_))
    · have H := H.1 c
      refine zq_aload (pc' := 23) rfl rfl rfl rfl ?_
      obtain ⟨a6, e0, H⟩ := H
      refine zq_getR (pc' := 26) rfl rfl rfl e0 ?_
      refine zq_aload (pc' := 27) rfl rfl rfl rfl ?_
      obtain ⟨x7, e0, H⟩ := H
      refine zq_getI (pc' := 30) rfl rfl rfl e0 ?_
      obtain ⟨a8, e0, H⟩ := H
      refine zq_aald (pc' := 31) rfl rfl rfl e0 ?_
      exact zq_aret rfl H
    · have H := H.2 c
      refine zq_aload (pc' := 8) rfl rfl rfl rfl ?_
      obtain ⟨a9, e0, H⟩ := H
      refine zq_getR (pc' := 11) rfl rfl rfl e0 ?_
      refine zq_aload (pc' := 12) rfl rfl rfl rfl ?_
      obtain ⟨a10, e0, H⟩ := H
      refine zq_getR (pc' := 15) rfl rfl rfl e0 ?_
      obtain ⟨x11, e0, H⟩ := H
      refine zq_alen (pc' := 16) rfl rfl rfl e0 ?_
      refine zq_ipush (pc' := 17) rfl rfl rfl ?_
      refine zq_isub (pc' := 18) rfl rfl rfl ?_
      obtain ⟨a12, e0, H⟩ := H
      refine zq_aald (pc' := 19) rfl rfl rfl e0 ?_
      refine zq_goto (pc' := 31) rfl rfl rfl ?_
      exact zq_aret rfl H
  · exact H
theorem zr_X2_addZip_0 {d : Nat} {Q : zR → zH → Prop} {p0 : Nat} {h : zH} (H :
    zE d 38 [.ref p0] h (fun r2 h1 => match r2 with
      | .inl v3 => ∃ x5 : Int32, v3 = some (.int x5) ∧ zbr (x5 = 0)
        (∃ a6 : Nat, zgf h1 p0 2 0 = some (.ref a6) ∧
          ∃ x7 : Int32, zgf h1 p0 2 1 = some (.int x7) ∧
          ∃ a8, zaa h1 a6 x7 = some a8 ∧
          ∃ a9 : Nat, zgf h1 p0 2 0 = some (.ref a9) ∧
          ∃ x10 : Int32, zgf h1 p0 2 1 = some (.int x10) ∧
          ∃ a11, zaa h1 a9 x10 = some a11 ∧
          zE d 112 [.ref a11] h1 (fun r13 h12 => match r13 with
            | .inl v14 => ∃ x16 : Int32, v14 = some (.int x16) ∧ zE d 126 [.ref a8, .int x16] h12 (fun r18 h17 => match r18 with
                | .inl v19 => v19 = none ∧ ∃ x21 : Int32, zgf h17 p0 2 1 = some (.int x21) ∧
                  ∃ h22, zpf h17 p0 2 1 (.int (x21 + 1)) = some h22 ∧
                  Q (.inl none) h22
                | .inr e20 => Q (.inr e20) h17)
            | .inr e15 => Q (.inr e15) h12))
        (Q (.inl none) h1)
      | .inr e4 => Q (.inr e4) h1)) : zW (zE d) zm_X2_addZip Q (0, [(0, .ref p0)], [], h) := by
  refine zq_aload (pc' := 1) rfl rfl rfl rfl ?_
  refine zq_calli (pc' := 4) rfl rfl rfl rfl rfl rfl (zE_mono H (fun r2 h1 H => ?_))
  rcases r2 with v3 | e4
  · obtain ⟨x5, e0, H⟩ := H
    refine Exists.intro x5 (And.intro e0 ?_)
    refine zq_ifne (pc' := 7) rfl rfl rfl rfl (And.intro (fun c => ?_) (fun c => ?_))
    · have H := H.1 c
      refine zq_aload (pc' := 8) rfl rfl rfl rfl ?_
      obtain ⟨a6, e0, H⟩ := H
      refine zq_getR (pc' := 11) rfl rfl rfl e0 ?_
      refine zq_aload (pc' := 12) rfl rfl rfl rfl ?_
      obtain ⟨x7, e0, H⟩ := H
      refine zq_getI (pc' := 15) rfl rfl rfl e0 ?_
      obtain ⟨a8, e0, H⟩ := H
      refine zq_aald (pc' := 16) rfl rfl rfl e0 ?_
      refine zq_aload (pc' := 17) rfl rfl rfl rfl ?_
      obtain ⟨a9, e0, H⟩ := H
      refine zq_getR (pc' := 20) rfl rfl rfl e0 ?_
      refine zq_aload (pc' := 21) rfl rfl rfl rfl ?_
      obtain ⟨x10, e0, H⟩ := H
      refine zq_getI (pc' := 24) rfl rfl rfl e0 ?_
      obtain ⟨a11, e0, H⟩ := H
      refine zq_aald (pc' := 25) rfl rfl rfl e0 ?_
      refine zq_calli (pc' := 28) rfl rfl rfl rfl rfl rfl (zE_mono H (fun r13 h12 H => ?_))
      rcases r13 with v14 | e15
      · obtain ⟨x16, e0, H⟩ := H
        refine Exists.intro x16 (And.intro e0 ?_)
        refine zq_callv (pc' := 31) rfl rfl rfl rfl rfl rfl (zE_mono H (fun r18 h17 H => ?_))
        rcases r18 with v19 | e20
        · obtain ⟨e0, H⟩ := H
          refine And.intro e0 ?_
          refine zq_aload (pc' := 32) rfl rfl rfl rfl ?_
          refine zq_dup (pc' := 33) rfl rfl rfl rfl ?_
          obtain ⟨x21, e0, H⟩ := H
          refine zq_getI (pc' := 36) rfl rfl rfl e0 ?_
          refine zq_ipush (pc' := 37) rfl rfl rfl ?_
          refine zq_iadd (pc' := 38) rfl rfl rfl ?_
          obtain ⟨h22, e0, H⟩ := H
          refine zq_put (pc' := 41) rfl rfl rfl trivial e0 ?_
          exact zq_vret rfl H
        · exact H
      · exact H
    · have H := H.2 c
      exact zq_vret rfl H
  · exact H
theorem zr_X2_addStrain_0 {d : Nat} {Q : zR → zH → Prop} {p0 : Nat} {p1 : Int32} {h : zH} (H :
    ∃ x1 : Int32, zgf h p0 2 3 = some (.int x1) ∧
    zbr (x1 < 0)
    (Q (.inl (some (.int 0))) h)
    (∃ x2 : Int32, zgf h p0 2 3 = some (.int x2) ∧
      ∃ a3 : Nat, zgf h p0 2 2 = some (.ref a3) ∧
      ∃ x4, zal h a3 = some x4 ∧
      zbr (x2 < x4)
      (∃ a5 : Nat, zgf h p0 2 2 = some (.ref a5) ∧
        ∃ x6 : Int32, zgf h p0 2 3 = some (.int x6) ∧
        ∃ h7, zis h a5 x6 p1 = some h7 ∧
        ∃ x8 : Int32, zgf h7 p0 2 3 = some (.int x8) ∧
        ∃ h9, zpf h7 p0 2 3 (.int (x8 + 1)) = some h9 ∧
        Q (.inl (some (.int 1))) h9)
      (Q (.inl (some (.int 0))) h))) : zW (zE d) zm_X2_addStrain Q (0, [(0, .ref p0), (1, .int p1)], [], h) := by
  refine zq_aload (pc' := 1) rfl rfl rfl rfl ?_
  obtain ⟨x1, e0, H⟩ := H
  refine zq_getI (pc' := 4) rfl rfl rfl e0 ?_
  refine zq_iflt (pc' := 7) rfl rfl rfl rfl (And.intro (fun c => ?_) (fun c => ?_))
  · have H := H.1 c
    refine zq_ipush (pc' := 20) rfl rfl rfl ?_
    exact zq_iret rfl (Or.inl rfl) H
  · have H := H.2 c
    refine zq_aload (pc' := 8) rfl rfl rfl rfl ?_
    obtain ⟨x2, e0, H⟩ := H
    refine zq_getI (pc' := 11) rfl rfl rfl e0 ?_
    refine zq_aload (pc' := 12) rfl rfl rfl rfl ?_
    obtain ⟨a3, e0, H⟩ := H
    refine zq_getR (pc' := 15) rfl rfl rfl e0 ?_
    obtain ⟨x4, e0, H⟩ := H
    refine zq_alen (pc' := 16) rfl rfl rfl e0 ?_
    refine zq_iclt (pc' := 19) rfl rfl rfl rfl (And.intro (fun c => ?_) (fun c => ?_))
    · have H := H.1 c
      refine zq_aload (pc' := 22) rfl rfl rfl rfl ?_
      obtain ⟨a5, e0, H⟩ := H
      refine zq_getR (pc' := 25) rfl rfl rfl e0 ?_
      refine zq_aload (pc' := 26) rfl rfl rfl rfl ?_
      obtain ⟨x6, e0, H⟩ := H
      refine zq_getI (pc' := 29) rfl rfl rfl e0 ?_
      refine zq_iload (pc' := 30) rfl rfl rfl rfl ?_
      obtain ⟨h7, e0, H⟩ := H
      refine zq_iast (pc' := 31) rfl rfl rfl e0 ?_
      refine zq_aload (pc' := 32) rfl rfl rfl rfl ?_
      refine zq_dup (pc' := 33) rfl rfl rfl rfl ?_
      obtain ⟨x8, e0, H⟩ := H
      refine zq_getI (pc' := 36) rfl rfl rfl e0 ?_
      refine zq_ipush (pc' := 37) rfl rfl rfl ?_
      refine zq_iadd (pc' := 38) rfl rfl rfl ?_
      obtain ⟨h9, e0, H⟩ := H
      refine zq_put (pc' := 41) rfl rfl rfl trivial e0 ?_
      refine zq_ipush (pc' := 42) rfl rfl rfl ?_
      exact zq_iret rfl (Or.inr rfl) H
    · have H := H.2 c
      refine zq_ipush (pc' := 20) rfl rfl rfl ?_
      exact zq_iret rfl (Or.inl rfl) H
theorem zr_X2_addStep_0 {d : Nat} {Q : zR → zH → Prop} {p0 : Nat} {p1 : Int32} {h : zH} (H :
    ∃ x1 : Int32, zgf h p0 2 5 = some (.int x1) ∧
    zbr (x1 < 0)
    (Q (.inl none) h)
    (∃ x2 : Int32, zgf h p0 2 5 = some (.int x2) ∧
      ∃ a3 : Nat, zgf h p0 2 4 = some (.ref a3) ∧
      ∃ x4, zal h a3 = some x4 ∧
      zbr (x4 ≤ x2)
      (Q (.inl none) h)
      (∃ a5 : Nat, zgf h p0 2 4 = some (.ref a5) ∧
        ∃ x6 : Int32, zgf h p0 2 5 = some (.int x6) ∧
        ∃ h7, zis h a5 x6 p1 = some h7 ∧
        ∃ x8 : Int32, zgf h7 p0 2 5 = some (.int x8) ∧
        ∃ h9, zpf h7 p0 2 5 (.int (x8 + 1)) = some h9 ∧
        Q (.inl none) h9))) : zW (zE d) zm_X2_addStep Q (0, [(0, .ref p0), (1, .int p1)], [], h) := by
  refine zq_aload (pc' := 1) rfl rfl rfl rfl ?_
  obtain ⟨x1, e0, H⟩ := H
  refine zq_getI (pc' := 4) rfl rfl rfl e0 ?_
  refine zq_iflt (pc' := 7) rfl rfl rfl rfl (And.intro (fun c => ?_) (fun c => ?_))
  · have H := H.1 c
    exact zq_vret rfl H
  · have H := H.2 c
    refine zq_aload (pc' := 8) rfl rfl rfl rfl ?_
    obtain ⟨x2, e0, H⟩ := H
    refine zq_getI (pc' := 11) rfl rfl rfl e0 ?_
    refine zq_aload (pc' := 12) rfl rfl rfl rfl ?_
    obtain ⟨a3, e0, H⟩ := H
    refine zq_getR (pc' := 15) rfl rfl rfl e0 ?_
    obtain ⟨x4, e0, H⟩ := H
    refine zq_alen (pc' := 16) rfl rfl rfl e0 ?_
    refine zq_icge (pc' := 19) rfl rfl rfl rfl (And.intro (fun c => ?_) (fun c => ?_))
    · have H := H.1 c
      exact zq_vret rfl H
    · have H := H.2 c
      refine zq_aload (pc' := 20) rfl rfl rfl rfl ?_
      obtain ⟨a5, e0, H⟩ := H
      refine zq_getR (pc' := 23) rfl rfl rfl e0 ?_
      refine zq_aload (pc' := 24) rfl rfl rfl rfl ?_
      obtain ⟨x6, e0, H⟩ := H
      refine zq_getI (pc' := 27) rfl rfl rfl e0 ?_
      refine zq_iload (pc' := 28) rfl rfl rfl rfl ?_
      obtain ⟨h7, e0, H⟩ := H
      refine zq_iast (pc' := 29) rfl rfl rfl e0 ?_
      refine zq_aload (pc' := 30) rfl rfl rfl rfl ?_
      refine zq_dup (pc' := 31) rfl rfl rfl rfl ?_
      obtain ⟨x8, e0, H⟩ := H
      refine zq_getI (pc' := 34) rfl rfl rfl e0 ?_
      refine zq_ipush (pc' := 35) rfl rfl rfl ?_
      refine zq_iadd (pc' := 36) rfl rfl rfl ?_
      obtain ⟨h9, e0, H⟩ := H
      refine zq_put (pc' := 39) rfl rfl rfl trivial e0 ?_
      exact zq_vret rfl H
theorem zr_X2_stepCount_0 {d : Nat} {Q : zR → zH → Prop} {p0 : Nat} {h : zH} (H :
    ∃ x1 : Int32, zgf h p0 2 5 = some (.int x1) ∧
    Q (.inl (some (.int x1))) h) : zW (zE d) zm_X2_stepCount Q (0, [(0, .ref p0)], [], h) := by
  refine zq_aload (pc' := 1) rfl rfl rfl rfl ?_
  obtain ⟨x1, e0, H⟩ := H
  refine zq_getI (pc' := 4) rfl rfl rfl e0 ?_
  exact zq_iret rfl trivial H
theorem zr_X2_pullsRule_0 {d : Nat} {Q : zR → zH → Prop} {p0 : Nat} {h : zH} (H :
    ∃ a1 : Nat, zgf h p0 2 6 = some (.ref a1) ∧
    Q (.inl (some (.ref a1))) h) : zW (zE d) zm_X2_pullsRule Q (0, [(0, .ref p0)], [], h) := by
  refine zq_aload (pc' := 1) rfl rfl rfl rfl ?_
  obtain ⟨a1, e0, H⟩ := H
  refine zq_getR (pc' := 4) rfl rfl rfl e0 ?_
  exact zq_aret rfl H
theorem zr_X2_wearsRule_0 {d : Nat} {Q : zR → zH → Prop} {p0 : Nat} {h : zH} (H :
    ∃ a1 : Nat, zgf h p0 2 7 = some (.ref a1) ∧
    Q (.inl (some (.ref a1))) h) : zW (zE d) zm_X2_wearsRule Q (0, [(0, .ref p0)], [], h) := by
  refine zq_aload (pc' := 1) rfl rfl rfl rfl ?_
  obtain ⟨a1, e0, H⟩ := H
  refine zq_getR (pc' := 4) rfl rfl rfl e0 ?_
  exact zq_aret rfl H
theorem zr_X2_zipCount_0 {d : Nat} {Q : zR → zH → Prop} {p0 : Nat} {h : zH} (H :
    ∃ x1 : Int32, zgf h p0 2 1 = some (.int x1) ∧
    Q (.inl (some (.int x1))) h) : zW (zE d) zm_X2_zipCount Q (0, [(0, .ref p0)], [], h) := by
  refine zq_aload (pc' := 1) rfl rfl rfl rfl ?_
  obtain ⟨x1, e0, H⟩ := H
  refine zq_getI (pc' := 4) rfl rfl rfl e0 ?_
  exact zq_iret rfl trivial H
theorem zr_X2_hasZip_0 {d : Nat} {Q : zR → zH → Prop} {p0 : Nat} {p1 : Int32} {h : zH} (H :
    zbr (p1 < 0)
    (Q (.inl (some (.int 0))) h)
    (∃ x1 : Int32, zgf h p0 2 1 = some (.int x1) ∧
      zbr (x1 ≤ p1)
      (Q (.inl (some (.int 0))) h)
      (∃ a2 : Nat, zgf h p0 2 0 = some (.ref a2) ∧
        ∃ x3, zal h a2 = some x3 ∧
        zbr (x3 ≤ p1)
        (Q (.inl (some (.int 0))) h)
        (Q (.inl (some (.int 1))) h)))) : zW (zE d) zm_X2_hasZip Q (0, [(0, .ref p0), (1, .int p1)], [], h) := by
  refine zq_iload (pc' := 1) rfl rfl rfl rfl ?_
  refine zq_iflt (pc' := 4) rfl rfl rfl rfl (And.intro (fun c => ?_) (fun c => ?_))
  · have H := H.1 c
    refine zq_ipush (pc' := 26) rfl rfl rfl ?_
    exact zq_iret rfl (Or.inl rfl) H
  · have H := H.2 c
    refine zq_iload (pc' := 5) rfl rfl rfl rfl ?_
    refine zq_aload (pc' := 6) rfl rfl rfl rfl ?_
    obtain ⟨x1, e0, H⟩ := H
    refine zq_getI (pc' := 9) rfl rfl rfl e0 ?_
    refine zq_icge (pc' := 12) rfl rfl rfl rfl (And.intro (fun c => ?_) (fun c => ?_))
    · have H := H.1 c
      refine zq_ipush (pc' := 26) rfl rfl rfl ?_
      exact zq_iret rfl (Or.inl rfl) H
    · have H := H.2 c
      refine zq_iload (pc' := 13) rfl rfl rfl rfl ?_
      refine zq_aload (pc' := 14) rfl rfl rfl rfl ?_
      obtain ⟨a2, e0, H⟩ := H
      refine zq_getR (pc' := 17) rfl rfl rfl e0 ?_
      obtain ⟨x3, e0, H⟩ := H
      refine zq_alen (pc' := 18) rfl rfl rfl e0 ?_
      refine zq_icge (pc' := 21) rfl rfl rfl rfl (And.intro (fun c => ?_) (fun c => ?_))
      · have H := H.1 c
        refine zq_ipush (pc' := 26) rfl rfl rfl ?_
        exact zq_iret rfl (Or.inl rfl) H
      · have H := H.2 c
        refine zq_ipush (pc' := 22) rfl rfl rfl ?_
        refine zq_goto (pc' := 26) rfl rfl rfl ?_
        exact zq_iret rfl (Or.inr rfl) H
theorem zr_X2_zipAt_0 {d : Nat} {Q : zR → zH → Prop} {p0 : Nat} {p1 : Int32} {h : zH} (H :
    zE d 47 [.ref p0, .int p1] h (fun r2 h1 => match r2 with
      | .inl v3 => ∃ x5 : Int32, v3 = some (.int x5) ∧ zbr (x5 = 0)
        (∃ a6 : Nat, zgf h1 p0 2 0 = some (.ref a6) ∧
          ∃ a7, zaa h1 a6 0 = some a7 ∧
          Q (.inl (some (.ref a7))) h1)
        (∃ a8 : Nat, zgf h1 p0 2 0 = some (.ref a8) ∧
          ∃ a9, zaa h1 a8 p1 = some a9 ∧
          Q (.inl (some (.ref a9))) h1)
      | .inr e4 => Q (.inr e4) h1)) : zW (zE d) zm_X2_zipAt Q (0, [(0, .ref p0), (1, .int p1)], [], h) := by
  refine zq_aload (pc' := 1) rfl rfl rfl rfl ?_
  refine zq_iload (pc' := 2) rfl rfl rfl rfl ?_
  refine zq_calli (pc' := 5) rfl rfl rfl rfl rfl rfl (zE_mono H (fun r2 h1 H => ?_))
  rcases r2 with v3 | e4
  · obtain ⟨x5, e0, H⟩ := H
    refine Exists.intro x5 (And.intro e0 ?_)
    refine zq_ifeq (pc' := 8) rfl rfl rfl rfl (And.intro (fun c => ?_) (fun c => ?_))
    · have H := H.1 c
      refine zq_aload (pc' := 18) rfl rfl rfl rfl ?_
      obtain ⟨a6, e0, H⟩ := H
      refine zq_getR (pc' := 21) rfl rfl rfl e0 ?_
      refine zq_ipush (pc' := 22) rfl rfl rfl ?_
      obtain ⟨a7, e0, H⟩ := H
      refine zq_aald (pc' := 23) rfl rfl rfl e0 ?_
      exact zq_aret rfl H
    · have H := H.2 c
      refine zq_aload (pc' := 9) rfl rfl rfl rfl ?_
      obtain ⟨a8, e0, H⟩ := H
      refine zq_getR (pc' := 12) rfl rfl rfl e0 ?_
      refine zq_iload (pc' := 13) rfl rfl rfl rfl ?_
      obtain ⟨a9, e0, H⟩ := H
      refine zq_aald (pc' := 14) rfl rfl rfl e0 ?_
      refine zq_goto (pc' := 23) rfl rfl rfl ?_
      exact zq_aret rfl H
  · exact H
theorem zr_X2_today_0 {d : Nat} {Q : zR → zH → Prop} {p0 : Nat} {h : zH} (H :
    ∃ x1 : Int32, zgf h p0 2 8 = some (.int x1) ∧
    Q (.inl (some (.int x1))) h) : zW (zE d) zm_X2_today Q (0, [(0, .ref p0)], [], h) := by
  refine zq_aload (pc' := 1) rfl rfl rfl rfl ?_
  obtain ⟨x1, e0, H⟩ := H
  refine zq_getI (pc' := 4) rfl rfl rfl e0 ?_
  exact zq_iret rfl trivial H
theorem zr_X2_turnTo_0 {d : Nat} {Q : zR → zH → Prop} {p0 : Nat} {p1 : Int32} {h : zH} (H :
    ∃ h1, zpf h p0 2 8 (.int p1) = some h1 ∧
    Q (.inl none) h1) : zW (zE d) zm_X2_turnTo Q (0, [(0, .ref p0), (1, .int p1)], [], h) := by
  refine zq_aload (pc' := 1) rfl rfl rfl rfl ?_
  refine zq_iload (pc' := 2) rfl rfl rfl rfl ?_
  obtain ⟨h1, e0, H⟩ := H
  refine zq_put (pc' := 5) rfl rfl rfl trivial e0 ?_
  exact zq_vret rfl H
theorem zr_X2_strainCount_0 {d : Nat} {Q : zR → zH → Prop} {p0 : Nat} {h : zH} (H :
    ∃ x1 : Int32, zgf h p0 2 3 = some (.int x1) ∧
    Q (.inl (some (.int x1))) h) : zW (zE d) zm_X2_strainCount Q (0, [(0, .ref p0)], [], h) := by
  refine zq_aload (pc' := 1) rfl rfl rfl rfl ?_
  obtain ⟨x1, e0, H⟩ := H
  refine zq_getI (pc' := 4) rfl rfl rfl e0 ?_
  exact zq_iret rfl trivial H
theorem zr_X2_strainAt_0 {d : Nat} {Q : zR → zH → Prop} {p0 : Nat} {p1 : Int32} {h : zH} (H :
    zbr (p1 < 0)
    (Q (.inl (some (.int 4))) h)
    (∃ x1 : Int32, zgf h p0 2 3 = some (.int x1) ∧
      zbr (x1 ≤ p1)
      (Q (.inl (some (.int 4))) h)
      (∃ a2 : Nat, zgf h p0 2 2 = some (.ref a2) ∧
        ∃ x3, zal h a2 = some x3 ∧
        zbr (x3 ≤ p1)
        (Q (.inl (some (.int 4))) h)
        (∃ a4 : Nat, zgf h p0 2 2 = some (.ref a4) ∧
          ∃ x5, zia h a4 p1 = some x5 ∧
          Q (.inl (some (.int x5))) h)))) : zW (zE d) zm_X2_strainAt Q (0, [(0, .ref p0), (1, .int p1)], [], h) := by
  refine zq_iload (pc' := 1) rfl rfl rfl rfl ?_
  refine zq_iflt (pc' := 4) rfl rfl rfl rfl (And.intro (fun c => ?_) (fun c => ?_))
  · have H := H.1 c
    refine zq_ipush (pc' := 31) rfl rfl rfl ?_
    exact zq_iret rfl trivial H
  · have H := H.2 c
    refine zq_iload (pc' := 5) rfl rfl rfl rfl ?_
    refine zq_aload (pc' := 6) rfl rfl rfl rfl ?_
    obtain ⟨x1, e0, H⟩ := H
    refine zq_getI (pc' := 9) rfl rfl rfl e0 ?_
    refine zq_icge (pc' := 12) rfl rfl rfl rfl (And.intro (fun c => ?_) (fun c => ?_))
    · have H := H.1 c
      refine zq_ipush (pc' := 31) rfl rfl rfl ?_
      exact zq_iret rfl trivial H
    · have H := H.2 c
      refine zq_iload (pc' := 13) rfl rfl rfl rfl ?_
      refine zq_aload (pc' := 14) rfl rfl rfl rfl ?_
      obtain ⟨a2, e0, H⟩ := H
      refine zq_getR (pc' := 17) rfl rfl rfl e0 ?_
      obtain ⟨x3, e0, H⟩ := H
      refine zq_alen (pc' := 18) rfl rfl rfl e0 ?_
      refine zq_icge (pc' := 21) rfl rfl rfl rfl (And.intro (fun c => ?_) (fun c => ?_))
      · have H := H.1 c
        refine zq_ipush (pc' := 31) rfl rfl rfl ?_
        exact zq_iret rfl trivial H
      · have H := H.2 c
        refine zq_aload (pc' := 22) rfl rfl rfl rfl ?_
        obtain ⟨a4, e0, H⟩ := H
        refine zq_getR (pc' := 25) rfl rfl rfl e0 ?_
        refine zq_iload (pc' := 26) rfl rfl rfl rfl ?_
        obtain ⟨x5, e0, H⟩ := H
        refine zq_iald (pc' := 27) rfl rfl rfl e0 ?_
        refine zq_goto (pc' := 31) rfl rfl rfl ?_
        exact zq_iret rfl trivial H
theorem zr_X2_strainOn_0 {d : Nat} {Q : zR → zH → Prop} {p0 : Nat} {p1 : Int32} {h : zH} (H :
    zE d 54 [.ref p0, .int p1, .int (-1), .int 0] h (fun r2 h1 => match r2 with
      | .inl v3 => ∃ x5 : Int32, v3 = some (.int x5) ∧ Q (.inl (some (.int x5))) h1
      | .inr e4 => Q (.inr e4) h1)) : zW (zE d) zm_X2_strainOn Q (0, [(0, .ref p0), (1, .int p1)], [], h) := by
  refine zq_aload (pc' := 1) rfl rfl rfl rfl ?_
  refine zq_iload (pc' := 2) rfl rfl rfl rfl ?_
  refine zq_ipushn (pc' := 3) rfl rfl rfl ?_
  refine zq_ipush (pc' := 4) rfl rfl rfl ?_
  refine zq_calli (pc' := 7) rfl rfl rfl rfl rfl rfl (zE_mono H (fun r2 h1 H => ?_))
  rcases r2 with v3 | e4
  · obtain ⟨x5, e0, H⟩ := H
    refine Exists.intro x5 (And.intro e0 ?_)
    exact zq_iret rfl trivial H
  · exact H
theorem zr_X2_strainWith_0 {d : Nat} {Q : zR → zH → Prop} {p0 : Nat} {p1 : Int32} {p2 : Int32} {p3 : Int32} {h : zH} (H :
    ∃ x1 : Int32, zgf h p0 2 3 = some (.int x1) ∧
    zbr (0 < x1)
    (∃ x2 : Int32, zgf h p0 2 3 = some (.int x2) ∧
      ¬ x2 = 0 ∧ zbr ((p1 - p1 / x2 * x2) = p2)
      (Q (.inl (some (.int p3))) h)
      (zE d 52 [.ref p0, .int (p1 - p1 / x2 * x2)] h (fun r4 h3 => match r4 with
          | .inl v5 => ∃ x7 : Int32, v5 = some (.int x7) ∧ Q (.inl (some (.int x7))) h3
          | .inr e6 => Q (.inr e6) h3)))
    (Q (.inl (some (.int 4))) h)) : zW (zE d) zm_X2_strainWith Q (0, [(0, .ref p0), (1, .int p1), (2, .int p2), (3, .int p3)], [], h) := by
  refine zq_aload (pc' := 1) rfl rfl rfl rfl ?_
  obtain ⟨x1, e0, H⟩ := H
  refine zq_getI (pc' := 4) rfl rfl rfl e0 ?_
  refine zq_ifgt (pc' := 7) rfl rfl rfl rfl (And.intro (fun c => ?_) (fun c => ?_))
  · have H := H.1 c
    refine zq_iload (pc' := 10) rfl rfl rfl rfl ?_
    refine zq_aload (pc' := 11) rfl rfl rfl rfl ?_
    obtain ⟨x2, e0, H⟩ := H
    refine zq_getI (pc' := 14) rfl rfl rfl e0 ?_
    obtain ⟨e0, H⟩ := H
    refine zq_irem (pc' := 15) rfl rfl rfl e0 ?_
    refine zq_istore (pc' := 17) rfl rfl rfl ?_
    refine zq_iload (pc' := 19) rfl rfl rfl rfl ?_
    refine zq_iload (pc' := 20) rfl rfl rfl rfl ?_
    refine zq_icne (pc' := 23) rfl rfl rfl rfl (And.intro (fun c => ?_) (fun c => ?_))
    · have H := H.1 c
      refine zq_iload (pc' := 24) rfl rfl rfl rfl ?_
      refine zq_goto (pc' := 33) rfl rfl rfl ?_
      exact zq_iret rfl trivial H
    · have H := H.2 c
      refine zq_aload (pc' := 28) rfl rfl rfl rfl ?_
      refine zq_iload (pc' := 30) rfl rfl rfl rfl ?_
      refine zq_calli (pc' := 33) rfl rfl rfl rfl rfl rfl (zE_mono H (fun r4 h3 H => ?_))
      rcases r4 with v5 | e6
      · obtain ⟨x7, e0, H⟩ := H
        refine Exists.intro x7 (And.intro e0 ?_)
        exact zq_iret rfl trivial H
      · exact H
  · have H := H.2 c
    refine zq_ipush (pc' := 8) rfl rfl rfl ?_
    exact zq_iret rfl trivial H
theorem zr_X2_allClosed_0 {d : Nat} {Q : zR → zH → Prop} {p0 : Nat} {h : zH} (H :
    zW (zE d) zm_X2_allClosed Q (4, [(0, .ref p0), (1, .int 0), (2, .int 0)], [], h)) : zW (zE d) zm_X2_allClosed Q (0, [(0, .ref p0)], [], h) := by
  refine zq_ipush (pc' := 1) rfl rfl rfl ?_
  refine zq_istore (pc' := 2) rfl rfl rfl ?_
  refine zq_ipush (pc' := 3) rfl rfl rfl ?_
  refine zq_istore_c (pc' := 4) rfl rfl ?_
  exact H
theorem zr_X2_allClosed_4 {d : Nat} {Q : zR → zH → Prop} {l0 : Nat} {l1 : Int32} {l2 : Int32} {h : zH} (H :
    ∃ x1 : Int32, zgf h l0 2 1 = some (.int x1) ∧
    zbr (x1 ≤ l2)
    (Q (.inl (some (.int l1))) h)
    (zE d 48 [.ref l0, .int l2] h (fun r3 h2 => match r3 with
        | .inl v4 => ∃ a6 : Nat, v4 = some (.ref a6) ∧ zE d 116 [.ref a6] h2 (fun r8 h7 => match r8 with
            | .inl v9 => ∃ x11 : Int32, v9 = some (.int x11) ∧ zW (zE d) zm_X2_allClosed Q (4, [(0, .ref l0), (1, .int (l1 + x11)), (2, .int (l2 + 1))], [], h7)
            | .inr e10 => Q (.inr e10) h7)
        | .inr e5 => Q (.inr e5) h2))) : zW (zE d) zm_X2_allClosed Q (4, [(0, .ref l0), (1, .int l1), (2, .int l2)], [], h) := by
  refine zq_iload (pc' := 5) rfl rfl rfl rfl ?_
  refine zq_aload (pc' := 6) rfl rfl rfl rfl ?_
  obtain ⟨x1, e0, H⟩ := H
  refine zq_getI (pc' := 9) rfl rfl rfl e0 ?_
  refine zq_icge (pc' := 12) rfl rfl rfl rfl (And.intro (fun c => ?_) (fun c => ?_))
  · have H := H.1 c
    refine zq_iload (pc' := 30) rfl rfl rfl rfl ?_
    exact zq_iret rfl trivial H
  · have H := H.2 c
    refine zq_iload (pc' := 13) rfl rfl rfl rfl ?_
    refine zq_aload (pc' := 14) rfl rfl rfl rfl ?_
    refine zq_iload (pc' := 15) rfl rfl rfl rfl ?_
    refine zq_callr (pc' := 18) rfl rfl rfl rfl rfl rfl (zE_mono H (fun r3 h2 H => ?_))
    rcases r3 with v4 | e5
    · obtain ⟨a6, e0, H⟩ := H
      refine Exists.intro a6 (And.intro e0 ?_)
      refine zq_calli (pc' := 21) rfl rfl rfl rfl rfl rfl (zE_mono H (fun r8 h7 H => ?_))
      rcases r8 with v9 | e10
      · obtain ⟨x11, e0, H⟩ := H
        refine Exists.intro x11 (And.intro e0 ?_)
        refine zq_iadd (pc' := 22) rfl rfl rfl ?_
        refine zq_istore (pc' := 23) rfl rfl rfl ?_
        refine zq_iinc (pc' := 26) rfl rfl rfl rfl ?_
        refine zq_goto_c (pc' := 4) rfl rfl ?_
        exact H
      · exact H
    · exact H
theorem zr_X2_allGrips_0 {d : Nat} {Q : zR → zH → Prop} {p0 : Nat} {h : zH} (H :
    zW (zE d) zm_X2_allGrips Q (4, [(0, .ref p0), (1, .int 0), (2, .int 0)], [], h)) : zW (zE d) zm_X2_allGrips Q (0, [(0, .ref p0)], [], h) := by
  refine zq_ipush (pc' := 1) rfl rfl rfl ?_
  refine zq_istore (pc' := 2) rfl rfl rfl ?_
  refine zq_ipush (pc' := 3) rfl rfl rfl ?_
  refine zq_istore_c (pc' := 4) rfl rfl ?_
  exact H
theorem zr_X2_allGrips_4 {d : Nat} {Q : zR → zH → Prop} {l0 : Nat} {l1 : Int32} {l2 : Int32} {h : zH} (H :
    ∃ x1 : Int32, zgf h l0 2 1 = some (.int x1) ∧
    zbr (x1 ≤ l2)
    (Q (.inl (some (.int l1))) h)
    (zE d 48 [.ref l0, .int l2] h (fun r3 h2 => match r3 with
        | .inl v4 => ∃ a6 : Nat, v4 = some (.ref a6) ∧ zE d 123 [.ref a6] h2 (fun r8 h7 => match r8 with
            | .inl v9 => ∃ x11 : Int32, v9 = some (.int x11) ∧ zW (zE d) zm_X2_allGrips Q (4, [(0, .ref l0), (1, .int (l1 + x11)), (2, .int (l2 + 1))], [], h7)
            | .inr e10 => Q (.inr e10) h7)
        | .inr e5 => Q (.inr e5) h2))) : zW (zE d) zm_X2_allGrips Q (4, [(0, .ref l0), (1, .int l1), (2, .int l2)], [], h) := by
  refine zq_iload (pc' := 5) rfl rfl rfl rfl ?_
  refine zq_aload (pc' := 6) rfl rfl rfl rfl ?_
  obtain ⟨x1, e0, H⟩ := H
  refine zq_getI (pc' := 9) rfl rfl rfl e0 ?_
  refine zq_icge (pc' := 12) rfl rfl rfl rfl (And.intro (fun c => ?_) (fun c => ?_))
  · have H := H.1 c
    refine zq_iload (pc' := 30) rfl rfl rfl rfl ?_
    exact zq_iret rfl trivial H
  · have H := H.2 c
    refine zq_iload (pc' := 13) rfl rfl rfl rfl ?_
    refine zq_aload (pc' := 14) rfl rfl rfl rfl ?_
    refine zq_iload (pc' := 15) rfl rfl rfl rfl ?_
    refine zq_callr (pc' := 18) rfl rfl rfl rfl rfl rfl (zE_mono H (fun r3 h2 H => ?_))
    rcases r3 with v4 | e5
    · obtain ⟨a6, e0, H⟩ := H
      refine Exists.intro a6 (And.intro e0 ?_)
      refine zq_calli (pc' := 21) rfl rfl rfl rfl rfl rfl (zE_mono H (fun r8 h7 H => ?_))
      rcases r8 with v9 | e10
      · obtain ⟨x11, e0, H⟩ := H
        refine Exists.intro x11 (And.intro e0 ?_)
        refine zq_iadd (pc' := 22) rfl rfl rfl ?_
        refine zq_istore (pc' := 23) rfl rfl rfl ?_
        refine zq_iinc (pc' := 26) rfl rfl rfl rfl ?_
        refine zq_goto_c (pc' := 4) rfl rfl ?_
        exact H
      · exact H
    · exact H
theorem zr_X2_passToday_0 {d : Nat} {Q : zR → zH → Prop} {p0 : Nat} {h : zH} (H :
    zW (zE d) zm_X2_passToday Q (2, [(0, .ref p0), (1, .int 0)], [], h)) : zW (zE d) zm_X2_passToday Q (0, [(0, .ref p0)], [], h) := by
  refine zq_ipush (pc' := 1) rfl rfl rfl ?_
  refine zq_istore_c (pc' := 2) rfl rfl ?_
  exact H
theorem zr_X2_passToday_2 {d : Nat} {Q : zR → zH → Prop} {l0 : Nat} {l1 : Int32} {h : zH} (H :
    ∃ x1 : Int32, zgf h l0 2 1 = some (.int x1) ∧
    zbr (x1 ≤ l1)
    (∃ x2 : Int32, zgf h l0 2 8 = some (.int x2) ∧
      ∃ h3, zpf h l0 2 8 (.int (x2 + 1)) = some h3 ∧
      Q (.inl none) h3)
    (zE d 48 [.ref l0, .int l1] h (fun r5 h4 => match r5 with
        | .inl v6 => ∃ a8 : Nat, v6 = some (.ref a8) ∧ ∃ x9 : Int32, zgf h4 l0 2 8 = some (.int x9) ∧
          zE d 53 [.ref l0, .int x9] h4 (fun r11 h10 => match r11 with
            | .inl v12 => ∃ x14 : Int32, v12 = some (.int x14) ∧ ∃ x15 : Int32, zgf h10 l0 2 8 = some (.int x15) ∧
              zE d 58 [.ref l0, .ref a8, .int x14, .int x15] h10 (fun r17 h16 => match r17 with
                | .inl v18 => ∃ x20 : Int32, v18 = some (.int x20) ∧ zW (zE d) zm_X2_passToday Q (2, [(0, .ref l0), (1, .int (l1 + 1))], [], h16)
                | .inr e19 => Q (.inr e19) h16)
            | .inr e13 => Q (.inr e13) h10)
        | .inr e7 => Q (.inr e7) h4))) : zW (zE d) zm_X2_passToday Q (2, [(0, .ref l0), (1, .int l1)], [], h) := by
  refine zq_iload (pc' := 3) rfl rfl rfl rfl ?_
  refine zq_aload (pc' := 4) rfl rfl rfl rfl ?_
  obtain ⟨x1, e0, H⟩ := H
  refine zq_getI (pc' := 7) rfl rfl rfl e0 ?_
  refine zq_icge (pc' := 10) rfl rfl rfl rfl (And.intro (fun c => ?_) (fun c => ?_))
  · have H := H.1 c
    refine zq_aload (pc' := 39) rfl rfl rfl rfl ?_
    refine zq_dup (pc' := 40) rfl rfl rfl rfl ?_
    obtain ⟨x2, e0, H⟩ := H
    refine zq_getI (pc' := 43) rfl rfl rfl e0 ?_
    refine zq_ipush (pc' := 44) rfl rfl rfl ?_
    refine zq_iadd (pc' := 45) rfl rfl rfl ?_
    obtain ⟨h3, e0, H⟩ := H
    refine zq_put (pc' := 48) rfl rfl rfl trivial e0 ?_
    exact zq_vret rfl H
  · have H := H.2 c
    refine zq_aload (pc' := 11) rfl rfl rfl rfl ?_
    refine zq_aload (pc' := 12) rfl rfl rfl rfl ?_
    refine zq_iload (pc' := 13) rfl rfl rfl rfl ?_
    refine zq_callr (pc' := 16) rfl rfl rfl rfl rfl rfl (zE_mono H (fun r5 h4 H => ?_))
    rcases r5 with v6 | e7
    · obtain ⟨a8, e0, H⟩ := H
      refine Exists.intro a8 (And.intro e0 ?_)
      refine zq_aload (pc' := 17) rfl rfl rfl rfl ?_
      refine zq_aload (pc' := 18) rfl rfl rfl rfl ?_
      obtain ⟨x9, e0, H⟩ := H
      refine zq_getI (pc' := 21) rfl rfl rfl e0 ?_
      refine zq_calli (pc' := 24) rfl rfl rfl rfl rfl rfl (zE_mono H (fun r11 h10 H => ?_))
      rcases r11 with v12 | e13
      · obtain ⟨x14, e0, H⟩ := H
        refine Exists.intro x14 (And.intro e0 ?_)
        refine zq_aload (pc' := 25) rfl rfl rfl rfl ?_
        obtain ⟨x15, e0, H⟩ := H
        refine zq_getI (pc' := 28) rfl rfl rfl e0 ?_
        refine zq_calli (pc' := 31) rfl rfl rfl rfl rfl rfl (zE_mono H (fun r17 h16 H => ?_))
        rcases r17 with v18 | e19
        · obtain ⟨x20, e0, H⟩ := H
          refine Exists.intro x20 (And.intro e0 ?_)
          refine zq_pop (pc' := 32) rfl rfl rfl rfl ?_
          refine zq_iinc (pc' := 35) rfl rfl rfl rfl ?_
          refine zq_goto_c (pc' := 2) rfl rfl ?_
          exact H
        · exact H
      · exact H
    · exact H
theorem zr_X2_pass_0 {d : Nat} {Q : zR → zH → Prop} {p0 : Nat} {p1 : Nat} {p2 : Int32} {p3 : Int32} {h : zH} (H :
    ∃ h1, zpf h p0 2 9 (.int (-1)) = some h1 ∧
    zE d 115 [.ref p1] h1 (fun r3 h2 => match r3 with
      | .inl v4 => ∃ x6 : Int32, v4 = some (.int x6) ∧ zbr (x6 = 0)
        (zW (zE d) zm_X2_pass Q (33, [(0, .ref p0), (1, .ref p1), (2, .int p2), (3, .int p3), (4, .int 0), (5, .int 0), (6, .int 0)], [], h2))
        (zE d 110 [.ref p1, .int p2] h2 (fun r8 h7 => match r8 with
            | .inl v9 => ∃ x11 : Int32, v9 = some (.int x11) ∧ zbr (x11 = 0)
              (zW (zE d) zm_X2_pass Q (33, [(0, .ref p0), (1, .ref p1), (2, .int p2), (3, .int p3), (4, .int 0), (5, .int 1), (6, .int 0)], [], h7))
              (zW (zE d) zm_X2_pass Q (33, [(0, .ref p0), (1, .ref p1), (2, .int p2), (3, .int p3), (4, .int 0), (5, .int 0), (6, .int 0)], [], h7))
            | .inr e10 => Q (.inr e10) h7))
      | .inr e5 => Q (.inr e5) h2)) : zW (zE d) zm_X2_pass Q (0, [(0, .ref p0), (1, .ref p1), (2, .int p2), (3, .int p3)], [], h) := by
  refine zq_ipush (pc' := 1) rfl rfl rfl ?_
  refine zq_istore (pc' := 3) rfl rfl rfl ?_
  refine zq_aload (pc' := 4) rfl rfl rfl rfl ?_
  refine zq_ipushn (pc' := 5) rfl rfl rfl ?_
  obtain ⟨h1, e0, H⟩ := H
  refine zq_put (pc' := 8) rfl rfl rfl trivial e0 ?_
  refine zq_aload (pc' := 9) rfl rfl rfl rfl ?_
  refine zq_calli (pc' := 12) rfl rfl rfl rfl rfl rfl (zE_mono H (fun r3 h2 H => ?_))
  rcases r3 with v4 | e5
  · obtain ⟨x6, e0, H⟩ := H
    refine Exists.intro x6 (And.intro e0 ?_)
    refine zq_ifeq (pc' := 15) rfl rfl rfl rfl (And.intro (fun c => ?_) (fun c => ?_))
    · have H := H.1 c
      refine zq_ipush (pc' := 28) rfl rfl rfl ?_
      refine zq_istore (pc' := 30) rfl rfl rfl ?_
      refine zq_ipush (pc' := 31) rfl rfl rfl ?_
      refine zq_istore_c (pc' := 33) rfl rfl ?_
      exact H
    · have H := H.2 c
      refine zq_aload (pc' := 16) rfl rfl rfl rfl ?_
      refine zq_iload (pc' := 17) rfl rfl rfl rfl ?_
      refine zq_calli (pc' := 20) rfl rfl rfl rfl rfl rfl (zE_mono H (fun r8 h7 H => ?_))
      rcases r8 with v9 | e10
      · obtain ⟨x11, e0, H⟩ := H
        refine Exists.intro x11 (And.intro e0 ?_)
        refine zq_ifne (pc' := 23) rfl rfl rfl rfl (And.intro (fun c => ?_) (fun c => ?_))
        · have H := H.1 c
          refine zq_ipush (pc' := 24) rfl rfl rfl ?_
          refine zq_goto (pc' := 28) rfl rfl rfl ?_
          refine zq_istore (pc' := 30) rfl rfl rfl ?_
          refine zq_ipush (pc' := 31) rfl rfl rfl ?_
          refine zq_istore_c (pc' := 33) rfl rfl ?_
          exact H
        · have H := H.2 c
          refine zq_ipush (pc' := 28) rfl rfl rfl ?_
          refine zq_istore (pc' := 30) rfl rfl rfl ?_
          refine zq_ipush (pc' := 31) rfl rfl rfl ?_
          refine zq_istore_c (pc' := 33) rfl rfl ?_
          exact H
      · exact H
  · exact H
theorem zr_X2_pass_33 {d : Nat} {Q : zR → zH → Prop} {l0 : Nat} {l1 : Nat} {l2 : Int32} {l3 : Int32} {l4 : Int32} {l5 : Int32} {l6 : Int32} {h : zH} (H :
    zbr (l5 = 0)
    (zbr (l4 = 0)
      (∃ a1 : Nat, zgf h l0 2 6 = some (.ref a1) ∧
        zE d 95 [.ref a1] h (fun r3 h2 => match r3 with
          | .inl v4 => ∃ x6 : Int32, v4 = some (.int x6) ∧ zbr (x6 = 0)
            (zE d 111 [.ref l1, .int l2] h2 (fun r8 h7 => match r8 with
                | .inl v9 => v9 = none ∧ Q (.inl (some (.int l4))) h7
                | .inr e10 => Q (.inr e10) h7))
            (Q (.inl (some (.int l4))) h2)
          | .inr e5 => Q (.inr e5) h2))
      (Q (.inl (some (.int l4))) h))
    (zbr (16 < l6)
      (zbr (l4 = 0)
        (∃ a11 : Nat, zgf h l0 2 6 = some (.ref a11) ∧
          zE d 95 [.ref a11] h (fun r13 h12 => match r13 with
            | .inl v14 => ∃ x16 : Int32, v14 = some (.int x16) ∧ zbr (x16 = 0)
              (zE d 111 [.ref l1, .int l2] h12 (fun r18 h17 => match r18 with
                  | .inl v19 => v19 = none ∧ Q (.inl (some (.int l4))) h17
                  | .inr e20 => Q (.inr e20) h17))
              (Q (.inl (some (.int l4))) h12)
            | .inr e15 => Q (.inr e15) h12))
        (Q (.inl (some (.int l4))) h))
      (zW (zE d) zm_X2_pass Q (51, [(0, .ref l0), (1, .ref l1), (2, .int l2), (3, .int l3), (4, .int l4), (5, .int 0), (6, .int l6), (7, .int 0)], [], h)))) : zW (zE d) zm_X2_pass Q (33, [(0, .ref l0), (1, .ref l1), (2, .int l2), (3, .int l3), (4, .int l4), (5, .int l5), (6, .int l6)], [], h) := by
  refine zq_iload (pc' := 35) rfl rfl rfl rfl ?_
  refine zq_ifeq (pc' := 38) rfl rfl rfl rfl (And.intro (fun c => ?_) (fun c => ?_))
  · have H := H.1 c
    refine zq_iload (pc' := 145) rfl rfl rfl rfl ?_
    refine zq_ifne (pc' := 148) rfl rfl rfl rfl (And.intro (fun c => ?_) (fun c => ?_))
    · have H := H.1 c
      refine zq_aload (pc' := 149) rfl rfl rfl rfl ?_
      obtain ⟨a1, e0, H⟩ := H
      refine zq_getR (pc' := 152) rfl rfl rfl e0 ?_
      refine zq_calli (pc' := 155) rfl rfl rfl rfl rfl rfl (zE_mono H (fun r3 h2 H => ?_))
      rcases r3 with v4 | e5
      · obtain ⟨x6, e0, H⟩ := H
        refine Exists.intro x6 (And.intro e0 ?_)
        refine zq_ifne (pc' := 158) rfl rfl rfl rfl (And.intro (fun c => ?_) (fun c => ?_))
        · have H := H.1 c
          refine zq_aload (pc' := 159) rfl rfl rfl rfl ?_
          refine zq_iload (pc' := 160) rfl rfl rfl rfl ?_
          refine zq_callv (pc' := 163) rfl rfl rfl rfl rfl rfl (zE_mono H (fun r8 h7 H => ?_))
          rcases r8 with v9 | e10
          · obtain ⟨e0, H⟩ := H
            refine And.intro e0 ?_
            refine zq_iload (pc' := 165) rfl rfl rfl rfl ?_
            exact zq_iret rfl trivial H
          · exact H
        · have H := H.2 c
          refine zq_iload (pc' := 165) rfl rfl rfl rfl ?_
          exact zq_iret rfl trivial H
      · exact H
    · have H := H.2 c
      refine zq_iload (pc' := 165) rfl rfl rfl rfl ?_
      exact zq_iret rfl trivial H
  · have H := H.2 c
    refine zq_iload (pc' := 40) rfl rfl rfl rfl ?_
    refine zq_ipush (pc' := 42) rfl rfl rfl ?_
    refine zq_icgt (pc' := 45) rfl rfl rfl rfl (And.intro (fun c => ?_) (fun c => ?_))
    · have H := H.1 c
      refine zq_iload (pc' := 145) rfl rfl rfl rfl ?_
      refine zq_ifne (pc' := 148) rfl rfl rfl rfl (And.intro (fun c => ?_) (fun c => ?_))
      · have H := H.1 c
        refine zq_aload (pc' := 149) rfl rfl rfl rfl ?_
        obtain ⟨a11, e0, H⟩ := H
        refine zq_getR (pc' := 152) rfl rfl rfl e0 ?_
        refine zq_calli (pc' := 155) rfl rfl rfl rfl rfl rfl (zE_mono H (fun r13 h12 H => ?_))
        rcases r13 with v14 | e15
        · obtain ⟨x16, e0, H⟩ := H
          refine Exists.intro x16 (And.intro e0 ?_)
          refine zq_ifne (pc' := 158) rfl rfl rfl rfl (And.intro (fun c => ?_) (fun c => ?_))
          · have H := H.1 c
            refine zq_aload (pc' := 159) rfl rfl rfl rfl ?_
            refine zq_iload (pc' := 160) rfl rfl rfl rfl ?_
            refine zq_callv (pc' := 163) rfl rfl rfl rfl rfl rfl (zE_mono H (fun r18 h17 H => ?_))
            rcases r18 with v19 | e20
            · obtain ⟨e0, H⟩ := H
              refine And.intro e0 ?_
              refine zq_iload (pc' := 165) rfl rfl rfl rfl ?_
              exact zq_iret rfl trivial H
            · exact H
          · have H := H.2 c
            refine zq_iload (pc' := 165) rfl rfl rfl rfl ?_
            exact zq_iret rfl trivial H
        · exact H
      · have H := H.2 c
        refine zq_iload (pc' := 165) rfl rfl rfl rfl ?_
        exact zq_iret rfl trivial H
    · have H := H.2 c
      refine zq_ipush (pc' := 46) rfl rfl rfl ?_
      refine zq_istore (pc' := 48) rfl rfl rfl ?_
      refine zq_ipush (pc' := 49) rfl rfl rfl ?_
      refine zq_istore_c (pc' := 51) rfl rfl ?_
      exact H
theorem zr_X2_pass_51 {d : Nat} {Q : zR → zH → Prop} {l0 : Nat} {l1 : Nat} {l2 : Int32} {l3 : Int32} {l4 : Int32} {l5 : Int32} {l6 : Int32} {l7 : Int32} {h : zH} (H :
    zE d 112 [.ref l1] h (fun r2 h1 => match r2 with
      | .inl v3 => ∃ x5 : Int32, v3 = some (.int x5) ∧ zbr (x5 ≤ l7)
        (zW (zE d) zm_X2_pass Q (33, [(0, .ref l0), (1, .ref l1), (2, .int l2), (3, .int l3), (4, .int l4), (5, .int l5), (6, .int (l6 + 1))], [], h1))
        (zE d 117 [.ref l1, .int l7] h1 (fun r7 h6 => match r7 with
            | .inl v8 => ∃ x10 : Int32, v8 = some (.int x10) ∧ zbr (x10 = 0)
              (zW (zE d) zm_X2_pass Q (51, [(0, .ref l0), (1, .ref l1), (2, .int l2), (3, .int l3), (4, .int l4), (5, .int l5), (6, .int l6), (7, .int (l7 + 1))], [], h6))
              (zE d 61 [.ref l0, .ref l1, .int l7, .int l2, .int l3] h6 (fun r12 h11 => match r12 with
                  | .inl v13 => ∃ x15 : Int32, v13 = some (.int x15) ∧ zE d 120 [.ref l1, .int l7] h11 (fun r17 h16 => match r17 with
                      | .inl v18 => ∃ x20 : Int32, v18 = some (.int x20) ∧ zbr (x15 ≤ x20)
                        (zW (zE d) zm_X2_pass Q (51, [(0, .ref l0), (1, .ref l1), (2, .int l2), (3, .int l3), (4, .int l4), (5, .int l5), (6, .int l6), (7, .int (l7 + 1))], [], h16))
                        (zbr (l4 = 0)
                          (∃ h21, zpf h16 l0 2 9 (.int l7) = some h21 ∧
                            zE d 0 [.int l4] h21 (fun r23 h22 => match r23 with
                              | .inl v24 => ∃ x26 : Int32, v24 = some (.int x26) ∧ zE d 62 [.ref l0, .ref l1, .int l7, .int l2, .int l3, .int x26] h22 (fun r28 h27 => match r28 with
                                  | .inl v29 => v29 = none ∧ zW (zE d) zm_X2_pass Q (51, [(0, .ref l0), (1, .ref l1), (2, .int l2), (3, .int l3), (4, .int (l4 ||| (1 <<< (l7 &&& 31)))), (5, .int 1), (6, .int l6), (7, .int (l7 + 1))], [], h27)
                                  | .inr e30 => Q (.inr e30) h27)
                              | .inr e25 => Q (.inr e25) h22))
                          (∃ x31 : Int32, zgf h16 l0 2 9 = some (.int x31) ∧
                            ∃ h32, zpf h16 l0 2 9 (.int x31) = some h32 ∧
                            zE d 0 [.int l4] h32 (fun r34 h33 => match r34 with
                              | .inl v35 => ∃ x37 : Int32, v35 = some (.int x37) ∧ zE d 62 [.ref l0, .ref l1, .int l7, .int l2, .int l3, .int x37] h33 (fun r39 h38 => match r39 with
                                  | .inl v40 => v40 = none ∧ zW (zE d) zm_X2_pass Q (51, [(0, .ref l0), (1, .ref l1), (2, .int l2), (3, .int l3), (4, .int (l4 ||| (1 <<< (l7 &&& 31)))), (5, .int 1), (6, .int l6), (7, .int (l7 + 1))], [], h38)
                                  | .inr e41 => Q (.inr e41) h38)
                              | .inr e36 => Q (.inr e36) h33)))
                      | .inr e19 => Q (.inr e19) h16)
                  | .inr e14 => Q (.inr e14) h11))
            | .inr e9 => Q (.inr e9) h6))
      | .inr e4 => Q (.inr e4) h1)) : zW (zE d) zm_X2_pass Q (51, [(0, .ref l0), (1, .ref l1), (2, .int l2), (3, .int l3), (4, .int l4), (5, .int l5), (6, .int l6), (7, .int l7)], [], h) := by
  refine zq_iload (pc' := 53) rfl rfl rfl rfl ?_
  refine zq_aload (pc' := 54) rfl rfl rfl rfl ?_
  refine zq_calli (pc' := 57) rfl rfl rfl rfl rfl rfl (zE_mono H (fun r2 h1 H => ?_))
  rcases r2 with v3 | e4
  · obtain ⟨x5, e0, H⟩ := H
    refine Exists.intro x5 (And.intro e0 ?_)
    refine zq_icge (pc' := 60) rfl rfl rfl rfl (And.intro (fun c => ?_) (fun c => ?_))
    · have H := H.1 c
      refine zq_iinc (pc' := 140) rfl rfl rfl rfl ?_
      refine zq_goto_c (pc' := 33) rfl rfl ?_
      exact H
    · have H := H.2 c
      refine zq_aload (pc' := 61) rfl rfl rfl rfl ?_
      refine zq_iload (pc' := 63) rfl rfl rfl rfl ?_
      refine zq_calli (pc' := 66) rfl rfl rfl rfl rfl rfl (zE_mono H (fun r7 h6 H => ?_))
      rcases r7 with v8 | e9
      · obtain ⟨x10, e0, H⟩ := H
        refine Exists.intro x10 (And.intro e0 ?_)
        refine zq_ifeq (pc' := 69) rfl rfl rfl rfl (And.intro (fun c => ?_) (fun c => ?_))
        · have H := H.1 c
          refine zq_iinc (pc' := 134) rfl rfl rfl rfl ?_
          refine zq_goto_c (pc' := 51) rfl rfl ?_
          exact H
        · have H := H.2 c
          refine zq_aload (pc' := 70) rfl rfl rfl rfl ?_
          refine zq_aload (pc' := 71) rfl rfl rfl rfl ?_
          refine zq_iload (pc' := 73) rfl rfl rfl rfl ?_
          refine zq_iload (pc' := 74) rfl rfl rfl rfl ?_
          refine zq_iload (pc' := 75) rfl rfl rfl rfl ?_
          refine zq_calli (pc' := 78) rfl rfl rfl rfl rfl rfl (zE_mono H (fun r12 h11 H => ?_))
          rcases r12 with v13 | e14
          · obtain ⟨x15, e0, H⟩ := H
            refine Exists.intro x15 (And.intro e0 ?_)
            refine zq_aload (pc' := 79) rfl rfl rfl rfl ?_
            refine zq_iload (pc' := 81) rfl rfl rfl rfl ?_
            refine zq_calli (pc' := 84) rfl rfl rfl rfl rfl rfl (zE_mono H (fun r17 h16 H => ?_))
            rcases r17 with v18 | e19
            · obtain ⟨x20, e0, H⟩ := H
              refine Exists.intro x20 (And.intro e0 ?_)
              refine zq_icle (pc' := 87) rfl rfl rfl rfl (And.intro (fun c => ?_) (fun c => ?_))
              · have H := H.1 c
                refine zq_iinc (pc' := 134) rfl rfl rfl rfl ?_
                refine zq_goto_c (pc' := 51) rfl rfl ?_
                exact H
              · have H := H.2 c
                refine zq_aload (pc' := 88) rfl rfl rfl rfl ?_
                refine zq_iload (pc' := 90) rfl rfl rfl rfl ?_
                refine zq_ifne (pc' := 93) rfl rfl rfl rfl (And.intro (fun c => ?_) (fun c => ?_))
                · have H := H.1 c
                  refine zq_iload (pc' := 95) rfl rfl rfl rfl ?_
                  refine zq_goto (pc' := 102) rfl rfl rfl ?_
                  obtain ⟨h21, e0, H⟩ := H
                  refine zq_put (pc' := 105) rfl rfl rfl trivial e0 ?_
                  refine zq_aload (pc' := 106) rfl rfl rfl rfl ?_
                  refine zq_aload (pc' := 107) rfl rfl rfl rfl ?_
                  refine zq_iload (pc' := 109) rfl rfl rfl rfl ?_
                  refine zq_iload (pc' := 110) rfl rfl rfl rfl ?_
                  refine zq_iload (pc' := 111) rfl rfl rfl rfl ?_
                  refine zq_iload (pc' := 113) rfl rfl rfl rfl ?_
                  refine zq_calli (pc' := 116) rfl rfl rfl rfl rfl rfl (zE_mono H (fun r23 h22 H => ?_))
                  rcases r23 with v24 | e25
                  · obtain ⟨x26, e0, H⟩ := H
                    refine Exists.intro x26 (And.intro e0 ?_)
                    refine zq_callv (pc' := 119) rfl rfl rfl rfl rfl rfl (zE_mono H (fun r28 h27 H => ?_))
                    rcases r28 with v29 | e30
                    · obtain ⟨e0, H⟩ := H
                      refine And.intro e0 ?_
                      refine zq_iload (pc' := 121) rfl rfl rfl rfl ?_
                      refine zq_ipush (pc' := 122) rfl rfl rfl ?_
                      refine zq_iload (pc' := 124) rfl rfl rfl rfl ?_
                      refine zq_ishl (pc' := 125) rfl rfl rfl ?_
                      refine zq_ior (pc' := 126) rfl rfl rfl ?_
                      refine zq_istore (pc' := 128) rfl rfl rfl ?_
                      refine zq_ipush (pc' := 129) rfl rfl rfl ?_
                      refine zq_istore (pc' := 131) rfl rfl rfl ?_
                      refine zq_iinc (pc' := 134) rfl rfl rfl rfl ?_
                      refine zq_goto_c (pc' := 51) rfl rfl ?_
                      exact H
                    · exact H
                  · exact H
                · have H := H.2 c
                  refine zq_aload (pc' := 99) rfl rfl rfl rfl ?_
                  obtain ⟨x31, e0, H⟩ := H
                  refine zq_getI (pc' := 102) rfl rfl rfl e0 ?_
                  obtain ⟨h32, e0, H⟩ := H
                  refine zq_put (pc' := 105) rfl rfl rfl trivial e0 ?_
                  refine zq_aload (pc' := 106) rfl rfl rfl rfl ?_
                  refine zq_aload (pc' := 107) rfl rfl rfl rfl ?_
                  refine zq_iload (pc' := 109) rfl rfl rfl rfl ?_
                  refine zq_iload (pc' := 110) rfl rfl rfl rfl ?_
                  refine zq_iload (pc' := 111) rfl rfl rfl rfl ?_
                  refine zq_iload (pc' := 113) rfl rfl rfl rfl ?_
                  refine zq_calli (pc' := 116) rfl rfl rfl rfl rfl rfl (zE_mono H (fun r34 h33 H => ?_))
                  rcases r34 with v35 | e36
                  · obtain ⟨x37, e0, H⟩ := H
                    refine Exists.intro x37 (And.intro e0 ?_)
                    refine zq_callv (pc' := 119) rfl rfl rfl rfl rfl rfl (zE_mono H (fun r39 h38 H => ?_))
                    rcases r39 with v40 | e41
                    · obtain ⟨e0, H⟩ := H
                      refine And.intro e0 ?_
                      refine zq_iload (pc' := 121) rfl rfl rfl rfl ?_
                      refine zq_ipush (pc' := 122) rfl rfl rfl ?_
                      refine zq_iload (pc' := 124) rfl rfl rfl rfl ?_
                      refine zq_ishl (pc' := 125) rfl rfl rfl ?_
                      refine zq_ior (pc' := 126) rfl rfl rfl ?_
                      refine zq_istore (pc' := 128) rfl rfl rfl ?_
                      refine zq_ipush (pc' := 129) rfl rfl rfl ?_
                      refine zq_istore (pc' := 131) rfl rfl rfl ?_
                      refine zq_iinc (pc' := 134) rfl rfl rfl rfl ?_
                      refine zq_goto_c (pc' := 51) rfl rfl ?_
                      exact H
                    · exact H
                  · exact H
            · exact H
          · exact H
      · exact H
  · exact H
theorem zr_X2_firstPlace_0 {d : Nat} {Q : zR → zH → Prop} {p0 : Nat} {h : zH} (H :
    ∃ x1 : Int32, zgf h p0 2 9 = some (.int x1) ∧
    Q (.inl (some (.int x1))) h) : zW (zE d) zm_X2_firstPlace Q (0, [(0, .ref p0)], [], h) := by
  refine zq_aload (pc' := 1) rfl rfl rfl rfl ?_
  obtain ⟨x1, e0, H⟩ := H
  refine zq_getI (pc' := 4) rfl rfl rfl e0 ?_
  exact zq_iret rfl trivial H
theorem zr_X2_anyBursts_0 {d : Nat} {Q : zR → zH → Prop} {p0 : Nat} {p1 : Nat} {p2 : Int32} {h : zH} (H :
    zW (zE d) zm_X2_anyBursts Q (2, [(0, .ref p0), (1, .ref p1), (2, .int p2), (3, .int 0)], [], h)) : zW (zE d) zm_X2_anyBursts Q (0, [(0, .ref p0), (1, .ref p1), (2, .int p2)], [], h) := by
  refine zq_ipush (pc' := 1) rfl rfl rfl ?_
  refine zq_istore_c (pc' := 2) rfl rfl ?_
  exact H
theorem zr_X2_anyBursts_2 {d : Nat} {Q : zR → zH → Prop} {l0 : Nat} {l1 : Nat} {l2 : Int32} {l3 : Int32} {h : zH} (H :
    zE d 112 [.ref l1] h (fun r2 h1 => match r2 with
      | .inl v3 => ∃ x5 : Int32, v3 = some (.int x5) ∧ zbr (x5 ≤ l3)
        (Q (.inl (some (.int 0))) h1)
        (zE d 117 [.ref l1, .int l3] h1 (fun r7 h6 => match r7 with
            | .inl v8 => ∃ x10 : Int32, v8 = some (.int x10) ∧ zbr (x10 = 0)
              (zW (zE d) zm_X2_anyBursts Q (2, [(0, .ref l0), (1, .ref l1), (2, .int l2), (3, .int (l3 + 1))], [], h6))
              (∃ x11 : Int32, zgf h6 l0 2 8 = some (.int x11) ∧
                zE d 61 [.ref l0, .ref l1, .int l3, .int l2, .int x11] h6 (fun r13 h12 => match r13 with
                  | .inl v14 => ∃ x16 : Int32, v14 = some (.int x16) ∧ zE d 120 [.ref l1, .int l3] h12 (fun r18 h17 => match r18 with
                      | .inl v19 => ∃ x21 : Int32, v19 = some (.int x21) ∧ zbr (x16 ≤ x21)
                        (zW (zE d) zm_X2_anyBursts Q (2, [(0, .ref l0), (1, .ref l1), (2, .int l2), (3, .int (l3 + 1))], [], h17))
                        (Q (.inl (some (.int 1))) h17)
                      | .inr e20 => Q (.inr e20) h17)
                  | .inr e15 => Q (.inr e15) h12))
            | .inr e9 => Q (.inr e9) h6))
      | .inr e4 => Q (.inr e4) h1)) : zW (zE d) zm_X2_anyBursts Q (2, [(0, .ref l0), (1, .ref l1), (2, .int l2), (3, .int l3)], [], h) := by
  refine zq_iload (pc' := 3) rfl rfl rfl rfl ?_
  refine zq_aload (pc' := 4) rfl rfl rfl rfl ?_
  refine zq_calli (pc' := 7) rfl rfl rfl rfl rfl rfl (zE_mono H (fun r2 h1 H => ?_))
  rcases r2 with v3 | e4
  · obtain ⟨x5, e0, H⟩ := H
    refine Exists.intro x5 (And.intro e0 ?_)
    refine zq_icge (pc' := 10) rfl rfl rfl rfl (And.intro (fun c => ?_) (fun c => ?_))
    · have H := H.1 c
      refine zq_ipush (pc' := 46) rfl rfl rfl ?_
      exact zq_iret rfl (Or.inl rfl) H
    · have H := H.2 c
      refine zq_aload (pc' := 11) rfl rfl rfl rfl ?_
      refine zq_iload (pc' := 12) rfl rfl rfl rfl ?_
      refine zq_calli (pc' := 15) rfl rfl rfl rfl rfl rfl (zE_mono H (fun r7 h6 H => ?_))
      rcases r7 with v8 | e9
      · obtain ⟨x10, e0, H⟩ := H
        refine Exists.intro x10 (And.intro e0 ?_)
        refine zq_ifeq (pc' := 18) rfl rfl rfl rfl (And.intro (fun c => ?_) (fun c => ?_))
        · have H := H.1 c
          refine zq_iinc (pc' := 42) rfl rfl rfl rfl ?_
          refine zq_goto_c (pc' := 2) rfl rfl ?_
          exact H
        · have H := H.2 c
          refine zq_aload (pc' := 19) rfl rfl rfl rfl ?_
          refine zq_aload (pc' := 20) rfl rfl rfl rfl ?_
          refine zq_iload (pc' := 21) rfl rfl rfl rfl ?_
          refine zq_iload (pc' := 22) rfl rfl rfl rfl ?_
          refine zq_aload (pc' := 23) rfl rfl rfl rfl ?_
          obtain ⟨x11, e0, H⟩ := H
          refine zq_getI (pc' := 26) rfl rfl rfl e0 ?_
          refine zq_calli (pc' := 29) rfl rfl rfl rfl rfl rfl (zE_mono H (fun r13 h12 H => ?_))
          rcases r13 with v14 | e15
          · obtain ⟨x16, e0, H⟩ := H
            refine Exists.intro x16 (And.intro e0 ?_)
            refine zq_aload (pc' := 30) rfl rfl rfl rfl ?_
            refine zq_iload (pc' := 31) rfl rfl rfl rfl ?_
            refine zq_calli (pc' := 34) rfl rfl rfl rfl rfl rfl (zE_mono H (fun r18 h17 H => ?_))
            rcases r18 with v19 | e20
            · obtain ⟨x21, e0, H⟩ := H
              refine Exists.intro x21 (And.intro e0 ?_)
              refine zq_icle (pc' := 37) rfl rfl rfl rfl (And.intro (fun c => ?_) (fun c => ?_))
              · have H := H.1 c
                refine zq_iinc (pc' := 42) rfl rfl rfl rfl ?_
                refine zq_goto_c (pc' := 2) rfl rfl ?_
                exact H
              · have H := H.2 c
                refine zq_ipush (pc' := 38) rfl rfl rfl ?_
                exact zq_iret rfl (Or.inr rfl) H
            · exact H
          · exact H
      · exact H
  · exact H
theorem zr_X2_pullOn_0 {d : Nat} {Q : zR → zH → Prop} {p0 : Nat} {p1 : Nat} {p2 : Int32} {p3 : Int32} {p4 : Int32} {h : zH} (H :
    zE d 125 [.ref p1, .int p2] h (fun r2 h1 => match r2 with
      | .inl v3 => ∃ x5 : Int32, v3 = some (.int x5) ∧ ∃ a6 : Nat, zgf h1 p0 2 6 = some (.ref a6) ∧
        zE d 93 [.ref a6] h1 (fun r8 h7 => match r8 with
          | .inl v9 => ∃ x11 : Int32, v9 = some (.int x11) ∧ zbr (x11 = 0)
            (zE d 3 [.int 99, .int (p3 + (2 * x5))] h7 (fun r13 h12 => match r13 with
                | .inl v14 => ∃ x16 : Int32, v14 = some (.int x16) ∧ zE d 2 [.int 0, .int x16] h12 (fun r18 h17 => match r18 with
                    | .inl v19 => ∃ x21 : Int32, v19 = some (.int x21) ∧ Q (.inl (some (.int x21))) h17
                    | .inr e20 => Q (.inr e20) h17)
                | .inr e15 => Q (.inr e15) h12))
            (∃ a22 : Nat, zgf h7 p0 2 6 = some (.ref a22) ∧
              zE d 120 [.ref p1, .int p2] h7 (fun r24 h23 => match r24 with
                | .inl v25 => ∃ x27 : Int32, v25 = some (.int x27) ∧ zE d 96 [.ref a22, .int p3, .int p2, .int x27, .int p4, .int x5] h23 (fun r29 h28 => match r29 with
                    | .inl v30 => ∃ x32 : Int32, v30 = some (.int x32) ∧ zE d 3 [.int 99, .int x32] h28 (fun r34 h33 => match r34 with
                        | .inl v35 => ∃ x37 : Int32, v35 = some (.int x37) ∧ zE d 2 [.int 0, .int x37] h33 (fun r39 h38 => match r39 with
                            | .inl v40 => ∃ x42 : Int32, v40 = some (.int x42) ∧ Q (.inl (some (.int x42))) h38
                            | .inr e41 => Q (.inr e41) h38)
                        | .inr e36 => Q (.inr e36) h33)
                    | .inr e31 => Q (.inr e31) h28)
                | .inr e26 => Q (.inr e26) h23))
          | .inr e10 => Q (.inr e10) h7)
      | .inr e4 => Q (.inr e4) h1)) : zW (zE d) zm_X2_pullOn Q (0, [(0, .ref p0), (1, .ref p1), (2, .int p2), (3, .int p3), (4, .int p4)], [], h) := by
  refine zq_aload (pc' := 1) rfl rfl rfl rfl ?_
  refine zq_iload (pc' := 2) rfl rfl rfl rfl ?_
  refine zq_calli (pc' := 5) rfl rfl rfl rfl rfl rfl (zE_mono H (fun r2 h1 H => ?_))
  rcases r2 with v3 | e4
  · obtain ⟨x5, e0, H⟩ := H
    refine Exists.intro x5 (And.intro e0 ?_)
    refine zq_istore (pc' := 7) rfl rfl rfl ?_
    refine zq_aload (pc' := 8) rfl rfl rfl rfl ?_
    obtain ⟨a6, e0, H⟩ := H
    refine zq_getR (pc' := 11) rfl rfl rfl e0 ?_
    refine zq_calli (pc' := 14) rfl rfl rfl rfl rfl rfl (zE_mono H (fun r8 h7 H => ?_))
    rcases r8 with v9 | e10
    · obtain ⟨x11, e0, H⟩ := H
      refine Exists.intro x11 (And.intro e0 ?_)
      refine zq_ifeq (pc' := 17) rfl rfl rfl rfl (And.intro (fun c => ?_) (fun c => ?_))
      · have H := H.1 c
        refine zq_iload (pc' := 39) rfl rfl rfl rfl ?_
        refine zq_ipush (pc' := 40) rfl rfl rfl ?_
        refine zq_iload (pc' := 42) rfl rfl rfl rfl ?_
        refine zq_imul (pc' := 43) rfl rfl rfl ?_
        refine zq_iadd (pc' := 44) rfl rfl rfl ?_
        refine zq_istore (pc' := 46) rfl rfl rfl ?_
        refine zq_ipush (pc' := 47) rfl rfl rfl ?_
        refine zq_ipush (pc' := 49) rfl rfl rfl ?_
        refine zq_iload (pc' := 51) rfl rfl rfl rfl ?_
        refine zq_calli (pc' := 54) rfl rfl rfl rfl rfl rfl (zE_mono H (fun r13 h12 H => ?_))
        rcases r13 with v14 | e15
        · obtain ⟨x16, e0, H⟩ := H
          refine Exists.intro x16 (And.intro e0 ?_)
          refine zq_calli (pc' := 57) rfl rfl rfl rfl rfl rfl (zE_mono H (fun r18 h17 H => ?_))
          rcases r18 with v19 | e20
          · obtain ⟨x21, e0, H⟩ := H
            refine Exists.intro x21 (And.intro e0 ?_)
            exact zq_iret rfl trivial H
          · exact H
        · exact H
      · have H := H.2 c
        refine zq_aload (pc' := 18) rfl rfl rfl rfl ?_
        obtain ⟨a22, e0, H⟩ := H
        refine zq_getR (pc' := 21) rfl rfl rfl e0 ?_
        refine zq_iload (pc' := 22) rfl rfl rfl rfl ?_
        refine zq_iload (pc' := 23) rfl rfl rfl rfl ?_
        refine zq_aload (pc' := 24) rfl rfl rfl rfl ?_
        refine zq_iload (pc' := 25) rfl rfl rfl rfl ?_
        refine zq_calli (pc' := 28) rfl rfl rfl rfl rfl rfl (zE_mono H (fun r24 h23 H => ?_))
        rcases r24 with v25 | e26
        · obtain ⟨x27, e0, H⟩ := H
          refine Exists.intro x27 (And.intro e0 ?_)
          refine zq_iload (pc' := 30) rfl rfl rfl rfl ?_
          refine zq_iload (pc' := 32) rfl rfl rfl rfl ?_
          refine zq_calli (pc' := 35) rfl rfl rfl rfl rfl rfl (zE_mono H (fun r29 h28 H => ?_))
          rcases r29 with v30 | e31
          · obtain ⟨x32, e0, H⟩ := H
            refine Exists.intro x32 (And.intro e0 ?_)
            refine zq_goto (pc' := 44) rfl rfl rfl ?_
            refine zq_istore (pc' := 46) rfl rfl rfl ?_
            refine zq_ipush (pc' := 47) rfl rfl rfl ?_
            refine zq_ipush (pc' := 49) rfl rfl rfl ?_
            refine zq_iload (pc' := 51) rfl rfl rfl rfl ?_
            refine zq_calli (pc' := 54) rfl rfl rfl rfl rfl rfl (zE_mono H (fun r34 h33 H => ?_))
            rcases r34 with v35 | e36
            · obtain ⟨x37, e0, H⟩ := H
              refine Exists.intro x37 (And.intro e0 ?_)
              refine zq_calli (pc' := 57) rfl rfl rfl rfl rfl rfl (zE_mono H (fun r39 h38 H => ?_))
              rcases r39 with v40 | e41
              · obtain ⟨x42, e0, H⟩ := H
                refine Exists.intro x42 (And.intro e0 ?_)
                exact zq_iret rfl trivial H
              · exact H
            · exact H
          · exact H
        · exact H
    · exact H
  · exact H
theorem zr_X2_burstAt_0 {d : Nat} {Q : zR → zH → Prop} {p0 : Nat} {p1 : Nat} {p2 : Int32} {p3 : Int32} {p4 : Int32} {p5 : Int32} {h : zH} (H :
    zE d 113 [.ref p1] h (fun r2 h1 => match r2 with
      | .inl v3 => ∃ x5 : Int32, v3 = some (.int x5) ∧ zbr (x5 = 0)
        (∃ a6 : Nat, zgf h1 p0 2 7 = some (.ref a6) ∧
          zE d 93 [.ref a6] h1 (fun r8 h7 => match r8 with
            | .inl v9 => ∃ x11 : Int32, v9 = some (.int x11) ∧ zbr (x11 = 0)
              (zE d 3 [.int 9, .int 1] h7 (fun r13 h12 => match r13 with
                  | .inl v14 => ∃ x16 : Int32, v14 = some (.int x16) ∧ zE d 2 [.int 0, .int x16] h12 (fun r18 h17 => match r18 with
                      | .inl v19 => ∃ x21 : Int32, v19 = some (.int x21) ∧ zE d 132 [.ref p1, .int p2, .int x21] h17 (fun r23 h22 => match r23 with
                          | .inl v24 => v24 = none ∧ zE d 128 [.ref p1, .int p2] h22 (fun r27 h26 => match r27 with
                              | .inl v28 => v28 = none ∧ Q (.inl none) h26
                              | .inr e29 => Q (.inr e29) h26)
                          | .inr e25 => Q (.inr e25) h22)
                      | .inr e20 => Q (.inr e20) h17)
                  | .inr e15 => Q (.inr e15) h12))
              (∃ a30 : Nat, zgf h7 p0 2 7 = some (.ref a30) ∧
                zE d 120 [.ref p1, .int p2] h7 (fun r32 h31 => match r32 with
                  | .inl v33 => ∃ x35 : Int32, v33 = some (.int x35) ∧ zE d 96 [.ref a30, .int p3, .int p2, .int x35, .int p4, .int p5] h31 (fun r37 h36 => match r37 with
                      | .inl v38 => ∃ x40 : Int32, v38 = some (.int x40) ∧ zE d 3 [.int 9, .int x40] h36 (fun r42 h41 => match r42 with
                          | .inl v43 => ∃ x45 : Int32, v43 = some (.int x45) ∧ zE d 2 [.int 0, .int x45] h41 (fun r47 h46 => match r47 with
                              | .inl v48 => ∃ x50 : Int32, v48 = some (.int x50) ∧ zE d 132 [.ref p1, .int p2, .int x50] h46 (fun r52 h51 => match r52 with
                                  | .inl v53 => v53 = none ∧ zE d 128 [.ref p1, .int p2] h51 (fun r56 h55 => match r56 with
                                      | .inl v57 => v57 = none ∧ Q (.inl none) h55
                                      | .inr e58 => Q (.inr e58) h55)
                                  | .inr e54 => Q (.inr e54) h51)
                              | .inr e49 => Q (.inr e49) h46)
                          | .inr e44 => Q (.inr e44) h41)
                      | .inr e39 => Q (.inr e39) h36)
                  | .inr e34 => Q (.inr e34) h31))
            | .inr e10 => Q (.inr e10) h7))
        (zE d 128 [.ref p1, .int p2] h1 (fun r60 h59 => match r60 with
            | .inl v61 => v61 = none ∧ Q (.inl none) h59
            | .inr e62 => Q (.inr e62) h59))
      | .inr e4 => Q (.inr e4) h1)) : zW (zE d) zm_X2_burstAt Q (0, [(0, .ref p0), (1, .ref p1), (2, .int p2), (3, .int p3), (4, .int p4), (5, .int p5)], [], h) := by
  refine zq_aload (pc' := 1) rfl rfl rfl rfl ?_
  refine zq_calli (pc' := 4) rfl rfl rfl rfl rfl rfl (zE_mono H (fun r2 h1 H => ?_))
  rcases r2 with v3 | e4
  · obtain ⟨x5, e0, H⟩ := H
    refine Exists.intro x5 (And.intro e0 ?_)
    refine zq_ifne (pc' := 7) rfl rfl rfl rfl (And.intro (fun c => ?_) (fun c => ?_))
    · have H := H.1 c
      refine zq_aload (pc' := 8) rfl rfl rfl rfl ?_
      obtain ⟨a6, e0, H⟩ := H
      refine zq_getR (pc' := 11) rfl rfl rfl e0 ?_
      refine zq_calli (pc' := 14) rfl rfl rfl rfl rfl rfl (zE_mono H (fun r8 h7 H => ?_))
      rcases r8 with v9 | e10
      · obtain ⟨x11, e0, H⟩ := H
        refine Exists.intro x11 (And.intro e0 ?_)
        refine zq_ifeq (pc' := 17) rfl rfl rfl rfl (And.intro (fun c => ?_) (fun c => ?_))
        · have H := H.1 c
          refine zq_ipush (pc' := 39) rfl rfl rfl ?_
          refine zq_istore (pc' := 41) rfl rfl rfl ?_
          refine zq_aload (pc' := 42) rfl rfl rfl rfl ?_
          refine zq_iload (pc' := 43) rfl rfl rfl rfl ?_
          refine zq_ipush (pc' := 44) rfl rfl rfl ?_
          refine zq_ipush (pc' := 46) rfl rfl rfl ?_
          refine zq_iload (pc' := 48) rfl rfl rfl rfl ?_
          refine zq_calli (pc' := 51) rfl rfl rfl rfl rfl rfl (zE_mono H (fun r13 h12 H => ?_))
          rcases r13 with v14 | e15
          · obtain ⟨x16, e0, H⟩ := H
            refine Exists.intro x16 (And.intro e0 ?_)
            refine zq_calli (pc' := 54) rfl rfl rfl rfl rfl rfl (zE_mono H (fun r18 h17 H => ?_))
            rcases r18 with v19 | e20
            · obtain ⟨x21, e0, H⟩ := H
              refine Exists.intro x21 (And.intro e0 ?_)
              refine zq_callv (pc' := 57) rfl rfl rfl rfl rfl rfl (zE_mono H (fun r23 h22 H => ?_))
              rcases r23 with v24 | e25
              · obtain ⟨e0, H⟩ := H
                refine And.intro e0 ?_
                refine zq_aload (pc' := 58) rfl rfl rfl rfl ?_
                refine zq_iload (pc' := 59) rfl rfl rfl rfl ?_
                refine zq_callv (pc' := 62) rfl rfl rfl rfl rfl rfl (zE_mono H (fun r27 h26 H => ?_))
                rcases r27 with v28 | e29
                · obtain ⟨e0, H⟩ := H
                  refine And.intro e0 ?_
                  exact zq_vret rfl H
                · exact H
              · exact H
            · exact H
          · exact H
        · have H := H.2 c
          refine zq_aload (pc' := 18) rfl rfl rfl rfl ?_
          obtain ⟨a30, e0, H⟩ := H
          refine zq_getR (pc' := 21) rfl rfl rfl e0 ?_
          refine zq_iload (pc' := 22) rfl rfl rfl rfl ?_
          refine zq_iload (pc' := 23) rfl rfl rfl rfl ?_
          refine zq_aload (pc' := 24) rfl rfl rfl rfl ?_
          refine zq_iload (pc' := 25) rfl rfl rfl rfl ?_
          refine zq_calli (pc' := 28) rfl rfl rfl rfl rfl rfl (zE_mono H (fun r32 h31 H => ?_))
          rcases r32 with v33 | e34
          · obtain ⟨x35, e0, H⟩ := H
            refine Exists.intro x35 (And.intro e0 ?_)
            refine zq_iload (pc' := 30) rfl rfl rfl rfl ?_
            refine zq_iload (pc' := 32) rfl rfl rfl rfl ?_
            refine zq_calli (pc' := 35) rfl rfl rfl rfl rfl rfl (zE_mono H (fun r37 h36 H => ?_))
            rcases r37 with v38 | e39
            · obtain ⟨x40, e0, H⟩ := H
              refine Exists.intro x40 (And.intro e0 ?_)
              refine zq_goto (pc' := 39) rfl rfl rfl ?_
              refine zq_istore (pc' := 41) rfl rfl rfl ?_
              refine zq_aload (pc' := 42) rfl rfl rfl rfl ?_
              refine zq_iload (pc' := 43) rfl rfl rfl rfl ?_
              refine zq_ipush (pc' := 44) rfl rfl rfl ?_
              refine zq_ipush (pc' := 46) rfl rfl rfl ?_
              refine zq_iload (pc' := 48) rfl rfl rfl rfl ?_
              refine zq_calli (pc' := 51) rfl rfl rfl rfl rfl rfl (zE_mono H (fun r42 h41 H => ?_))
              rcases r42 with v43 | e44
              · obtain ⟨x45, e0, H⟩ := H
                refine Exists.intro x45 (And.intro e0 ?_)
                refine zq_calli (pc' := 54) rfl rfl rfl rfl rfl rfl (zE_mono H (fun r47 h46 H => ?_))
                rcases r47 with v48 | e49
                · obtain ⟨x50, e0, H⟩ := H
                  refine Exists.intro x50 (And.intro e0 ?_)
                  refine zq_callv (pc' := 57) rfl rfl rfl rfl rfl rfl (zE_mono H (fun r52 h51 H => ?_))
                  rcases r52 with v53 | e54
                  · obtain ⟨e0, H⟩ := H
                    refine And.intro e0 ?_
                    refine zq_aload (pc' := 58) rfl rfl rfl rfl ?_
                    refine zq_iload (pc' := 59) rfl rfl rfl rfl ?_
                    refine zq_callv (pc' := 62) rfl rfl rfl rfl rfl rfl (zE_mono H (fun r56 h55 H => ?_))
                    rcases r56 with v57 | e58
                    · obtain ⟨e0, H⟩ := H
                      refine And.intro e0 ?_
                      exact zq_vret rfl H
                    · exact H
                  · exact H
                · exact H
              · exact H
            · exact H
          · exact H
      · exact H
    · have H := H.2 c
      refine zq_aload (pc' := 58) rfl rfl rfl rfl ?_
      refine zq_iload (pc' := 59) rfl rfl rfl rfl ?_
      refine zq_callv (pc' := 62) rfl rfl rfl rfl rfl rfl (zE_mono H (fun r60 h59 H => ?_))
      rcases r60 with v61 | e62
      · obtain ⟨e0, H⟩ := H
        refine And.intro e0 ?_
        exact zq_vret rfl H
      · exact H
  · exact H
