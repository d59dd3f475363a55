theorem zh_J6_bitCount_0f7a4 {d : Nat} {k : Int32 → hG → hE → Prop} {X : Nat → hG → hE → Prop} {p0 : Int32} {g : hG} {e : hE} (H :
    k ((((((((p0 - ((((p0 : Int32).toUInt32 >>> ((1 : Int32).toUInt32 &&& Int32.toUInt32 31)).toInt32) &&& 1431655765)) &&& 858993459) + ((((p0 - ((((p0 : Int32).toUInt32 >>> ((1 : Int32).toUInt32 &&& Int32.toUInt32 31)).toInt32) &&& 1431655765) : Int32).toUInt32 >>> ((2 : Int32).toUInt32 &&& Int32.toUInt32 31)).toInt32) &&& 858993459)) + (((((p0 - ((((p0 : Int32).toUInt32 >>> ((1 : Int32).toUInt32 &&& Int32.toUInt32 31)).toInt32) &&& 1431655765)) &&& 858993459) + ((((p0 - ((((p0 : Int32).toUInt32 >>> ((1 : Int32).toUInt32 &&& Int32.toUInt32 31)).toInt32) &&& 1431655765) : Int32).toUInt32 >>> ((2 : Int32).toUInt32 &&& Int32.toUInt32 31)).toInt32) &&& 858993459) : Int32).toUInt32 >>> ((4 : Int32).toUInt32 &&& Int32.toUInt32 31)).toInt32)) &&& 252645135) + (((((((p0 - ((((p0 : Int32).toUInt32 >>> ((1 : Int32).toUInt32 &&& Int32.toUInt32 31)).toInt32) &&& 1431655765)) &&& 858993459) + ((((p0 - ((((p0 : Int32).toUInt32 >>> ((1 : Int32).toUInt32 &&& Int32.toUInt32 31)).toInt32) &&& 1431655765) : Int32).toUInt32 >>> ((2 : Int32).toUInt32 &&& Int32.toUInt32 31)).toInt32) &&& 858993459)) + (((((p0 - ((((p0 : Int32).toUInt32 >>> ((1 : Int32).toUInt32 &&& Int32.toUInt32 31)).toInt32) &&& 1431655765)) &&& 858993459) + ((((p0 - ((((p0 : Int32).toUInt32 >>> ((1 : Int32).toUInt32 &&& Int32.toUInt32 31)).toInt32) &&& 1431655765) : Int32).toUInt32 >>> ((2 : Int32).toUInt32 &&& Int32.toUInt32 31)).toInt32) &&& 858993459) : Int32).toUInt32 >>> ((4 : Int32).toUInt32 &&& Int32.toUInt32 31)).toInt32)) &&& 252645135 : Int32).toUInt32 >>> ((8 : Int32).toUInt32 &&& Int32.toUInt32 31)).toInt32)) + ((((((((p0 - ((((p0 : Int32).toUInt32 >>> ((1 : Int32).toUInt32 &&& Int32.toUInt32 31)).toInt32) &&& 1431655765)) &&& 858993459) + ((((p0 - ((((p0 : Int32).toUInt32 >>> ((1 : Int32).toUInt32 &&& Int32.toUInt32 31)).toInt32) &&& 1431655765) : Int32).toUInt32 >>> ((2 : Int32).toUInt32 &&& Int32.toUInt32 31)).toInt32) &&& 858993459)) + (((((p0 - ((((p0 : Int32).toUInt32 >>> ((1 : Int32).toUInt32 &&& Int32.toUInt32 31)).toInt32) &&& 1431655765)) &&& 858993459) + ((((p0 - ((((p0 : Int32).toUInt32 >>> ((1 : Int32).toUInt32 &&& Int32.toUInt32 31)).toInt32) &&& 1431655765) : Int32).toUInt32 >>> ((2 : Int32).toUInt32 &&& Int32.toUInt32 31)).toInt32) &&& 858993459) : Int32).toUInt32 >>> ((4 : Int32).toUInt32 &&& Int32.toUInt32 31)).toInt32)) &&& 252645135) + (((((((p0 - ((((p0 : Int32).toUInt32 >>> ((1 : Int32).toUInt32 &&& Int32.toUInt32 31)).toInt32) &&& 1431655765)) &&& 858993459) + ((((p0 - ((((p0 : Int32).toUInt32 >>> ((1 : Int32).toUInt32 &&& Int32.toUInt32 31)).toInt32) &&& 1431655765) : Int32).toUInt32 >>> ((2 : Int32).toUInt32 &&& Int32.toUInt32 31)).toInt32) &&& 858993459)) + (((((p0 - ((((p0 : Int32).toUInt32 >>> ((1 : Int32).toUInt32 &&& Int32.toUInt32 31)).toInt32) &&& 1431655765)) &&& 858993459) + ((((p0 - ((((p0 : Int32).toUInt32 >>> ((1 : Int32).toUInt32 &&& Int32.toUInt32 31)).toInt32) &&& 1431655765) : Int32).toUInt32 >>> ((2 : Int32).toUInt32 &&& Int32.toUInt32 31)).toInt32) &&& 858993459) : Int32).toUInt32 >>> ((4 : Int32).toUInt32 &&& Int32.toUInt32 31)).toInt32)) &&& 252645135 : Int32).toUInt32 >>> ((8 : Int32).toUInt32 &&& Int32.toUInt32 31)).toInt32) : Int32).toUInt32 >>> ((16 : Int32).toUInt32 &&& Int32.toUInt32 31)).toInt32)) &&& 63) g e) : hci (d + 1) 0 [.int p0] g e k X := by
  refine hentS (M := zm_J6_bitCount_0f7a4) rfl rfl rfl rfl ?_
  refine zq_iload (pc' := 1) rfl rfl rfl rfl ?_
  refine zq_iload (pc' := 2) rfl rfl rfl rfl ?_
  refine zq_ipush (pc' := 3) rfl rfl rfl ?_
  refine zq_iushr (pc' := 4) rfl rfl rfl ?_
  refine zq_ipush (pc' := 7) rfl rfl rfl ?_
  refine zq_iand (pc' := 8) rfl rfl rfl ?_
  refine zq_isub (pc' := 9) rfl rfl rfl ?_
  refine zq_istore (pc' := 10) rfl rfl rfl ?_
  refine zq_iload (pc' := 11) rfl rfl rfl rfl ?_
  refine zq_ipush (pc' := 14) rfl rfl rfl ?_
  refine zq_iand (pc' := 15) rfl rfl rfl ?_
  refine zq_iload (pc' := 16) rfl rfl rfl rfl ?_
  refine zq_ipush (pc' := 17) rfl rfl rfl ?_
  refine zq_iushr (pc' := 18) rfl rfl rfl ?_
  refine zq_ipush (pc' := 21) rfl rfl rfl ?_
  refine zq_iand (pc' := 22) rfl rfl rfl ?_
  refine zq_iadd (pc' := 23) rfl rfl rfl ?_
  refine zq_istore (pc' := 24) rfl rfl rfl ?_
  refine zq_iload (pc' := 25) rfl rfl rfl rfl ?_
  refine zq_iload (pc' := 26) rfl rfl rfl rfl ?_
  refine zq_ipush (pc' := 27) rfl rfl rfl ?_
  refine zq_iushr (pc' := 28) rfl rfl rfl ?_
  refine zq_iadd (pc' := 29) rfl rfl rfl ?_
  refine zq_ipush (pc' := 32) rfl rfl rfl ?_
  refine zq_iand (pc' := 33) rfl rfl rfl ?_
  refine zq_istore (pc' := 34) rfl rfl rfl ?_
  refine zq_iload (pc' := 35) rfl rfl rfl rfl ?_
  refine zq_iload (pc' := 36) rfl rfl rfl rfl ?_
  refine zq_ipush (pc' := 38) rfl rfl rfl ?_
  refine zq_iushr (pc' := 39) rfl rfl rfl ?_
  refine zq_iadd (pc' := 40) rfl rfl rfl ?_
  refine zq_istore (pc' := 41) rfl rfl rfl ?_
  refine zq_iload (pc' := 42) rfl rfl rfl rfl ?_
  refine zq_iload (pc' := 43) rfl rfl rfl rfl ?_
  refine zq_ipush (pc' := 45) rfl rfl rfl ?_
  refine zq_iushr (pc' := 46) rfl rfl rfl ?_
  refine zq_iadd (pc' := 47) rfl rfl rfl ?_
  refine zq_istore (pc' := 48) rfl rfl rfl ?_
  refine zq_iload (pc' := 49) rfl rfl rfl rfl ?_
  refine zq_ipush (pc' := 51) rfl rfl rfl ?_
  refine zq_iand (pc' := 52) rfl rfl rfl ?_
  exact zq_iret rfl trivial (Exists.intro _ (Exists.intro _ (And.intro rfl H)))
theorem zh_J9_abs_0f7a4 {d : Nat} {k : Int32 → hG → hE → Prop} {X : Nat → hG → hE → Prop} {p0 : Int32} {g : hG} {e : hE} (H :
    zbr (0 ≤ p0)
    (k p0 g e)
    (k (-p0) g e)) : hci (d + 1) 1 [.int p0] g e k X := by
  refine hentS (M := zm_J9_abs_0f7a4) rfl rfl rfl rfl ?_
  refine zq_iload (pc' := 1) rfl rfl rfl rfl ?_
  refine zq_ifge (pc' := 4) rfl rfl rfl rfl (And.intro (fun c => ?_) (fun c => ?_))
  · have H := H.1 c
    refine zq_iload (pc' := 10) rfl rfl rfl rfl ?_
    exact zq_iret rfl trivial (Exists.intro _ (Exists.intro _ (And.intro rfl H)))
  · have H := H.2 c
    refine zq_iload (pc' := 5) rfl rfl rfl rfl ?_
    refine zq_ineg (pc' := 6) rfl rfl rfl ?_
    refine zq_goto (pc' := 10) rfl rfl rfl ?_
    exact zq_iret rfl trivial (Exists.intro _ (Exists.intro _ (And.intro rfl H)))
theorem zh_J9_max_7cf53 {d : Nat} {k : Int32 → hG → hE → Prop} {X : Nat → hG → hE → Prop} {p0 : Int32} {p1 : Int32} {g : hG} {e : hE} (H :
    zbr (p0 < p1)
    (k p1 g e)
    (k p0 g e)) : hci (d + 1) 2 [.int p0, .int p1] g e k X := by
  refine hentS (M := zm_J9_max_7cf53) rfl rfl rfl rfl ?_
  refine zq_iload (pc' := 1) rfl rfl rfl rfl ?_
  refine zq_iload (pc' := 2) rfl rfl rfl rfl ?_
  refine zq_iclt (pc' := 5) rfl rfl rfl rfl (And.intro (fun c => ?_) (fun c => ?_))
  · have H := H.1 c
    refine zq_iload (pc' := 10) rfl rfl rfl rfl ?_
    exact zq_iret rfl trivial (Exists.intro _ (Exists.intro _ (And.intro rfl H)))
  · have H := H.2 c
    refine zq_iload (pc' := 6) rfl rfl rfl rfl ?_
    refine zq_goto (pc' := 10) rfl rfl rfl ?_
    exact zq_iret rfl trivial (Exists.intro _ (Exists.intro _ (And.intro rfl H)))
theorem zh_J9_min_7cf53 {d : Nat} {k : Int32 → hG → hE → Prop} {X : Nat → hG → hE → Prop} {p0 : Int32} {p1 : Int32} {g : hG} {e : hE} (H :
    zbr (p1 < p0)
    (k p1 g e)
    (k p0 g e)) : hci (d + 1) 3 [.int p0, .int p1] g e k X := by
  refine hentS (M := zm_J9_min_7cf53) rfl rfl rfl rfl ?_
  refine zq_iload (pc' := 1) rfl rfl rfl rfl ?_
  refine zq_iload (pc' := 2) rfl rfl rfl rfl ?_
  refine zq_icgt (pc' := 5) rfl rfl rfl rfl (And.intro (fun c => ?_) (fun c => ?_))
  · have H := H.1 c
    refine zq_iload (pc' := 10) rfl rfl rfl rfl ?_
    exact zq_iret rfl trivial (Exists.intro _ (Exists.intro _ (And.intro rfl H)))
  · have H := H.2 c
    refine zq_iload (pc' := 6) rfl rfl rfl rfl ?_
    refine zq_goto (pc' := 10) rfl rfl rfl ?_
    exact zq_iret rfl trivial (Exists.intro _ (Exists.intro _ (And.intro rfl H)))
theorem zh_J0_length_8abf5 {d : Nat} {k : Int32 → hG → hE → Prop} {X : Nat → hG → hE → Prop} {p0 : Nat} (hp0 : p0 < 58 ∧ p0 % 2 = 0) {g : hG} {e : hE} (H :
    hci d 8 [.ref p0] g e (fun x3 g1 e2 =>
      k ((nI (htx ((p0 + 1) / 2)).length) >>> (x3 &&& 31)) g1 e2) X) : hci (d + 1) 4 [.ref p0] g e k X := by
  refine hentT (M := zm_J0_length_8abf5) hp0 rfl rfl rfl rfl ?_
  refine zq_aload (pc' := 1) rfl rfl rfl rfl ?_
  refine zq_getR (pc' := 4) rfl rfl rfl (htxV hp0) ?_
  refine zq_alen (pc' := 5) rfl rfl rfl (htxL (htxO hp0)) ?_
  refine zq_aload (pc' := 6) rfl rfl rfl rfl ?_
  refine hq_calli (pc' := 9) rfl rfl rfl rfl rfl rfl h_Xi ?_
  refine hmonoi H ?_
  intro x3 g1 e2 H
  refine zq_ishr (pc' := 10) rfl rfl rfl ?_
  exact zq_iret rfl trivial (Exists.intro _ (Exists.intro _ (And.intro rfl H)))
theorem zh_J0_charAt_5068e {d : Nat} {k : Int32 → hG → hE → Prop} {X : Nat → hG → hE → Prop} {p0 : Nat} (hp0 : p0 < 58 ∧ p0 % 2 = 0) {p1 : Int32} {g : hG} {e : hE} (H :
    hci d 9 [.ref p0] g e (fun x3 g1 e2 =>
      zbr (x3 = 0)
      (False)
      (hci d 11 [.ref (p0 + 1), .int p1] g1 e2 (fun x6 g4 e5 =>
          (∃ n, n < 256 ∧ x6 = nI n) ∧ k x6 g4 e5) X)) X) : hci (d + 1) 5 [.ref p0, .int p1] g e k X := by
  refine hentT (M := zm_J0_charAt_5068e) hp0 rfl rfl rfl rfl ?_
  refine zq_aload (pc' := 1) rfl rfl rfl rfl ?_
  refine hq_calli (pc' := 4) rfl rfl rfl rfl rfl rfl h_Xi ?_
  refine hmonoi H ?_
  intro x3 g1 e2 H
  refine zq_ifeq (pc' := 7) rfl rfl rfl rfl (And.intro (fun c => ?_) (fun c => ?_))
  · have H := H.1 c
    refine zq_aload (pc' := 17) rfl rfl rfl rfl ?_
    refine zq_getR (pc' := 20) rfl rfl rfl (htxV hp0) ?_
    refine zq_iload (pc' := 21) rfl rfl rfl rfl ?_
    exact H.elim
  · have H := H.2 c
    refine zq_aload (pc' := 8) rfl rfl rfl rfl ?_
    refine zq_getR (pc' := 11) rfl rfl rfl (htxV hp0) ?_
    refine zq_iload (pc' := 12) rfl rfl rfl rfl ?_
    refine hq_calli (pc' := 15) rfl rfl rfl rfl rfl rfl h_Xi ?_
    refine hmonoi H ?_
    intro x6 g4 e5 H
    exact zq_iret rfl H.1 (Exists.intro _ (Exists.intro _ (And.intro rfl H.2)))
theorem zh_J0_indexOf_0f7a4 {d : Nat} {k : Int32 → hG → hE → Prop} {X : Nat → hG → hE → Prop} {p0 : Nat} (hp0 : p0 < 58 ∧ p0 % 2 = 0) {p1 : Int32} {g : hG} {e : hE} (H :
    hci d 7 [.ref p0, .int p1, .int 0] g e (fun x3 g1 e2 =>
      k x3 g1 e2) X) : hci (d + 1) 6 [.ref p0, .int p1] g e k X := by
  refine hentT (M := zm_J0_indexOf_0f7a4) hp0 rfl rfl rfl rfl ?_
  refine zq_aload (pc' := 1) rfl rfl rfl rfl ?_
  refine zq_iload (pc' := 2) rfl rfl rfl rfl ?_
  refine zq_ipush (pc' := 3) rfl rfl rfl ?_
  refine hq_calli (pc' := 6) rfl rfl rfl rfl rfl rfl h_Xi ?_
  refine hmonoi H ?_
  intro x3 g1 e2 H
  exact zq_iret rfl trivial (Exists.intro _ (Exists.intro _ (And.intro rfl H)))
theorem zh_J0_indexOf_7cf53 {d : Nat} {k : Int32 → hG → hE → Prop} {X : Nat → hG → hE → Prop} {p0 : Nat} (hp0 : p0 < 58 ∧ p0 % 2 = 0) {p1 : Int32} {p2 : Int32} {g : hG} {e : hE} (H :
    hci d 9 [.ref p0] g e (fun x3 g1 e2 =>
      zbr (x3 = 0)
      (hci d 4 [.ref p0] g1 e2 (fun x6 g4 e5 =>
          False) X)
      (hci d 4 [.ref p0] g1 e2 (fun x9 g7 e8 =>
          hci d 13 [.ref (p0 + 1), .int p1, .int p2, .int x9] g7 e8 (fun x12 g10 e11 =>
            k x12 g10 e11) X) X)) X) : hci (d + 1) 7 [.ref p0, .int p1, .int p2] g e k X := by
  refine hentT (M := zm_J0_indexOf_7cf53) hp0 rfl rfl rfl rfl ?_
  refine zq_aload (pc' := 1) rfl rfl rfl rfl ?_
  refine hq_calli (pc' := 4) rfl rfl rfl rfl rfl rfl h_Xi ?_
  refine hmonoi H ?_
  intro x3 g1 e2 H
  refine zq_ifeq (pc' := 7) rfl rfl rfl rfl (And.intro (fun c => ?_) (fun c => ?_))
  · have H := H.1 c
    refine zq_aload (pc' := 24) rfl rfl rfl rfl ?_
    refine zq_getR (pc' := 27) rfl rfl rfl (htxV hp0) ?_
    refine zq_iload (pc' := 28) rfl rfl rfl rfl ?_
    refine zq_iload (pc' := 29) rfl rfl rfl rfl ?_
    refine zq_aload (pc' := 30) rfl rfl rfl rfl ?_
    refine hq_calli (pc' := 33) rfl rfl rfl rfl rfl rfl h_Xi ?_
    refine hmonoi H ?_
    intro x6 g4 e5 H
    exact H.elim
  · have H := H.2 c
    refine zq_aload (pc' := 8) rfl rfl rfl rfl ?_
    refine zq_getR (pc' := 11) rfl rfl rfl (htxV hp0) ?_
    refine zq_iload (pc' := 12) rfl rfl rfl rfl ?_
    refine zq_iload (pc' := 13) rfl rfl rfl rfl ?_
    refine zq_aload (pc' := 14) rfl rfl rfl rfl ?_
    refine hq_calli (pc' := 17) rfl rfl rfl rfl rfl rfl h_Xi ?_
    refine hmonoi H ?_
    intro x9 g7 e8 H
    refine hq_calli (pc' := 20) rfl rfl rfl rfl rfl rfl h_Xi ?_
    refine hmonoi H ?_
    intro x12 g10 e11 H
    refine zq_goto (pc' := 36) rfl rfl rfl ?_
    exact zq_iret rfl trivial (Exists.intro _ (Exists.intro _ (And.intro rfl H)))
theorem zh_J0_coder_7d493 {d : Nat} {k : Int32 → hG → hE → Prop} {X : Nat → hG → hE → Prop} {p0 : Nat} (hp0 : p0 < 58 ∧ p0 % 2 = 0) {g : hG} {e : hE} (H :
    zbr ((1 : Int32) = 0)
    ((1 : Int32) = 0 ∧ k 1 g e)
    (k 0 g e)) : hci (d + 1) 8 [.ref p0] g e k X := by
  refine hentT (M := zm_J0_coder_7d493) hp0 rfl rfl rfl rfl ?_
  refine zq_ipush (pc' := 3) rfl rfl rfl ?_
  refine zq_ifeq (pc' := 6) rfl rfl rfl rfl (And.intro (fun c => ?_) (fun c => ?_))
  · have H := H.1 c
    refine zq_ipush (pc' := 14) rfl rfl rfl ?_
    exact zq_iret rfl H.1 (Exists.intro _ (Exists.intro _ (And.intro rfl H.2)))
  · have H := H.2 c
    refine zq_aload (pc' := 7) rfl rfl rfl rfl ?_
    refine zq_getI (pc' := 10) rfl rfl rfl (htxC hp0) ?_
    refine zq_goto (pc' := 14) rfl rfl rfl ?_
    exact zq_iret rfl rfl (Exists.intro _ (Exists.intro _ (And.intro rfl H)))
theorem zh_J0_isLatin1_aae02 {d : Nat} {k : Int32 → hG → hE → Prop} {X : Nat → hG → hE → Prop} {p0 : Nat} (hp0 : p0 < 58 ∧ p0 % 2 = 0) {g : hG} {e : hE} (H :
    zbr ((1 : Int32) = 0)
    (k 0 g e)
    (zbr ((0 : Int32) = 0)
      (k 1 g e)
      (k 0 g e))) : hci (d + 1) 9 [.ref p0] g e k X := by
  refine hentT (M := zm_J0_isLatin1_aae02) hp0 rfl rfl rfl rfl ?_
  refine zq_ipush (pc' := 3) rfl rfl rfl ?_
  refine zq_ifeq (pc' := 6) rfl rfl rfl rfl (And.intro (fun c => ?_) (fun c => ?_))
  · have H := H.1 c
    refine zq_ipush (pc' := 18) rfl rfl rfl ?_
    exact zq_iret rfl (Or.inl rfl) (Exists.intro _ (Exists.intro _ (And.intro rfl H)))
  · have H := H.2 c
    refine zq_aload (pc' := 7) rfl rfl rfl rfl ?_
    refine zq_getI (pc' := 10) rfl rfl rfl (htxC hp0) ?_
    refine zq_ifne (pc' := 13) rfl rfl rfl rfl (And.intro (fun c => ?_) (fun c => ?_))
    · have H := H.1 c
      refine zq_ipush (pc' := 14) rfl rfl rfl ?_
      refine zq_goto (pc' := 18) rfl rfl rfl ?_
      exact zq_iret rfl (Or.inr rfl) (Exists.intro _ (Exists.intro _ (And.intro rfl H)))
    · have H := H.2 c
      refine zq_ipush (pc' := 18) rfl rfl rfl ?_
      exact zq_iret rfl (Or.inl rfl) (Exists.intro _ (Exists.intro _ (And.intro rfl H)))
theorem zh_J0_checkIndex_df160 {d : Nat} {k : hG → hE → Prop} {X : Nat → hG → hE → Prop} {p0 : Int32} {p1 : Int32} {g : hG} {e : hE} (H :
    hci d 15 [.int p0, .int p1, .retAddr 0] g e (fun x3 g1 e2 =>
      k g1 e2) X) : hcv (d + 1) 10 [.int p0, .int p1] g e k X := by
  refine hentS (M := zm_J0_checkIndex_df160) rfl rfl rfl rfl ?_
  refine zq_iload (pc' := 1) rfl rfl rfl rfl ?_
  refine zq_iload (pc' := 2) rfl rfl rfl rfl ?_
  refine zq_opush (pc' := 5) rfl rfl rfl ?_
  refine hq_calli (pc' := 8) rfl rfl rfl rfl rfl rfl h_Xv ?_
  refine hmonoi H ?_
  intro x3 g1 e2 H
  refine zq_pop (pc' := 9) rfl rfl rfl rfl ?_
  exact zq_vret rfl (Exists.intro _ (Exists.intro _ (And.intro rfl H)))
theorem zh_J1_charAt_3b067 {d : Nat} {k : Int32 → hG → hE → Prop} {X : Nat → hG → hE → Prop} {p0 : Nat} (hp0 : p0 < 58 ∧ p0 % 2 = 1) {p1 : Int32} {g : hG} {e : hE} (H :
    hcv d 10 [.int p1, .int (nI (htx (p0 / 2)).length)] g e (fun g1 e2 =>
      hin p1 (htx (p0 / 2)).length ∧
      (∃ n, n < 256 ∧ ((((nI ((htx (p0 / 2)).getD p1.toNatClampNeg 0)) &&& 255 : Int32).toUInt32 % 65536).toInt32) = nI n) ∧ k ((((nI ((htx (p0 / 2)).getD p1.toNatClampNeg 0)) &&& 255 : Int32).toUInt32 % 65536).toInt32) g1 e2) X) : hci (d + 1) 11 [.ref p0, .int p1] g e k X := by
  refine hentS (M := zm_J1_charAt_3b067) rfl rfl rfl rfl ?_
  refine zq_iload (pc' := 1) rfl rfl rfl rfl ?_
  refine zq_aload (pc' := 2) rfl rfl rfl rfl ?_
  refine zq_alen (pc' := 3) rfl rfl rfl (htxL hp0) ?_
  refine hq_callv (pc' := 6) rfl rfl rfl rfl rfl rfl h_Xi ?_
  refine hmonov H ?_
  intro g1 e2 H
  refine zq_aload (pc' := 7) rfl rfl rfl rfl ?_
  refine zq_iload (pc' := 8) rfl rfl rfl rfl ?_
  obtain ⟨hi3, H⟩ := H
  refine zq_bald (pc' := 9) rfl rfl rfl (htxB hp0 hi3) ?_
  refine zq_ipush (pc' := 12) rfl rfl rfl ?_
  refine zq_iand (pc' := 13) rfl rfl rfl ?_
  refine zq_i2c (pc' := 14) rfl rfl rfl ?_
  exact zq_iret rfl H.1 (Exists.intro _ (Exists.intro _ (And.intro rfl H.2)))
theorem zh_J1_canEncode_9a6ad {d : Nat} {k : Int32 → hG → hE → Prop} {X : Nat → hG → hE → Prop} {p0 : Int32} {g : hG} {e : hE} (H :
    zbr (p0 < 0)
    (k 0 g e)
    (zbr (255 < p0)
      (k 0 g e)
      (k 1 g e))) : hci (d + 1) 12 [.int p0] g e k X := by
  refine hentS (M := zm_J1_canEncode_9a6ad) rfl rfl rfl rfl ?_
  refine zq_iload (pc' := 1) rfl rfl rfl rfl ?_
  refine zq_iflt (pc' := 4) rfl rfl rfl rfl (And.intro (fun c => ?_) (fun c => ?_))
  · have H := H.1 c
    refine zq_ipush (pc' := 16) rfl rfl rfl ?_
    exact zq_iret rfl (Or.inl rfl) (Exists.intro _ (Exists.intro _ (And.intro rfl H)))
  · have H := H.2 c
    refine zq_iload (pc' := 5) rfl rfl rfl rfl ?_
    refine zq_ipush (pc' := 8) rfl rfl rfl ?_
    refine zq_icgt (pc' := 11) rfl rfl rfl rfl (And.intro (fun c => ?_) (fun c => ?_))
    · have H := H.1 c
      refine zq_ipush (pc' := 16) rfl rfl rfl ?_
      exact zq_iret rfl (Or.inl rfl) (Exists.intro _ (Exists.intro _ (And.intro rfl H)))
    · have H := H.2 c
      refine zq_ipush (pc' := 12) rfl rfl rfl ?_
      refine zq_goto (pc' := 16) rfl rfl rfl ?_
      exact zq_iret rfl (Or.inr rfl) (Exists.intro _ (Exists.intro _ (And.intro rfl H)))
theorem zh_J1_indexOf_4cfef {d : Nat} {k : Int32 → hG → hE → Prop} {X : Nat → hG → hE → Prop} {p0 : Nat} (hp0 : p0 < 58 ∧ p0 % 2 = 1) {p1 : Int32} {p2 : Int32} {p3 : Int32} {g : hG} {e : hE} (H :
    hci d 12 [.int p1] g e (fun x3 g1 e2 =>
      zbr (x3 = 0)
      (k (-1) g1 e2)
      (hci d 2 [.int p2, .int 0] g1 e2 (fun x6 g4 e5 =>
          hci d 3 [.int p3, .int (nI (htx (p0 / 2)).length)] g4 e5 (fun x9 g7 e8 =>
            zbr (x6 < x9)
            (hci d 14 [.ref p0, .int p1, .int x6, .int x9] g7 e8 (fun x12 g10 e11 =>
                k x12 g10 e11) X)
            (k (-1) g7 e8)) X) X)) X) : hci (d + 1) 13 [.ref p0, .int p1, .int p2, .int p3] g e k X := by
  refine hentS (M := zm_J1_indexOf_4cfef) rfl rfl rfl rfl ?_
  refine zq_iload (pc' := 1) rfl rfl rfl rfl ?_
  refine hq_calli (pc' := 4) rfl rfl rfl rfl rfl rfl h_Xi ?_
  refine hmonoi H ?_
  intro x3 g1 e2 H
  refine zq_ifne (pc' := 7) rfl rfl rfl rfl (And.intro (fun c => ?_) (fun c => ?_))
  · have H := H.1 c
    refine zq_ipushn (pc' := 8) rfl rfl rfl ?_
    exact zq_iret rfl trivial (Exists.intro _ (Exists.intro _ (And.intro rfl H)))
  · have H := H.2 c
    refine zq_iload (pc' := 10) rfl rfl rfl rfl ?_
    refine zq_ipush (pc' := 11) rfl rfl rfl ?_
    refine hq_calli (pc' := 14) rfl rfl rfl rfl rfl rfl h_Xi ?_
    refine hmonoi H ?_
    intro x6 g4 e5 H
    refine zq_istore (pc' := 15) rfl rfl rfl ?_
    refine zq_iload (pc' := 16) rfl rfl rfl rfl ?_
    refine zq_aload (pc' := 17) rfl rfl rfl rfl ?_
    refine zq_alen (pc' := 18) rfl rfl rfl (htxL hp0) ?_
    refine hq_calli (pc' := 21) rfl rfl rfl rfl rfl rfl h_Xi ?_
    refine hmonoi H ?_
    intro x9 g7 e8 H
    refine zq_istore (pc' := 22) rfl rfl rfl ?_
    refine zq_iload (pc' := 23) rfl rfl rfl rfl ?_
    refine zq_iload (pc' := 24) rfl rfl rfl rfl ?_
    refine zq_iclt (pc' := 27) rfl rfl rfl rfl (And.intro (fun c => ?_) (fun c => ?_))
    · have H := H.1 c
      refine zq_aload (pc' := 30) rfl rfl rfl rfl ?_
      refine zq_iload (pc' := 31) rfl rfl rfl rfl ?_
      refine zq_iload (pc' := 32) rfl rfl rfl rfl ?_
      refine zq_iload (pc' := 33) rfl rfl rfl rfl ?_
      refine hq_calli (pc' := 36) rfl rfl rfl rfl rfl rfl h_Xi ?_
      refine hmonoi H ?_
      intro x12 g10 e11 H
      exact zq_iret rfl trivial (Exists.intro _ (Exists.intro _ (And.intro rfl H)))
    · have H := H.2 c
      refine zq_ipushn (pc' := 28) rfl rfl rfl ?_
      exact zq_iret rfl trivial (Exists.intro _ (Exists.intro _ (And.intro rfl H)))
theorem zh_J1_indexOfChar_4cfef {d : Nat} {k : Int32 → hG → hE → Prop} {X : Nat → hG → hE → Prop} {p0 : Nat} (hp0 : p0 < 58 ∧ p0 % 2 = 1) {p1 : Int32} {p2 : Int32} {p3 : Int32} {g : hG} {e : hE} (H :
    hwi d zm_J1_indexOfChar_4cfef k X 7 [(0, .ref p0), (3, .int p3), (4, .int ((p1 : Int32).toInt8.toInt32)), (5, .int p2)] g e) : hci (d + 1) 14 [.ref p0, .int p1, .int p2, .int p3] g e k X := by
  refine hentS (M := zm_J1_indexOfChar_4cfef) rfl rfl rfl rfl ?_
  refine zq_iload (pc' := 1) rfl rfl rfl rfl ?_
  refine zq_i2b (pc' := 2) rfl rfl rfl ?_
  refine zq_istore (pc' := 4) rfl rfl rfl ?_
  refine zq_iload (pc' := 5) rfl rfl rfl rfl ?_
  refine zq_istore_c (pc' := 7) rfl rfl ?_
  exact H
theorem zh_J1_indexOfChar_4cfef_7 {d : Nat} {k : Int32 → hG → hE → Prop} {X : Nat → hG → hE → Prop} {l0 : Nat} (hl0 : l0 < 58 ∧ l0 % 2 = 1) {l3 : Int32} {l4 : Int32} {l5 : Int32} {g : hG} {e : hE} (H :
    zbr (l3 ≤ l5)
    (k (-1) g e)
    (hin l5 (htx (l0 / 2)).length ∧
      zbr ((nI ((htx (l0 / 2)).getD l5.toNatClampNeg 0)) = l4)
      (k l5 g e)
      (hwi d zm_J1_indexOfChar_4cfef k X 7 [(0, .ref l0), (3, .int l3), (4, .int l4), (5, .int (l5 + 1))] g e))) : hwi d zm_J1_indexOfChar_4cfef k X 7 [(0, .ref l0), (3, .int l3), (4, .int l4), (5, .int l5)] g e := by
  refine zq_iload (pc' := 9) rfl rfl rfl rfl ?_
  refine zq_iload (pc' := 10) rfl rfl rfl rfl ?_
  refine zq_icge (pc' := 13) rfl rfl rfl rfl (And.intro (fun c => ?_) (fun c => ?_))
  · have H := H.1 c
    refine zq_ipushn (pc' := 32) rfl rfl rfl ?_
    exact zq_iret rfl trivial (Exists.intro _ (Exists.intro _ (And.intro rfl H)))
  · have H := H.2 c
    refine zq_aload (pc' := 14) rfl rfl rfl rfl ?_
    refine zq_iload (pc' := 16) rfl rfl rfl rfl ?_
    obtain ⟨hi1, H⟩ := H
    refine zq_bald (pc' := 17) rfl rfl rfl (htxB hl0 hi1) ?_
    refine zq_iload (pc' := 19) rfl rfl rfl rfl ?_
    refine zq_icne (pc' := 22) rfl rfl rfl rfl (And.intro (fun c => ?_) (fun c => ?_))
    · have H := H.1 c
      refine zq_iload (pc' := 24) rfl rfl rfl rfl ?_
      exact zq_iret rfl trivial (Exists.intro _ (Exists.intro _ (And.intro rfl H)))
    · have H := H.2 c
      refine zq_iinc (pc' := 28) rfl rfl rfl rfl ?_
      refine zq_goto_c (pc' := 7) rfl rfl ?_
      exact H
theorem zh_J3_checkIndex_8e157 {d : Nat} {k : Int32 → hG → hE → Prop} {X : Nat → hG → hE → Prop} {p0 : Int32} {p1 : Int32} {g : hG} {e : hE} (H :
    zbr (p0 < 0)
    (False)
    (zbr (p0 < p1)
      (k p0 g e)
      (False))) : hci (d + 1) 15 [.int p0, .int p1, .retAddr 0] g e k X := by
  refine hentS (M := zm_J3_checkIndex_8e157) rfl rfl rfl rfl ?_
  refine zq_iload (pc' := 1) rfl rfl rfl rfl ?_
  refine zq_iflt (pc' := 4) rfl rfl rfl rfl (And.intro (fun c => ?_) (fun c => ?_))
  · have H := H.1 c
    exact H.elim
  · have H := H.2 c
    refine zq_iload (pc' := 5) rfl rfl rfl rfl ?_
    refine zq_iload (pc' := 6) rfl rfl rfl rfl ?_
    refine zq_iclt (pc' := 9) rfl rfl rfl rfl (And.intro (fun c => ?_) (fun c => ?_))
    · have H := H.1 c
      refine zq_iload (pc' := 17) rfl rfl rfl rfl ?_
      exact zq_iret rfl trivial (Exists.intro _ (Exists.intro _ (And.intro rfl H)))
    · have H := H.2 c
      exact H.elim
