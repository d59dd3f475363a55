theorem zh_X8_thrown {d : Nat} {k : Int32 → hG → hE → Prop} {X : Nat → hG → hE → Prop}  {g : hG} {e : hE} (H :
    k (g.1 1046 4) g e) : hci (d + 1) 214 [.ref 1046] g e k X := by
  refine hent (M := zm_X8_thrown) (show hT 1046 = some (.inr _) from rfl) rfl rfl rfl rfl rfl ?_
  refine zq_aload (pc' := 1) rfl rfl rfl rfl ?_
  refine zq_getI (pc' := 4) rfl rfl rfl (hp_gI rfl) ?_
  exact zq_iret rfl trivial (Exists.intro _ (Exists.intro _ (And.intro rfl H)))
theorem zh_X8_fail {d : Nat} {k : Int32 → hG → hE → Prop} {X : Nat → hG → hE → Prop} {p1 : Int32} {g : hG} {e : hE} (H :
    k 0 (sI g 1046 4 p1) e) : hci (d + 1) 215 [.ref 1046, .int p1] g e k X := by
  refine hent (M := zm_X8_fail) (show hT 1046 = some (.inr _) from rfl) rfl rfl rfl rfl rfl ?_
  refine zq_aload (pc' := 1) rfl rfl rfl rfl ?_
  refine zq_iload (pc' := 2) rfl rfl rfl rfl ?_
  refine zq_put (pc' := 5) rfl rfl rfl trivial (hp_sI rfl) ?_
  refine zq_ipush (pc' := 6) rfl rfl rfl ?_
  exact zq_iret rfl trivial (Exists.intro _ (Exists.intro _ (And.intro rfl H)))
theorem zh_X8_failing {d : Nat} {k : Int32 → hG → hE → Prop} {X : Nat → hG → hE → Prop} {p1 : Int32} {g : hG} {e : hE} (H :
    k 0 (sI g 1046 4 p1) e) : hci (d + 1) 216 [.ref 1046, .int p1] g e k X := by
  refine hent (M := zm_X8_failing) (show hT 1046 = some (.inr _) from rfl) rfl rfl rfl rfl rfl ?_
  refine zq_aload (pc' := 1) rfl rfl rfl rfl ?_
  refine zq_iload (pc' := 2) rfl rfl rfl rfl ?_
  refine zq_put (pc' := 5) rfl rfl rfl trivial (hp_sI rfl) ?_
  refine zq_ipush (pc' := 6) rfl rfl rfl ?_
  exact zq_iret rfl (Or.inl rfl) (Exists.intro _ (Exists.intro _ (And.intro rfl H)))
theorem zh_X8_isIn {d : Nat} {k : Int32 → hG → hE → Prop} {X : Nat → hG → hE → Prop} {p0 : Int64} {p1 : Int64} {p2 : Int64} {g : hG} {e : hE} (H :
    zbr ((lg_cmp p0 p1) < 0)
    (k 0 g e)
    (zbr (0 < (lg_cmp p0 p2))
      (k 0 g e)
      (k 1 g e))) : hci (d + 1) 217 [.long p0, .long p1, .long p2] g e k X := by
  refine hentS (M := zm_X8_isIn) rfl rfl rfl rfl ?_
  refine zq_lload (pc' := 1) rfl rfl rfl rfl ?_
  refine zq_lload (pc' := 2) rfl rfl rfl rfl ?_
  refine zq_lcmp (pc' := 3) rfl rfl rfl ?_
  refine zq_iflt (pc' := 6) rfl rfl rfl rfl (And.intro (fun c => ?_) (fun c => ?_))
  · have H := H.1 c
    refine zq_ipush (pc' := 18) rfl rfl rfl ?_
    exact zq_iret rfl (Or.inl rfl) (Exists.intro _ (Exists.intro _ (And.intro rfl H)))
  · have H := H.2 c
    refine zq_lload (pc' := 7) rfl rfl rfl rfl ?_
    refine zq_lload (pc' := 9) rfl rfl rfl rfl ?_
    refine zq_lcmp (pc' := 10) rfl rfl rfl ?_
    refine zq_ifgt (pc' := 13) rfl rfl rfl rfl (And.intro (fun c => ?_) (fun c => ?_))
    · have H := H.1 c
      refine zq_ipush (pc' := 18) rfl rfl rfl ?_
      exact zq_iret rfl (Or.inl rfl) (Exists.intro _ (Exists.intro _ (And.intro rfl H)))
    · have H := H.2 c
      refine zq_ipush (pc' := 14) rfl rfl rfl ?_
      refine zq_goto (pc' := 18) rfl rfl rfl ?_
      exact zq_iret rfl (Or.inr rfl) (Exists.intro _ (Exists.intro _ (And.intro rfl H)))
theorem zh_X8_isOf {d : Nat} {k : Int32 → hG → hE → Prop} {X : Nat → hG → hE → Prop} {p0 : Int32} {p1 : Int32} {g : hG} {e : hE} (H :
    zbr (((p0 >>> (p1 &&& 31)) &&& 1) = 1)
    (k 1 g e)
    (k 0 g e)) : hci (d + 1) 218 [.int p0, .int p1] g e k X := by
  refine hentS (M := zm_X8_isOf) rfl rfl rfl rfl ?_
  refine zq_iload (pc' := 1) rfl rfl rfl rfl ?_
  refine zq_iload (pc' := 2) rfl rfl rfl rfl ?_
  refine zq_ishr (pc' := 3) rfl rfl rfl ?_
  refine zq_ipush (pc' := 4) rfl rfl rfl ?_
  refine zq_iand (pc' := 5) rfl rfl rfl ?_
  refine zq_ipush (pc' := 6) rfl rfl rfl ?_
  refine zq_icne (pc' := 9) rfl rfl rfl rfl (And.intro (fun c => ?_) (fun c => ?_))
  · have H := H.1 c
    refine zq_ipush (pc' := 10) rfl rfl rfl ?_
    refine zq_goto (pc' := 14) rfl rfl rfl ?_
    exact zq_iret rfl (Or.inr rfl) (Exists.intro _ (Exists.intro _ (And.intro rfl H)))
  · have H := H.2 c
    refine zq_ipush (pc' := 14) rfl rfl rfl ?_
    exact zq_iret rfl (Or.inl rfl) (Exists.intro _ (Exists.intro _ (And.intro rfl H)))
theorem zh_X8_bitsOf {d : Nat} {k : Int32 → hG → hE → Prop} {X : Nat → hG → hE → Prop} {p0 : Int32} {g : hG} {e : hE} (H :
    hwi d zm_X8_bitsOf k X 4 [(1, .int 0), (2, .int p0)] g e) : hci (d + 1) 219 [.int p0] g e k X := by
  refine hentS (M := zm_X8_bitsOf) rfl rfl rfl rfl ?_
  refine zq_ipush (pc' := 1) rfl rfl rfl ?_
  refine zq_istore (pc' := 2) rfl rfl rfl ?_
  refine zq_iload (pc' := 3) rfl rfl rfl rfl ?_
  refine zq_istore_c (pc' := 4) rfl rfl ?_
  exact H
theorem zh_X8_bitsOf_4 {d : Nat} {k : Int32 → hG → hE → Prop} {X : Nat → hG → hE → Prop} {l1 : Int32} {l2 : Int32} {g : hG} {e : hE} (H :
    zbr (l2 = 0)
    (k l1 g e)
    (hwi d zm_X8_bitsOf k X 4 [(1, .int (l1 + 1)), (2, .int (l2 &&& (l2 - 1)))] g e)) : hwi d zm_X8_bitsOf k X 4 [(1, .int l1), (2, .int l2)] g e := by
  refine zq_iload (pc' := 5) rfl rfl rfl rfl ?_
  refine zq_ifeq (pc' := 8) rfl rfl rfl rfl (And.intro (fun c => ?_) (fun c => ?_))
  · have H := H.1 c
    refine zq_iload (pc' := 21) rfl rfl rfl rfl ?_
    exact zq_iret rfl trivial (Exists.intro _ (Exists.intro _ (And.intro rfl H)))
  · have H := H.2 c
    refine zq_iinc (pc' := 11) rfl rfl rfl rfl ?_
    refine zq_iload (pc' := 12) rfl rfl rfl rfl ?_
    refine zq_iload (pc' := 13) rfl rfl rfl rfl ?_
    refine zq_ipush (pc' := 14) rfl rfl rfl ?_
    refine zq_isub (pc' := 15) rfl rfl rfl ?_
    refine zq_iand (pc' := 16) rfl rfl rfl ?_
    refine zq_istore (pc' := 17) rfl rfl rfl ?_
    refine zq_goto_c (pc' := 4) rfl rfl ?_
    exact H
theorem zh_X8_isZip {d : Nat} {k : Int32 → hG → hE → Prop} {X : Nat → hG → hE → Prop} {p1 : Int32} {g : hG} {e : hE} (H :
    hci d 217 [.long ((p1 : Int32).toInt64), .long 0, .long (((g.1 1050 0) - 1 : Int32).toInt64)] g e (fun x4 g2 e3 =>
      (x4 = 0 ∨ x4 = 1) ∧ k x4 g2 e3) X) : hci (d + 1) 220 [.ref 1046, .int p1] g e k X := by
  refine hent (M := zm_X8_isZip) (show hT 1046 = some (.inr _) from rfl) rfl rfl rfl rfl rfl ?_
  refine zq_iload (pc' := 1) rfl rfl rfl rfl ?_
  refine zq_i2l (pc' := 2) rfl rfl rfl ?_
  refine zq_lpush (pc' := 3) rfl rfl rfl ?_
  refine zq_aload (pc' := 4) rfl rfl rfl rfl ?_
  refine zq_getR (pc' := 7) rfl rfl rfl (hp_gC rfl) ?_
  refine zq_ipush (pc' := 8) rfl rfl rfl ?_
  refine zq_iald (pc' := 9) rfl rfl rfl (hp_ia rfl (by unfold hin; decide)) ?_
  refine zq_ipush (pc' := 10) rfl rfl rfl ?_
  refine zq_isub (pc' := 11) rfl rfl rfl ?_
  refine zq_i2l (pc' := 12) rfl rfl rfl ?_
  refine hq_calli (pc' := 15) rfl rfl rfl rfl rfl rfl h_Xi ?_
  refine hmonoi H ?_
  intro x4 g2 e3 H
  exact zq_iret rfl H.1 (Exists.intro _ (Exists.intro _ (And.intro rfl H.2)))
theorem zh_X8_isPlace {d : Nat} {k : Int32 → hG → hE → Prop} {X : Nat → hG → hE → Prop} {p1 : Int32} {p2 : Int32} {g : hG} {e : hE} (H :
    hci d 220 [.ref 1046, .int p1] g e (fun x3 g1 e2 =>
      zbr (x3 = 0)
      (k 0 g1 e2)
      (hin p1 8 ∧
        hci d 217 [.long ((p2 : Int32).toInt64), .long 0, .long (((g1.1 1052 p1.toNatClampNeg) - 1 : Int32).toInt64)] g1 e2 (fun x7 g5 e6 =>
          zbr (x7 = 0)
          (k 0 g5 e6)
          (k 1 g5 e6)) X)) X) : hci (d + 1) 221 [.ref 1046, .int p1, .int p2] g e k X := by
  refine hent (M := zm_X8_isPlace) (show hT 1046 = some (.inr _) from rfl) rfl rfl rfl rfl rfl ?_
  refine zq_aload (pc' := 1) rfl rfl rfl rfl ?_
  refine zq_iload (pc' := 2) rfl rfl rfl rfl ?_
  refine hq_calli (pc' := 5) rfl rfl rfl rfl rfl rfl h_Xi ?_
  refine hmonoi H ?_
  intro x3 g1 e2 H
  refine zq_ifeq (pc' := 8) rfl rfl rfl rfl (And.intro (fun c => ?_) (fun c => ?_))
  · have H := H.1 c
    refine zq_ipush (pc' := 31) rfl rfl rfl ?_
    exact zq_iret rfl (Or.inl rfl) (Exists.intro _ (Exists.intro _ (And.intro rfl H)))
  · have H := H.2 c
    refine zq_iload (pc' := 9) rfl rfl rfl rfl ?_
    refine zq_i2l (pc' := 10) rfl rfl rfl ?_
    refine zq_lpush (pc' := 11) rfl rfl rfl ?_
    refine zq_aload (pc' := 12) rfl rfl rfl rfl ?_
    refine zq_getR (pc' := 15) rfl rfl rfl (hp_gC rfl) ?_
    refine zq_iload (pc' := 16) rfl rfl rfl rfl ?_
    obtain ⟨hi4, H⟩ := H
    refine zq_iald (pc' := 17) rfl rfl rfl (hp_ia rfl hi4) ?_
    refine zq_ipush (pc' := 18) rfl rfl rfl ?_
    refine zq_isub (pc' := 19) rfl rfl rfl ?_
    refine zq_i2l (pc' := 20) rfl rfl rfl ?_
    refine hq_calli (pc' := 23) rfl rfl rfl rfl rfl rfl h_Xi ?_
    refine hmonoi H ?_
    intro x7 g5 e6 H
    refine zq_ifeq (pc' := 26) rfl rfl rfl rfl (And.intro (fun c => ?_) (fun c => ?_))
    · have H := H.1 c
      refine zq_ipush (pc' := 31) rfl rfl rfl ?_
      exact zq_iret rfl (Or.inl rfl) (Exists.intro _ (Exists.intro _ (And.intro rfl H)))
    · have H := H.2 c
      refine zq_ipush (pc' := 27) rfl rfl rfl ?_
      refine zq_goto (pc' := 31) rfl rfl rfl ?_
      exact zq_iret rfl (Or.inr rfl) (Exists.intro _ (Exists.intro _ (And.intro rfl H)))
theorem zh_X8_feed {d : Nat} {k : Int32 → hG → hE → Prop} {X : Nat → hG → hE → Prop} {p1 : Int32} {p2 : Int32} {p3 : Int32} {p4 : Int32} {p5 : Int32} {g : hG} {e : hE} (H :
    zbr ((((sI g 1046 4 0).1 1046 15) + 20) ≤ 700)
    (hwi d zm_X8_feed k X 23 [(0, .ref 1046), (1, .int p1), (2, .int p2), (3, .int p3), (4, .int p4), (5, .int p5), (6, .int 0)] (sI g 1046 4 0) e)
    (k (-1) (sI g 1046 4 0) e)) : hci (d + 1) 222 [.ref 1046, .int p1, .int p2, .int p3, .int p4, .int p5] g e k X := by
  refine hent (M := zm_X8_feed) (show hT 1046 = some (.inr _) from rfl) rfl rfl rfl rfl rfl ?_
  refine zq_aload (pc' := 1) rfl rfl rfl rfl ?_
  refine zq_ipush (pc' := 2) rfl rfl rfl ?_
  refine zq_put (pc' := 5) rfl rfl rfl trivial (hp_sI rfl) ?_
  refine zq_aload (pc' := 6) rfl rfl rfl rfl ?_
  refine zq_getI (pc' := 9) rfl rfl rfl (hp_gI rfl) ?_
  refine zq_ipush (pc' := 11) rfl rfl rfl ?_
  refine zq_iadd (pc' := 12) rfl rfl rfl ?_
  refine zq_ipush (pc' := 15) rfl rfl rfl ?_
  refine zq_icle (pc' := 18) rfl rfl rfl rfl (And.intro (fun c => ?_) (fun c => ?_))
  · have H := H.1 c
    refine zq_ipush (pc' := 21) rfl rfl rfl ?_
    refine zq_istore_c (pc' := 23) rfl rfl ?_
    exact H
  · have H := H.2 c
    refine zq_ipushn (pc' := 19) rfl rfl rfl ?_
    exact zq_iret rfl trivial (Exists.intro _ (Exists.intro _ (And.intro rfl H)))
theorem zh_X8_feed_23 {d : Nat} {k : Int32 → hG → hE → Prop} {X : Nat → hG → hE → Prop} {l1 : Int32} {l2 : Int32} {l3 : Int32} {l4 : Int32} {l5 : Int32} {l6 : Int32} {g : hG} {e : hE} (H :
    zbr (20 ≤ l6)
    (k (g.1 1046 15) g e)
    (zbr (4 ≤ l6)
      (zbr (8 ≤ l6)
        (zbr (12 ≤ l6)
          (zbr (16 ≤ l6)
            (hin (g.1 1046 15) 700 ∧
              ∀ g2, g2 = sI (sI g 1059 (g.1 1046 15).toNatClampNeg ((l5 >>> ((24 - (8 * (l6 - l6 / 4 * 4))) &&& 31)) &&& 255)) 1046 15 (((sI g 1059 (g.1 1046 15).toNatClampNeg ((l5 >>> ((24 - (8 * (l6 - l6 / 4 * 4))) &&& 31)) &&& 255)).1 1046 15) + 1) →
              hwi d zm_X8_feed k X 23 [(0, .ref 1046), (1, .int l1), (2, .int l2), (3, .int l3), (4, .int l4), (5, .int l5), (6, .int (l6 + 1))] g2 e)
            (hin (g.1 1046 15) 700 ∧
              ∀ g4, g4 = sI (sI g 1059 (g.1 1046 15).toNatClampNeg ((l4 >>> ((24 - (8 * (l6 - l6 / 4 * 4))) &&& 31)) &&& 255)) 1046 15 (((sI g 1059 (g.1 1046 15).toNatClampNeg ((l4 >>> ((24 - (8 * (l6 - l6 / 4 * 4))) &&& 31)) &&& 255)).1 1046 15) + 1) →
              hwi d zm_X8_feed k X 23 [(0, .ref 1046), (1, .int l1), (2, .int l2), (3, .int l3), (4, .int l4), (5, .int l5), (6, .int (l6 + 1))] g4 e))
          (hin (g.1 1046 15) 700 ∧
            ∀ g6, g6 = sI (sI g 1059 (g.1 1046 15).toNatClampNeg ((l3 >>> ((24 - (8 * (l6 - l6 / 4 * 4))) &&& 31)) &&& 255)) 1046 15 (((sI g 1059 (g.1 1046 15).toNatClampNeg ((l3 >>> ((24 - (8 * (l6 - l6 / 4 * 4))) &&& 31)) &&& 255)).1 1046 15) + 1) →
            hwi d zm_X8_feed k X 23 [(0, .ref 1046), (1, .int l1), (2, .int l2), (3, .int l3), (4, .int l4), (5, .int l5), (6, .int (l6 + 1))] g6 e))
        (hin (g.1 1046 15) 700 ∧
          ∀ g8, g8 = sI (sI g 1059 (g.1 1046 15).toNatClampNeg ((l2 >>> ((24 - (8 * (l6 - l6 / 4 * 4))) &&& 31)) &&& 255)) 1046 15 (((sI g 1059 (g.1 1046 15).toNatClampNeg ((l2 >>> ((24 - (8 * (l6 - l6 / 4 * 4))) &&& 31)) &&& 255)).1 1046 15) + 1) →
          hwi d zm_X8_feed k X 23 [(0, .ref 1046), (1, .int l1), (2, .int l2), (3, .int l3), (4, .int l4), (5, .int l5), (6, .int (l6 + 1))] g8 e))
      (hin (g.1 1046 15) 700 ∧
        ∀ g10, g10 = sI (sI g 1059 (g.1 1046 15).toNatClampNeg ((l1 >>> ((24 - (8 * (l6 - l6 / 4 * 4))) &&& 31)) &&& 255)) 1046 15 (((sI g 1059 (g.1 1046 15).toNatClampNeg ((l1 >>> ((24 - (8 * (l6 - l6 / 4 * 4))) &&& 31)) &&& 255)).1 1046 15) + 1) →
        hwi d zm_X8_feed k X 23 [(0, .ref 1046), (1, .int l1), (2, .int l2), (3, .int l3), (4, .int l4), (5, .int l5), (6, .int (l6 + 1))] g10 e))) : hwi d zm_X8_feed k X 23 [(0, .ref 1046), (1, .int l1), (2, .int l2), (3, .int l3), (4, .int l4), (5, .int l5), (6, .int l6)] g e := by
  refine zq_iload (pc' := 25) rfl rfl rfl rfl ?_
  refine zq_ipush (pc' := 27) rfl rfl rfl ?_
  refine zq_icge (pc' := 30) rfl rfl rfl rfl (And.intro (fun c => ?_) (fun c => ?_))
  · have H := H.1 c
    refine zq_aload (pc' := 121) rfl rfl rfl rfl ?_
    refine zq_getI (pc' := 124) rfl rfl rfl (hp_gI rfl) ?_
    exact zq_iret rfl trivial (Exists.intro _ (Exists.intro _ (And.intro rfl H)))
  · have H := H.2 c
    refine zq_iload (pc' := 32) rfl rfl rfl rfl ?_
    refine zq_ipush (pc' := 33) rfl rfl rfl ?_
    refine zq_icge (pc' := 36) rfl rfl rfl rfl (And.intro (fun c => ?_) (fun c => ?_))
    · have H := H.1 c
      refine zq_iload (pc' := 42) rfl rfl rfl rfl ?_
      refine zq_ipush (pc' := 44) rfl rfl rfl ?_
      refine zq_icge (pc' := 47) rfl rfl rfl rfl (And.intro (fun c => ?_) (fun c => ?_))
      · have H := H.1 c
        refine zq_iload (pc' := 53) rfl rfl rfl rfl ?_
        refine zq_ipush (pc' := 55) rfl rfl rfl ?_
        refine zq_icge (pc' := 58) rfl rfl rfl rfl (And.intro (fun c => ?_) (fun c => ?_))
        · have H := H.1 c
          refine zq_iload (pc' := 64) rfl rfl rfl rfl ?_
          refine zq_ipush (pc' := 66) rfl rfl rfl ?_
          refine zq_icge (pc' := 69) rfl rfl rfl rfl (And.intro (fun c => ?_) (fun c => ?_))
          · have H := H.1 c
            refine zq_iload (pc' := 76) rfl rfl rfl rfl ?_
            refine zq_istore (pc' := 78) rfl rfl rfl ?_
            refine zq_aload (pc' := 79) rfl rfl rfl rfl ?_
            refine zq_getR (pc' := 82) rfl rfl rfl (hp_gC rfl) ?_
            refine zq_aload (pc' := 83) rfl rfl rfl rfl ?_
            refine zq_getI (pc' := 86) rfl rfl rfl (hp_gI rfl) ?_
            refine zq_iload (pc' := 88) rfl rfl rfl rfl ?_
            refine zq_ipush (pc' := 90) rfl rfl rfl ?_
            refine zq_ipush (pc' := 92) rfl rfl rfl ?_
            refine zq_iload (pc' := 94) rfl rfl rfl rfl ?_
            refine zq_ipush (pc' := 95) rfl rfl rfl ?_
            refine zq_irem (pc' := 96) rfl rfl rfl (by decide) ?_
            refine zq_imul (pc' := 97) rfl rfl rfl ?_
            refine zq_isub (pc' := 98) rfl rfl rfl ?_
            refine zq_ishr (pc' := 99) rfl rfl rfl ?_
            refine zq_ipush (pc' := 102) rfl rfl rfl ?_
            refine zq_iand (pc' := 103) rfl rfl rfl ?_
            obtain ⟨hi1, H⟩ := H
            refine zq_iast (pc' := 104) rfl rfl rfl (hp_is rfl hi1) ?_
            refine zq_aload (pc' := 105) rfl rfl rfl rfl ?_
            refine zq_dup (pc' := 106) rfl rfl rfl rfl ?_
            refine zq_getI (pc' := 109) rfl rfl rfl (hp_gI rfl) ?_
            refine zq_ipush (pc' := 110) rfl rfl rfl ?_
            refine zq_iadd (pc' := 111) rfl rfl rfl ?_
            refine zq_put (pc' := 114) rfl rfl rfl trivial (hp_sI rfl) ?_
            have H := H _ rfl
            refine zq_iinc (pc' := 117) rfl rfl rfl rfl ?_
            refine zq_goto_c (pc' := 23) rfl rfl ?_
            exact H
          · have H := H.2 c
            refine zq_iload (pc' := 71) rfl rfl rfl rfl ?_
            refine zq_goto (pc' := 76) rfl rfl rfl ?_
            refine zq_istore (pc' := 78) rfl rfl rfl ?_
            refine zq_aload (pc' := 79) rfl rfl rfl rfl ?_
            refine zq_getR (pc' := 82) rfl rfl rfl (hp_gC rfl) ?_
            refine zq_aload (pc' := 83) rfl rfl rfl rfl ?_
            refine zq_getI (pc' := 86) rfl rfl rfl (hp_gI rfl) ?_
            refine zq_iload (pc' := 88) rfl rfl rfl rfl ?_
            refine zq_ipush (pc' := 90) rfl rfl rfl ?_
            refine zq_ipush (pc' := 92) rfl rfl rfl ?_
            refine zq_iload (pc' := 94) rfl rfl rfl rfl ?_
            refine zq_ipush (pc' := 95) rfl rfl rfl ?_
            refine zq_irem (pc' := 96) rfl rfl rfl (by decide) ?_
            refine zq_imul (pc' := 97) rfl rfl rfl ?_
            refine zq_isub (pc' := 98) rfl rfl rfl ?_
            refine zq_ishr (pc' := 99) rfl rfl rfl ?_
            refine zq_ipush (pc' := 102) rfl rfl rfl ?_
            refine zq_iand (pc' := 103) rfl rfl rfl ?_
            obtain ⟨hi3, H⟩ := H
            refine zq_iast (pc' := 104) rfl rfl rfl (hp_is rfl hi3) ?_
            refine zq_aload (pc' := 105) rfl rfl rfl rfl ?_
            refine zq_dup (pc' := 106) rfl rfl rfl rfl ?_
            refine zq_getI (pc' := 109) rfl rfl rfl (hp_gI rfl) ?_
            refine zq_ipush (pc' := 110) rfl rfl rfl ?_
            refine zq_iadd (pc' := 111) rfl rfl rfl ?_
            refine zq_put (pc' := 114) rfl rfl rfl trivial (hp_sI rfl) ?_
            have H := H _ rfl
            refine zq_iinc (pc' := 117) rfl rfl rfl rfl ?_
            refine zq_goto_c (pc' := 23) rfl rfl ?_
            exact H
        · have H := H.2 c
          refine zq_iload (pc' := 59) rfl rfl rfl rfl ?_
          refine zq_goto (pc' := 76) rfl rfl rfl ?_
          refine zq_istore (pc' := 78) rfl rfl rfl ?_
          refine zq_aload (pc' := 79) rfl rfl rfl rfl ?_
          refine zq_getR (pc' := 82) rfl rfl rfl (hp_gC rfl) ?_
          refine zq_aload (pc' := 83) rfl rfl rfl rfl ?_
          refine zq_getI (pc' := 86) rfl rfl rfl (hp_gI rfl) ?_
          refine zq_iload (pc' := 88) rfl rfl rfl rfl ?_
          refine zq_ipush (pc' := 90) rfl rfl rfl ?_
          refine zq_ipush (pc' := 92) rfl rfl rfl ?_
          refine zq_iload (pc' := 94) rfl rfl rfl rfl ?_
          refine zq_ipush (pc' := 95) rfl rfl rfl ?_
          refine zq_irem (pc' := 96) rfl rfl rfl (by decide) ?_
          refine zq_imul (pc' := 97) rfl rfl rfl ?_
          refine zq_isub (pc' := 98) rfl rfl rfl ?_
          refine zq_ishr (pc' := 99) rfl rfl rfl ?_
          refine zq_ipush (pc' := 102) rfl rfl rfl ?_
          refine zq_iand (pc' := 103) rfl rfl rfl ?_
          obtain ⟨hi5, H⟩ := H
          refine zq_iast (pc' := 104) rfl rfl rfl (hp_is rfl hi5) ?_
          refine zq_aload (pc' := 105) rfl rfl rfl rfl ?_
          refine zq_dup (pc' := 106) rfl rfl rfl rfl ?_
          refine zq_getI (pc' := 109) rfl rfl rfl (hp_gI rfl) ?_
          refine zq_ipush (pc' := 110) rfl rfl rfl ?_
          refine zq_iadd (pc' := 111) rfl rfl rfl ?_
          refine zq_put (pc' := 114) rfl rfl rfl trivial (hp_sI rfl) ?_
          have H := H _ rfl
          refine zq_iinc (pc' := 117) rfl rfl rfl rfl ?_
          refine zq_goto_c (pc' := 23) rfl rfl ?_
          exact H
      · have H := H.2 c
        refine zq_iload (pc' := 48) rfl rfl rfl rfl ?_
        refine zq_goto (pc' := 76) rfl rfl rfl ?_
        refine zq_istore (pc' := 78) rfl rfl rfl ?_
        refine zq_aload (pc' := 79) rfl rfl rfl rfl ?_
        refine zq_getR (pc' := 82) rfl rfl rfl (hp_gC rfl) ?_
        refine zq_aload (pc' := 83) rfl rfl rfl rfl ?_
        refine zq_getI (pc' := 86) rfl rfl rfl (hp_gI rfl) ?_
        refine zq_iload (pc' := 88) rfl rfl rfl rfl ?_
        refine zq_ipush (pc' := 90) rfl rfl rfl ?_
        refine zq_ipush (pc' := 92) rfl rfl rfl ?_
        refine zq_iload (pc' := 94) rfl rfl rfl rfl ?_
        refine zq_ipush (pc' := 95) rfl rfl rfl ?_
        refine zq_irem (pc' := 96) rfl rfl rfl (by decide) ?_
        refine zq_imul (pc' := 97) rfl rfl rfl ?_
        refine zq_isub (pc' := 98) rfl rfl rfl ?_
        refine zq_ishr (pc' := 99) rfl rfl rfl ?_
        refine zq_ipush (pc' := 102) rfl rfl rfl ?_
        refine zq_iand (pc' := 103) rfl rfl rfl ?_
        obtain ⟨hi7, H⟩ := H
        refine zq_iast (pc' := 104) rfl rfl rfl (hp_is rfl hi7) ?_
        refine zq_aload (pc' := 105) rfl rfl rfl rfl ?_
        refine zq_dup (pc' := 106) rfl rfl rfl rfl ?_
        refine zq_getI (pc' := 109) rfl rfl rfl (hp_gI rfl) ?_
        refine zq_ipush (pc' := 110) rfl rfl rfl ?_
        refine zq_iadd (pc' := 111) rfl rfl rfl ?_
        refine zq_put (pc' := 114) rfl rfl rfl trivial (hp_sI rfl) ?_
        have H := H _ rfl
        refine zq_iinc (pc' := 117) rfl rfl rfl rfl ?_
        refine zq_goto_c (pc' := 23) rfl rfl ?_
        exact H
    · have H := H.2 c
      refine zq_iload (pc' := 37) rfl rfl rfl rfl ?_
      refine zq_goto (pc' := 76) rfl rfl rfl ?_
      refine zq_istore (pc' := 78) rfl rfl rfl ?_
      refine zq_aload (pc' := 79) rfl rfl rfl rfl ?_
      refine zq_getR (pc' := 82) rfl rfl rfl (hp_gC rfl) ?_
      refine zq_aload (pc' := 83) rfl rfl rfl rfl ?_
      refine zq_getI (pc' := 86) rfl rfl rfl (hp_gI rfl) ?_
      refine zq_iload (pc' := 88) rfl rfl rfl rfl ?_
      refine zq_ipush (pc' := 90) rfl rfl rfl ?_
      refine zq_ipush (pc' := 92) rfl rfl rfl ?_
      refine zq_iload (pc' := 94) rfl rfl rfl rfl ?_
      refine zq_ipush (pc' := 95) rfl rfl rfl ?_
      refine zq_irem (pc' := 96) rfl rfl rfl (by decide) ?_
      refine zq_imul (pc' := 97) rfl rfl rfl ?_
      refine zq_isub (pc' := 98) rfl rfl rfl ?_
      refine zq_ishr (pc' := 99) rfl rfl rfl ?_
      refine zq_ipush (pc' := 102) rfl rfl rfl ?_
      refine zq_iand (pc' := 103) rfl rfl rfl ?_
      obtain ⟨hi9, H⟩ := H
      refine zq_iast (pc' := 104) rfl rfl rfl (hp_is rfl hi9) ?_
      refine zq_aload (pc' := 105) rfl rfl rfl rfl ?_
      refine zq_dup (pc' := 106) rfl rfl rfl rfl ?_
      refine zq_getI (pc' := 109) rfl rfl rfl (hp_gI rfl) ?_
      refine zq_ipush (pc' := 110) rfl rfl rfl ?_
      refine zq_iadd (pc' := 111) rfl rfl rfl ?_
      refine zq_put (pc' := 114) rfl rfl rfl trivial (hp_sI rfl) ?_
      have H := H _ rfl
      refine zq_iinc (pc' := 117) rfl rfl rfl rfl ?_
      refine zq_goto_c (pc' := 23) rfl rfl ?_
      exact H
theorem zh_X8_byteAt {d : Nat} {k : Int32 → hG → hE → Prop} {X : Nat → hG → hE → Prop} {p1 : Int32} {g : hG} {e : hE} (H :
    zbr ((g.1 1046 17) ≤ p1)
    (k (-1) g e)
    (hin p1 700 ∧
      k (g.1 1059 p1.toNatClampNeg) g e)) : hci (d + 1) 223 [.ref 1046, .int p1] g e k X := by
  refine hent (M := zm_X8_byteAt) (show hT 1046 = some (.inr _) from rfl) rfl rfl rfl rfl rfl ?_
  refine zq_iload (pc' := 1) rfl rfl rfl rfl ?_
  refine zq_aload (pc' := 2) rfl rfl rfl rfl ?_
  refine zq_getI (pc' := 5) rfl rfl rfl (hp_gI rfl) ?_
  refine zq_icge (pc' := 8) rfl rfl rfl rfl (And.intro (fun c => ?_) (fun c => ?_))
  · have H := H.1 c
    refine zq_ipushn (pc' := 18) rfl rfl rfl ?_
    exact zq_iret rfl trivial (Exists.intro _ (Exists.intro _ (And.intro rfl H)))
  · have H := H.2 c
    refine zq_aload (pc' := 9) rfl rfl rfl rfl ?_
    refine zq_getR (pc' := 12) rfl rfl rfl (hp_gC rfl) ?_
    refine zq_iload (pc' := 13) rfl rfl rfl rfl ?_
    obtain ⟨hi1, H⟩ := H
    refine zq_iald (pc' := 14) rfl rfl rfl (hp_ia rfl hi1) ?_
    refine zq_goto (pc' := 18) rfl rfl rfl ?_
    exact zq_iret rfl trivial (Exists.intro _ (Exists.intro _ (And.intro rfl H)))
theorem zh_X8_isLetter {d : Nat} {k : Int32 → hG → hE → Prop} {X : Nat → hG → hE → Prop} {p0 : Int32} {g : hG} {e : hE} (H :
    zbr (p0 < 97)
    (k 0 g e)
    (zbr (122 < p0)
      (k 0 g e)
      (k 1 g e))) : hci (d + 1) 224 [.int p0] g e k X := by
  refine hentS (M := zm_X8_isLetter) rfl rfl rfl rfl ?_
  refine zq_iload (pc' := 1) rfl rfl rfl rfl ?_
  refine zq_ipush (pc' := 3) rfl rfl rfl ?_
  refine zq_iclt (pc' := 6) rfl rfl rfl rfl (And.intro (fun c => ?_) (fun c => ?_))
  · have H := H.1 c
    refine zq_ipush (pc' := 17) rfl rfl rfl ?_
    exact zq_iret rfl (Or.inl rfl) (Exists.intro _ (Exists.intro _ (And.intro rfl H)))
  · have H := H.2 c
    refine zq_iload (pc' := 7) rfl rfl rfl rfl ?_
    refine zq_ipush (pc' := 9) rfl rfl rfl ?_
    refine zq_icgt (pc' := 12) rfl rfl rfl rfl (And.intro (fun c => ?_) (fun c => ?_))
    · have H := H.1 c
      refine zq_ipush (pc' := 17) rfl rfl rfl ?_
      exact zq_iret rfl (Or.inl rfl) (Exists.intro _ (Exists.intro _ (And.intro rfl H)))
    · have H := H.2 c
      refine zq_ipush (pc' := 13) rfl rfl rfl ?_
      refine zq_goto (pc' := 17) rfl rfl rfl ?_
      exact zq_iret rfl (Or.inr rfl) (Exists.intro _ (Exists.intro _ (And.intro rfl H)))
theorem zh_X8_isDigit {d : Nat} {k : Int32 → hG → hE → Prop} {X : Nat → hG → hE → Prop} {p0 : Int32} {g : hG} {e : hE} (H :
    zbr (p0 < 48)
    (k 0 g e)
    (zbr (57 < p0)
      (k 0 g e)
      (k 1 g e))) : hci (d + 1) 225 [.int p0] g e k X := by
  refine hentS (M := zm_X8_isDigit) rfl rfl rfl rfl ?_
  refine zq_iload (pc' := 1) rfl rfl rfl rfl ?_
  refine zq_ipush (pc' := 3) rfl rfl rfl ?_
  refine zq_iclt (pc' := 6) rfl rfl rfl rfl (And.intro (fun c => ?_) (fun c => ?_))
  · have H := H.1 c
    refine zq_ipush (pc' := 17) rfl rfl rfl ?_
    exact zq_iret rfl (Or.inl rfl) (Exists.intro _ (Exists.intro _ (And.intro rfl H)))
  · have H := H.2 c
    refine zq_iload (pc' := 7) rfl rfl rfl rfl ?_
    refine zq_ipush (pc' := 9) rfl rfl rfl ?_
    refine zq_icgt (pc' := 12) rfl rfl rfl rfl (And.intro (fun c => ?_) (fun c => ?_))
    · have H := H.1 c
      refine zq_ipush (pc' := 17) rfl rfl rfl ?_
      exact zq_iret rfl (Or.inl rfl) (Exists.intro _ (Exists.intro _ (And.intro rfl H)))
    · have H := H.2 c
      refine zq_ipush (pc' := 13) rfl rfl rfl ?_
      refine zq_goto (pc' := 17) rfl rfl rfl ?_
      exact zq_iret rfl (Or.inr rfl) (Exists.intro _ (Exists.intro _ (And.intro rfl H)))
theorem zh_X8_isMark {d : Nat} {k : Int32 → hG → hE → Prop} {X : Nat → hG → hE → Prop} {p0 : Int32} {g : hG} {e : hE} (H :
    zbr (p0 = 59)
    (k 1 g e)
    (zbr (p0 = 40)
      (k 1 g e)
      (zbr (p0 = 41)
        (k 1 g e)
        (zbr (p0 = 43)
          (k 1 g e)
          (zbr (p0 = 45)
            (k 1 g e)
            (zbr (p0 = 42)
              (k 1 g e)
              (zbr (p0 = 47)
                (k 1 g e)
                (zbr (p0 = 60)
                  (k 1 g e)
                  (zbr (p0 = 61)
                    (k 1 g e)
                    (k 0 g e)))))))))) : hci (d + 1) 226 [.int p0] g e k X := by
  refine hentS (M := zm_X8_isMark) rfl rfl rfl rfl ?_
  refine zq_iload (pc' := 1) rfl rfl rfl rfl ?_
  refine zq_ipush (pc' := 3) rfl rfl rfl ?_
  refine zq_iceq (pc' := 6) rfl rfl rfl rfl (And.intro (fun c => ?_) (fun c => ?_))
  · have H := H.1 c
    refine zq_ipush (pc' := 55) rfl rfl rfl ?_
    refine zq_goto (pc' := 59) rfl rfl rfl ?_
    exact zq_iret rfl (Or.inr rfl) (Exists.intro _ (Exists.intro _ (And.intro rfl H)))
  · have H := H.2 c
    refine zq_iload (pc' := 7) rfl rfl rfl rfl ?_
    refine zq_ipush (pc' := 9) rfl rfl rfl ?_
    refine zq_iceq (pc' := 12) rfl rfl rfl rfl (And.intro (fun c => ?_) (fun c => ?_))
    · have H := H.1 c
      refine zq_ipush (pc' := 55) rfl rfl rfl ?_
      refine zq_goto (pc' := 59) rfl rfl rfl ?_
      exact zq_iret rfl (Or.inr rfl) (Exists.intro _ (Exists.intro _ (And.intro rfl H)))
    · have H := H.2 c
      refine zq_iload (pc' := 13) rfl rfl rfl rfl ?_
      refine zq_ipush (pc' := 15) rfl rfl rfl ?_
      refine zq_iceq (pc' := 18) rfl rfl rfl rfl (And.intro (fun c => ?_) (fun c => ?_))
      · have H := H.1 c
        refine zq_ipush (pc' := 55) rfl rfl rfl ?_
        refine zq_goto (pc' := 59) rfl rfl rfl ?_
        exact zq_iret rfl (Or.inr rfl) (Exists.intro _ (Exists.intro _ (And.intro rfl H)))
      · have H := H.2 c
        refine zq_iload (pc' := 19) rfl rfl rfl rfl ?_
        refine zq_ipush (pc' := 21) rfl rfl rfl ?_
        refine zq_iceq (pc' := 24) rfl rfl rfl rfl (And.intro (fun c => ?_) (fun c => ?_))
        · have H := H.1 c
          refine zq_ipush (pc' := 55) rfl rfl rfl ?_
          refine zq_goto (pc' := 59) rfl rfl rfl ?_
          exact zq_iret rfl (Or.inr rfl) (Exists.intro _ (Exists.intro _ (And.intro rfl H)))
        · have H := H.2 c
          refine zq_iload (pc' := 25) rfl rfl rfl rfl ?_
          refine zq_ipush (pc' := 27) rfl rfl rfl ?_
          refine zq_iceq (pc' := 30) rfl rfl rfl rfl (And.intro (fun c => ?_) (fun c => ?_))
          · have H := H.1 c
            refine zq_ipush (pc' := 55) rfl rfl rfl ?_
            refine zq_goto (pc' := 59) rfl rfl rfl ?_
            exact zq_iret rfl (Or.inr rfl) (Exists.intro _ (Exists.intro _ (And.intro rfl H)))
          · have H := H.2 c
            refine zq_iload (pc' := 31) rfl rfl rfl rfl ?_
            refine zq_ipush (pc' := 33) rfl rfl rfl ?_
            refine zq_iceq (pc' := 36) rfl rfl rfl rfl (And.intro (fun c => ?_) (fun c => ?_))
            · have H := H.1 c
              refine zq_ipush (pc' := 55) rfl rfl rfl ?_
              refine zq_goto (pc' := 59) rfl rfl rfl ?_
              exact zq_iret rfl (Or.inr rfl) (Exists.intro _ (Exists.intro _ (And.intro rfl H)))
            · have H := H.2 c
              refine zq_iload (pc' := 37) rfl rfl rfl rfl ?_
              refine zq_ipush (pc' := 39) rfl rfl rfl ?_
              refine zq_iceq (pc' := 42) rfl rfl rfl rfl (And.intro (fun c => ?_) (fun c => ?_))
              · have H := H.1 c
                refine zq_ipush (pc' := 55) rfl rfl rfl ?_
                refine zq_goto (pc' := 59) rfl rfl rfl ?_
                exact zq_iret rfl (Or.inr rfl) (Exists.intro _ (Exists.intro _ (And.intro rfl H)))
              · have H := H.2 c
                refine zq_iload (pc' := 43) rfl rfl rfl rfl ?_
                refine zq_ipush (pc' := 45) rfl rfl rfl ?_
                refine zq_iceq (pc' := 48) rfl rfl rfl rfl (And.intro (fun c => ?_) (fun c => ?_))
                · have H := H.1 c
                  refine zq_ipush (pc' := 55) rfl rfl rfl ?_
                  refine zq_goto (pc' := 59) rfl rfl rfl ?_
                  exact zq_iret rfl (Or.inr rfl) (Exists.intro _ (Exists.intro _ (And.intro rfl H)))
                · have H := H.2 c
                  refine zq_iload (pc' := 49) rfl rfl rfl rfl ?_
                  refine zq_ipush (pc' := 51) rfl rfl rfl ?_
                  refine zq_icne (pc' := 54) rfl rfl rfl rfl (And.intro (fun c => ?_) (fun c => ?_))
                  · have H := H.1 c
                    refine zq_ipush (pc' := 55) rfl rfl rfl ?_
                    refine zq_goto (pc' := 59) rfl rfl rfl ?_
                    exact zq_iret rfl (Or.inr rfl) (Exists.intro _ (Exists.intro _ (And.intro rfl H)))
                  · have H := H.2 c
                    refine zq_ipush (pc' := 59) rfl rfl rfl ?_
                    exact zq_iret rfl (Or.inl rfl) (Exists.intro _ (Exists.intro _ (And.intro rfl H)))
theorem zh_X8_stepOn {d : Nat} {k : hG → hE → Prop} {X : Nat → hG → hE → Prop}  {g : hG} {e : hE} (H :
    hwv d zm_X8_stepOn k X 0 [(0, .ref 1046)] g e) : hcv (d + 1) 227 [.ref 1046] g e k X := by
  refine hent (M := zm_X8_stepOn) (show hT 1046 = some (.inr _) from rfl) rfl rfl rfl rfl rfl ?_
  exact H
theorem zh_X8_stepOn_0 {d : Nat} {k : hG → hE → Prop} {X : Nat → hG → hE → Prop}  {g : hG} {e : hE} (H :
    hci d 223 [.ref 1046, .int (g.1 1046 16)] g e (fun x3 g1 e2 =>
      zbr (x3 = 32)
      (hwv d zm_X8_stepOn k X 0 [(0, .ref 1046)] (sI g1 1046 16 ((g1.1 1046 16) + 1)) e2)
      (hci d 223 [.ref 1046, .int (g1.1 1046 16)] g1 e2 (fun x6 g4 e5 =>
          zbr (x6 = 10)
          (hwv d zm_X8_stepOn k X 0 [(0, .ref 1046)] (sI g4 1046 16 ((g4.1 1046 16) + 1)) e5)
          (hci d 223 [.ref 1046, .int ((sI g4 1046 20 (g4.1 1046 16)).1 1046 16)] (sI g4 1046 20 (g4.1 1046 16)) e5 (fun x9 g7 e8 =>
              zbr (x9 = (-1))
              (k (sI (sI g7 1046 18 0) 1046 21 ((sI g7 1046 18 0).1 1046 16)) e8)
              (hci d 224 [.int x9] g7 e8 (fun x12 g10 e11 =>
                  zbr (x12 = 0)
                  (hci d 225 [.int x9] g10 e11 (fun x15 g13 e14 =>
                      zbr (x15 = 0)
                      (hci d 226 [.int x9] (sI g13 1046 16 ((g13.1 1046 16) + 1)) e14 (fun x18 g16 e17 =>
                          zbr (x18 = 0)
                          (k (sI (sI g16 1046 18 4) 1046 21 ((sI g16 1046 18 4).1 1046 16)) e17)
                          (k (sI (sI g16 1046 18 3) 1046 21 ((sI g16 1046 18 3).1 1046 16)) e17)) X)
                      (hwv d zm_X8_stepOn k X 123 [(0, .ref 1046)] (sI g13 1046 19 0) e14)) X)
                  (hwv d zm_X8_stepOn k X 76 [(0, .ref 1046)] g10 e11)) X)) X)) X)) X) : hwv d zm_X8_stepOn k X 0 [(0, .ref 1046)] g e := by
  refine zq_aload (pc' := 1) rfl rfl rfl rfl ?_
  refine zq_aload (pc' := 2) rfl rfl rfl rfl ?_
  refine zq_getI (pc' := 5) rfl rfl rfl (hp_gI rfl) ?_
  refine hq_calli (pc' := 8) rfl rfl rfl rfl rfl rfl h_Xv ?_
  refine hmonoi H ?_
  intro x3 g1 e2 H
  refine zq_ipush (pc' := 10) rfl rfl rfl ?_
  refine zq_iceq (pc' := 13) rfl rfl rfl rfl (And.intro (fun c => ?_) (fun c => ?_))
  · have H := H.1 c
    refine zq_aload (pc' := 27) rfl rfl rfl rfl ?_
    refine zq_dup (pc' := 28) rfl rfl rfl rfl ?_
    refine zq_getI (pc' := 31) rfl rfl rfl (hp_gI rfl) ?_
    refine zq_ipush (pc' := 32) rfl rfl rfl ?_
    refine zq_iadd (pc' := 33) rfl rfl rfl ?_
    refine zq_put (pc' := 36) rfl rfl rfl trivial (hp_sI rfl) ?_
    refine zq_goto_c (pc' := 0) rfl rfl ?_
    exact H
  · have H := H.2 c
    refine zq_aload (pc' := 14) rfl rfl rfl rfl ?_
    refine zq_aload (pc' := 15) rfl rfl rfl rfl ?_
    refine zq_getI (pc' := 18) rfl rfl rfl (hp_gI rfl) ?_
    refine hq_calli (pc' := 21) rfl rfl rfl rfl rfl rfl h_Xv ?_
    refine hmonoi H ?_
    intro x6 g4 e5 H
    refine zq_ipush (pc' := 23) rfl rfl rfl ?_
    refine zq_icne (pc' := 26) rfl rfl rfl rfl (And.intro (fun c => ?_) (fun c => ?_))
    · have H := H.1 c
      refine zq_aload (pc' := 27) rfl rfl rfl rfl ?_
      refine zq_dup (pc' := 28) rfl rfl rfl rfl ?_
      refine zq_getI (pc' := 31) rfl rfl rfl (hp_gI rfl) ?_
      refine zq_ipush (pc' := 32) rfl rfl rfl ?_
      refine zq_iadd (pc' := 33) rfl rfl rfl ?_
      refine zq_put (pc' := 36) rfl rfl rfl trivial (hp_sI rfl) ?_
      refine zq_goto_c (pc' := 0) rfl rfl ?_
      exact H
    · have H := H.2 c
      refine zq_aload (pc' := 40) rfl rfl rfl rfl ?_
      refine zq_aload (pc' := 41) rfl rfl rfl rfl ?_
      refine zq_getI (pc' := 44) rfl rfl rfl (hp_gI rfl) ?_
      refine zq_put (pc' := 47) rfl rfl rfl trivial (hp_sI rfl) ?_
      refine zq_aload (pc' := 48) rfl rfl rfl rfl ?_
      refine zq_aload (pc' := 49) rfl rfl rfl rfl ?_
      refine zq_getI (pc' := 52) rfl rfl rfl (hp_gI rfl) ?_
      refine hq_calli (pc' := 55) rfl rfl rfl rfl rfl rfl h_Xv ?_
      refine hmonoi H ?_
      intro x9 g7 e8 H
      refine zq_istore (pc' := 56) rfl rfl rfl ?_
      refine zq_iload (pc' := 57) rfl rfl rfl rfl ?_
      refine zq_ipushn (pc' := 58) rfl rfl rfl ?_
      refine zq_icne (pc' := 61) rfl rfl rfl rfl (And.intro (fun c => ?_) (fun c => ?_))
      · have H := H.1 c
        refine zq_aload (pc' := 62) rfl rfl rfl rfl ?_
        refine zq_ipush (pc' := 63) rfl rfl rfl ?_
        refine zq_put (pc' := 66) rfl rfl rfl trivial (hp_sI rfl) ?_
        refine zq_goto (pc' := 212) rfl rfl rfl ?_
        refine zq_aload (pc' := 213) rfl rfl rfl rfl ?_
        refine zq_aload (pc' := 214) rfl rfl rfl rfl ?_
        refine zq_getI (pc' := 217) rfl rfl rfl (hp_gI rfl) ?_
        refine zq_put (pc' := 220) rfl rfl rfl trivial (hp_sI rfl) ?_
        exact zq_vret rfl (Exists.intro _ (Exists.intro _ (And.intro rfl H)))
      · have H := H.2 c
        refine zq_iload (pc' := 70) rfl rfl rfl rfl ?_
        refine hq_calli (pc' := 73) rfl rfl rfl rfl rfl rfl h_Xv ?_
        refine hmonoi H ?_
        intro x12 g10 e11 H
        refine zq_ifeq_c (pc' := 76) (lt := [(1, .int x9), (0, .ref 1046)]) (lf := [(0, .ref 1046)]) rfl rfl rfl rfl (And.intro (fun c => ?_) (fun c => ?_))
        · have H := H.1 c
          refine zq_iload (pc' := 112) rfl rfl rfl rfl ?_
          refine hq_calli (pc' := 115) rfl rfl rfl rfl rfl rfl h_Xv ?_
          refine hmonoi H ?_
          intro x15 g13 e14 H
          refine zq_ifeq (pc' := 118) rfl rfl rfl rfl (And.intro (fun c => ?_) (fun c => ?_))
          · have H := H.1 c
            refine zq_aload (pc' := 187) rfl rfl rfl rfl ?_
            refine zq_dup (pc' := 188) rfl rfl rfl rfl ?_
            refine zq_getI (pc' := 191) rfl rfl rfl (hp_gI rfl) ?_
            refine zq_ipush (pc' := 192) rfl rfl rfl ?_
            refine zq_iadd (pc' := 193) rfl rfl rfl ?_
            refine zq_put (pc' := 196) rfl rfl rfl trivial (hp_sI rfl) ?_
            refine zq_aload (pc' := 197) rfl rfl rfl rfl ?_
            refine zq_iload (pc' := 198) rfl rfl rfl rfl ?_
            refine hq_calli (pc' := 201) rfl rfl rfl rfl rfl rfl h_Xv ?_
            refine hmonoi H ?_
            intro x18 g16 e17 H
            refine zq_ifeq (pc' := 204) rfl rfl rfl rfl (And.intro (fun c => ?_) (fun c => ?_))
            · have H := H.1 c
              refine zq_ipush (pc' := 209) rfl rfl rfl ?_
              refine zq_put (pc' := 212) rfl rfl rfl trivial (hp_sI rfl) ?_
              refine zq_aload (pc' := 213) rfl rfl rfl rfl ?_
              refine zq_aload (pc' := 214) rfl rfl rfl rfl ?_
              refine zq_getI (pc' := 217) rfl rfl rfl (hp_gI rfl) ?_
              refine zq_put (pc' := 220) rfl rfl rfl trivial (hp_sI rfl) ?_
              exact zq_vret rfl (Exists.intro _ (Exists.intro _ (And.intro rfl H)))
            · have H := H.2 c
              refine zq_ipush (pc' := 205) rfl rfl rfl ?_
              refine zq_goto (pc' := 209) rfl rfl rfl ?_
              refine zq_put (pc' := 212) rfl rfl rfl trivial (hp_sI rfl) ?_
              refine zq_aload (pc' := 213) rfl rfl rfl rfl ?_
              refine zq_aload (pc' := 214) rfl rfl rfl rfl ?_
              refine zq_getI (pc' := 217) rfl rfl rfl (hp_gI rfl) ?_
              refine zq_put (pc' := 220) rfl rfl rfl trivial (hp_sI rfl) ?_
              exact zq_vret rfl (Exists.intro _ (Exists.intro _ (And.intro rfl H)))
          · have H := H.2 c
            refine zq_aload (pc' := 119) rfl rfl rfl rfl ?_
            refine zq_ipush (pc' := 120) rfl rfl rfl ?_
            refine zq_put_c (pc' := 123) rfl rfl trivial (hp_sI rfl) ?_
            exact H
        · have H := H.2 c
          exact H
theorem zh_X8_stepOn_76 {d : Nat} {k : hG → hE → Prop} {X : Nat → hG → hE → Prop}  {g : hG} {e : hE} (H :
    hci d 223 [.ref 1046, .int (g.1 1046 16)] g e (fun x3 g1 e2 =>
      hci d 224 [.int x3] g1 e2 (fun x6 g4 e5 =>
        zbr (x6 = 0)
        (k (sI (sI g4 1046 18 1) 1046 21 ((sI g4 1046 18 1).1 1046 16)) e5)
        (hwv d zm_X8_stepOn k X 76 [(0, .ref 1046)] (sI g4 1046 16 ((g4.1 1046 16) + 1)) e5)) X) X) : hwv d zm_X8_stepOn k X 76 [(0, .ref 1046)] g e := by
  refine zq_aload (pc' := 77) rfl rfl rfl rfl ?_
  refine zq_aload (pc' := 78) rfl rfl rfl rfl ?_
  refine zq_getI (pc' := 81) rfl rfl rfl (hp_gI rfl) ?_
  refine hq_calli (pc' := 84) rfl rfl rfl rfl rfl rfl h_Xv ?_
  refine hmonoi H ?_
  intro x3 g1 e2 H
  refine hq_calli (pc' := 87) rfl rfl rfl rfl rfl rfl h_Xv ?_
  refine hmonoi H ?_
  intro x6 g4 e5 H
  refine zq_ifeq (pc' := 90) rfl rfl rfl rfl (And.intro (fun c => ?_) (fun c => ?_))
  · have H := H.1 c
    refine zq_aload (pc' := 104) rfl rfl rfl rfl ?_
    refine zq_ipush (pc' := 105) rfl rfl rfl ?_
    refine zq_put (pc' := 108) rfl rfl rfl trivial (hp_sI rfl) ?_
    refine zq_goto (pc' := 212) rfl rfl rfl ?_
    refine zq_aload (pc' := 213) rfl rfl rfl rfl ?_
    refine zq_aload (pc' := 214) rfl rfl rfl rfl ?_
    refine zq_getI (pc' := 217) rfl rfl rfl (hp_gI rfl) ?_
    refine zq_put (pc' := 220) rfl rfl rfl trivial (hp_sI rfl) ?_
    exact zq_vret rfl (Exists.intro _ (Exists.intro _ (And.intro rfl H)))
  · have H := H.2 c
    refine zq_aload (pc' := 91) rfl rfl rfl rfl ?_
    refine zq_dup (pc' := 92) rfl rfl rfl rfl ?_
    refine zq_getI (pc' := 95) rfl rfl rfl (hp_gI rfl) ?_
    refine zq_ipush (pc' := 96) rfl rfl rfl ?_
    refine zq_iadd (pc' := 97) rfl rfl rfl ?_
    refine zq_put (pc' := 100) rfl rfl rfl trivial (hp_sI rfl) ?_
    refine zq_goto_c (pc' := 76) rfl rfl ?_
    exact H
theorem zh_X8_stepOn_123 {d : Nat} {k : hG → hE → Prop} {X : Nat → hG → hE → Prop}  {g : hG} {e : hE} (H :
    hci d 223 [.ref 1046, .int (g.1 1046 16)] g e (fun x3 g1 e2 =>
      hci d 225 [.int x3] g1 e2 (fun x6 g4 e5 =>
        zbr (x6 = 0)
        (k (sI (sI g4 1046 18 2) 1046 21 ((sI g4 1046 18 2).1 1046 16)) e5)
        (hci d 223 [.ref 1046, .int (g4.1 1046 16)] g4 e5 (fun x9 g7 e8 =>
            hci d 3 [.int 100000, .int (((10 * (g4.1 1046 19)) + x9) - 48)] g7 e8 (fun x12 g10 e11 =>
              hwv d zm_X8_stepOn k X 123 [(0, .ref 1046)] (sI (sI g10 1046 19 x12) 1046 16 (((sI g10 1046 19 x12).1 1046 16) + 1)) e11) X) X)) X) X) : hwv d zm_X8_stepOn k X 123 [(0, .ref 1046)] g e := by
  refine zq_aload (pc' := 124) rfl rfl rfl rfl ?_
  refine zq_aload (pc' := 125) rfl rfl rfl rfl ?_
  refine zq_getI (pc' := 128) rfl rfl rfl (hp_gI rfl) ?_
  refine hq_calli (pc' := 131) rfl rfl rfl rfl rfl rfl h_Xv ?_
  refine hmonoi H ?_
  intro x3 g1 e2 H
  refine hq_calli (pc' := 134) rfl rfl rfl rfl rfl rfl h_Xv ?_
  refine hmonoi H ?_
  intro x6 g4 e5 H
  refine zq_ifeq (pc' := 137) rfl rfl rfl rfl (And.intro (fun c => ?_) (fun c => ?_))
  · have H := H.1 c
    refine zq_aload (pc' := 179) rfl rfl rfl rfl ?_
    refine zq_ipush (pc' := 180) rfl rfl rfl ?_
    refine zq_put (pc' := 183) rfl rfl rfl trivial (hp_sI rfl) ?_
    refine zq_goto (pc' := 212) rfl rfl rfl ?_
    refine zq_aload (pc' := 213) rfl rfl rfl rfl ?_
    refine zq_aload (pc' := 214) rfl rfl rfl rfl ?_
    refine zq_getI (pc' := 217) rfl rfl rfl (hp_gI rfl) ?_
    refine zq_put (pc' := 220) rfl rfl rfl trivial (hp_sI rfl) ?_
    exact zq_vret rfl (Exists.intro _ (Exists.intro _ (And.intro rfl H)))
  · have H := H.2 c
    refine zq_aload (pc' := 138) rfl rfl rfl rfl ?_
    refine zq_ipush (pc' := 140) rfl rfl rfl ?_
    refine zq_ipush (pc' := 142) rfl rfl rfl ?_
    refine zq_aload (pc' := 143) rfl rfl rfl rfl ?_
    refine zq_getI (pc' := 146) rfl rfl rfl (hp_gI rfl) ?_
    refine zq_imul (pc' := 147) rfl rfl rfl ?_
    refine zq_aload (pc' := 148) rfl rfl rfl rfl ?_
    refine zq_aload (pc' := 149) rfl rfl rfl rfl ?_
    refine zq_getI (pc' := 152) rfl rfl rfl (hp_gI rfl) ?_
    refine hq_calli (pc' := 155) rfl rfl rfl rfl rfl rfl h_Xv ?_
    refine hmonoi H ?_
    intro x9 g7 e8 H
    refine zq_iadd (pc' := 156) rfl rfl rfl ?_
    refine zq_ipush (pc' := 158) rfl rfl rfl ?_
    refine zq_isub (pc' := 159) rfl rfl rfl ?_
    refine hq_calli (pc' := 162) rfl rfl rfl rfl rfl rfl h_Xv ?_
    refine hmonoi H ?_
    intro x12 g10 e11 H
    refine zq_put (pc' := 165) rfl rfl rfl trivial (hp_sI rfl) ?_
    refine zq_aload (pc' := 166) rfl rfl rfl rfl ?_
    refine zq_dup (pc' := 167) rfl rfl rfl rfl ?_
    refine zq_getI (pc' := 170) rfl rfl rfl (hp_gI rfl) ?_
    refine zq_ipush (pc' := 171) rfl rfl rfl ?_
    refine zq_iadd (pc' := 172) rfl rfl rfl ?_
    refine zq_put (pc' := 175) rfl rfl rfl trivial (hp_sI rfl) ?_
    refine zq_goto_c (pc' := 123) rfl rfl ?_
    exact H
theorem zh_X8_wrong {d : Nat} {k : hG → hE → Prop} {X : Nat → hG → hE → Prop} {p1 : Int32} {g : hG} {e : hE} (H :
    zbr ((g.1 1046 22) = 0)
    (k (sI (sI g 1046 22 p1) 1046 23 ((sI g 1046 22 p1).1 1046 20)) e)
    (k g e)) : hcv (d + 1) 228 [.ref 1046, .int p1] g e k X := by
  refine hent (M := zm_X8_wrong) (show hT 1046 = some (.inr _) from rfl) rfl rfl rfl rfl rfl ?_
  refine zq_aload (pc' := 1) rfl rfl rfl rfl ?_
  refine zq_getI (pc' := 4) rfl rfl rfl (hp_gI rfl) ?_
  refine zq_ifeq (pc' := 7) rfl rfl rfl rfl (And.intro (fun c => ?_) (fun c => ?_))
  · have H := H.1 c
    refine zq_aload (pc' := 9) rfl rfl rfl rfl ?_
    refine zq_iload (pc' := 10) rfl rfl rfl rfl ?_
    refine zq_put (pc' := 13) rfl rfl rfl trivial (hp_sI rfl) ?_
    refine zq_aload (pc' := 14) rfl rfl rfl rfl ?_
    refine zq_aload (pc' := 15) rfl rfl rfl rfl ?_
    refine zq_getI (pc' := 18) rfl rfl rfl (hp_gI rfl) ?_
    refine zq_put (pc' := 21) rfl rfl rfl trivial (hp_sI rfl) ?_
    exact zq_vret rfl (Exists.intro _ (Exists.intro _ (And.intro rfl H)))
  · have H := H.2 c
    exact zq_vret rfl (Exists.intro _ (Exists.intro _ (And.intro rfl H)))
theorem zh_X8_is {d : Nat} {k : Int32 → hG → hE → Prop} {X : Nat → hG → hE → Prop} {p1 : Nat} (hp1 : p1 < 58 ∧ p1 % 2 = 0) {g : hG} {e : hE} (H :
    zbr ((g.1 1046 22) = 0)
    (zbr ((g.1 1046 18) = 1)
      (hci d 4 [.ref p1] g e (fun x3 g1 e2 =>
          zbr (x3 = ((g1.1 1046 21) - (g1.1 1046 20)))
          (hwi d zm_X8_is k X 39 [(0, .ref 1046), (1, .ref p1), (2, .int 1), (3, .int 0)] g1 e2)
          (hwi d zm_X8_is k X 39 [(0, .ref 1046), (1, .ref p1), (2, .int 0), (3, .int 0)] g1 e2)) X)
      (hwi d zm_X8_is k X 39 [(0, .ref 1046), (1, .ref p1), (2, .int 0), (3, .int 0)] g e))
    (hwi d zm_X8_is k X 39 [(0, .ref 1046), (1, .ref p1), (2, .int 0), (3, .int 0)] g e)) : hci (d + 1) 229 [.ref 1046, .ref p1] g e k X := by
  refine hent (M := zm_X8_is) (show hT 1046 = some (.inr _) from rfl) rfl rfl rfl rfl rfl ?_
  refine zq_aload (pc' := 1) rfl rfl rfl rfl ?_
  refine zq_getI (pc' := 4) rfl rfl rfl (hp_gI rfl) ?_
  refine zq_ifne (pc' := 7) rfl rfl rfl rfl (And.intro (fun c => ?_) (fun c => ?_))
  · have H := H.1 c
    refine zq_aload (pc' := 8) rfl rfl rfl rfl ?_
    refine zq_getI (pc' := 11) rfl rfl rfl (hp_gI rfl) ?_
    refine zq_ipush (pc' := 12) rfl rfl rfl ?_
    refine zq_icne (pc' := 15) rfl rfl rfl rfl (And.intro (fun c => ?_) (fun c => ?_))
    · have H := H.1 c
      refine zq_aload (pc' := 16) rfl rfl rfl rfl ?_
      refine hq_calli (pc' := 19) rfl rfl rfl rfl rfl rfl h_Xi ?_
      refine hmonoi H ?_
      intro x3 g1 e2 H
      refine zq_aload (pc' := 20) rfl rfl rfl rfl ?_
      refine zq_getI (pc' := 23) rfl rfl rfl (hp_gI rfl) ?_
      refine zq_aload (pc' := 24) rfl rfl rfl rfl ?_
      refine zq_getI (pc' := 27) rfl rfl rfl (hp_gI rfl) ?_
      refine zq_isub (pc' := 28) rfl rfl rfl ?_
      refine zq_icne (pc' := 31) rfl rfl rfl rfl (And.intro (fun c => ?_) (fun c => ?_))
      · have H := H.1 c
        refine zq_ipush (pc' := 32) rfl rfl rfl ?_
        refine zq_goto (pc' := 36) rfl rfl rfl ?_
        refine zq_istore (pc' := 37) rfl rfl rfl ?_
        refine zq_ipush (pc' := 38) rfl rfl rfl ?_
        refine zq_istore_c (pc' := 39) rfl rfl ?_
        exact H
      · have H := H.2 c
        refine zq_ipush (pc' := 36) rfl rfl rfl ?_
        refine zq_istore (pc' := 37) rfl rfl rfl ?_
        refine zq_ipush (pc' := 38) rfl rfl rfl ?_
        refine zq_istore_c (pc' := 39) rfl rfl ?_
        exact H
    · have H := H.2 c
      refine zq_ipush (pc' := 36) rfl rfl rfl ?_
      refine zq_istore (pc' := 37) rfl rfl rfl ?_
      refine zq_ipush (pc' := 38) rfl rfl rfl ?_
      refine zq_istore_c (pc' := 39) rfl rfl ?_
      exact H
  · have H := H.2 c
    refine zq_ipush (pc' := 36) rfl rfl rfl ?_
    refine zq_istore (pc' := 37) rfl rfl rfl ?_
    refine zq_ipush (pc' := 38) rfl rfl rfl ?_
    refine zq_istore_c (pc' := 39) rfl rfl ?_
    exact H
theorem zh_X8_is_39 {d : Nat} {k : Int32 → hG → hE → Prop} {X : Nat → hG → hE → Prop} {l1 : Nat} (hl1 : l1 < 58 ∧ l1 % 2 = 0) {l2 : Int32} {l3 : Int32} {g : hG} {e : hE} (H :
    zbr (l2 = 0)
    ((l2 = 0 ∨ l2 = 1) ∧ k l2 g e)
    (hci d 4 [.ref l1] g e (fun x3 g1 e2 =>
        zbr (x3 ≤ l3)
        ((l2 = 0 ∨ l2 = 1) ∧ k l2 g1 e2)
        (hci d 5 [.ref l1, .int l3] g1 e2 (fun x6 g4 e5 =>
            hin ((g4.1 1046 20) + l3) 700 ∧
            zbr (x6 = (g4.1 1059 ((g4.1 1046 20) + l3).toNatClampNeg))
            (hwi d zm_X8_is k X 39 [(0, .ref 1046), (1, .ref l1), (2, .int 1), (3, .int (l3 + 1))] g4 e5)
            (hwi d zm_X8_is k X 39 [(0, .ref 1046), (1, .ref l1), (2, .int 0), (3, .int (l3 + 1))] g4 e5)) X)) X)) : hwi d zm_X8_is k X 39 [(0, .ref 1046), (1, .ref l1), (2, .int l2), (3, .int l3)] g e := by
  refine zq_iload (pc' := 40) rfl rfl rfl rfl ?_
  refine zq_ifeq (pc' := 43) rfl rfl rfl rfl (And.intro (fun c => ?_) (fun c => ?_))
  · have H := H.1 c
    refine zq_iload (pc' := 83) rfl rfl rfl rfl ?_
    exact zq_iret rfl H.1 (Exists.intro _ (Exists.intro _ (And.intro rfl H.2)))
  · have H := H.2 c
    refine zq_iload (pc' := 44) rfl rfl rfl rfl ?_
    refine zq_aload (pc' := 45) rfl rfl rfl rfl ?_
    refine hq_calli (pc' := 48) rfl rfl rfl rfl rfl rfl h_Xi ?_
    refine hmonoi H ?_
    intro x3 g1 e2 H
    refine zq_icge (pc' := 51) rfl rfl rfl rfl (And.intro (fun c => ?_) (fun c => ?_))
    · have H := H.1 c
      refine zq_iload (pc' := 83) rfl rfl rfl rfl ?_
      exact zq_iret rfl H.1 (Exists.intro _ (Exists.intro _ (And.intro rfl H.2)))
    · have H := H.2 c
      refine zq_aload (pc' := 52) rfl rfl rfl rfl ?_
      refine zq_iload (pc' := 53) rfl rfl rfl rfl ?_
      refine hq_calli (pc' := 56) rfl rfl rfl rfl rfl rfl h_Xi ?_
      refine hmonoi H ?_
      intro x6 g4 e5 H
      refine zq_aload (pc' := 57) rfl rfl rfl rfl ?_
      refine zq_getR (pc' := 60) rfl rfl rfl (hp_gC rfl) ?_
      refine zq_aload (pc' := 61) rfl rfl rfl rfl ?_
      refine zq_getI (pc' := 64) rfl rfl rfl (hp_gI rfl) ?_
      refine zq_iload (pc' := 65) rfl rfl rfl rfl ?_
      refine zq_iadd (pc' := 66) rfl rfl rfl ?_
      obtain ⟨hi7, H⟩ := H
      refine zq_iald (pc' := 67) rfl rfl rfl (hp_ia rfl hi7) ?_
      refine zq_icne (pc' := 70) rfl rfl rfl rfl (And.intro (fun c => ?_) (fun c => ?_))
      · have H := H.1 c
        refine zq_ipush (pc' := 71) rfl rfl rfl ?_
        refine zq_goto (pc' := 75) rfl rfl rfl ?_
        refine zq_istore (pc' := 76) rfl rfl rfl ?_
        refine zq_iinc (pc' := 79) rfl rfl rfl rfl ?_
        refine zq_goto_c (pc' := 39) rfl rfl ?_
        exact H
      · have H := H.2 c
        refine zq_ipush (pc' := 75) rfl rfl rfl ?_
        refine zq_istore (pc' := 76) rfl rfl rfl ?_
        refine zq_iinc (pc' := 79) rfl rfl rfl rfl ?_
        refine zq_goto_c (pc' := 39) rfl rfl ?_
        exact H
theorem zh_X8_which {d : Nat} {k : Int32 → hG → hE → Prop} {X : Nat → hG → hE → Prop} {p1 np1 : Nat} (hp1 : hT p1 = some (.inl (4, np1))) {g : hG} {e : hE} (H :
    hwi d zm_X8_which k X 2 [(0, .ref 1046), (1, .ref p1), (2, .int 0)] g e) : hci (d + 1) 230 [.ref 1046, .ref p1] g e k X := by
  refine hent (M := zm_X8_which) (show hT 1046 = some (.inr _) from rfl) rfl rfl rfl rfl rfl ?_
  refine zq_ipush (pc' := 1) rfl rfl rfl ?_
  refine zq_istore_c (pc' := 2) rfl rfl ?_
  exact H
theorem zh_X8_which_2 {d : Nat} {k : Int32 → hG → hE → Prop} {X : Nat → hG → hE → Prop} {l1 nl1 : Nat} (hl1 : hT l1 = some (.inl (4, nl1))) {l2 : Int32} {g : hG} {e : hE} (H :
    zbr ((nI nl1) ≤ l2)
    (k (-1) g e)
    (∃ a2 : Nat, hin l2 nl1 ∧ hR l1 l2.toNatClampNeg = some a2 ∧ (a2 < 58 ∧ a2 % 2 = 0) ∧
      hci d 229 [.ref 1046, .ref a2] g e (fun x6 g4 e5 =>
        zbr (x6 = 0)
        (hwi d zm_X8_which k X 2 [(0, .ref 1046), (1, .ref l1), (2, .int (l2 + 1))] g4 e5)
        (k l2 g4 e5)) X)) : hwi d zm_X8_which k X 2 [(0, .ref 1046), (1, .ref l1), (2, .int l2)] g e := by
  refine zq_iload (pc' := 3) rfl rfl rfl rfl ?_
  refine zq_aload (pc' := 4) rfl rfl rfl rfl ?_
  refine zq_alen (pc' := 5) rfl rfl rfl (hp_al hl1 rfl) ?_
  refine zq_icge (pc' := 8) rfl rfl rfl rfl (And.intro (fun c => ?_) (fun c => ?_))
  · have H := H.1 c
    refine zq_ipushn (pc' := 27) rfl rfl rfl ?_
    exact zq_iret rfl trivial (Exists.intro _ (Exists.intro _ (And.intro rfl H)))
  · have H := H.2 c
    refine zq_aload (pc' := 9) rfl rfl rfl rfl ?_
    refine zq_aload (pc' := 10) rfl rfl rfl rfl ?_
    refine zq_iload (pc' := 11) rfl rfl rfl rfl ?_
    obtain ⟨a2, hi1, hx3, hya2, H⟩ := H
    refine zq_aald (pc' := 12) rfl rfl rfl (hp_aa hl1 (Or.inr rfl) hi1 hx3) ?_
    refine hq_calli (pc' := 15) rfl rfl rfl rfl rfl rfl h_Xi ?_
    refine hmonoi H ?_
    intro x6 g4 e5 H
    refine zq_ifeq (pc' := 18) rfl rfl rfl rfl (And.intro (fun c => ?_) (fun c => ?_))
    · have H := H.1 c
      refine zq_iinc (pc' := 23) rfl rfl rfl rfl ?_
      refine zq_goto_c (pc' := 2) rfl rfl ?_
      exact H
    · have H := H.2 c
      refine zq_iload (pc' := 19) rfl rfl rfl rfl ?_
      exact zq_iret rfl trivial (Exists.intro _ (Exists.intro _ (And.intro rfl H)))
theorem zh_X8_isMarked {d : Nat} {k : Int32 → hG → hE → Prop} {X : Nat → hG → hE → Prop} {p1 : Int32} {g : hG} {e : hE} (H :
    zbr ((g.1 1046 22) = 0)
    (zbr ((g.1 1046 18) = 3)
      (hin (g.1 1046 20) 700 ∧
        zbr ((g.1 1059 (g.1 1046 20).toNatClampNeg) = p1)
        (k 1 g e)
        (k 0 g e))
      (k 0 g e))
    (k 0 g e)) : hci (d + 1) 231 [.ref 1046, .int p1] g e k X := by
  refine hent (M := zm_X8_isMarked) (show hT 1046 = some (.inr _) from rfl) rfl rfl rfl rfl rfl ?_
  refine zq_aload (pc' := 1) rfl rfl rfl rfl ?_
  refine zq_getI (pc' := 4) rfl rfl rfl (hp_gI rfl) ?_
  refine zq_ifne (pc' := 7) rfl rfl rfl rfl (And.intro (fun c => ?_) (fun c => ?_))
  · have H := H.1 c
    refine zq_aload (pc' := 8) rfl rfl rfl rfl ?_
    refine zq_getI (pc' := 11) rfl rfl rfl (hp_gI rfl) ?_
    refine zq_ipush (pc' := 12) rfl rfl rfl ?_
    refine zq_icne (pc' := 15) rfl rfl rfl rfl (And.intro (fun c => ?_) (fun c => ?_))
    · have H := H.1 c
      refine zq_aload (pc' := 16) rfl rfl rfl rfl ?_
      refine zq_getR (pc' := 19) rfl rfl rfl (hp_gC rfl) ?_
      refine zq_aload (pc' := 20) rfl rfl rfl rfl ?_
      refine zq_getI (pc' := 23) rfl rfl rfl (hp_gI rfl) ?_
      obtain ⟨hi1, H⟩ := H
      refine zq_iald (pc' := 24) rfl rfl rfl (hp_ia rfl hi1) ?_
      refine zq_iload (pc' := 25) rfl rfl rfl rfl ?_
      refine zq_icne (pc' := 28) rfl rfl rfl rfl (And.intro (fun c => ?_) (fun c => ?_))
      · have H := H.1 c
        refine zq_ipush (pc' := 29) rfl rfl rfl ?_
        refine zq_goto (pc' := 33) rfl rfl rfl ?_
        exact zq_iret rfl (Or.inr rfl) (Exists.intro _ (Exists.intro _ (And.intro rfl H)))
      · have H := H.2 c
        refine zq_ipush (pc' := 33) rfl rfl rfl ?_
        exact zq_iret rfl (Or.inl rfl) (Exists.intro _ (Exists.intro _ (And.intro rfl H)))
    · have H := H.2 c
      refine zq_ipush (pc' := 33) rfl rfl rfl ?_
      exact zq_iret rfl (Or.inl rfl) (Exists.intro _ (Exists.intro _ (And.intro rfl H)))
  · have H := H.2 c
    refine zq_ipush (pc' := 33) rfl rfl rfl ?_
    exact zq_iret rfl (Or.inl rfl) (Exists.intro _ (Exists.intro _ (And.intro rfl H)))
theorem zh_X8_mark {d : Nat} {k : hG → hE → Prop} {X : Nat → hG → hE → Prop} {p1 : Int32} {g : hG} {e : hE} (H :
    zbr ((g.1 1046 22) = 0)
    (hci d 231 [.ref 1046, .int p1] g e (fun x3 g1 e2 =>
        zbr (x3 = 0)
        (hcv d 228 [.ref 1046, .int 1] g1 e2 (fun g4 e5 =>
            zbr ((g4.1 1046 22) = 0)
            (hcv d 227 [.ref 1046] g4 e5 (fun g6 e7 =>
                k g6 e7) X)
            (k g4 e5)) X)
        (zbr ((g1.1 1046 22) = 0)
          (hcv d 227 [.ref 1046] g1 e2 (fun g8 e9 =>
              k g8 e9) X)
          (k g1 e2))) X)
    (zbr ((g.1 1046 22) = 0)
      (hcv d 227 [.ref 1046] g e (fun g10 e11 =>
          k g10 e11) X)
      (k g e))) : hcv (d + 1) 232 [.ref 1046, .int p1] g e k X := by
  refine hent (M := zm_X8_mark) (show hT 1046 = some (.inr _) from rfl) rfl rfl rfl rfl rfl ?_
  refine zq_aload (pc' := 1) rfl rfl rfl rfl ?_
  refine zq_getI (pc' := 4) rfl rfl rfl (hp_gI rfl) ?_
  refine zq_ifne (pc' := 7) rfl rfl rfl rfl (And.intro (fun c => ?_) (fun c => ?_))
  · have H := H.1 c
    refine zq_aload (pc' := 8) rfl rfl rfl rfl ?_
    refine zq_iload (pc' := 9) rfl rfl rfl rfl ?_
    refine hq_calli (pc' := 12) rfl rfl rfl rfl rfl rfl h_Xv ?_
    refine hmonoi H ?_
    intro x3 g1 e2 H
    refine zq_ifne (pc' := 15) rfl rfl rfl rfl (And.intro (fun c => ?_) (fun c => ?_))
    · have H := H.1 c
      refine zq_aload (pc' := 16) rfl rfl rfl rfl ?_
      refine zq_ipush (pc' := 17) rfl rfl rfl ?_
      refine hq_callv (pc' := 20) rfl rfl rfl rfl rfl rfl h_Xv ?_
      refine hmonov H ?_
      intro g4 e5 H
      refine zq_aload (pc' := 21) rfl rfl rfl rfl ?_
      refine zq_getI (pc' := 24) rfl rfl rfl (hp_gI rfl) ?_
      refine zq_ifne (pc' := 27) rfl rfl rfl rfl (And.intro (fun c => ?_) (fun c => ?_))
      · have H := H.1 c
        refine zq_aload (pc' := 28) rfl rfl rfl rfl ?_
        refine hq_callv (pc' := 31) rfl rfl rfl rfl rfl rfl h_Xv ?_
        refine hmonov H ?_
        intro g6 e7 H
        exact zq_vret rfl (Exists.intro _ (Exists.intro _ (And.intro rfl H)))
      · have H := H.2 c
        exact zq_vret rfl (Exists.intro _ (Exists.intro _ (And.intro rfl H)))
    · have H := H.2 c
      refine zq_aload (pc' := 21) rfl rfl rfl rfl ?_
      refine zq_getI (pc' := 24) rfl rfl rfl (hp_gI rfl) ?_
      refine zq_ifne (pc' := 27) rfl rfl rfl rfl (And.intro (fun c => ?_) (fun c => ?_))
      · have H := H.1 c
        refine zq_aload (pc' := 28) rfl rfl rfl rfl ?_
        refine hq_callv (pc' := 31) rfl rfl rfl rfl rfl rfl h_Xv ?_
        refine hmonov H ?_
        intro g8 e9 H
        exact zq_vret rfl (Exists.intro _ (Exists.intro _ (And.intro rfl H)))
      · have H := H.2 c
        exact zq_vret rfl (Exists.intro _ (Exists.intro _ (And.intro rfl H)))
  · have H := H.2 c
    refine zq_aload (pc' := 21) rfl rfl rfl rfl ?_
    refine zq_getI (pc' := 24) rfl rfl rfl (hp_gI rfl) ?_
    refine zq_ifne (pc' := 27) rfl rfl rfl rfl (And.intro (fun c => ?_) (fun c => ?_))
    · have H := H.1 c
      refine zq_aload (pc' := 28) rfl rfl rfl rfl ?_
      refine hq_callv (pc' := 31) rfl rfl rfl rfl rfl rfl h_Xv ?_
      refine hmonov H ?_
      intro g10 e11 H
      exact zq_vret rfl (Exists.intro _ (Exists.intro _ (And.intro rfl H)))
    · have H := H.2 c
      exact zq_vret rfl (Exists.intro _ (Exists.intro _ (And.intro rfl H)))
theorem zh_X8_readNumber {d : Nat} {k : Int32 → hG → hE → Prop} {X : Nat → hG → hE → Prop} {p1 : Int32} {p2 : Int32} {g : hG} {e : hE} (H :
    zbr ((g.1 1046 22) = 0)
    (zbr ((g.1 1046 18) = 2)
      (zbr (4 < ((g.1 1046 21) - (g.1 1046 20)))
        (hcv d 228 [.ref 1046, .int 2] g e (fun g1 e2 =>
            hwi d zm_X8_readNumber k X 59 [(0, .ref 1046)] g1 e2) X)
        (zbr ((g.1 1046 19) < p1)
          (hcv d 228 [.ref 1046, .int 2] g e (fun g3 e4 =>
              hwi d zm_X8_readNumber k X 59 [(0, .ref 1046)] g3 e4) X)
          (zbr ((g.1 1046 19) ≤ p2)
            (hwi d zm_X8_readNumber k X 59 [(0, .ref 1046)] g e)
            (hcv d 228 [.ref 1046, .int 2] g e (fun g5 e6 =>
                hwi d zm_X8_readNumber k X 59 [(0, .ref 1046)] g5 e6) X))))
      (hcv d 228 [.ref 1046, .int 1] g e (fun g7 e8 =>
          hwi d zm_X8_readNumber k X 59 [(0, .ref 1046)] g7 e8) X))
    (k 0 g e)) : hci (d + 1) 233 [.ref 1046, .int p1, .int p2] g e k X := by
  refine hent (M := zm_X8_readNumber) (show hT 1046 = some (.inr _) from rfl) rfl rfl rfl rfl rfl ?_
  refine zq_aload (pc' := 1) rfl rfl rfl rfl ?_
  refine zq_getI (pc' := 4) rfl rfl rfl (hp_gI rfl) ?_
  refine zq_ifeq (pc' := 7) rfl rfl rfl rfl (And.intro (fun c => ?_) (fun c => ?_))
  · have H := H.1 c
    refine zq_aload (pc' := 10) rfl rfl rfl rfl ?_
    refine zq_getI (pc' := 13) rfl rfl rfl (hp_gI rfl) ?_
    refine zq_ipush (pc' := 14) rfl rfl rfl ?_
    refine zq_iceq (pc' := 17) rfl rfl rfl rfl (And.intro (fun c => ?_) (fun c => ?_))
    · have H := H.1 c
      refine zq_aload (pc' := 26) rfl rfl rfl rfl ?_
      refine zq_getI (pc' := 29) rfl rfl rfl (hp_gI rfl) ?_
      refine zq_aload (pc' := 30) rfl rfl rfl rfl ?_
      refine zq_getI (pc' := 33) rfl rfl rfl (hp_gI rfl) ?_
      refine zq_isub (pc' := 34) rfl rfl rfl ?_
      refine zq_ipush (pc' := 35) rfl rfl rfl ?_
      refine zq_icgt (pc' := 38) rfl rfl rfl rfl (And.intro (fun c => ?_) (fun c => ?_))
      · have H := H.1 c
        refine zq_aload (pc' := 55) rfl rfl rfl rfl ?_
        refine zq_ipush (pc' := 56) rfl rfl rfl ?_
        refine hq_callv_c (pc' := 59) rfl rfl rfl rfl rfl h_Xi ?_
        refine hmonov H ?_
        intro g1 e2 H
        exact H
      · have H := H.2 c
        refine zq_aload (pc' := 39) rfl rfl rfl rfl ?_
        refine zq_getI (pc' := 42) rfl rfl rfl (hp_gI rfl) ?_
        refine zq_iload (pc' := 43) rfl rfl rfl rfl ?_
        refine zq_iclt (pc' := 46) rfl rfl rfl rfl (And.intro (fun c => ?_) (fun c => ?_))
        · have H := H.1 c
          refine zq_aload (pc' := 55) rfl rfl rfl rfl ?_
          refine zq_ipush (pc' := 56) rfl rfl rfl ?_
          refine hq_callv_c (pc' := 59) rfl rfl rfl rfl rfl h_Xi ?_
          refine hmonov H ?_
          intro g3 e4 H
          exact H
        · have H := H.2 c
          refine zq_aload (pc' := 47) rfl rfl rfl rfl ?_
          refine zq_getI (pc' := 50) rfl rfl rfl (hp_gI rfl) ?_
          refine zq_iload (pc' := 51) rfl rfl rfl rfl ?_
          refine zq_icle_c (pc' := 54) (lt := [(0, .ref 1046)]) (lf := [(0, .ref 1046), (1, .int p1), (2, .int p2)]) rfl rfl rfl rfl (And.intro (fun c => ?_) (fun c => ?_))
          · have H := H.1 c
            exact H
          · have H := H.2 c
            refine zq_aload (pc' := 55) rfl rfl rfl rfl ?_
            refine zq_ipush (pc' := 56) rfl rfl rfl ?_
            refine hq_callv_c (pc' := 59) rfl rfl rfl rfl rfl h_Xi ?_
            refine hmonov H ?_
            intro g5 e6 H
            exact H
    · have H := H.2 c
      refine zq_aload (pc' := 18) rfl rfl rfl rfl ?_
      refine zq_ipush (pc' := 19) rfl rfl rfl ?_
      refine hq_callv (pc' := 22) rfl rfl rfl rfl rfl rfl h_Xi ?_
      refine hmonov H ?_
      intro g7 e8 H
      refine zq_goto_c (pc' := 59) rfl rfl ?_
      exact H
  · have H := H.2 c
    refine zq_ipush (pc' := 8) rfl rfl rfl ?_
    exact zq_iret rfl trivial (Exists.intro _ (Exists.intro _ (And.intro rfl H)))
theorem zh_X8_readNumber_59 {d : Nat} {k : Int32 → hG → hE → Prop} {X : Nat → hG → hE → Prop}  {g : hG} {e : hE} (H :
    zbr ((g.1 1046 22) = 0)
    (zbr ((g.1 1046 22) = 0)
      (hcv d 227 [.ref 1046] g e (fun g1 e2 =>
          k (g.1 1046 19) g1 e2) X)
      (k (g.1 1046 19) g e))
    (zbr ((g.1 1046 22) = 0)
      (hcv d 227 [.ref 1046] g e (fun g3 e4 =>
          k 0 g3 e4) X)
      (k 0 g e))) : hwi d zm_X8_readNumber k X 59 [(0, .ref 1046)] g e := by
  refine zq_aload (pc' := 60) rfl rfl rfl rfl ?_
  refine zq_getI (pc' := 63) rfl rfl rfl (hp_gI rfl) ?_
  refine zq_ifne (pc' := 66) rfl rfl rfl rfl (And.intro (fun c => ?_) (fun c => ?_))
  · have H := H.1 c
    refine zq_aload (pc' := 67) rfl rfl rfl rfl ?_
    refine zq_getI (pc' := 70) rfl rfl rfl (hp_gI rfl) ?_
    refine zq_goto (pc' := 74) rfl rfl rfl ?_
    refine zq_istore (pc' := 75) rfl rfl rfl ?_
    refine zq_aload (pc' := 76) rfl rfl rfl rfl ?_
    refine zq_getI (pc' := 79) rfl rfl rfl (hp_gI rfl) ?_
    refine zq_ifne (pc' := 82) rfl rfl rfl rfl (And.intro (fun c => ?_) (fun c => ?_))
    · have H := H.1 c
      refine zq_aload (pc' := 83) rfl rfl rfl rfl ?_
      refine hq_callv (pc' := 86) rfl rfl rfl rfl rfl rfl h_Xi ?_
      refine hmonov H ?_
      intro g1 e2 H
      refine zq_iload (pc' := 87) rfl rfl rfl rfl ?_
      exact zq_iret rfl trivial (Exists.intro _ (Exists.intro _ (And.intro rfl H)))
    · have H := H.2 c
      refine zq_iload (pc' := 87) rfl rfl rfl rfl ?_
      exact zq_iret rfl trivial (Exists.intro _ (Exists.intro _ (And.intro rfl H)))
  · have H := H.2 c
    refine zq_ipush (pc' := 74) rfl rfl rfl ?_
    refine zq_istore (pc' := 75) rfl rfl rfl ?_
    refine zq_aload (pc' := 76) rfl rfl rfl rfl ?_
    refine zq_getI (pc' := 79) rfl rfl rfl (hp_gI rfl) ?_
    refine zq_ifne (pc' := 82) rfl rfl rfl rfl (And.intro (fun c => ?_) (fun c => ?_))
    · have H := H.1 c
      refine zq_aload (pc' := 83) rfl rfl rfl rfl ?_
      refine hq_callv (pc' := 86) rfl rfl rfl rfl rfl rfl h_Xi ?_
      refine hmonov H ?_
      intro g3 e4 H
      refine zq_iload (pc' := 87) rfl rfl rfl rfl ?_
      exact zq_iret rfl trivial (Exists.intro _ (Exists.intro _ (And.intro rfl H)))
    · have H := H.2 c
      refine zq_iload (pc' := 87) rfl rfl rfl rfl ?_
      exact zq_iret rfl trivial (Exists.intro _ (Exists.intro _ (And.intro rfl H)))
theorem zh_X8_lay {d : Nat} {k : hG → hE → Prop} {X : Nat → hG → hE → Prop} {p1 : Int32} {g : hG} {e : hE} (H :
    zbr ((g.1 1046 22) = 0)
    (zbr ((g.1 1046 25) = 0)
      (zbr ((g.1 1046 25) = 0)
        (hin (4 + 2 : Int32) 8 ∧
          hin (700 + (g.1 1050 (4 + 2 : Int32).toNatClampNeg)) 1400 ∧
          hin (4 + 2 : Int32) 8 ∧
          hin (4 + 2 : Int32) 8 ∧
          ∀ g5, g5 = sI (sI g 1056 (700 + (g.1 1050 (4 + 2 : Int32).toNatClampNeg)).toNatClampNeg p1) 1050 (4 + 2 : Int32).toNatClampNeg (((sI g 1056 (700 + (g.1 1050 (4 + 2 : Int32).toNatClampNeg)).toNatClampNeg p1).1 1050 (4 + 2 : Int32).toNatClampNeg) + 1) →
          k g5 e)
        (hin (4 + 2 : Int32) 8 ∧
          hin (700 + (g.1 1050 (4 + 2 : Int32).toNatClampNeg)) 1400 ∧
          hin (4 + 2 : Int32) 8 ∧
          hin (4 + 2 : Int32) 8 ∧
          ∀ g10, g10 = sI (sI g 1057 (700 + (g.1 1050 (4 + 2 : Int32).toNatClampNeg)).toNatClampNeg p1) 1050 (4 + 2 : Int32).toNatClampNeg (((sI g 1057 (700 + (g.1 1050 (4 + 2 : Int32).toNatClampNeg)).toNatClampNeg p1).1 1050 (4 + 2 : Int32).toNatClampNeg) + 1) →
          k g10 e))
      (zbr ((g.1 1046 25) = 0)
        (hin (4 + 3 : Int32) 8 ∧
          hin (700 + (g.1 1050 (4 + 3 : Int32).toNatClampNeg)) 1400 ∧
          hin (4 + 3 : Int32) 8 ∧
          hin (4 + 3 : Int32) 8 ∧
          ∀ g15, g15 = sI (sI g 1056 (700 + (g.1 1050 (4 + 3 : Int32).toNatClampNeg)).toNatClampNeg p1) 1050 (4 + 3 : Int32).toNatClampNeg (((sI g 1056 (700 + (g.1 1050 (4 + 3 : Int32).toNatClampNeg)).toNatClampNeg p1).1 1050 (4 + 3 : Int32).toNatClampNeg) + 1) →
          k g15 e)
        (hin (4 + 3 : Int32) 8 ∧
          hin (700 + (g.1 1050 (4 + 3 : Int32).toNatClampNeg)) 1400 ∧
          hin (4 + 3 : Int32) 8 ∧
          hin (4 + 3 : Int32) 8 ∧
          ∀ g20, g20 = sI (sI g 1057 (700 + (g.1 1050 (4 + 3 : Int32).toNatClampNeg)).toNatClampNeg p1) 1050 (4 + 3 : Int32).toNatClampNeg (((sI g 1057 (700 + (g.1 1050 (4 + 3 : Int32).toNatClampNeg)).toNatClampNeg p1).1 1050 (4 + 3 : Int32).toNatClampNeg) + 1) →
          k g20 e)))
    (k g e)) : hcv (d + 1) 234 [.ref 1046, .int p1] g e k X := by
  refine hent (M := zm_X8_lay) (show hT 1046 = some (.inr _) from rfl) rfl rfl rfl rfl rfl ?_
  refine zq_aload (pc' := 1) rfl rfl rfl rfl ?_
  refine zq_getI (pc' := 4) rfl rfl rfl (hp_gI rfl) ?_
  refine zq_ifeq (pc' := 7) rfl rfl rfl rfl (And.intro (fun c => ?_) (fun c => ?_))
  · have H := H.1 c
    refine zq_ipush (pc' := 9) rfl rfl rfl ?_
    refine zq_aload (pc' := 10) rfl rfl rfl rfl ?_
    refine zq_getI (pc' := 13) rfl rfl rfl (hp_gI rfl) ?_
    refine zq_ifeq (pc' := 16) rfl rfl rfl rfl (And.intro (fun c => ?_) (fun c => ?_))
    · have H := H.1 c
      refine zq_ipush (pc' := 21) rfl rfl rfl ?_
      refine zq_iadd (pc' := 22) rfl rfl rfl ?_
      refine zq_istore (pc' := 23) rfl rfl rfl ?_
      refine zq_aload (pc' := 24) rfl rfl rfl rfl ?_
      refine zq_getI (pc' := 27) rfl rfl rfl (hp_gI rfl) ?_
      refine zq_ifeq (pc' := 30) rfl rfl rfl rfl (And.intro (fun c => ?_) (fun c => ?_))
      · have H := H.1 c
        refine zq_aload (pc' := 38) rfl rfl rfl rfl ?_
        refine zq_getR (pc' := 41) rfl rfl rfl (hp_gC rfl) ?_
        refine zq_astore (pc' := 42) rfl rfl rfl ?_
        refine zq_aload (pc' := 43) rfl rfl rfl rfl ?_
        refine zq_ipush (pc' := 46) rfl rfl rfl ?_
        refine zq_aload (pc' := 47) rfl rfl rfl rfl ?_
        refine zq_getR (pc' := 50) rfl rfl rfl (hp_gC rfl) ?_
        refine zq_iload (pc' := 51) rfl rfl rfl rfl ?_
        obtain ⟨hi1, H⟩ := H
        refine zq_iald (pc' := 52) rfl rfl rfl (hp_ia rfl hi1) ?_
        refine zq_iadd (pc' := 53) rfl rfl rfl ?_
        refine zq_iload (pc' := 54) rfl rfl rfl rfl ?_
        obtain ⟨hi2, H⟩ := H
        refine zq_iast (pc' := 55) rfl rfl rfl (hp_is rfl hi2) ?_
        refine zq_aload (pc' := 56) rfl rfl rfl rfl ?_
        refine zq_getR (pc' := 59) rfl rfl rfl (hp_gC rfl) ?_
        refine zq_iload (pc' := 60) rfl rfl rfl rfl ?_
        refine zq_dup2 (pc' := 61) rfl rfl rfl rfl rfl ?_
        obtain ⟨hi3, H⟩ := H
        refine zq_iald (pc' := 62) rfl rfl rfl (hp_ia rfl hi3) ?_
        refine zq_ipush (pc' := 63) rfl rfl rfl ?_
        refine zq_iadd (pc' := 64) rfl rfl rfl ?_
        obtain ⟨hi4, H⟩ := H
        refine zq_iast (pc' := 65) rfl rfl rfl (hp_is rfl hi4) ?_
        have H := H _ rfl
        exact zq_vret rfl (Exists.intro _ (Exists.intro _ (And.intro rfl H)))
      · have H := H.2 c
        refine zq_aload (pc' := 31) rfl rfl rfl rfl ?_
        refine zq_getR (pc' := 34) rfl rfl rfl (hp_gC rfl) ?_
        refine zq_goto (pc' := 41) rfl rfl rfl ?_
        refine zq_astore (pc' := 42) rfl rfl rfl ?_
        refine zq_aload (pc' := 43) rfl rfl rfl rfl ?_
        refine zq_ipush (pc' := 46) rfl rfl rfl ?_
        refine zq_aload (pc' := 47) rfl rfl rfl rfl ?_
        refine zq_getR (pc' := 50) rfl rfl rfl (hp_gC rfl) ?_
        refine zq_iload (pc' := 51) rfl rfl rfl rfl ?_
        obtain ⟨hi6, H⟩ := H
        refine zq_iald (pc' := 52) rfl rfl rfl (hp_ia rfl hi6) ?_
        refine zq_iadd (pc' := 53) rfl rfl rfl ?_
        refine zq_iload (pc' := 54) rfl rfl rfl rfl ?_
        obtain ⟨hi7, H⟩ := H
        refine zq_iast (pc' := 55) rfl rfl rfl (hp_is rfl hi7) ?_
        refine zq_aload (pc' := 56) rfl rfl rfl rfl ?_
        refine zq_getR (pc' := 59) rfl rfl rfl (hp_gC rfl) ?_
        refine zq_iload (pc' := 60) rfl rfl rfl rfl ?_
        refine zq_dup2 (pc' := 61) rfl rfl rfl rfl rfl ?_
        obtain ⟨hi8, H⟩ := H
        refine zq_iald (pc' := 62) rfl rfl rfl (hp_ia rfl hi8) ?_
        refine zq_ipush (pc' := 63) rfl rfl rfl ?_
        refine zq_iadd (pc' := 64) rfl rfl rfl ?_
        obtain ⟨hi9, H⟩ := H
        refine zq_iast (pc' := 65) rfl rfl rfl (hp_is rfl hi9) ?_
        have H := H _ rfl
        exact zq_vret rfl (Exists.intro _ (Exists.intro _ (And.intro rfl H)))
    · have H := H.2 c
      refine zq_ipush (pc' := 17) rfl rfl rfl ?_
      refine zq_goto (pc' := 21) rfl rfl rfl ?_
      refine zq_iadd (pc' := 22) rfl rfl rfl ?_
      refine zq_istore (pc' := 23) rfl rfl rfl ?_
      refine zq_aload (pc' := 24) rfl rfl rfl rfl ?_
      refine zq_getI (pc' := 27) rfl rfl rfl (hp_gI rfl) ?_
      refine zq_ifeq (pc' := 30) rfl rfl rfl rfl (And.intro (fun c => ?_) (fun c => ?_))
      · have H := H.1 c
        refine zq_aload (pc' := 38) rfl rfl rfl rfl ?_
        refine zq_getR (pc' := 41) rfl rfl rfl (hp_gC rfl) ?_
        refine zq_astore (pc' := 42) rfl rfl rfl ?_
        refine zq_aload (pc' := 43) rfl rfl rfl rfl ?_
        refine zq_ipush (pc' := 46) rfl rfl rfl ?_
        refine zq_aload (pc' := 47) rfl rfl rfl rfl ?_
        refine zq_getR (pc' := 50) rfl rfl rfl (hp_gC rfl) ?_
        refine zq_iload (pc' := 51) rfl rfl rfl rfl ?_
        obtain ⟨hi11, H⟩ := H
        refine zq_iald (pc' := 52) rfl rfl rfl (hp_ia rfl hi11) ?_
        refine zq_iadd (pc' := 53) rfl rfl rfl ?_
        refine zq_iload (pc' := 54) rfl rfl rfl rfl ?_
        obtain ⟨hi12, H⟩ := H
        refine zq_iast (pc' := 55) rfl rfl rfl (hp_is rfl hi12) ?_
        refine zq_aload (pc' := 56) rfl rfl rfl rfl ?_
        refine zq_getR (pc' := 59) rfl rfl rfl (hp_gC rfl) ?_
        refine zq_iload (pc' := 60) rfl rfl rfl rfl ?_
        refine zq_dup2 (pc' := 61) rfl rfl rfl rfl rfl ?_
        obtain ⟨hi13, H⟩ := H
        refine zq_iald (pc' := 62) rfl rfl rfl (hp_ia rfl hi13) ?_
        refine zq_ipush (pc' := 63) rfl rfl rfl ?_
        refine zq_iadd (pc' := 64) rfl rfl rfl ?_
        obtain ⟨hi14, H⟩ := H
        refine zq_iast (pc' := 65) rfl rfl rfl (hp_is rfl hi14) ?_
        have H := H _ rfl
        exact zq_vret rfl (Exists.intro _ (Exists.intro _ (And.intro rfl H)))
      · have H := H.2 c
        refine zq_aload (pc' := 31) rfl rfl rfl rfl ?_
        refine zq_getR (pc' := 34) rfl rfl rfl (hp_gC rfl) ?_
        refine zq_goto (pc' := 41) rfl rfl rfl ?_
        refine zq_astore (pc' := 42) rfl rfl rfl ?_
        refine zq_aload (pc' := 43) rfl rfl rfl rfl ?_
        refine zq_ipush (pc' := 46) rfl rfl rfl ?_
        refine zq_aload (pc' := 47) rfl rfl rfl rfl ?_
        refine zq_getR (pc' := 50) rfl rfl rfl (hp_gC rfl) ?_
        refine zq_iload (pc' := 51) rfl rfl rfl rfl ?_
        obtain ⟨hi16, H⟩ := H
        refine zq_iald (pc' := 52) rfl rfl rfl (hp_ia rfl hi16) ?_
        refine zq_iadd (pc' := 53) rfl rfl rfl ?_
        refine zq_iload (pc' := 54) rfl rfl rfl rfl ?_
        obtain ⟨hi17, H⟩ := H
        refine zq_iast (pc' := 55) rfl rfl rfl (hp_is rfl hi17) ?_
        refine zq_aload (pc' := 56) rfl rfl rfl rfl ?_
        refine zq_getR (pc' := 59) rfl rfl rfl (hp_gC rfl) ?_
        refine zq_iload (pc' := 60) rfl rfl rfl rfl ?_
        refine zq_dup2 (pc' := 61) rfl rfl rfl rfl rfl ?_
        obtain ⟨hi18, H⟩ := H
        refine zq_iald (pc' := 62) rfl rfl rfl (hp_ia rfl hi18) ?_
        refine zq_ipush (pc' := 63) rfl rfl rfl ?_
        refine zq_iadd (pc' := 64) rfl rfl rfl ?_
        obtain ⟨hi19, H⟩ := H
        refine zq_iast (pc' := 65) rfl rfl rfl (hp_is rfl hi19) ?_
        have H := H _ rfl
        exact zq_vret rfl (Exists.intro _ (Exists.intro _ (And.intro rfl H)))
  · have H := H.2 c
    exact zq_vret rfl (Exists.intro _ (Exists.intro _ (And.intro rfl H)))
theorem zh_X8_readPart {d : Nat} {k : hG → hE → Prop} {X : Nat → hG → hE → Prop} {p1 : Int32} {g : hG} {e : hE} (H :
    zbr ((g.1 1046 22) = 0)
    (zbr ((g.1 1046 18) = 2)
      (hci d 233 [.ref 1046, .int 0, .int 9999] g e (fun x3 g1 e2 =>
          hcv d 234 [.ref 1046, .int x3] g1 e2 (fun g4 e5 =>
            k g4 e5) X) X)
      (zbr ((g.1 1046 18) = 1)
        (hT (g.2.2 1046 3) = some (.inl (4, 5)) ∧ 
          hci d 230 [.ref 1046, .ref (g.2.2 1046 3)] g e (fun x9 g7 e8 =>
            zbr (x9 = (-1))
            (hcv d 228 [.ref 1046, .int 3] g7 e8 (fun g10 e11 =>
                hcv d 234 [.ref 1046, .int ((-1) - x9)] g10 e11 (fun g12 e13 =>
                  zbr ((g12.1 1046 22) = 0)
                  (hcv d 227 [.ref 1046] g12 e13 (fun g14 e15 =>
                      k g14 e15) X)
                  (k g12 e13)) X) X)
            (hcv d 234 [.ref 1046, .int ((-1) - x9)] g7 e8 (fun g16 e17 =>
                zbr ((g16.1 1046 22) = 0)
                (hcv d 227 [.ref 1046] g16 e17 (fun g18 e19 =>
                    k g18 e19) X)
                (k g16 e17)) X)) X)
        (hcv d 232 [.ref 1046, .int 40] g e (fun g20 e21 =>
            hcv d 240 [.ref 1046, .int (p1 + 1)] g20 e21 (fun g22 e23 =>
              hcv d 232 [.ref 1046, .int 41] g22 e23 (fun g24 e25 =>
                k g24 e25) X) X) X)))
    (k g e)) : hcv (d + 1) 235 [.ref 1046, .int p1] g e k X := by
  refine hent (M := zm_X8_readPart) (show hT 1046 = some (.inr _) from rfl) rfl rfl rfl rfl rfl ?_
  refine zq_aload (pc' := 1) rfl rfl rfl rfl ?_
  refine zq_getI (pc' := 4) rfl rfl rfl (hp_gI rfl) ?_
  refine zq_ifeq (pc' := 7) rfl rfl rfl rfl (And.intro (fun c => ?_) (fun c => ?_))
  · have H := H.1 c
    refine zq_aload (pc' := 9) rfl rfl rfl rfl ?_
    refine zq_getI (pc' := 12) rfl rfl rfl (hp_gI rfl) ?_
    refine zq_ipush (pc' := 13) rfl rfl rfl ?_
    refine zq_icne (pc' := 16) rfl rfl rfl rfl (And.intro (fun c => ?_) (fun c => ?_))
    · have H := H.1 c
      refine zq_aload (pc' := 17) rfl rfl rfl rfl ?_
      refine zq_aload (pc' := 18) rfl rfl rfl rfl ?_
      refine zq_ipush (pc' := 19) rfl rfl rfl ?_
      refine zq_ipush (pc' := 22) rfl rfl rfl ?_
      refine hq_calli (pc' := 25) rfl rfl rfl rfl rfl rfl h_Xv ?_
      refine hmonoi H ?_
      intro x3 g1 e2 H
      refine hq_callv (pc' := 28) rfl rfl rfl rfl rfl rfl h_Xv ?_
      refine hmonov H ?_
      intro g4 e5 H
      exact zq_vret rfl (Exists.intro _ (Exists.intro _ (And.intro rfl H)))
    · have H := H.2 c
      refine zq_aload (pc' := 30) rfl rfl rfl rfl ?_
      refine zq_getI (pc' := 33) rfl rfl rfl (hp_gI rfl) ?_
      refine zq_ipush (pc' := 34) rfl rfl rfl ?_
      refine zq_icne (pc' := 37) rfl rfl rfl rfl (And.intro (fun c => ?_) (fun c => ?_))
      · have H := H.1 c
        refine zq_aload (pc' := 38) rfl rfl rfl rfl ?_
        refine zq_aload (pc' := 39) rfl rfl rfl rfl ?_
        obtain ⟨hr6, H⟩ := H
        refine zq_getR (pc' := 42) rfl rfl rfl (hp_gR rfl) ?_
        refine hq_calli (pc' := 45) rfl rfl rfl rfl rfl rfl h_Xv ?_
        refine hmonoi H ?_
        intro x9 g7 e8 H
        refine zq_istore (pc' := 46) rfl rfl rfl ?_
        refine zq_iload (pc' := 47) rfl rfl rfl rfl ?_
        refine zq_ipushn (pc' := 48) rfl rfl rfl ?_
        refine zq_icne (pc' := 51) rfl rfl rfl rfl (And.intro (fun c => ?_) (fun c => ?_))
        · have H := H.1 c
          refine zq_aload (pc' := 52) rfl rfl rfl rfl ?_
          refine zq_ipush (pc' := 53) rfl rfl rfl ?_
          refine hq_callv (pc' := 56) rfl rfl rfl rfl rfl rfl h_Xv ?_
          refine hmonov H ?_
          intro g10 e11 H
          refine zq_aload (pc' := 57) rfl rfl rfl rfl ?_
          refine zq_ipushn (pc' := 58) rfl rfl rfl ?_
          refine zq_iload (pc' := 59) rfl rfl rfl rfl ?_
          refine zq_isub (pc' := 60) rfl rfl rfl ?_
          refine hq_callv (pc' := 63) rfl rfl rfl rfl rfl rfl h_Xv ?_
          refine hmonov H ?_
          intro g12 e13 H
          refine zq_aload (pc' := 64) rfl rfl rfl rfl ?_
          refine zq_getI (pc' := 67) rfl rfl rfl (hp_gI rfl) ?_
          refine zq_ifne (pc' := 70) rfl rfl rfl rfl (And.intro (fun c => ?_) (fun c => ?_))
          · have H := H.1 c
            refine zq_aload (pc' := 71) rfl rfl rfl rfl ?_
            refine hq_callv (pc' := 74) rfl rfl rfl rfl rfl rfl h_Xv ?_
            refine hmonov H ?_
            intro g14 e15 H
            exact zq_vret rfl (Exists.intro _ (Exists.intro _ (And.intro rfl H)))
          · have H := H.2 c
            exact zq_vret rfl (Exists.intro _ (Exists.intro _ (And.intro rfl H)))
        · have H := H.2 c
          refine zq_aload (pc' := 57) rfl rfl rfl rfl ?_
          refine zq_ipushn (pc' := 58) rfl rfl rfl ?_
          refine zq_iload (pc' := 59) rfl rfl rfl rfl ?_
          refine zq_isub (pc' := 60) rfl rfl rfl ?_
          refine hq_callv (pc' := 63) rfl rfl rfl rfl rfl rfl h_Xv ?_
          refine hmonov H ?_
          intro g16 e17 H
          refine zq_aload (pc' := 64) rfl rfl rfl rfl ?_
          refine zq_getI (pc' := 67) rfl rfl rfl (hp_gI rfl) ?_
          refine zq_ifne (pc' := 70) rfl rfl rfl rfl (And.intro (fun c => ?_) (fun c => ?_))
          · have H := H.1 c
            refine zq_aload (pc' := 71) rfl rfl rfl rfl ?_
            refine hq_callv (pc' := 74) rfl rfl rfl rfl rfl rfl h_Xv ?_
            refine hmonov H ?_
            intro g18 e19 H
            exact zq_vret rfl (Exists.intro _ (Exists.intro _ (And.intro rfl H)))
          · have H := H.2 c
            exact zq_vret rfl (Exists.intro _ (Exists.intro _ (And.intro rfl H)))
      · have H := H.2 c
        refine zq_aload (pc' := 76) rfl rfl rfl rfl ?_
        refine zq_ipush (pc' := 78) rfl rfl rfl ?_
        refine hq_callv (pc' := 81) rfl rfl rfl rfl rfl rfl h_Xv ?_
        refine hmonov H ?_
        intro g20 e21 H
        refine zq_aload (pc' := 82) rfl rfl rfl rfl ?_
        refine zq_iload (pc' := 83) rfl rfl rfl rfl ?_
        refine zq_ipush (pc' := 84) rfl rfl rfl ?_
        refine zq_iadd (pc' := 85) rfl rfl rfl ?_
        refine hq_callv (pc' := 88) rfl rfl rfl rfl rfl rfl h_Xv ?_
        refine hmonov H ?_
        intro g22 e23 H
        refine zq_aload (pc' := 89) rfl rfl rfl rfl ?_
        refine zq_ipush (pc' := 91) rfl rfl rfl ?_
        refine hq_callv (pc' := 94) rfl rfl rfl rfl rfl rfl h_Xv ?_
        refine hmonov H ?_
        intro g24 e25 H
        exact zq_vret rfl (Exists.intro _ (Exists.intro _ (And.intro rfl H)))
  · have H := H.2 c
    exact zq_vret rfl (Exists.intro _ (Exists.intro _ (And.intro rfl H)))
theorem zh_X8_readProduct {d : Nat} {k : hG → hE → Prop} {X : Nat → hG → hE → Prop} {p1 : Int32} {g : hG} {e : hE} (H :
    hcv d 235 [.ref 1046, .int p1] g e (fun g1 e2 =>
      hwv d zm_X8_readProduct k X 5 [(0, .ref 1046), (1, .int p1)] g1 e2) X) : hcv (d + 1) 236 [.ref 1046, .int p1] g e k X := by
  refine hent (M := zm_X8_readProduct) (show hT 1046 = some (.inr _) from rfl) rfl rfl rfl rfl rfl ?_
  refine zq_aload (pc' := 1) rfl rfl rfl rfl ?_
  refine zq_iload (pc' := 2) rfl rfl rfl rfl ?_
  refine hq_callv_c (pc' := 5) rfl rfl rfl rfl rfl h_Xv ?_
  refine hmonov H ?_
  intro g1 e2 H
  exact H
theorem zh_X8_readProduct_5 {d : Nat} {k : hG → hE → Prop} {X : Nat → hG → hE → Prop} {l1 : Int32} {g : hG} {e : hE} (H :
    hci d 231 [.ref 1046, .int 42] g e (fun x3 g1 e2 =>
      zbr (x3 = 0)
      (hci d 231 [.ref 1046, .int 47] g1 e2 (fun x6 g4 e5 =>
          zbr (x6 = 0)
          (k g4 e5)
          (hwv d zm_X8_readProduct k X 23 [(0, .ref 1046), (1, .int l1)] g4 e5)) X)
      (hwv d zm_X8_readProduct k X 23 [(0, .ref 1046), (1, .int l1)] g1 e2)) X) : hwv d zm_X8_readProduct k X 5 [(0, .ref 1046), (1, .int l1)] g e := by
  refine zq_aload (pc' := 6) rfl rfl rfl rfl ?_
  refine zq_ipush (pc' := 8) rfl rfl rfl ?_
  refine hq_calli (pc' := 11) rfl rfl rfl rfl rfl rfl h_Xv ?_
  refine hmonoi H ?_
  intro x3 g1 e2 H
  refine zq_ifne_c (pc' := 14) (lt := [(0, .ref 1046), (1, .int l1)]) (lf := [(0, .ref 1046), (1, .int l1)]) rfl rfl rfl rfl (And.intro (fun c => ?_) (fun c => ?_))
  · have H := H.1 c
    refine zq_aload (pc' := 15) rfl rfl rfl rfl ?_
    refine zq_ipush (pc' := 17) rfl rfl rfl ?_
    refine hq_calli (pc' := 20) rfl rfl rfl rfl rfl rfl h_Xv ?_
    refine hmonoi H ?_
    intro x6 g4 e5 H
    refine zq_ifeq_c (pc' := 23) (lt := [(0, .ref 1046), (1, .int l1)]) (lf := [(0, .ref 1046), (1, .int l1)]) rfl rfl rfl rfl (And.intro (fun c => ?_) (fun c => ?_))
    · have H := H.1 c
      exact zq_vret rfl (Exists.intro _ (Exists.intro _ (And.intro rfl H)))
    · have H := H.2 c
      exact H
  · have H := H.2 c
    exact H
theorem zh_X8_readProduct_23 {d : Nat} {k : hG → hE → Prop} {X : Nat → hG → hE → Prop} {l1 : Int32} {g : hG} {e : hE} (H :
    hci d 231 [.ref 1046, .int 42] g e (fun x3 g1 e2 =>
      zbr (x3 = 0)
      (hcv d 227 [.ref 1046] g1 e2 (fun g4 e5 =>
          hcv d 235 [.ref 1046, .int l1] g4 e5 (fun g6 e7 =>
            hcv d 234 [.ref 1046, .int (-23)] g6 e7 (fun g8 e9 =>
              hwv d zm_X8_readProduct k X 5 [(0, .ref 1046), (1, .int l1)] g8 e9) X) X) X)
      (hcv d 227 [.ref 1046] g1 e2 (fun g10 e11 =>
          hcv d 235 [.ref 1046, .int l1] g10 e11 (fun g12 e13 =>
            hcv d 234 [.ref 1046, .int (-22)] g12 e13 (fun g14 e15 =>
              hwv d zm_X8_readProduct k X 5 [(0, .ref 1046), (1, .int l1)] g14 e15) X) X) X)) X) : hwv d zm_X8_readProduct k X 23 [(0, .ref 1046), (1, .int l1)] g e := by
  refine zq_aload (pc' := 24) rfl rfl rfl rfl ?_
  refine zq_ipush (pc' := 26) rfl rfl rfl ?_
  refine hq_calli (pc' := 29) rfl rfl rfl rfl rfl rfl h_Xv ?_
  refine hmonoi H ?_
  intro x3 g1 e2 H
  refine zq_ifeq (pc' := 32) rfl rfl rfl rfl (And.intro (fun c => ?_) (fun c => ?_))
  · have H := H.1 c
    refine zq_ipushn (pc' := 39) rfl rfl rfl ?_
    refine zq_istore (pc' := 40) rfl rfl rfl ?_
    refine zq_aload (pc' := 41) rfl rfl rfl rfl ?_
    refine hq_callv (pc' := 44) rfl rfl rfl rfl rfl rfl h_Xv ?_
    refine hmonov H ?_
    intro g4 e5 H
    refine zq_aload (pc' := 45) rfl rfl rfl rfl ?_
    refine zq_iload (pc' := 46) rfl rfl rfl rfl ?_
    refine hq_callv (pc' := 49) rfl rfl rfl rfl rfl rfl h_Xv ?_
    refine hmonov H ?_
    intro g6 e7 H
    refine zq_aload (pc' := 50) rfl rfl rfl rfl ?_
    refine zq_iload (pc' := 51) rfl rfl rfl rfl ?_
    refine hq_callv (pc' := 54) rfl rfl rfl rfl rfl rfl h_Xv ?_
    refine hmonov H ?_
    intro g8 e9 H
    refine zq_goto_c (pc' := 5) rfl rfl ?_
    exact H
  · have H := H.2 c
    refine zq_ipushn (pc' := 34) rfl rfl rfl ?_
    refine zq_goto (pc' := 39) rfl rfl rfl ?_
    refine zq_istore (pc' := 40) rfl rfl rfl ?_
    refine zq_aload (pc' := 41) rfl rfl rfl rfl ?_
    refine hq_callv (pc' := 44) rfl rfl rfl rfl rfl rfl h_Xv ?_
    refine hmonov H ?_
    intro g10 e11 H
    refine zq_aload (pc' := 45) rfl rfl rfl rfl ?_
    refine zq_iload (pc' := 46) rfl rfl rfl rfl ?_
    refine hq_callv (pc' := 49) rfl rfl rfl rfl rfl rfl h_Xv ?_
    refine hmonov H ?_
    intro g12 e13 H
    refine zq_aload (pc' := 50) rfl rfl rfl rfl ?_
    refine zq_iload (pc' := 51) rfl rfl rfl rfl ?_
    refine hq_callv (pc' := 54) rfl rfl rfl rfl rfl rfl h_Xv ?_
    refine hmonov H ?_
    intro g14 e15 H
    refine zq_goto_c (pc' := 5) rfl rfl ?_
    exact H
theorem zh_X8_readSum {d : Nat} {k : hG → hE → Prop} {X : Nat → hG → hE → Prop} {p1 : Int32} {g : hG} {e : hE} (H :
    hcv d 236 [.ref 1046, .int p1] g e (fun g1 e2 =>
      hwv d zm_X8_readSum k X 5 [(0, .ref 1046), (1, .int p1)] g1 e2) X) : hcv (d + 1) 237 [.ref 1046, .int p1] g e k X := by
  refine hent (M := zm_X8_readSum) (show hT 1046 = some (.inr _) from rfl) rfl rfl rfl rfl rfl ?_
  refine zq_aload (pc' := 1) rfl rfl rfl rfl ?_
  refine zq_iload (pc' := 2) rfl rfl rfl rfl ?_
  refine hq_callv_c (pc' := 5) rfl rfl rfl rfl rfl h_Xv ?_
  refine hmonov H ?_
  intro g1 e2 H
  exact H
theorem zh_X8_readSum_5 {d : Nat} {k : hG → hE → Prop} {X : Nat → hG → hE → Prop} {l1 : Int32} {g : hG} {e : hE} (H :
    hci d 231 [.ref 1046, .int 43] g e (fun x3 g1 e2 =>
      zbr (x3 = 0)
      (hci d 231 [.ref 1046, .int 45] g1 e2 (fun x6 g4 e5 =>
          zbr (x6 = 0)
          (k g4 e5)
          (hwv d zm_X8_readSum k X 23 [(0, .ref 1046), (1, .int l1)] g4 e5)) X)
      (hwv d zm_X8_readSum k X 23 [(0, .ref 1046), (1, .int l1)] g1 e2)) X) : hwv d zm_X8_readSum k X 5 [(0, .ref 1046), (1, .int l1)] g e := by
  refine zq_aload (pc' := 6) rfl rfl rfl rfl ?_
  refine zq_ipush (pc' := 8) rfl rfl rfl ?_
  refine hq_calli (pc' := 11) rfl rfl rfl rfl rfl rfl h_Xv ?_
  refine hmonoi H ?_
  intro x3 g1 e2 H
  refine zq_ifne_c (pc' := 14) (lt := [(0, .ref 1046), (1, .int l1)]) (lf := [(0, .ref 1046), (1, .int l1)]) rfl rfl rfl rfl (And.intro (fun c => ?_) (fun c => ?_))
  · have H := H.1 c
    refine zq_aload (pc' := 15) rfl rfl rfl rfl ?_
    refine zq_ipush (pc' := 17) rfl rfl rfl ?_
    refine hq_calli (pc' := 20) rfl rfl rfl rfl rfl rfl h_Xv ?_
    refine hmonoi H ?_
    intro x6 g4 e5 H
    refine zq_ifeq_c (pc' := 23) (lt := [(0, .ref 1046), (1, .int l1)]) (lf := [(0, .ref 1046), (1, .int l1)]) rfl rfl rfl rfl (And.intro (fun c => ?_) (fun c => ?_))
    · have H := H.1 c
      exact zq_vret rfl (Exists.intro _ (Exists.intro _ (And.intro rfl H)))
    · have H := H.2 c
      exact H
  · have H := H.2 c
    exact H
theorem zh_X8_readSum_23 {d : Nat} {k : hG → hE → Prop} {X : Nat → hG → hE → Prop} {l1 : Int32} {g : hG} {e : hE} (H :
    hci d 231 [.ref 1046, .int 43] g e (fun x3 g1 e2 =>
      zbr (x3 = 0)
      (hcv d 227 [.ref 1046] g1 e2 (fun g4 e5 =>
          hcv d 236 [.ref 1046, .int l1] g4 e5 (fun g6 e7 =>
            hcv d 234 [.ref 1046, .int (-21)] g6 e7 (fun g8 e9 =>
              hwv d zm_X8_readSum k X 5 [(0, .ref 1046), (1, .int l1)] g8 e9) X) X) X)
      (hcv d 227 [.ref 1046] g1 e2 (fun g10 e11 =>
          hcv d 236 [.ref 1046, .int l1] g10 e11 (fun g12 e13 =>
            hcv d 234 [.ref 1046, .int (-20)] g12 e13 (fun g14 e15 =>
              hwv d zm_X8_readSum k X 5 [(0, .ref 1046), (1, .int l1)] g14 e15) X) X) X)) X) : hwv d zm_X8_readSum k X 23 [(0, .ref 1046), (1, .int l1)] g e := by
  refine zq_aload (pc' := 24) rfl rfl rfl rfl ?_
  refine zq_ipush (pc' := 26) rfl rfl rfl ?_
  refine hq_calli (pc' := 29) rfl rfl rfl rfl rfl rfl h_Xv ?_
  refine hmonoi H ?_
  intro x3 g1 e2 H
  refine zq_ifeq (pc' := 32) rfl rfl rfl rfl (And.intro (fun c => ?_) (fun c => ?_))
  · have H := H.1 c
    refine zq_ipushn (pc' := 39) rfl rfl rfl ?_
    refine zq_istore (pc' := 40) rfl rfl rfl ?_
    refine zq_aload (pc' := 41) rfl rfl rfl rfl ?_
    refine hq_callv (pc' := 44) rfl rfl rfl rfl rfl rfl h_Xv ?_
    refine hmonov H ?_
    intro g4 e5 H
    refine zq_aload (pc' := 45) rfl rfl rfl rfl ?_
    refine zq_iload (pc' := 46) rfl rfl rfl rfl ?_
    refine hq_callv (pc' := 49) rfl rfl rfl rfl rfl rfl h_Xv ?_
    refine hmonov H ?_
    intro g6 e7 H
    refine zq_aload (pc' := 50) rfl rfl rfl rfl ?_
    refine zq_iload (pc' := 51) rfl rfl rfl rfl ?_
    refine hq_callv (pc' := 54) rfl rfl rfl rfl rfl rfl h_Xv ?_
    refine hmonov H ?_
    intro g8 e9 H
    refine zq_goto_c (pc' := 5) rfl rfl ?_
    exact H
  · have H := H.2 c
    refine zq_ipushn (pc' := 34) rfl rfl rfl ?_
    refine zq_goto (pc' := 39) rfl rfl rfl ?_
    refine zq_istore (pc' := 40) rfl rfl rfl ?_
    refine zq_aload (pc' := 41) rfl rfl rfl rfl ?_
    refine hq_callv (pc' := 44) rfl rfl rfl rfl rfl rfl h_Xv ?_
    refine hmonov H ?_
    intro g10 e11 H
    refine zq_aload (pc' := 45) rfl rfl rfl rfl ?_
    refine zq_iload (pc' := 46) rfl rfl rfl rfl ?_
    refine hq_callv (pc' := 49) rfl rfl rfl rfl rfl rfl h_Xv ?_
    refine hmonov H ?_
    intro g12 e13 H
    refine zq_aload (pc' := 50) rfl rfl rfl rfl ?_
    refine zq_iload (pc' := 51) rfl rfl rfl rfl ?_
    refine hq_callv (pc' := 54) rfl rfl rfl rfl rfl rfl h_Xv ?_
    refine hmonov H ?_
    intro g14 e15 H
    refine zq_goto_c (pc' := 5) rfl rfl ?_
    exact H
theorem zh_X8_readNot {d : Nat} {k : hG → hE → Prop} {X : Nat → hG → hE → Prop} {p1 : Int32} {g : hG} {e : hE} (H :
    hwv d zm_X8_readNot k X 2 [(0, .ref 1046), (1, .int p1), (2, .int 0)] g e) : hcv (d + 1) 238 [.ref 1046, .int p1] g e k X := by
  refine hent (M := zm_X8_readNot) (show hT 1046 = some (.inr _) from rfl) rfl rfl rfl rfl rfl ?_
  refine zq_ipush (pc' := 1) rfl rfl rfl ?_
  refine zq_istore_c (pc' := 2) rfl rfl ?_
  exact H
theorem zh_X8_readNot_2 {d : Nat} {k : hG → hE → Prop} {X : Nat → hG → hE → Prop} {l1 : Int32} {l2 : Int32} {g : hG} {e : hE} (H :
    hci d 229 [.ref 1046, .ref 46] g e (fun x3 g1 e2 =>
      zbr (x3 = 0)
      (hcv d 237 [.ref 1046, .int l1] g1 e2 (fun g4 e5 =>
          hci d 231 [.ref 1046, .int 60] g4 e5 (fun x8 g6 e7 =>
            zbr (x8 = 0)
            (hci d 231 [.ref 1046, .int 61] g6 e7 (fun x11 g9 e10 =>
                zbr (x11 = 0)
                (hwv d zm_X8_readNot k X 96 [(0, .ref 1046), (2, .int l2), (3, .int 0)] g9 e10)
                (hwv d zm_X8_readNot k X 63 [(0, .ref 1046), (1, .int l1), (2, .int l2)] g9 e10)) X)
            (hwv d zm_X8_readNot k X 63 [(0, .ref 1046), (1, .int l1), (2, .int l2)] g6 e7)) X) X)
      (zbr (l2 = 6)
        (hcv d 228 [.ref 1046, .int 2] g1 e2 (fun g12 e13 =>
            zbr ((g12.1 1046 22) = 0)
            (hcv d 227 [.ref 1046] g12 e13 (fun g14 e15 =>
                hwv d zm_X8_readNot k X 2 [(0, .ref 1046), (1, .int l1), (2, .int (l2 + 1))] g14 e15) X)
            (hwv d zm_X8_readNot k X 2 [(0, .ref 1046), (1, .int l1), (2, .int (l2 + 1))] g12 e13)) X)
        (zbr ((g1.1 1046 22) = 0)
          (hcv d 227 [.ref 1046] g1 e2 (fun g16 e17 =>
              hwv d zm_X8_readNot k X 2 [(0, .ref 1046), (1, .int l1), (2, .int (l2 + 1))] g16 e17) X)
          (hwv d zm_X8_readNot k X 2 [(0, .ref 1046), (1, .int l1), (2, .int (l2 + 1))] g1 e2)))) X) : hwv d zm_X8_readNot k X 2 [(0, .ref 1046), (1, .int l1), (2, .int l2)] g e := by
  refine zq_aload (pc' := 3) rfl rfl rfl rfl ?_
  refine zq_rpush (pc' := 6) rfl rfl rfl ?_
  refine hq_calli (pc' := 9) rfl rfl rfl rfl rfl rfl h_Xv ?_
  refine hmonoi H ?_
  intro x3 g1 e2 H
  refine zq_ifeq (pc' := 12) rfl rfl rfl rfl (And.intro (fun c => ?_) (fun c => ?_))
  · have H := H.1 c
    refine zq_aload (pc' := 41) rfl rfl rfl rfl ?_
    refine zq_iload (pc' := 42) rfl rfl rfl rfl ?_
    refine hq_callv (pc' := 45) rfl rfl rfl rfl rfl rfl h_Xv ?_
    refine hmonov H ?_
    intro g4 e5 H
    refine zq_aload (pc' := 46) rfl rfl rfl rfl ?_
    refine zq_ipush (pc' := 48) rfl rfl rfl ?_
    refine hq_calli (pc' := 51) rfl rfl rfl rfl rfl rfl h_Xv ?_
    refine hmonoi H ?_
    intro x8 g6 e7 H
    refine zq_ifne_c (pc' := 54) (lt := [(0, .ref 1046), (1, .int l1), (2, .int l2)]) (lf := [(0, .ref 1046), (1, .int l1), (2, .int l2)]) rfl rfl rfl rfl (And.intro (fun c => ?_) (fun c => ?_))
    · have H := H.1 c
      refine zq_aload (pc' := 55) rfl rfl rfl rfl ?_
      refine zq_ipush (pc' := 57) rfl rfl rfl ?_
      refine hq_calli (pc' := 60) rfl rfl rfl rfl rfl rfl h_Xv ?_
      refine hmonoi H ?_
      intro x11 g9 e10 H
      refine zq_ifeq_c (pc' := 63) (lt := [(0, .ref 1046), (1, .int l1), (2, .int l2)]) (lf := [(0, .ref 1046), (1, .int l1), (2, .int l2)]) rfl rfl rfl rfl (And.intro (fun c => ?_) (fun c => ?_))
      · have H := H.1 c
        refine zq_ipush (pc' := 95) rfl rfl rfl ?_
        refine zq_istore_c (pc' := 96) rfl rfl ?_
        exact H
      · have H := H.2 c
        exact H
    · have H := H.2 c
      exact H
  · have H := H.2 c
    refine zq_iload (pc' := 13) rfl rfl rfl rfl ?_
    refine zq_ipush (pc' := 15) rfl rfl rfl ?_
    refine zq_icne (pc' := 18) rfl rfl rfl rfl (And.intro (fun c => ?_) (fun c => ?_))
    · have H := H.1 c
      refine zq_aload (pc' := 19) rfl rfl rfl rfl ?_
      refine zq_ipush (pc' := 20) rfl rfl rfl ?_
      refine hq_callv (pc' := 23) rfl rfl rfl rfl rfl rfl h_Xv ?_
      refine hmonov H ?_
      intro g12 e13 H
      refine zq_iinc (pc' := 26) rfl rfl rfl rfl ?_
      refine zq_aload (pc' := 27) rfl rfl rfl rfl ?_
      refine zq_getI (pc' := 30) rfl rfl rfl (hp_gI rfl) ?_
      refine zq_ifne_c (pc' := 33) (lt := [(0, .ref 1046), (1, .int l1), (2, .int (l2 + 1))]) (lf := [(2, .int (l2 + 1)), (0, .ref 1046), (1, .int l1)]) rfl rfl rfl rfl (And.intro (fun c => ?_) (fun c => ?_))
      · have H := H.1 c
        refine zq_aload (pc' := 34) rfl rfl rfl rfl ?_
        refine hq_callv (pc' := 37) rfl rfl rfl rfl rfl rfl h_Xv ?_
        refine hmonov H ?_
        intro g14 e15 H
        refine zq_goto_c (pc' := 2) rfl rfl ?_
        exact H
      · have H := H.2 c
        exact H
    · have H := H.2 c
      refine zq_iinc (pc' := 26) rfl rfl rfl rfl ?_
      refine zq_aload (pc' := 27) rfl rfl rfl rfl ?_
      refine zq_getI (pc' := 30) rfl rfl rfl (hp_gI rfl) ?_
      refine zq_ifne_c (pc' := 33) (lt := [(0, .ref 1046), (1, .int l1), (2, .int (l2 + 1))]) (lf := [(2, .int (l2 + 1)), (0, .ref 1046), (1, .int l1)]) rfl rfl rfl rfl (And.intro (fun c => ?_) (fun c => ?_))
      · have H := H.1 c
        refine zq_aload (pc' := 34) rfl rfl rfl rfl ?_
        refine hq_callv (pc' := 37) rfl rfl rfl rfl rfl rfl h_Xv ?_
        refine hmonov H ?_
        intro g16 e17 H
        refine zq_goto_c (pc' := 2) rfl rfl ?_
        exact H
      · have H := H.2 c
        exact H
theorem zh_X8_readNot_63 {d : Nat} {k : hG → hE → Prop} {X : Nat → hG → hE → Prop} {l1 : Int32} {l2 : Int32} {g : hG} {e : hE} (H :
    hci d 231 [.ref 1046, .int 60] g e (fun x3 g1 e2 =>
      zbr (x3 = 0)
      (hcv d 227 [.ref 1046] g1 e2 (fun g4 e5 =>
          hcv d 237 [.ref 1046, .int l1] g4 e5 (fun g6 e7 =>
            hcv d 234 [.ref 1046, .int (-25)] g6 e7 (fun g8 e9 =>
              hwv d zm_X8_readNot k X 96 [(0, .ref 1046), (2, .int l2), (3, .int 0)] g8 e9) X) X) X)
      (hcv d 227 [.ref 1046] g1 e2 (fun g10 e11 =>
          hcv d 237 [.ref 1046, .int l1] g10 e11 (fun g12 e13 =>
            hcv d 234 [.ref 1046, .int (-24)] g12 e13 (fun g14 e15 =>
              hwv d zm_X8_readNot k X 96 [(0, .ref 1046), (2, .int l2), (3, .int 0)] g14 e15) X) X) X)) X) : hwv d zm_X8_readNot k X 63 [(0, .ref 1046), (1, .int l1), (2, .int l2)] g e := by
  refine zq_aload (pc' := 64) rfl rfl rfl rfl ?_
  refine zq_ipush (pc' := 66) rfl rfl rfl ?_
  refine hq_calli (pc' := 69) rfl rfl rfl rfl rfl rfl h_Xv ?_
  refine hmonoi H ?_
  intro x3 g1 e2 H
  refine zq_ifeq (pc' := 72) rfl rfl rfl rfl (And.intro (fun c => ?_) (fun c => ?_))
  · have H := H.1 c
    refine zq_ipushn (pc' := 79) rfl rfl rfl ?_
    refine zq_istore (pc' := 80) rfl rfl rfl ?_
    refine zq_aload (pc' := 81) rfl rfl rfl rfl ?_
    refine hq_callv (pc' := 84) rfl rfl rfl rfl rfl rfl h_Xv ?_
    refine hmonov H ?_
    intro g4 e5 H
    refine zq_aload (pc' := 85) rfl rfl rfl rfl ?_
    refine zq_iload (pc' := 86) rfl rfl rfl rfl ?_
    refine hq_callv (pc' := 89) rfl rfl rfl rfl rfl rfl h_Xv ?_
    refine hmonov H ?_
    intro g6 e7 H
    refine zq_aload (pc' := 90) rfl rfl rfl rfl ?_
    refine zq_iload (pc' := 91) rfl rfl rfl rfl ?_
    refine hq_callv (pc' := 94) rfl rfl rfl rfl rfl rfl h_Xv ?_
    refine hmonov H ?_
    intro g8 e9 H
    refine zq_ipush (pc' := 95) rfl rfl rfl ?_
    refine zq_istore_c (pc' := 96) rfl rfl ?_
    exact H
  · have H := H.2 c
    refine zq_ipushn (pc' := 74) rfl rfl rfl ?_
    refine zq_goto (pc' := 79) rfl rfl rfl ?_
    refine zq_istore (pc' := 80) rfl rfl rfl ?_
    refine zq_aload (pc' := 81) rfl rfl rfl rfl ?_
    refine hq_callv (pc' := 84) rfl rfl rfl rfl rfl rfl h_Xv ?_
    refine hmonov H ?_
    intro g10 e11 H
    refine zq_aload (pc' := 85) rfl rfl rfl rfl ?_
    refine zq_iload (pc' := 86) rfl rfl rfl rfl ?_
    refine hq_callv (pc' := 89) rfl rfl rfl rfl rfl rfl h_Xv ?_
    refine hmonov H ?_
    intro g12 e13 H
    refine zq_aload (pc' := 90) rfl rfl rfl rfl ?_
    refine zq_iload (pc' := 91) rfl rfl rfl rfl ?_
    refine hq_callv (pc' := 94) rfl rfl rfl rfl rfl rfl h_Xv ?_
    refine hmonov H ?_
    intro g14 e15 H
    refine zq_ipush (pc' := 95) rfl rfl rfl ?_
    refine zq_istore_c (pc' := 96) rfl rfl ?_
    exact H
theorem zh_X8_readNot_96 {d : Nat} {k : hG → hE → Prop} {X : Nat → hG → hE → Prop} {l2 : Int32} {l3 : Int32} {g : hG} {e : hE} (H :
    zbr (l2 ≤ l3)
    (k g e)
    (hcv d 234 [.ref 1046, .int (-28)] g e (fun g1 e2 =>
        hwv d zm_X8_readNot k X 96 [(0, .ref 1046), (2, .int l2), (3, .int (l3 + 1))] g1 e2) X)) : hwv d zm_X8_readNot k X 96 [(0, .ref 1046), (2, .int l2), (3, .int l3)] g e := by
  refine zq_iload (pc' := 97) rfl rfl rfl rfl ?_
  refine zq_iload (pc' := 98) rfl rfl rfl rfl ?_
  refine zq_icge (pc' := 101) rfl rfl rfl rfl (And.intro (fun c => ?_) (fun c => ?_))
  · have H := H.1 c
    exact zq_vret rfl (Exists.intro _ (Exists.intro _ (And.intro rfl H)))
  · have H := H.2 c
    refine zq_aload (pc' := 102) rfl rfl rfl rfl ?_
    refine zq_ipushn (pc' := 104) rfl rfl rfl ?_
    refine hq_callv (pc' := 107) rfl rfl rfl rfl rfl rfl h_Xv ?_
    refine hmonov H ?_
    intro g1 e2 H
    refine zq_iinc (pc' := 110) rfl rfl rfl rfl ?_
    refine zq_goto_c (pc' := 96) rfl rfl ?_
    exact H
theorem zh_X8_readAnd {d : Nat} {k : hG → hE → Prop} {X : Nat → hG → hE → Prop} {p1 : Int32} {g : hG} {e : hE} (H :
    hcv d 238 [.ref 1046, .int p1] g e (fun g1 e2 =>
      hwv d zm_X8_readAnd k X 5 [(0, .ref 1046), (1, .int p1)] g1 e2) X) : hcv (d + 1) 239 [.ref 1046, .int p1] g e k X := by
  refine hent (M := zm_X8_readAnd) (show hT 1046 = some (.inr _) from rfl) rfl rfl rfl rfl rfl ?_
  refine zq_aload (pc' := 1) rfl rfl rfl rfl ?_
  refine zq_iload (pc' := 2) rfl rfl rfl rfl ?_
  refine hq_callv_c (pc' := 5) rfl rfl rfl rfl rfl h_Xv ?_
  refine hmonov H ?_
  intro g1 e2 H
  exact H
theorem zh_X8_readAnd_5 {d : Nat} {k : hG → hE → Prop} {X : Nat → hG → hE → Prop} {l1 : Int32} {g : hG} {e : hE} (H :
    hci d 229 [.ref 1046, .ref 48] g e (fun x3 g1 e2 =>
      zbr (x3 = 0)
      (k g1 e2)
      (hcv d 227 [.ref 1046] g1 e2 (fun g4 e5 =>
          hcv d 238 [.ref 1046, .int l1] g4 e5 (fun g6 e7 =>
            hcv d 234 [.ref 1046, .int (-26)] g6 e7 (fun g8 e9 =>
              hwv d zm_X8_readAnd k X 5 [(0, .ref 1046), (1, .int l1)] g8 e9) X) X) X)) X) : hwv d zm_X8_readAnd k X 5 [(0, .ref 1046), (1, .int l1)] g e := by
  refine zq_aload (pc' := 6) rfl rfl rfl rfl ?_
  refine zq_rpush (pc' := 9) rfl rfl rfl ?_
  refine hq_calli (pc' := 12) rfl rfl rfl rfl rfl rfl h_Xv ?_
  refine hmonoi H ?_
  intro x3 g1 e2 H
  refine zq_ifeq (pc' := 15) rfl rfl rfl rfl (And.intro (fun c => ?_) (fun c => ?_))
  · have H := H.1 c
    exact zq_vret rfl (Exists.intro _ (Exists.intro _ (And.intro rfl H)))
  · have H := H.2 c
    refine zq_aload (pc' := 16) rfl rfl rfl rfl ?_
    refine hq_callv (pc' := 19) rfl rfl rfl rfl rfl rfl h_Xv ?_
    refine hmonov H ?_
    intro g4 e5 H
    refine zq_aload (pc' := 20) rfl rfl rfl rfl ?_
    refine zq_iload (pc' := 21) rfl rfl rfl rfl ?_
    refine hq_callv (pc' := 24) rfl rfl rfl rfl rfl rfl h_Xv ?_
    refine hmonov H ?_
    intro g6 e7 H
    refine zq_aload (pc' := 25) rfl rfl rfl rfl ?_
    refine zq_ipushn (pc' := 27) rfl rfl rfl ?_
    refine hq_callv (pc' := 30) rfl rfl rfl rfl rfl rfl h_Xv ?_
    refine hmonov H ?_
    intro g8 e9 H
    refine zq_goto_c (pc' := 5) rfl rfl ?_
    exact H
theorem zh_X8_readExpression {d : Nat} {k : hG → hE → Prop} {X : Nat → hG → hE → Prop} {p1 : Int32} {g : hG} {e : hE} (H :
    zbr ((g.1 1046 22) = 0)
    (zbr ((g.1 1046 18) = 2)
      (hwv d zm_X8_readExpression k X 33 [(0, .ref 1046), (1, .int p1)] g e)
      (zbr ((g.1 1046 18) = 1)
        (hwv d zm_X8_readExpression k X 33 [(0, .ref 1046), (1, .int p1)] g e)
        (hci d 231 [.ref 1046, .int 40] g e (fun x3 g1 e2 =>
            zbr (x3 = 0)
            (zbr ((0 : Int32) = 0)
              (hcv d 228 [.ref 1046, .int 1] g1 e2 (fun g4 e5 =>
                  hcv d 239 [.ref 1046, .int p1] g4 e5 (fun g6 e7 =>
                    hwv d zm_X8_readExpression k X 67 [(0, .ref 1046), (1, .int p1)] g6 e7) X) X)
              (zbr (p1 = 6)
                (hcv d 228 [.ref 1046, .int 2] g1 e2 (fun g8 e9 =>
                    hcv d 239 [.ref 1046, .int p1] g8 e9 (fun g10 e11 =>
                      hwv d zm_X8_readExpression k X 67 [(0, .ref 1046), (1, .int p1)] g10 e11) X) X)
                (hcv d 239 [.ref 1046, .int p1] g1 e2 (fun g12 e13 =>
                    hwv d zm_X8_readExpression k X 67 [(0, .ref 1046), (1, .int p1)] g12 e13) X)))
            (hwv d zm_X8_readExpression k X 33 [(0, .ref 1046), (1, .int p1)] g1 e2)) X)))
    (k g e)) : hcv (d + 1) 240 [.ref 1046, .int p1] g e k X := by
  refine hent (M := zm_X8_readExpression) (show hT 1046 = some (.inr _) from rfl) rfl rfl rfl rfl rfl ?_
  refine zq_aload (pc' := 1) rfl rfl rfl rfl ?_
  refine zq_getI (pc' := 4) rfl rfl rfl (hp_gI rfl) ?_
  refine zq_ifeq (pc' := 7) rfl rfl rfl rfl (And.intro (fun c => ?_) (fun c => ?_))
  · have H := H.1 c
    refine zq_aload (pc' := 9) rfl rfl rfl rfl ?_
    refine zq_getI (pc' := 12) rfl rfl rfl (hp_gI rfl) ?_
    refine zq_ipush (pc' := 13) rfl rfl rfl ?_
    refine zq_iceq_c (pc' := 16) (lt := [(0, .ref 1046), (1, .int p1)]) (lf := [(0, .ref 1046), (1, .int p1)]) rfl rfl rfl rfl (And.intro (fun c => ?_) (fun c => ?_))
    · have H := H.1 c
      exact H
    · have H := H.2 c
      refine zq_aload (pc' := 17) rfl rfl rfl rfl ?_
      refine zq_getI (pc' := 20) rfl rfl rfl (hp_gI rfl) ?_
      refine zq_ipush (pc' := 21) rfl rfl rfl ?_
      refine zq_iceq_c (pc' := 24) (lt := [(0, .ref 1046), (1, .int p1)]) (lf := [(0, .ref 1046), (1, .int p1)]) rfl rfl rfl rfl (And.intro (fun c => ?_) (fun c => ?_))
      · have H := H.1 c
        exact H
      · have H := H.2 c
        refine zq_aload (pc' := 25) rfl rfl rfl rfl ?_
        refine zq_ipush (pc' := 27) rfl rfl rfl ?_
        refine hq_calli (pc' := 30) rfl rfl rfl rfl rfl rfl h_Xv ?_
        refine hmonoi H ?_
        intro x3 g1 e2 H
        refine zq_ifeq_c (pc' := 33) (lt := [(0, .ref 1046), (1, .int p1)]) (lf := [(0, .ref 1046), (1, .int p1)]) rfl rfl rfl rfl (And.intro (fun c => ?_) (fun c => ?_))
        · have H := H.1 c
          refine zq_ipush (pc' := 38) rfl rfl rfl ?_
          refine zq_istore (pc' := 39) rfl rfl rfl ?_
          refine zq_iload (pc' := 40) rfl rfl rfl rfl ?_
          refine zq_ifne (pc' := 43) rfl rfl rfl rfl (And.intro (fun c => ?_) (fun c => ?_))
          · have H := H.1 c
            refine zq_aload (pc' := 44) rfl rfl rfl rfl ?_
            refine zq_ipush (pc' := 45) rfl rfl rfl ?_
            refine hq_callv (pc' := 48) rfl rfl rfl rfl rfl rfl h_Xv ?_
            refine hmonov H ?_
            intro g4 e5 H
            refine zq_goto (pc' := 62) rfl rfl rfl ?_
            refine zq_aload (pc' := 63) rfl rfl rfl rfl ?_
            refine zq_iload (pc' := 64) rfl rfl rfl rfl ?_
            refine hq_callv_c (pc' := 67) rfl rfl rfl rfl rfl h_Xv ?_
            refine hmonov H ?_
            intro g6 e7 H
            exact H
          · have H := H.2 c
            refine zq_iload (pc' := 52) rfl rfl rfl rfl ?_
            refine zq_ipush (pc' := 54) rfl rfl rfl ?_
            refine zq_icne (pc' := 57) rfl rfl rfl rfl (And.intro (fun c => ?_) (fun c => ?_))
            · have H := H.1 c
              refine zq_aload (pc' := 58) rfl rfl rfl rfl ?_
              refine zq_ipush (pc' := 59) rfl rfl rfl ?_
              refine hq_callv (pc' := 62) rfl rfl rfl rfl rfl rfl h_Xv ?_
              refine hmonov H ?_
              intro g8 e9 H
              refine zq_aload (pc' := 63) rfl rfl rfl rfl ?_
              refine zq_iload (pc' := 64) rfl rfl rfl rfl ?_
              refine hq_callv_c (pc' := 67) rfl rfl rfl rfl rfl h_Xv ?_
              refine hmonov H ?_
              intro g10 e11 H
              exact H
            · have H := H.2 c
              refine zq_aload (pc' := 63) rfl rfl rfl rfl ?_
              refine zq_iload (pc' := 64) rfl rfl rfl rfl ?_
              refine hq_callv_c (pc' := 67) rfl rfl rfl rfl rfl h_Xv ?_
              refine hmonov H ?_
              intro g12 e13 H
              exact H
        · have H := H.2 c
          exact H
  · have H := H.2 c
    exact zq_vret rfl (Exists.intro _ (Exists.intro _ (And.intro rfl H)))
theorem zh_X8_readExpression_33 {d : Nat} {k : hG → hE → Prop} {X : Nat → hG → hE → Prop} {l1 : Int32} {g : hG} {e : hE} (H :
    zbr ((1 : Int32) = 0)
    (hcv d 228 [.ref 1046, .int 1] g e (fun g1 e2 =>
        hcv d 239 [.ref 1046, .int l1] g1 e2 (fun g3 e4 =>
          hwv d zm_X8_readExpression k X 67 [(0, .ref 1046), (1, .int l1)] g3 e4) X) X)
    (zbr (l1 = 6)
      (hcv d 228 [.ref 1046, .int 2] g e (fun g5 e6 =>
          hcv d 239 [.ref 1046, .int l1] g5 e6 (fun g7 e8 =>
            hwv d zm_X8_readExpression k X 67 [(0, .ref 1046), (1, .int l1)] g7 e8) X) X)
      (hcv d 239 [.ref 1046, .int l1] g e (fun g9 e10 =>
          hwv d zm_X8_readExpression k X 67 [(0, .ref 1046), (1, .int l1)] g9 e10) X))) : hwv d zm_X8_readExpression k X 33 [(0, .ref 1046), (1, .int l1)] g e := by
  refine zq_ipush (pc' := 34) rfl rfl rfl ?_
  refine zq_goto (pc' := 38) rfl rfl rfl ?_
  refine zq_istore (pc' := 39) rfl rfl rfl ?_
  refine zq_iload (pc' := 40) rfl rfl rfl rfl ?_
  refine zq_ifne (pc' := 43) rfl rfl rfl rfl (And.intro (fun c => ?_) (fun c => ?_))
  · have H := H.1 c
    refine zq_aload (pc' := 44) rfl rfl rfl rfl ?_
    refine zq_ipush (pc' := 45) rfl rfl rfl ?_
    refine hq_callv (pc' := 48) rfl rfl rfl rfl rfl rfl h_Xv ?_
    refine hmonov H ?_
    intro g1 e2 H
    refine zq_goto (pc' := 62) rfl rfl rfl ?_
    refine zq_aload (pc' := 63) rfl rfl rfl rfl ?_
    refine zq_iload (pc' := 64) rfl rfl rfl rfl ?_
    refine hq_callv_c (pc' := 67) rfl rfl rfl rfl rfl h_Xv ?_
    refine hmonov H ?_
    intro g3 e4 H
    exact H
  · have H := H.2 c
    refine zq_iload (pc' := 52) rfl rfl rfl rfl ?_
    refine zq_ipush (pc' := 54) rfl rfl rfl ?_
    refine zq_icne (pc' := 57) rfl rfl rfl rfl (And.intro (fun c => ?_) (fun c => ?_))
    · have H := H.1 c
      refine zq_aload (pc' := 58) rfl rfl rfl rfl ?_
      refine zq_ipush (pc' := 59) rfl rfl rfl ?_
      refine hq_callv (pc' := 62) rfl rfl rfl rfl rfl rfl h_Xv ?_
      refine hmonov H ?_
      intro g5 e6 H
      refine zq_aload (pc' := 63) rfl rfl rfl rfl ?_
      refine zq_iload (pc' := 64) rfl rfl rfl rfl ?_
      refine hq_callv_c (pc' := 67) rfl rfl rfl rfl rfl h_Xv ?_
      refine hmonov H ?_
      intro g7 e8 H
      exact H
    · have H := H.2 c
      refine zq_aload (pc' := 63) rfl rfl rfl rfl ?_
      refine zq_iload (pc' := 64) rfl rfl rfl rfl ?_
      refine hq_callv_c (pc' := 67) rfl rfl rfl rfl rfl h_Xv ?_
      refine hmonov H ?_
      intro g9 e10 H
      exact H
theorem zh_X8_readExpression_67 {d : Nat} {k : hG → hE → Prop} {X : Nat → hG → hE → Prop} {l1 : Int32} {g : hG} {e : hE} (H :
    hci d 229 [.ref 1046, .ref 50] g e (fun x3 g1 e2 =>
      zbr (x3 = 0)
      (k g1 e2)
      (hcv d 227 [.ref 1046] g1 e2 (fun g4 e5 =>
          hcv d 239 [.ref 1046, .int l1] g4 e5 (fun g6 e7 =>
            hcv d 234 [.ref 1046, .int (-27)] g6 e7 (fun g8 e9 =>
              hwv d zm_X8_readExpression k X 67 [(0, .ref 1046), (1, .int l1)] g8 e9) X) X) X)) X) : hwv d zm_X8_readExpression k X 67 [(0, .ref 1046), (1, .int l1)] g e := by
  refine zq_aload (pc' := 68) rfl rfl rfl rfl ?_
  refine zq_rpush (pc' := 71) rfl rfl rfl ?_
  refine hq_calli (pc' := 74) rfl rfl rfl rfl rfl rfl h_Xv ?_
  refine hmonoi H ?_
  intro x3 g1 e2 H
  refine zq_ifeq (pc' := 77) rfl rfl rfl rfl (And.intro (fun c => ?_) (fun c => ?_))
  · have H := H.1 c
    exact zq_vret rfl (Exists.intro _ (Exists.intro _ (And.intro rfl H)))
  · have H := H.2 c
    refine zq_aload (pc' := 78) rfl rfl rfl rfl ?_
    refine hq_callv (pc' := 81) rfl rfl rfl rfl rfl rfl h_Xv ?_
    refine hmonov H ?_
    intro g4 e5 H
    refine zq_aload (pc' := 82) rfl rfl rfl rfl ?_
    refine zq_iload (pc' := 83) rfl rfl rfl rfl ?_
    refine hq_callv (pc' := 86) rfl rfl rfl rfl rfl rfl h_Xv ?_
    refine hmonov H ?_
    intro g6 e7 H
    refine zq_aload (pc' := 87) rfl rfl rfl rfl ?_
    refine zq_ipushn (pc' := 89) rfl rfl rfl ?_
    refine hq_callv (pc' := 92) rfl rfl rfl rfl rfl rfl h_Xv ?_
    refine hmonov H ?_
    intro g8 e9 H
    refine zq_goto_c (pc' := 67) rfl rfl ?_
    exact H
theorem zh_X8_sayZip {d : Nat} {k : hG → hE → Prop} {X : Nat → hG → hE → Prop} {p1 : Int32} {g : hG} {e : hE} (H :
    zbr ((g.1 1050 4) = 4)
    (hcv d 228 [.ref 1046, .int 2] g e (fun g2 e3 =>
        hwv d zm_X8_sayZip k X 15 [(0, .ref 1046), (1, .int p1)] g2 e3) X)
    (hwv d zm_X8_sayZip k X 15 [(0, .ref 1046), (1, .int p1)] g e)) : hcv (d + 1) 241 [.ref 1046, .int p1] g e k X := by
  refine hent (M := zm_X8_sayZip) (show hT 1046 = some (.inr _) from rfl) rfl rfl rfl rfl rfl ?_
  refine zq_aload (pc' := 1) rfl rfl rfl rfl ?_
  refine zq_getR (pc' := 4) rfl rfl rfl (hp_gC rfl) ?_
  refine zq_ipush (pc' := 5) rfl rfl rfl ?_
  refine zq_iald (pc' := 6) rfl rfl rfl (hp_ia rfl (by unfold hin; decide)) ?_
  refine zq_ipush (pc' := 7) rfl rfl rfl ?_
  refine zq_icne_c (pc' := 10) (lt := [(0, .ref 1046), (1, .int p1)]) (lf := [(0, .ref 1046), (1, .int p1)]) rfl rfl rfl rfl (And.intro (fun c => ?_) (fun c => ?_))
  · have H := H.1 c
    refine zq_aload (pc' := 11) rfl rfl rfl rfl ?_
    refine zq_ipush (pc' := 12) rfl rfl rfl ?_
    refine hq_callv_c (pc' := 15) rfl rfl rfl rfl rfl h_Xv ?_
    refine hmonov H ?_
    intro g2 e3 H
    exact H
  · have H := H.2 c
    exact H
theorem zh_X8_sayZip_15 {d : Nat} {k : hG → hE → Prop} {X : Nat → hG → hE → Prop} {l1 : Int32} {g : hG} {e : hE} (H :
    zbr ((g.1 1046 22) = 0)
    (hcv d 227 [.ref 1046] g e (fun g1 e2 =>
        hin (4 + (g1.1 1050 4)) 8 ∧
        zbr (((sI g1 1051 (4 + (g1.1 1050 4)).toNatClampNeg l1).1 1046 18) = 2)
        (hwv d zm_X8_sayZip k X 58 [(0, .ref 1046), (2, .int (4 + (g1.1 1050 4))), (3, .int 0)] (sI g1 1051 (4 + (g1.1 1050 4)).toNatClampNeg l1) e2)
        (hcv d 228 [.ref 1046, .int 1] (sI g1 1051 (4 + (g1.1 1050 4)).toNatClampNeg l1) e2 (fun g5 e6 =>
            hwv d zm_X8_sayZip k X 58 [(0, .ref 1046), (2, .int (4 + (g1.1 1050 4))), (3, .int 0)] g5 e6) X)) X)
    (k g e)) : hwv d zm_X8_sayZip k X 15 [(0, .ref 1046), (1, .int l1)] g e := by
  refine zq_aload (pc' := 16) rfl rfl rfl rfl ?_
  refine zq_getI (pc' := 19) rfl rfl rfl (hp_gI rfl) ?_
  refine zq_ifeq (pc' := 22) rfl rfl rfl rfl (And.intro (fun c => ?_) (fun c => ?_))
  · have H := H.1 c
    refine zq_aload (pc' := 24) rfl rfl rfl rfl ?_
    refine hq_callv (pc' := 27) rfl rfl rfl rfl rfl rfl h_Xv ?_
    refine hmonov H ?_
    intro g1 e2 H
    refine zq_ipush (pc' := 28) rfl rfl rfl ?_
    refine zq_aload (pc' := 29) rfl rfl rfl rfl ?_
    refine zq_getR (pc' := 32) rfl rfl rfl (hp_gC rfl) ?_
    refine zq_ipush (pc' := 33) rfl rfl rfl ?_
    refine zq_iald (pc' := 34) rfl rfl rfl (hp_ia rfl (by unfold hin; decide)) ?_
    refine zq_iadd (pc' := 35) rfl rfl rfl ?_
    refine zq_istore (pc' := 36) rfl rfl rfl ?_
    refine zq_aload (pc' := 37) rfl rfl rfl rfl ?_
    refine zq_getR (pc' := 40) rfl rfl rfl (hp_gC rfl) ?_
    refine zq_iload (pc' := 41) rfl rfl rfl rfl ?_
    refine zq_iload (pc' := 42) rfl rfl rfl rfl ?_
    obtain ⟨hi4, H⟩ := H
    refine zq_iast (pc' := 43) rfl rfl rfl (hp_is rfl hi4) ?_
    refine zq_ipush (pc' := 44) rfl rfl rfl ?_
    refine zq_istore (pc' := 45) rfl rfl rfl ?_
    refine zq_aload (pc' := 46) rfl rfl rfl rfl ?_
    refine zq_getI (pc' := 49) rfl rfl rfl (hp_gI rfl) ?_
    refine zq_ipush (pc' := 50) rfl rfl rfl ?_
    refine zq_iceq_c (pc' := 53) (lt := [(0, .ref 1046), (2, .int (4 + (g1.1 1050 4))), (3, .int 0)]) (lf := [(3, .int 0), (2, .int (4 + (g1.1 1050 4))), (0, .ref 1046), (1, .int l1)]) rfl rfl rfl rfl (And.intro (fun c => ?_) (fun c => ?_))
    · have H := H.1 c
      exact H
    · have H := H.2 c
      refine zq_aload (pc' := 54) rfl rfl rfl rfl ?_
      refine zq_ipush (pc' := 55) rfl rfl rfl ?_
      refine hq_callv_c (pc' := 58) rfl rfl rfl rfl rfl h_Xv ?_
      refine hmonov H ?_
      intro g5 e6 H
      exact H
  · have H := H.2 c
    exact zq_vret rfl (Exists.intro _ (Exists.intro _ (And.intro rfl H)))
theorem zh_X8_sayZip_58 {d : Nat} {k : hG → hE → Prop} {X : Nat → hG → hE → Prop} {l2 : Int32} {l3 : Int32} {g : hG} {e : hE} (H :
    zbr ((g.1 1046 22) = 0)
    (zbr ((g.1 1046 18) = 2)
      (zbr (l3 = 16)
        (hcv d 228 [.ref 1046, .int 2] g e (fun g1 e2 =>
            hwv d zm_X8_sayZip k X 84 [(0, .ref 1046), (2, .int l2), (3, .int l3)] g1 e2) X)
        (hwv d zm_X8_sayZip k X 84 [(0, .ref 1046), (2, .int l2), (3, .int l3)] g e))
      (hwv d zm_X8_sayZip k X 119 [(0, .ref 1046), (2, .int l2), (3, .int l3)] g e))
    (hwv d zm_X8_sayZip k X 119 [(0, .ref 1046), (2, .int l2), (3, .int l3)] g e)) : hwv d zm_X8_sayZip k X 58 [(0, .ref 1046), (2, .int l2), (3, .int l3)] g e := by
  refine zq_aload (pc' := 59) rfl rfl rfl rfl ?_
  refine zq_getI (pc' := 62) rfl rfl rfl (hp_gI rfl) ?_
  refine zq_ifne_c (pc' := 65) (lt := [(0, .ref 1046), (2, .int l2), (3, .int l3)]) (lf := [(0, .ref 1046), (2, .int l2), (3, .int l3)]) rfl rfl rfl rfl (And.intro (fun c => ?_) (fun c => ?_))
  · have H := H.1 c
    refine zq_aload (pc' := 66) rfl rfl rfl rfl ?_
    refine zq_getI (pc' := 69) rfl rfl rfl (hp_gI rfl) ?_
    refine zq_ipush (pc' := 70) rfl rfl rfl ?_
    refine zq_icne_c (pc' := 73) (lt := [(0, .ref 1046), (2, .int l2), (3, .int l3)]) (lf := [(0, .ref 1046), (2, .int l2), (3, .int l3)]) rfl rfl rfl rfl (And.intro (fun c => ?_) (fun c => ?_))
    · have H := H.1 c
      refine zq_iload (pc' := 74) rfl rfl rfl rfl ?_
      refine zq_ipush (pc' := 76) rfl rfl rfl ?_
      refine zq_icne_c (pc' := 79) (lt := [(0, .ref 1046), (2, .int l2), (3, .int l3)]) (lf := [(0, .ref 1046), (2, .int l2), (3, .int l3)]) rfl rfl rfl rfl (And.intro (fun c => ?_) (fun c => ?_))
      · have H := H.1 c
        refine zq_aload (pc' := 80) rfl rfl rfl rfl ?_
        refine zq_ipush (pc' := 81) rfl rfl rfl ?_
        refine hq_callv_c (pc' := 84) rfl rfl rfl rfl rfl h_Xv ?_
        refine hmonov H ?_
        intro g1 e2 H
        exact H
      · have H := H.2 c
        exact H
    · have H := H.2 c
      exact H
  · have H := H.2 c
    exact H
theorem zh_X8_sayZip_84 {d : Nat} {k : hG → hE → Prop} {X : Nat → hG → hE → Prop} {l2 : Int32} {l3 : Int32} {g : hG} {e : hE} (H :
    hci d 233 [.ref 1046, .int 0, .int 9] g e (fun x3 g1 e2 =>
      zbr ((g1.1 1046 22) = 0)
      (hin ((16 * l2) + l3) 128 ∧
        hwv d zm_X8_sayZip k X 58 [(0, .ref 1046), (2, .int l2), (3, .int (l3 + 1))] (sI g1 1053 ((16 * l2) + l3).toNatClampNeg x3) e2)
      (hwv d zm_X8_sayZip k X 58 [(0, .ref 1046), (2, .int l2), (3, .int (l3 + 1))] g1 e2)) X) : hwv d zm_X8_sayZip k X 84 [(0, .ref 1046), (2, .int l2), (3, .int l3)] g e := by
  refine zq_aload (pc' := 85) rfl rfl rfl rfl ?_
  refine zq_ipush (pc' := 86) rfl rfl rfl ?_
  refine zq_ipush (pc' := 88) rfl rfl rfl ?_
  refine hq_calli (pc' := 91) rfl rfl rfl rfl rfl rfl h_Xv ?_
  refine hmonoi H ?_
  intro x3 g1 e2 H
  refine zq_istore (pc' := 93) rfl rfl rfl ?_
  refine zq_aload (pc' := 94) rfl rfl rfl rfl ?_
  refine zq_getI (pc' := 97) rfl rfl rfl (hp_gI rfl) ?_
  refine zq_ifne (pc' := 100) rfl rfl rfl rfl (And.intro (fun c => ?_) (fun c => ?_))
  · have H := H.1 c
    refine zq_aload (pc' := 101) rfl rfl rfl rfl ?_
    refine zq_getR (pc' := 104) rfl rfl rfl (hp_gC rfl) ?_
    refine zq_ipush (pc' := 106) rfl rfl rfl ?_
    refine zq_iload (pc' := 107) rfl rfl rfl rfl ?_
    refine zq_imul (pc' := 108) rfl rfl rfl ?_
    refine zq_iload (pc' := 109) rfl rfl rfl rfl ?_
    refine zq_iadd (pc' := 110) rfl rfl rfl ?_
    refine zq_iload (pc' := 112) rfl rfl rfl rfl ?_
    obtain ⟨hi4, H⟩ := H
    refine zq_iast (pc' := 113) rfl rfl rfl (hp_is rfl hi4) ?_
    refine zq_iinc (pc' := 116) rfl rfl rfl rfl ?_
    refine zq_goto_c (pc' := 58) rfl rfl ?_
    exact H
  · have H := H.2 c
    refine zq_iinc (pc' := 116) rfl rfl rfl rfl ?_
    refine zq_goto_c (pc' := 58) rfl rfl ?_
    exact H
theorem zh_X8_sayZip_119 {d : Nat} {k : hG → hE → Prop} {X : Nat → hG → hE → Prop} {l2 : Int32} {l3 : Int32} {g : hG} {e : hE} (H :
    zbr ((g.1 1046 22) = 0)
    (hci d 229 [.ref 1046, .ref 52] g e (fun x3 g1 e2 =>
        zbr (x3 = 0)
        (hcv d 228 [.ref 1046, .int 1] g1 e2 (fun g4 e5 =>
            zbr ((g4.1 1046 22) = 0)
            (hcv d 227 [.ref 1046] g4 e5 (fun g6 e7 =>
                hwv d zm_X8_sayZip k X 155 [(0, .ref 1046), (2, .int l2), (3, .int l3), (4, .int 0)] g6 e7) X)
            (hwv d zm_X8_sayZip k X 155 [(0, .ref 1046), (2, .int l2), (3, .int l3), (4, .int 0)] g4 e5)) X)
        (zbr ((g1.1 1046 22) = 0)
          (hcv d 227 [.ref 1046] g1 e2 (fun g8 e9 =>
              hwv d zm_X8_sayZip k X 155 [(0, .ref 1046), (2, .int l2), (3, .int l3), (4, .int 0)] g8 e9) X)
          (hwv d zm_X8_sayZip k X 155 [(0, .ref 1046), (2, .int l2), (3, .int l3), (4, .int 0)] g1 e2))) X)
    (zbr ((g.1 1046 22) = 0)
      (hcv d 227 [.ref 1046] g e (fun g10 e11 =>
          hwv d zm_X8_sayZip k X 155 [(0, .ref 1046), (2, .int l2), (3, .int l3), (4, .int 0)] g10 e11) X)
      (hwv d zm_X8_sayZip k X 155 [(0, .ref 1046), (2, .int l2), (3, .int l3), (4, .int 0)] g e))) : hwv d zm_X8_sayZip k X 119 [(0, .ref 1046), (2, .int l2), (3, .int l3)] g e := by
  refine zq_aload (pc' := 120) rfl rfl rfl rfl ?_
  refine zq_getI (pc' := 123) rfl rfl rfl (hp_gI rfl) ?_
  refine zq_ifne (pc' := 126) rfl rfl rfl rfl (And.intro (fun c => ?_) (fun c => ?_))
  · have H := H.1 c
    refine zq_aload (pc' := 127) rfl rfl rfl rfl ?_
    refine zq_rpush (pc' := 130) rfl rfl rfl ?_
    refine hq_calli (pc' := 133) rfl rfl rfl rfl rfl rfl h_Xv ?_
    refine hmonoi H ?_
    intro x3 g1 e2 H
    refine zq_ifne (pc' := 136) rfl rfl rfl rfl (And.intro (fun c => ?_) (fun c => ?_))
    · have H := H.1 c
      refine zq_aload (pc' := 137) rfl rfl rfl rfl ?_
      refine zq_ipush (pc' := 138) rfl rfl rfl ?_
      refine hq_callv (pc' := 141) rfl rfl rfl rfl rfl rfl h_Xv ?_
      refine hmonov H ?_
      intro g4 e5 H
      refine zq_aload (pc' := 142) rfl rfl rfl rfl ?_
      refine zq_getI (pc' := 145) rfl rfl rfl (hp_gI rfl) ?_
      refine zq_ifne (pc' := 148) rfl rfl rfl rfl (And.intro (fun c => ?_) (fun c => ?_))
      · have H := H.1 c
        refine zq_aload (pc' := 149) rfl rfl rfl rfl ?_
        refine hq_callv (pc' := 152) rfl rfl rfl rfl rfl rfl h_Xv ?_
        refine hmonov H ?_
        intro g6 e7 H
        refine zq_ipush (pc' := 153) rfl rfl rfl ?_
        refine zq_istore_c (pc' := 155) rfl rfl ?_
        exact H
      · have H := H.2 c
        refine zq_ipush (pc' := 153) rfl rfl rfl ?_
        refine zq_istore_c (pc' := 155) rfl rfl ?_
        exact H
    · have H := H.2 c
      refine zq_aload (pc' := 142) rfl rfl rfl rfl ?_
      refine zq_getI (pc' := 145) rfl rfl rfl (hp_gI rfl) ?_
      refine zq_ifne (pc' := 148) rfl rfl rfl rfl (And.intro (fun c => ?_) (fun c => ?_))
      · have H := H.1 c
        refine zq_aload (pc' := 149) rfl rfl rfl rfl ?_
        refine hq_callv (pc' := 152) rfl rfl rfl rfl rfl rfl h_Xv ?_
        refine hmonov H ?_
        intro g8 e9 H
        refine zq_ipush (pc' := 153) rfl rfl rfl ?_
        refine zq_istore_c (pc' := 155) rfl rfl ?_
        exact H
      · have H := H.2 c
        refine zq_ipush (pc' := 153) rfl rfl rfl ?_
        refine zq_istore_c (pc' := 155) rfl rfl ?_
        exact H
  · have H := H.2 c
    refine zq_aload (pc' := 142) rfl rfl rfl rfl ?_
    refine zq_getI (pc' := 145) rfl rfl rfl (hp_gI rfl) ?_
    refine zq_ifne (pc' := 148) rfl rfl rfl rfl (And.intro (fun c => ?_) (fun c => ?_))
    · have H := H.1 c
      refine zq_aload (pc' := 149) rfl rfl rfl rfl ?_
      refine hq_callv (pc' := 152) rfl rfl rfl rfl rfl rfl h_Xv ?_
      refine hmonov H ?_
      intro g10 e11 H
      refine zq_ipush (pc' := 153) rfl rfl rfl ?_
      refine zq_istore_c (pc' := 155) rfl rfl ?_
      exact H
    · have H := H.2 c
      refine zq_ipush (pc' := 153) rfl rfl rfl ?_
      refine zq_istore_c (pc' := 155) rfl rfl ?_
      exact H
theorem zh_X8_sayZip_155 {d : Nat} {k : hG → hE → Prop} {X : Nat → hG → hE → Prop} {l2 : Int32} {l3 : Int32} {l4 : Int32} {g : hG} {e : hE} (H :
    zbr (l3 ≤ l4)
    (hwv d zm_X8_sayZip k X 193 [(0, .ref 1046), (2, .int l2), (3, .int l3)] g e)
    (zbr ((g.1 1046 22) = 0)
      (hci d 233 [.ref 1046, .int 0, .int 9] g e (fun x3 g1 e2 =>
          hin ((16 * l2) + l4) 128 ∧
          hwv d zm_X8_sayZip k X 155 [(0, .ref 1046), (2, .int l2), (3, .int l3), (4, .int (l4 + 1))] (sI g1 1054 ((16 * l2) + l4).toNatClampNeg x3) e2) X)
      (hwv d zm_X8_sayZip k X 193 [(0, .ref 1046), (2, .int l2), (3, .int l3)] g e))) : hwv d zm_X8_sayZip k X 155 [(0, .ref 1046), (2, .int l2), (3, .int l3), (4, .int l4)] g e := by
  refine zq_iload (pc' := 157) rfl rfl rfl rfl ?_
  refine zq_iload (pc' := 158) rfl rfl rfl rfl ?_
  refine zq_icge_c (pc' := 161) (lt := [(0, .ref 1046), (2, .int l2), (3, .int l3)]) (lf := [(0, .ref 1046), (2, .int l2), (3, .int l3), (4, .int l4)]) rfl rfl rfl rfl (And.intro (fun c => ?_) (fun c => ?_))
  · have H := H.1 c
    exact H
  · have H := H.2 c
    refine zq_aload (pc' := 162) rfl rfl rfl rfl ?_
    refine zq_getI (pc' := 165) rfl rfl rfl (hp_gI rfl) ?_
    refine zq_ifne_c (pc' := 168) (lt := [(0, .ref 1046), (2, .int l2), (3, .int l3)]) (lf := [(0, .ref 1046), (2, .int l2), (3, .int l3), (4, .int l4)]) rfl rfl rfl rfl (And.intro (fun c => ?_) (fun c => ?_))
    · have H := H.1 c
      refine zq_aload (pc' := 169) rfl rfl rfl rfl ?_
      refine zq_getR (pc' := 172) rfl rfl rfl (hp_gC rfl) ?_
      refine zq_ipush (pc' := 174) rfl rfl rfl ?_
      refine zq_iload (pc' := 175) rfl rfl rfl rfl ?_
      refine zq_imul (pc' := 176) rfl rfl rfl ?_
      refine zq_iload (pc' := 178) rfl rfl rfl rfl ?_
      refine zq_iadd (pc' := 179) rfl rfl rfl ?_
      refine zq_aload (pc' := 180) rfl rfl rfl rfl ?_
      refine zq_ipush (pc' := 181) rfl rfl rfl ?_
      refine zq_ipush (pc' := 183) rfl rfl rfl ?_
      refine hq_calli (pc' := 186) rfl rfl rfl rfl rfl rfl h_Xv ?_
      refine hmonoi H ?_
      intro x3 g1 e2 H
      obtain ⟨hi4, H⟩ := H
      refine zq_iast (pc' := 187) rfl rfl rfl (hp_is rfl hi4) ?_
      refine zq_iinc (pc' := 190) rfl rfl rfl rfl ?_
      refine zq_goto_c (pc' := 155) rfl rfl ?_
      exact H
    · have H := H.2 c
      exact H
theorem zh_X8_sayZip_193 {d : Nat} {k : hG → hE → Prop} {X : Nat → hG → hE → Prop} {l2 : Int32} {l3 : Int32} {g : hG} {e : hE} (H :
    hin l2 8 ∧
    k (sI (sI g 1052 l2.toNatClampNeg l3) 1050 4 (((sI g 1052 l2.toNatClampNeg l3).1 1050 4) + 1)) e) : hwv d zm_X8_sayZip k X 193 [(0, .ref 1046), (2, .int l2), (3, .int l3)] g e := by
  refine zq_aload (pc' := 194) rfl rfl rfl rfl ?_
  refine zq_getR (pc' := 197) rfl rfl rfl (hp_gC rfl) ?_
  refine zq_iload (pc' := 198) rfl rfl rfl rfl ?_
  refine zq_iload (pc' := 199) rfl rfl rfl rfl ?_
  obtain ⟨hi1, H⟩ := H
  refine zq_iast (pc' := 200) rfl rfl rfl (hp_is rfl hi1) ?_
  refine zq_aload (pc' := 201) rfl rfl rfl rfl ?_
  refine zq_getR (pc' := 204) rfl rfl rfl (hp_gC rfl) ?_
  refine zq_ipush (pc' := 205) rfl rfl rfl ?_
  refine zq_dup2 (pc' := 206) rfl rfl rfl rfl rfl ?_
  refine zq_iald (pc' := 207) rfl rfl rfl (hp_ia rfl (by unfold hin; decide)) ?_
  refine zq_ipush (pc' := 208) rfl rfl rfl ?_
  refine zq_iadd (pc' := 209) rfl rfl rfl ?_
  refine zq_iast (pc' := 210) rfl rfl rfl (hp_is rfl (by unfold hin; decide)) ?_
  exact zq_vret rfl (Exists.intro _ (Exists.intro _ (And.intro rfl H)))
theorem zh_X8_sayStrain {d : Nat} {k : hG → hE → Prop} {X : Nat → hG → hE → Prop}  {g : hG} {e : hE} (H :
    zbr ((g.1 1046 18) = 2)
    (hwv d zm_X8_sayStrain k X 13 [(0, .ref 1046)] g e)
    (hcv d 228 [.ref 1046, .int 1] g e (fun g1 e2 =>
        hwv d zm_X8_sayStrain k X 13 [(0, .ref 1046)] g1 e2) X)) : hcv (d + 1) 242 [.ref 1046] g e k X := by
  refine hent (M := zm_X8_sayStrain) (show hT 1046 = some (.inr _) from rfl) rfl rfl rfl rfl rfl ?_
  refine zq_aload (pc' := 1) rfl rfl rfl rfl ?_
  refine zq_getI (pc' := 4) rfl rfl rfl (hp_gI rfl) ?_
  refine zq_ipush (pc' := 5) rfl rfl rfl ?_
  refine zq_iceq_c (pc' := 8) (lt := [(0, .ref 1046)]) (lf := [(0, .ref 1046)]) rfl rfl rfl rfl (And.intro (fun c => ?_) (fun c => ?_))
  · have H := H.1 c
    exact H
  · have H := H.2 c
    refine zq_aload (pc' := 9) rfl rfl rfl rfl ?_
    refine zq_ipush (pc' := 10) rfl rfl rfl ?_
    refine hq_callv_c (pc' := 13) rfl rfl rfl rfl rfl h_Xv ?_
    refine hmonov H ?_
    intro g1 e2 H
    exact H
theorem zh_X8_sayStrain_13 {d : Nat} {k : hG → hE → Prop} {X : Nat → hG → hE → Prop}  {g : hG} {e : hE} (H :
    zbr ((g.1 1046 22) = 0)
    (zbr ((g.1 1046 18) = 2)
      (zbr ((g.1 1050 5) = 8)
        (hcv d 228 [.ref 1046, .int 2] g e (fun g2 e3 =>
            hwv d zm_X8_sayStrain k X 44 [(0, .ref 1046)] g2 e3) X)
        (hwv d zm_X8_sayStrain k X 44 [(0, .ref 1046)] g e))
      (k g e))
    (k g e)) : hwv d zm_X8_sayStrain k X 13 [(0, .ref 1046)] g e := by
  refine zq_aload (pc' := 14) rfl rfl rfl rfl ?_
  refine zq_getI (pc' := 17) rfl rfl rfl (hp_gI rfl) ?_
  refine zq_ifne (pc' := 20) rfl rfl rfl rfl (And.intro (fun c => ?_) (fun c => ?_))
  · have H := H.1 c
    refine zq_aload (pc' := 21) rfl rfl rfl rfl ?_
    refine zq_getI (pc' := 24) rfl rfl rfl (hp_gI rfl) ?_
    refine zq_ipush (pc' := 25) rfl rfl rfl ?_
    refine zq_icne (pc' := 28) rfl rfl rfl rfl (And.intro (fun c => ?_) (fun c => ?_))
    · have H := H.1 c
      refine zq_aload (pc' := 29) rfl rfl rfl rfl ?_
      refine zq_getR (pc' := 32) rfl rfl rfl (hp_gC rfl) ?_
      refine zq_ipush (pc' := 33) rfl rfl rfl ?_
      refine zq_iald (pc' := 34) rfl rfl rfl (hp_ia rfl (by unfold hin; decide)) ?_
      refine zq_ipush (pc' := 36) rfl rfl rfl ?_
      refine zq_icne_c (pc' := 39) (lt := [(0, .ref 1046)]) (lf := [(0, .ref 1046)]) rfl rfl rfl rfl (And.intro (fun c => ?_) (fun c => ?_))
      · have H := H.1 c
        refine zq_aload (pc' := 40) rfl rfl rfl rfl ?_
        refine zq_ipush (pc' := 41) rfl rfl rfl ?_
        refine hq_callv_c (pc' := 44) rfl rfl rfl rfl rfl h_Xv ?_
        refine hmonov H ?_
        intro g2 e3 H
        exact H
      · have H := H.2 c
        exact H
    · have H := H.2 c
      exact zq_vret rfl (Exists.intro _ (Exists.intro _ (And.intro rfl H)))
  · have H := H.2 c
    exact zq_vret rfl (Exists.intro _ (Exists.intro _ (And.intro rfl H)))
theorem zh_X8_sayStrain_44 {d : Nat} {k : hG → hE → Prop} {X : Nat → hG → hE → Prop}  {g : hG} {e : hE} (H :
    hci d 233 [.ref 1046, .int 0, .int 9] g e (fun x3 g1 e2 =>
      zbr ((g1.1 1046 22) = 0)
      (hin (8 + (g1.1 1050 5)) 16 ∧
        hwv d zm_X8_sayStrain k X 74 [(0, .ref 1046)] (sI g1 1055 (8 + (g1.1 1050 5)).toNatClampNeg x3) e2)
      (hwv d zm_X8_sayStrain k X 74 [(0, .ref 1046)] g1 e2)) X) : hwv d zm_X8_sayStrain k X 44 [(0, .ref 1046)] g e := by
  refine zq_aload (pc' := 45) rfl rfl rfl rfl ?_
  refine zq_ipush (pc' := 46) rfl rfl rfl ?_
  refine zq_ipush (pc' := 48) rfl rfl rfl ?_
  refine hq_calli (pc' := 51) rfl rfl rfl rfl rfl rfl h_Xv ?_
  refine hmonoi H ?_
  intro x3 g1 e2 H
  refine zq_istore (pc' := 52) rfl rfl rfl ?_
  refine zq_aload (pc' := 53) rfl rfl rfl rfl ?_
  refine zq_getI (pc' := 56) rfl rfl rfl (hp_gI rfl) ?_
  refine zq_ifne_c (pc' := 59) (lt := [(0, .ref 1046)]) (lf := [(1, .int x3), (0, .ref 1046)]) rfl rfl rfl rfl (And.intro (fun c => ?_) (fun c => ?_))
  · have H := H.1 c
    refine zq_aload (pc' := 60) rfl rfl rfl rfl ?_
    refine zq_getR (pc' := 63) rfl rfl rfl (hp_gC rfl) ?_
    refine zq_ipush (pc' := 65) rfl rfl rfl ?_
    refine zq_aload (pc' := 66) rfl rfl rfl rfl ?_
    refine zq_getR (pc' := 69) rfl rfl rfl (hp_gC rfl) ?_
    refine zq_ipush (pc' := 70) rfl rfl rfl ?_
    refine zq_iald (pc' := 71) rfl rfl rfl (hp_ia rfl (by unfold hin; decide)) ?_
    refine zq_iadd (pc' := 72) rfl rfl rfl ?_
    refine zq_iload (pc' := 73) rfl rfl rfl rfl ?_
    obtain ⟨hi5, H⟩ := H
    refine zq_iast_c (pc' := 74) rfl rfl (hp_is rfl hi5) ?_
    exact H
  · have H := H.2 c
    exact H
theorem zh_X8_sayStrain_74 {d : Nat} {k : hG → hE → Prop} {X : Nat → hG → hE → Prop}  {g : hG} {e : hE} (H :
    zbr ((g.1 1046 22) = 0)
    (hwv d zm_X8_sayStrain k X 13 [(0, .ref 1046)] (sI g 1050 5 ((g.1 1050 5) + 1)) e)
    (hwv d zm_X8_sayStrain k X 13 [(0, .ref 1046)] (sI g 1050 5 ((g.1 1050 5) + 0)) e)) : hwv d zm_X8_sayStrain k X 74 [(0, .ref 1046)] g e := by
  refine zq_aload (pc' := 75) rfl rfl rfl rfl ?_
  refine zq_getR (pc' := 78) rfl rfl rfl (hp_gC rfl) ?_
  refine zq_ipush (pc' := 79) rfl rfl rfl ?_
  refine zq_dup2 (pc' := 80) rfl rfl rfl rfl rfl ?_
  refine zq_iald (pc' := 81) rfl rfl rfl (hp_ia rfl (by unfold hin; decide)) ?_
  refine zq_aload (pc' := 82) rfl rfl rfl rfl ?_
  refine zq_getI (pc' := 85) rfl rfl rfl (hp_gI rfl) ?_
  refine zq_ifne (pc' := 88) rfl rfl rfl rfl (And.intro (fun c => ?_) (fun c => ?_))
  · have H := H.1 c
    refine zq_ipush (pc' := 89) rfl rfl rfl ?_
    refine zq_goto (pc' := 93) rfl rfl rfl ?_
    refine zq_iadd (pc' := 94) rfl rfl rfl ?_
    refine zq_iast (pc' := 95) rfl rfl rfl (hp_is rfl (by unfold hin; decide)) ?_
    refine zq_goto_c (pc' := 13) rfl rfl ?_
    exact H
  · have H := H.2 c
    refine zq_ipush (pc' := 93) rfl rfl rfl ?_
    refine zq_iadd (pc' := 94) rfl rfl rfl ?_
    refine zq_iast (pc' := 95) rfl rfl rfl (hp_is rfl (by unfold hin; decide)) ?_
    refine zq_goto_c (pc' := 13) rfl rfl ?_
    exact H
theorem zh_X8_sayOnce {d : Nat} {k : hG → hE → Prop} {X : Nat → hG → hE → Prop} {p1 : Int32} {g : hG} {e : hE} (H :
    hcv d 227 [.ref 1046] g e (fun g1 e2 =>
      zbr (p1 = 1)
      (hcv d 242 [.ref 1046] g1 e2 (fun g3 e4 =>
          k g3 e4) X)
      (zbr (p1 = 4)
        (zbr (((sI g1 1046 25 1).1 1046 25) = 0)
          (hcv d 240 [.ref 1046, .int 0] (sR (sI g1 1046 25 1) 1046 3 1048) e2 (fun g5 e6 =>
              k g5 e6) X)
          (hcv d 240 [.ref 1046, .int 0] (sR (sI g1 1046 25 1) 1046 3 1049) e2 (fun g7 e8 =>
              k g7 e8) X))
        (zbr (((sI g1 1046 25 0).1 1046 25) = 0)
          (hcv d 240 [.ref 1046, .int 0] (sR (sI g1 1046 25 0) 1046 3 1048) e2 (fun g9 e10 =>
              k g9 e10) X)
          (hcv d 240 [.ref 1046, .int 0] (sR (sI g1 1046 25 0) 1046 3 1049) e2 (fun g11 e12 =>
              k g11 e12) X)))) X) : hcv (d + 1) 243 [.ref 1046, .int p1] g e k X := by
  refine hent (M := zm_X8_sayOnce) (show hT 1046 = some (.inr _) from rfl) rfl rfl rfl rfl rfl ?_
  refine zq_aload (pc' := 1) rfl rfl rfl rfl ?_
  refine hq_callv (pc' := 4) rfl rfl rfl rfl rfl rfl h_Xv ?_
  refine hmonov H ?_
  intro g1 e2 H
  refine zq_iload (pc' := 5) rfl rfl rfl rfl ?_
  refine zq_ipush (pc' := 6) rfl rfl rfl ?_
  refine zq_icne (pc' := 9) rfl rfl rfl rfl (And.intro (fun c => ?_) (fun c => ?_))
  · have H := H.1 c
    refine zq_aload (pc' := 10) rfl rfl rfl rfl ?_
    refine hq_callv (pc' := 13) rfl rfl rfl rfl rfl rfl h_Xv ?_
    refine hmonov H ?_
    intro g3 e4 H
    exact zq_vret rfl (Exists.intro _ (Exists.intro _ (And.intro rfl H)))
  · have H := H.2 c
    refine zq_aload (pc' := 15) rfl rfl rfl rfl ?_
    refine zq_iload (pc' := 16) rfl rfl rfl rfl ?_
    refine zq_ipush (pc' := 17) rfl rfl rfl ?_
    refine zq_icne (pc' := 20) rfl rfl rfl rfl (And.intro (fun c => ?_) (fun c => ?_))
    · have H := H.1 c
      refine zq_ipush (pc' := 21) rfl rfl rfl ?_
      refine zq_goto (pc' := 25) rfl rfl rfl ?_
      refine zq_put (pc' := 28) rfl rfl rfl (Or.inr rfl) (hp_sI rfl) ?_
      refine zq_aload (pc' := 29) rfl rfl rfl rfl ?_
      refine zq_aload (pc' := 30) rfl rfl rfl rfl ?_
      refine zq_getI (pc' := 33) rfl rfl rfl (hp_gI rfl) ?_
      refine zq_ifeq (pc' := 36) rfl rfl rfl rfl (And.intro (fun c => ?_) (fun c => ?_))
      · have H := H.1 c
        refine zq_aload (pc' := 44) rfl rfl rfl rfl ?_
        refine zq_getR (pc' := 47) rfl rfl rfl (hp_gC rfl) ?_
        refine zq_put (pc' := 50) rfl rfl rfl trivial (hp_sR rfl) ?_
        refine zq_aload (pc' := 51) rfl rfl rfl rfl ?_
        refine zq_ipush (pc' := 52) rfl rfl rfl ?_
        refine hq_callv (pc' := 55) rfl rfl rfl rfl rfl rfl h_Xv ?_
        refine hmonov H ?_
        intro g5 e6 H
        exact zq_vret rfl (Exists.intro _ (Exists.intro _ (And.intro rfl H)))
      · have H := H.2 c
        refine zq_aload (pc' := 37) rfl rfl rfl rfl ?_
        refine zq_getR (pc' := 40) rfl rfl rfl (hp_gC rfl) ?_
        refine zq_goto (pc' := 47) rfl rfl rfl ?_
        refine zq_put (pc' := 50) rfl rfl rfl trivial (hp_sR rfl) ?_
        refine zq_aload (pc' := 51) rfl rfl rfl rfl ?_
        refine zq_ipush (pc' := 52) rfl rfl rfl ?_
        refine hq_callv (pc' := 55) rfl rfl rfl rfl rfl rfl h_Xv ?_
        refine hmonov H ?_
        intro g7 e8 H
        exact zq_vret rfl (Exists.intro _ (Exists.intro _ (And.intro rfl H)))
    · have H := H.2 c
      refine zq_ipush (pc' := 25) rfl rfl rfl ?_
      refine zq_put (pc' := 28) rfl rfl rfl (Or.inl rfl) (hp_sI rfl) ?_
      refine zq_aload (pc' := 29) rfl rfl rfl rfl ?_
      refine zq_aload (pc' := 30) rfl rfl rfl rfl ?_
      refine zq_getI (pc' := 33) rfl rfl rfl (hp_gI rfl) ?_
      refine zq_ifeq (pc' := 36) rfl rfl rfl rfl (And.intro (fun c => ?_) (fun c => ?_))
      · have H := H.1 c
        refine zq_aload (pc' := 44) rfl rfl rfl rfl ?_
        refine zq_getR (pc' := 47) rfl rfl rfl (hp_gC rfl) ?_
        refine zq_put (pc' := 50) rfl rfl rfl trivial (hp_sR rfl) ?_
        refine zq_aload (pc' := 51) rfl rfl rfl rfl ?_
        refine zq_ipush (pc' := 52) rfl rfl rfl ?_
        refine hq_callv (pc' := 55) rfl rfl rfl rfl rfl rfl h_Xv ?_
        refine hmonov H ?_
        intro g9 e10 H
        exact zq_vret rfl (Exists.intro _ (Exists.intro _ (And.intro rfl H)))
      · have H := H.2 c
        refine zq_aload (pc' := 37) rfl rfl rfl rfl ?_
        refine zq_getR (pc' := 40) rfl rfl rfl (hp_gC rfl) ?_
        refine zq_goto (pc' := 47) rfl rfl rfl ?_
        refine zq_put (pc' := 50) rfl rfl rfl trivial (hp_sR rfl) ?_
        refine zq_aload (pc' := 51) rfl rfl rfl rfl ?_
        refine zq_ipush (pc' := 52) rfl rfl rfl ?_
        refine hq_callv (pc' := 55) rfl rfl rfl rfl rfl rfl h_Xv ?_
        refine hmonov H ?_
        intro g11 e12 H
        exact zq_vret rfl (Exists.intro _ (Exists.intro _ (And.intro rfl H)))
theorem zh_X8_readLine {d : Nat} {k : Int32 → hG → hE → Prop} {X : Nat → hG → hE → Prop} {p1 : Int32} {g : hG} {e : hE} (H :
    hci d 230 [.ref 1046, .ref 1047] g e (fun x3 g1 e2 =>
      hci d 229 [.ref 1046, .ref 34] g1 e2 (fun x6 g4 e5 =>
        zbr (x6 = 0)
        (hci d 229 [.ref 1046, .ref 54] g4 e5 (fun x9 g7 e8 =>
            zbr (x9 = 0)
            (hci d 229 [.ref 1046, .ref 56] g7 e8 (fun x12 g10 e11 =>
                zbr (x12 = 0)
                (zbr ((0 &&& p1) = 0)
                  (hwi d zm_X8_readLine k X 63 [(0, .ref 1046), (1, .int p1), (2, .int x3), (3, .int 0)] g10 e11)
                  (hcv d 228 [.ref 1046, .int 5] g10 e11 (fun g13 e14 =>
                      hwi d zm_X8_readLine k X 63 [(0, .ref 1046), (1, .int p1), (2, .int x3), (3, .int 0)] g13 e14) X))
                (zbr ((4 &&& p1) = 0)
                  (hwi d zm_X8_readLine k X 63 [(0, .ref 1046), (1, .int p1), (2, .int x3), (3, .int 4)] g10 e11)
                  (hcv d 228 [.ref 1046, .int 5] g10 e11 (fun g15 e16 =>
                      hwi d zm_X8_readLine k X 63 [(0, .ref 1046), (1, .int p1), (2, .int x3), (3, .int 4)] g15 e16) X))) X)
            (zbr ((2 &&& p1) = 0)
              (hwi d zm_X8_readLine k X 63 [(0, .ref 1046), (1, .int p1), (2, .int x3), (3, .int 2)] g7 e8)
              (hcv d 228 [.ref 1046, .int 5] g7 e8 (fun g17 e18 =>
                  hwi d zm_X8_readLine k X 63 [(0, .ref 1046), (1, .int p1), (2, .int x3), (3, .int 2)] g17 e18) X))) X)
        (zbr ((1 &&& p1) = 0)
          (hwi d zm_X8_readLine k X 63 [(0, .ref 1046), (1, .int p1), (2, .int x3), (3, .int 1)] g4 e5)
          (hcv d 228 [.ref 1046, .int 5] g4 e5 (fun g19 e20 =>
              hwi d zm_X8_readLine k X 63 [(0, .ref 1046), (1, .int p1), (2, .int x3), (3, .int 1)] g19 e20) X))) X) X) : hci (d + 1) 244 [.ref 1046, .int p1] g e k X := by
  refine hent (M := zm_X8_readLine) (show hT 1046 = some (.inr _) from rfl) rfl rfl rfl rfl rfl ?_
  refine zq_aload (pc' := 1) rfl rfl rfl rfl ?_
  refine zq_aload (pc' := 2) rfl rfl rfl rfl ?_
  refine zq_getR (pc' := 5) rfl rfl rfl (hp_gC rfl) ?_
  refine hq_calli (pc' := 8) rfl rfl rfl rfl rfl rfl h_Xi ?_
  refine hmonoi H ?_
  intro x3 g1 e2 H
  refine zq_istore (pc' := 9) rfl rfl rfl ?_
  refine zq_aload (pc' := 10) rfl rfl rfl rfl ?_
  refine zq_rpush (pc' := 12) rfl rfl rfl ?_
  refine hq_calli (pc' := 15) rfl rfl rfl rfl rfl rfl h_Xi ?_
  refine hmonoi H ?_
  intro x6 g4 e5 H
  refine zq_ifeq (pc' := 18) rfl rfl rfl rfl (And.intro (fun c => ?_) (fun c => ?_))
  · have H := H.1 c
    refine zq_aload (pc' := 23) rfl rfl rfl rfl ?_
    refine zq_rpush (pc' := 26) rfl rfl rfl ?_
    refine hq_calli (pc' := 29) rfl rfl rfl rfl rfl rfl h_Xi ?_
    refine hmonoi H ?_
    intro x9 g7 e8 H
    refine zq_ifeq (pc' := 32) rfl rfl rfl rfl (And.intro (fun c => ?_) (fun c => ?_))
    · have H := H.1 c
      refine zq_aload (pc' := 37) rfl rfl rfl rfl ?_
      refine zq_rpush (pc' := 40) rfl rfl rfl ?_
      refine hq_calli (pc' := 43) rfl rfl rfl rfl rfl rfl h_Xi ?_
      refine hmonoi H ?_
      intro x12 g10 e11 H
      refine zq_ifeq (pc' := 46) rfl rfl rfl rfl (And.intro (fun c => ?_) (fun c => ?_))
      · have H := H.1 c
        refine zq_ipush (pc' := 51) rfl rfl rfl ?_
        refine zq_istore (pc' := 52) rfl rfl rfl ?_
        refine zq_iload (pc' := 53) rfl rfl rfl rfl ?_
        refine zq_iload (pc' := 54) rfl rfl rfl rfl ?_
        refine zq_iand (pc' := 55) rfl rfl rfl ?_
        refine zq_ifeq_c (pc' := 58) (lt := [(0, .ref 1046), (1, .int p1), (2, .int x3), (3, .int 0)]) (lf := [(3, .int 0), (2, .int x3), (0, .ref 1046), (1, .int p1)]) rfl rfl rfl rfl (And.intro (fun c => ?_) (fun c => ?_))
        · have H := H.1 c
          exact H
        · have H := H.2 c
          refine zq_aload (pc' := 59) rfl rfl rfl rfl ?_
          refine zq_ipush (pc' := 60) rfl rfl rfl ?_
          refine hq_callv_c (pc' := 63) rfl rfl rfl rfl rfl h_Xi ?_
          refine hmonov H ?_
          intro g13 e14 H
          exact H
      · have H := H.2 c
        refine zq_ipush (pc' := 47) rfl rfl rfl ?_
        refine zq_goto (pc' := 51) rfl rfl rfl ?_
        refine zq_istore (pc' := 52) rfl rfl rfl ?_
        refine zq_iload (pc' := 53) rfl rfl rfl rfl ?_
        refine zq_iload (pc' := 54) rfl rfl rfl rfl ?_
        refine zq_iand (pc' := 55) rfl rfl rfl ?_
        refine zq_ifeq_c (pc' := 58) (lt := [(0, .ref 1046), (1, .int p1), (2, .int x3), (3, .int 4)]) (lf := [(3, .int 4), (2, .int x3), (0, .ref 1046), (1, .int p1)]) rfl rfl rfl rfl (And.intro (fun c => ?_) (fun c => ?_))
        · have H := H.1 c
          exact H
        · have H := H.2 c
          refine zq_aload (pc' := 59) rfl rfl rfl rfl ?_
          refine zq_ipush (pc' := 60) rfl rfl rfl ?_
          refine hq_callv_c (pc' := 63) rfl rfl rfl rfl rfl h_Xi ?_
          refine hmonov H ?_
          intro g15 e16 H
          exact H
    · have H := H.2 c
      refine zq_ipush (pc' := 33) rfl rfl rfl ?_
      refine zq_goto (pc' := 51) rfl rfl rfl ?_
      refine zq_istore (pc' := 52) rfl rfl rfl ?_
      refine zq_iload (pc' := 53) rfl rfl rfl rfl ?_
      refine zq_iload (pc' := 54) rfl rfl rfl rfl ?_
      refine zq_iand (pc' := 55) rfl rfl rfl ?_
      refine zq_ifeq_c (pc' := 58) (lt := [(0, .ref 1046), (1, .int p1), (2, .int x3), (3, .int 2)]) (lf := [(3, .int 2), (2, .int x3), (0, .ref 1046), (1, .int p1)]) rfl rfl rfl rfl (And.intro (fun c => ?_) (fun c => ?_))
      · have H := H.1 c
        exact H
      · have H := H.2 c
        refine zq_aload (pc' := 59) rfl rfl rfl rfl ?_
        refine zq_ipush (pc' := 60) rfl rfl rfl ?_
        refine hq_callv_c (pc' := 63) rfl rfl rfl rfl rfl h_Xi ?_
        refine hmonov H ?_
        intro g17 e18 H
        exact H
  · have H := H.2 c
    refine zq_ipush (pc' := 19) rfl rfl rfl ?_
    refine zq_goto (pc' := 51) rfl rfl rfl ?_
    refine zq_istore (pc' := 52) rfl rfl rfl ?_
    refine zq_iload (pc' := 53) rfl rfl rfl rfl ?_
    refine zq_iload (pc' := 54) rfl rfl rfl rfl ?_
    refine zq_iand (pc' := 55) rfl rfl rfl ?_
    refine zq_ifeq_c (pc' := 58) (lt := [(0, .ref 1046), (1, .int p1), (2, .int x3), (3, .int 1)]) (lf := [(3, .int 1), (2, .int x3), (0, .ref 1046), (1, .int p1)]) rfl rfl rfl rfl (And.intro (fun c => ?_) (fun c => ?_))
    · have H := H.1 c
      exact H
    · have H := H.2 c
      refine zq_aload (pc' := 59) rfl rfl rfl rfl ?_
      refine zq_ipush (pc' := 60) rfl rfl rfl ?_
      refine hq_callv_c (pc' := 63) rfl rfl rfl rfl rfl h_Xi ?_
      refine hmonov H ?_
      intro g19 e20 H
      exact H
theorem zh_X8_readLine_63 {d : Nat} {k : Int32 → hG → hE → Prop} {X : Nat → hG → hE → Prop} {l1 : Int32} {l2 : Int32} {l3 : Int32} {g : hG} {e : hE} (H :
    zbr (l3 ≤ 0)
    (hwi d zm_X8_readLine k X 82 [(0, .ref 1046), (1, .int l1), (2, .int l2), (3, .int l3)] g e)
    (zbr ((g.1 1046 22) = 0)
      (hcv d 243 [.ref 1046, .int l3] g e (fun g1 e2 =>
          hcv d 232 [.ref 1046, .int 59] g1 e2 (fun g3 e4 =>
            k (l1 ||| l3) g3 e4) X) X)
      (hwi d zm_X8_readLine k X 82 [(0, .ref 1046), (1, .int l1), (2, .int l2), (3, .int l3)] g e))) : hwi d zm_X8_readLine k X 63 [(0, .ref 1046), (1, .int l1), (2, .int l2), (3, .int l3)] g e := by
  refine zq_iload (pc' := 64) rfl rfl rfl rfl ?_
  refine zq_ifle_c (pc' := 67) (lt := [(0, .ref 1046), (1, .int l1), (2, .int l2), (3, .int l3)]) (lf := [(0, .ref 1046), (1, .int l1), (2, .int l2), (3, .int l3)]) rfl rfl rfl rfl (And.intro (fun c => ?_) (fun c => ?_))
  · have H := H.1 c
    exact H
  · have H := H.2 c
    refine zq_aload (pc' := 68) rfl rfl rfl rfl ?_
    refine zq_getI (pc' := 71) rfl rfl rfl (hp_gI rfl) ?_
    refine zq_ifne_c (pc' := 74) (lt := [(0, .ref 1046), (1, .int l1), (2, .int l2), (3, .int l3)]) (lf := [(0, .ref 1046), (1, .int l1), (2, .int l2), (3, .int l3)]) rfl rfl rfl rfl (And.intro (fun c => ?_) (fun c => ?_))
    · have H := H.1 c
      refine zq_aload (pc' := 75) rfl rfl rfl rfl ?_
      refine zq_iload (pc' := 76) rfl rfl rfl rfl ?_
      refine hq_callv (pc' := 79) rfl rfl rfl rfl rfl rfl h_Xi ?_
      refine hmonov H ?_
      intro g1 e2 H
      refine zq_goto (pc' := 100) rfl rfl rfl ?_
      refine zq_aload (pc' := 101) rfl rfl rfl rfl ?_
      refine zq_ipush (pc' := 103) rfl rfl rfl ?_
      refine hq_callv (pc' := 106) rfl rfl rfl rfl rfl rfl h_Xi ?_
      refine hmonov H ?_
      intro g3 e4 H
      refine zq_iload (pc' := 107) rfl rfl rfl rfl ?_
      refine zq_iload (pc' := 108) rfl rfl rfl rfl ?_
      refine zq_ior (pc' := 109) rfl rfl rfl ?_
      exact zq_iret rfl trivial (Exists.intro _ (Exists.intro _ (And.intro rfl H)))
    · have H := H.2 c
      exact H
theorem zh_X8_readLine_82 {d : Nat} {k : Int32 → hG → hE → Prop} {X : Nat → hG → hE → Prop} {l1 : Int32} {l2 : Int32} {l3 : Int32} {g : hG} {e : hE} (H :
    zbr (l2 = (-1))
    (hcv d 228 [.ref 1046, .int 1] g e (fun g1 e2 =>
        hcv d 232 [.ref 1046, .int 59] g1 e2 (fun g3 e4 =>
          k (l1 ||| l3) g3 e4) X) X)
    (hcv d 241 [.ref 1046, .int l2] g e (fun g5 e6 =>
        hcv d 232 [.ref 1046, .int 59] g5 e6 (fun g7 e8 =>
          k (l1 ||| l3) g7 e8) X) X)) : hwi d zm_X8_readLine k X 82 [(0, .ref 1046), (1, .int l1), (2, .int l2), (3, .int l3)] g e := by
  refine zq_iload (pc' := 83) rfl rfl rfl rfl ?_
  refine zq_ipushn (pc' := 84) rfl rfl rfl ?_
  refine zq_iceq (pc' := 87) rfl rfl rfl rfl (And.intro (fun c => ?_) (fun c => ?_))
  · have H := H.1 c
    refine zq_aload (pc' := 96) rfl rfl rfl rfl ?_
    refine zq_ipush (pc' := 97) rfl rfl rfl ?_
    refine hq_callv (pc' := 100) rfl rfl rfl rfl rfl rfl h_Xi ?_
    refine hmonov H ?_
    intro g1 e2 H
    refine zq_aload (pc' := 101) rfl rfl rfl rfl ?_
    refine zq_ipush (pc' := 103) rfl rfl rfl ?_
    refine hq_callv (pc' := 106) rfl rfl rfl rfl rfl rfl h_Xi ?_
    refine hmonov H ?_
    intro g3 e4 H
    refine zq_iload (pc' := 107) rfl rfl rfl rfl ?_
    refine zq_iload (pc' := 108) rfl rfl rfl rfl ?_
    refine zq_ior (pc' := 109) rfl rfl rfl ?_
    exact zq_iret rfl trivial (Exists.intro _ (Exists.intro _ (And.intro rfl H)))
  · have H := H.2 c
    refine zq_aload (pc' := 88) rfl rfl rfl rfl ?_
    refine zq_iload (pc' := 89) rfl rfl rfl rfl ?_
    refine hq_callv (pc' := 92) rfl rfl rfl rfl rfl rfl h_Xi ?_
    refine hmonov H ?_
    intro g5 e6 H
    refine zq_goto (pc' := 100) rfl rfl rfl ?_
    refine zq_aload (pc' := 101) rfl rfl rfl rfl ?_
    refine zq_ipush (pc' := 103) rfl rfl rfl ?_
    refine hq_callv (pc' := 106) rfl rfl rfl rfl rfl rfl h_Xi ?_
    refine hmonov H ?_
    intro g7 e8 H
    refine zq_iload (pc' := 107) rfl rfl rfl rfl ?_
    refine zq_iload (pc' := 108) rfl rfl rfl rfl ?_
    refine zq_ior (pc' := 109) rfl rfl rfl ?_
    exact zq_iret rfl trivial (Exists.intro _ (Exists.intro _ (And.intro rfl H)))
theorem zh_X8_drawer {d : Nat} {k : Int32 → hG → hE → Prop} {X : Nat → hG → hE → Prop} {p1 : Int32} {g : hG} {e : hE} (H :
    zbr (p1 < 0)
    (hci d 215 [.ref 1046, .int 1] (sI g 1046 4 0) e (fun x3 g1 e2 =>
        k x3 g1 e2) X)
    (zbr (p1 ≤ ((sI g 1046 4 0).1 1046 15))
      (hwi d zm_X8_drawer k X 50 [(0, .ref 1046), (2, .int 0)] (sI (sI (sI (sI (sI (sI g 1046 4 0) 1046 15 0) 1046 17 p1) 1046 16 0) 1046 22 0) 1046 24 (-1)) e)
      (hci d 215 [.ref 1046, .int 1] (sI g 1046 4 0) e (fun x6 g4 e5 =>
          k x6 g4 e5) X))) : hci (d + 1) 245 [.ref 1046, .int p1] g e k X := by
  refine hent (M := zm_X8_drawer) (show hT 1046 = some (.inr _) from rfl) rfl rfl rfl rfl rfl ?_
  refine zq_aload (pc' := 1) rfl rfl rfl rfl ?_
  refine zq_ipush (pc' := 2) rfl rfl rfl ?_
  refine zq_put (pc' := 5) rfl rfl rfl trivial (hp_sI rfl) ?_
  refine zq_iload (pc' := 6) rfl rfl rfl rfl ?_
  refine zq_iflt (pc' := 9) rfl rfl rfl rfl (And.intro (fun c => ?_) (fun c => ?_))
  · have H := H.1 c
    refine zq_aload (pc' := 18) rfl rfl rfl rfl ?_
    refine zq_ipush (pc' := 19) rfl rfl rfl ?_
    refine hq_calli (pc' := 22) rfl rfl rfl rfl rfl rfl h_Xi ?_
    refine hmonoi H ?_
    intro x3 g1 e2 H
    exact zq_iret rfl trivial (Exists.intro _ (Exists.intro _ (And.intro rfl H)))
  · have H := H.2 c
    refine zq_iload (pc' := 10) rfl rfl rfl rfl ?_
    refine zq_aload (pc' := 11) rfl rfl rfl rfl ?_
    refine zq_getI (pc' := 14) rfl rfl rfl (hp_gI rfl) ?_
    refine zq_icle (pc' := 17) rfl rfl rfl rfl (And.intro (fun c => ?_) (fun c => ?_))
    · have H := H.1 c
      refine zq_aload (pc' := 24) rfl rfl rfl rfl ?_
      refine zq_ipush (pc' := 25) rfl rfl rfl ?_
      refine zq_put (pc' := 28) rfl rfl rfl trivial (hp_sI rfl) ?_
      refine zq_aload (pc' := 29) rfl rfl rfl rfl ?_
      refine zq_iload (pc' := 30) rfl rfl rfl rfl ?_
      refine zq_put (pc' := 33) rfl rfl rfl trivial (hp_sI rfl) ?_
      refine zq_aload (pc' := 34) rfl rfl rfl rfl ?_
      refine zq_ipush (pc' := 35) rfl rfl rfl ?_
      refine zq_put (pc' := 38) rfl rfl rfl trivial (hp_sI rfl) ?_
      refine zq_aload (pc' := 39) rfl rfl rfl rfl ?_
      refine zq_ipush (pc' := 40) rfl rfl rfl ?_
      refine zq_put (pc' := 43) rfl rfl rfl trivial (hp_sI rfl) ?_
      refine zq_aload (pc' := 44) rfl rfl rfl rfl ?_
      refine zq_ipushn (pc' := 45) rfl rfl rfl ?_
      refine zq_put (pc' := 48) rfl rfl rfl trivial (hp_sI rfl) ?_
      refine zq_ipush (pc' := 49) rfl rfl rfl ?_
      refine zq_istore_c (pc' := 50) rfl rfl ?_
      exact H
    · have H := H.2 c
      refine zq_aload (pc' := 18) rfl rfl rfl rfl ?_
      refine zq_ipush (pc' := 19) rfl rfl rfl ?_
      refine hq_calli (pc' := 22) rfl rfl rfl rfl rfl rfl h_Xi ?_
      refine hmonoi H ?_
      intro x6 g4 e5 H
      exact zq_iret rfl trivial (Exists.intro _ (Exists.intro _ (And.intro rfl H)))
theorem zh_X8_drawer_50 {d : Nat} {k : Int32 → hG → hE → Prop} {X : Nat → hG → hE → Prop} {l2 : Int32} {g : hG} {e : hE} (H :
    zbr (4 ≤ l2)
    (hcv d 227 [.ref 1046] g e (fun g1 e2 =>
        hwi d zm_X8_drawer k X 76 [(0, .ref 1046), (2, .int 0)] g1 e2) X)
    (hin (4 + l2) 8 ∧
      hwi d zm_X8_drawer k X 50 [(0, .ref 1046), (2, .int (l2 + 1))] (sI g 1050 (4 + l2).toNatClampNeg 0) e)) : hwi d zm_X8_drawer k X 50 [(0, .ref 1046), (2, .int l2)] g e := by
  refine zq_iload (pc' := 51) rfl rfl rfl rfl ?_
  refine zq_ipush (pc' := 52) rfl rfl rfl ?_
  refine zq_icge (pc' := 55) rfl rfl rfl rfl (And.intro (fun c => ?_) (fun c => ?_))
  · have H := H.1 c
    refine zq_aload (pc' := 71) rfl rfl rfl rfl ?_
    refine hq_callv (pc' := 74) rfl rfl rfl rfl rfl rfl h_Xi ?_
    refine hmonov H ?_
    intro g1 e2 H
    refine zq_ipush (pc' := 75) rfl rfl rfl ?_
    refine zq_istore_c (pc' := 76) rfl rfl ?_
    exact H
  · have H := H.2 c
    refine zq_aload (pc' := 56) rfl rfl rfl rfl ?_
    refine zq_getR (pc' := 59) rfl rfl rfl (hp_gC rfl) ?_
    refine zq_ipush (pc' := 60) rfl rfl rfl ?_
    refine zq_iload (pc' := 61) rfl rfl rfl rfl ?_
    refine zq_iadd (pc' := 62) rfl rfl rfl ?_
    refine zq_ipush (pc' := 63) rfl rfl rfl ?_
    obtain ⟨hi3, H⟩ := H
    refine zq_iast (pc' := 64) rfl rfl rfl (hp_is rfl hi3) ?_
    refine zq_iinc (pc' := 67) rfl rfl rfl rfl ?_
    refine zq_goto_c (pc' := 50) rfl rfl ?_
    exact H
theorem zh_X8_drawer_76 {d : Nat} {k : Int32 → hG → hE → Prop} {X : Nat → hG → hE → Prop} {l2 : Int32} {g : hG} {e : hE} (H :
    zbr ((g.1 1046 22) = 0)
    (zbr ((g.1 1046 18) = 0)
      (hwi d zm_X8_drawer k X 99 [(0, .ref 1046)] g e)
      (hci d 244 [.ref 1046, .int l2] g e (fun x3 g1 e2 =>
          hwi d zm_X8_drawer k X 76 [(0, .ref 1046), (2, .int x3)] g1 e2) X))
    (hwi d zm_X8_drawer k X 99 [(0, .ref 1046)] g e)) : hwi d zm_X8_drawer k X 76 [(0, .ref 1046), (2, .int l2)] g e := by
  refine zq_aload (pc' := 77) rfl rfl rfl rfl ?_
  refine zq_getI (pc' := 80) rfl rfl rfl (hp_gI rfl) ?_
  refine zq_ifne_c (pc' := 83) (lt := [(0, .ref 1046)]) (lf := [(0, .ref 1046), (2, .int l2)]) rfl rfl rfl rfl (And.intro (fun c => ?_) (fun c => ?_))
  · have H := H.1 c
    refine zq_aload (pc' := 84) rfl rfl rfl rfl ?_
    refine zq_getI (pc' := 87) rfl rfl rfl (hp_gI rfl) ?_
    refine zq_ifeq_c (pc' := 90) (lt := [(0, .ref 1046)]) (lf := [(0, .ref 1046), (2, .int l2)]) rfl rfl rfl rfl (And.intro (fun c => ?_) (fun c => ?_))
    · have H := H.1 c
      exact H
    · have H := H.2 c
      refine zq_aload (pc' := 91) rfl rfl rfl rfl ?_
      refine zq_iload (pc' := 92) rfl rfl rfl rfl ?_
      refine hq_calli (pc' := 95) rfl rfl rfl rfl rfl rfl h_Xi ?_
      refine hmonoi H ?_
      intro x3 g1 e2 H
      refine zq_istore (pc' := 96) rfl rfl rfl ?_
      refine zq_goto_c (pc' := 76) rfl rfl ?_
      exact H
  · have H := H.2 c
    exact H
theorem zh_X8_drawer_99 {d : Nat} {k : Int32 → hG → hE → Prop} {X : Nat → hG → hE → Prop}  {g : hG} {e : hE} (H :
    zbr ((g.1 1046 22) = 0)
    (hcv d 247 [.ref 1046] g e (fun g1 e2 =>
        k 0 g1 e2) X)
    (k ((sI (sI g 1046 24 (g.1 1046 23)) 1058 0 (((sI g 1046 24 (g.1 1046 23)).1 1058 0) + 1)).1 1046 22) (sI (sI g 1046 24 (g.1 1046 23)) 1058 0 (((sI g 1046 24 (g.1 1046 23)).1 1058 0) + 1)) e)) : hwi d zm_X8_drawer k X 99 [(0, .ref 1046)] g e := by
  refine zq_aload (pc' := 100) rfl rfl rfl rfl ?_
  refine zq_getI (pc' := 103) rfl rfl rfl (hp_gI rfl) ?_
  refine zq_ifeq (pc' := 106) rfl rfl rfl rfl (And.intro (fun c => ?_) (fun c => ?_))
  · have H := H.1 c
    refine zq_aload (pc' := 130) rfl rfl rfl rfl ?_
    refine hq_callv (pc' := 133) rfl rfl rfl rfl rfl rfl h_Xi ?_
    refine hmonov H ?_
    intro g1 e2 H
    refine zq_ipush (pc' := 134) rfl rfl rfl ?_
    exact zq_iret rfl trivial (Exists.intro _ (Exists.intro _ (And.intro rfl H)))
  · have H := H.2 c
    refine zq_aload (pc' := 107) rfl rfl rfl rfl ?_
    refine zq_aload (pc' := 108) rfl rfl rfl rfl ?_
    refine zq_getI (pc' := 111) rfl rfl rfl (hp_gI rfl) ?_
    refine zq_put (pc' := 114) rfl rfl rfl trivial (hp_sI rfl) ?_
    refine zq_aload (pc' := 115) rfl rfl rfl rfl ?_
    refine zq_getR (pc' := 118) rfl rfl rfl (hp_gC rfl) ?_
    refine zq_ipush (pc' := 119) rfl rfl rfl ?_
    refine zq_dup2 (pc' := 120) rfl rfl rfl rfl rfl ?_
    refine zq_iald (pc' := 121) rfl rfl rfl (hp_ia rfl (by unfold hin; decide)) ?_
    refine zq_ipush (pc' := 122) rfl rfl rfl ?_
    refine zq_iadd (pc' := 123) rfl rfl rfl ?_
    refine zq_iast (pc' := 124) rfl rfl rfl (hp_is rfl (by unfold hin; decide)) ?_
    refine zq_aload (pc' := 125) rfl rfl rfl rfl ?_
    refine zq_getI (pc' := 128) rfl rfl rfl (hp_gI rfl) ?_
    exact zq_iret rfl trivial (Exists.intro _ (Exists.intro _ (And.intro rfl H)))
theorem zh_X8_takeHalf {d : Nat} {k : hG → hE → Prop} {X : Nat → hG → hE → Prop} {p0 np0 : Nat} (hp0 : hT p0 = some (.inl (0, np0))) {g : hG} {e : hE} (H :
    hwv d zm_X8_takeHalf k X 2 [(0, .ref p0), (1, .int 0)] g e) : hcv (d + 1) 246 [.ref p0] g e k X := by
  refine hentS (M := zm_X8_takeHalf) rfl rfl rfl rfl ?_
  refine zq_ipush (pc' := 1) rfl rfl rfl ?_
  refine zq_istore_c (pc' := 2) rfl rfl ?_
  exact H
theorem zh_X8_takeHalf_2 {d : Nat} {k : hG → hE → Prop} {X : Nat → hG → hE → Prop} {l0 nl0 : Nat} (hl0 : hT l0 = some (.inl (0, nl0))) {l1 : Int32} {g : hG} {e : hE} (H :
    zbr (((nI nl0) / 2) ≤ l1)
    (k g e)
    (hin (((nI nl0) / 2) + l1) nl0 ∧
      hin l1 nl0 ∧
      hwv d zm_X8_takeHalf k X 2 [(0, .ref l0), (1, .int (l1 + 1))] (sI g l0 l1.toNatClampNeg (g.1 l0 (((nI nl0) / 2) + l1).toNatClampNeg)) e)) : hwv d zm_X8_takeHalf k X 2 [(0, .ref l0), (1, .int l1)] g e := by
  refine zq_iload (pc' := 3) rfl rfl rfl rfl ?_
  refine zq_aload (pc' := 4) rfl rfl rfl rfl ?_
  refine zq_alen (pc' := 5) rfl rfl rfl (hp_al hl0 rfl) ?_
  refine zq_ipush (pc' := 6) rfl rfl rfl ?_
  refine zq_idiv (pc' := 7) rfl rfl rfl (by decide) ?_
  refine zq_icge (pc' := 10) rfl rfl rfl rfl (And.intro (fun c => ?_) (fun c => ?_))
  · have H := H.1 c
    exact zq_vret rfl (Exists.intro _ (Exists.intro _ (And.intro rfl H)))
  · have H := H.2 c
    refine zq_aload (pc' := 11) rfl rfl rfl rfl ?_
    refine zq_iload (pc' := 12) rfl rfl rfl rfl ?_
    refine zq_aload (pc' := 13) rfl rfl rfl rfl ?_
    refine zq_aload (pc' := 14) rfl rfl rfl rfl ?_
    refine zq_alen (pc' := 15) rfl rfl rfl (hp_al hl0 rfl) ?_
    refine zq_ipush (pc' := 16) rfl rfl rfl ?_
    refine zq_idiv (pc' := 17) rfl rfl rfl (by decide) ?_
    refine zq_iload (pc' := 18) rfl rfl rfl rfl ?_
    refine zq_iadd (pc' := 19) rfl rfl rfl ?_
    obtain ⟨hi1, H⟩ := H
    refine zq_iald (pc' := 20) rfl rfl rfl (hp_ia hl0 hi1) ?_
    obtain ⟨hi2, H⟩ := H
    refine zq_iast (pc' := 21) rfl rfl rfl (hp_is hl0 hi2) ?_
    refine zq_iinc (pc' := 24) rfl rfl rfl rfl ?_
    refine zq_goto_c (pc' := 2) rfl rfl ?_
    exact H
theorem zh_X8_takeOver {d : Nat} {k : hG → hE → Prop} {X : Nat → hG → hE → Prop}  {g : hG} {e : hE} (H :
    hcv d 246 [.ref 1050] g e (fun g1 e2 =>
      hcv d 246 [.ref 1051] g1 e2 (fun g3 e4 =>
        hcv d 246 [.ref 1052] g3 e4 (fun g5 e6 =>
          hcv d 246 [.ref 1053] g5 e6 (fun g7 e8 =>
            hcv d 246 [.ref 1054] g7 e8 (fun g9 e10 =>
              hcv d 246 [.ref 1055] g9 e10 (fun g11 e12 =>
                hcv d 246 [.ref 1056] g11 e12 (fun g13 e14 =>
                  hcv d 246 [.ref 1057] g13 e14 (fun g15 e16 =>
                    hwv d zm_X8_takeOver k X 63 [(0, .ref 1046), (1, .int 0)] (sI g15 1046 31 0) e16) X) X) X) X) X) X) X) X) : hcv (d + 1) 247 [.ref 1046] g e k X := by
  refine hent (M := zm_X8_takeOver) (show hT 1046 = some (.inr _) from rfl) rfl rfl rfl rfl rfl ?_
  refine zq_aload (pc' := 1) rfl rfl rfl rfl ?_
  refine zq_getR (pc' := 4) rfl rfl rfl (hp_gC rfl) ?_
  refine hq_callv (pc' := 7) rfl rfl rfl rfl rfl rfl h_Xv ?_
  refine hmonov H ?_
  intro g1 e2 H
  refine zq_aload (pc' := 8) rfl rfl rfl rfl ?_
  refine zq_getR (pc' := 11) rfl rfl rfl (hp_gC rfl) ?_
  refine hq_callv (pc' := 14) rfl rfl rfl rfl rfl rfl h_Xv ?_
  refine hmonov H ?_
  intro g3 e4 H
  refine zq_aload (pc' := 15) rfl rfl rfl rfl ?_
  refine zq_getR (pc' := 18) rfl rfl rfl (hp_gC rfl) ?_
  refine hq_callv (pc' := 21) rfl rfl rfl rfl rfl rfl h_Xv ?_
  refine hmonov H ?_
  intro g5 e6 H
  refine zq_aload (pc' := 22) rfl rfl rfl rfl ?_
  refine zq_getR (pc' := 25) rfl rfl rfl (hp_gC rfl) ?_
  refine hq_callv (pc' := 28) rfl rfl rfl rfl rfl rfl h_Xv ?_
  refine hmonov H ?_
  intro g7 e8 H
  refine zq_aload (pc' := 29) rfl rfl rfl rfl ?_
  refine zq_getR (pc' := 32) rfl rfl rfl (hp_gC rfl) ?_
  refine hq_callv (pc' := 35) rfl rfl rfl rfl rfl rfl h_Xv ?_
  refine hmonov H ?_
  intro g9 e10 H
  refine zq_aload (pc' := 36) rfl rfl rfl rfl ?_
  refine zq_getR (pc' := 39) rfl rfl rfl (hp_gC rfl) ?_
  refine hq_callv (pc' := 42) rfl rfl rfl rfl rfl rfl h_Xv ?_
  refine hmonov H ?_
  intro g11 e12 H
  refine zq_aload (pc' := 43) rfl rfl rfl rfl ?_
  refine zq_getR (pc' := 46) rfl rfl rfl (hp_gC rfl) ?_
  refine hq_callv (pc' := 49) rfl rfl rfl rfl rfl rfl h_Xv ?_
  refine hmonov H ?_
  intro g13 e14 H
  refine zq_aload (pc' := 50) rfl rfl rfl rfl ?_
  refine zq_getR (pc' := 53) rfl rfl rfl (hp_gC rfl) ?_
  refine hq_callv (pc' := 56) rfl rfl rfl rfl rfl rfl h_Xv ?_
  refine hmonov H ?_
  intro g15 e16 H
  refine zq_aload (pc' := 57) rfl rfl rfl rfl ?_
  refine zq_ipush (pc' := 58) rfl rfl rfl ?_
  refine zq_put (pc' := 61) rfl rfl rfl trivial (hp_sI rfl) ?_
  refine zq_ipush (pc' := 62) rfl rfl rfl ?_
  refine zq_istore_c (pc' := 63) rfl rfl ?_
  exact H
theorem zh_X8_takeOver_63 {d : Nat} {k : hG → hE → Prop} {X : Nat → hG → hE → Prop} {l1 : Int32} {g : hG} {e : hE} (H :
    zbr (4 ≤ l1)
    (k (sI (sI (sI g 1046 32 0) 1046 33 0) 1046 52 0) e)
    (hwv d zm_X8_takeOver k X 70 [(0, .ref 1046), (1, .int l1), (2, .int 0)] g e)) : hwv d zm_X8_takeOver k X 63 [(0, .ref 1046), (1, .int l1)] g e := by
  refine zq_iload (pc' := 64) rfl rfl rfl rfl ?_
  refine zq_ipush (pc' := 65) rfl rfl rfl ?_
  refine zq_icge (pc' := 68) rfl rfl rfl rfl (And.intro (fun c => ?_) (fun c => ?_))
  · have H := H.1 c
    refine zq_aload (pc' := 210) rfl rfl rfl rfl ?_
    refine zq_ipush (pc' := 211) rfl rfl rfl ?_
    refine zq_put (pc' := 214) rfl rfl rfl trivial (hp_sI rfl) ?_
    refine zq_aload (pc' := 215) rfl rfl rfl rfl ?_
    refine zq_ipush (pc' := 216) rfl rfl rfl ?_
    refine zq_put (pc' := 219) rfl rfl rfl trivial (hp_sI rfl) ?_
    refine zq_aload (pc' := 220) rfl rfl rfl rfl ?_
    refine zq_ipush (pc' := 221) rfl rfl rfl ?_
    refine zq_put (pc' := 224) rfl rfl rfl (Or.inl rfl) (hp_sI rfl) ?_
    exact zq_vret rfl (Exists.intro _ (Exists.intro _ (And.intro rfl H)))
  · have H := H.2 c
    refine zq_ipush (pc' := 69) rfl rfl rfl ?_
    refine zq_istore_c (pc' := 70) rfl rfl ?_
    exact H
theorem zh_X8_takeOver_70 {d : Nat} {k : hG → hE → Prop} {X : Nat → hG → hE → Prop} {l1 : Int32} {l2 : Int32} {g : hG} {e : hE} (H :
    zbr (16 ≤ l2)
    (hin l1 4 ∧
      hin l1 4 ∧
      zbr (((sI (sI g 1062 l1.toNatClampNeg 0) 1063 l1.toNatClampNeg 0).1 1050 0) ≤ l1)
      (hwv d zm_X8_takeOver k X 63 [(0, .ref 1046), (1, .int (l1 + 1))] (sI (sI g 1062 l1.toNatClampNeg 0) 1063 l1.toNatClampNeg 0) e)
      (hin l1 8 ∧
        hcv d 253 [.ref 1046, .int l1, .int ((sI (sI g 1062 l1.toNatClampNeg 0) 1063 l1.toNatClampNeg 0).1 1052 l1.toNatClampNeg)] (sI (sI g 1062 l1.toNatClampNeg 0) 1063 l1.toNatClampNeg 0) e (fun g5 e6 =>
          hwv d zm_X8_takeOver k X 63 [(0, .ref 1046), (1, .int (l1 + 1))] g5 e6) X))
    (zbr ((g.1 1050 0) ≤ l1)
      (hwv d zm_X8_takeOver k X 100 [(0, .ref 1046), (1, .int l1), (2, .int l2)] g e)
      (hin l1 8 ∧
        zbr ((g.1 1052 l1.toNatClampNeg) ≤ l2)
        (hwv d zm_X8_takeOver k X 100 [(0, .ref 1046), (1, .int l1), (2, .int l2)] g e)
        (zbr ((1 : Int32) = 0)
          (hin ((16 * l1) + l2) 64 ∧
            zbr ((1 : Int32) = 0)
            (hin ((16 * l1) + l2) 64 ∧
              hwv d zm_X8_takeOver k X 70 [(0, .ref 1046), (1, .int l1), (2, .int (l2 + 1))] (sI (sI g 1060 ((16 * l1) + l2).toNatClampNeg 0) 1061 ((16 * l1) + l2).toNatClampNeg 0) e)
            (hin ((16 * l1) + l2) 128 ∧
              hin ((16 * l1) + l2) 64 ∧
              ∀ g13, g13 = sI (sI g 1060 ((16 * l1) + l2).toNatClampNeg 0) 1061 ((16 * l1) + l2).toNatClampNeg ((sI g 1060 ((16 * l1) + l2).toNatClampNeg 0).1 1054 ((16 * l1) + l2).toNatClampNeg) →
              hwv d zm_X8_takeOver k X 70 [(0, .ref 1046), (1, .int l1), (2, .int (l2 + 1))] g13 e))
          (hin ((16 * l1) + l2) 128 ∧
            hin ((16 * l1) + l2) 64 ∧
            zbr ((1 : Int32) = 0)
            (hin ((16 * l1) + l2) 64 ∧
              ∀ g17, g17 = sI (sI g 1060 ((16 * l1) + l2).toNatClampNeg (g.1 1053 ((16 * l1) + l2).toNatClampNeg)) 1061 ((16 * l1) + l2).toNatClampNeg 0 →
              hwv d zm_X8_takeOver k X 70 [(0, .ref 1046), (1, .int l1), (2, .int (l2 + 1))] g17 e)
            (hin ((16 * l1) + l2) 128 ∧
              hin ((16 * l1) + l2) 64 ∧
              ∀ g20, g20 = sI (sI g 1060 ((16 * l1) + l2).toNatClampNeg (g.1 1053 ((16 * l1) + l2).toNatClampNeg)) 1061 ((16 * l1) + l2).toNatClampNeg ((sI g 1060 ((16 * l1) + l2).toNatClampNeg (g.1 1053 ((16 * l1) + l2).toNatClampNeg)).1 1054 ((16 * l1) + l2).toNatClampNeg) →
              hwv d zm_X8_takeOver k X 70 [(0, .ref 1046), (1, .int l1), (2, .int (l2 + 1))] g20 e)))))) : hwv d zm_X8_takeOver k X 70 [(0, .ref 1046), (1, .int l1), (2, .int l2)] g e := by
  refine zq_iload (pc' := 71) rfl rfl rfl rfl ?_
  refine zq_ipush (pc' := 73) rfl rfl rfl ?_
  refine zq_icge (pc' := 76) rfl rfl rfl rfl (And.intro (fun c => ?_) (fun c => ?_))
  · have H := H.1 c
    refine zq_aload (pc' := 169) rfl rfl rfl rfl ?_
    refine zq_getR (pc' := 172) rfl rfl rfl (hp_gC rfl) ?_
    refine zq_iload (pc' := 173) rfl rfl rfl rfl ?_
    refine zq_ipush (pc' := 174) rfl rfl rfl ?_
    obtain ⟨hi1, H⟩ := H
    refine zq_iast (pc' := 175) rfl rfl rfl (hp_is rfl hi1) ?_
    refine zq_aload (pc' := 176) rfl rfl rfl rfl ?_
    refine zq_getR (pc' := 179) rfl rfl rfl (hp_gC rfl) ?_
    refine zq_iload (pc' := 180) rfl rfl rfl rfl ?_
    refine zq_ipush (pc' := 181) rfl rfl rfl ?_
    obtain ⟨hi2, H⟩ := H
    refine zq_iast (pc' := 182) rfl rfl rfl (hp_is rfl hi2) ?_
    refine zq_iload (pc' := 183) rfl rfl rfl rfl ?_
    refine zq_aload (pc' := 184) rfl rfl rfl rfl ?_
    refine zq_getR (pc' := 187) rfl rfl rfl (hp_gC rfl) ?_
    refine zq_ipush (pc' := 188) rfl rfl rfl ?_
    refine zq_iald (pc' := 189) rfl rfl rfl (hp_ia rfl (by unfold hin; decide)) ?_
    refine zq_icge (pc' := 192) rfl rfl rfl rfl (And.intro (fun c => ?_) (fun c => ?_))
    · have H := H.1 c
      refine zq_iinc (pc' := 206) rfl rfl rfl rfl ?_
      refine zq_goto_c (pc' := 63) rfl rfl ?_
      exact H
    · have H := H.2 c
      refine zq_aload (pc' := 193) rfl rfl rfl rfl ?_
      refine zq_iload (pc' := 194) rfl rfl rfl rfl ?_
      refine zq_aload (pc' := 195) rfl rfl rfl rfl ?_
      refine zq_getR (pc' := 198) rfl rfl rfl (hp_gC rfl) ?_
      refine zq_iload (pc' := 199) rfl rfl rfl rfl ?_
      obtain ⟨hi4, H⟩ := H
      refine zq_iald (pc' := 200) rfl rfl rfl (hp_ia rfl hi4) ?_
      refine hq_callv (pc' := 203) rfl rfl rfl rfl rfl rfl h_Xv ?_
      refine hmonov H ?_
      intro g5 e6 H
      refine zq_iinc (pc' := 206) rfl rfl rfl rfl ?_
      refine zq_goto_c (pc' := 63) rfl rfl ?_
      exact H
  · have H := H.2 c
    refine zq_iload (pc' := 77) rfl rfl rfl rfl ?_
    refine zq_aload (pc' := 78) rfl rfl rfl rfl ?_
    refine zq_getR (pc' := 81) rfl rfl rfl (hp_gC rfl) ?_
    refine zq_ipush (pc' := 82) rfl rfl rfl ?_
    refine zq_iald (pc' := 83) rfl rfl rfl (hp_ia rfl (by unfold hin; decide)) ?_
    refine zq_icge_c (pc' := 86) (lt := [(0, .ref 1046), (1, .int l1), (2, .int l2)]) (lf := [(0, .ref 1046), (1, .int l1), (2, .int l2)]) rfl rfl rfl rfl (And.intro (fun c => ?_) (fun c => ?_))
    · have H := H.1 c
      exact H
    · have H := H.2 c
      refine zq_iload (pc' := 87) rfl rfl rfl rfl ?_
      refine zq_aload (pc' := 88) rfl rfl rfl rfl ?_
      refine zq_getR (pc' := 91) rfl rfl rfl (hp_gC rfl) ?_
      refine zq_iload (pc' := 92) rfl rfl rfl rfl ?_
      obtain ⟨hi8, H⟩ := H
      refine zq_iald (pc' := 93) rfl rfl rfl (hp_ia rfl hi8) ?_
      refine zq_icge_c (pc' := 96) (lt := [(0, .ref 1046), (1, .int l1), (2, .int l2)]) (lf := [(0, .ref 1046), (1, .int l1), (2, .int l2)]) rfl rfl rfl rfl (And.intro (fun c => ?_) (fun c => ?_))
      · have H := H.1 c
        exact H
      · have H := H.2 c
        refine zq_ipush (pc' := 97) rfl rfl rfl ?_
        refine zq_goto (pc' := 101) rfl rfl rfl ?_
        refine zq_istore (pc' := 102) rfl rfl rfl ?_
        refine zq_aload (pc' := 103) rfl rfl rfl rfl ?_
        refine zq_getR (pc' := 106) rfl rfl rfl (hp_gC rfl) ?_
        refine zq_ipush (pc' := 108) rfl rfl rfl ?_
        refine zq_iload (pc' := 109) rfl rfl rfl rfl ?_
        refine zq_imul (pc' := 110) rfl rfl rfl ?_
        refine zq_iload (pc' := 111) rfl rfl rfl rfl ?_
        refine zq_iadd (pc' := 112) rfl rfl rfl ?_
        refine zq_iload (pc' := 113) rfl rfl rfl rfl ?_
        refine zq_ifeq (pc' := 116) rfl rfl rfl rfl (And.intro (fun c => ?_) (fun c => ?_))
        · have H := H.1 c
          refine zq_ipush (pc' := 131) rfl rfl rfl ?_
          obtain ⟨hi9, H⟩ := H
          refine zq_iast (pc' := 132) rfl rfl rfl (hp_is rfl hi9) ?_
          refine zq_aload (pc' := 133) rfl rfl rfl rfl ?_
          refine zq_getR (pc' := 136) rfl rfl rfl (hp_gC rfl) ?_
          refine zq_ipush (pc' := 138) rfl rfl rfl ?_
          refine zq_iload (pc' := 139) rfl rfl rfl rfl ?_
          refine zq_imul (pc' := 140) rfl rfl rfl ?_
          refine zq_iload (pc' := 141) rfl rfl rfl rfl ?_
          refine zq_iadd (pc' := 142) rfl rfl rfl ?_
          refine zq_iload (pc' := 143) rfl rfl rfl rfl ?_
          refine zq_ifeq (pc' := 146) rfl rfl rfl rfl (And.intro (fun c => ?_) (fun c => ?_))
          · have H := H.1 c
            refine zq_ipush (pc' := 161) rfl rfl rfl ?_
            obtain ⟨hi10, H⟩ := H
            refine zq_iast (pc' := 162) rfl rfl rfl (hp_is rfl hi10) ?_
            refine zq_iinc (pc' := 165) rfl rfl rfl rfl ?_
            refine zq_goto_c (pc' := 70) rfl rfl ?_
            exact H
          · have H := H.2 c
            refine zq_aload (pc' := 147) rfl rfl rfl rfl ?_
            refine zq_getR (pc' := 150) rfl rfl rfl (hp_gC rfl) ?_
            refine zq_ipush (pc' := 152) rfl rfl rfl ?_
            refine zq_iload (pc' := 153) rfl rfl rfl rfl ?_
            refine zq_imul (pc' := 154) rfl rfl rfl ?_
            refine zq_iload (pc' := 155) rfl rfl rfl rfl ?_
            refine zq_iadd (pc' := 156) rfl rfl rfl ?_
            obtain ⟨hi11, H⟩ := H
            refine zq_iald (pc' := 157) rfl rfl rfl (hp_ia rfl hi11) ?_
            refine zq_goto (pc' := 161) rfl rfl rfl ?_
            obtain ⟨hi12, H⟩ := H
            refine zq_iast (pc' := 162) rfl rfl rfl (hp_is rfl hi12) ?_
            have H := H _ rfl
            refine zq_iinc (pc' := 165) rfl rfl rfl rfl ?_
            refine zq_goto_c (pc' := 70) rfl rfl ?_
            exact H
        · have H := H.2 c
          refine zq_aload (pc' := 117) rfl rfl rfl rfl ?_
          refine zq_getR (pc' := 120) rfl rfl rfl (hp_gC rfl) ?_
          refine zq_ipush (pc' := 122) rfl rfl rfl ?_
          refine zq_iload (pc' := 123) rfl rfl rfl rfl ?_
          refine zq_imul (pc' := 124) rfl rfl rfl ?_
          refine zq_iload (pc' := 125) rfl rfl rfl rfl ?_
          refine zq_iadd (pc' := 126) rfl rfl rfl ?_
          obtain ⟨hi14, H⟩ := H
          refine zq_iald (pc' := 127) rfl rfl rfl (hp_ia rfl hi14) ?_
          refine zq_goto (pc' := 131) rfl rfl rfl ?_
          obtain ⟨hi15, H⟩ := H
          refine zq_iast (pc' := 132) rfl rfl rfl (hp_is rfl hi15) ?_
          refine zq_aload (pc' := 133) rfl rfl rfl rfl ?_
          refine zq_getR (pc' := 136) rfl rfl rfl (hp_gC rfl) ?_
          refine zq_ipush (pc' := 138) rfl rfl rfl ?_
          refine zq_iload (pc' := 139) rfl rfl rfl rfl ?_
          refine zq_imul (pc' := 140) rfl rfl rfl ?_
          refine zq_iload (pc' := 141) rfl rfl rfl rfl ?_
          refine zq_iadd (pc' := 142) rfl rfl rfl ?_
          refine zq_iload (pc' := 143) rfl rfl rfl rfl ?_
          refine zq_ifeq (pc' := 146) rfl rfl rfl rfl (And.intro (fun c => ?_) (fun c => ?_))
          · have H := H.1 c
            refine zq_ipush (pc' := 161) rfl rfl rfl ?_
            obtain ⟨hi16, H⟩ := H
            refine zq_iast (pc' := 162) rfl rfl rfl (hp_is rfl hi16) ?_
            have H := H _ rfl
            refine zq_iinc (pc' := 165) rfl rfl rfl rfl ?_
            refine zq_goto_c (pc' := 70) rfl rfl ?_
            exact H
          · have H := H.2 c
            refine zq_aload (pc' := 147) rfl rfl rfl rfl ?_
            refine zq_getR (pc' := 150) rfl rfl rfl (hp_gC rfl) ?_
            refine zq_ipush (pc' := 152) rfl rfl rfl ?_
            refine zq_iload (pc' := 153) rfl rfl rfl rfl ?_
            refine zq_imul (pc' := 154) rfl rfl rfl ?_
            refine zq_iload (pc' := 155) rfl rfl rfl rfl ?_
            refine zq_iadd (pc' := 156) rfl rfl rfl ?_
            obtain ⟨hi18, H⟩ := H
            refine zq_iald (pc' := 157) rfl rfl rfl (hp_ia rfl hi18) ?_
            refine zq_goto (pc' := 161) rfl rfl rfl ?_
            obtain ⟨hi19, H⟩ := H
            refine zq_iast (pc' := 162) rfl rfl rfl (hp_is rfl hi19) ?_
            have H := H _ rfl
            refine zq_iinc (pc' := 165) rfl rfl rfl rfl ?_
            refine zq_goto_c (pc' := 70) rfl rfl ?_
            exact H
theorem zh_X8_takeOver_100 {d : Nat} {k : hG → hE → Prop} {X : Nat → hG → hE → Prop} {l1 : Int32} {l2 : Int32} {g : hG} {e : hE} (H :
    zbr ((0 : Int32) = 0)
    (hin ((16 * l1) + l2) 64 ∧
      zbr ((0 : Int32) = 0)
      (hin ((16 * l1) + l2) 64 ∧
        hwv d zm_X8_takeOver k X 70 [(0, .ref 1046), (1, .int l1), (2, .int (l2 + 1))] (sI (sI g 1060 ((16 * l1) + l2).toNatClampNeg 0) 1061 ((16 * l1) + l2).toNatClampNeg 0) e)
      (hin ((16 * l1) + l2) 128 ∧
        hin ((16 * l1) + l2) 64 ∧
        ∀ g5, g5 = sI (sI g 1060 ((16 * l1) + l2).toNatClampNeg 0) 1061 ((16 * l1) + l2).toNatClampNeg ((sI g 1060 ((16 * l1) + l2).toNatClampNeg 0).1 1054 ((16 * l1) + l2).toNatClampNeg) →
        hwv d zm_X8_takeOver k X 70 [(0, .ref 1046), (1, .int l1), (2, .int (l2 + 1))] g5 e))
    (hin ((16 * l1) + l2) 128 ∧
      hin ((16 * l1) + l2) 64 ∧
      zbr ((0 : Int32) = 0)
      (hin ((16 * l1) + l2) 64 ∧
        ∀ g9, g9 = sI (sI g 1060 ((16 * l1) + l2).toNatClampNeg (g.1 1053 ((16 * l1) + l2).toNatClampNeg)) 1061 ((16 * l1) + l2).toNatClampNeg 0 →
        hwv d zm_X8_takeOver k X 70 [(0, .ref 1046), (1, .int l1), (2, .int (l2 + 1))] g9 e)
      (hin ((16 * l1) + l2) 128 ∧
        hin ((16 * l1) + l2) 64 ∧
        ∀ g12, g12 = sI (sI g 1060 ((16 * l1) + l2).toNatClampNeg (g.1 1053 ((16 * l1) + l2).toNatClampNeg)) 1061 ((16 * l1) + l2).toNatClampNeg ((sI g 1060 ((16 * l1) + l2).toNatClampNeg (g.1 1053 ((16 * l1) + l2).toNatClampNeg)).1 1054 ((16 * l1) + l2).toNatClampNeg) →
        hwv d zm_X8_takeOver k X 70 [(0, .ref 1046), (1, .int l1), (2, .int (l2 + 1))] g12 e))) : hwv d zm_X8_takeOver k X 100 [(0, .ref 1046), (1, .int l1), (2, .int l2)] g e := by
  refine zq_ipush (pc' := 101) rfl rfl rfl ?_
  refine zq_istore (pc' := 102) rfl rfl rfl ?_
  refine zq_aload (pc' := 103) rfl rfl rfl rfl ?_
  refine zq_getR (pc' := 106) rfl rfl rfl (hp_gC rfl) ?_
  refine zq_ipush (pc' := 108) rfl rfl rfl ?_
  refine zq_iload (pc' := 109) rfl rfl rfl rfl ?_
  refine zq_imul (pc' := 110) rfl rfl rfl ?_
  refine zq_iload (pc' := 111) rfl rfl rfl rfl ?_
  refine zq_iadd (pc' := 112) rfl rfl rfl ?_
  refine zq_iload (pc' := 113) rfl rfl rfl rfl ?_
  refine zq_ifeq (pc' := 116) rfl rfl rfl rfl (And.intro (fun c => ?_) (fun c => ?_))
  · have H := H.1 c
    refine zq_ipush (pc' := 131) rfl rfl rfl ?_
    obtain ⟨hi1, H⟩ := H
    refine zq_iast (pc' := 132) rfl rfl rfl (hp_is rfl hi1) ?_
    refine zq_aload (pc' := 133) rfl rfl rfl rfl ?_
    refine zq_getR (pc' := 136) rfl rfl rfl (hp_gC rfl) ?_
    refine zq_ipush (pc' := 138) rfl rfl rfl ?_
    refine zq_iload (pc' := 139) rfl rfl rfl rfl ?_
    refine zq_imul (pc' := 140) rfl rfl rfl ?_
    refine zq_iload (pc' := 141) rfl rfl rfl rfl ?_
    refine zq_iadd (pc' := 142) rfl rfl rfl ?_
    refine zq_iload (pc' := 143) rfl rfl rfl rfl ?_
    refine zq_ifeq (pc' := 146) rfl rfl rfl rfl (And.intro (fun c => ?_) (fun c => ?_))
    · have H := H.1 c
      refine zq_ipush (pc' := 161) rfl rfl rfl ?_
      obtain ⟨hi2, H⟩ := H
      refine zq_iast (pc' := 162) rfl rfl rfl (hp_is rfl hi2) ?_
      refine zq_iinc (pc' := 165) rfl rfl rfl rfl ?_
      refine zq_goto_c (pc' := 70) rfl rfl ?_
      exact H
    · have H := H.2 c
      refine zq_aload (pc' := 147) rfl rfl rfl rfl ?_
      refine zq_getR (pc' := 150) rfl rfl rfl (hp_gC rfl) ?_
      refine zq_ipush (pc' := 152) rfl rfl rfl ?_
      refine zq_iload (pc' := 153) rfl rfl rfl rfl ?_
      refine zq_imul (pc' := 154) rfl rfl rfl ?_
      refine zq_iload (pc' := 155) rfl rfl rfl rfl ?_
      refine zq_iadd (pc' := 156) rfl rfl rfl ?_
      obtain ⟨hi3, H⟩ := H
      refine zq_iald (pc' := 157) rfl rfl rfl (hp_ia rfl hi3) ?_
      refine zq_goto (pc' := 161) rfl rfl rfl ?_
      obtain ⟨hi4, H⟩ := H
      refine zq_iast (pc' := 162) rfl rfl rfl (hp_is rfl hi4) ?_
      have H := H _ rfl
      refine zq_iinc (pc' := 165) rfl rfl rfl rfl ?_
      refine zq_goto_c (pc' := 70) rfl rfl ?_
      exact H
  · have H := H.2 c
    refine zq_aload (pc' := 117) rfl rfl rfl rfl ?_
    refine zq_getR (pc' := 120) rfl rfl rfl (hp_gC rfl) ?_
    refine zq_ipush (pc' := 122) rfl rfl rfl ?_
    refine zq_iload (pc' := 123) rfl rfl rfl rfl ?_
    refine zq_imul (pc' := 124) rfl rfl rfl ?_
    refine zq_iload (pc' := 125) rfl rfl rfl rfl ?_
    refine zq_iadd (pc' := 126) rfl rfl rfl ?_
    obtain ⟨hi6, H⟩ := H
    refine zq_iald (pc' := 127) rfl rfl rfl (hp_ia rfl hi6) ?_
    refine zq_goto (pc' := 131) rfl rfl rfl ?_
    obtain ⟨hi7, H⟩ := H
    refine zq_iast (pc' := 132) rfl rfl rfl (hp_is rfl hi7) ?_
    refine zq_aload (pc' := 133) rfl rfl rfl rfl ?_
    refine zq_getR (pc' := 136) rfl rfl rfl (hp_gC rfl) ?_
    refine zq_ipush (pc' := 138) rfl rfl rfl ?_
    refine zq_iload (pc' := 139) rfl rfl rfl rfl ?_
    refine zq_imul (pc' := 140) rfl rfl rfl ?_
    refine zq_iload (pc' := 141) rfl rfl rfl rfl ?_
    refine zq_iadd (pc' := 142) rfl rfl rfl ?_
    refine zq_iload (pc' := 143) rfl rfl rfl rfl ?_
    refine zq_ifeq (pc' := 146) rfl rfl rfl rfl (And.intro (fun c => ?_) (fun c => ?_))
    · have H := H.1 c
      refine zq_ipush (pc' := 161) rfl rfl rfl ?_
      obtain ⟨hi8, H⟩ := H
      refine zq_iast (pc' := 162) rfl rfl rfl (hp_is rfl hi8) ?_
      have H := H _ rfl
      refine zq_iinc (pc' := 165) rfl rfl rfl rfl ?_
      refine zq_goto_c (pc' := 70) rfl rfl ?_
      exact H
    · have H := H.2 c
      refine zq_aload (pc' := 147) rfl rfl rfl rfl ?_
      refine zq_getR (pc' := 150) rfl rfl rfl (hp_gC rfl) ?_
      refine zq_ipush (pc' := 152) rfl rfl rfl ?_
      refine zq_iload (pc' := 153) rfl rfl rfl rfl ?_
      refine zq_imul (pc' := 154) rfl rfl rfl ?_
      refine zq_iload (pc' := 155) rfl rfl rfl rfl ?_
      refine zq_iadd (pc' := 156) rfl rfl rfl ?_
      obtain ⟨hi10, H⟩ := H
      refine zq_iald (pc' := 157) rfl rfl rfl (hp_ia rfl hi10) ?_
      refine zq_goto (pc' := 161) rfl rfl rfl ?_
      obtain ⟨hi11, H⟩ := H
      refine zq_iast (pc' := 162) rfl rfl rfl (hp_is rfl hi11) ?_
      have H := H _ rfl
      refine zq_iinc (pc' := 165) rfl rfl rfl rfl ?_
      refine zq_goto_c (pc' := 70) rfl rfl ?_
      exact H
theorem zh_X8_fault {d : Nat} {k : Int32 → hG → hE → Prop} {X : Nat → hG → hE → Prop}  {g : hG} {e : hE} (H :
    k ((sI g 1046 4 0).1 1046 24) (sI g 1046 4 0) e) : hci (d + 1) 248 [.ref 1046] g e k X := by
  refine hent (M := zm_X8_fault) (show hT 1046 = some (.inr _) from rfl) rfl rfl rfl rfl rfl ?_
  refine zq_aload (pc' := 1) rfl rfl rfl rfl ?_
  refine zq_ipush (pc' := 2) rfl rfl rfl ?_
  refine zq_put (pc' := 5) rfl rfl rfl trivial (hp_sI rfl) ?_
  refine zq_aload (pc' := 6) rfl rfl rfl rfl ?_
  refine zq_getI (pc' := 9) rfl rfl rfl (hp_gI rfl) ?_
  exact zq_iret rfl trivial (Exists.intro _ (Exists.intro _ (And.intro rfl H)))
theorem zh_X8_pack {d : Nat} {k : hG → hE → Prop} {X : Nat → hG → hE → Prop} {p1 np1 : Nat} (hp1 : hT p1 = some (.inl (0, np1))) {p2 : Int32} {g : hG} {e : hE} (H :
    hin p2 np1 ∧
    hwv d zm_X8_pack k X 9 [(0, .ref 1046), (1, .ref p1), (2, .int p2), (3, .int 0)] (sI g p1 p2.toNatClampNeg (g.1 1046 31)) e) : hcv (d + 1) 249 [.ref 1046, .ref p1, .int p2] g e k X := by
  refine hent (M := zm_X8_pack) (show hT 1046 = some (.inr _) from rfl) rfl rfl rfl rfl rfl ?_
  refine zq_aload (pc' := 1) rfl rfl rfl rfl ?_
  refine zq_iload (pc' := 2) rfl rfl rfl rfl ?_
  refine zq_aload (pc' := 3) rfl rfl rfl rfl ?_
  refine zq_getI (pc' := 6) rfl rfl rfl (hp_gI rfl) ?_
  obtain ⟨hi1, H⟩ := H
  refine zq_iast (pc' := 7) rfl rfl rfl (hp_is hp1 hi1) ?_
  refine zq_ipush (pc' := 8) rfl rfl rfl ?_
  refine zq_istore_c (pc' := 9) rfl rfl ?_
  exact H
theorem zh_X8_pack_9 {d : Nat} {k : hG → hE → Prop} {X : Nat → hG → hE → Prop} {l1 nl1 : Nat} (hl1 : hT l1 = some (.inl (0, nl1))) {l2 : Int32} {l3 : Int32} {g : hG} {e : hE} (H :
    zbr (4 ≤ l3)
    (hwv d zm_X8_pack k X 58 [(0, .ref 1046), (1, .ref l1), (3, .int ((l2 + 1) + 8)), (4, .int 0)] g e)
    (hin l3 4 ∧
      hin ((l2 + 1) + l3) nl1 ∧
      hin l3 4 ∧
      hin (((l2 + 1) + 4) + l3) nl1 ∧
      ∀ g5, g5 = sI (sI g l1 ((l2 + 1) + l3).toNatClampNeg (g.1 1062 l3.toNatClampNeg)) l1 (((l2 + 1) + 4) + l3).toNatClampNeg ((sI g l1 ((l2 + 1) + l3).toNatClampNeg (g.1 1062 l3.toNatClampNeg)).1 1063 l3.toNatClampNeg) →
      hwv d zm_X8_pack k X 9 [(0, .ref 1046), (1, .ref l1), (2, .int l2), (3, .int (l3 + 1))] g5 e)) : hwv d zm_X8_pack k X 9 [(0, .ref 1046), (1, .ref l1), (2, .int l2), (3, .int l3)] g e := by
  refine zq_iload (pc' := 10) rfl rfl rfl rfl ?_
  refine zq_ipush (pc' := 11) rfl rfl rfl ?_
  refine zq_icge (pc' := 14) rfl rfl rfl rfl (And.intro (fun c => ?_) (fun c => ?_))
  · have H := H.1 c
    refine zq_iload (pc' := 49) rfl rfl rfl rfl ?_
    refine zq_ipush (pc' := 50) rfl rfl rfl ?_
    refine zq_iadd (pc' := 51) rfl rfl rfl ?_
    refine zq_ipush (pc' := 53) rfl rfl rfl ?_
    refine zq_iadd (pc' := 54) rfl rfl rfl ?_
    refine zq_istore (pc' := 55) rfl rfl rfl ?_
    refine zq_ipush (pc' := 56) rfl rfl rfl ?_
    refine zq_istore_c (pc' := 58) rfl rfl ?_
    exact H
  · have H := H.2 c
    refine zq_aload (pc' := 15) rfl rfl rfl rfl ?_
    refine zq_iload (pc' := 16) rfl rfl rfl rfl ?_
    refine zq_ipush (pc' := 17) rfl rfl rfl ?_
    refine zq_iadd (pc' := 18) rfl rfl rfl ?_
    refine zq_iload (pc' := 19) rfl rfl rfl rfl ?_
    refine zq_iadd (pc' := 20) rfl rfl rfl ?_
    refine zq_aload (pc' := 21) rfl rfl rfl rfl ?_
    refine zq_getR (pc' := 24) rfl rfl rfl (hp_gC rfl) ?_
    refine zq_iload (pc' := 25) rfl rfl rfl rfl ?_
    obtain ⟨hi1, H⟩ := H
    refine zq_iald (pc' := 26) rfl rfl rfl (hp_ia rfl hi1) ?_
    obtain ⟨hi2, H⟩ := H
    refine zq_iast (pc' := 27) rfl rfl rfl (hp_is hl1 hi2) ?_
    refine zq_aload (pc' := 28) rfl rfl rfl rfl ?_
    refine zq_iload (pc' := 29) rfl rfl rfl rfl ?_
    refine zq_ipush (pc' := 30) rfl rfl rfl ?_
    refine zq_iadd (pc' := 31) rfl rfl rfl ?_
    refine zq_ipush (pc' := 32) rfl rfl rfl ?_
    refine zq_iadd (pc' := 33) rfl rfl rfl ?_
    refine zq_iload (pc' := 34) rfl rfl rfl rfl ?_
    refine zq_iadd (pc' := 35) rfl rfl rfl ?_
    refine zq_aload (pc' := 36) rfl rfl rfl rfl ?_
    refine zq_getR (pc' := 39) rfl rfl rfl (hp_gC rfl) ?_
    refine zq_iload (pc' := 40) rfl rfl rfl rfl ?_
    obtain ⟨hi3, H⟩ := H
    refine zq_iald (pc' := 41) rfl rfl rfl (hp_ia rfl hi3) ?_
    obtain ⟨hi4, H⟩ := H
    refine zq_iast (pc' := 42) rfl rfl rfl (hp_is hl1 hi4) ?_
    have H := H _ rfl
    refine zq_iinc (pc' := 45) rfl rfl rfl rfl ?_
    refine zq_goto_c (pc' := 9) rfl rfl ?_
    exact H
theorem zh_X8_pack_58 {d : Nat} {k : hG → hE → Prop} {X : Nat → hG → hE → Prop} {l1 nl1 : Nat} (hl1 : hT l1 = some (.inl (0, nl1))) {l3 : Int32} {l4 : Int32} {g : hG} {e : hE} (H :
    zbr (64 ≤ l4)
    (k g e)
    (hin l4 64 ∧
      hin l3 nl1 ∧
      hin l4 64 ∧
      hin (l3 + 1) nl1 ∧
      ∀ g5, g5 = sI (sI g l1 l3.toNatClampNeg (g.1 1060 l4.toNatClampNeg)) l1 (l3 + 1).toNatClampNeg ((sI g l1 l3.toNatClampNeg (g.1 1060 l4.toNatClampNeg)).1 1061 l4.toNatClampNeg) →
      hwv d zm_X8_pack k X 58 [(0, .ref 1046), (1, .ref l1), (3, .int (l3 + 2)), (4, .int (l4 + 1))] g5 e)) : hwv d zm_X8_pack k X 58 [(0, .ref 1046), (1, .ref l1), (3, .int l3), (4, .int l4)] g e := by
  refine zq_iload (pc' := 60) rfl rfl rfl rfl ?_
  refine zq_ipush (pc' := 62) rfl rfl rfl ?_
  refine zq_icge (pc' := 65) rfl rfl rfl rfl (And.intro (fun c => ?_) (fun c => ?_))
  · have H := H.1 c
    exact zq_vret rfl (Exists.intro _ (Exists.intro _ (And.intro rfl H)))
  · have H := H.2 c
    refine zq_aload (pc' := 66) rfl rfl rfl rfl ?_
    refine zq_iload (pc' := 67) rfl rfl rfl rfl ?_
    refine zq_aload (pc' := 68) rfl rfl rfl rfl ?_
    refine zq_getR (pc' := 71) rfl rfl rfl (hp_gC rfl) ?_
    refine zq_iload (pc' := 73) rfl rfl rfl rfl ?_
    obtain ⟨hi1, H⟩ := H
    refine zq_iald (pc' := 74) rfl rfl rfl (hp_ia rfl hi1) ?_
    obtain ⟨hi2, H⟩ := H
    refine zq_iast (pc' := 75) rfl rfl rfl (hp_is hl1 hi2) ?_
    refine zq_aload (pc' := 76) rfl rfl rfl rfl ?_
    refine zq_iload (pc' := 77) rfl rfl rfl rfl ?_
    refine zq_ipush (pc' := 78) rfl rfl rfl ?_
    refine zq_iadd (pc' := 79) rfl rfl rfl ?_
    refine zq_aload (pc' := 80) rfl rfl rfl rfl ?_
    refine zq_getR (pc' := 83) rfl rfl rfl (hp_gC rfl) ?_
    refine zq_iload (pc' := 85) rfl rfl rfl rfl ?_
    obtain ⟨hi3, H⟩ := H
    refine zq_iald (pc' := 86) rfl rfl rfl (hp_ia rfl hi3) ?_
    obtain ⟨hi4, H⟩ := H
    refine zq_iast (pc' := 87) rfl rfl rfl (hp_is hl1 hi4) ?_
    have H := H _ rfl
    refine zq_iinc (pc' := 90) rfl rfl rfl rfl ?_
    refine zq_iinc (pc' := 93) rfl rfl rfl rfl ?_
    refine zq_goto_c (pc' := 58) rfl rfl ?_
    exact H
theorem zh_X8_unpack {d : Nat} {k : hG → hE → Prop} {X : Nat → hG → hE → Prop} {p1 np1 : Nat} (hp1 : hT p1 = some (.inl (0, np1))) {p2 : Int32} {g : hG} {e : hE} (H :
    hin p2 np1 ∧
    hwv d zm_X8_unpack k X 9 [(0, .ref 1046), (1, .ref p1), (2, .int p2), (3, .int 0)] (sI g 1046 31 (g.1 p1 p2.toNatClampNeg)) e) : hcv (d + 1) 250 [.ref 1046, .ref p1, .int p2] g e k X := by
  refine hent (M := zm_X8_unpack) (show hT 1046 = some (.inr _) from rfl) rfl rfl rfl rfl rfl ?_
  refine zq_aload (pc' := 1) rfl rfl rfl rfl ?_
  refine zq_aload (pc' := 2) rfl rfl rfl rfl ?_
  refine zq_iload (pc' := 3) rfl rfl rfl rfl ?_
  obtain ⟨hi1, H⟩ := H
  refine zq_iald (pc' := 4) rfl rfl rfl (hp_ia hp1 hi1) ?_
  refine zq_put (pc' := 7) rfl rfl rfl trivial (hp_sI rfl) ?_
  refine zq_ipush (pc' := 8) rfl rfl rfl ?_
  refine zq_istore_c (pc' := 9) rfl rfl ?_
  exact H
theorem zh_X8_unpack_9 {d : Nat} {k : hG → hE → Prop} {X : Nat → hG → hE → Prop} {l1 nl1 : Nat} (hl1 : hT l1 = some (.inl (0, nl1))) {l2 : Int32} {l3 : Int32} {g : hG} {e : hE} (H :
    zbr (4 ≤ l3)
    (hwv d zm_X8_unpack k X 58 [(0, .ref 1046), (1, .ref l1), (3, .int ((l2 + 1) + 8)), (4, .int 0)] g e)
    (hin ((l2 + 1) + l3) nl1 ∧
      hin l3 4 ∧
      hin (((l2 + 1) + 4) + l3) nl1 ∧
      hin l3 4 ∧
      ∀ g5, g5 = sI (sI g 1062 l3.toNatClampNeg (g.1 l1 ((l2 + 1) + l3).toNatClampNeg)) 1063 l3.toNatClampNeg ((sI g 1062 l3.toNatClampNeg (g.1 l1 ((l2 + 1) + l3).toNatClampNeg)).1 l1 (((l2 + 1) + 4) + l3).toNatClampNeg) →
      hwv d zm_X8_unpack k X 9 [(0, .ref 1046), (1, .ref l1), (2, .int l2), (3, .int (l3 + 1))] g5 e)) : hwv d zm_X8_unpack k X 9 [(0, .ref 1046), (1, .ref l1), (2, .int l2), (3, .int l3)] g e := by
  refine zq_iload (pc' := 10) rfl rfl rfl rfl ?_
  refine zq_ipush (pc' := 11) rfl rfl rfl ?_
  refine zq_icge (pc' := 14) rfl rfl rfl rfl (And.intro (fun c => ?_) (fun c => ?_))
  · have H := H.1 c
    refine zq_iload (pc' := 49) rfl rfl rfl rfl ?_
    refine zq_ipush (pc' := 50) rfl rfl rfl ?_
    refine zq_iadd (pc' := 51) rfl rfl rfl ?_
    refine zq_ipush (pc' := 53) rfl rfl rfl ?_
    refine zq_iadd (pc' := 54) rfl rfl rfl ?_
    refine zq_istore (pc' := 55) rfl rfl rfl ?_
    refine zq_ipush (pc' := 56) rfl rfl rfl ?_
    refine zq_istore_c (pc' := 58) rfl rfl ?_
    exact H
  · have H := H.2 c
    refine zq_aload (pc' := 15) rfl rfl rfl rfl ?_
    refine zq_getR (pc' := 18) rfl rfl rfl (hp_gC rfl) ?_
    refine zq_iload (pc' := 19) rfl rfl rfl rfl ?_
    refine zq_aload (pc' := 20) rfl rfl rfl rfl ?_
    refine zq_iload (pc' := 21) rfl rfl rfl rfl ?_
    refine zq_ipush (pc' := 22) rfl rfl rfl ?_
    refine zq_iadd (pc' := 23) rfl rfl rfl ?_
    refine zq_iload (pc' := 24) rfl rfl rfl rfl ?_
    refine zq_iadd (pc' := 25) rfl rfl rfl ?_
    obtain ⟨hi1, H⟩ := H
    refine zq_iald (pc' := 26) rfl rfl rfl (hp_ia hl1 hi1) ?_
    obtain ⟨hi2, H⟩ := H
    refine zq_iast (pc' := 27) rfl rfl rfl (hp_is rfl hi2) ?_
    refine zq_aload (pc' := 28) rfl rfl rfl rfl ?_
    refine zq_getR (pc' := 31) rfl rfl rfl (hp_gC rfl) ?_
    refine zq_iload (pc' := 32) rfl rfl rfl rfl ?_
    refine zq_aload (pc' := 33) rfl rfl rfl rfl ?_
    refine zq_iload (pc' := 34) rfl rfl rfl rfl ?_
    refine zq_ipush (pc' := 35) rfl rfl rfl ?_
    refine zq_iadd (pc' := 36) rfl rfl rfl ?_
    refine zq_ipush (pc' := 37) rfl rfl rfl ?_
    refine zq_iadd (pc' := 38) rfl rfl rfl ?_
    refine zq_iload (pc' := 39) rfl rfl rfl rfl ?_
    refine zq_iadd (pc' := 40) rfl rfl rfl ?_
    obtain ⟨hi3, H⟩ := H
    refine zq_iald (pc' := 41) rfl rfl rfl (hp_ia hl1 hi3) ?_
    obtain ⟨hi4, H⟩ := H
    refine zq_iast (pc' := 42) rfl rfl rfl (hp_is rfl hi4) ?_
    have H := H _ rfl
    refine zq_iinc (pc' := 45) rfl rfl rfl rfl ?_
    refine zq_goto_c (pc' := 9) rfl rfl ?_
    exact H
theorem zh_X8_unpack_58 {d : Nat} {k : hG → hE → Prop} {X : Nat → hG → hE → Prop} {l1 nl1 : Nat} (hl1 : hT l1 = some (.inl (0, nl1))) {l3 : Int32} {l4 : Int32} {g : hG} {e : hE} (H :
    zbr (64 ≤ l4)
    (k g e)
    (hin l3 nl1 ∧
      hin l4 64 ∧
      hin (l3 + 1) nl1 ∧
      hin l4 64 ∧
      ∀ g5, g5 = sI (sI g 1060 l4.toNatClampNeg (g.1 l1 l3.toNatClampNeg)) 1061 l4.toNatClampNeg ((sI g 1060 l4.toNatClampNeg (g.1 l1 l3.toNatClampNeg)).1 l1 (l3 + 1).toNatClampNeg) →
      hwv d zm_X8_unpack k X 58 [(0, .ref 1046), (1, .ref l1), (3, .int (l3 + 2)), (4, .int (l4 + 1))] g5 e)) : hwv d zm_X8_unpack k X 58 [(0, .ref 1046), (1, .ref l1), (3, .int l3), (4, .int l4)] g e := by
  refine zq_iload (pc' := 60) rfl rfl rfl rfl ?_
  refine zq_ipush (pc' := 62) rfl rfl rfl ?_
  refine zq_icge (pc' := 65) rfl rfl rfl rfl (And.intro (fun c => ?_) (fun c => ?_))
  · have H := H.1 c
    exact zq_vret rfl (Exists.intro _ (Exists.intro _ (And.intro rfl H)))
  · have H := H.2 c
    refine zq_aload (pc' := 66) rfl rfl rfl rfl ?_
    refine zq_getR (pc' := 69) rfl rfl rfl (hp_gC rfl) ?_
    refine zq_iload (pc' := 71) rfl rfl rfl rfl ?_
    refine zq_aload (pc' := 72) rfl rfl rfl rfl ?_
    refine zq_iload (pc' := 73) rfl rfl rfl rfl ?_
    obtain ⟨hi1, H⟩ := H
    refine zq_iald (pc' := 74) rfl rfl rfl (hp_ia hl1 hi1) ?_
    obtain ⟨hi2, H⟩ := H
    refine zq_iast (pc' := 75) rfl rfl rfl (hp_is rfl hi2) ?_
    refine zq_aload (pc' := 76) rfl rfl rfl rfl ?_
    refine zq_getR (pc' := 79) rfl rfl rfl (hp_gC rfl) ?_
    refine zq_iload (pc' := 81) rfl rfl rfl rfl ?_
    refine zq_aload (pc' := 82) rfl rfl rfl rfl ?_
    refine zq_iload (pc' := 83) rfl rfl rfl rfl ?_
    refine zq_ipush (pc' := 84) rfl rfl rfl ?_
    refine zq_iadd (pc' := 85) rfl rfl rfl ?_
    obtain ⟨hi3, H⟩ := H
    refine zq_iald (pc' := 86) rfl rfl rfl (hp_ia hl1 hi3) ?_
    obtain ⟨hi4, H⟩ := H
    refine zq_iast (pc' := 87) rfl rfl rfl (hp_is rfl hi4) ?_
    have H := H _ rfl
    refine zq_iinc (pc' := 90) rfl rfl rfl rfl ?_
    refine zq_iinc (pc' := 93) rfl rfl rfl rfl ?_
    refine zq_goto_c (pc' := 58) rfl rfl ?_
    exact H
theorem zh_X8_holdOf {d : Nat} {k : Int32 → hG → hE → Prop} {X : Nat → hG → hE → Prop} {p1 : Int32} {p2 : Int32} {g : hG} {e : hE} (H :
    hin ((16 * p1) + p2) 64 ∧
    hin ((16 * p1) + p2) 64 ∧
    hci d 3 [.int (g.1 1060 ((16 * p1) + p2).toNatClampNeg), .int (g.1 1061 ((16 * p1) + p2).toNatClampNeg)] g e (fun x5 g3 e4 =>
      k x5 g3 e4) X) : hci (d + 1) 251 [.ref 1046, .int p1, .int p2] g e k X := by
  refine hent (M := zm_X8_holdOf) (show hT 1046 = some (.inr _) from rfl) rfl rfl rfl rfl rfl ?_
  refine zq_aload (pc' := 1) rfl rfl rfl rfl ?_
  refine zq_getR (pc' := 4) rfl rfl rfl (hp_gC rfl) ?_
  refine zq_ipush (pc' := 6) rfl rfl rfl ?_
  refine zq_iload (pc' := 7) rfl rfl rfl rfl ?_
  refine zq_imul (pc' := 8) rfl rfl rfl ?_
  refine zq_iload (pc' := 9) rfl rfl rfl rfl ?_
  refine zq_iadd (pc' := 10) rfl rfl rfl ?_
  obtain ⟨hi1, H⟩ := H
  refine zq_iald (pc' := 11) rfl rfl rfl (hp_ia rfl hi1) ?_
  refine zq_aload (pc' := 12) rfl rfl rfl rfl ?_
  refine zq_getR (pc' := 15) rfl rfl rfl (hp_gC rfl) ?_
  refine zq_ipush (pc' := 17) rfl rfl rfl ?_
  refine zq_iload (pc' := 18) rfl rfl rfl rfl ?_
  refine zq_imul (pc' := 19) rfl rfl rfl ?_
  refine zq_iload (pc' := 20) rfl rfl rfl rfl ?_
  refine zq_iadd (pc' := 21) rfl rfl rfl ?_
  obtain ⟨hi2, H⟩ := H
  refine zq_iald (pc' := 22) rfl rfl rfl (hp_ia rfl hi2) ?_
  refine hq_calli (pc' := 25) rfl rfl rfl rfl rfl rfl h_Xi ?_
  refine hmonoi H ?_
  intro x5 g3 e4 H
  exact zq_iret rfl trivial (Exists.intro _ (Exists.intro _ (And.intro rfl H)))
theorem zh_X8_holding {d : Nat} {k : Int32 → hG → hE → Prop} {X : Nat → hG → hE → Prop} {p1 : Int32} {g : hG} {e : hE} (H :
    hwi d zm_X8_holding k X 4 [(0, .ref 1046), (1, .int p1), (2, .int 0), (3, .int 0)] g e) : hci (d + 1) 252 [.ref 1046, .int p1] g e k X := by
  refine hent (M := zm_X8_holding) (show hT 1046 = some (.inr _) from rfl) rfl rfl rfl rfl rfl ?_
  refine zq_ipush (pc' := 1) rfl rfl rfl ?_
  refine zq_istore (pc' := 2) rfl rfl rfl ?_
  refine zq_ipush (pc' := 3) rfl rfl rfl ?_
  refine zq_istore_c (pc' := 4) rfl rfl ?_
  exact H
theorem zh_X8_holding_4 {d : Nat} {k : Int32 → hG → hE → Prop} {X : Nat → hG → hE → Prop} {l1 : Int32} {l2 : Int32} {l3 : Int32} {g : hG} {e : hE} (H :
    hin l1 8 ∧
    zbr ((g.1 1052 l1.toNatClampNeg) ≤ l3)
    (k l2 g e)
    (hci d 251 [.ref 1046, .int l1, .int l3] g e (fun x4 g2 e3 =>
        zbr (x4 ≤ 0)
        (hwi d zm_X8_holding k X 4 [(0, .ref 1046), (1, .int l1), (2, .int (l2 ||| 0)), (3, .int (l3 + 1))] g2 e3)
        (hwi d zm_X8_holding k X 4 [(0, .ref 1046), (1, .int l1), (2, .int (l2 ||| (1 <<< (l3 &&& 31)))), (3, .int (l3 + 1))] g2 e3)) X)) : hwi d zm_X8_holding k X 4 [(0, .ref 1046), (1, .int l1), (2, .int l2), (3, .int l3)] g e := by
  refine zq_iload (pc' := 5) rfl rfl rfl rfl ?_
  refine zq_aload (pc' := 6) rfl rfl rfl rfl ?_
  refine zq_getR (pc' := 9) rfl rfl rfl (hp_gC rfl) ?_
  refine zq_iload (pc' := 10) rfl rfl rfl rfl ?_
  obtain ⟨hi1, H⟩ := H
  refine zq_iald (pc' := 11) rfl rfl rfl (hp_ia rfl hi1) ?_
  refine zq_icge (pc' := 14) rfl rfl rfl rfl (And.intro (fun c => ?_) (fun c => ?_))
  · have H := H.1 c
    refine zq_iload (pc' := 40) rfl rfl rfl rfl ?_
    exact zq_iret rfl trivial (Exists.intro _ (Exists.intro _ (And.intro rfl H)))
  · have H := H.2 c
    refine zq_iload (pc' := 15) rfl rfl rfl rfl ?_
    refine zq_aload (pc' := 16) rfl rfl rfl rfl ?_
    refine zq_iload (pc' := 17) rfl rfl rfl rfl ?_
    refine zq_iload (pc' := 18) rfl rfl rfl rfl ?_
    refine hq_calli (pc' := 21) rfl rfl rfl rfl rfl rfl h_Xi ?_
    refine hmonoi H ?_
    intro x4 g2 e3 H
    refine zq_ifle (pc' := 24) rfl rfl rfl rfl (And.intro (fun c => ?_) (fun c => ?_))
    · have H := H.1 c
      refine zq_ipush (pc' := 31) rfl rfl rfl ?_
      refine zq_ior (pc' := 32) rfl rfl rfl ?_
      refine zq_istore (pc' := 33) rfl rfl rfl ?_
      refine zq_iinc (pc' := 36) rfl rfl rfl rfl ?_
      refine zq_goto_c (pc' := 4) rfl rfl ?_
      exact H
    · have H := H.2 c
      refine zq_ipush (pc' := 25) rfl rfl rfl ?_
      refine zq_iload (pc' := 26) rfl rfl rfl rfl ?_
      refine zq_ishl (pc' := 27) rfl rfl rfl ?_
      refine zq_goto (pc' := 31) rfl rfl rfl ?_
      refine zq_ior (pc' := 32) rfl rfl rfl ?_
      refine zq_istore (pc' := 33) rfl rfl rfl ?_
      refine zq_iinc (pc' := 36) rfl rfl rfl rfl ?_
      refine zq_goto_c (pc' := 4) rfl rfl ?_
      exact H
theorem zh_X8_slideTo {d : Nat} {k : hG → hE → Prop} {X : Nat → hG → hE → Prop} {p1 : Int32} {p2 : Int32} {g : hG} {e : hE} (H :
    hin p1 4 ∧
    hci d 252 [.ref 1046, .int p1] (sI g 1062 p1.toNatClampNeg p2) e (fun x4 g2 e3 =>
      hin p1 4 ∧
      k (sI g2 1063 p1.toNatClampNeg (x4 &&& ((1 <<< (p2 &&& 31)) - 1))) e3) X) : hcv (d + 1) 253 [.ref 1046, .int p1, .int p2] g e k X := by
  refine hent (M := zm_X8_slideTo) (show hT 1046 = some (.inr _) from rfl) rfl rfl rfl rfl rfl ?_
  refine zq_aload (pc' := 1) rfl rfl rfl rfl ?_
  refine zq_getR (pc' := 4) rfl rfl rfl (hp_gC rfl) ?_
  refine zq_iload (pc' := 5) rfl rfl rfl rfl ?_
  refine zq_iload (pc' := 6) rfl rfl rfl rfl ?_
  obtain ⟨hi1, H⟩ := H
  refine zq_iast (pc' := 7) rfl rfl rfl (hp_is rfl hi1) ?_
  refine zq_aload (pc' := 8) rfl rfl rfl rfl ?_
  refine zq_getR (pc' := 11) rfl rfl rfl (hp_gC rfl) ?_
  refine zq_iload (pc' := 12) rfl rfl rfl rfl ?_
  refine zq_aload (pc' := 13) rfl rfl rfl rfl ?_
  refine zq_iload (pc' := 14) rfl rfl rfl rfl ?_
  refine hq_calli (pc' := 17) rfl rfl rfl rfl rfl rfl h_Xv ?_
  refine hmonoi H ?_
  intro x4 g2 e3 H
  refine zq_ipush (pc' := 18) rfl rfl rfl ?_
  refine zq_iload (pc' := 19) rfl rfl rfl rfl ?_
  refine zq_ishl (pc' := 20) rfl rfl rfl ?_
  refine zq_ipush (pc' := 21) rfl rfl rfl ?_
  refine zq_isub (pc' := 22) rfl rfl rfl ?_
  refine zq_iand (pc' := 23) rfl rfl rfl ?_
  obtain ⟨hi5, H⟩ := H
  refine zq_iast (pc' := 24) rfl rfl rfl (hp_is rfl hi5) ?_
  exact zq_vret rfl (Exists.intro _ (Exists.intro _ (And.intro rfl H)))
theorem zh_X8_openBeside {d : Nat} {k : Int32 → hG → hE → Prop} {X : Nat → hG → hE → Prop} {p1 : Int32} {p2 : Int32} {g : hG} {e : hE} (H :
    zbr (p2 ≤ 0)
    (hwi d zm_X8_openBeside k X 29 [(0, .ref 1046), (1, .int p1), (2, .int p2), (3, .int 0)] g e)
    (hin p1 4 ∧
      hci d 218 [.int (g.1 1063 p1.toNatClampNeg), .int (p2 - 1)] g e (fun x4 g2 e3 =>
        zbr (x4 = 0)
        (hwi d zm_X8_openBeside k X 29 [(0, .ref 1046), (1, .int p1), (2, .int p2), (3, .int (0 + 1))] g2 e3)
        (hwi d zm_X8_openBeside k X 29 [(0, .ref 1046), (1, .int p1), (2, .int p2), (3, .int (0 + 0))] g2 e3)) X)) : hci (d + 1) 254 [.ref 1046, .int p1, .int p2] g e k X := by
  refine hent (M := zm_X8_openBeside) (show hT 1046 = some (.inr _) from rfl) rfl rfl rfl rfl rfl ?_
  refine zq_ipush (pc' := 1) rfl rfl rfl ?_
  refine zq_istore (pc' := 2) rfl rfl rfl ?_
  refine zq_iload (pc' := 3) rfl rfl rfl rfl ?_
  refine zq_ifle_c (pc' := 6) (lt := [(0, .ref 1046), (1, .int p1), (2, .int p2), (3, .int 0)]) (lf := [(3, .int 0), (0, .ref 1046), (1, .int p1), (2, .int p2)]) rfl rfl rfl rfl (And.intro (fun c => ?_) (fun c => ?_))
  · have H := H.1 c
    exact H
  · have H := H.2 c
    refine zq_iload (pc' := 7) rfl rfl rfl rfl ?_
    refine zq_aload (pc' := 8) rfl rfl rfl rfl ?_
    refine zq_getR (pc' := 11) rfl rfl rfl (hp_gC rfl) ?_
    refine zq_iload (pc' := 12) rfl rfl rfl rfl ?_
    obtain ⟨hi1, H⟩ := H
    refine zq_iald (pc' := 13) rfl rfl rfl (hp_ia rfl hi1) ?_
    refine zq_iload (pc' := 14) rfl rfl rfl rfl ?_
    refine zq_ipush (pc' := 15) rfl rfl rfl ?_
    refine zq_isub (pc' := 16) rfl rfl rfl ?_
    refine hq_calli (pc' := 19) rfl rfl rfl rfl rfl rfl h_Xi ?_
    refine hmonoi H ?_
    intro x4 g2 e3 H
    refine zq_ifeq (pc' := 22) rfl rfl rfl rfl (And.intro (fun c => ?_) (fun c => ?_))
    · have H := H.1 c
      refine zq_ipush (pc' := 27) rfl rfl rfl ?_
      refine zq_iadd (pc' := 28) rfl rfl rfl ?_
      refine zq_istore_c (pc' := 29) rfl rfl ?_
      exact H
    · have H := H.2 c
      refine zq_ipush (pc' := 23) rfl rfl rfl ?_
      refine zq_goto (pc' := 27) rfl rfl rfl ?_
      refine zq_iadd (pc' := 28) rfl rfl rfl ?_
      refine zq_istore_c (pc' := 29) rfl rfl ?_
      exact H
theorem zh_X8_openBeside_29 {d : Nat} {k : Int32 → hG → hE → Prop} {X : Nat → hG → hE → Prop} {l1 : Int32} {l2 : Int32} {l3 : Int32} {g : hG} {e : hE} (H :
    hin l1 8 ∧
    zbr ((g.1 1052 l1.toNatClampNeg) ≤ (l2 + 1))
    (k l3 g e)
    (hin l1 4 ∧
      hci d 218 [.int (g.1 1063 l1.toNatClampNeg), .int (l2 + 1)] g e (fun x5 g3 e4 =>
        zbr (x5 = 0)
        (k (l3 + 1) g3 e4)
        (k (l3 + 0) g3 e4)) X)) : hwi d zm_X8_openBeside k X 29 [(0, .ref 1046), (1, .int l1), (2, .int l2), (3, .int l3)] g e := by
  refine zq_iload (pc' := 30) rfl rfl rfl rfl ?_
  refine zq_ipush (pc' := 31) rfl rfl rfl ?_
  refine zq_iadd (pc' := 32) rfl rfl rfl ?_
  refine zq_aload (pc' := 33) rfl rfl rfl rfl ?_
  refine zq_getR (pc' := 36) rfl rfl rfl (hp_gC rfl) ?_
  refine zq_iload (pc' := 37) rfl rfl rfl rfl ?_
  obtain ⟨hi1, H⟩ := H
  refine zq_iald (pc' := 38) rfl rfl rfl (hp_ia rfl hi1) ?_
  refine zq_icge (pc' := 41) rfl rfl rfl rfl (And.intro (fun c => ?_) (fun c => ?_))
  · have H := H.1 c
    refine zq_iload (pc' := 65) rfl rfl rfl rfl ?_
    exact zq_iret rfl trivial (Exists.intro _ (Exists.intro _ (And.intro rfl H)))
  · have H := H.2 c
    refine zq_iload (pc' := 42) rfl rfl rfl rfl ?_
    refine zq_aload (pc' := 43) rfl rfl rfl rfl ?_
    refine zq_getR (pc' := 46) rfl rfl rfl (hp_gC rfl) ?_
    refine zq_iload (pc' := 47) rfl rfl rfl rfl ?_
    obtain ⟨hi2, H⟩ := H
    refine zq_iald (pc' := 48) rfl rfl rfl (hp_ia rfl hi2) ?_
    refine zq_iload (pc' := 49) rfl rfl rfl rfl ?_
    refine zq_ipush (pc' := 50) rfl rfl rfl ?_
    refine zq_iadd (pc' := 51) rfl rfl rfl ?_
    refine hq_calli (pc' := 54) rfl rfl rfl rfl rfl rfl h_Xi ?_
    refine hmonoi H ?_
    intro x5 g3 e4 H
    refine zq_ifeq (pc' := 57) rfl rfl rfl rfl (And.intro (fun c => ?_) (fun c => ?_))
    · have H := H.1 c
      refine zq_ipush (pc' := 62) rfl rfl rfl ?_
      refine zq_iadd (pc' := 63) rfl rfl rfl ?_
      refine zq_istore (pc' := 64) rfl rfl rfl ?_
      refine zq_iload (pc' := 65) rfl rfl rfl rfl ?_
      exact zq_iret rfl trivial (Exists.intro _ (Exists.intro _ (And.intro rfl H)))
    · have H := H.2 c
      refine zq_ipush (pc' := 58) rfl rfl rfl ?_
      refine zq_goto (pc' := 62) rfl rfl rfl ?_
      refine zq_iadd (pc' := 63) rfl rfl rfl ?_
      refine zq_istore (pc' := 64) rfl rfl rfl ?_
      refine zq_iload (pc' := 65) rfl rfl rfl rfl ?_
      exact zq_iret rfl trivial (Exists.intro _ (Exists.intro _ (And.intro rfl H)))
theorem zh_X8_gripsOf {d : Nat} {k : Int32 → hG → hE → Prop} {X : Nat → hG → hE → Prop} {p1 : Int32} {g : hG} {e : hE} (H :
    hwi d zm_X8_gripsOf k X 4 [(0, .ref 1046), (1, .int p1), (2, .int 0), (3, .int 0)] g e) : hci (d + 1) 255 [.ref 1046, .int p1] g e k X := by
  refine hent (M := zm_X8_gripsOf) (show hT 1046 = some (.inr _) from rfl) rfl rfl rfl rfl rfl ?_
  refine zq_ipush (pc' := 1) rfl rfl rfl ?_
  refine zq_istore (pc' := 2) rfl rfl rfl ?_
  refine zq_ipush (pc' := 3) rfl rfl rfl ?_
  refine zq_istore_c (pc' := 4) rfl rfl ?_
  exact H
theorem zh_X8_gripsOf_4 {d : Nat} {k : Int32 → hG → hE → Prop} {X : Nat → hG → hE → Prop} {l1 : Int32} {l2 : Int32} {l3 : Int32} {g : hG} {e : hE} (H :
    hin l1 8 ∧
    zbr ((g.1 1052 l1.toNatClampNeg) ≤ l3)
    (k l2 g e)
    (hin ((16 * l1) + l3) 64 ∧
      hin ((16 * l1) + l3) 64 ∧
      hwi d zm_X8_gripsOf k X 4 [(0, .ref 1046), (1, .int l1), (2, .int (l2 + ((g.1 1060 ((16 * l1) + l3).toNatClampNeg) + (g.1 1061 ((16 * l1) + l3).toNatClampNeg)))), (3, .int (l3 + 1))] g e)) : hwi d zm_X8_gripsOf k X 4 [(0, .ref 1046), (1, .int l1), (2, .int l2), (3, .int l3)] g e := by
  refine zq_iload (pc' := 5) rfl rfl rfl rfl ?_
  refine zq_aload (pc' := 6) rfl rfl rfl rfl ?_
  refine zq_getR (pc' := 9) rfl rfl rfl (hp_gC rfl) ?_
  refine zq_iload (pc' := 10) rfl rfl rfl rfl ?_
  obtain ⟨hi1, H⟩ := H
  refine zq_iald (pc' := 11) rfl rfl rfl (hp_ia rfl hi1) ?_
  refine zq_icge (pc' := 14) rfl rfl rfl rfl (And.intro (fun c => ?_) (fun c => ?_))
  · have H := H.1 c
    refine zq_iload (pc' := 47) rfl rfl rfl rfl ?_
    exact zq_iret rfl trivial (Exists.intro _ (Exists.intro _ (And.intro rfl H)))
  · have H := H.2 c
    refine zq_iload (pc' := 15) rfl rfl rfl rfl ?_
    refine zq_aload (pc' := 16) rfl rfl rfl rfl ?_
    refine zq_getR (pc' := 19) rfl rfl rfl (hp_gC rfl) ?_
    refine zq_ipush (pc' := 21) rfl rfl rfl ?_
    refine zq_iload (pc' := 22) rfl rfl rfl rfl ?_
    refine zq_imul (pc' := 23) rfl rfl rfl ?_
    refine zq_iload (pc' := 24) rfl rfl rfl rfl ?_
    refine zq_iadd (pc' := 25) rfl rfl rfl ?_
    obtain ⟨hi2, H⟩ := H
    refine zq_iald (pc' := 26) rfl rfl rfl (hp_ia rfl hi2) ?_
    refine zq_aload (pc' := 27) rfl rfl rfl rfl ?_
    refine zq_getR (pc' := 30) rfl rfl rfl (hp_gC rfl) ?_
    refine zq_ipush (pc' := 32) rfl rfl rfl ?_
    refine zq_iload (pc' := 33) rfl rfl rfl rfl ?_
    refine zq_imul (pc' := 34) rfl rfl rfl ?_
    refine zq_iload (pc' := 35) rfl rfl rfl rfl ?_
    refine zq_iadd (pc' := 36) rfl rfl rfl ?_
    obtain ⟨hi3, H⟩ := H
    refine zq_iald (pc' := 37) rfl rfl rfl (hp_ia rfl hi3) ?_
    refine zq_iadd (pc' := 38) rfl rfl rfl ?_
    refine zq_iadd (pc' := 39) rfl rfl rfl ?_
    refine zq_istore (pc' := 40) rfl rfl rfl ?_
    refine zq_iinc (pc' := 43) rfl rfl rfl rfl ?_
    refine zq_goto_c (pc' := 4) rfl rfl ?_
    exact H
theorem zh_X8_allGrips {d : Nat} {k : Int32 → hG → hE → Prop} {X : Nat → hG → hE → Prop}  {g : hG} {e : hE} (H :
    hwi d zm_X8_allGrips k X 4 [(0, .ref 1046), (1, .int 0), (2, .int 0)] g e) : hci (d + 1) 256 [.ref 1046] g e k X := by
  refine hent (M := zm_X8_allGrips) (show hT 1046 = some (.inr _) from rfl) rfl rfl rfl rfl rfl ?_
  refine zq_ipush (pc' := 1) rfl rfl rfl ?_
  refine zq_istore (pc' := 2) rfl rfl rfl ?_
  refine zq_ipush (pc' := 3) rfl rfl rfl ?_
  refine zq_istore_c (pc' := 4) rfl rfl ?_
  exact H
theorem zh_X8_allGrips_4 {d : Nat} {k : Int32 → hG → hE → Prop} {X : Nat → hG → hE → Prop} {l1 : Int32} {l2 : Int32} {g : hG} {e : hE} (H :
    zbr ((g.1 1050 0) ≤ l2)
    (k l1 g e)
    (hci d 255 [.ref 1046, .int l2] g e (fun x4 g2 e3 =>
        hwi d zm_X8_allGrips k X 4 [(0, .ref 1046), (1, .int (l1 + x4)), (2, .int (l2 + 1))] g2 e3) X)) : hwi d zm_X8_allGrips k X 4 [(0, .ref 1046), (1, .int l1), (2, .int l2)] g e := by
  refine zq_iload (pc' := 5) rfl rfl rfl rfl ?_
  refine zq_aload (pc' := 6) rfl rfl rfl rfl ?_
  refine zq_getR (pc' := 9) rfl rfl rfl (hp_gC rfl) ?_
  refine zq_ipush (pc' := 10) rfl rfl rfl ?_
  refine zq_iald (pc' := 11) rfl rfl rfl (hp_ia rfl (by unfold hin; decide)) ?_
  refine zq_icge (pc' := 14) rfl rfl rfl rfl (And.intro (fun c => ?_) (fun c => ?_))
  · have H := H.1 c
    refine zq_iload (pc' := 29) rfl rfl rfl rfl ?_
    exact zq_iret rfl trivial (Exists.intro _ (Exists.intro _ (And.intro rfl H)))
  · have H := H.2 c
    refine zq_iload (pc' := 15) rfl rfl rfl rfl ?_
    refine zq_aload (pc' := 16) rfl rfl rfl rfl ?_
    refine zq_iload (pc' := 17) rfl rfl rfl rfl ?_
    refine hq_calli (pc' := 20) rfl rfl rfl rfl rfl rfl h_Xi ?_
    refine hmonoi H ?_
    intro x4 g2 e3 H
    refine zq_iadd (pc' := 21) rfl rfl rfl ?_
    refine zq_istore (pc' := 22) rfl rfl rfl ?_
    refine zq_iinc (pc' := 25) rfl rfl rfl rfl ?_
    refine zq_goto_c (pc' := 4) rfl rfl ?_
    exact H
theorem zh_X8_allClosed {d : Nat} {k : Int32 → hG → hE → Prop} {X : Nat → hG → hE → Prop}  {g : hG} {e : hE} (H :
    hwi d zm_X8_allClosed k X 4 [(0, .ref 1046), (1, .int 0), (2, .int 0)] g e) : hci (d + 1) 257 [.ref 1046] g e k X := by
  refine hent (M := zm_X8_allClosed) (show hT 1046 = some (.inr _) from rfl) rfl rfl rfl rfl rfl ?_
  refine zq_ipush (pc' := 1) rfl rfl rfl ?_
  refine zq_istore (pc' := 2) rfl rfl rfl ?_
  refine zq_ipush (pc' := 3) rfl rfl rfl ?_
  refine zq_istore_c (pc' := 4) rfl rfl ?_
  exact H
theorem zh_X8_allClosed_4 {d : Nat} {k : Int32 → hG → hE → Prop} {X : Nat → hG → hE → Prop} {l1 : Int32} {l2 : Int32} {g : hG} {e : hE} (H :
    zbr ((g.1 1050 0) ≤ l2)
    (k l1 g e)
    (hin l2 4 ∧
      hci d 219 [.int (g.1 1063 l2.toNatClampNeg)] g e (fun x5 g3 e4 =>
        hwi d zm_X8_allClosed k X 4 [(0, .ref 1046), (1, .int (l1 + x5)), (2, .int (l2 + 1))] g3 e4) X)) : hwi d zm_X8_allClosed k X 4 [(0, .ref 1046), (1, .int l1), (2, .int l2)] g e := by
  refine zq_iload (pc' := 5) rfl rfl rfl rfl ?_
  refine zq_aload (pc' := 6) rfl rfl rfl rfl ?_
  refine zq_getR (pc' := 9) rfl rfl rfl (hp_gC rfl) ?_
  refine zq_ipush (pc' := 10) rfl rfl rfl ?_
  refine zq_iald (pc' := 11) rfl rfl rfl (hp_ia rfl (by unfold hin; decide)) ?_
  refine zq_icge (pc' := 14) rfl rfl rfl rfl (And.intro (fun c => ?_) (fun c => ?_))
  · have H := H.1 c
    refine zq_iload (pc' := 33) rfl rfl rfl rfl ?_
    exact zq_iret rfl trivial (Exists.intro _ (Exists.intro _ (And.intro rfl H)))
  · have H := H.2 c
    refine zq_iload (pc' := 15) rfl rfl rfl rfl ?_
    refine zq_aload (pc' := 16) rfl rfl rfl rfl ?_
    refine zq_getR (pc' := 19) rfl rfl rfl (hp_gC rfl) ?_
    refine zq_iload (pc' := 20) rfl rfl rfl rfl ?_
    obtain ⟨hi2, H⟩ := H
    refine zq_iald (pc' := 21) rfl rfl rfl (hp_ia rfl hi2) ?_
    refine hq_calli (pc' := 24) rfl rfl rfl rfl rfl rfl h_Xi ?_
    refine hmonoi H ?_
    intro x5 g3 e4 H
    refine zq_iadd (pc' := 25) rfl rfl rfl ?_
    refine zq_istore (pc' := 26) rfl rfl rfl ?_
    refine zq_iinc (pc' := 29) rfl rfl rfl rfl ?_
    refine zq_goto_c (pc' := 4) rfl rfl ?_
    exact H
theorem zh_X8_reckon {d : Nat} {k : Int32 → hG → hE → Prop} {X : Nat → hG → hE → Prop} {p0 : Int32} {p1 : Int32} {p2 : Int32} {g : hG} {e : hE} (H :
    zbr (p0 = -nI 26)
    (zbr (p1 = 0)
      (k 0 g e)
      (zbr (p2 = 0)
        (k 0 g e)
        (k 1 g e)))
    (zbr (p0 = -nI 25)
    (zbr (p1 = p2)
      (k 1 g e)
      (k 0 g e))
    (zbr (p0 = -nI 24)
    (zbr (p2 ≤ p1)
      (k 0 g e)
      (k 1 g e))
    (zbr (p0 = -nI 23)
    (zbr (p2 = 0)
      (k 0 g e)
      (¬ p2 = 0 ∧ k (p1 / p2) g e))
    (zbr (p0 = -nI 22)
    (k (p1 * p2) g e)
    (zbr (p0 = -nI 21)
    (k (p1 - p2) g e)
    (zbr (p0 = -nI 20)
    (k (p1 + p2) g e)
    (zbr (p1 = 0)
      (zbr (p2 = 0)
        (k 0 g e)
        (k 1 g e))
      (k 1 g e))))))))) : hci (d + 1) 258 [.int p0, .int p1, .int p2] g e k X := by
  refine hentS (M := zm_X8_reckon) rfl rfl rfl rfl ?_
  refine zq_iload (pc' := 1) rfl rfl rfl rfl ?_
  refine zq_switchn rfl ?_
  refine And.intro (fun c => ?_) (fun c => ?_)
  · have H := H.1 c
    show zW (zE d) zm_X8_reckon (hqi k X) (90, [(0, .int p0), (1, .int p1), (2, .int p2)], [], hp g e)
    refine zq_iload (pc' := 91) rfl rfl rfl rfl ?_
    refine zq_ifeq (pc' := 94) rfl rfl rfl rfl (And.intro (fun c => ?_) (fun c => ?_))
    · have H := H.1 c
      refine zq_ipush (pc' := 103) rfl rfl rfl ?_
      exact zq_iret rfl trivial (Exists.intro _ (Exists.intro _ (And.intro rfl H)))
    · have H := H.2 c
      refine zq_iload (pc' := 95) rfl rfl rfl rfl ?_
      refine zq_ifeq (pc' := 98) rfl rfl rfl rfl (And.intro (fun c => ?_) (fun c => ?_))
      · have H := H.1 c
        refine zq_ipush (pc' := 103) rfl rfl rfl ?_
        exact zq_iret rfl trivial (Exists.intro _ (Exists.intro _ (And.intro rfl H)))
      · have H := H.2 c
        refine zq_ipush (pc' := 99) rfl rfl rfl ?_
        refine zq_goto (pc' := 103) rfl rfl rfl ?_
        exact zq_iret rfl trivial (Exists.intro _ (Exists.intro _ (And.intro rfl H)))
  · have H := H.2 c
    refine And.intro (fun c => ?_) (fun c => ?_)
    · have H := H.1 c
      show zW (zE d) zm_X8_reckon (hqi k X) (79, [(0, .int p0), (1, .int p1), (2, .int p2)], [], hp g e)
      refine zq_iload (pc' := 80) rfl rfl rfl rfl ?_
      refine zq_iload (pc' := 81) rfl rfl rfl rfl ?_
      refine zq_icne (pc' := 84) rfl rfl rfl rfl (And.intro (fun c => ?_) (fun c => ?_))
      · have H := H.1 c
        refine zq_ipush (pc' := 85) rfl rfl rfl ?_
        refine zq_goto (pc' := 89) rfl rfl rfl ?_
        exact zq_iret rfl trivial (Exists.intro _ (Exists.intro _ (And.intro rfl H)))
      · have H := H.2 c
        refine zq_ipush (pc' := 89) rfl rfl rfl ?_
        exact zq_iret rfl trivial (Exists.intro _ (Exists.intro _ (And.intro rfl H)))
    · have H := H.2 c
      refine And.intro (fun c => ?_) (fun c => ?_)
      · have H := H.1 c
        show zW (zE d) zm_X8_reckon (hqi k X) (68, [(0, .int p0), (1, .int p1), (2, .int p2)], [], hp g e)
        refine zq_iload (pc' := 69) rfl rfl rfl rfl ?_
        refine zq_iload (pc' := 70) rfl rfl rfl rfl ?_
        refine zq_icge (pc' := 73) rfl rfl rfl rfl (And.intro (fun c => ?_) (fun c => ?_))
        · have H := H.1 c
          refine zq_ipush (pc' := 78) rfl rfl rfl ?_
          exact zq_iret rfl trivial (Exists.intro _ (Exists.intro _ (And.intro rfl H)))
        · have H := H.2 c
          refine zq_ipush (pc' := 74) rfl rfl rfl ?_
          refine zq_goto (pc' := 78) rfl rfl rfl ?_
          exact zq_iret rfl trivial (Exists.intro _ (Exists.intro _ (And.intro rfl H)))
      · have H := H.2 c
        refine And.intro (fun c => ?_) (fun c => ?_)
        · have H := H.1 c
          show zW (zE d) zm_X8_reckon (hqi k X) (56, [(0, .int p0), (1, .int p1), (2, .int p2)], [], hp g e)
          refine zq_iload (pc' := 57) rfl rfl rfl rfl ?_
          refine zq_ifne (pc' := 60) rfl rfl rfl rfl (And.intro (fun c => ?_) (fun c => ?_))
          · have H := H.1 c
            refine zq_ipush (pc' := 61) rfl rfl rfl ?_
            refine zq_goto (pc' := 67) rfl rfl rfl ?_
            exact zq_iret rfl trivial (Exists.intro _ (Exists.intro _ (And.intro rfl H)))
          · have H := H.2 c
            refine zq_iload (pc' := 65) rfl rfl rfl rfl ?_
            refine zq_iload (pc' := 66) rfl rfl rfl rfl ?_
            obtain ⟨e0, H⟩ := H
            refine zq_idiv (pc' := 67) rfl rfl rfl e0 ?_
            exact zq_iret rfl trivial (Exists.intro _ (Exists.intro _ (And.intro rfl H)))
        · have H := H.2 c
          refine And.intro (fun c => ?_) (fun c => ?_)
          · have H := H.1 c
            show zW (zE d) zm_X8_reckon (hqi k X) (52, [(0, .int p0), (1, .int p1), (2, .int p2)], [], hp g e)
            refine zq_iload (pc' := 53) rfl rfl rfl rfl ?_
            refine zq_iload (pc' := 54) rfl rfl rfl rfl ?_
            refine zq_imul (pc' := 55) rfl rfl rfl ?_
            exact zq_iret rfl trivial (Exists.intro _ (Exists.intro _ (And.intro rfl H)))
          · have H := H.2 c
            refine And.intro (fun c => ?_) (fun c => ?_)
            · have H := H.1 c
              show zW (zE d) zm_X8_reckon (hqi k X) (48, [(0, .int p0), (1, .int p1), (2, .int p2)], [], hp g e)
              refine zq_iload (pc' := 49) rfl rfl rfl rfl ?_
              refine zq_iload (pc' := 50) rfl rfl rfl rfl ?_
              refine zq_isub (pc' := 51) rfl rfl rfl ?_
              exact zq_iret rfl trivial (Exists.intro _ (Exists.intro _ (And.intro rfl H)))
            · have H := H.2 c
              refine And.intro (fun c => ?_) (fun c => ?_)
              · have H := H.1 c
                show zW (zE d) zm_X8_reckon (hqi k X) (44, [(0, .int p0), (1, .int p1), (2, .int p2)], [], hp g e)
                refine zq_iload (pc' := 45) rfl rfl rfl rfl ?_
                refine zq_iload (pc' := 46) rfl rfl rfl rfl ?_
                refine zq_iadd (pc' := 47) rfl rfl rfl ?_
                exact zq_iret rfl trivial (Exists.intro _ (Exists.intro _ (And.intro rfl H)))
              · have H := H.2 c
                show zW (zE d) zm_X8_reckon (hqi k X) (104, [(0, .int p0), (1, .int p1), (2, .int p2)], [], hp g e)
                refine zq_iload (pc' := 105) rfl rfl rfl rfl ?_
                refine zq_ifne (pc' := 108) rfl rfl rfl rfl (And.intro (fun c => ?_) (fun c => ?_))
                · have H := H.1 c
                  refine zq_iload (pc' := 109) rfl rfl rfl rfl ?_
                  refine zq_ifeq (pc' := 112) rfl rfl rfl rfl (And.intro (fun c => ?_) (fun c => ?_))
                  · have H := H.1 c
                    refine zq_ipush (pc' := 117) rfl rfl rfl ?_
                    exact zq_iret rfl trivial (Exists.intro _ (Exists.intro _ (And.intro rfl H)))
                  · have H := H.2 c
                    refine zq_ipush (pc' := 113) rfl rfl rfl ?_
                    refine zq_goto (pc' := 117) rfl rfl rfl ?_
                    exact zq_iret rfl trivial (Exists.intro _ (Exists.intro _ (And.intro rfl H)))
                · have H := H.2 c
                  refine zq_ipush (pc' := 113) rfl rfl rfl ?_
                  refine zq_goto (pc' := 117) rfl rfl rfl ?_
                  exact zq_iret rfl trivial (Exists.intro _ (Exists.intro _ (And.intro rfl H)))
theorem zh_X8_valueNow {d : Nat} {k : Int32 → hG → hE → Prop} {X : Nat → hG → hE → Prop} {p1 np1 : Nat} (hp1 : hT p1 = some (.inl (0, np1))) {p2 : Int32} {g : hG} {e : hE} (H :
    hwi d zm_X8_valueNow k X 5 [(0, .ref 1046), (1, .ref p1), (2, .int p2), (3, .int 0), (4, .int 0)] g e) : hci (d + 1) 259 [.ref 1046, .ref p1, .int p2] g e k X := by
  refine hent (M := zm_X8_valueNow) (show hT 1046 = some (.inr _) from rfl) rfl rfl rfl rfl rfl ?_
  refine zq_ipush (pc' := 1) rfl rfl rfl ?_
  refine zq_istore (pc' := 2) rfl rfl rfl ?_
  refine zq_ipush (pc' := 3) rfl rfl rfl ?_
  refine zq_istore_c (pc' := 5) rfl rfl ?_
  exact H
theorem zh_X8_valueNow_5 {d : Nat} {k : Int32 → hG → hE → Prop} {X : Nat → hG → hE → Prop} {l1 nl1 : Nat} (hl1 : hT l1 = some (.inl (0, nl1))) {l2 : Int32} {l3 : Int32} {l4 : Int32} {g : hG} {e : hE} (H :
    zbr (l2 ≤ l4)
    (k (g.1 1066 0) g e)
    (hin l4 nl1 ∧
      zbr ((g.1 l1 l4.toNatClampNeg) ≤ (-20))
      (zbr ((g.1 l1 l4.toNatClampNeg) = (-28))
        (hin (l3 - 1) 64 ∧
          zbr ((g.1 1066 (l3 - 1).toNatClampNeg) = 0)
          (hin (l3 - 1) 64 ∧
            hwi d zm_X8_valueNow k X 5 [(0, .ref 1046), (1, .ref l1), (2, .int l2), (3, .int l3), (4, .int (l4 + 1))] (sI g 1066 (l3 - 1).toNatClampNeg 1) e)
          (hin (l3 - 1) 64 ∧
            hwi d zm_X8_valueNow k X 5 [(0, .ref 1046), (1, .ref l1), (2, .int l2), (3, .int l3), (4, .int (l4 + 1))] (sI g 1066 (l3 - 1).toNatClampNeg 0) e))
        (hin ((l3 + (-1)) - 1) 64 ∧
          hin (l3 + (-1)) 64 ∧
          hci d 258 [.int (g.1 l1 l4.toNatClampNeg), .int (g.1 1066 ((l3 + (-1)) - 1).toNatClampNeg), .int (g.1 1066 (l3 + (-1)).toNatClampNeg)] g e (fun x10 g8 e9 =>
            hin ((l3 + (-1)) - 1) 64 ∧
            hwi d zm_X8_valueNow k X 5 [(0, .ref 1046), (1, .ref l1), (2, .int l2), (3, .int (l3 + (-1))), (4, .int (l4 + 1))] (sI g8 1066 ((l3 + (-1)) - 1).toNatClampNeg x10) e9) X))
      (zbr ((g.1 l1 l4.toNatClampNeg) < 0)
        (hin ((-1) - (g.1 l1 l4.toNatClampNeg)) 5 ∧
          hin l3 64 ∧
          hwi d zm_X8_valueNow k X 5 [(0, .ref 1046), (1, .ref l1), (2, .int l2), (3, .int (l3 + 1)), (4, .int (l4 + 1))] (sI g 1066 l3.toNatClampNeg (g.1 1065 ((-1) - (g.1 l1 l4.toNatClampNeg)).toNatClampNeg)) e)
        (hin l3 64 ∧
          hwi d zm_X8_valueNow k X 5 [(0, .ref 1046), (1, .ref l1), (2, .int l2), (3, .int (l3 + 1)), (4, .int (l4 + 1))] (sI g 1066 l3.toNatClampNeg (g.1 l1 l4.toNatClampNeg)) e)))) : hwi d zm_X8_valueNow k X 5 [(0, .ref 1046), (1, .ref l1), (2, .int l2), (3, .int l3), (4, .int l4)] g e := by
  refine zq_iload (pc' := 7) rfl rfl rfl rfl ?_
  refine zq_iload (pc' := 8) rfl rfl rfl rfl ?_
  refine zq_icge (pc' := 11) rfl rfl rfl rfl (And.intro (fun c => ?_) (fun c => ?_))
  · have H := H.1 c
    refine zq_aload (pc' := 126) rfl rfl rfl rfl ?_
    refine zq_getR (pc' := 129) rfl rfl rfl (hp_gC rfl) ?_
    refine zq_ipush (pc' := 130) rfl rfl rfl ?_
    refine zq_iald (pc' := 131) rfl rfl rfl (hp_ia rfl (by unfold hin; decide)) ?_
    exact zq_iret rfl trivial (Exists.intro _ (Exists.intro _ (And.intro rfl H)))
  · have H := H.2 c
    refine zq_aload (pc' := 12) rfl rfl rfl rfl ?_
    refine zq_iload (pc' := 14) rfl rfl rfl rfl ?_
    obtain ⟨hi2, H⟩ := H
    refine zq_iald (pc' := 15) rfl rfl rfl (hp_ia hl1 hi2) ?_
    refine zq_istore (pc' := 17) rfl rfl rfl ?_
    refine zq_iload (pc' := 19) rfl rfl rfl rfl ?_
    refine zq_ipushn (pc' := 21) rfl rfl rfl ?_
    refine zq_icle (pc' := 24) rfl rfl rfl rfl (And.intro (fun c => ?_) (fun c => ?_))
    · have H := H.1 c
      refine zq_iload (pc' := 57) rfl rfl rfl rfl ?_
      refine zq_ipushn (pc' := 59) rfl rfl rfl ?_
      refine zq_icne (pc' := 62) rfl rfl rfl rfl (And.intro (fun c => ?_) (fun c => ?_))
      · have H := H.1 c
        refine zq_aload (pc' := 63) rfl rfl rfl rfl ?_
        refine zq_getR (pc' := 66) rfl rfl rfl (hp_gC rfl) ?_
        refine zq_iload (pc' := 67) rfl rfl rfl rfl ?_
        refine zq_ipush (pc' := 68) rfl rfl rfl ?_
        refine zq_isub (pc' := 69) rfl rfl rfl ?_
        refine zq_aload (pc' := 70) rfl rfl rfl rfl ?_
        refine zq_getR (pc' := 73) rfl rfl rfl (hp_gC rfl) ?_
        refine zq_iload (pc' := 74) rfl rfl rfl rfl ?_
        refine zq_ipush (pc' := 75) rfl rfl rfl ?_
        refine zq_isub (pc' := 76) rfl rfl rfl ?_
        obtain ⟨hi3, H⟩ := H
        refine zq_iald (pc' := 77) rfl rfl rfl (hp_ia rfl hi3) ?_
        refine zq_ifeq (pc' := 80) rfl rfl rfl rfl (And.intro (fun c => ?_) (fun c => ?_))
        · have H := H.1 c
          refine zq_ipush (pc' := 85) rfl rfl rfl ?_
          obtain ⟨hi4, H⟩ := H
          refine zq_iast (pc' := 86) rfl rfl rfl (hp_is rfl hi4) ?_
          refine zq_goto (pc' := 119) rfl rfl rfl ?_
          refine zq_iinc (pc' := 122) rfl rfl rfl rfl ?_
          refine zq_goto_c (pc' := 5) rfl rfl ?_
          exact H
        · have H := H.2 c
          refine zq_ipush (pc' := 81) rfl rfl rfl ?_
          refine zq_goto (pc' := 85) rfl rfl rfl ?_
          obtain ⟨hi5, H⟩ := H
          refine zq_iast (pc' := 86) rfl rfl rfl (hp_is rfl hi5) ?_
          refine zq_goto (pc' := 119) rfl rfl rfl ?_
          refine zq_iinc (pc' := 122) rfl rfl rfl rfl ?_
          refine zq_goto_c (pc' := 5) rfl rfl ?_
          exact H
      · have H := H.2 c
        refine zq_iincn (pc' := 92) rfl rfl rfl rfl ?_
        refine zq_aload (pc' := 93) rfl rfl rfl rfl ?_
        refine zq_getR (pc' := 96) rfl rfl rfl (hp_gC rfl) ?_
        refine zq_iload (pc' := 97) rfl rfl rfl rfl ?_
        refine zq_ipush (pc' := 98) rfl rfl rfl ?_
        refine zq_isub (pc' := 99) rfl rfl rfl ?_
        refine zq_iload (pc' := 101) rfl rfl rfl rfl ?_
        refine zq_aload (pc' := 102) rfl rfl rfl rfl ?_
        refine zq_getR (pc' := 105) rfl rfl rfl (hp_gC rfl) ?_
        refine zq_iload (pc' := 106) rfl rfl rfl rfl ?_
        refine zq_ipush (pc' := 107) rfl rfl rfl ?_
        refine zq_isub (pc' := 108) rfl rfl rfl ?_
        obtain ⟨hi6, H⟩ := H
        refine zq_iald (pc' := 109) rfl rfl rfl (hp_ia rfl hi6) ?_
        refine zq_aload (pc' := 110) rfl rfl rfl rfl ?_
        refine zq_getR (pc' := 113) rfl rfl rfl (hp_gC rfl) ?_
        refine zq_iload (pc' := 114) rfl rfl rfl rfl ?_
        obtain ⟨hi7, H⟩ := H
        refine zq_iald (pc' := 115) rfl rfl rfl (hp_ia rfl hi7) ?_
        refine hq_calli (pc' := 118) rfl rfl rfl rfl rfl rfl h_Xi ?_
        refine hmonoi H ?_
        intro x10 g8 e9 H
        obtain ⟨hi11, H⟩ := H
        refine zq_iast (pc' := 119) rfl rfl rfl (hp_is rfl hi11) ?_
        refine zq_iinc (pc' := 122) rfl rfl rfl rfl ?_
        refine zq_goto_c (pc' := 5) rfl rfl ?_
        exact H
    · have H := H.2 c
      refine zq_aload (pc' := 25) rfl rfl rfl rfl ?_
      refine zq_getR (pc' := 28) rfl rfl rfl (hp_gC rfl) ?_
      refine zq_iload (pc' := 29) rfl rfl rfl rfl ?_
      refine zq_iload (pc' := 31) rfl rfl rfl rfl ?_
      refine zq_iflt (pc' := 34) rfl rfl rfl rfl (And.intro (fun c => ?_) (fun c => ?_))
      · have H := H.1 c
        refine zq_aload (pc' := 40) rfl rfl rfl rfl ?_
        refine zq_getR (pc' := 43) rfl rfl rfl (hp_gC rfl) ?_
        refine zq_ipushn (pc' := 44) rfl rfl rfl ?_
        refine zq_iload (pc' := 46) rfl rfl rfl rfl ?_
        refine zq_isub (pc' := 47) rfl rfl rfl ?_
        obtain ⟨hi12, H⟩ := H
        refine zq_iald (pc' := 48) rfl rfl rfl (hp_ia rfl hi12) ?_
        obtain ⟨hi13, H⟩ := H
        refine zq_iast (pc' := 49) rfl rfl rfl (hp_is rfl hi13) ?_
        refine zq_iinc (pc' := 52) rfl rfl rfl rfl ?_
        refine zq_goto (pc' := 119) rfl rfl rfl ?_
        refine zq_iinc (pc' := 122) rfl rfl rfl rfl ?_
        refine zq_goto_c (pc' := 5) rfl rfl ?_
        exact H
      · have H := H.2 c
        refine zq_iload (pc' := 36) rfl rfl rfl rfl ?_
        refine zq_goto (pc' := 48) rfl rfl rfl ?_
        obtain ⟨hi14, H⟩ := H
        refine zq_iast (pc' := 49) rfl rfl rfl (hp_is rfl hi14) ?_
        refine zq_iinc (pc' := 52) rfl rfl rfl rfl ?_
        refine zq_goto (pc' := 119) rfl rfl rfl ?_
        refine zq_iinc (pc' := 122) rfl rfl rfl rfl ?_
        refine zq_goto_c (pc' := 5) rfl rfl ?_
        exact H
theorem zh_X8_strainOf {d : Nat} {k : Int32 → hG → hE → Prop} {X : Nat → hG → hE → Prop} {p1 : Int32} {g : hG} {e : hE} (H :
    zbr ((g.1 1050 1) = 0)
    (k 4 g e)
    (¬ (g.1 1050 1) = 0 ∧ hin (p1 - p1 / (g.1 1050 1) * (g.1 1050 1)) 16 ∧
      k (g.1 1055 (p1 - p1 / (g.1 1050 1) * (g.1 1050 1)).toNatClampNeg) g e)) : hci (d + 1) 260 [.ref 1046, .int p1] g e k X := by
  refine hent (M := zm_X8_strainOf) (show hT 1046 = some (.inr _) from rfl) rfl rfl rfl rfl rfl ?_
  refine zq_aload (pc' := 1) rfl rfl rfl rfl ?_
  refine zq_getR (pc' := 4) rfl rfl rfl (hp_gC rfl) ?_
  refine zq_ipush (pc' := 5) rfl rfl rfl ?_
  refine zq_iald (pc' := 6) rfl rfl rfl (hp_ia rfl (by unfold hin; decide)) ?_
  refine zq_ifne (pc' := 9) rfl rfl rfl rfl (And.intro (fun c => ?_) (fun c => ?_))
  · have H := H.1 c
    refine zq_ipush (pc' := 10) rfl rfl rfl ?_
    refine zq_goto (pc' := 26) rfl rfl rfl ?_
    exact zq_iret rfl trivial (Exists.intro _ (Exists.intro _ (And.intro rfl H)))
  · have H := H.2 c
    refine zq_aload (pc' := 14) rfl rfl rfl rfl ?_
    refine zq_getR (pc' := 17) rfl rfl rfl (hp_gC rfl) ?_
    refine zq_iload (pc' := 18) rfl rfl rfl rfl ?_
    refine zq_aload (pc' := 19) rfl rfl rfl rfl ?_
    refine zq_getR (pc' := 22) rfl rfl rfl (hp_gC rfl) ?_
    refine zq_ipush (pc' := 23) rfl rfl rfl ?_
    refine zq_iald (pc' := 24) rfl rfl rfl (hp_ia rfl (by unfold hin; decide)) ?_
    obtain ⟨e0, H⟩ := H
    refine zq_irem (pc' := 25) rfl rfl rfl e0 ?_
    obtain ⟨hi3, H⟩ := H
    refine zq_iald (pc' := 26) rfl rfl rfl (hp_ia rfl hi3) ?_
    exact zq_iret rfl trivial (Exists.intro _ (Exists.intro _ (And.intro rfl H)))
theorem zh_X8_ruleOf {d : Nat} {k : Int32 → hG → hE → Prop} {X : Nat → hG → hE → Prop} {p1 np1 : Nat} (hp1 : hT p1 = some (.inl (0, np1))) {p2 : Int32} {p3 : Int32} {p4 : Int32} {p5 : Int32} {p6 : Int32} {g : hG} {e : hE} (H :
    hci d 251 [.ref 1046, .int p3, .int p4] (sI (sI g 1065 0 p5) 1065 1 p4) e (fun x5 g3 e4 =>
      hci d 259 [.ref 1046, .ref p1, .int p2] (sI (sI (sI g3 1065 2 x5) 1065 3 ((sI g3 1065 2 x5).1 1046 31)) 1065 4 p6) e4 (fun x11 g9 e10 =>
        k x11 g9 e10) X) X) : hci (d + 1) 261 [.ref 1046, .ref p1, .int p2, .int p3, .int p4, .int p5, .int p6] g e k X := by
  refine hent (M := zm_X8_ruleOf) (show hT 1046 = some (.inr _) from rfl) rfl rfl rfl rfl rfl ?_
  refine zq_aload (pc' := 1) rfl rfl rfl rfl ?_
  refine zq_getR (pc' := 4) rfl rfl rfl (hp_gC rfl) ?_
  refine zq_ipush (pc' := 5) rfl rfl rfl ?_
  refine zq_iload (pc' := 7) rfl rfl rfl rfl ?_
  refine zq_iast (pc' := 8) rfl rfl rfl (hp_is rfl (by unfold hin; decide)) ?_
  refine zq_aload (pc' := 9) rfl rfl rfl rfl ?_
  refine zq_getR (pc' := 12) rfl rfl rfl (hp_gC rfl) ?_
  refine zq_ipush (pc' := 13) rfl rfl rfl ?_
  refine zq_iload (pc' := 15) rfl rfl rfl rfl ?_
  refine zq_iast (pc' := 16) rfl rfl rfl (hp_is rfl (by unfold hin; decide)) ?_
  refine zq_aload (pc' := 17) rfl rfl rfl rfl ?_
  refine zq_getR (pc' := 20) rfl rfl rfl (hp_gC rfl) ?_
  refine zq_ipush (pc' := 21) rfl rfl rfl ?_
  refine zq_aload (pc' := 22) rfl rfl rfl rfl ?_
  refine zq_iload (pc' := 23) rfl rfl rfl rfl ?_
  refine zq_iload (pc' := 25) rfl rfl rfl rfl ?_
  refine hq_calli (pc' := 28) rfl rfl rfl rfl rfl rfl h_Xi ?_
  refine hmonoi H ?_
  intro x5 g3 e4 H
  refine zq_iast (pc' := 29) rfl rfl rfl (hp_is rfl (by unfold hin; decide)) ?_
  refine zq_aload (pc' := 30) rfl rfl rfl rfl ?_
  refine zq_getR (pc' := 33) rfl rfl rfl (hp_gC rfl) ?_
  refine zq_ipush (pc' := 34) rfl rfl rfl ?_
  refine zq_aload (pc' := 35) rfl rfl rfl rfl ?_
  refine zq_getI (pc' := 38) rfl rfl rfl (hp_gI rfl) ?_
  refine zq_iast (pc' := 39) rfl rfl rfl (hp_is rfl (by unfold hin; decide)) ?_
  refine zq_aload (pc' := 40) rfl rfl rfl rfl ?_
  refine zq_getR (pc' := 43) rfl rfl rfl (hp_gC rfl) ?_
  refine zq_ipush (pc' := 44) rfl rfl rfl ?_
  refine zq_iload (pc' := 46) rfl rfl rfl rfl ?_
  refine zq_iast (pc' := 47) rfl rfl rfl (hp_is rfl (by unfold hin; decide)) ?_
  refine zq_aload (pc' := 48) rfl rfl rfl rfl ?_
  refine zq_aload (pc' := 49) rfl rfl rfl rfl ?_
  refine zq_iload (pc' := 50) rfl rfl rfl rfl ?_
  refine hq_calli (pc' := 53) rfl rfl rfl rfl rfl rfl h_Xi ?_
  refine hmonoi H ?_
  intro x11 g9 e10 H
  exact zq_iret rfl trivial (Exists.intro _ (Exists.intro _ (And.intro rfl H)))
theorem zh_X8_wouldBurst {d : Nat} {k : Int32 → hG → hE → Prop} {X : Nat → hG → hE → Prop} {p1 : Int32} {p2 : Int32} {p3 : Int32} {g : hG} {e : hE} (H :
    hci d 254 [.ref 1046, .int p1, .int p2] g e (fun x3 g1 e2 =>
      zbr ((g1.1 1050 2) ≤ 0)
      (hci d 3 [.int 99, .int (p3 + (2 * x3))] g1 e2 (fun x7 g5 e6 =>
          hci d 2 [.int 0, .int x7] g5 e6 (fun x10 g8 e9 =>
            hci d 251 [.ref 1046, .int p1, .int p2] g8 e9 (fun x13 g11 e12 =>
              zbr (x10 ≤ x13)
              (k 0 g11 e12)
              (k 1 g11 e12)) X) X) X)
      (hci d 261 [.ref 1046, .ref 1056, .int (g1.1 1050 2), .int p1, .int p2, .int p3, .int x3] g1 e2 (fun x17 g15 e16 =>
          hci d 3 [.int 99, .int x17] g15 e16 (fun x20 g18 e19 =>
            hci d 2 [.int 0, .int x20] g18 e19 (fun x23 g21 e22 =>
              hci d 251 [.ref 1046, .int p1, .int p2] g21 e22 (fun x26 g24 e25 =>
                zbr (x23 ≤ x26)
                (k 0 g24 e25)
                (k 1 g24 e25)) X) X) X) X)) X) : hci (d + 1) 262 [.ref 1046, .int p1, .int p2, .int p3] g e k X := by
  refine hent (M := zm_X8_wouldBurst) (show hT 1046 = some (.inr _) from rfl) rfl rfl rfl rfl rfl ?_
  refine zq_aload (pc' := 1) rfl rfl rfl rfl ?_
  refine zq_iload (pc' := 2) rfl rfl rfl rfl ?_
  refine zq_iload (pc' := 3) rfl rfl rfl rfl ?_
  refine hq_calli (pc' := 6) rfl rfl rfl rfl rfl rfl h_Xi ?_
  refine hmonoi H ?_
  intro x3 g1 e2 H
  refine zq_istore (pc' := 8) rfl rfl rfl ?_
  refine zq_aload (pc' := 9) rfl rfl rfl rfl ?_
  refine zq_getR (pc' := 12) rfl rfl rfl (hp_gC rfl) ?_
  refine zq_ipush (pc' := 13) rfl rfl rfl ?_
  refine zq_iald (pc' := 14) rfl rfl rfl (hp_ia rfl (by unfold hin; decide)) ?_
  refine zq_ifle (pc' := 17) rfl rfl rfl rfl (And.intro (fun c => ?_) (fun c => ?_))
  · have H := H.1 c
    refine zq_iload (pc' := 40) rfl rfl rfl rfl ?_
    refine zq_ipush (pc' := 41) rfl rfl rfl ?_
    refine zq_iload (pc' := 43) rfl rfl rfl rfl ?_
    refine zq_imul (pc' := 44) rfl rfl rfl ?_
    refine zq_iadd (pc' := 45) rfl rfl rfl ?_
    refine zq_istore (pc' := 47) rfl rfl rfl ?_
    refine zq_ipush (pc' := 48) rfl rfl rfl ?_
    refine zq_ipush (pc' := 50) rfl rfl rfl ?_
    refine zq_iload (pc' := 52) rfl rfl rfl rfl ?_
    refine hq_calli (pc' := 55) rfl rfl rfl rfl rfl rfl h_Xi ?_
    refine hmonoi H ?_
    intro x7 g5 e6 H
    refine hq_calli (pc' := 58) rfl rfl rfl rfl rfl rfl h_Xi ?_
    refine hmonoi H ?_
    intro x10 g8 e9 H
    refine zq_aload (pc' := 59) rfl rfl rfl rfl ?_
    refine zq_iload (pc' := 60) rfl rfl rfl rfl ?_
    refine zq_iload (pc' := 61) rfl rfl rfl rfl ?_
    refine hq_calli (pc' := 64) rfl rfl rfl rfl rfl rfl h_Xi ?_
    refine hmonoi H ?_
    intro x13 g11 e12 H
    refine zq_icle (pc' := 67) rfl rfl rfl rfl (And.intro (fun c => ?_) (fun c => ?_))
    · have H := H.1 c
      refine zq_ipush (pc' := 72) rfl rfl rfl ?_
      exact zq_iret rfl (Or.inl rfl) (Exists.intro _ (Exists.intro _ (And.intro rfl H)))
    · have H := H.2 c
      refine zq_ipush (pc' := 68) rfl rfl rfl ?_
      refine zq_goto (pc' := 72) rfl rfl rfl ?_
      exact zq_iret rfl (Or.inr rfl) (Exists.intro _ (Exists.intro _ (And.intro rfl H)))
  · have H := H.2 c
    refine zq_aload (pc' := 18) rfl rfl rfl rfl ?_
    refine zq_aload (pc' := 19) rfl rfl rfl rfl ?_
    refine zq_getR (pc' := 22) rfl rfl rfl (hp_gC rfl) ?_
    refine zq_aload (pc' := 23) rfl rfl rfl rfl ?_
    refine zq_getR (pc' := 26) rfl rfl rfl (hp_gC rfl) ?_
    refine zq_ipush (pc' := 27) rfl rfl rfl ?_
    refine zq_iald (pc' := 28) rfl rfl rfl (hp_ia rfl (by unfold hin; decide)) ?_
    refine zq_iload (pc' := 29) rfl rfl rfl rfl ?_
    refine zq_iload (pc' := 30) rfl rfl rfl rfl ?_
    refine zq_iload (pc' := 31) rfl rfl rfl rfl ?_
    refine zq_iload (pc' := 33) rfl rfl rfl rfl ?_
    refine hq_calli (pc' := 36) rfl rfl rfl rfl rfl rfl h_Xi ?_
    refine hmonoi H ?_
    intro x17 g15 e16 H
    refine zq_goto (pc' := 45) rfl rfl rfl ?_
    refine zq_istore (pc' := 47) rfl rfl rfl ?_
    refine zq_ipush (pc' := 48) rfl rfl rfl ?_
    refine zq_ipush (pc' := 50) rfl rfl rfl ?_
    refine zq_iload (pc' := 52) rfl rfl rfl rfl ?_
    refine hq_calli (pc' := 55) rfl rfl rfl rfl rfl rfl h_Xi ?_
    refine hmonoi H ?_
    intro x20 g18 e19 H
    refine hq_calli (pc' := 58) rfl rfl rfl rfl rfl rfl h_Xi ?_
    refine hmonoi H ?_
    intro x23 g21 e22 H
    refine zq_aload (pc' := 59) rfl rfl rfl rfl ?_
    refine zq_iload (pc' := 60) rfl rfl rfl rfl ?_
    refine zq_iload (pc' := 61) rfl rfl rfl rfl ?_
    refine hq_calli (pc' := 64) rfl rfl rfl rfl rfl rfl h_Xi ?_
    refine hmonoi H ?_
    intro x26 g24 e25 H
    refine zq_icle (pc' := 67) rfl rfl rfl rfl (And.intro (fun c => ?_) (fun c => ?_))
    · have H := H.1 c
      refine zq_ipush (pc' := 72) rfl rfl rfl ?_
      exact zq_iret rfl (Or.inl rfl) (Exists.intro _ (Exists.intro _ (And.intro rfl H)))
    · have H := H.2 c
      refine zq_ipush (pc' := 68) rfl rfl rfl ?_
      refine zq_goto (pc' := 72) rfl rfl rfl ?_
      exact zq_iret rfl (Or.inr rfl) (Exists.intro _ (Exists.intro _ (And.intro rfl H)))
theorem zh_X8_burstAt {d : Nat} {k : hG → hE → Prop} {X : Nat → hG → hE → Prop} {p1 : Int32} {p2 : Int32} {p3 : Int32} {g : hG} {e : hE} (H :
    zbr ((g.1 1050 3) ≤ 0)
    (hin p1 8 ∧
      zbr ((g.1 1051 p1.toNatClampNeg) = 1)
      (hin ((16 * p1) + p2) 64 ∧
        hci d 2 [.int 0, .int ((g.1 1060 ((16 * p1) + p2).toNatClampNeg) - 0)] g e (fun x6 g4 e5 =>
          hin ((16 * p1) + p2) 64 ∧
          hin ((16 * p1) + p2) 64 ∧
          hci d 2 [.int 0, .int (((sI g4 1060 ((16 * p1) + p2).toNatClampNeg x6).1 1061 ((16 * p1) + p2).toNatClampNeg) - 0)] (sI g4 1060 ((16 * p1) + p2).toNatClampNeg x6) e5 (fun x11 g9 e10 =>
            hin ((16 * p1) + p2) 64 ∧
            hin p1 4 ∧
            hin p1 4 ∧
            ∀ g15, g15 = sI (sI g9 1061 ((16 * p1) + p2).toNatClampNeg x11) 1063 p1.toNatClampNeg (((sI g9 1061 ((16 * p1) + p2).toNatClampNeg x11).1 1063 p1.toNatClampNeg) &&& ((1 <<< (p2 &&& 31)) ^^^ (-1))) →
            hin p1 4 ∧
            zbr ((g15.1 1067 p1.toNatClampNeg) = 0)
            (hin p1 4 ∧
              hwv d zm_X8_burstAt k X 148 [(0, .ref 1046), (1, .int p1), (2, .int p2)] (sI g15 1068 p1.toNatClampNeg p2) e10)
            (hwv d zm_X8_burstAt k X 148 [(0, .ref 1046), (1, .int p1), (2, .int p2)] g15 e10)) X) X)
      (hci d 3 [.int 9, .int 1] g e (fun x20 g18 e19 =>
          hci d 2 [.int 0, .int x20] g18 e19 (fun x23 g21 e22 =>
            hin ((16 * p1) + p2) 64 ∧
            hci d 2 [.int 0, .int ((g21.1 1060 ((16 * p1) + p2).toNatClampNeg) - x23)] g21 e22 (fun x27 g25 e26 =>
              hin ((16 * p1) + p2) 64 ∧
              hin ((16 * p1) + p2) 64 ∧
              hci d 2 [.int 0, .int (((sI g25 1060 ((16 * p1) + p2).toNatClampNeg x27).1 1061 ((16 * p1) + p2).toNatClampNeg) - x23)] (sI g25 1060 ((16 * p1) + p2).toNatClampNeg x27) e26 (fun x32 g30 e31 =>
                hin ((16 * p1) + p2) 64 ∧
                hin p1 4 ∧
                hin p1 4 ∧
                ∀ g36, g36 = sI (sI g30 1061 ((16 * p1) + p2).toNatClampNeg x32) 1063 p1.toNatClampNeg (((sI g30 1061 ((16 * p1) + p2).toNatClampNeg x32).1 1063 p1.toNatClampNeg) &&& ((1 <<< (p2 &&& 31)) ^^^ (-1))) →
                hin p1 4 ∧
                zbr ((g36.1 1067 p1.toNatClampNeg) = 0)
                (hin p1 4 ∧
                  hwv d zm_X8_burstAt k X 148 [(0, .ref 1046), (1, .int p1), (2, .int p2)] (sI g36 1068 p1.toNatClampNeg p2) e31)
                (hwv d zm_X8_burstAt k X 148 [(0, .ref 1046), (1, .int p1), (2, .int p2)] g36 e31)) X) X) X) X))
    (hin p1 4 ∧
      hci d 219 [.int (g.1 1067 p1.toNatClampNeg)] g e (fun x43 g41 e42 =>
        hci d 261 [.ref 1046, .ref 1057, .int (g.1 1050 3), .int p1, .int p2, .int p3, .int x43] g41 e42 (fun x46 g44 e45 =>
          hin p1 8 ∧
          zbr ((g44.1 1051 p1.toNatClampNeg) = 1)
          (hin ((16 * p1) + p2) 64 ∧
            hci d 2 [.int 0, .int ((g44.1 1060 ((16 * p1) + p2).toNatClampNeg) - 0)] g44 e45 (fun x51 g49 e50 =>
              hin ((16 * p1) + p2) 64 ∧
              hin ((16 * p1) + p2) 64 ∧
              hci d 2 [.int 0, .int (((sI g49 1060 ((16 * p1) + p2).toNatClampNeg x51).1 1061 ((16 * p1) + p2).toNatClampNeg) - 0)] (sI g49 1060 ((16 * p1) + p2).toNatClampNeg x51) e50 (fun x56 g54 e55 =>
                hin ((16 * p1) + p2) 64 ∧
                hin p1 4 ∧
                hin p1 4 ∧
                ∀ g60, g60 = sI (sI g54 1061 ((16 * p1) + p2).toNatClampNeg x56) 1063 p1.toNatClampNeg (((sI g54 1061 ((16 * p1) + p2).toNatClampNeg x56).1 1063 p1.toNatClampNeg) &&& ((1 <<< (p2 &&& 31)) ^^^ (-1))) →
                hin p1 4 ∧
                zbr ((g60.1 1067 p1.toNatClampNeg) = 0)
                (hin p1 4 ∧
                  hwv d zm_X8_burstAt k X 148 [(0, .ref 1046), (1, .int p1), (2, .int p2)] (sI g60 1068 p1.toNatClampNeg p2) e55)
                (hwv d zm_X8_burstAt k X 148 [(0, .ref 1046), (1, .int p1), (2, .int p2)] g60 e55)) X) X)
          (hci d 3 [.int 9, .int x46] g44 e45 (fun x65 g63 e64 =>
              hci d 2 [.int 0, .int x65] g63 e64 (fun x68 g66 e67 =>
                hin ((16 * p1) + p2) 64 ∧
                hci d 2 [.int 0, .int ((g66.1 1060 ((16 * p1) + p2).toNatClampNeg) - x68)] g66 e67 (fun x72 g70 e71 =>
                  hin ((16 * p1) + p2) 64 ∧
                  hin ((16 * p1) + p2) 64 ∧
                  hci d 2 [.int 0, .int (((sI g70 1060 ((16 * p1) + p2).toNatClampNeg x72).1 1061 ((16 * p1) + p2).toNatClampNeg) - x68)] (sI g70 1060 ((16 * p1) + p2).toNatClampNeg x72) e71 (fun x77 g75 e76 =>
                    hin ((16 * p1) + p2) 64 ∧
                    hin p1 4 ∧
                    hin p1 4 ∧
                    ∀ g81, g81 = sI (sI g75 1061 ((16 * p1) + p2).toNatClampNeg x77) 1063 p1.toNatClampNeg (((sI g75 1061 ((16 * p1) + p2).toNatClampNeg x77).1 1063 p1.toNatClampNeg) &&& ((1 <<< (p2 &&& 31)) ^^^ (-1))) →
                    hin p1 4 ∧
                    zbr ((g81.1 1067 p1.toNatClampNeg) = 0)
                    (hin p1 4 ∧
                      hwv d zm_X8_burstAt k X 148 [(0, .ref 1046), (1, .int p1), (2, .int p2)] (sI g81 1068 p1.toNatClampNeg p2) e76)
                    (hwv d zm_X8_burstAt k X 148 [(0, .ref 1046), (1, .int p1), (2, .int p2)] g81 e76)) X) X) X) X)) X) X)) : hcv (d + 1) 263 [.ref 1046, .int p1, .int p2, .int p3] g e k X := by
  refine hent (M := zm_X8_burstAt) (show hT 1046 = some (.inr _) from rfl) rfl rfl rfl rfl rfl ?_
  refine zq_aload (pc' := 1) rfl rfl rfl rfl ?_
  refine zq_getR (pc' := 4) rfl rfl rfl (hp_gC rfl) ?_
  refine zq_ipush (pc' := 5) rfl rfl rfl ?_
  refine zq_iald (pc' := 6) rfl rfl rfl (hp_ia rfl (by unfold hin; decide)) ?_
  refine zq_ifle (pc' := 9) rfl rfl rfl rfl (And.intro (fun c => ?_) (fun c => ?_))
  · have H := H.1 c
    refine zq_ipush (pc' := 39) rfl rfl rfl ?_
    refine zq_istore (pc' := 41) rfl rfl rfl ?_
    refine zq_aload (pc' := 42) rfl rfl rfl rfl ?_
    refine zq_getR (pc' := 45) rfl rfl rfl (hp_gC rfl) ?_
    refine zq_iload (pc' := 46) rfl rfl rfl rfl ?_
    obtain ⟨hi2, H⟩ := H
    refine zq_iald (pc' := 47) rfl rfl rfl (hp_ia rfl hi2) ?_
    refine zq_ipush (pc' := 48) rfl rfl rfl ?_
    refine zq_icne (pc' := 51) rfl rfl rfl rfl (And.intro (fun c => ?_) (fun c => ?_))
    · have H := H.1 c
      refine zq_ipush (pc' := 52) rfl rfl rfl ?_
      refine zq_goto (pc' := 66) rfl rfl rfl ?_
      refine zq_istore (pc' := 68) rfl rfl rfl ?_
      refine zq_ipush (pc' := 70) rfl rfl rfl ?_
      refine zq_iload (pc' := 71) rfl rfl rfl rfl ?_
      refine zq_imul (pc' := 72) rfl rfl rfl ?_
      refine zq_iload (pc' := 73) rfl rfl rfl rfl ?_
      refine zq_iadd (pc' := 74) rfl rfl rfl ?_
      refine zq_istore (pc' := 76) rfl rfl rfl ?_
      refine zq_aload (pc' := 77) rfl rfl rfl rfl ?_
      refine zq_getR (pc' := 80) rfl rfl rfl (hp_gC rfl) ?_
      refine zq_iload (pc' := 82) rfl rfl rfl rfl ?_
      refine zq_ipush (pc' := 83) rfl rfl rfl ?_
      refine zq_aload (pc' := 84) rfl rfl rfl rfl ?_
      refine zq_getR (pc' := 87) rfl rfl rfl (hp_gC rfl) ?_
      refine zq_iload (pc' := 89) rfl rfl rfl rfl ?_
      obtain ⟨hi3, H⟩ := H
      refine zq_iald (pc' := 90) rfl rfl rfl (hp_ia rfl hi3) ?_
      refine zq_iload (pc' := 92) rfl rfl rfl rfl ?_
      refine zq_isub (pc' := 93) rfl rfl rfl ?_
      refine hq_calli (pc' := 96) rfl rfl rfl rfl rfl rfl h_Xv ?_
      refine hmonoi H ?_
      intro x6 g4 e5 H
      obtain ⟨hi7, H⟩ := H
      refine zq_iast (pc' := 97) rfl rfl rfl (hp_is rfl hi7) ?_
      refine zq_aload (pc' := 98) rfl rfl rfl rfl ?_
      refine zq_getR (pc' := 101) rfl rfl rfl (hp_gC rfl) ?_
      refine zq_iload (pc' := 103) rfl rfl rfl rfl ?_
      refine zq_ipush (pc' := 104) rfl rfl rfl ?_
      refine zq_aload (pc' := 105) rfl rfl rfl rfl ?_
      refine zq_getR (pc' := 108) rfl rfl rfl (hp_gC rfl) ?_
      refine zq_iload (pc' := 110) rfl rfl rfl rfl ?_
      obtain ⟨hi8, H⟩ := H
      refine zq_iald (pc' := 111) rfl rfl rfl (hp_ia rfl hi8) ?_
      refine zq_iload (pc' := 113) rfl rfl rfl rfl ?_
      refine zq_isub (pc' := 114) rfl rfl rfl ?_
      refine hq_calli (pc' := 117) rfl rfl rfl rfl rfl rfl h_Xv ?_
      refine hmonoi H ?_
      intro x11 g9 e10 H
      obtain ⟨hi12, H⟩ := H
      refine zq_iast (pc' := 118) rfl rfl rfl (hp_is rfl hi12) ?_
      refine zq_aload (pc' := 119) rfl rfl rfl rfl ?_
      refine zq_getR (pc' := 122) rfl rfl rfl (hp_gC rfl) ?_
      refine zq_iload (pc' := 123) rfl rfl rfl rfl ?_
      refine zq_dup2 (pc' := 124) rfl rfl rfl rfl rfl ?_
      obtain ⟨hi13, H⟩ := H
      refine zq_iald (pc' := 125) rfl rfl rfl (hp_ia rfl hi13) ?_
      refine zq_ipush (pc' := 126) rfl rfl rfl ?_
      refine zq_iload (pc' := 127) rfl rfl rfl rfl ?_
      refine zq_ishl (pc' := 128) rfl rfl rfl ?_
      refine zq_ipushn (pc' := 129) rfl rfl rfl ?_
      refine zq_ixor (pc' := 130) rfl rfl rfl ?_
      refine zq_iand (pc' := 131) rfl rfl rfl ?_
      obtain ⟨hi14, H⟩ := H
      refine zq_iast (pc' := 132) rfl rfl rfl (hp_is rfl hi14) ?_
      have H := H _ rfl
      refine zq_aload (pc' := 133) rfl rfl rfl rfl ?_
      refine zq_getR (pc' := 136) rfl rfl rfl (hp_gC rfl) ?_
      refine zq_iload (pc' := 137) rfl rfl rfl rfl ?_
      obtain ⟨hi16, H⟩ := H
      refine zq_iald (pc' := 138) rfl rfl rfl (hp_ia rfl hi16) ?_
      refine zq_ifne_c (pc' := 141) (lt := [(0, .ref 1046), (1, .int p1), (2, .int p2)]) (lf := [(6, .int ((16 * p1) + p2)), (5, .int 0), (4, .int 1), (0, .ref 1046), (1, .int p1), (2, .int p2), (3, .int p3)]) rfl rfl rfl rfl (And.intro (fun c => ?_) (fun c => ?_))
      · have H := H.1 c
        refine zq_aload (pc' := 142) rfl rfl rfl rfl ?_
        refine zq_getR (pc' := 145) rfl rfl rfl (hp_gC rfl) ?_
        refine zq_iload (pc' := 146) rfl rfl rfl rfl ?_
        refine zq_iload (pc' := 147) rfl rfl rfl rfl ?_
        obtain ⟨hi17, H⟩ := H
        refine zq_iast_c (pc' := 148) rfl rfl (hp_is rfl hi17) ?_
        exact H
      · have H := H.2 c
        exact H
    · have H := H.2 c
      refine zq_ipush (pc' := 56) rfl rfl rfl ?_
      refine zq_ipush (pc' := 58) rfl rfl rfl ?_
      refine zq_iload (pc' := 60) rfl rfl rfl rfl ?_
      refine hq_calli (pc' := 63) rfl rfl rfl rfl rfl rfl h_Xv ?_
      refine hmonoi H ?_
      intro x20 g18 e19 H
      refine hq_calli (pc' := 66) rfl rfl rfl rfl rfl rfl h_Xv ?_
      refine hmonoi H ?_
      intro x23 g21 e22 H
      refine zq_istore (pc' := 68) rfl rfl rfl ?_
      refine zq_ipush (pc' := 70) rfl rfl rfl ?_
      refine zq_iload (pc' := 71) rfl rfl rfl rfl ?_
      refine zq_imul (pc' := 72) rfl rfl rfl ?_
      refine zq_iload (pc' := 73) rfl rfl rfl rfl ?_
      refine zq_iadd (pc' := 74) rfl rfl rfl ?_
      refine zq_istore (pc' := 76) rfl rfl rfl ?_
      refine zq_aload (pc' := 77) rfl rfl rfl rfl ?_
      refine zq_getR (pc' := 80) rfl rfl rfl (hp_gC rfl) ?_
      refine zq_iload (pc' := 82) rfl rfl rfl rfl ?_
      refine zq_ipush (pc' := 83) rfl rfl rfl ?_
      refine zq_aload (pc' := 84) rfl rfl rfl rfl ?_
      refine zq_getR (pc' := 87) rfl rfl rfl (hp_gC rfl) ?_
      refine zq_iload (pc' := 89) rfl rfl rfl rfl ?_
      obtain ⟨hi24, H⟩ := H
      refine zq_iald (pc' := 90) rfl rfl rfl (hp_ia rfl hi24) ?_
      refine zq_iload (pc' := 92) rfl rfl rfl rfl ?_
      refine zq_isub (pc' := 93) rfl rfl rfl ?_
      refine hq_calli (pc' := 96) rfl rfl rfl rfl rfl rfl h_Xv ?_
      refine hmonoi H ?_
      intro x27 g25 e26 H
      obtain ⟨hi28, H⟩ := H
      refine zq_iast (pc' := 97) rfl rfl rfl (hp_is rfl hi28) ?_
      refine zq_aload (pc' := 98) rfl rfl rfl rfl ?_
      refine zq_getR (pc' := 101) rfl rfl rfl (hp_gC rfl) ?_
      refine zq_iload (pc' := 103) rfl rfl rfl rfl ?_
      refine zq_ipush (pc' := 104) rfl rfl rfl ?_
      refine zq_aload (pc' := 105) rfl rfl rfl rfl ?_
      refine zq_getR (pc' := 108) rfl rfl rfl (hp_gC rfl) ?_
      refine zq_iload (pc' := 110) rfl rfl rfl rfl ?_
      obtain ⟨hi29, H⟩ := H
      refine zq_iald (pc' := 111) rfl rfl rfl (hp_ia rfl hi29) ?_
      refine zq_iload (pc' := 113) rfl rfl rfl rfl ?_
      refine zq_isub (pc' := 114) rfl rfl rfl ?_
      refine hq_calli (pc' := 117) rfl rfl rfl rfl rfl rfl h_Xv ?_
      refine hmonoi H ?_
      intro x32 g30 e31 H
      obtain ⟨hi33, H⟩ := H
      refine zq_iast (pc' := 118) rfl rfl rfl (hp_is rfl hi33) ?_
      refine zq_aload (pc' := 119) rfl rfl rfl rfl ?_
      refine zq_getR (pc' := 122) rfl rfl rfl (hp_gC rfl) ?_
      refine zq_iload (pc' := 123) rfl rfl rfl rfl ?_
      refine zq_dup2 (pc' := 124) rfl rfl rfl rfl rfl ?_
      obtain ⟨hi34, H⟩ := H
      refine zq_iald (pc' := 125) rfl rfl rfl (hp_ia rfl hi34) ?_
      refine zq_ipush (pc' := 126) rfl rfl rfl ?_
      refine zq_iload (pc' := 127) rfl rfl rfl rfl ?_
      refine zq_ishl (pc' := 128) rfl rfl rfl ?_
      refine zq_ipushn (pc' := 129) rfl rfl rfl ?_
      refine zq_ixor (pc' := 130) rfl rfl rfl ?_
      refine zq_iand (pc' := 131) rfl rfl rfl ?_
      obtain ⟨hi35, H⟩ := H
      refine zq_iast (pc' := 132) rfl rfl rfl (hp_is rfl hi35) ?_
      have H := H _ rfl
      refine zq_aload (pc' := 133) rfl rfl rfl rfl ?_
      refine zq_getR (pc' := 136) rfl rfl rfl (hp_gC rfl) ?_
      refine zq_iload (pc' := 137) rfl rfl rfl rfl ?_
      obtain ⟨hi37, H⟩ := H
      refine zq_iald (pc' := 138) rfl rfl rfl (hp_ia rfl hi37) ?_
      refine zq_ifne_c (pc' := 141) (lt := [(0, .ref 1046), (1, .int p1), (2, .int p2)]) (lf := [(6, .int ((16 * p1) + p2)), (5, .int x23), (4, .int 1), (0, .ref 1046), (1, .int p1), (2, .int p2), (3, .int p3)]) rfl rfl rfl rfl (And.intro (fun c => ?_) (fun c => ?_))
      · have H := H.1 c
        refine zq_aload (pc' := 142) rfl rfl rfl rfl ?_
        refine zq_getR (pc' := 145) rfl rfl rfl (hp_gC rfl) ?_
        refine zq_iload (pc' := 146) rfl rfl rfl rfl ?_
        refine zq_iload (pc' := 147) rfl rfl rfl rfl ?_
        obtain ⟨hi38, H⟩ := H
        refine zq_iast_c (pc' := 148) rfl rfl (hp_is rfl hi38) ?_
        exact H
      · have H := H.2 c
        exact H
  · have H := H.2 c
    refine zq_aload (pc' := 10) rfl rfl rfl rfl ?_
    refine zq_aload (pc' := 11) rfl rfl rfl rfl ?_
    refine zq_getR (pc' := 14) rfl rfl rfl (hp_gC rfl) ?_
    refine zq_aload (pc' := 15) rfl rfl rfl rfl ?_
    refine zq_getR (pc' := 18) rfl rfl rfl (hp_gC rfl) ?_
    refine zq_ipush (pc' := 19) rfl rfl rfl ?_
    refine zq_iald (pc' := 20) rfl rfl rfl (hp_ia rfl (by unfold hin; decide)) ?_
    refine zq_iload (pc' := 21) rfl rfl rfl rfl ?_
    refine zq_iload (pc' := 22) rfl rfl rfl rfl ?_
    refine zq_iload (pc' := 23) rfl rfl rfl rfl ?_
    refine zq_aload (pc' := 24) rfl rfl rfl rfl ?_
    refine zq_getR (pc' := 27) rfl rfl rfl (hp_gC rfl) ?_
    refine zq_iload (pc' := 28) rfl rfl rfl rfl ?_
    obtain ⟨hi40, H⟩ := H
    refine zq_iald (pc' := 29) rfl rfl rfl (hp_ia rfl hi40) ?_
    refine hq_calli (pc' := 32) rfl rfl rfl rfl rfl rfl h_Xv ?_
    refine hmonoi H ?_
    intro x43 g41 e42 H
    refine hq_calli (pc' := 35) rfl rfl rfl rfl rfl rfl h_Xv ?_
    refine hmonoi H ?_
    intro x46 g44 e45 H
    refine zq_goto (pc' := 39) rfl rfl rfl ?_
    refine zq_istore (pc' := 41) rfl rfl rfl ?_
    refine zq_aload (pc' := 42) rfl rfl rfl rfl ?_
    refine zq_getR (pc' := 45) rfl rfl rfl (hp_gC rfl) ?_
    refine zq_iload (pc' := 46) rfl rfl rfl rfl ?_
    obtain ⟨hi47, H⟩ := H
    refine zq_iald (pc' := 47) rfl rfl rfl (hp_ia rfl hi47) ?_
    refine zq_ipush (pc' := 48) rfl rfl rfl ?_
    refine zq_icne (pc' := 51) rfl rfl rfl rfl (And.intro (fun c => ?_) (fun c => ?_))
    · have H := H.1 c
      refine zq_ipush (pc' := 52) rfl rfl rfl ?_
      refine zq_goto (pc' := 66) rfl rfl rfl ?_
      refine zq_istore (pc' := 68) rfl rfl rfl ?_
      refine zq_ipush (pc' := 70) rfl rfl rfl ?_
      refine zq_iload (pc' := 71) rfl rfl rfl rfl ?_
      refine zq_imul (pc' := 72) rfl rfl rfl ?_
      refine zq_iload (pc' := 73) rfl rfl rfl rfl ?_
      refine zq_iadd (pc' := 74) rfl rfl rfl ?_
      refine zq_istore (pc' := 76) rfl rfl rfl ?_
      refine zq_aload (pc' := 77) rfl rfl rfl rfl ?_
      refine zq_getR (pc' := 80) rfl rfl rfl (hp_gC rfl) ?_
      refine zq_iload (pc' := 82) rfl rfl rfl rfl ?_
      refine zq_ipush (pc' := 83) rfl rfl rfl ?_
      refine zq_aload (pc' := 84) rfl rfl rfl rfl ?_
      refine zq_getR (pc' := 87) rfl rfl rfl (hp_gC rfl) ?_
      refine zq_iload (pc' := 89) rfl rfl rfl rfl ?_
      obtain ⟨hi48, H⟩ := H
      refine zq_iald (pc' := 90) rfl rfl rfl (hp_ia rfl hi48) ?_
      refine zq_iload (pc' := 92) rfl rfl rfl rfl ?_
      refine zq_isub (pc' := 93) rfl rfl rfl ?_
      refine hq_calli (pc' := 96) rfl rfl rfl rfl rfl rfl h_Xv ?_
      refine hmonoi H ?_
      intro x51 g49 e50 H
      obtain ⟨hi52, H⟩ := H
      refine zq_iast (pc' := 97) rfl rfl rfl (hp_is rfl hi52) ?_
      refine zq_aload (pc' := 98) rfl rfl rfl rfl ?_
      refine zq_getR (pc' := 101) rfl rfl rfl (hp_gC rfl) ?_
      refine zq_iload (pc' := 103) rfl rfl rfl rfl ?_
      refine zq_ipush (pc' := 104) rfl rfl rfl ?_
      refine zq_aload (pc' := 105) rfl rfl rfl rfl ?_
      refine zq_getR (pc' := 108) rfl rfl rfl (hp_gC rfl) ?_
      refine zq_iload (pc' := 110) rfl rfl rfl rfl ?_
      obtain ⟨hi53, H⟩ := H
      refine zq_iald (pc' := 111) rfl rfl rfl (hp_ia rfl hi53) ?_
      refine zq_iload (pc' := 113) rfl rfl rfl rfl ?_
      refine zq_isub (pc' := 114) rfl rfl rfl ?_
      refine hq_calli (pc' := 117) rfl rfl rfl rfl rfl rfl h_Xv ?_
      refine hmonoi H ?_
      intro x56 g54 e55 H
      obtain ⟨hi57, H⟩ := H
      refine zq_iast (pc' := 118) rfl rfl rfl (hp_is rfl hi57) ?_
      refine zq_aload (pc' := 119) rfl rfl rfl rfl ?_
      refine zq_getR (pc' := 122) rfl rfl rfl (hp_gC rfl) ?_
      refine zq_iload (pc' := 123) rfl rfl rfl rfl ?_
      refine zq_dup2 (pc' := 124) rfl rfl rfl rfl rfl ?_
      obtain ⟨hi58, H⟩ := H
      refine zq_iald (pc' := 125) rfl rfl rfl (hp_ia rfl hi58) ?_
      refine zq_ipush (pc' := 126) rfl rfl rfl ?_
      refine zq_iload (pc' := 127) rfl rfl rfl rfl ?_
      refine zq_ishl (pc' := 128) rfl rfl rfl ?_
      refine zq_ipushn (pc' := 129) rfl rfl rfl ?_
      refine zq_ixor (pc' := 130) rfl rfl rfl ?_
      refine zq_iand (pc' := 131) rfl rfl rfl ?_
      obtain ⟨hi59, H⟩ := H
      refine zq_iast (pc' := 132) rfl rfl rfl (hp_is rfl hi59) ?_
      have H := H _ rfl
      refine zq_aload (pc' := 133) rfl rfl rfl rfl ?_
      refine zq_getR (pc' := 136) rfl rfl rfl (hp_gC rfl) ?_
      refine zq_iload (pc' := 137) rfl rfl rfl rfl ?_
      obtain ⟨hi61, H⟩ := H
      refine zq_iald (pc' := 138) rfl rfl rfl (hp_ia rfl hi61) ?_
      refine zq_ifne_c (pc' := 141) (lt := [(0, .ref 1046), (1, .int p1), (2, .int p2)]) (lf := [(6, .int ((16 * p1) + p2)), (5, .int 0), (4, .int x46), (0, .ref 1046), (1, .int p1), (2, .int p2), (3, .int p3)]) rfl rfl rfl rfl (And.intro (fun c => ?_) (fun c => ?_))
      · have H := H.1 c
        refine zq_aload (pc' := 142) rfl rfl rfl rfl ?_
        refine zq_getR (pc' := 145) rfl rfl rfl (hp_gC rfl) ?_
        refine zq_iload (pc' := 146) rfl rfl rfl rfl ?_
        refine zq_iload (pc' := 147) rfl rfl rfl rfl ?_
        obtain ⟨hi62, H⟩ := H
        refine zq_iast_c (pc' := 148) rfl rfl (hp_is rfl hi62) ?_
        exact H
      · have H := H.2 c
        exact H
    · have H := H.2 c
      refine zq_ipush (pc' := 56) rfl rfl rfl ?_
      refine zq_ipush (pc' := 58) rfl rfl rfl ?_
      refine zq_iload (pc' := 60) rfl rfl rfl rfl ?_
      refine hq_calli (pc' := 63) rfl rfl rfl rfl rfl rfl h_Xv ?_
      refine hmonoi H ?_
      intro x65 g63 e64 H
      refine hq_calli (pc' := 66) rfl rfl rfl rfl rfl rfl h_Xv ?_
      refine hmonoi H ?_
      intro x68 g66 e67 H
      refine zq_istore (pc' := 68) rfl rfl rfl ?_
      refine zq_ipush (pc' := 70) rfl rfl rfl ?_
      refine zq_iload (pc' := 71) rfl rfl rfl rfl ?_
      refine zq_imul (pc' := 72) rfl rfl rfl ?_
      refine zq_iload (pc' := 73) rfl rfl rfl rfl ?_
      refine zq_iadd (pc' := 74) rfl rfl rfl ?_
      refine zq_istore (pc' := 76) rfl rfl rfl ?_
      refine zq_aload (pc' := 77) rfl rfl rfl rfl ?_
      refine zq_getR (pc' := 80) rfl rfl rfl (hp_gC rfl) ?_
      refine zq_iload (pc' := 82) rfl rfl rfl rfl ?_
      refine zq_ipush (pc' := 83) rfl rfl rfl ?_
      refine zq_aload (pc' := 84) rfl rfl rfl rfl ?_
      refine zq_getR (pc' := 87) rfl rfl rfl (hp_gC rfl) ?_
      refine zq_iload (pc' := 89) rfl rfl rfl rfl ?_
      obtain ⟨hi69, H⟩ := H
      refine zq_iald (pc' := 90) rfl rfl rfl (hp_ia rfl hi69) ?_
      refine zq_iload (pc' := 92) rfl rfl rfl rfl ?_
      refine zq_isub (pc' := 93) rfl rfl rfl ?_
      refine hq_calli (pc' := 96) rfl rfl rfl rfl rfl rfl h_Xv ?_
      refine hmonoi H ?_
      intro x72 g70 e71 H
      obtain ⟨hi73, H⟩ := H
      refine zq_iast (pc' := 97) rfl rfl rfl (hp_is rfl hi73) ?_
      refine zq_aload (pc' := 98) rfl rfl rfl rfl ?_
      refine zq_getR (pc' := 101) rfl rfl rfl (hp_gC rfl) ?_
      refine zq_iload (pc' := 103) rfl rfl rfl rfl ?_
      refine zq_ipush (pc' := 104) rfl rfl rfl ?_
      refine zq_aload (pc' := 105) rfl rfl rfl rfl ?_
      refine zq_getR (pc' := 108) rfl rfl rfl (hp_gC rfl) ?_
      refine zq_iload (pc' := 110) rfl rfl rfl rfl ?_
      obtain ⟨hi74, H⟩ := H
      refine zq_iald (pc' := 111) rfl rfl rfl (hp_ia rfl hi74) ?_
      refine zq_iload (pc' := 113) rfl rfl rfl rfl ?_
      refine zq_isub (pc' := 114) rfl rfl rfl ?_
      refine hq_calli (pc' := 117) rfl rfl rfl rfl rfl rfl h_Xv ?_
      refine hmonoi H ?_
      intro x77 g75 e76 H
      obtain ⟨hi78, H⟩ := H
      refine zq_iast (pc' := 118) rfl rfl rfl (hp_is rfl hi78) ?_
      refine zq_aload (pc' := 119) rfl rfl rfl rfl ?_
      refine zq_getR (pc' := 122) rfl rfl rfl (hp_gC rfl) ?_
      refine zq_iload (pc' := 123) rfl rfl rfl rfl ?_
      refine zq_dup2 (pc' := 124) rfl rfl rfl rfl rfl ?_
      obtain ⟨hi79, H⟩ := H
      refine zq_iald (pc' := 125) rfl rfl rfl (hp_ia rfl hi79) ?_
      refine zq_ipush (pc' := 126) rfl rfl rfl ?_
      refine zq_iload (pc' := 127) rfl rfl rfl rfl ?_
      refine zq_ishl (pc' := 128) rfl rfl rfl ?_
      refine zq_ipushn (pc' := 129) rfl rfl rfl ?_
      refine zq_ixor (pc' := 130) rfl rfl rfl ?_
      refine zq_iand (pc' := 131) rfl rfl rfl ?_
      obtain ⟨hi80, H⟩ := H
      refine zq_iast (pc' := 132) rfl rfl rfl (hp_is rfl hi80) ?_
      have H := H _ rfl
      refine zq_aload (pc' := 133) rfl rfl rfl rfl ?_
      refine zq_getR (pc' := 136) rfl rfl rfl (hp_gC rfl) ?_
      refine zq_iload (pc' := 137) rfl rfl rfl rfl ?_
      obtain ⟨hi82, H⟩ := H
      refine zq_iald (pc' := 138) rfl rfl rfl (hp_ia rfl hi82) ?_
      refine zq_ifne_c (pc' := 141) (lt := [(0, .ref 1046), (1, .int p1), (2, .int p2)]) (lf := [(6, .int ((16 * p1) + p2)), (5, .int x68), (4, .int x46), (0, .ref 1046), (1, .int p1), (2, .int p2), (3, .int p3)]) rfl rfl rfl rfl (And.intro (fun c => ?_) (fun c => ?_))
      · have H := H.1 c
        refine zq_aload (pc' := 142) rfl rfl rfl rfl ?_
        refine zq_getR (pc' := 145) rfl rfl rfl (hp_gC rfl) ?_
        refine zq_iload (pc' := 146) rfl rfl rfl rfl ?_
        refine zq_iload (pc' := 147) rfl rfl rfl rfl ?_
        obtain ⟨hi83, H⟩ := H
        refine zq_iast_c (pc' := 148) rfl rfl (hp_is rfl hi83) ?_
        exact H
      · have H := H.2 c
        exact H
theorem zh_X8_burstAt_148 {d : Nat} {k : hG → hE → Prop} {X : Nat → hG → hE → Prop} {l1 : Int32} {l2 : Int32} {g : hG} {e : hE} (H :
    hin l1 4 ∧
    hin l1 4 ∧
    hin l1 4 ∧
    hin l1 4 ∧
    ∀ g5, g5 = sI (sI g 1067 l1.toNatClampNeg ((g.1 1067 l1.toNatClampNeg) ||| (1 <<< (l2 &&& 31)))) 1069 l1.toNatClampNeg (((sI g 1067 l1.toNatClampNeg ((g.1 1067 l1.toNatClampNeg) ||| (1 <<< (l2 &&& 31)))).1 1069 l1.toNatClampNeg) + 1) →
    k g5 e) : hwv d zm_X8_burstAt k X 148 [(0, .ref 1046), (1, .int l1), (2, .int l2)] g e := by
  refine zq_aload (pc' := 149) rfl rfl rfl rfl ?_
  refine zq_getR (pc' := 152) rfl rfl rfl (hp_gC rfl) ?_
  refine zq_iload (pc' := 153) rfl rfl rfl rfl ?_
  refine zq_dup2 (pc' := 154) rfl rfl rfl rfl rfl ?_
  obtain ⟨hi1, H⟩ := H
  refine zq_iald (pc' := 155) rfl rfl rfl (hp_ia rfl hi1) ?_
  refine zq_ipush (pc' := 156) rfl rfl rfl ?_
  refine zq_iload (pc' := 157) rfl rfl rfl rfl ?_
  refine zq_ishl (pc' := 158) rfl rfl rfl ?_
  refine zq_ior (pc' := 159) rfl rfl rfl ?_
  obtain ⟨hi2, H⟩ := H
  refine zq_iast (pc' := 160) rfl rfl rfl (hp_is rfl hi2) ?_
  refine zq_aload (pc' := 161) rfl rfl rfl rfl ?_
  refine zq_getR (pc' := 164) rfl rfl rfl (hp_gC rfl) ?_
  refine zq_iload (pc' := 165) rfl rfl rfl rfl ?_
  refine zq_dup2 (pc' := 166) rfl rfl rfl rfl rfl ?_
  obtain ⟨hi3, H⟩ := H
  refine zq_iald (pc' := 167) rfl rfl rfl (hp_ia rfl hi3) ?_
  refine zq_ipush (pc' := 168) rfl rfl rfl ?_
  refine zq_iadd (pc' := 169) rfl rfl rfl ?_
  obtain ⟨hi4, H⟩ := H
  refine zq_iast (pc' := 170) rfl rfl rfl (hp_is rfl hi4) ?_
  have H := H _ rfl
  exact zq_vret rfl (Exists.intro _ (Exists.intro _ (And.intro rfl H)))
theorem zh_X8_aDayOf {d : Nat} {k : hG → hE → Prop} {X : Nat → hG → hE → Prop} {p1 : Int32} {g : hG} {e : hE} (H :
    hwv d zm_X8_aDayOf k X 2 [(0, .ref 1046), (1, .int p1), (2, .int 0)] g e) : hcv (d + 1) 264 [.ref 1046, .int p1] g e k X := by
  refine hent (M := zm_X8_aDayOf) (show hT 1046 = some (.inr _) from rfl) rfl rfl rfl rfl rfl ?_
  refine zq_ipush (pc' := 1) rfl rfl rfl ?_
  refine zq_istore_c (pc' := 2) rfl rfl ?_
  exact H
theorem zh_X8_aDayOf_2 {d : Nat} {k : hG → hE → Prop} {X : Nat → hG → hE → Prop} {l1 : Int32} {l2 : Int32} {g : hG} {e : hE} (H :
    zbr ((g.1 1050 0) ≤ l2)
    (k (sI g 1046 31 ((g.1 1046 31) + 1)) e)
    (hin l2 4 ∧
      hin l2 4 ∧
      hwv d zm_X8_aDayOf k X 28 [(0, .ref 1046), (1, .int l1), (2, .int l2), (3, .int 1)] (sI (sI g 1067 l2.toNatClampNeg 0) 1068 l2.toNatClampNeg (-1)) e)) : hwv d zm_X8_aDayOf k X 2 [(0, .ref 1046), (1, .int l1), (2, .int l2)] g e := by
  refine zq_iload (pc' := 3) rfl rfl rfl rfl ?_
  refine zq_aload (pc' := 4) rfl rfl rfl rfl ?_
  refine zq_getR (pc' := 7) rfl rfl rfl (hp_gC rfl) ?_
  refine zq_ipush (pc' := 8) rfl rfl rfl ?_
  refine zq_iald (pc' := 9) rfl rfl rfl (hp_ia rfl (by unfold hin; decide)) ?_
  refine zq_icge (pc' := 12) rfl rfl rfl rfl (And.intro (fun c => ?_) (fun c => ?_))
  · have H := H.1 c
    refine zq_aload (pc' := 102) rfl rfl rfl rfl ?_
    refine zq_dup (pc' := 103) rfl rfl rfl rfl ?_
    refine zq_getI (pc' := 106) rfl rfl rfl (hp_gI rfl) ?_
    refine zq_ipush (pc' := 107) rfl rfl rfl ?_
    refine zq_iadd (pc' := 108) rfl rfl rfl ?_
    refine zq_put (pc' := 111) rfl rfl rfl trivial (hp_sI rfl) ?_
    exact zq_vret rfl (Exists.intro _ (Exists.intro _ (And.intro rfl H)))
  · have H := H.2 c
    refine zq_aload (pc' := 13) rfl rfl rfl rfl ?_
    refine zq_getR (pc' := 16) rfl rfl rfl (hp_gC rfl) ?_
    refine zq_iload (pc' := 17) rfl rfl rfl rfl ?_
    refine zq_ipush (pc' := 18) rfl rfl rfl ?_
    obtain ⟨hi2, H⟩ := H
    refine zq_iast (pc' := 19) rfl rfl rfl (hp_is rfl hi2) ?_
    refine zq_aload (pc' := 20) rfl rfl rfl rfl ?_
    refine zq_getR (pc' := 23) rfl rfl rfl (hp_gC rfl) ?_
    refine zq_iload (pc' := 24) rfl rfl rfl rfl ?_
    refine zq_ipushn (pc' := 25) rfl rfl rfl ?_
    obtain ⟨hi3, H⟩ := H
    refine zq_iast (pc' := 26) rfl rfl rfl (hp_is rfl hi3) ?_
    refine zq_ipush (pc' := 27) rfl rfl rfl ?_
    refine zq_istore_c (pc' := 28) rfl rfl ?_
    exact H
theorem zh_X8_aDayOf_28 {d : Nat} {k : hG → hE → Prop} {X : Nat → hG → hE → Prop} {l1 : Int32} {l2 : Int32} {l3 : Int32} {g : hG} {e : hE} (H :
    zbr (l3 = 0)
    (hwv d zm_X8_aDayOf k X 2 [(0, .ref 1046), (1, .int l1), (2, .int (l2 + 1))] g e)
    (hwv d zm_X8_aDayOf k X 37 [(0, .ref 1046), (1, .int l1), (2, .int l2), (3, .int 0), (4, .int 0)] g e)) : hwv d zm_X8_aDayOf k X 28 [(0, .ref 1046), (1, .int l1), (2, .int l2), (3, .int l3)] g e := by
  refine zq_iload (pc' := 29) rfl rfl rfl rfl ?_
  refine zq_ifeq (pc' := 32) rfl rfl rfl rfl (And.intro (fun c => ?_) (fun c => ?_))
  · have H := H.1 c
    refine zq_iinc (pc' := 98) rfl rfl rfl rfl ?_
    refine zq_goto_c (pc' := 2) rfl rfl ?_
    exact H
  · have H := H.2 c
    refine zq_ipush (pc' := 33) rfl rfl rfl ?_
    refine zq_istore (pc' := 34) rfl rfl rfl ?_
    refine zq_ipush (pc' := 35) rfl rfl rfl ?_
    refine zq_istore_c (pc' := 37) rfl rfl ?_
    exact H
theorem zh_X8_aDayOf_37 {d : Nat} {k : hG → hE → Prop} {X : Nat → hG → hE → Prop} {l1 : Int32} {l2 : Int32} {l3 : Int32} {l4 : Int32} {g : hG} {e : hE} (H :
    hin l2 8 ∧
    zbr ((g.1 1052 l2.toNatClampNeg) ≤ l4)
    (hwv d zm_X8_aDayOf k X 28 [(0, .ref 1046), (1, .int l1), (2, .int l2), (3, .int l3)] g e)
    (hin l2 4 ∧
      hci d 218 [.int (g.1 1063 l2.toNatClampNeg), .int l4] g e (fun x5 g3 e4 =>
        zbr (x5 = 0)
        (hwv d zm_X8_aDayOf k X 37 [(0, .ref 1046), (1, .int l1), (2, .int l2), (3, .int l3), (4, .int (l4 + 1))] g3 e4)
        (hci d 262 [.ref 1046, .int l2, .int l4, .int l1] g3 e4 (fun x8 g6 e7 =>
            zbr (x8 = 0)
            (hwv d zm_X8_aDayOf k X 37 [(0, .ref 1046), (1, .int l1), (2, .int l2), (3, .int l3), (4, .int (l4 + 1))] g6 e7)
            (hcv d 263 [.ref 1046, .int l2, .int l4, .int l1] g6 e7 (fun g9 e10 =>
                hwv d zm_X8_aDayOf k X 37 [(0, .ref 1046), (1, .int l1), (2, .int l2), (3, .int 1), (4, .int (l4 + 1))] g9 e10) X)) X)) X)) : hwv d zm_X8_aDayOf k X 37 [(0, .ref 1046), (1, .int l1), (2, .int l2), (3, .int l3), (4, .int l4)] g e := by
  refine zq_iload (pc' := 39) rfl rfl rfl rfl ?_
  refine zq_aload (pc' := 40) rfl rfl rfl rfl ?_
  refine zq_getR (pc' := 43) rfl rfl rfl (hp_gC rfl) ?_
  refine zq_iload (pc' := 44) rfl rfl rfl rfl ?_
  obtain ⟨hi1, H⟩ := H
  refine zq_iald (pc' := 45) rfl rfl rfl (hp_ia rfl hi1) ?_
  refine zq_icge (pc' := 48) rfl rfl rfl rfl (And.intro (fun c => ?_) (fun c => ?_))
  · have H := H.1 c
    refine zq_goto_c (pc' := 28) rfl rfl ?_
    exact H
  · have H := H.2 c
    refine zq_aload (pc' := 49) rfl rfl rfl rfl ?_
    refine zq_getR (pc' := 52) rfl rfl rfl (hp_gC rfl) ?_
    refine zq_iload (pc' := 53) rfl rfl rfl rfl ?_
    obtain ⟨hi2, H⟩ := H
    refine zq_iald (pc' := 54) rfl rfl rfl (hp_ia rfl hi2) ?_
    refine zq_iload (pc' := 56) rfl rfl rfl rfl ?_
    refine hq_calli (pc' := 59) rfl rfl rfl rfl rfl rfl h_Xv ?_
    refine hmonoi H ?_
    intro x5 g3 e4 H
    refine zq_ifeq (pc' := 62) rfl rfl rfl rfl (And.intro (fun c => ?_) (fun c => ?_))
    · have H := H.1 c
      refine zq_iinc (pc' := 89) rfl rfl rfl rfl ?_
      refine zq_goto_c (pc' := 37) rfl rfl ?_
      exact H
    · have H := H.2 c
      refine zq_aload (pc' := 63) rfl rfl rfl rfl ?_
      refine zq_iload (pc' := 64) rfl rfl rfl rfl ?_
      refine zq_iload (pc' := 66) rfl rfl rfl rfl ?_
      refine zq_iload (pc' := 67) rfl rfl rfl rfl ?_
      refine hq_calli (pc' := 70) rfl rfl rfl rfl rfl rfl h_Xv ?_
      refine hmonoi H ?_
      intro x8 g6 e7 H
      refine zq_ifne (pc' := 73) rfl rfl rfl rfl (And.intro (fun c => ?_) (fun c => ?_))
      · have H := H.1 c
        refine zq_goto (pc' := 86) rfl rfl rfl ?_
        refine zq_iinc (pc' := 89) rfl rfl rfl rfl ?_
        refine zq_goto_c (pc' := 37) rfl rfl ?_
        exact H
      · have H := H.2 c
        refine zq_aload (pc' := 77) rfl rfl rfl rfl ?_
        refine zq_iload (pc' := 78) rfl rfl rfl rfl ?_
        refine zq_iload (pc' := 80) rfl rfl rfl rfl ?_
        refine zq_iload (pc' := 81) rfl rfl rfl rfl ?_
        refine hq_callv (pc' := 84) rfl rfl rfl rfl rfl rfl h_Xv ?_
        refine hmonov H ?_
        intro g9 e10 H
        refine zq_ipush (pc' := 85) rfl rfl rfl ?_
        refine zq_istore (pc' := 86) rfl rfl rfl ?_
        refine zq_iinc (pc' := 89) rfl rfl rfl rfl ?_
        refine zq_goto_c (pc' := 37) rfl rfl ?_
        exact H
theorem zh_X8_goOn {d : Nat} {k : hG → hE → Prop} {X : Nat → hG → hE → Prop} {p1 : Int32} {g : hG} {e : hE} (H :
    hwv d zm_X8_goOn k X 2 [(0, .ref 1046), (1, .int p1), (2, .int 0)] g e) : hcv (d + 1) 265 [.ref 1046, .int p1] g e k X := by
  refine hent (M := zm_X8_goOn) (show hT 1046 = some (.inr _) from rfl) rfl rfl rfl rfl rfl ?_
  refine zq_ipush (pc' := 1) rfl rfl rfl ?_
  refine zq_istore_c (pc' := 2) rfl rfl ?_
  exact H
theorem zh_X8_goOn_2 {d : Nat} {k : hG → hE → Prop} {X : Nat → hG → hE → Prop} {l1 : Int32} {l2 : Int32} {g : hG} {e : hE} (H :
    zbr (l1 ≤ l2)
    (k g e)
    (hci d 260 [.ref 1046, .int (g.1 1046 31)] g e (fun x3 g1 e2 =>
        hcv d 264 [.ref 1046, .int x3] g1 e2 (fun g4 e5 =>
          hwv d zm_X8_goOn k X 2 [(0, .ref 1046), (1, .int l1), (2, .int (l2 + 1))] g4 e5) X) X)) : hwv d zm_X8_goOn k X 2 [(0, .ref 1046), (1, .int l1), (2, .int l2)] g e := by
  refine zq_iload (pc' := 3) rfl rfl rfl rfl ?_
  refine zq_iload (pc' := 4) rfl rfl rfl rfl ?_
  refine zq_icge (pc' := 7) rfl rfl rfl rfl (And.intro (fun c => ?_) (fun c => ?_))
  · have H := H.1 c
    exact zq_vret rfl (Exists.intro _ (Exists.intro _ (And.intro rfl H)))
  · have H := H.2 c
    refine zq_aload (pc' := 8) rfl rfl rfl rfl ?_
    refine zq_aload (pc' := 9) rfl rfl rfl rfl ?_
    refine zq_aload (pc' := 10) rfl rfl rfl rfl ?_
    refine zq_getI (pc' := 13) rfl rfl rfl (hp_gI rfl) ?_
    refine hq_calli (pc' := 16) rfl rfl rfl rfl rfl rfl h_Xv ?_
    refine hmonoi H ?_
    intro x3 g1 e2 H
    refine hq_callv (pc' := 19) rfl rfl rfl rfl rfl rfl h_Xv ?_
    refine hmonov H ?_
    intro g4 e5 H
    refine zq_iinc (pc' := 22) rfl rfl rfl rfl ?_
    refine zq_goto_c (pc' := 2) rfl rfl ?_
    exact H
theorem zh_X8_beginAnew {d : Nat} {k : hG → hE → Prop} {X : Nat → hG → hE → Prop}  {g : hG} {e : hE} (H :
    hwv d zm_X8_beginAnew k X 2 [(0, .ref 1046), (1, .int 0)] g e) : hcv (d + 1) 266 [.ref 1046] g e k X := by
  refine hent (M := zm_X8_beginAnew) (show hT 1046 = some (.inr _) from rfl) rfl rfl rfl rfl rfl ?_
  refine zq_ipush (pc' := 1) rfl rfl rfl ?_
  refine zq_istore_c (pc' := 2) rfl rfl ?_
  exact H
theorem zh_X8_beginAnew_2 {d : Nat} {k : hG → hE → Prop} {X : Nat → hG → hE → Prop} {l1 : Int32} {g : hG} {e : hE} (H :
    zbr (4 ≤ l1)
    (k g e)
    (hin l1 4 ∧
      hwv d zm_X8_beginAnew k X 2 [(0, .ref 1046), (1, .int (l1 + 1))] (sI g 1069 l1.toNatClampNeg 0) e)) : hwv d zm_X8_beginAnew k X 2 [(0, .ref 1046), (1, .int l1)] g e := by
  refine zq_iload (pc' := 3) rfl rfl rfl rfl ?_
  refine zq_ipush (pc' := 4) rfl rfl rfl ?_
  refine zq_icge (pc' := 7) rfl rfl rfl rfl (And.intro (fun c => ?_) (fun c => ?_))
  · have H := H.1 c
    exact zq_vret rfl (Exists.intro _ (Exists.intro _ (And.intro rfl H)))
  · have H := H.2 c
    refine zq_aload (pc' := 8) rfl rfl rfl rfl ?_
    refine zq_getR (pc' := 11) rfl rfl rfl (hp_gC rfl) ?_
    refine zq_iload (pc' := 12) rfl rfl rfl rfl ?_
    refine zq_ipush (pc' := 13) rfl rfl rfl ?_
    obtain ⟨hi1, H⟩ := H
    refine zq_iast (pc' := 14) rfl rfl rfl (hp_is rfl hi1) ?_
    refine zq_iinc (pc' := 17) rfl rfl rfl rfl ?_
    refine zq_goto_c (pc' := 2) rfl rfl ?_
    exact H
theorem zh_X8_burstsToday {d : Nat} {k : Int32 → hG → hE → Prop} {X : Nat → hG → hE → Prop}  {g : hG} {e : hE} (H :
    hwi d zm_X8_burstsToday k X 4 [(0, .ref 1046), (1, .int 0), (2, .int 0)] g e) : hci (d + 1) 267 [.ref 1046] g e k X := by
  refine hent (M := zm_X8_burstsToday) (show hT 1046 = some (.inr _) from rfl) rfl rfl rfl rfl rfl ?_
  refine zq_ipush (pc' := 1) rfl rfl rfl ?_
  refine zq_istore (pc' := 2) rfl rfl rfl ?_
  refine zq_ipush (pc' := 3) rfl rfl rfl ?_
  refine zq_istore_c (pc' := 4) rfl rfl ?_
  exact H
theorem zh_X8_burstsToday_4 {d : Nat} {k : Int32 → hG → hE → Prop} {X : Nat → hG → hE → Prop} {l1 : Int32} {l2 : Int32} {g : hG} {e : hE} (H :
    zbr ((g.1 1050 0) ≤ l2)
    (k l1 g e)
    (hin l2 4 ∧
      hci d 219 [.int (g.1 1067 l2.toNatClampNeg)] g e (fun x5 g3 e4 =>
        hwi d zm_X8_burstsToday k X 4 [(0, .ref 1046), (1, .int (l1 + x5)), (2, .int (l2 + 1))] g3 e4) X)) : hwi d zm_X8_burstsToday k X 4 [(0, .ref 1046), (1, .int l1), (2, .int l2)] g e := by
  refine zq_iload (pc' := 5) rfl rfl rfl rfl ?_
  refine zq_aload (pc' := 6) rfl rfl rfl rfl ?_
  refine zq_getR (pc' := 9) rfl rfl rfl (hp_gC rfl) ?_
  refine zq_ipush (pc' := 10) rfl rfl rfl ?_
  refine zq_iald (pc' := 11) rfl rfl rfl (hp_ia rfl (by unfold hin; decide)) ?_
  refine zq_icge (pc' := 14) rfl rfl rfl rfl (And.intro (fun c => ?_) (fun c => ?_))
  · have H := H.1 c
    refine zq_iload (pc' := 33) rfl rfl rfl rfl ?_
    exact zq_iret rfl trivial (Exists.intro _ (Exists.intro _ (And.intro rfl H)))
  · have H := H.2 c
    refine zq_iload (pc' := 15) rfl rfl rfl rfl ?_
    refine zq_aload (pc' := 16) rfl rfl rfl rfl ?_
    refine zq_getR (pc' := 19) rfl rfl rfl (hp_gC rfl) ?_
    refine zq_iload (pc' := 20) rfl rfl rfl rfl ?_
    obtain ⟨hi2, H⟩ := H
    refine zq_iald (pc' := 21) rfl rfl rfl (hp_ia rfl hi2) ?_
    refine hq_calli (pc' := 24) rfl rfl rfl rfl rfl rfl h_Xi ?_
    refine hmonoi H ?_
    intro x5 g3 e4 H
    refine zq_iadd (pc' := 25) rfl rfl rfl ?_
    refine zq_istore (pc' := 26) rfl rfl rfl ?_
    refine zq_iinc (pc' := 29) rfl rfl rfl rfl ?_
    refine zq_goto_c (pc' := 4) rfl rfl ?_
    exact H
theorem zh_X8_runsOf {d : Nat} {k : Int32 → hG → hE → Prop} {X : Nat → hG → hE → Prop} {p1 : Int32} {g : hG} {e : hE} (H :
    hwi d zm_X8_runsOf k X 4 [(0, .ref 1046), (1, .int p1), (2, .int 0), (3, .int 0)] g e) : hci (d + 1) 268 [.ref 1046, .int p1] g e k X := by
  refine hent (M := zm_X8_runsOf) (show hT 1046 = some (.inr _) from rfl) rfl rfl rfl rfl rfl ?_
  refine zq_ipush (pc' := 1) rfl rfl rfl ?_
  refine zq_istore (pc' := 2) rfl rfl rfl ?_
  refine zq_ipush (pc' := 3) rfl rfl rfl ?_
  refine zq_istore_c (pc' := 4) rfl rfl ?_
  exact H
theorem zh_X8_runsOf_4 {d : Nat} {k : Int32 → hG → hE → Prop} {X : Nat → hG → hE → Prop} {l1 : Int32} {l2 : Int32} {l3 : Int32} {g : hG} {e : hE} (H :
    hin l1 8 ∧
    zbr ((g.1 1052 l1.toNatClampNeg) ≤ l3)
    (k l2 g e)
    (hin l1 4 ∧
      hci d 218 [.int (g.1 1063 l1.toNatClampNeg), .int l3] g e (fun x5 g3 e4 =>
        zbr (x5 = 0)
        (hwi d zm_X8_runsOf k X 4 [(0, .ref 1046), (1, .int l1), (2, .int (l2 + 0)), (3, .int (l3 + 1))] g3 e4)
        (zbr (l3 = 0)
          (hwi d zm_X8_runsOf k X 4 [(0, .ref 1046), (1, .int l1), (2, .int (l2 + 1)), (3, .int (l3 + 1))] g3 e4)
          (hin l1 4 ∧
            hci d 218 [.int (g3.1 1063 l1.toNatClampNeg), .int (l3 - 1)] g3 e4 (fun x9 g7 e8 =>
              zbr (x9 = 0)
              (hwi d zm_X8_runsOf k X 4 [(0, .ref 1046), (1, .int l1), (2, .int (l2 + 1)), (3, .int (l3 + 1))] g7 e8)
              (hwi d zm_X8_runsOf k X 4 [(0, .ref 1046), (1, .int l1), (2, .int (l2 + 0)), (3, .int (l3 + 1))] g7 e8)) X))) X)) : hwi d zm_X8_runsOf k X 4 [(0, .ref 1046), (1, .int l1), (2, .int l2), (3, .int l3)] g e := by
  refine zq_iload (pc' := 5) rfl rfl rfl rfl ?_
  refine zq_aload (pc' := 6) rfl rfl rfl rfl ?_
  refine zq_getR (pc' := 9) rfl rfl rfl (hp_gC rfl) ?_
  refine zq_iload (pc' := 10) rfl rfl rfl rfl ?_
  obtain ⟨hi1, H⟩ := H
  refine zq_iald (pc' := 11) rfl rfl rfl (hp_ia rfl hi1) ?_
  refine zq_icge (pc' := 14) rfl rfl rfl rfl (And.intro (fun c => ?_) (fun c => ?_))
  · have H := H.1 c
    refine zq_iload (pc' := 61) rfl rfl rfl rfl ?_
    exact zq_iret rfl trivial (Exists.intro _ (Exists.intro _ (And.intro rfl H)))
  · have H := H.2 c
    refine zq_iload (pc' := 15) rfl rfl rfl rfl ?_
    refine zq_aload (pc' := 16) rfl rfl rfl rfl ?_
    refine zq_getR (pc' := 19) rfl rfl rfl (hp_gC rfl) ?_
    refine zq_iload (pc' := 20) rfl rfl rfl rfl ?_
    obtain ⟨hi2, H⟩ := H
    refine zq_iald (pc' := 21) rfl rfl rfl (hp_ia rfl hi2) ?_
    refine zq_iload (pc' := 22) rfl rfl rfl rfl ?_
    refine hq_calli (pc' := 25) rfl rfl rfl rfl rfl rfl h_Xi ?_
    refine hmonoi H ?_
    intro x5 g3 e4 H
    refine zq_ifeq (pc' := 28) rfl rfl rfl rfl (And.intro (fun c => ?_) (fun c => ?_))
    · have H := H.1 c
      refine zq_ipush (pc' := 52) rfl rfl rfl ?_
      refine zq_iadd (pc' := 53) rfl rfl rfl ?_
      refine zq_istore (pc' := 54) rfl rfl rfl ?_
      refine zq_iinc (pc' := 57) rfl rfl rfl rfl ?_
      refine zq_goto_c (pc' := 4) rfl rfl ?_
      exact H
    · have H := H.2 c
      refine zq_iload (pc' := 29) rfl rfl rfl rfl ?_
      refine zq_ifeq (pc' := 32) rfl rfl rfl rfl (And.intro (fun c => ?_) (fun c => ?_))
      · have H := H.1 c
        refine zq_ipush (pc' := 48) rfl rfl rfl ?_
        refine zq_goto (pc' := 52) rfl rfl rfl ?_
        refine zq_iadd (pc' := 53) rfl rfl rfl ?_
        refine zq_istore (pc' := 54) rfl rfl rfl ?_
        refine zq_iinc (pc' := 57) rfl rfl rfl rfl ?_
        refine zq_goto_c (pc' := 4) rfl rfl ?_
        exact H
      · have H := H.2 c
        refine zq_aload (pc' := 33) rfl rfl rfl rfl ?_
        refine zq_getR (pc' := 36) rfl rfl rfl (hp_gC rfl) ?_
        refine zq_iload (pc' := 37) rfl rfl rfl rfl ?_
        obtain ⟨hi6, H⟩ := H
        refine zq_iald (pc' := 38) rfl rfl rfl (hp_ia rfl hi6) ?_
        refine zq_iload (pc' := 39) rfl rfl rfl rfl ?_
        refine zq_ipush (pc' := 40) rfl rfl rfl ?_
        refine zq_isub (pc' := 41) rfl rfl rfl ?_
        refine hq_calli (pc' := 44) rfl rfl rfl rfl rfl rfl h_Xi ?_
        refine hmonoi H ?_
        intro x9 g7 e8 H
        refine zq_ifne (pc' := 47) rfl rfl rfl rfl (And.intro (fun c => ?_) (fun c => ?_))
        · have H := H.1 c
          refine zq_ipush (pc' := 48) rfl rfl rfl ?_
          refine zq_goto (pc' := 52) rfl rfl rfl ?_
          refine zq_iadd (pc' := 53) rfl rfl rfl ?_
          refine zq_istore (pc' := 54) rfl rfl rfl ?_
          refine zq_iinc (pc' := 57) rfl rfl rfl rfl ?_
          refine zq_goto_c (pc' := 4) rfl rfl ?_
          exact H
        · have H := H.2 c
          refine zq_ipush (pc' := 52) rfl rfl rfl ?_
          refine zq_iadd (pc' := 53) rfl rfl rfl ?_
          refine zq_istore (pc' := 54) rfl rfl rfl ?_
          refine zq_iinc (pc' := 57) rfl rfl rfl rfl ?_
          refine zq_goto_c (pc' := 4) rfl rfl ?_
          exact H
theorem zh_X8_longestOf {d : Nat} {k : Int32 → hG → hE → Prop} {X : Nat → hG → hE → Prop} {p1 : Int32} {p2 : Int32} {g : hG} {e : hE} (H :
    hwi d zm_X8_longestOf k X 11 [(0, .ref 1046), (1, .int p1), (2, .int p2), (3, .int 0), (4, .int (-1)), (5, .int 0), (6, .int 0)] g e) : hci (d + 1) 269 [.ref 1046, .int p1, .int p2] g e k X := by
  refine hent (M := zm_X8_longestOf) (show hT 1046 = some (.inr _) from rfl) rfl rfl rfl rfl rfl ?_
  refine zq_ipush (pc' := 1) rfl rfl rfl ?_
  refine zq_istore (pc' := 2) rfl rfl rfl ?_
  refine zq_ipushn (pc' := 3) rfl rfl rfl ?_
  refine zq_istore (pc' := 5) rfl rfl rfl ?_
  refine zq_ipush (pc' := 6) rfl rfl rfl ?_
  refine zq_istore (pc' := 8) rfl rfl rfl ?_
  refine zq_ipush (pc' := 9) rfl rfl rfl ?_
  refine zq_istore_c (pc' := 11) rfl rfl ?_
  exact H
theorem zh_X8_longestOf_11 {d : Nat} {k : Int32 → hG → hE → Prop} {X : Nat → hG → hE → Prop} {l1 : Int32} {l2 : Int32} {l3 : Int32} {l4 : Int32} {l5 : Int32} {l6 : Int32} {g : hG} {e : hE} (H :
    hin l1 8 ∧
    zbr ((g.1 1052 l1.toNatClampNeg) ≤ l6)
    (zbr (l2 = 0)
      (k l3 g e)
      (k l4 g e))
    (hin l1 4 ∧
      hci d 218 [.int (g.1 1063 l1.toNatClampNeg), .int l6] g e (fun x5 g3 e4 =>
        zbr (x5 = 0)
        (zbr (l3 < (0 : Int32))
          (hwi d zm_X8_longestOf k X 11 [(0, .ref 1046), (1, .int l1), (2, .int l2), (3, .int 0), (4, .int ((l6 - 0) + 1)), (5, .int 0), (6, .int (l6 + 1))] g3 e4)
          (hwi d zm_X8_longestOf k X 11 [(0, .ref 1046), (1, .int l1), (2, .int l2), (3, .int l3), (4, .int l4), (5, .int 0), (6, .int (l6 + 1))] g3 e4))
        (zbr (l3 < (l5 + 1))
          (hwi d zm_X8_longestOf k X 11 [(0, .ref 1046), (1, .int l1), (2, .int l2), (3, .int (l5 + 1)), (4, .int ((l6 - (l5 + 1)) + 1)), (5, .int (l5 + 1)), (6, .int (l6 + 1))] g3 e4)
          (hwi d zm_X8_longestOf k X 11 [(0, .ref 1046), (1, .int l1), (2, .int l2), (3, .int l3), (4, .int l4), (5, .int (l5 + 1)), (6, .int (l6 + 1))] g3 e4))) X)) : hwi d zm_X8_longestOf k X 11 [(0, .ref 1046), (1, .int l1), (2, .int l2), (3, .int l3), (4, .int l4), (5, .int l5), (6, .int l6)] g e := by
  refine zq_iload (pc' := 13) rfl rfl rfl rfl ?_
  refine zq_aload (pc' := 14) rfl rfl rfl rfl ?_
  refine zq_getR (pc' := 17) rfl rfl rfl (hp_gC rfl) ?_
  refine zq_iload (pc' := 18) rfl rfl rfl rfl ?_
  obtain ⟨hi1, H⟩ := H
  refine zq_iald (pc' := 19) rfl rfl rfl (hp_ia rfl hi1) ?_
  refine zq_icge (pc' := 22) rfl rfl rfl rfl (And.intro (fun c => ?_) (fun c => ?_))
  · have H := H.1 c
    refine zq_iload (pc' := 74) rfl rfl rfl rfl ?_
    refine zq_ifeq (pc' := 77) rfl rfl rfl rfl (And.intro (fun c => ?_) (fun c => ?_))
    · have H := H.1 c
      refine zq_iload (pc' := 83) rfl rfl rfl rfl ?_
      exact zq_iret rfl trivial (Exists.intro _ (Exists.intro _ (And.intro rfl H)))
    · have H := H.2 c
      refine zq_iload (pc' := 79) rfl rfl rfl rfl ?_
      refine zq_goto (pc' := 83) rfl rfl rfl ?_
      exact zq_iret rfl trivial (Exists.intro _ (Exists.intro _ (And.intro rfl H)))
  · have H := H.2 c
    refine zq_aload (pc' := 23) rfl rfl rfl rfl ?_
    refine zq_getR (pc' := 26) rfl rfl rfl (hp_gC rfl) ?_
    refine zq_iload (pc' := 27) rfl rfl rfl rfl ?_
    obtain ⟨hi2, H⟩ := H
    refine zq_iald (pc' := 28) rfl rfl rfl (hp_ia rfl hi2) ?_
    refine zq_iload (pc' := 30) rfl rfl rfl rfl ?_
    refine hq_calli (pc' := 33) rfl rfl rfl rfl rfl rfl h_Xi ?_
    refine hmonoi H ?_
    intro x5 g3 e4 H
    refine zq_ifeq (pc' := 36) rfl rfl rfl rfl (And.intro (fun c => ?_) (fun c => ?_))
    · have H := H.1 c
      refine zq_ipush (pc' := 44) rfl rfl rfl ?_
      refine zq_istore (pc' := 46) rfl rfl rfl ?_
      refine zq_iload (pc' := 48) rfl rfl rfl rfl ?_
      refine zq_iload (pc' := 49) rfl rfl rfl rfl ?_
      refine zq_icgt (pc' := 52) rfl rfl rfl rfl (And.intro (fun c => ?_) (fun c => ?_))
      · have H := H.1 c
        refine zq_iload (pc' := 57) rfl rfl rfl rfl ?_
        refine zq_istore (pc' := 58) rfl rfl rfl ?_
        refine zq_iload (pc' := 60) rfl rfl rfl rfl ?_
        refine zq_iload (pc' := 62) rfl rfl rfl rfl ?_
        refine zq_isub (pc' := 63) rfl rfl rfl ?_
        refine zq_ipush (pc' := 64) rfl rfl rfl ?_
        refine zq_iadd (pc' := 65) rfl rfl rfl ?_
        refine zq_istore (pc' := 67) rfl rfl rfl ?_
        refine zq_iinc (pc' := 70) rfl rfl rfl rfl ?_
        refine zq_goto_c (pc' := 11) rfl rfl ?_
        exact H
      · have H := H.2 c
        refine zq_goto (pc' := 67) rfl rfl rfl ?_
        refine zq_iinc (pc' := 70) rfl rfl rfl rfl ?_
        refine zq_goto_c (pc' := 11) rfl rfl ?_
        exact H
    · have H := H.2 c
      refine zq_iload (pc' := 38) rfl rfl rfl rfl ?_
      refine zq_ipush (pc' := 39) rfl rfl rfl ?_
      refine zq_iadd (pc' := 40) rfl rfl rfl ?_
      refine zq_goto (pc' := 44) rfl rfl rfl ?_
      refine zq_istore (pc' := 46) rfl rfl rfl ?_
      refine zq_iload (pc' := 48) rfl rfl rfl rfl ?_
      refine zq_iload (pc' := 49) rfl rfl rfl rfl ?_
      refine zq_icgt (pc' := 52) rfl rfl rfl rfl (And.intro (fun c => ?_) (fun c => ?_))
      · have H := H.1 c
        refine zq_iload (pc' := 57) rfl rfl rfl rfl ?_
        refine zq_istore (pc' := 58) rfl rfl rfl ?_
        refine zq_iload (pc' := 60) rfl rfl rfl rfl ?_
        refine zq_iload (pc' := 62) rfl rfl rfl rfl ?_
        refine zq_isub (pc' := 63) rfl rfl rfl ?_
        refine zq_ipush (pc' := 64) rfl rfl rfl ?_
        refine zq_iadd (pc' := 65) rfl rfl rfl ?_
        refine zq_istore (pc' := 67) rfl rfl rfl ?_
        refine zq_iinc (pc' := 70) rfl rfl rfl rfl ?_
        refine zq_goto_c (pc' := 11) rfl rfl ?_
        exact H
      · have H := H.2 c
        refine zq_goto (pc' := 67) rfl rfl rfl ?_
        refine zq_iinc (pc' := 70) rfl rfl rfl rfl ?_
        refine zq_goto_c (pc' := 11) rfl rfl ?_
        exact H
theorem zh_X8_weakestOf {d : Nat} {k : Int32 → hG → hE → Prop} {X : Nat → hG → hE → Prop} {p1 : Int32} {g : hG} {e : hE} (H :
    hwi d zm_X8_weakestOf k X 4 [(0, .ref 1046), (1, .int p1), (2, .int (-1)), (3, .int 0)] g e) : hci (d + 1) 270 [.ref 1046, .int p1] g e k X := by
  refine hent (M := zm_X8_weakestOf) (show hT 1046 = some (.inr _) from rfl) rfl rfl rfl rfl rfl ?_
  refine zq_ipushn (pc' := 1) rfl rfl rfl ?_
  refine zq_istore (pc' := 2) rfl rfl rfl ?_
  refine zq_ipush (pc' := 3) rfl rfl rfl ?_
  refine zq_istore_c (pc' := 4) rfl rfl ?_
  exact H
theorem zh_X8_weakestOf_4 {d : Nat} {k : Int32 → hG → hE → Prop} {X : Nat → hG → hE → Prop} {l1 : Int32} {l2 : Int32} {l3 : Int32} {g : hG} {e : hE} (H :
    hin l1 8 ∧
    zbr ((g.1 1052 l1.toNatClampNeg) ≤ l3)
    (k l2 g e)
    (hin l1 4 ∧
      hci d 218 [.int (g.1 1063 l1.toNatClampNeg), .int l3] g e (fun x5 g3 e4 =>
        zbr (x5 = 0)
        (hwi d zm_X8_weakestOf k X 4 [(0, .ref 1046), (1, .int l1), (2, .int l2), (3, .int (l3 + 1))] g3 e4)
        (zbr (l2 = (-1))
          (hwi d zm_X8_weakestOf k X 4 [(0, .ref 1046), (1, .int l1), (2, .int l3), (3, .int (l3 + 1))] g3 e4)
          (hci d 251 [.ref 1046, .int l1, .int l3] g3 e4 (fun x8 g6 e7 =>
              hci d 251 [.ref 1046, .int l1, .int l2] g6 e7 (fun x11 g9 e10 =>
                zbr (x11 ≤ x8)
                (hwi d zm_X8_weakestOf k X 4 [(0, .ref 1046), (1, .int l1), (2, .int l2), (3, .int (l3 + 1))] g9 e10)
                (hwi d zm_X8_weakestOf k X 4 [(0, .ref 1046), (1, .int l1), (2, .int l3), (3, .int (l3 + 1))] g9 e10)) X) X))) X)) : hwi d zm_X8_weakestOf k X 4 [(0, .ref 1046), (1, .int l1), (2, .int l2), (3, .int l3)] g e := by
  refine zq_iload (pc' := 5) rfl rfl rfl rfl ?_
  refine zq_aload (pc' := 6) rfl rfl rfl rfl ?_
  refine zq_getR (pc' := 9) rfl rfl rfl (hp_gC rfl) ?_
  refine zq_iload (pc' := 10) rfl rfl rfl rfl ?_
  obtain ⟨hi1, H⟩ := H
  refine zq_iald (pc' := 11) rfl rfl rfl (hp_ia rfl hi1) ?_
  refine zq_icge (pc' := 14) rfl rfl rfl rfl (And.intro (fun c => ?_) (fun c => ?_))
  · have H := H.1 c
    refine zq_iload (pc' := 56) rfl rfl rfl rfl ?_
    exact zq_iret rfl trivial (Exists.intro _ (Exists.intro _ (And.intro rfl H)))
  · have H := H.2 c
    refine zq_aload (pc' := 15) rfl rfl rfl rfl ?_
    refine zq_getR (pc' := 18) rfl rfl rfl (hp_gC rfl) ?_
    refine zq_iload (pc' := 19) rfl rfl rfl rfl ?_
    obtain ⟨hi2, H⟩ := H
    refine zq_iald (pc' := 20) rfl rfl rfl (hp_ia rfl hi2) ?_
    refine zq_iload (pc' := 21) rfl rfl rfl rfl ?_
    refine hq_calli (pc' := 24) rfl rfl rfl rfl rfl rfl h_Xi ?_
    refine hmonoi H ?_
    intro x5 g3 e4 H
    refine zq_ifeq (pc' := 27) rfl rfl rfl rfl (And.intro (fun c => ?_) (fun c => ?_))
    · have H := H.1 c
      refine zq_iinc (pc' := 52) rfl rfl rfl rfl ?_
      refine zq_goto_c (pc' := 4) rfl rfl ?_
      exact H
    · have H := H.2 c
      refine zq_iload (pc' := 28) rfl rfl rfl rfl ?_
      refine zq_ipushn (pc' := 29) rfl rfl rfl ?_
      refine zq_iceq (pc' := 32) rfl rfl rfl rfl (And.intro (fun c => ?_) (fun c => ?_))
      · have H := H.1 c
        refine zq_iload (pc' := 48) rfl rfl rfl rfl ?_
        refine zq_istore (pc' := 49) rfl rfl rfl ?_
        refine zq_iinc (pc' := 52) rfl rfl rfl rfl ?_
        refine zq_goto_c (pc' := 4) rfl rfl ?_
        exact H
      · have H := H.2 c
        refine zq_aload (pc' := 33) rfl rfl rfl rfl ?_
        refine zq_iload (pc' := 34) rfl rfl rfl rfl ?_
        refine zq_iload (pc' := 35) rfl rfl rfl rfl ?_
        refine hq_calli (pc' := 38) rfl rfl rfl rfl rfl rfl h_Xi ?_
        refine hmonoi H ?_
        intro x8 g6 e7 H
        refine zq_aload (pc' := 39) rfl rfl rfl rfl ?_
        refine zq_iload (pc' := 40) rfl rfl rfl rfl ?_
        refine zq_iload (pc' := 41) rfl rfl rfl rfl ?_
        refine hq_calli (pc' := 44) rfl rfl rfl rfl rfl rfl h_Xi ?_
        refine hmonoi H ?_
        intro x11 g9 e10 H
        refine zq_icge (pc' := 47) rfl rfl rfl rfl (And.intro (fun c => ?_) (fun c => ?_))
        · have H := H.1 c
          refine zq_iinc (pc' := 52) rfl rfl rfl rfl ?_
          refine zq_goto_c (pc' := 4) rfl rfl ?_
          exact H
        · have H := H.2 c
          refine zq_iload (pc' := 48) rfl rfl rfl rfl ?_
          refine zq_istore (pc' := 49) rfl rfl rfl ?_
          refine zq_iinc (pc' := 52) rfl rfl rfl rfl ?_
          refine zq_goto_c (pc' := 4) rfl rfl ?_
          exact H
theorem zh_X8_bearsOf {d : Nat} {k : Int32 → hG → hE → Prop} {X : Nat → hG → hE → Prop} {p1 : Int32} {g : hG} {e : hE} (H :
    hcv d 249 [.ref 1046, .ref 1070, .int 0] g e (fun g1 e2 =>
      hwi d zm_X8_bearsOf k X 16 [(0, .ref 1046), (1, .int p1), (2, .int (-1)), (3, .int 1), (4, .int 0)] g1 e2) X) : hci (d + 1) 271 [.ref 1046, .int p1] g e k X := by
  refine hent (M := zm_X8_bearsOf) (show hT 1046 = some (.inr _) from rfl) rfl rfl rfl rfl rfl ?_
  refine zq_aload (pc' := 1) rfl rfl rfl rfl ?_
  refine zq_aload (pc' := 2) rfl rfl rfl rfl ?_
  refine zq_getR (pc' := 5) rfl rfl rfl (hp_gC rfl) ?_
  refine zq_ipush (pc' := 6) rfl rfl rfl ?_
  refine hq_callv (pc' := 9) rfl rfl rfl rfl rfl rfl h_Xi ?_
  refine hmonov H ?_
  intro g1 e2 H
  refine zq_ipushn (pc' := 10) rfl rfl rfl ?_
  refine zq_istore (pc' := 11) rfl rfl rfl ?_
  refine zq_ipush (pc' := 12) rfl rfl rfl ?_
  refine zq_istore (pc' := 13) rfl rfl rfl ?_
  refine zq_ipush (pc' := 14) rfl rfl rfl ?_
  refine zq_istore_c (pc' := 16) rfl rfl ?_
  exact H
theorem zh_X8_bearsOf_16 {d : Nat} {k : Int32 → hG → hE → Prop} {X : Nat → hG → hE → Prop} {l1 : Int32} {l2 : Int32} {l3 : Int32} {l4 : Int32} {g : hG} {e : hE} (H :
    zbr (99 < l4)
    (k l2 g e)
    (zbr (l3 = 0)
      (k l2 g e)
      (hcv d 264 [.ref 1046, .int l4] g e (fun g1 e2 =>
          hin l1 4 ∧
          zbr ((g1.1 1067 l1.toNatClampNeg) = 0)
          (zbr ((1 : Int32) = 0)
            (hcv d 250 [.ref 1046, .ref 1070, .int 0] g1 e2 (fun g4 e5 =>
                hwi d zm_X8_bearsOf k X 16 [(0, .ref 1046), (1, .int l1), (2, .int l2), (3, .int 1), (4, .int (l4 + 1))] g4 e5) X)
            (hcv d 250 [.ref 1046, .ref 1070, .int 0] g1 e2 (fun g6 e7 =>
                hwi d zm_X8_bearsOf k X 16 [(0, .ref 1046), (1, .int l1), (2, .int l4), (3, .int 1), (4, .int (l4 + 1))] g6 e7) X))
          (zbr ((0 : Int32) = 0)
            (hcv d 250 [.ref 1046, .ref 1070, .int 0] g1 e2 (fun g8 e9 =>
                hwi d zm_X8_bearsOf k X 16 [(0, .ref 1046), (1, .int l1), (2, .int l2), (3, .int 0), (4, .int (l4 + 1))] g8 e9) X)
            (hcv d 250 [.ref 1046, .ref 1070, .int 0] g1 e2 (fun g10 e11 =>
                hwi d zm_X8_bearsOf k X 16 [(0, .ref 1046), (1, .int l1), (2, .int l4), (3, .int 0), (4, .int (l4 + 1))] g10 e11) X))) X))) : hwi d zm_X8_bearsOf k X 16 [(0, .ref 1046), (1, .int l1), (2, .int l2), (3, .int l3), (4, .int l4)] g e := by
  refine zq_iload (pc' := 18) rfl rfl rfl rfl ?_
  refine zq_ipush (pc' := 20) rfl rfl rfl ?_
  refine zq_icgt (pc' := 23) rfl rfl rfl rfl (And.intro (fun c => ?_) (fun c => ?_))
  · have H := H.1 c
    refine zq_iload (pc' := 71) rfl rfl rfl rfl ?_
    exact zq_iret rfl trivial (Exists.intro _ (Exists.intro _ (And.intro rfl H)))
  · have H := H.2 c
    refine zq_iload (pc' := 24) rfl rfl rfl rfl ?_
    refine zq_ifeq (pc' := 27) rfl rfl rfl rfl (And.intro (fun c => ?_) (fun c => ?_))
    · have H := H.1 c
      refine zq_iload (pc' := 71) rfl rfl rfl rfl ?_
      exact zq_iret rfl trivial (Exists.intro _ (Exists.intro _ (And.intro rfl H)))
    · have H := H.2 c
      refine zq_aload (pc' := 28) rfl rfl rfl rfl ?_
      refine zq_iload (pc' := 30) rfl rfl rfl rfl ?_
      refine hq_callv (pc' := 33) rfl rfl rfl rfl rfl rfl h_Xi ?_
      refine hmonov H ?_
      intro g1 e2 H
      refine zq_aload (pc' := 34) rfl rfl rfl rfl ?_
      refine zq_getR (pc' := 37) rfl rfl rfl (hp_gC rfl) ?_
      refine zq_iload (pc' := 38) rfl rfl rfl rfl ?_
      obtain ⟨hi3, H⟩ := H
      refine zq_iald (pc' := 39) rfl rfl rfl (hp_ia rfl hi3) ?_
      refine zq_ifne (pc' := 42) rfl rfl rfl rfl (And.intro (fun c => ?_) (fun c => ?_))
      · have H := H.1 c
        refine zq_ipush (pc' := 43) rfl rfl rfl ?_
        refine zq_goto (pc' := 47) rfl rfl rfl ?_
        refine zq_istore (pc' := 48) rfl rfl rfl ?_
        refine zq_iload (pc' := 49) rfl rfl rfl rfl ?_
        refine zq_ifeq (pc' := 52) rfl rfl rfl rfl (And.intro (fun c => ?_) (fun c => ?_))
        · have H := H.1 c
          refine zq_aload (pc' := 56) rfl rfl rfl rfl ?_
          refine zq_aload (pc' := 57) rfl rfl rfl rfl ?_
          refine zq_getR (pc' := 60) rfl rfl rfl (hp_gC rfl) ?_
          refine zq_ipush (pc' := 61) rfl rfl rfl ?_
          refine hq_callv (pc' := 64) rfl rfl rfl rfl rfl rfl h_Xi ?_
          refine hmonov H ?_
          intro g4 e5 H
          refine zq_iinc (pc' := 67) rfl rfl rfl rfl ?_
          refine zq_goto_c (pc' := 16) rfl rfl ?_
          exact H
        · have H := H.2 c
          refine zq_iload (pc' := 54) rfl rfl rfl rfl ?_
          refine zq_istore (pc' := 55) rfl rfl rfl ?_
          refine zq_aload (pc' := 56) rfl rfl rfl rfl ?_
          refine zq_aload (pc' := 57) rfl rfl rfl rfl ?_
          refine zq_getR (pc' := 60) rfl rfl rfl (hp_gC rfl) ?_
          refine zq_ipush (pc' := 61) rfl rfl rfl ?_
          refine hq_callv (pc' := 64) rfl rfl rfl rfl rfl rfl h_Xi ?_
          refine hmonov H ?_
          intro g6 e7 H
          refine zq_iinc (pc' := 67) rfl rfl rfl rfl ?_
          refine zq_goto_c (pc' := 16) rfl rfl ?_
          exact H
      · have H := H.2 c
        refine zq_ipush (pc' := 47) rfl rfl rfl ?_
        refine zq_istore (pc' := 48) rfl rfl rfl ?_
        refine zq_iload (pc' := 49) rfl rfl rfl rfl ?_
        refine zq_ifeq (pc' := 52) rfl rfl rfl rfl (And.intro (fun c => ?_) (fun c => ?_))
        · have H := H.1 c
          refine zq_aload (pc' := 56) rfl rfl rfl rfl ?_
          refine zq_aload (pc' := 57) rfl rfl rfl rfl ?_
          refine zq_getR (pc' := 60) rfl rfl rfl (hp_gC rfl) ?_
          refine zq_ipush (pc' := 61) rfl rfl rfl ?_
          refine hq_callv (pc' := 64) rfl rfl rfl rfl rfl rfl h_Xi ?_
          refine hmonov H ?_
          intro g8 e9 H
          refine zq_iinc (pc' := 67) rfl rfl rfl rfl ?_
          refine zq_goto_c (pc' := 16) rfl rfl ?_
          exact H
        · have H := H.2 c
          refine zq_iload (pc' := 54) rfl rfl rfl rfl ?_
          refine zq_istore (pc' := 55) rfl rfl rfl ?_
          refine zq_aload (pc' := 56) rfl rfl rfl rfl ?_
          refine zq_aload (pc' := 57) rfl rfl rfl rfl ?_
          refine zq_getR (pc' := 60) rfl rfl rfl (hp_gC rfl) ?_
          refine zq_ipush (pc' := 61) rfl rfl rfl ?_
          refine hq_callv (pc' := 64) rfl rfl rfl rfl rfl rfl h_Xi ?_
          refine hmonov H ?_
          intro g10 e11 H
          refine zq_iinc (pc' := 67) rfl rfl rfl rfl ?_
          refine zq_goto_c (pc' := 16) rfl rfl ?_
          exact H
theorem zh_X8_unlikeOf {d : Nat} {k : Int32 → hG → hE → Prop} {X : Nat → hG → hE → Prop} {p1 : Int32} {p2 : Int32} {g : hG} {e : hE} (H :
    hwi d zm_X8_unlikeOf k X 5 [(0, .ref 1046), (1, .int p1), (2, .int p2), (3, .int 0), (4, .int 0)] g e) : hci (d + 1) 272 [.ref 1046, .int p1, .int p2] g e k X := by
  refine hent (M := zm_X8_unlikeOf) (show hT 1046 = some (.inr _) from rfl) rfl rfl rfl rfl rfl ?_
  refine zq_ipush (pc' := 1) rfl rfl rfl ?_
  refine zq_istore (pc' := 2) rfl rfl rfl ?_
  refine zq_ipush (pc' := 3) rfl rfl rfl ?_
  refine zq_istore_c (pc' := 5) rfl rfl ?_
  exact H
theorem zh_X8_unlikeOf_5 {d : Nat} {k : Int32 → hG → hE → Prop} {X : Nat → hG → hE → Prop} {l1 : Int32} {l2 : Int32} {l3 : Int32} {l4 : Int32} {g : hG} {e : hE} (H :
    hin l1 8 ∧
    zbr ((g.1 1052 l1.toNatClampNeg) ≤ l4)
    (k l3 g e)
    (hin ((16 * l1) + l4) 64 ∧
      hin ((16 * l2) + l4) 64 ∧
      hci d 1 [.int ((g.1 1060 ((16 * l1) + l4).toNatClampNeg) - (g.1 1060 ((16 * l2) + l4).toNatClampNeg))] g e (fun x6 g4 e5 =>
        hin ((16 * l1) + l4) 64 ∧
        hin ((16 * l2) + l4) 64 ∧
        hci d 1 [.int ((g4.1 1061 ((16 * l1) + l4).toNatClampNeg) - (g4.1 1061 ((16 * l2) + l4).toNatClampNeg))] g4 e5 (fun x11 g9 e10 =>
          hwi d zm_X8_unlikeOf k X 5 [(0, .ref 1046), (1, .int l1), (2, .int l2), (3, .int (l3 + (x6 + x11))), (4, .int (l4 + 1))] g9 e10) X) X)) : hwi d zm_X8_unlikeOf k X 5 [(0, .ref 1046), (1, .int l1), (2, .int l2), (3, .int l3), (4, .int l4)] g e := by
  refine zq_iload (pc' := 7) rfl rfl rfl rfl ?_
  refine zq_aload (pc' := 8) rfl rfl rfl rfl ?_
  refine zq_getR (pc' := 11) rfl rfl rfl (hp_gC rfl) ?_
  refine zq_iload (pc' := 12) rfl rfl rfl rfl ?_
  obtain ⟨hi1, H⟩ := H
  refine zq_iald (pc' := 13) rfl rfl rfl (hp_ia rfl hi1) ?_
  refine zq_icge (pc' := 16) rfl rfl rfl rfl (And.intro (fun c => ?_) (fun c => ?_))
  · have H := H.1 c
    refine zq_iload (pc' := 83) rfl rfl rfl rfl ?_
    exact zq_iret rfl trivial (Exists.intro _ (Exists.intro _ (And.intro rfl H)))
  · have H := H.2 c
    refine zq_iload (pc' := 17) rfl rfl rfl rfl ?_
    refine zq_aload (pc' := 18) rfl rfl rfl rfl ?_
    refine zq_getR (pc' := 21) rfl rfl rfl (hp_gC rfl) ?_
    refine zq_ipush (pc' := 23) rfl rfl rfl ?_
    refine zq_iload (pc' := 24) rfl rfl rfl rfl ?_
    refine zq_imul (pc' := 25) rfl rfl rfl ?_
    refine zq_iload (pc' := 27) rfl rfl rfl rfl ?_
    refine zq_iadd (pc' := 28) rfl rfl rfl ?_
    obtain ⟨hi2, H⟩ := H
    refine zq_iald (pc' := 29) rfl rfl rfl (hp_ia rfl hi2) ?_
    refine zq_aload (pc' := 30) rfl rfl rfl rfl ?_
    refine zq_getR (pc' := 33) rfl rfl rfl (hp_gC rfl) ?_
    refine zq_ipush (pc' := 35) rfl rfl rfl ?_
    refine zq_iload (pc' := 36) rfl rfl rfl rfl ?_
    refine zq_imul (pc' := 37) rfl rfl rfl ?_
    refine zq_iload (pc' := 39) rfl rfl rfl rfl ?_
    refine zq_iadd (pc' := 40) rfl rfl rfl ?_
    obtain ⟨hi3, H⟩ := H
    refine zq_iald (pc' := 41) rfl rfl rfl (hp_ia rfl hi3) ?_
    refine zq_isub (pc' := 42) rfl rfl rfl ?_
    refine hq_calli (pc' := 45) rfl rfl rfl rfl rfl rfl h_Xi ?_
    refine hmonoi H ?_
    intro x6 g4 e5 H
    refine zq_aload (pc' := 46) rfl rfl rfl rfl ?_
    refine zq_getR (pc' := 49) rfl rfl rfl (hp_gC rfl) ?_
    refine zq_ipush (pc' := 51) rfl rfl rfl ?_
    refine zq_iload (pc' := 52) rfl rfl rfl rfl ?_
    refine zq_imul (pc' := 53) rfl rfl rfl ?_
    refine zq_iload (pc' := 55) rfl rfl rfl rfl ?_
    refine zq_iadd (pc' := 56) rfl rfl rfl ?_
    obtain ⟨hi7, H⟩ := H
    refine zq_iald (pc' := 57) rfl rfl rfl (hp_ia rfl hi7) ?_
    refine zq_aload (pc' := 58) rfl rfl rfl rfl ?_
    refine zq_getR (pc' := 61) rfl rfl rfl (hp_gC rfl) ?_
    refine zq_ipush (pc' := 63) rfl rfl rfl ?_
    refine zq_iload (pc' := 64) rfl rfl rfl rfl ?_
    refine zq_imul (pc' := 65) rfl rfl rfl ?_
    refine zq_iload (pc' := 67) rfl rfl rfl rfl ?_
    refine zq_iadd (pc' := 68) rfl rfl rfl ?_
    obtain ⟨hi8, H⟩ := H
    refine zq_iald (pc' := 69) rfl rfl rfl (hp_ia rfl hi8) ?_
    refine zq_isub (pc' := 70) rfl rfl rfl ?_
    refine hq_calli (pc' := 73) rfl rfl rfl rfl rfl rfl h_Xi ?_
    refine hmonoi H ?_
    intro x11 g9 e10 H
    refine zq_iadd (pc' := 74) rfl rfl rfl ?_
    refine zq_iadd (pc' := 75) rfl rfl rfl ?_
    refine zq_istore (pc' := 76) rfl rfl rfl ?_
    refine zq_iinc (pc' := 79) rfl rfl rfl rfl ?_
    refine zq_goto_c (pc' := 5) rfl rfl ?_
    exact H
theorem zh_X8_twins {d : Nat} {k : Int32 → hG → hE → Prop} {X : Nat → hG → hE → Prop}  {g : hG} {e : hE} (H :
    hwi d zm_X8_twins k X 4 [(0, .ref 1046), (1, .int 0), (2, .int 0)] g e) : hci (d + 1) 273 [.ref 1046] g e k X := by
  refine hent (M := zm_X8_twins) (show hT 1046 = some (.inr _) from rfl) rfl rfl rfl rfl rfl ?_
  refine zq_ipush (pc' := 1) rfl rfl rfl ?_
  refine zq_istore (pc' := 2) rfl rfl rfl ?_
  refine zq_ipush (pc' := 3) rfl rfl rfl ?_
  refine zq_istore_c (pc' := 4) rfl rfl ?_
  exact H
theorem zh_X8_twins_4 {d : Nat} {k : Int32 → hG → hE → Prop} {X : Nat → hG → hE → Prop} {l1 : Int32} {l2 : Int32} {g : hG} {e : hE} (H :
    zbr ((g.1 1050 0) ≤ l2)
    (k l1 g e)
    (hwi d zm_X8_twins k X 16 [(0, .ref 1046), (1, .int l1), (2, .int l2), (3, .int 0)] g e)) : hwi d zm_X8_twins k X 4 [(0, .ref 1046), (1, .int l1), (2, .int l2)] g e := by
  refine zq_iload (pc' := 5) rfl rfl rfl rfl ?_
  refine zq_aload (pc' := 6) rfl rfl rfl rfl ?_
  refine zq_getR (pc' := 9) rfl rfl rfl (hp_gC rfl) ?_
  refine zq_ipush (pc' := 10) rfl rfl rfl ?_
  refine zq_iald (pc' := 11) rfl rfl rfl (hp_ia rfl (by unfold hin; decide)) ?_
  refine zq_icge (pc' := 14) rfl rfl rfl rfl (And.intro (fun c => ?_) (fun c => ?_))
  · have H := H.1 c
    refine zq_iload (pc' := 66) rfl rfl rfl rfl ?_
    exact zq_iret rfl trivial (Exists.intro _ (Exists.intro _ (And.intro rfl H)))
  · have H := H.2 c
    refine zq_ipush (pc' := 15) rfl rfl rfl ?_
    refine zq_istore_c (pc' := 16) rfl rfl ?_
    exact H
theorem zh_X8_twins_16 {d : Nat} {k : Int32 → hG → hE → Prop} {X : Nat → hG → hE → Prop} {l1 : Int32} {l2 : Int32} {l3 : Int32} {g : hG} {e : hE} (H :
    zbr (l2 ≤ l3)
    (hwi d zm_X8_twins k X 4 [(0, .ref 1046), (1, .int l1), (2, .int (l2 + 1))] g e)
    (hin l2 8 ∧
      hin l3 8 ∧
      zbr ((g.1 1052 l2.toNatClampNeg) = (g.1 1052 l3.toNatClampNeg))
      (hci d 272 [.ref 1046, .int l2, .int l3] g e (fun x5 g3 e4 =>
          zbr (x5 = 0)
          (hwi d zm_X8_twins k X 16 [(0, .ref 1046), (1, .int (l1 + 1)), (2, .int l2), (3, .int (l3 + 1))] g3 e4)
          (hwi d zm_X8_twins k X 16 [(0, .ref 1046), (1, .int (l1 + 0)), (2, .int l2), (3, .int (l3 + 1))] g3 e4)) X)
      (hwi d zm_X8_twins k X 16 [(0, .ref 1046), (1, .int (l1 + 0)), (2, .int l2), (3, .int (l3 + 1))] g e))) : hwi d zm_X8_twins k X 16 [(0, .ref 1046), (1, .int l1), (2, .int l2), (3, .int l3)] g e := by
  refine zq_iload (pc' := 17) rfl rfl rfl rfl ?_
  refine zq_iload (pc' := 18) rfl rfl rfl rfl ?_
  refine zq_icge (pc' := 21) rfl rfl rfl rfl (And.intro (fun c => ?_) (fun c => ?_))
  · have H := H.1 c
    refine zq_iinc (pc' := 62) rfl rfl rfl rfl ?_
    refine zq_goto_c (pc' := 4) rfl rfl ?_
    exact H
  · have H := H.2 c
    refine zq_iload (pc' := 22) rfl rfl rfl rfl ?_
    refine zq_aload (pc' := 23) rfl rfl rfl rfl ?_
    refine zq_getR (pc' := 26) rfl rfl rfl (hp_gC rfl) ?_
    refine zq_iload (pc' := 27) rfl rfl rfl rfl ?_
    obtain ⟨hi1, H⟩ := H
    refine zq_iald (pc' := 28) rfl rfl rfl (hp_ia rfl hi1) ?_
    refine zq_aload (pc' := 29) rfl rfl rfl rfl ?_
    refine zq_getR (pc' := 32) rfl rfl rfl (hp_gC rfl) ?_
    refine zq_iload (pc' := 33) rfl rfl rfl rfl ?_
    obtain ⟨hi2, H⟩ := H
    refine zq_iald (pc' := 34) rfl rfl rfl (hp_ia rfl hi2) ?_
    refine zq_icne (pc' := 37) rfl rfl rfl rfl (And.intro (fun c => ?_) (fun c => ?_))
    · have H := H.1 c
      refine zq_aload (pc' := 38) rfl rfl rfl rfl ?_
      refine zq_iload (pc' := 39) rfl rfl rfl rfl ?_
      refine zq_iload (pc' := 40) rfl rfl rfl rfl ?_
      refine hq_calli (pc' := 43) rfl rfl rfl rfl rfl rfl h_Xi ?_
      refine hmonoi H ?_
      intro x5 g3 e4 H
      refine zq_ifne (pc' := 46) rfl rfl rfl rfl (And.intro (fun c => ?_) (fun c => ?_))
      · have H := H.1 c
        refine zq_ipush (pc' := 47) rfl rfl rfl ?_
        refine zq_goto (pc' := 51) rfl rfl rfl ?_
        refine zq_iadd (pc' := 52) rfl rfl rfl ?_
        refine zq_istore (pc' := 53) rfl rfl rfl ?_
        refine zq_iinc (pc' := 56) rfl rfl rfl rfl ?_
        refine zq_goto_c (pc' := 16) rfl rfl ?_
        exact H
      · have H := H.2 c
        refine zq_ipush (pc' := 51) rfl rfl rfl ?_
        refine zq_iadd (pc' := 52) rfl rfl rfl ?_
        refine zq_istore (pc' := 53) rfl rfl rfl ?_
        refine zq_iinc (pc' := 56) rfl rfl rfl rfl ?_
        refine zq_goto_c (pc' := 16) rfl rfl ?_
        exact H
    · have H := H.2 c
      refine zq_ipush (pc' := 51) rfl rfl rfl ?_
      refine zq_iadd (pc' := 52) rfl rfl rfl ?_
      refine zq_istore (pc' := 53) rfl rfl rfl ?_
      refine zq_iinc (pc' := 56) rfl rfl rfl rfl ?_
      refine zq_goto_c (pc' := 16) rfl rfl ?_
      exact H
theorem zh_X8_count {d : Nat} {k : Int32 → hG → hE → Prop} {X : Nat → hG → hE → Prop} {p1 : Int32} {g : hG} {e : hE} (H :
    zbr (p1 = nI 0)
    (k ((sI g 1046 4 0).1 1050 0) (sI g 1046 4 0) e)
    (zbr (p1 = nI 1)
    (k ((sI g 1046 4 0).1 1046 31) (sI g 1046 4 0) e)
    (zbr (p1 = nI 2)
    (hci d 260 [.ref 1046, .int ((sI g 1046 4 0).1 1046 31)] (sI g 1046 4 0) e (fun x4 g2 e3 =>
        k x4 g2 e3) X)
    (zbr (p1 = nI 3)
    (hci d 257 [.ref 1046] (sI g 1046 4 0) e (fun x7 g5 e6 =>
        k x7 g5 e6) X)
    (zbr (p1 = nI 4)
    (hci d 256 [.ref 1046] (sI g 1046 4 0) e (fun x10 g8 e9 =>
        k x10 g8 e9) X)
    (zbr (p1 = nI 5)
    (hci d 273 [.ref 1046] (sI g 1046 4 0) e (fun x13 g11 e12 =>
        k x13 g11 e12) X)
    (zbr (p1 = nI 6)
    (k ((sI g 1046 4 0).1 1046 32) (sI g 1046 4 0) e)
    (zbr (p1 = nI 7)
    (k ((sI g 1046 4 0).1 1046 33) (sI g 1046 4 0) e)
    (zbr (p1 = nI 8)
    (k ((sI g 1046 4 0).1 1046 15) (sI g 1046 4 0) e)
    (zbr (p1 = nI 9)
    (hin (p1 - 9) 3 ∧
      k ((sI g 1046 4 0).1 1058 (p1 - 9).toNatClampNeg) (sI g 1046 4 0) e)
    (zbr (p1 = nI 10)
    (hin (p1 - 9) 3 ∧
      k ((sI g 1046 4 0).1 1058 (p1 - 9).toNatClampNeg) (sI g 1046 4 0) e)
    (zbr (p1 = nI 11)
    (hin (p1 - 9) 3 ∧
      k ((sI g 1046 4 0).1 1058 (p1 - 9).toNatClampNeg) (sI g 1046 4 0) e)
    (hci d 215 [.ref 1046, .int 1] (sI g 1046 4 0) e (fun x19 g17 e18 =>
        k x19 g17 e18) X))))))))))))) : hci (d + 1) 274 [.ref 1046, .int p1] g e k X := by
  refine hent (M := zm_X8_count) (show hT 1046 = some (.inr _) from rfl) rfl rfl rfl rfl rfl ?_
  refine zq_aload (pc' := 1) rfl rfl rfl rfl ?_
  refine zq_ipush (pc' := 2) rfl rfl rfl ?_
  refine zq_put (pc' := 5) rfl rfl rfl trivial (hp_sI rfl) ?_
  refine zq_iload (pc' := 6) rfl rfl rfl rfl ?_
  refine zq_switch rfl ?_
  refine And.intro (fun c => ?_) (fun c => ?_)
  · have H := H.1 c
    show zW (zE d) zm_X8_count (hqi k X) (68, [(0, .ref 1046), (1, .int p1)], [], hp (sI g 1046 4 0) e)
    refine zq_aload (pc' := 69) rfl rfl rfl rfl ?_
    refine zq_getR (pc' := 72) rfl rfl rfl (hp_gC rfl) ?_
    refine zq_ipush (pc' := 73) rfl rfl rfl ?_
    refine zq_iald (pc' := 74) rfl rfl rfl (hp_ia rfl (by unfold hin; decide)) ?_
    exact zq_iret rfl trivial (Exists.intro _ (Exists.intro _ (And.intro rfl H)))
  · have H := H.2 c
    refine And.intro (fun c => ?_) (fun c => ?_)
    · have H := H.1 c
      show zW (zE d) zm_X8_count (hqi k X) (75, [(0, .ref 1046), (1, .int p1)], [], hp (sI g 1046 4 0) e)
      refine zq_aload (pc' := 76) rfl rfl rfl rfl ?_
      refine zq_getI (pc' := 79) rfl rfl rfl (hp_gI rfl) ?_
      exact zq_iret rfl trivial (Exists.intro _ (Exists.intro _ (And.intro rfl H)))
    · have H := H.2 c
      refine And.intro (fun c => ?_) (fun c => ?_)
      · have H := H.1 c
        show zW (zE d) zm_X8_count (hqi k X) (80, [(0, .ref 1046), (1, .int p1)], [], hp (sI g 1046 4 0) e)
        refine zq_aload (pc' := 81) rfl rfl rfl rfl ?_
        refine zq_aload (pc' := 82) rfl rfl rfl rfl ?_
        refine zq_getI (pc' := 85) rfl rfl rfl (hp_gI rfl) ?_
        refine hq_calli (pc' := 88) rfl rfl rfl rfl rfl rfl h_Xi ?_
        refine hmonoi H ?_
        intro x4 g2 e3 H
        exact zq_iret rfl trivial (Exists.intro _ (Exists.intro _ (And.intro rfl H)))
      · have H := H.2 c
        refine And.intro (fun c => ?_) (fun c => ?_)
        · have H := H.1 c
          show zW (zE d) zm_X8_count (hqi k X) (89, [(0, .ref 1046), (1, .int p1)], [], hp (sI g 1046 4 0) e)
          refine zq_aload (pc' := 90) rfl rfl rfl rfl ?_
          refine hq_calli (pc' := 93) rfl rfl rfl rfl rfl rfl h_Xi ?_
          refine hmonoi H ?_
          intro x7 g5 e6 H
          exact zq_iret rfl trivial (Exists.intro _ (Exists.intro _ (And.intro rfl H)))
        · have H := H.2 c
          refine And.intro (fun c => ?_) (fun c => ?_)
          · have H := H.1 c
            show zW (zE d) zm_X8_count (hqi k X) (94, [(0, .ref 1046), (1, .int p1)], [], hp (sI g 1046 4 0) e)
            refine zq_aload (pc' := 95) rfl rfl rfl rfl ?_
            refine hq_calli (pc' := 98) rfl rfl rfl rfl rfl rfl h_Xi ?_
            refine hmonoi H ?_
            intro x10 g8 e9 H
            exact zq_iret rfl trivial (Exists.intro _ (Exists.intro _ (And.intro rfl H)))
          · have H := H.2 c
            refine And.intro (fun c => ?_) (fun c => ?_)
            · have H := H.1 c
              show zW (zE d) zm_X8_count (hqi k X) (99, [(0, .ref 1046), (1, .int p1)], [], hp (sI g 1046 4 0) e)
              refine zq_aload (pc' := 100) rfl rfl rfl rfl ?_
              refine hq_calli (pc' := 103) rfl rfl rfl rfl rfl rfl h_Xi ?_
              refine hmonoi H ?_
              intro x13 g11 e12 H
              exact zq_iret rfl trivial (Exists.intro _ (Exists.intro _ (And.intro rfl H)))
            · have H := H.2 c
              refine And.intro (fun c => ?_) (fun c => ?_)
              · have H := H.1 c
                show zW (zE d) zm_X8_count (hqi k X) (104, [(0, .ref 1046), (1, .int p1)], [], hp (sI g 1046 4 0) e)
                refine zq_aload (pc' := 105) rfl rfl rfl rfl ?_
                refine zq_getI (pc' := 108) rfl rfl rfl (hp_gI rfl) ?_
                exact zq_iret rfl trivial (Exists.intro _ (Exists.intro _ (And.intro rfl H)))
              · have H := H.2 c
                refine And.intro (fun c => ?_) (fun c => ?_)
                · have H := H.1 c
                  show zW (zE d) zm_X8_count (hqi k X) (109, [(0, .ref 1046), (1, .int p1)], [], hp (sI g 1046 4 0) e)
                  refine zq_aload (pc' := 110) rfl rfl rfl rfl ?_
                  refine zq_getI (pc' := 113) rfl rfl rfl (hp_gI rfl) ?_
                  exact zq_iret rfl trivial (Exists.intro _ (Exists.intro _ (And.intro rfl H)))
                · have H := H.2 c
                  refine And.intro (fun c => ?_) (fun c => ?_)
                  · have H := H.1 c
                    show zW (zE d) zm_X8_count (hqi k X) (114, [(0, .ref 1046), (1, .int p1)], [], hp (sI g 1046 4 0) e)
                    refine zq_aload (pc' := 115) rfl rfl rfl rfl ?_
                    refine zq_getI (pc' := 118) rfl rfl rfl (hp_gI rfl) ?_
                    exact zq_iret rfl trivial (Exists.intro _ (Exists.intro _ (And.intro rfl H)))
                  · have H := H.2 c
                    refine And.intro (fun c => ?_) (fun c => ?_)
                    · have H := H.1 c
                      show zW (zE d) zm_X8_count (hqi k X) (119, [(0, .ref 1046), (1, .int p1)], [], hp (sI g 1046 4 0) e)
                      refine zq_aload (pc' := 120) rfl rfl rfl rfl ?_
                      refine zq_getR (pc' := 123) rfl rfl rfl (hp_gC rfl) ?_
                      refine zq_iload (pc' := 124) rfl rfl rfl rfl ?_
                      refine zq_ipush (pc' := 126) rfl rfl rfl ?_
                      refine zq_isub (pc' := 127) rfl rfl rfl ?_
                      obtain ⟨hi14, H⟩ := H
                      refine zq_iald (pc' := 128) rfl rfl rfl (hp_ia rfl hi14) ?_
                      exact zq_iret rfl trivial (Exists.intro _ (Exists.intro _ (And.intro rfl H)))
                    · have H := H.2 c
                      refine And.intro (fun c => ?_) (fun c => ?_)
                      · have H := H.1 c
                        show zW (zE d) zm_X8_count (hqi k X) (119, [(0, .ref 1046), (1, .int p1)], [], hp (sI g 1046 4 0) e)
                        refine zq_aload (pc' := 120) rfl rfl rfl rfl ?_
                        refine zq_getR (pc' := 123) rfl rfl rfl (hp_gC rfl) ?_
                        refine zq_iload (pc' := 124) rfl rfl rfl rfl ?_
                        refine zq_ipush (pc' := 126) rfl rfl rfl ?_
                        refine zq_isub (pc' := 127) rfl rfl rfl ?_
                        obtain ⟨hi15, H⟩ := H
                        refine zq_iald (pc' := 128) rfl rfl rfl (hp_ia rfl hi15) ?_
                        exact zq_iret rfl trivial (Exists.intro _ (Exists.intro _ (And.intro rfl H)))
                      · have H := H.2 c
                        refine And.intro (fun c => ?_) (fun c => ?_)
                        · have H := H.1 c
                          show zW (zE d) zm_X8_count (hqi k X) (119, [(0, .ref 1046), (1, .int p1)], [], hp (sI g 1046 4 0) e)
                          refine zq_aload (pc' := 120) rfl rfl rfl rfl ?_
                          refine zq_getR (pc' := 123) rfl rfl rfl (hp_gC rfl) ?_
                          refine zq_iload (pc' := 124) rfl rfl rfl rfl ?_
                          refine zq_ipush (pc' := 126) rfl rfl rfl ?_
                          refine zq_isub (pc' := 127) rfl rfl rfl ?_
                          obtain ⟨hi16, H⟩ := H
                          refine zq_iald (pc' := 128) rfl rfl rfl (hp_ia rfl hi16) ?_
                          exact zq_iret rfl trivial (Exists.intro _ (Exists.intro _ (And.intro rfl H)))
                        · have H := H.2 c
                          show zW (zE d) zm_X8_count (hqi k X) (129, [(0, .ref 1046), (1, .int p1)], [], hp (sI g 1046 4 0) e)
                          refine zq_aload (pc' := 130) rfl rfl rfl rfl ?_
                          refine zq_ipush (pc' := 131) rfl rfl rfl ?_
                          refine hq_calli (pc' := 134) rfl rfl rfl rfl rfl rfl h_Xi ?_
                          refine hmonoi H ?_
                          intro x19 g17 e18 H
                          exact zq_iret rfl trivial (Exists.intro _ (Exists.intro _ (And.intro rfl H)))
theorem zh_X8_zip {d : Nat} {k : Int32 → hG → hE → Prop} {X : Nat → hG → hE → Prop} {p1 : Int32} {p2 : Int32} {g : hG} {e : hE} (H :
    hci d 220 [.ref 1046, .int p1] (sI g 1046 4 0) e (fun x3 g1 e2 =>
      zbr (x3 = 0)
      (hci d 215 [.ref 1046, .int 1] g1 e2 (fun x6 g4 e5 =>
          k x6 g4 e5) X)
      (zbr (p2 = nI 0)
        (hin p1 8 ∧
          k (g1.1 1052 p1.toNatClampNeg) g1 e2)
        (zbr (p2 = nI 1)
        (hin p1 4 ∧
          k (g1.1 1062 p1.toNatClampNeg) g1 e2)
        (zbr (p2 = nI 2)
        (hin p1 4 ∧
          k (g1.1 1063 p1.toNatClampNeg) g1 e2)
        (zbr (p2 = nI 3)
        (hci d 252 [.ref 1046, .int p1] g1 e2 (fun x12 g10 e11 =>
            k x12 g10 e11) X)
        (zbr (p2 = nI 4)
        (hin p1 8 ∧
          k (g1.1 1051 p1.toNatClampNeg) g1 e2)
        (zbr (p2 = nI 5)
        (hci d 268 [.ref 1046, .int p1] g1 e2 (fun x16 g14 e15 =>
            k x16 g14 e15) X)
        (zbr (p2 = nI 6)
        (zbr (p2 = 7)
          (hci d 269 [.ref 1046, .int p1, .int 1] g1 e2 (fun x19 g17 e18 =>
              k x19 g17 e18) X)
          (hci d 269 [.ref 1046, .int p1, .int 0] g1 e2 (fun x22 g20 e21 =>
              k x22 g20 e21) X))
        (zbr (p2 = nI 7)
        (zbr (p2 = 7)
          (hci d 269 [.ref 1046, .int p1, .int 1] g1 e2 (fun x25 g23 e24 =>
              k x25 g23 e24) X)
          (hci d 269 [.ref 1046, .int p1, .int 0] g1 e2 (fun x28 g26 e27 =>
              k x28 g26 e27) X))
        (zbr (p2 = nI 8)
        (hci d 270 [.ref 1046, .int p1] g1 e2 (fun x31 g29 e30 =>
            k x31 g29 e30) X)
        (zbr (p2 = nI 9)
        (hci d 271 [.ref 1046, .int p1] g1 e2 (fun x34 g32 e33 =>
            k x34 g32 e33) X)
        (hci d 215 [.ref 1046, .int 1] g1 e2 (fun x37 g35 e36 =>
            k x37 g35 e36) X)))))))))))) X) : hci (d + 1) 275 [.ref 1046, .int p1, .int p2] g e k X := by
  refine hent (M := zm_X8_zip) (show hT 1046 = some (.inr _) from rfl) rfl rfl rfl rfl rfl ?_
  refine zq_aload (pc' := 1) rfl rfl rfl rfl ?_
  refine zq_ipush (pc' := 2) rfl rfl rfl ?_
  refine zq_put (pc' := 5) rfl rfl rfl trivial (hp_sI rfl) ?_
  refine zq_aload (pc' := 6) rfl rfl rfl rfl ?_
  refine zq_iload (pc' := 7) rfl rfl rfl rfl ?_
  refine hq_calli (pc' := 10) rfl rfl rfl rfl rfl rfl h_Xi ?_
  refine hmonoi H ?_
  intro x3 g1 e2 H
  refine zq_ifne (pc' := 13) rfl rfl rfl rfl (And.intro (fun c => ?_) (fun c => ?_))
  · have H := H.1 c
    refine zq_aload (pc' := 14) rfl rfl rfl rfl ?_
    refine zq_ipush (pc' := 15) rfl rfl rfl ?_
    refine hq_calli (pc' := 18) rfl rfl rfl rfl rfl rfl h_Xi ?_
    refine hmonoi H ?_
    intro x6 g4 e5 H
    exact zq_iret rfl trivial (Exists.intro _ (Exists.intro _ (And.intro rfl H)))
  · have H := H.2 c
    refine zq_iload (pc' := 20) rfl rfl rfl rfl ?_
    refine zq_switch rfl ?_
    refine And.intro (fun c => ?_) (fun c => ?_)
    · have H := H.1 c
      show zW (zE d) zm_X8_zip (hqi k X) (76, [(0, .ref 1046), (1, .int p1), (2, .int p2)], [], hp g1 e2)
      refine zq_aload (pc' := 77) rfl rfl rfl rfl ?_
      refine zq_getR (pc' := 80) rfl rfl rfl (hp_gC rfl) ?_
      refine zq_iload (pc' := 81) rfl rfl rfl rfl ?_
      obtain ⟨hi7, H⟩ := H
      refine zq_iald (pc' := 82) rfl rfl rfl (hp_ia rfl hi7) ?_
      exact zq_iret rfl trivial (Exists.intro _ (Exists.intro _ (And.intro rfl H)))
    · have H := H.2 c
      refine And.intro (fun c => ?_) (fun c => ?_)
      · have H := H.1 c
        show zW (zE d) zm_X8_zip (hqi k X) (83, [(0, .ref 1046), (1, .int p1), (2, .int p2)], [], hp g1 e2)
        refine zq_aload (pc' := 84) rfl rfl rfl rfl ?_
        refine zq_getR (pc' := 87) rfl rfl rfl (hp_gC rfl) ?_
        refine zq_iload (pc' := 88) rfl rfl rfl rfl ?_
        obtain ⟨hi8, H⟩ := H
        refine zq_iald (pc' := 89) rfl rfl rfl (hp_ia rfl hi8) ?_
        exact zq_iret rfl trivial (Exists.intro _ (Exists.intro _ (And.intro rfl H)))
      · have H := H.2 c
        refine And.intro (fun c => ?_) (fun c => ?_)
        · have H := H.1 c
          show zW (zE d) zm_X8_zip (hqi k X) (90, [(0, .ref 1046), (1, .int p1), (2, .int p2)], [], hp g1 e2)
          refine zq_aload (pc' := 91) rfl rfl rfl rfl ?_
          refine zq_getR (pc' := 94) rfl rfl rfl (hp_gC rfl) ?_
          refine zq_iload (pc' := 95) rfl rfl rfl rfl ?_
          obtain ⟨hi9, H⟩ := H
          refine zq_iald (pc' := 96) rfl rfl rfl (hp_ia rfl hi9) ?_
          exact zq_iret rfl trivial (Exists.intro _ (Exists.intro _ (And.intro rfl H)))
        · have H := H.2 c
          refine And.intro (fun c => ?_) (fun c => ?_)
          · have H := H.1 c
            show zW (zE d) zm_X8_zip (hqi k X) (97, [(0, .ref 1046), (1, .int p1), (2, .int p2)], [], hp g1 e2)
            refine zq_aload (pc' := 98) rfl rfl rfl rfl ?_
            refine zq_iload (pc' := 99) rfl rfl rfl rfl ?_
            refine hq_calli (pc' := 102) rfl rfl rfl rfl rfl rfl h_Xi ?_
            refine hmonoi H ?_
            intro x12 g10 e11 H
            exact zq_iret rfl trivial (Exists.intro _ (Exists.intro _ (And.intro rfl H)))
          · have H := H.2 c
            refine And.intro (fun c => ?_) (fun c => ?_)
            · have H := H.1 c
              show zW (zE d) zm_X8_zip (hqi k X) (103, [(0, .ref 1046), (1, .int p1), (2, .int p2)], [], hp g1 e2)
              refine zq_aload (pc' := 104) rfl rfl rfl rfl ?_
              refine zq_getR (pc' := 107) rfl rfl rfl (hp_gC rfl) ?_
              refine zq_iload (pc' := 108) rfl rfl rfl rfl ?_
              obtain ⟨hi13, H⟩ := H
              refine zq_iald (pc' := 109) rfl rfl rfl (hp_ia rfl hi13) ?_
              exact zq_iret rfl trivial (Exists.intro _ (Exists.intro _ (And.intro rfl H)))
            · have H := H.2 c
              refine And.intro (fun c => ?_) (fun c => ?_)
              · have H := H.1 c
                show zW (zE d) zm_X8_zip (hqi k X) (110, [(0, .ref 1046), (1, .int p1), (2, .int p2)], [], hp g1 e2)
                refine zq_aload (pc' := 111) rfl rfl rfl rfl ?_
                refine zq_iload (pc' := 112) rfl rfl rfl rfl ?_
                refine hq_calli (pc' := 115) rfl rfl rfl rfl rfl rfl h_Xi ?_
                refine hmonoi H ?_
                intro x16 g14 e15 H
                exact zq_iret rfl trivial (Exists.intro _ (Exists.intro _ (And.intro rfl H)))
              · have H := H.2 c
                refine And.intro (fun c => ?_) (fun c => ?_)
                · have H := H.1 c
                  show zW (zE d) zm_X8_zip (hqi k X) (116, [(0, .ref 1046), (1, .int p1), (2, .int p2)], [], hp g1 e2)
                  refine zq_aload (pc' := 117) rfl rfl rfl rfl ?_
                  refine zq_iload (pc' := 118) rfl rfl rfl rfl ?_
                  refine zq_iload (pc' := 119) rfl rfl rfl rfl ?_
                  refine zq_ipush (pc' := 121) rfl rfl rfl ?_
                  refine zq_icne (pc' := 124) rfl rfl rfl rfl (And.intro (fun c => ?_) (fun c => ?_))
                  · have H := H.1 c
                    refine zq_ipush (pc' := 125) rfl rfl rfl ?_
                    refine zq_goto (pc' := 129) rfl rfl rfl ?_
                    refine hq_calli (pc' := 132) rfl rfl rfl rfl rfl rfl h_Xi ?_
                    refine hmonoi H ?_
                    intro x19 g17 e18 H
                    exact zq_iret rfl trivial (Exists.intro _ (Exists.intro _ (And.intro rfl H)))
                  · have H := H.2 c
                    refine zq_ipush (pc' := 129) rfl rfl rfl ?_
                    refine hq_calli (pc' := 132) rfl rfl rfl rfl rfl rfl h_Xi ?_
                    refine hmonoi H ?_
                    intro x22 g20 e21 H
                    exact zq_iret rfl trivial (Exists.intro _ (Exists.intro _ (And.intro rfl H)))
                · have H := H.2 c
                  refine And.intro (fun c => ?_) (fun c => ?_)
                  · have H := H.1 c
                    show zW (zE d) zm_X8_zip (hqi k X) (116, [(0, .ref 1046), (1, .int p1), (2, .int p2)], [], hp g1 e2)
                    refine zq_aload (pc' := 117) rfl rfl rfl rfl ?_
                    refine zq_iload (pc' := 118) rfl rfl rfl rfl ?_
                    refine zq_iload (pc' := 119) rfl rfl rfl rfl ?_
                    refine zq_ipush (pc' := 121) rfl rfl rfl ?_
                    refine zq_icne (pc' := 124) rfl rfl rfl rfl (And.intro (fun c => ?_) (fun c => ?_))
                    · have H := H.1 c
                      refine zq_ipush (pc' := 125) rfl rfl rfl ?_
                      refine zq_goto (pc' := 129) rfl rfl rfl ?_
                      refine hq_calli (pc' := 132) rfl rfl rfl rfl rfl rfl h_Xi ?_
                      refine hmonoi H ?_
                      intro x25 g23 e24 H
                      exact zq_iret rfl trivial (Exists.intro _ (Exists.intro _ (And.intro rfl H)))
                    · have H := H.2 c
                      refine zq_ipush (pc' := 129) rfl rfl rfl ?_
                      refine hq_calli (pc' := 132) rfl rfl rfl rfl rfl rfl h_Xi ?_
                      refine hmonoi H ?_
                      intro x28 g26 e27 H
                      exact zq_iret rfl trivial (Exists.intro _ (Exists.intro _ (And.intro rfl H)))
                  · have H := H.2 c
                    refine And.intro (fun c => ?_) (fun c => ?_)
                    · have H := H.1 c
                      show zW (zE d) zm_X8_zip (hqi k X) (133, [(0, .ref 1046), (1, .int p1), (2, .int p2)], [], hp g1 e2)
                      refine zq_aload (pc' := 134) rfl rfl rfl rfl ?_
                      refine zq_iload (pc' := 135) rfl rfl rfl rfl ?_
                      refine hq_calli (pc' := 138) rfl rfl rfl rfl rfl rfl h_Xi ?_
                      refine hmonoi H ?_
                      intro x31 g29 e30 H
                      exact zq_iret rfl trivial (Exists.intro _ (Exists.intro _ (And.intro rfl H)))
                    · have H := H.2 c
                      refine And.intro (fun c => ?_) (fun c => ?_)
                      · have H := H.1 c
                        show zW (zE d) zm_X8_zip (hqi k X) (139, [(0, .ref 1046), (1, .int p1), (2, .int p2)], [], hp g1 e2)
                        refine zq_aload (pc' := 140) rfl rfl rfl rfl ?_
                        refine zq_iload (pc' := 141) rfl rfl rfl rfl ?_
                        refine hq_calli (pc' := 144) rfl rfl rfl rfl rfl rfl h_Xi ?_
                        refine hmonoi H ?_
                        intro x34 g32 e33 H
                        exact zq_iret rfl trivial (Exists.intro _ (Exists.intro _ (And.intro rfl H)))
                      · have H := H.2 c
                        show zW (zE d) zm_X8_zip (hqi k X) (145, [(0, .ref 1046), (1, .int p1), (2, .int p2)], [], hp g1 e2)
                        refine zq_aload (pc' := 146) rfl rfl rfl rfl ?_
                        refine zq_ipush (pc' := 147) rfl rfl rfl ?_
                        refine hq_calli (pc' := 150) rfl rfl rfl rfl rfl rfl h_Xi ?_
                        refine hmonoi H ?_
                        intro x37 g35 e36 H
                        exact zq_iret rfl trivial (Exists.intro _ (Exists.intro _ (And.intro rfl H)))
theorem zh_X8_place {d : Nat} {k : Int32 → hG → hE → Prop} {X : Nat → hG → hE → Prop} {p1 : Int32} {p2 : Int32} {p3 : Int32} {g : hG} {e : hE} (H :
    hci d 221 [.ref 1046, .int p1, .int p2] (sI g 1046 4 0) e (fun x3 g1 e2 =>
      zbr (x3 = 0)
      (hci d 215 [.ref 1046, .int 1] g1 e2 (fun x6 g4 e5 =>
          k x6 g4 e5) X)
      (zbr (p3 = nI 0)
        (hin ((16 * p1) + p2) 64 ∧
          k (g1.1 1060 ((16 * p1) + p2).toNatClampNeg) g1 e2)
        (zbr (p3 = nI 1)
        (hin ((16 * p1) + p2) 64 ∧
          k (g1.1 1061 ((16 * p1) + p2).toNatClampNeg) g1 e2)
        (zbr (p3 = nI 2)
        (hci d 251 [.ref 1046, .int p1, .int p2] g1 e2 (fun x11 g9 e10 =>
            k x11 g9 e10) X)
        (zbr (p3 = nI 3)
        (hin p1 4 ∧
          hci d 218 [.int (g1.1 1063 p1.toNatClampNeg), .int p2] g1 e2 (fun x15 g13 e14 =>
            zbr (x15 = 0)
            (k 0 g13 e14)
            (k 1 g13 e14)) X)
        (zbr (p3 = nI 4)
        (hci d 254 [.ref 1046, .int p1, .int p2] g1 e2 (fun x18 g16 e17 =>
            k x18 g16 e17) X)
        (hci d 215 [.ref 1046, .int 1] g1 e2 (fun x21 g19 e20 =>
            k x21 g19 e20) X))))))) X) : hci (d + 1) 276 [.ref 1046, .int p1, .int p2, .int p3] g e k X := by
  refine hent (M := zm_X8_place) (show hT 1046 = some (.inr _) from rfl) rfl rfl rfl rfl rfl ?_
  refine zq_aload (pc' := 1) rfl rfl rfl rfl ?_
  refine zq_ipush (pc' := 2) rfl rfl rfl ?_
  refine zq_put (pc' := 5) rfl rfl rfl trivial (hp_sI rfl) ?_
  refine zq_aload (pc' := 6) rfl rfl rfl rfl ?_
  refine zq_iload (pc' := 7) rfl rfl rfl rfl ?_
  refine zq_iload (pc' := 8) rfl rfl rfl rfl ?_
  refine hq_calli (pc' := 11) rfl rfl rfl rfl rfl rfl h_Xi ?_
  refine hmonoi H ?_
  intro x3 g1 e2 H
  refine zq_ifne (pc' := 14) rfl rfl rfl rfl (And.intro (fun c => ?_) (fun c => ?_))
  · have H := H.1 c
    refine zq_aload (pc' := 15) rfl rfl rfl rfl ?_
    refine zq_ipush (pc' := 16) rfl rfl rfl ?_
    refine hq_calli (pc' := 19) rfl rfl rfl rfl rfl rfl h_Xi ?_
    refine hmonoi H ?_
    intro x6 g4 e5 H
    exact zq_iret rfl trivial (Exists.intro _ (Exists.intro _ (And.intro rfl H)))
  · have H := H.2 c
    refine zq_iload (pc' := 21) rfl rfl rfl rfl ?_
    refine zq_switch rfl ?_
    refine And.intro (fun c => ?_) (fun c => ?_)
    · have H := H.1 c
      show zW (zE d) zm_X8_place (hqi k X) (56, [(0, .ref 1046), (1, .int p1), (2, .int p2), (3, .int p3)], [], hp g1 e2)
      refine zq_aload (pc' := 57) rfl rfl rfl rfl ?_
      refine zq_getR (pc' := 60) rfl rfl rfl (hp_gC rfl) ?_
      refine zq_ipush (pc' := 62) rfl rfl rfl ?_
      refine zq_iload (pc' := 63) rfl rfl rfl rfl ?_
      refine zq_imul (pc' := 64) rfl rfl rfl ?_
      refine zq_iload (pc' := 65) rfl rfl rfl rfl ?_
      refine zq_iadd (pc' := 66) rfl rfl rfl ?_
      obtain ⟨hi7, H⟩ := H
      refine zq_iald (pc' := 67) rfl rfl rfl (hp_ia rfl hi7) ?_
      exact zq_iret rfl trivial (Exists.intro _ (Exists.intro _ (And.intro rfl H)))
    · have H := H.2 c
      refine And.intro (fun c => ?_) (fun c => ?_)
      · have H := H.1 c
        show zW (zE d) zm_X8_place (hqi k X) (68, [(0, .ref 1046), (1, .int p1), (2, .int p2), (3, .int p3)], [], hp g1 e2)
        refine zq_aload (pc' := 69) rfl rfl rfl rfl ?_
        refine zq_getR (pc' := 72) rfl rfl rfl (hp_gC rfl) ?_
        refine zq_ipush (pc' := 74) rfl rfl rfl ?_
        refine zq_iload (pc' := 75) rfl rfl rfl rfl ?_
        refine zq_imul (pc' := 76) rfl rfl rfl ?_
        refine zq_iload (pc' := 77) rfl rfl rfl rfl ?_
        refine zq_iadd (pc' := 78) rfl rfl rfl ?_
        obtain ⟨hi8, H⟩ := H
        refine zq_iald (pc' := 79) rfl rfl rfl (hp_ia rfl hi8) ?_
        exact zq_iret rfl trivial (Exists.intro _ (Exists.intro _ (And.intro rfl H)))
      · have H := H.2 c
        refine And.intro (fun c => ?_) (fun c => ?_)
        · have H := H.1 c
          show zW (zE d) zm_X8_place (hqi k X) (80, [(0, .ref 1046), (1, .int p1), (2, .int p2), (3, .int p3)], [], hp g1 e2)
          refine zq_aload (pc' := 81) rfl rfl rfl rfl ?_
          refine zq_iload (pc' := 82) rfl rfl rfl rfl ?_
          refine zq_iload (pc' := 83) rfl rfl rfl rfl ?_
          refine hq_calli (pc' := 86) rfl rfl rfl rfl rfl rfl h_Xi ?_
          refine hmonoi H ?_
          intro x11 g9 e10 H
          exact zq_iret rfl trivial (Exists.intro _ (Exists.intro _ (And.intro rfl H)))
        · have H := H.2 c
          refine And.intro (fun c => ?_) (fun c => ?_)
          · have H := H.1 c
            show zW (zE d) zm_X8_place (hqi k X) (87, [(0, .ref 1046), (1, .int p1), (2, .int p2), (3, .int p3)], [], hp g1 e2)
            refine zq_aload (pc' := 88) rfl rfl rfl rfl ?_
            refine zq_getR (pc' := 91) rfl rfl rfl (hp_gC rfl) ?_
            refine zq_iload (pc' := 92) rfl rfl rfl rfl ?_
            obtain ⟨hi12, H⟩ := H
            refine zq_iald (pc' := 93) rfl rfl rfl (hp_ia rfl hi12) ?_
            refine zq_iload (pc' := 94) rfl rfl rfl rfl ?_
            refine hq_calli (pc' := 97) rfl rfl rfl rfl rfl rfl h_Xi ?_
            refine hmonoi H ?_
            intro x15 g13 e14 H
            refine zq_ifeq (pc' := 100) rfl rfl rfl rfl (And.intro (fun c => ?_) (fun c => ?_))
            · have H := H.1 c
              refine zq_ipush (pc' := 105) rfl rfl rfl ?_
              exact zq_iret rfl trivial (Exists.intro _ (Exists.intro _ (And.intro rfl H)))
            · have H := H.2 c
              refine zq_ipush (pc' := 101) rfl rfl rfl ?_
              refine zq_goto (pc' := 105) rfl rfl rfl ?_
              exact zq_iret rfl trivial (Exists.intro _ (Exists.intro _ (And.intro rfl H)))
          · have H := H.2 c
            refine And.intro (fun c => ?_) (fun c => ?_)
            · have H := H.1 c
              show zW (zE d) zm_X8_place (hqi k X) (106, [(0, .ref 1046), (1, .int p1), (2, .int p2), (3, .int p3)], [], hp g1 e2)
              refine zq_aload (pc' := 107) rfl rfl rfl rfl ?_
              refine zq_iload (pc' := 108) rfl rfl rfl rfl ?_
              refine zq_iload (pc' := 109) rfl rfl rfl rfl ?_
              refine hq_calli (pc' := 112) rfl rfl rfl rfl rfl rfl h_Xi ?_
              refine hmonoi H ?_
              intro x18 g16 e17 H
              exact zq_iret rfl trivial (Exists.intro _ (Exists.intro _ (And.intro rfl H)))
            · have H := H.2 c
              show zW (zE d) zm_X8_place (hqi k X) (113, [(0, .ref 1046), (1, .int p1), (2, .int p2), (3, .int p3)], [], hp g1 e2)
              refine zq_aload (pc' := 114) rfl rfl rfl rfl ?_
              refine zq_ipush (pc' := 115) rfl rfl rfl ?_
              refine hq_calli (pc' := 118) rfl rfl rfl rfl rfl rfl h_Xi ?_
              refine hmonoi H ?_
              intro x21 g19 e20 H
              exact zq_iret rfl trivial (Exists.intro _ (Exists.intro _ (And.intro rfl H)))
theorem zh_X8_refuse {d : Nat} {k : Int32 → hG → hE → Prop} {X : Nat → hG → hE → Prop} {p1 : Int32} {g : hG} {e : hE} (H :
    hin p1 3 ∧
    hin p1 3 ∧
    k (-1) (sI g 1058 p1.toNatClampNeg ((g.1 1058 p1.toNatClampNeg) + 1)) e) : hci (d + 1) 277 [.ref 1046, .int p1] g e k X := by
  refine hent (M := zm_X8_refuse) (show hT 1046 = some (.inr _) from rfl) rfl rfl rfl rfl rfl ?_
  refine zq_aload (pc' := 1) rfl rfl rfl rfl ?_
  refine zq_getR (pc' := 4) rfl rfl rfl (hp_gC rfl) ?_
  refine zq_iload (pc' := 5) rfl rfl rfl rfl ?_
  refine zq_dup2 (pc' := 6) rfl rfl rfl rfl rfl ?_
  obtain ⟨hi1, H⟩ := H
  refine zq_iald (pc' := 7) rfl rfl rfl (hp_ia rfl hi1) ?_
  refine zq_ipush (pc' := 8) rfl rfl rfl ?_
  refine zq_iadd (pc' := 9) rfl rfl rfl ?_
  obtain ⟨hi2, H⟩ := H
  refine zq_iast (pc' := 10) rfl rfl rfl (hp_is rfl hi2) ?_
  refine zq_ipushn (pc' := 11) rfl rfl rfl ?_
  exact zq_iret rfl trivial (Exists.intro _ (Exists.intro _ (And.intro rfl H)))
theorem zh_X8_keep {d : Nat} {k : hG → hE → Prop} {X : Nat → hG → hE → Prop}  {g : hG} {e : hE} (H :
    zbr ((g.1 1046 32) = 40)
    (hwv d zm_X8_keep k X 13 [(0, .ref 1046), (1, .int 137)] g e)
    (hwv d zm_X8_keep k X 54 [(0, .ref 1046)] g e)) : hcv (d + 1) 278 [.ref 1046] g e k X := by
  refine hent (M := zm_X8_keep) (show hT 1046 = some (.inr _) from rfl) rfl rfl rfl rfl rfl ?_
  refine zq_aload (pc' := 1) rfl rfl rfl rfl ?_
  refine zq_getI (pc' := 4) rfl rfl rfl (hp_gI rfl) ?_
  refine zq_ipush (pc' := 6) rfl rfl rfl ?_
  refine zq_icne_c (pc' := 9) (lt := [(0, .ref 1046)]) (lf := [(0, .ref 1046)]) rfl rfl rfl rfl (And.intro (fun c => ?_) (fun c => ?_))
  · have H := H.1 c
    refine zq_ipush (pc' := 12) rfl rfl rfl ?_
    refine zq_istore_c (pc' := 13) rfl rfl ?_
    exact H
  · have H := H.2 c
    exact H
theorem zh_X8_keep_13 {d : Nat} {k : hG → hE → Prop} {X : Nat → hG → hE → Prop} {l1 : Int32} {g : hG} {e : hE} (H :
    zbr ((nI 5480) ≤ l1)
    (hwv d zm_X8_keep k X 54 [(0, .ref 1046)] (sI g 1046 32 ((g.1 1046 32) - 1)) e)
    (hin l1 5480 ∧
      hin (l1 - 137) 5480 ∧
      hwv d zm_X8_keep k X 13 [(0, .ref 1046), (1, .int (l1 + 1))] (sI g 1064 (l1 - 137).toNatClampNeg (g.1 1064 l1.toNatClampNeg)) e)) : hwv d zm_X8_keep k X 13 [(0, .ref 1046), (1, .int l1)] g e := by
  refine zq_iload (pc' := 14) rfl rfl rfl rfl ?_
  refine zq_aload (pc' := 15) rfl rfl rfl rfl ?_
  refine zq_getR (pc' := 18) rfl rfl rfl (hp_gC rfl) ?_
  refine zq_alen (pc' := 19) rfl rfl rfl (hp_al rfl rfl) ?_
  refine zq_icge (pc' := 22) rfl rfl rfl rfl (And.intro (fun c => ?_) (fun c => ?_))
  · have H := H.1 c
    refine zq_aload (pc' := 45) rfl rfl rfl rfl ?_
    refine zq_dup (pc' := 46) rfl rfl rfl rfl ?_
    refine zq_getI (pc' := 49) rfl rfl rfl (hp_gI rfl) ?_
    refine zq_ipush (pc' := 50) rfl rfl rfl ?_
    refine zq_isub (pc' := 51) rfl rfl rfl ?_
    refine zq_put_c (pc' := 54) rfl rfl trivial (hp_sI rfl) ?_
    exact H
  · have H := H.2 c
    refine zq_aload (pc' := 23) rfl rfl rfl rfl ?_
    refine zq_getR (pc' := 26) rfl rfl rfl (hp_gC rfl) ?_
    refine zq_iload (pc' := 27) rfl rfl rfl rfl ?_
    refine zq_ipush (pc' := 30) rfl rfl rfl ?_
    refine zq_isub (pc' := 31) rfl rfl rfl ?_
    refine zq_aload (pc' := 32) rfl rfl rfl rfl ?_
    refine zq_getR (pc' := 35) rfl rfl rfl (hp_gC rfl) ?_
    refine zq_iload (pc' := 36) rfl rfl rfl rfl ?_
    obtain ⟨hi1, H⟩ := H
    refine zq_iald (pc' := 37) rfl rfl rfl (hp_ia rfl hi1) ?_
    obtain ⟨hi2, H⟩ := H
    refine zq_iast (pc' := 38) rfl rfl rfl (hp_is rfl hi2) ?_
    refine zq_iinc (pc' := 41) rfl rfl rfl rfl ?_
    refine zq_goto_c (pc' := 13) rfl rfl ?_
    exact H
theorem zh_X8_keep_54 {d : Nat} {k : hG → hE → Prop} {X : Nat → hG → hE → Prop}  {g : hG} {e : hE} (H :
    hcv d 249 [.ref 1046, .ref 1064, .int (137 * (g.1 1046 32))] g e (fun g1 e2 =>
      k (sI g1 1046 32 ((g1.1 1046 32) + 1)) e2) X) : hwv d zm_X8_keep k X 54 [(0, .ref 1046)] g e := by
  refine zq_aload (pc' := 55) rfl rfl rfl rfl ?_
  refine zq_aload (pc' := 56) rfl rfl rfl rfl ?_
  refine zq_getR (pc' := 59) rfl rfl rfl (hp_gC rfl) ?_
  refine zq_ipush (pc' := 62) rfl rfl rfl ?_
  refine zq_aload (pc' := 63) rfl rfl rfl rfl ?_
  refine zq_getI (pc' := 66) rfl rfl rfl (hp_gI rfl) ?_
  refine zq_imul (pc' := 67) rfl rfl rfl ?_
  refine hq_callv (pc' := 70) rfl rfl rfl rfl rfl rfl h_Xv ?_
  refine hmonov H ?_
  intro g1 e2 H
  refine zq_aload (pc' := 71) rfl rfl rfl rfl ?_
  refine zq_dup (pc' := 72) rfl rfl rfl rfl ?_
  refine zq_getI (pc' := 75) rfl rfl rfl (hp_gI rfl) ?_
  refine zq_ipush (pc' := 76) rfl rfl rfl ?_
  refine zq_iadd (pc' := 77) rfl rfl rfl ?_
  refine zq_put (pc' := 80) rfl rfl rfl trivial (hp_sI rfl) ?_
  exact zq_vret rfl (Exists.intro _ (Exists.intro _ (And.intro rfl H)))
theorem zh_X8_days {d : Nat} {k : Int32 → hG → hE → Prop} {X : Nat → hG → hE → Prop} {p1 : Int32} {g : hG} {e : hE} (H :
    hci d 217 [.long ((p1 : Int32).toInt64), .long 1, .long 20] (sI g 1046 4 0) e (fun x3 g1 e2 =>
      zbr (x3 = 0)
      (hci d 277 [.ref 1046, .int 1] g1 e2 (fun x6 g4 e5 =>
          k x6 g4 e5) X)
      (zbr (((g1.1 1046 31) + p1) ≤ 999)
        (hcv d 278 [.ref 1046] g1 e2 (fun g7 e8 =>
            hcv d 265 [.ref 1046, .int p1] g7 e8 (fun g9 e10 =>
              k (g9.1 1046 31) g9 e10) X) X)
        (hci d 277 [.ref 1046, .int 1] g1 e2 (fun x13 g11 e12 =>
            k x13 g11 e12) X))) X) : hci (d + 1) 279 [.ref 1046, .int p1] g e k X := by
  refine hent (M := zm_X8_days) (show hT 1046 = some (.inr _) from rfl) rfl rfl rfl rfl rfl ?_
  refine zq_aload (pc' := 1) rfl rfl rfl rfl ?_
  refine zq_ipush (pc' := 2) rfl rfl rfl ?_
  refine zq_put (pc' := 5) rfl rfl rfl trivial (hp_sI rfl) ?_
  refine zq_iload (pc' := 6) rfl rfl rfl rfl ?_
  refine zq_i2l (pc' := 7) rfl rfl rfl ?_
  refine zq_lpush (pc' := 8) rfl rfl rfl ?_
  refine zq_lpush (pc' := 11) rfl rfl rfl ?_
  refine hq_calli (pc' := 14) rfl rfl rfl rfl rfl rfl h_Xi ?_
  refine hmonoi H ?_
  intro x3 g1 e2 H
  refine zq_ifeq (pc' := 17) rfl rfl rfl rfl (And.intro (fun c => ?_) (fun c => ?_))
  · have H := H.1 c
    refine zq_aload (pc' := 30) rfl rfl rfl rfl ?_
    refine zq_ipush (pc' := 31) rfl rfl rfl ?_
    refine hq_calli (pc' := 34) rfl rfl rfl rfl rfl rfl h_Xi ?_
    refine hmonoi H ?_
    intro x6 g4 e5 H
    exact zq_iret rfl trivial (Exists.intro _ (Exists.intro _ (And.intro rfl H)))
  · have H := H.2 c
    refine zq_aload (pc' := 18) rfl rfl rfl rfl ?_
    refine zq_getI (pc' := 21) rfl rfl rfl (hp_gI rfl) ?_
    refine zq_iload (pc' := 22) rfl rfl rfl rfl ?_
    refine zq_iadd (pc' := 23) rfl rfl rfl ?_
    refine zq_ipush (pc' := 26) rfl rfl rfl ?_
    refine zq_icle (pc' := 29) rfl rfl rfl rfl (And.intro (fun c => ?_) (fun c => ?_))
    · have H := H.1 c
      refine zq_aload (pc' := 36) rfl rfl rfl rfl ?_
      refine hq_callv (pc' := 39) rfl rfl rfl rfl rfl rfl h_Xi ?_
      refine hmonov H ?_
      intro g7 e8 H
      refine zq_aload (pc' := 40) rfl rfl rfl rfl ?_
      refine zq_iload (pc' := 41) rfl rfl rfl rfl ?_
      refine hq_callv (pc' := 44) rfl rfl rfl rfl rfl rfl h_Xi ?_
      refine hmonov H ?_
      intro g9 e10 H
      refine zq_aload (pc' := 45) rfl rfl rfl rfl ?_
      refine zq_getI (pc' := 48) rfl rfl rfl (hp_gI rfl) ?_
      exact zq_iret rfl trivial (Exists.intro _ (Exists.intro _ (And.intro rfl H)))
    · have H := H.2 c
      refine zq_aload (pc' := 30) rfl rfl rfl rfl ?_
      refine zq_ipush (pc' := 31) rfl rfl rfl ?_
      refine hq_calli (pc' := 34) rfl rfl rfl rfl rfl rfl h_Xi ?_
      refine hmonoi H ?_
      intro x13 g11 e12 H
      exact zq_iret rfl trivial (Exists.intro _ (Exists.intro _ (And.intro rfl H)))
theorem zh_X8_slide {d : Nat} {k : Int32 → hG → hE → Prop} {X : Nat → hG → hE → Prop} {p1 : Int32} {p2 : Int32} {g : hG} {e : hE} (H :
    hci d 220 [.ref 1046, .int p1] (sI g 1046 4 0) e (fun x3 g1 e2 =>
      zbr (x3 = 0)
      (hci d 215 [.ref 1046, .int 1] g1 e2 (fun x6 g4 e5 =>
          k x6 g4 e5) X)
      (hin p1 8 ∧
        hci d 217 [.long ((p2 : Int32).toInt64), .long 0, .long ((g1.1 1052 p1.toNatClampNeg : Int32).toInt64)] g1 e2 (fun x10 g8 e9 =>
          zbr (x10 = 0)
          (hci d 277 [.ref 1046, .int 1] g8 e9 (fun x13 g11 e12 =>
              k x13 g11 e12) X)
          (hcv d 278 [.ref 1046] g8 e9 (fun g14 e15 =>
              hcv d 253 [.ref 1046, .int p1, .int p2] g14 e15 (fun g16 e17 =>
                hin p1 4 ∧
                hci d 219 [.int (g16.1 1063 p1.toNatClampNeg)] g16 e17 (fun x21 g19 e20 =>
                  k x21 g19 e20) X) X) X)) X)) X) : hci (d + 1) 280 [.ref 1046, .int p1, .int p2] g e k X := by
  refine hent (M := zm_X8_slide) (show hT 1046 = some (.inr _) from rfl) rfl rfl rfl rfl rfl ?_
  refine zq_aload (pc' := 1) rfl rfl rfl rfl ?_
  refine zq_ipush (pc' := 2) rfl rfl rfl ?_
  refine zq_put (pc' := 5) rfl rfl rfl trivial (hp_sI rfl) ?_
  refine zq_aload (pc' := 6) rfl rfl rfl rfl ?_
  refine zq_iload (pc' := 7) rfl rfl rfl rfl ?_
  refine hq_calli (pc' := 10) rfl rfl rfl rfl rfl rfl h_Xi ?_
  refine hmonoi H ?_
  intro x3 g1 e2 H
  refine zq_ifne (pc' := 13) rfl rfl rfl rfl (And.intro (fun c => ?_) (fun c => ?_))
  · have H := H.1 c
    refine zq_aload (pc' := 14) rfl rfl rfl rfl ?_
    refine zq_ipush (pc' := 15) rfl rfl rfl ?_
    refine hq_calli (pc' := 18) rfl rfl rfl rfl rfl rfl h_Xi ?_
    refine hmonoi H ?_
    intro x6 g4 e5 H
    exact zq_iret rfl trivial (Exists.intro _ (Exists.intro _ (And.intro rfl H)))
  · have H := H.2 c
    refine zq_iload (pc' := 20) rfl rfl rfl rfl ?_
    refine zq_i2l (pc' := 21) rfl rfl rfl ?_
    refine zq_lpush (pc' := 22) rfl rfl rfl ?_
    refine zq_aload (pc' := 23) rfl rfl rfl rfl ?_
    refine zq_getR (pc' := 26) rfl rfl rfl (hp_gC rfl) ?_
    refine zq_iload (pc' := 27) rfl rfl rfl rfl ?_
    obtain ⟨hi7, H⟩ := H
    refine zq_iald (pc' := 28) rfl rfl rfl (hp_ia rfl hi7) ?_
    refine zq_i2l (pc' := 29) rfl rfl rfl ?_
    refine hq_calli (pc' := 32) rfl rfl rfl rfl rfl rfl h_Xi ?_
    refine hmonoi H ?_
    intro x10 g8 e9 H
    refine zq_ifne (pc' := 35) rfl rfl rfl rfl (And.intro (fun c => ?_) (fun c => ?_))
    · have H := H.1 c
      refine zq_aload (pc' := 36) rfl rfl rfl rfl ?_
      refine zq_ipush (pc' := 37) rfl rfl rfl ?_
      refine hq_calli (pc' := 40) rfl rfl rfl rfl rfl rfl h_Xi ?_
      refine hmonoi H ?_
      intro x13 g11 e12 H
      exact zq_iret rfl trivial (Exists.intro _ (Exists.intro _ (And.intro rfl H)))
    · have H := H.2 c
      refine zq_aload (pc' := 42) rfl rfl rfl rfl ?_
      refine hq_callv (pc' := 45) rfl rfl rfl rfl rfl rfl h_Xi ?_
      refine hmonov H ?_
      intro g14 e15 H
      refine zq_aload (pc' := 46) rfl rfl rfl rfl ?_
      refine zq_iload (pc' := 47) rfl rfl rfl rfl ?_
      refine zq_iload (pc' := 48) rfl rfl rfl rfl ?_
      refine hq_callv (pc' := 51) rfl rfl rfl rfl rfl rfl h_Xi ?_
      refine hmonov H ?_
      intro g16 e17 H
      refine zq_aload (pc' := 52) rfl rfl rfl rfl ?_
      refine zq_getR (pc' := 55) rfl rfl rfl (hp_gC rfl) ?_
      refine zq_iload (pc' := 56) rfl rfl rfl rfl ?_
      obtain ⟨hi18, H⟩ := H
      refine zq_iald (pc' := 57) rfl rfl rfl (hp_ia rfl hi18) ?_
      refine hq_calli (pc' := 60) rfl rfl rfl rfl rfl rfl h_Xi ?_
      refine hmonoi H ?_
      intro x21 g19 e20 H
      exact zq_iret rfl trivial (Exists.intro _ (Exists.intro _ (And.intro rfl H)))
theorem zh_X8_isTooth {d : Nat} {k : Int32 → hG → hE → Prop} {X : Nat → hG → hE → Prop} {p1 : Int32} {p2 : Int32} {p3 : Int32} {g : hG} {e : hE} (H :
    hci d 221 [.ref 1046, .int p1, .int p3] g e (fun x3 g1 e2 =>
      zbr (x3 = 0)
      (k 0 g1 e2)
      (hci d 217 [.long ((p2 : Int32).toInt64), .long 0, .long 1] g1 e2 (fun x6 g4 e5 =>
          zbr (x6 = 0)
          (k 0 g4 e5)
          (k 1 g4 e5)) X)) X) : hci (d + 1) 281 [.ref 1046, .int p1, .int p2, .int p3] g e k X := by
  refine hent (M := zm_X8_isTooth) (show hT 1046 = some (.inr _) from rfl) rfl rfl rfl rfl rfl ?_
  refine zq_aload (pc' := 1) rfl rfl rfl rfl ?_
  refine zq_iload (pc' := 2) rfl rfl rfl rfl ?_
  refine zq_iload (pc' := 3) rfl rfl rfl rfl ?_
  refine hq_calli (pc' := 6) rfl rfl rfl rfl rfl rfl h_Xi ?_
  refine hmonoi H ?_
  intro x3 g1 e2 H
  refine zq_ifeq (pc' := 9) rfl rfl rfl rfl (And.intro (fun c => ?_) (fun c => ?_))
  · have H := H.1 c
    refine zq_ipush (pc' := 24) rfl rfl rfl ?_
    exact zq_iret rfl (Or.inl rfl) (Exists.intro _ (Exists.intro _ (And.intro rfl H)))
  · have H := H.2 c
    refine zq_iload (pc' := 10) rfl rfl rfl rfl ?_
    refine zq_i2l (pc' := 11) rfl rfl rfl ?_
    refine zq_lpush (pc' := 12) rfl rfl rfl ?_
    refine zq_lpush (pc' := 13) rfl rfl rfl ?_
    refine hq_calli (pc' := 16) rfl rfl rfl rfl rfl rfl h_Xi ?_
    refine hmonoi H ?_
    intro x6 g4 e5 H
    refine zq_ifeq (pc' := 19) rfl rfl rfl rfl (And.intro (fun c => ?_) (fun c => ?_))
    · have H := H.1 c
      refine zq_ipush (pc' := 24) rfl rfl rfl ?_
      exact zq_iret rfl (Or.inl rfl) (Exists.intro _ (Exists.intro _ (And.intro rfl H)))
    · have H := H.2 c
      refine zq_ipush (pc' := 20) rfl rfl rfl ?_
      refine zq_goto (pc' := 24) rfl rfl rfl ?_
      exact zq_iret rfl (Or.inr rfl) (Exists.intro _ (Exists.intro _ (And.intro rfl H)))
theorem zh_X8_pinch {d : Nat} {k : Int32 → hG → hE → Prop} {X : Nat → hG → hE → Prop} {p1 : Int32} {p2 : Int32} {p3 : Int32} {g : hG} {e : hE} (H :
    hci d 281 [.ref 1046, .int p1, .int p2, .int p3] (sI g 1046 4 0) e (fun x3 g1 e2 =>
      zbr (x3 = 0)
      (hci d 215 [.ref 1046, .int 1] g1 e2 (fun x6 g4 e5 =>
          k x6 g4 e5) X)
      (zbr (p2 = 0)
        (hin ((16 * p1) + p3) 64 ∧
          hci d 217 [.long ((g1.1 1060 ((16 * p1) + p3).toNatClampNeg : Int32).toInt64), .long 1, .long 8] g1 e2 (fun x10 g8 e9 =>
            zbr (x10 = 0)
            (hci d 277 [.ref 1046, .int 1] g8 e9 (fun x13 g11 e12 =>
                k x13 g11 e12) X)
            (hcv d 278 [.ref 1046] g8 e9 (fun g14 e15 =>
                hin ((16 * p1) + p3) 64 ∧
                hin ((16 * p1) + p3) 64 ∧
                hin ((16 * p1) + p3) 64 ∧
                k ((sI g14 1060 ((16 * p1) + p3).toNatClampNeg ((g14.1 1060 ((16 * p1) + p3).toNatClampNeg) + 1)).1 1060 ((16 * p1) + p3).toNatClampNeg) (sI g14 1060 ((16 * p1) + p3).toNatClampNeg ((g14.1 1060 ((16 * p1) + p3).toNatClampNeg) + 1)) e15) X)) X)
        (hin ((16 * p1) + p3) 64 ∧
          hci d 217 [.long ((g1.1 1061 ((16 * p1) + p3).toNatClampNeg : Int32).toInt64), .long 1, .long 8] g1 e2 (fun x22 g20 e21 =>
            zbr (x22 = 0)
            (hci d 277 [.ref 1046, .int 1] g20 e21 (fun x25 g23 e24 =>
                k x25 g23 e24) X)
            (hcv d 278 [.ref 1046] g20 e21 (fun g26 e27 =>
                hin ((16 * p1) + p3) 64 ∧
                hin ((16 * p1) + p3) 64 ∧
                hin ((16 * p1) + p3) 64 ∧
                k ((sI g26 1061 ((16 * p1) + p3).toNatClampNeg ((g26.1 1061 ((16 * p1) + p3).toNatClampNeg) + 1)).1 1061 ((16 * p1) + p3).toNatClampNeg) (sI g26 1061 ((16 * p1) + p3).toNatClampNeg ((g26.1 1061 ((16 * p1) + p3).toNatClampNeg) + 1)) e27) X)) X))) X) : hci (d + 1) 282 [.ref 1046, .int p1, .int p2, .int p3] g e k X := by
  refine hent (M := zm_X8_pinch) (show hT 1046 = some (.inr _) from rfl) rfl rfl rfl rfl rfl ?_
  refine zq_aload (pc' := 1) rfl rfl rfl rfl ?_
  refine zq_ipush (pc' := 2) rfl rfl rfl ?_
  refine zq_put (pc' := 5) rfl rfl rfl trivial (hp_sI rfl) ?_
  refine zq_aload (pc' := 6) rfl rfl rfl rfl ?_
  refine zq_iload (pc' := 7) rfl rfl rfl rfl ?_
  refine zq_iload (pc' := 8) rfl rfl rfl rfl ?_
  refine zq_iload (pc' := 9) rfl rfl rfl rfl ?_
  refine hq_calli (pc' := 12) rfl rfl rfl rfl rfl rfl h_Xi ?_
  refine hmonoi H ?_
  intro x3 g1 e2 H
  refine zq_ifne (pc' := 15) rfl rfl rfl rfl (And.intro (fun c => ?_) (fun c => ?_))
  · have H := H.1 c
    refine zq_aload (pc' := 16) rfl rfl rfl rfl ?_
    refine zq_ipush (pc' := 17) rfl rfl rfl ?_
    refine hq_calli (pc' := 20) rfl rfl rfl rfl rfl rfl h_Xi ?_
    refine hmonoi H ?_
    intro x6 g4 e5 H
    exact zq_iret rfl trivial (Exists.intro _ (Exists.intro _ (And.intro rfl H)))
  · have H := H.2 c
    refine zq_iload (pc' := 22) rfl rfl rfl rfl ?_
    refine zq_ifne (pc' := 25) rfl rfl rfl rfl (And.intro (fun c => ?_) (fun c => ?_))
    · have H := H.1 c
      refine zq_aload (pc' := 26) rfl rfl rfl rfl ?_
      refine zq_getR (pc' := 29) rfl rfl rfl (hp_gC rfl) ?_
      refine zq_goto (pc' := 36) rfl rfl rfl ?_
      refine zq_astore (pc' := 38) rfl rfl rfl ?_
      refine zq_ipush (pc' := 40) rfl rfl rfl ?_
      refine zq_iload (pc' := 41) rfl rfl rfl rfl ?_
      refine zq_imul (pc' := 42) rfl rfl rfl ?_
      refine zq_iload (pc' := 43) rfl rfl rfl rfl ?_
      refine zq_iadd (pc' := 44) rfl rfl rfl ?_
      refine zq_istore (pc' := 46) rfl rfl rfl ?_
      refine zq_aload (pc' := 48) rfl rfl rfl rfl ?_
      refine zq_iload (pc' := 50) rfl rfl rfl rfl ?_
      obtain ⟨hi7, H⟩ := H
      refine zq_iald (pc' := 51) rfl rfl rfl (hp_ia rfl hi7) ?_
      refine zq_i2l (pc' := 52) rfl rfl rfl ?_
      refine zq_lpush (pc' := 53) rfl rfl rfl ?_
      refine zq_lpush (pc' := 56) rfl rfl rfl ?_
      refine hq_calli (pc' := 59) rfl rfl rfl rfl rfl rfl h_Xi ?_
      refine hmonoi H ?_
      intro x10 g8 e9 H
      refine zq_ifne (pc' := 62) rfl rfl rfl rfl (And.intro (fun c => ?_) (fun c => ?_))
      · have H := H.1 c
        refine zq_aload (pc' := 63) rfl rfl rfl rfl ?_
        refine zq_ipush (pc' := 64) rfl rfl rfl ?_
        refine hq_calli (pc' := 67) rfl rfl rfl rfl rfl rfl h_Xi ?_
        refine hmonoi H ?_
        intro x13 g11 e12 H
        exact zq_iret rfl trivial (Exists.intro _ (Exists.intro _ (And.intro rfl H)))
      · have H := H.2 c
        refine zq_aload (pc' := 69) rfl rfl rfl rfl ?_
        refine hq_callv (pc' := 72) rfl rfl rfl rfl rfl rfl h_Xi ?_
        refine hmonov H ?_
        intro g14 e15 H
        refine zq_aload (pc' := 74) rfl rfl rfl rfl ?_
        refine zq_iload (pc' := 76) rfl rfl rfl rfl ?_
        refine zq_dup2 (pc' := 77) rfl rfl rfl rfl rfl ?_
        obtain ⟨hi16, H⟩ := H
        refine zq_iald (pc' := 78) rfl rfl rfl (hp_ia rfl hi16) ?_
        refine zq_ipush (pc' := 79) rfl rfl rfl ?_
        refine zq_iadd (pc' := 80) rfl rfl rfl ?_
        obtain ⟨hi17, H⟩ := H
        refine zq_iast (pc' := 81) rfl rfl rfl (hp_is rfl hi17) ?_
        refine zq_aload (pc' := 83) rfl rfl rfl rfl ?_
        refine zq_iload (pc' := 85) rfl rfl rfl rfl ?_
        obtain ⟨hi18, H⟩ := H
        refine zq_iald (pc' := 86) rfl rfl rfl (hp_ia rfl hi18) ?_
        exact zq_iret rfl trivial (Exists.intro _ (Exists.intro _ (And.intro rfl H)))
    · have H := H.2 c
      refine zq_aload (pc' := 33) rfl rfl rfl rfl ?_
      refine zq_getR (pc' := 36) rfl rfl rfl (hp_gC rfl) ?_
      refine zq_astore (pc' := 38) rfl rfl rfl ?_
      refine zq_ipush (pc' := 40) rfl rfl rfl ?_
      refine zq_iload (pc' := 41) rfl rfl rfl rfl ?_
      refine zq_imul (pc' := 42) rfl rfl rfl ?_
      refine zq_iload (pc' := 43) rfl rfl rfl rfl ?_
      refine zq_iadd (pc' := 44) rfl rfl rfl ?_
      refine zq_istore (pc' := 46) rfl rfl rfl ?_
      refine zq_aload (pc' := 48) rfl rfl rfl rfl ?_
      refine zq_iload (pc' := 50) rfl rfl rfl rfl ?_
      obtain ⟨hi19, H⟩ := H
      refine zq_iald (pc' := 51) rfl rfl rfl (hp_ia rfl hi19) ?_
      refine zq_i2l (pc' := 52) rfl rfl rfl ?_
      refine zq_lpush (pc' := 53) rfl rfl rfl ?_
      refine zq_lpush (pc' := 56) rfl rfl rfl ?_
      refine hq_calli (pc' := 59) rfl rfl rfl rfl rfl rfl h_Xi ?_
      refine hmonoi H ?_
      intro x22 g20 e21 H
      refine zq_ifne (pc' := 62) rfl rfl rfl rfl (And.intro (fun c => ?_) (fun c => ?_))
      · have H := H.1 c
        refine zq_aload (pc' := 63) rfl rfl rfl rfl ?_
        refine zq_ipush (pc' := 64) rfl rfl rfl ?_
        refine hq_calli (pc' := 67) rfl rfl rfl rfl rfl rfl h_Xi ?_
        refine hmonoi H ?_
        intro x25 g23 e24 H
        exact zq_iret rfl trivial (Exists.intro _ (Exists.intro _ (And.intro rfl H)))
      · have H := H.2 c
        refine zq_aload (pc' := 69) rfl rfl rfl rfl ?_
        refine hq_callv (pc' := 72) rfl rfl rfl rfl rfl rfl h_Xi ?_
        refine hmonov H ?_
        intro g26 e27 H
        refine zq_aload (pc' := 74) rfl rfl rfl rfl ?_
        refine zq_iload (pc' := 76) rfl rfl rfl rfl ?_
        refine zq_dup2 (pc' := 77) rfl rfl rfl rfl rfl ?_
        obtain ⟨hi28, H⟩ := H
        refine zq_iald (pc' := 78) rfl rfl rfl (hp_ia rfl hi28) ?_
        refine zq_ipush (pc' := 79) rfl rfl rfl ?_
        refine zq_iadd (pc' := 80) rfl rfl rfl ?_
        obtain ⟨hi29, H⟩ := H
        refine zq_iast (pc' := 81) rfl rfl rfl (hp_is rfl hi29) ?_
        refine zq_aload (pc' := 83) rfl rfl rfl rfl ?_
        refine zq_iload (pc' := 85) rfl rfl rfl rfl ?_
        obtain ⟨hi30, H⟩ := H
        refine zq_iald (pc' := 86) rfl rfl rfl (hp_ia rfl hi30) ?_
        exact zq_iret rfl trivial (Exists.intro _ (Exists.intro _ (And.intro rfl H)))
theorem zh_X8_set {d : Nat} {k : Int32 → hG → hE → Prop} {X : Nat → hG → hE → Prop} {p1 : Int32} {p2 : Int32} {p3 : Int32} {p4 : Int32} {g : hG} {e : hE} (H :
    hci d 281 [.ref 1046, .int p1, .int p2, .int p3] (sI g 1046 4 0) e (fun x3 g1 e2 =>
      zbr (x3 = 0)
      (hci d 216 [.ref 1046, .int 1] g1 e2 (fun x6 g4 e5 =>
          (x6 = 0 ∨ x6 = 1) ∧ k x6 g4 e5) X)
      (zbr (p2 = 0)
        (hin ((16 * p1) + p3) 64 ∧
          zbr (0 < (g1.1 1060 ((16 * p1) + p3).toNatClampNeg))
          (k 0 (sI g1 1058 1 ((g1.1 1058 1) + 1)) e2)
          (hci d 217 [.long ((p4 : Int32).toInt64), .long 1, .long 9] g1 e2 (fun x12 g10 e11 =>
              zbr (x12 = 0)
              (k 0 (sI g10 1058 1 ((g10.1 1058 1) + 1)) e11)
              (hcv d 278 [.ref 1046] g10 e11 (fun g15 e16 =>
                  hin ((16 * p1) + p3) 64 ∧
                  k 1 (sI g15 1060 ((16 * p1) + p3).toNatClampNeg p4) e16) X)) X))
        (hin ((16 * p1) + p3) 64 ∧
          zbr (0 < (g1.1 1061 ((16 * p1) + p3).toNatClampNeg))
          (k 0 (sI g1 1058 1 ((g1.1 1058 1) + 1)) e2)
          (hci d 217 [.long ((p4 : Int32).toInt64), .long 1, .long 9] g1 e2 (fun x23 g21 e22 =>
              zbr (x23 = 0)
              (k 0 (sI g21 1058 1 ((g21.1 1058 1) + 1)) e22)
              (hcv d 278 [.ref 1046] g21 e22 (fun g26 e27 =>
                  hin ((16 * p1) + p3) 64 ∧
                  k 1 (sI g26 1061 ((16 * p1) + p3).toNatClampNeg p4) e27) X)) X)))) X) : hci (d + 1) 283 [.ref 1046, .int p1, .int p2, .int p3, .int p4] g e k X := by
  refine hent (M := zm_X8_set) (show hT 1046 = some (.inr _) from rfl) rfl rfl rfl rfl rfl ?_
  refine zq_aload (pc' := 1) rfl rfl rfl rfl ?_
  refine zq_ipush (pc' := 2) rfl rfl rfl ?_
  refine zq_put (pc' := 5) rfl rfl rfl trivial (hp_sI rfl) ?_
  refine zq_aload (pc' := 6) rfl rfl rfl rfl ?_
  refine zq_iload (pc' := 7) rfl rfl rfl rfl ?_
  refine zq_iload (pc' := 8) rfl rfl rfl rfl ?_
  refine zq_iload (pc' := 9) rfl rfl rfl rfl ?_
  refine hq_calli (pc' := 12) rfl rfl rfl rfl rfl rfl h_Xi ?_
  refine hmonoi H ?_
  intro x3 g1 e2 H
  refine zq_ifne (pc' := 15) rfl rfl rfl rfl (And.intro (fun c => ?_) (fun c => ?_))
  · have H := H.1 c
    refine zq_aload (pc' := 16) rfl rfl rfl rfl ?_
    refine zq_ipush (pc' := 17) rfl rfl rfl ?_
    refine hq_calli (pc' := 20) rfl rfl rfl rfl rfl rfl h_Xi ?_
    refine hmonoi H ?_
    intro x6 g4 e5 H
    exact zq_iret rfl H.1 (Exists.intro _ (Exists.intro _ (And.intro rfl H.2)))
  · have H := H.2 c
    refine zq_iload (pc' := 22) rfl rfl rfl rfl ?_
    refine zq_ifne (pc' := 25) rfl rfl rfl rfl (And.intro (fun c => ?_) (fun c => ?_))
    · have H := H.1 c
      refine zq_aload (pc' := 26) rfl rfl rfl rfl ?_
      refine zq_getR (pc' := 29) rfl rfl rfl (hp_gC rfl) ?_
      refine zq_goto (pc' := 36) rfl rfl rfl ?_
      refine zq_astore (pc' := 38) rfl rfl rfl ?_
      refine zq_ipush (pc' := 40) rfl rfl rfl ?_
      refine zq_iload (pc' := 41) rfl rfl rfl rfl ?_
      refine zq_imul (pc' := 42) rfl rfl rfl ?_
      refine zq_iload (pc' := 43) rfl rfl rfl rfl ?_
      refine zq_iadd (pc' := 44) rfl rfl rfl ?_
      refine zq_istore (pc' := 46) rfl rfl rfl ?_
      refine zq_aload (pc' := 48) rfl rfl rfl rfl ?_
      refine zq_iload (pc' := 50) rfl rfl rfl rfl ?_
      obtain ⟨hi7, H⟩ := H
      refine zq_iald (pc' := 51) rfl rfl rfl (hp_ia rfl hi7) ?_
      refine zq_ifgt (pc' := 54) rfl rfl rfl rfl (And.intro (fun c => ?_) (fun c => ?_))
      · have H := H.1 c
        refine zq_aload (pc' := 68) rfl rfl rfl rfl ?_
        refine zq_getR (pc' := 71) rfl rfl rfl (hp_gC rfl) ?_
        refine zq_ipush (pc' := 72) rfl rfl rfl ?_
        refine zq_dup2 (pc' := 73) rfl rfl rfl rfl rfl ?_
        refine zq_iald (pc' := 74) rfl rfl rfl (hp_ia rfl (by unfold hin; decide)) ?_
        refine zq_ipush (pc' := 75) rfl rfl rfl ?_
        refine zq_iadd (pc' := 76) rfl rfl rfl ?_
        refine zq_iast (pc' := 77) rfl rfl rfl (hp_is rfl (by unfold hin; decide)) ?_
        refine zq_ipush (pc' := 78) rfl rfl rfl ?_
        exact zq_iret rfl (Or.inl rfl) (Exists.intro _ (Exists.intro _ (And.intro rfl H)))
      · have H := H.2 c
        refine zq_iload (pc' := 56) rfl rfl rfl rfl ?_
        refine zq_i2l (pc' := 57) rfl rfl rfl ?_
        refine zq_lpush (pc' := 58) rfl rfl rfl ?_
        refine zq_lpush (pc' := 61) rfl rfl rfl ?_
        refine hq_calli (pc' := 64) rfl rfl rfl rfl rfl rfl h_Xi ?_
        refine hmonoi H ?_
        intro x12 g10 e11 H
        refine zq_ifne (pc' := 67) rfl rfl rfl rfl (And.intro (fun c => ?_) (fun c => ?_))
        · have H := H.1 c
          refine zq_aload (pc' := 68) rfl rfl rfl rfl ?_
          refine zq_getR (pc' := 71) rfl rfl rfl (hp_gC rfl) ?_
          refine zq_ipush (pc' := 72) rfl rfl rfl ?_
          refine zq_dup2 (pc' := 73) rfl rfl rfl rfl rfl ?_
          refine zq_iald (pc' := 74) rfl rfl rfl (hp_ia rfl (by unfold hin; decide)) ?_
          refine zq_ipush (pc' := 75) rfl rfl rfl ?_
          refine zq_iadd (pc' := 76) rfl rfl rfl ?_
          refine zq_iast (pc' := 77) rfl rfl rfl (hp_is rfl (by unfold hin; decide)) ?_
          refine zq_ipush (pc' := 78) rfl rfl rfl ?_
          exact zq_iret rfl (Or.inl rfl) (Exists.intro _ (Exists.intro _ (And.intro rfl H)))
        · have H := H.2 c
          refine zq_aload (pc' := 80) rfl rfl rfl rfl ?_
          refine hq_callv (pc' := 83) rfl rfl rfl rfl rfl rfl h_Xi ?_
          refine hmonov H ?_
          intro g15 e16 H
          refine zq_aload (pc' := 85) rfl rfl rfl rfl ?_
          refine zq_iload (pc' := 87) rfl rfl rfl rfl ?_
          refine zq_iload (pc' := 89) rfl rfl rfl rfl ?_
          obtain ⟨hi17, H⟩ := H
          refine zq_iast (pc' := 90) rfl rfl rfl (hp_is rfl hi17) ?_
          refine zq_ipush (pc' := 91) rfl rfl rfl ?_
          exact zq_iret rfl (Or.inr rfl) (Exists.intro _ (Exists.intro _ (And.intro rfl H)))
    · have H := H.2 c
      refine zq_aload (pc' := 33) rfl rfl rfl rfl ?_
      refine zq_getR (pc' := 36) rfl rfl rfl (hp_gC rfl) ?_
      refine zq_astore (pc' := 38) rfl rfl rfl ?_
      refine zq_ipush (pc' := 40) rfl rfl rfl ?_
      refine zq_iload (pc' := 41) rfl rfl rfl rfl ?_
      refine zq_imul (pc' := 42) rfl rfl rfl ?_
      refine zq_iload (pc' := 43) rfl rfl rfl rfl ?_
      refine zq_iadd (pc' := 44) rfl rfl rfl ?_
      refine zq_istore (pc' := 46) rfl rfl rfl ?_
      refine zq_aload (pc' := 48) rfl rfl rfl rfl ?_
      refine zq_iload (pc' := 50) rfl rfl rfl rfl ?_
      obtain ⟨hi18, H⟩ := H
      refine zq_iald (pc' := 51) rfl rfl rfl (hp_ia rfl hi18) ?_
      refine zq_ifgt (pc' := 54) rfl rfl rfl rfl (And.intro (fun c => ?_) (fun c => ?_))
      · have H := H.1 c
        refine zq_aload (pc' := 68) rfl rfl rfl rfl ?_
        refine zq_getR (pc' := 71) rfl rfl rfl (hp_gC rfl) ?_
        refine zq_ipush (pc' := 72) rfl rfl rfl ?_
        refine zq_dup2 (pc' := 73) rfl rfl rfl rfl rfl ?_
        refine zq_iald (pc' := 74) rfl rfl rfl (hp_ia rfl (by unfold hin; decide)) ?_
        refine zq_ipush (pc' := 75) rfl rfl rfl ?_
        refine zq_iadd (pc' := 76) rfl rfl rfl ?_
        refine zq_iast (pc' := 77) rfl rfl rfl (hp_is rfl (by unfold hin; decide)) ?_
        refine zq_ipush (pc' := 78) rfl rfl rfl ?_
        exact zq_iret rfl (Or.inl rfl) (Exists.intro _ (Exists.intro _ (And.intro rfl H)))
      · have H := H.2 c
        refine zq_iload (pc' := 56) rfl rfl rfl rfl ?_
        refine zq_i2l (pc' := 57) rfl rfl rfl ?_
        refine zq_lpush (pc' := 58) rfl rfl rfl ?_
        refine zq_lpush (pc' := 61) rfl rfl rfl ?_
        refine hq_calli (pc' := 64) rfl rfl rfl rfl rfl rfl h_Xi ?_
        refine hmonoi H ?_
        intro x23 g21 e22 H
        refine zq_ifne (pc' := 67) rfl rfl rfl rfl (And.intro (fun c => ?_) (fun c => ?_))
        · have H := H.1 c
          refine zq_aload (pc' := 68) rfl rfl rfl rfl ?_
          refine zq_getR (pc' := 71) rfl rfl rfl (hp_gC rfl) ?_
          refine zq_ipush (pc' := 72) rfl rfl rfl ?_
          refine zq_dup2 (pc' := 73) rfl rfl rfl rfl rfl ?_
          refine zq_iald (pc' := 74) rfl rfl rfl (hp_ia rfl (by unfold hin; decide)) ?_
          refine zq_ipush (pc' := 75) rfl rfl rfl ?_
          refine zq_iadd (pc' := 76) rfl rfl rfl ?_
          refine zq_iast (pc' := 77) rfl rfl rfl (hp_is rfl (by unfold hin; decide)) ?_
          refine zq_ipush (pc' := 78) rfl rfl rfl ?_
          exact zq_iret rfl (Or.inl rfl) (Exists.intro _ (Exists.intro _ (And.intro rfl H)))
        · have H := H.2 c
          refine zq_aload (pc' := 80) rfl rfl rfl rfl ?_
          refine hq_callv (pc' := 83) rfl rfl rfl rfl rfl rfl h_Xi ?_
          refine hmonov H ?_
          intro g26 e27 H
          refine zq_aload (pc' := 85) rfl rfl rfl rfl ?_
          refine zq_iload (pc' := 87) rfl rfl rfl rfl ?_
          refine zq_iload (pc' := 89) rfl rfl rfl rfl ?_
          obtain ⟨hi28, H⟩ := H
          refine zq_iast (pc' := 90) rfl rfl rfl (hp_is rfl hi28) ?_
          refine zq_ipush (pc' := 91) rfl rfl rfl ?_
          exact zq_iret rfl (Or.inr rfl) (Exists.intro _ (Exists.intro _ (And.intro rfl H)))
theorem zh_X8_swap {d : Nat} {k : Int32 → hG → hE → Prop} {X : Nat → hG → hE → Prop} {p1 : Int32} {p2 : Int32} {g : hG} {e : hE} (H :
    hci d 220 [.ref 1046, .int p1] (sI g 1046 4 0) e (fun x3 g1 e2 =>
      zbr (x3 = 0)
      (hci d 216 [.ref 1046, .int 1] g1 e2 (fun x6 g4 e5 =>
          (x6 = 0 ∨ x6 = 1) ∧ k x6 g4 e5) X)
      (hci d 220 [.ref 1046, .int p2] g1 e2 (fun x9 g7 e8 =>
          zbr (x9 = 0)
          (hci d 216 [.ref 1046, .int 1] g7 e8 (fun x12 g10 e11 =>
              (x12 = 0 ∨ x12 = 1) ∧ k x12 g10 e11) X)
          (zbr (p1 = p2)
            (k 0 (sI g7 1058 1 ((g7.1 1058 1) + 1)) e8)
            (hin p1 8 ∧
              hin p2 8 ∧
              zbr ((g7.1 1052 p1.toNatClampNeg) = (g7.1 1052 p2.toNatClampNeg))
              (hcv d 278 [.ref 1046] g7 e8 (fun g17 e18 =>
                  hwi d zm_X8_swap k X 65 [(0, .ref 1046), (1, .int p1), (2, .int p2), (3, .int 0)] g17 e18) X)
              (k 0 (sI g7 1058 1 ((g7.1 1058 1) + 1)) e8)))) X)) X) : hci (d + 1) 284 [.ref 1046, .int p1, .int p2] g e k X := by
  refine hent (M := zm_X8_swap) (show hT 1046 = some (.inr _) from rfl) rfl rfl rfl rfl rfl ?_
  refine zq_aload (pc' := 1) rfl rfl rfl rfl ?_
  refine zq_ipush (pc' := 2) rfl rfl rfl ?_
  refine zq_put (pc' := 5) rfl rfl rfl trivial (hp_sI rfl) ?_
  refine zq_aload (pc' := 6) rfl rfl rfl rfl ?_
  refine zq_iload (pc' := 7) rfl rfl rfl rfl ?_
  refine hq_calli (pc' := 10) rfl rfl rfl rfl rfl rfl h_Xi ?_
  refine hmonoi H ?_
  intro x3 g1 e2 H
  refine zq_ifeq (pc' := 13) rfl rfl rfl rfl (And.intro (fun c => ?_) (fun c => ?_))
  · have H := H.1 c
    refine zq_aload (pc' := 22) rfl rfl rfl rfl ?_
    refine zq_ipush (pc' := 23) rfl rfl rfl ?_
    refine hq_calli (pc' := 26) rfl rfl rfl rfl rfl rfl h_Xi ?_
    refine hmonoi H ?_
    intro x6 g4 e5 H
    exact zq_iret rfl H.1 (Exists.intro _ (Exists.intro _ (And.intro rfl H.2)))
  · have H := H.2 c
    refine zq_aload (pc' := 14) rfl rfl rfl rfl ?_
    refine zq_iload (pc' := 15) rfl rfl rfl rfl ?_
    refine hq_calli (pc' := 18) rfl rfl rfl rfl rfl rfl h_Xi ?_
    refine hmonoi H ?_
    intro x9 g7 e8 H
    refine zq_ifne (pc' := 21) rfl rfl rfl rfl (And.intro (fun c => ?_) (fun c => ?_))
    · have H := H.1 c
      refine zq_aload (pc' := 22) rfl rfl rfl rfl ?_
      refine zq_ipush (pc' := 23) rfl rfl rfl ?_
      refine hq_calli (pc' := 26) rfl rfl rfl rfl rfl rfl h_Xi ?_
      refine hmonoi H ?_
      intro x12 g10 e11 H
      exact zq_iret rfl H.1 (Exists.intro _ (Exists.intro _ (And.intro rfl H.2)))
    · have H := H.2 c
      refine zq_iload (pc' := 28) rfl rfl rfl rfl ?_
      refine zq_iload (pc' := 29) rfl rfl rfl rfl ?_
      refine zq_iceq (pc' := 32) rfl rfl rfl rfl (And.intro (fun c => ?_) (fun c => ?_))
      · have H := H.1 c
        refine zq_aload (pc' := 48) rfl rfl rfl rfl ?_
        refine zq_getR (pc' := 51) rfl rfl rfl (hp_gC rfl) ?_
        refine zq_ipush (pc' := 52) rfl rfl rfl ?_
        refine zq_dup2 (pc' := 53) rfl rfl rfl rfl rfl ?_
        refine zq_iald (pc' := 54) rfl rfl rfl (hp_ia rfl (by unfold hin; decide)) ?_
        refine zq_ipush (pc' := 55) rfl rfl rfl ?_
        refine zq_iadd (pc' := 56) rfl rfl rfl ?_
        refine zq_iast (pc' := 57) rfl rfl rfl (hp_is rfl (by unfold hin; decide)) ?_
        refine zq_ipush (pc' := 58) rfl rfl rfl ?_
        exact zq_iret rfl (Or.inl rfl) (Exists.intro _ (Exists.intro _ (And.intro rfl H)))
      · have H := H.2 c
        refine zq_aload (pc' := 33) rfl rfl rfl rfl ?_
        refine zq_getR (pc' := 36) rfl rfl rfl (hp_gC rfl) ?_
        refine zq_iload (pc' := 37) rfl rfl rfl rfl ?_
        obtain ⟨hi15, H⟩ := H
        refine zq_iald (pc' := 38) rfl rfl rfl (hp_ia rfl hi15) ?_
        refine zq_aload (pc' := 39) rfl rfl rfl rfl ?_
        refine zq_getR (pc' := 42) rfl rfl rfl (hp_gC rfl) ?_
        refine zq_iload (pc' := 43) rfl rfl rfl rfl ?_
        obtain ⟨hi16, H⟩ := H
        refine zq_iald (pc' := 44) rfl rfl rfl (hp_ia rfl hi16) ?_
        refine zq_iceq (pc' := 47) rfl rfl rfl rfl (And.intro (fun c => ?_) (fun c => ?_))
        · have H := H.1 c
          refine zq_aload (pc' := 60) rfl rfl rfl rfl ?_
          refine hq_callv (pc' := 63) rfl rfl rfl rfl rfl rfl h_Xi ?_
          refine hmonov H ?_
          intro g17 e18 H
          refine zq_ipush (pc' := 64) rfl rfl rfl ?_
          refine zq_istore_c (pc' := 65) rfl rfl ?_
          exact H
        · have H := H.2 c
          refine zq_aload (pc' := 48) rfl rfl rfl rfl ?_
          refine zq_getR (pc' := 51) rfl rfl rfl (hp_gC rfl) ?_
          refine zq_ipush (pc' := 52) rfl rfl rfl ?_
          refine zq_dup2 (pc' := 53) rfl rfl rfl rfl rfl ?_
          refine zq_iald (pc' := 54) rfl rfl rfl (hp_ia rfl (by unfold hin; decide)) ?_
          refine zq_ipush (pc' := 55) rfl rfl rfl ?_
          refine zq_iadd (pc' := 56) rfl rfl rfl ?_
          refine zq_iast (pc' := 57) rfl rfl rfl (hp_is rfl (by unfold hin; decide)) ?_
          refine zq_ipush (pc' := 58) rfl rfl rfl ?_
          exact zq_iret rfl (Or.inl rfl) (Exists.intro _ (Exists.intro _ (And.intro rfl H)))
theorem zh_X8_swap_65 {d : Nat} {k : Int32 → hG → hE → Prop} {X : Nat → hG → hE → Prop} {l1 : Int32} {l2 : Int32} {l3 : Int32} {g : hG} {e : hE} (H :
    zbr (16 ≤ l3)
    (hcv d 253 [.ref 1046, .int l1, .int 0] g e (fun g1 e2 =>
        hcv d 253 [.ref 1046, .int l2, .int 0] g1 e2 (fun g3 e4 =>
          k 1 g3 e4) X) X)
    (hin ((16 * l1) + l3) 64 ∧
      hin ((16 * l2) + l3) 64 ∧
      hin ((16 * l1) + l3) 64 ∧
      hin ((16 * l2) + l3) 64 ∧
      ∀ g9, g9 = sI (sI g 1060 ((16 * l1) + l3).toNatClampNeg (g.1 1060 ((16 * l2) + l3).toNatClampNeg)) 1060 ((16 * l2) + l3).toNatClampNeg (g.1 1060 ((16 * l1) + l3).toNatClampNeg) →
      hwi d zm_X8_swap k X 65 [(0, .ref 1046), (1, .int l1), (2, .int l2), (3, .int (l3 + 1))] g9 e)) : hwi d zm_X8_swap k X 65 [(0, .ref 1046), (1, .int l1), (2, .int l2), (3, .int l3)] g e := by
  refine zq_iload (pc' := 66) rfl rfl rfl rfl ?_
  refine zq_ipush (pc' := 68) rfl rfl rfl ?_
  refine zq_icge (pc' := 71) rfl rfl rfl rfl (And.intro (fun c => ?_) (fun c => ?_))
  · have H := H.1 c
    refine zq_aload (pc' := 126) rfl rfl rfl rfl ?_
    refine zq_iload (pc' := 127) rfl rfl rfl rfl ?_
    refine zq_ipush (pc' := 128) rfl rfl rfl ?_
    refine hq_callv (pc' := 131) rfl rfl rfl rfl rfl rfl h_Xi ?_
    refine hmonov H ?_
    intro g1 e2 H
    refine zq_aload (pc' := 132) rfl rfl rfl rfl ?_
    refine zq_iload (pc' := 133) rfl rfl rfl rfl ?_
    refine zq_ipush (pc' := 134) rfl rfl rfl ?_
    refine hq_callv (pc' := 137) rfl rfl rfl rfl rfl rfl h_Xi ?_
    refine hmonov H ?_
    intro g3 e4 H
    refine zq_ipush (pc' := 138) rfl rfl rfl ?_
    exact zq_iret rfl (Or.inr rfl) (Exists.intro _ (Exists.intro _ (And.intro rfl H)))
  · have H := H.2 c
    refine zq_aload (pc' := 72) rfl rfl rfl rfl ?_
    refine zq_getR (pc' := 75) rfl rfl rfl (hp_gC rfl) ?_
    refine zq_ipush (pc' := 77) rfl rfl rfl ?_
    refine zq_iload (pc' := 78) rfl rfl rfl rfl ?_
    refine zq_imul (pc' := 79) rfl rfl rfl ?_
    refine zq_iload (pc' := 80) rfl rfl rfl rfl ?_
    refine zq_iadd (pc' := 81) rfl rfl rfl ?_
    obtain ⟨hi5, H⟩ := H
    refine zq_iald (pc' := 82) rfl rfl rfl (hp_ia rfl hi5) ?_
    refine zq_istore (pc' := 84) rfl rfl rfl ?_
    refine zq_aload (pc' := 85) rfl rfl rfl rfl ?_
    refine zq_getR (pc' := 88) rfl rfl rfl (hp_gC rfl) ?_
    refine zq_ipush (pc' := 90) rfl rfl rfl ?_
    refine zq_iload (pc' := 91) rfl rfl rfl rfl ?_
    refine zq_imul (pc' := 92) rfl rfl rfl ?_
    refine zq_iload (pc' := 93) rfl rfl rfl rfl ?_
    refine zq_iadd (pc' := 94) rfl rfl rfl ?_
    refine zq_aload (pc' := 95) rfl rfl rfl rfl ?_
    refine zq_getR (pc' := 98) rfl rfl rfl (hp_gC rfl) ?_
    refine zq_ipush (pc' := 100) rfl rfl rfl ?_
    refine zq_iload (pc' := 101) rfl rfl rfl rfl ?_
    refine zq_imul (pc' := 102) rfl rfl rfl ?_
    refine zq_iload (pc' := 103) rfl rfl rfl rfl ?_
    refine zq_iadd (pc' := 104) rfl rfl rfl ?_
    obtain ⟨hi6, H⟩ := H
    refine zq_iald (pc' := 105) rfl rfl rfl (hp_ia rfl hi6) ?_
    obtain ⟨hi7, H⟩ := H
    refine zq_iast (pc' := 106) rfl rfl rfl (hp_is rfl hi7) ?_
    refine zq_aload (pc' := 107) rfl rfl rfl rfl ?_
    refine zq_getR (pc' := 110) rfl rfl rfl (hp_gC rfl) ?_
    refine zq_ipush (pc' := 112) rfl rfl rfl ?_
    refine zq_iload (pc' := 113) rfl rfl rfl rfl ?_
    refine zq_imul (pc' := 114) rfl rfl rfl ?_
    refine zq_iload (pc' := 115) rfl rfl rfl rfl ?_
    refine zq_iadd (pc' := 116) rfl rfl rfl ?_
    refine zq_iload (pc' := 118) rfl rfl rfl rfl ?_
    obtain ⟨hi8, H⟩ := H
    refine zq_iast (pc' := 119) rfl rfl rfl (hp_is rfl hi8) ?_
    have H := H _ rfl
    refine zq_iinc (pc' := 122) rfl rfl rfl rfl ?_
    refine zq_goto_c (pc' := 65) rfl rfl ?_
    exact H
theorem zh_X8_undo {d : Nat} {k : Int32 → hG → hE → Prop} {X : Nat → hG → hE → Prop}  {g : hG} {e : hE} (H :
    zbr (((sI g 1046 4 0).1 1046 32) = 0)
    (k (-1) (sI g 1046 4 0) e)
    (hcv d 250 [.ref 1046, .ref 1064, .int (137 * ((sI (sI g 1046 4 0) 1046 32 (((sI g 1046 4 0).1 1046 32) - 1)).1 1046 32))] (sI (sI g 1046 4 0) 1046 32 (((sI g 1046 4 0).1 1046 32) - 1)) e (fun g1 e2 =>
        k (g1.1 1046 32) g1 e2) X)) : hci (d + 1) 285 [.ref 1046] g e k X := by
  refine hent (M := zm_X8_undo) (show hT 1046 = some (.inr _) from rfl) rfl rfl rfl rfl rfl ?_
  refine zq_aload (pc' := 1) rfl rfl rfl rfl ?_
  refine zq_ipush (pc' := 2) rfl rfl rfl ?_
  refine zq_put (pc' := 5) rfl rfl rfl trivial (hp_sI rfl) ?_
  refine zq_aload (pc' := 6) rfl rfl rfl rfl ?_
  refine zq_getI (pc' := 9) rfl rfl rfl (hp_gI rfl) ?_
  refine zq_ifne (pc' := 12) rfl rfl rfl rfl (And.intro (fun c => ?_) (fun c => ?_))
  · have H := H.1 c
    refine zq_ipushn (pc' := 13) rfl rfl rfl ?_
    exact zq_iret rfl trivial (Exists.intro _ (Exists.intro _ (And.intro rfl H)))
  · have H := H.2 c
    refine zq_aload (pc' := 15) rfl rfl rfl rfl ?_
    refine zq_dup (pc' := 16) rfl rfl rfl rfl ?_
    refine zq_getI (pc' := 19) rfl rfl rfl (hp_gI rfl) ?_
    refine zq_ipush (pc' := 20) rfl rfl rfl ?_
    refine zq_isub (pc' := 21) rfl rfl rfl ?_
    refine zq_put (pc' := 24) rfl rfl rfl trivial (hp_sI rfl) ?_
    refine zq_aload (pc' := 25) rfl rfl rfl rfl ?_
    refine zq_aload (pc' := 26) rfl rfl rfl rfl ?_
    refine zq_getR (pc' := 29) rfl rfl rfl (hp_gC rfl) ?_
    refine zq_ipush (pc' := 32) rfl rfl rfl ?_
    refine zq_aload (pc' := 33) rfl rfl rfl rfl ?_
    refine zq_getI (pc' := 36) rfl rfl rfl (hp_gI rfl) ?_
    refine zq_imul (pc' := 37) rfl rfl rfl ?_
    refine hq_callv (pc' := 40) rfl rfl rfl rfl rfl rfl h_Xi ?_
    refine hmonov H ?_
    intro g1 e2 H
    refine zq_aload (pc' := 41) rfl rfl rfl rfl ?_
    refine zq_getI (pc' := 44) rfl rfl rfl (hp_gI rfl) ?_
    exact zq_iret rfl trivial (Exists.intro _ (Exists.intro _ (And.intro rfl H)))
theorem zh_X8_then {d : Nat} {k : Int32 → hG → hE → Prop} {X : Nat → hG → hE → Prop} {p1 : Int32} {p2 : Int32} {p3 : Int32} {g : hG} {e : hE} (H :
    hci d 220 [.ref 1046, .int p1] (sI g 1046 4 0) e (fun x3 g1 e2 =>
      zbr (x3 = 0)
      (hci d 215 [.ref 1046, .int 1] g1 e2 (fun x6 g4 e5 =>
          k x6 g4 e5) X)
      (hci d 217 [.long ((p3 : Int32).toInt64), .long 0, .long 4] g1 e2 (fun x9 g7 e8 =>
          zbr (x9 = 0)
          (hci d 215 [.ref 1046, .int 1] g7 e8 (fun x12 g10 e11 =>
              k x12 g10 e11) X)
          (hci d 217 [.long ((p2 : Int32).toInt64), .long 0, .long 60] g7 e8 (fun x15 g13 e14 =>
              zbr (x15 = 0)
              (hci d 215 [.ref 1046, .int 2] g13 e14 (fun x18 g16 e17 =>
                  k x18 g16 e17) X)
              (hcv d 249 [.ref 1046, .ref 1070, .int 0] g13 e14 (fun g19 e20 =>
                  hcv d 266 [.ref 1046] g19 e20 (fun g21 e22 =>
                    hcv d 265 [.ref 1046, .int p2] g21 e22 (fun g23 e24 =>
                      zbr (p3 = 0)
                      (hin p1 4 ∧
                        hcv d 250 [.ref 1046, .ref 1070, .int 0] g23 e24 (fun g26 e27 =>
                          k (g23.1 1063 p1.toNatClampNeg) g26 e27) X)
                      (zbr (p3 = 1)
                        (hin p1 4 ∧
                          hci d 219 [.int (g23.1 1063 p1.toNatClampNeg)] g23 e24 (fun x31 g29 e30 =>
                            hcv d 250 [.ref 1046, .ref 1070, .int 0] g29 e30 (fun g32 e33 =>
                              k x31 g32 e33) X) X)
                        (zbr (p3 = 2)
                          (hci d 255 [.ref 1046, .int p1] g23 e24 (fun x36 g34 e35 =>
                              hcv d 250 [.ref 1046, .ref 1070, .int 0] g34 e35 (fun g37 e38 =>
                                k x36 g37 e38) X) X)
                          (zbr (p3 = 3)
                            (hci d 269 [.ref 1046, .int p1, .int 0] g23 e24 (fun x41 g39 e40 =>
                                hcv d 250 [.ref 1046, .ref 1070, .int 0] g39 e40 (fun g42 e43 =>
                                  k x41 g42 e43) X) X)
                            (hin p1 4 ∧
                              hcv d 250 [.ref 1046, .ref 1070, .int 0] g23 e24 (fun g45 e46 =>
                                k (g23.1 1069 p1.toNatClampNeg) g45 e46) X))))) X) X) X)) X)) X)) X) : hci (d + 1) 286 [.ref 1046, .int p1, .int p2, .int p3] g e k X := by
  refine hent (M := zm_X8_then) (show hT 1046 = some (.inr _) from rfl) rfl rfl rfl rfl rfl ?_
  refine zq_aload (pc' := 1) rfl rfl rfl rfl ?_
  refine zq_ipush (pc' := 2) rfl rfl rfl ?_
  refine zq_put (pc' := 5) rfl rfl rfl trivial (hp_sI rfl) ?_
  refine zq_aload (pc' := 6) rfl rfl rfl rfl ?_
  refine zq_iload (pc' := 7) rfl rfl rfl rfl ?_
  refine hq_calli (pc' := 10) rfl rfl rfl rfl rfl rfl h_Xi ?_
  refine hmonoi H ?_
  intro x3 g1 e2 H
  refine zq_ifeq (pc' := 13) rfl rfl rfl rfl (And.intro (fun c => ?_) (fun c => ?_))
  · have H := H.1 c
    refine zq_aload (pc' := 26) rfl rfl rfl rfl ?_
    refine zq_ipush (pc' := 27) rfl rfl rfl ?_
    refine hq_calli (pc' := 30) rfl rfl rfl rfl rfl rfl h_Xi ?_
    refine hmonoi H ?_
    intro x6 g4 e5 H
    exact zq_iret rfl trivial (Exists.intro _ (Exists.intro _ (And.intro rfl H)))
  · have H := H.2 c
    refine zq_iload (pc' := 14) rfl rfl rfl rfl ?_
    refine zq_i2l (pc' := 15) rfl rfl rfl ?_
    refine zq_lpush (pc' := 16) rfl rfl rfl ?_
    refine zq_lpush (pc' := 19) rfl rfl rfl ?_
    refine hq_calli (pc' := 22) rfl rfl rfl rfl rfl rfl h_Xi ?_
    refine hmonoi H ?_
    intro x9 g7 e8 H
    refine zq_ifne (pc' := 25) rfl rfl rfl rfl (And.intro (fun c => ?_) (fun c => ?_))
    · have H := H.1 c
      refine zq_aload (pc' := 26) rfl rfl rfl rfl ?_
      refine zq_ipush (pc' := 27) rfl rfl rfl ?_
      refine hq_calli (pc' := 30) rfl rfl rfl rfl rfl rfl h_Xi ?_
      refine hmonoi H ?_
      intro x12 g10 e11 H
      exact zq_iret rfl trivial (Exists.intro _ (Exists.intro _ (And.intro rfl H)))
    · have H := H.2 c
      refine zq_iload (pc' := 32) rfl rfl rfl rfl ?_
      refine zq_i2l (pc' := 33) rfl rfl rfl ?_
      refine zq_lpush (pc' := 34) rfl rfl rfl ?_
      refine zq_lpush (pc' := 37) rfl rfl rfl ?_
      refine hq_calli (pc' := 40) rfl rfl rfl rfl rfl rfl h_Xi ?_
      refine hmonoi H ?_
      intro x15 g13 e14 H
      refine zq_ifne (pc' := 43) rfl rfl rfl rfl (And.intro (fun c => ?_) (fun c => ?_))
      · have H := H.1 c
        refine zq_aload (pc' := 44) rfl rfl rfl rfl ?_
        refine zq_ipush (pc' := 45) rfl rfl rfl ?_
        refine hq_calli (pc' := 48) rfl rfl rfl rfl rfl rfl h_Xi ?_
        refine hmonoi H ?_
        intro x18 g16 e17 H
        exact zq_iret rfl trivial (Exists.intro _ (Exists.intro _ (And.intro rfl H)))
      · have H := H.2 c
        refine zq_aload (pc' := 50) rfl rfl rfl rfl ?_
        refine zq_aload (pc' := 51) rfl rfl rfl rfl ?_
        refine zq_getR (pc' := 54) rfl rfl rfl (hp_gC rfl) ?_
        refine zq_ipush (pc' := 55) rfl rfl rfl ?_
        refine hq_callv (pc' := 58) rfl rfl rfl rfl rfl rfl h_Xi ?_
        refine hmonov H ?_
        intro g19 e20 H
        refine zq_aload (pc' := 59) rfl rfl rfl rfl ?_
        refine hq_callv (pc' := 62) rfl rfl rfl rfl rfl rfl h_Xi ?_
        refine hmonov H ?_
        intro g21 e22 H
        refine zq_aload (pc' := 63) rfl rfl rfl rfl ?_
        refine zq_iload (pc' := 64) rfl rfl rfl rfl ?_
        refine hq_callv (pc' := 67) rfl rfl rfl rfl rfl rfl h_Xi ?_
        refine hmonov H ?_
        intro g23 e24 H
        refine zq_iload (pc' := 68) rfl rfl rfl rfl ?_
        refine zq_ifne (pc' := 71) rfl rfl rfl rfl (And.intro (fun c => ?_) (fun c => ?_))
        · have H := H.1 c
          refine zq_aload (pc' := 72) rfl rfl rfl rfl ?_
          refine zq_getR (pc' := 75) rfl rfl rfl (hp_gC rfl) ?_
          refine zq_iload (pc' := 76) rfl rfl rfl rfl ?_
          obtain ⟨hi25, H⟩ := H
          refine zq_iald (pc' := 77) rfl rfl rfl (hp_ia rfl hi25) ?_
          refine zq_goto (pc' := 130) rfl rfl rfl ?_
          refine zq_istore (pc' := 132) rfl rfl rfl ?_
          refine zq_aload (pc' := 133) rfl rfl rfl rfl ?_
          refine zq_aload (pc' := 134) rfl rfl rfl rfl ?_
          refine zq_getR (pc' := 137) rfl rfl rfl (hp_gC rfl) ?_
          refine zq_ipush (pc' := 138) rfl rfl rfl ?_
          refine hq_callv (pc' := 141) rfl rfl rfl rfl rfl rfl h_Xi ?_
          refine hmonov H ?_
          intro g26 e27 H
          refine zq_iload (pc' := 143) rfl rfl rfl rfl ?_
          exact zq_iret rfl trivial (Exists.intro _ (Exists.intro _ (And.intro rfl H)))
        · have H := H.2 c
          refine zq_iload (pc' := 81) rfl rfl rfl rfl ?_
          refine zq_ipush (pc' := 82) rfl rfl rfl ?_
          refine zq_icne (pc' := 85) rfl rfl rfl rfl (And.intro (fun c => ?_) (fun c => ?_))
          · have H := H.1 c
            refine zq_aload (pc' := 86) rfl rfl rfl rfl ?_
            refine zq_getR (pc' := 89) rfl rfl rfl (hp_gC rfl) ?_
            refine zq_iload (pc' := 90) rfl rfl rfl rfl ?_
            obtain ⟨hi28, H⟩ := H
            refine zq_iald (pc' := 91) rfl rfl rfl (hp_ia rfl hi28) ?_
            refine hq_calli (pc' := 94) rfl rfl rfl rfl rfl rfl h_Xi ?_
            refine hmonoi H ?_
            intro x31 g29 e30 H
            refine zq_goto (pc' := 130) rfl rfl rfl ?_
            refine zq_istore (pc' := 132) rfl rfl rfl ?_
            refine zq_aload (pc' := 133) rfl rfl rfl rfl ?_
            refine zq_aload (pc' := 134) rfl rfl rfl rfl ?_
            refine zq_getR (pc' := 137) rfl rfl rfl (hp_gC rfl) ?_
            refine zq_ipush (pc' := 138) rfl rfl rfl ?_
            refine hq_callv (pc' := 141) rfl rfl rfl rfl rfl rfl h_Xi ?_
            refine hmonov H ?_
            intro g32 e33 H
            refine zq_iload (pc' := 143) rfl rfl rfl rfl ?_
            exact zq_iret rfl trivial (Exists.intro _ (Exists.intro _ (And.intro rfl H)))
          · have H := H.2 c
            refine zq_iload (pc' := 98) rfl rfl rfl rfl ?_
            refine zq_ipush (pc' := 99) rfl rfl rfl ?_
            refine zq_icne (pc' := 102) rfl rfl rfl rfl (And.intro (fun c => ?_) (fun c => ?_))
            · have H := H.1 c
              refine zq_aload (pc' := 103) rfl rfl rfl rfl ?_
              refine zq_iload (pc' := 104) rfl rfl rfl rfl ?_
              refine hq_calli (pc' := 107) rfl rfl rfl rfl rfl rfl h_Xi ?_
              refine hmonoi H ?_
              intro x36 g34 e35 H
              refine zq_goto (pc' := 130) rfl rfl rfl ?_
              refine zq_istore (pc' := 132) rfl rfl rfl ?_
              refine zq_aload (pc' := 133) rfl rfl rfl rfl ?_
              refine zq_aload (pc' := 134) rfl rfl rfl rfl ?_
              refine zq_getR (pc' := 137) rfl rfl rfl (hp_gC rfl) ?_
              refine zq_ipush (pc' := 138) rfl rfl rfl ?_
              refine hq_callv (pc' := 141) rfl rfl rfl rfl rfl rfl h_Xi ?_
              refine hmonov H ?_
              intro g37 e38 H
              refine zq_iload (pc' := 143) rfl rfl rfl rfl ?_
              exact zq_iret rfl trivial (Exists.intro _ (Exists.intro _ (And.intro rfl H)))
            · have H := H.2 c
              refine zq_iload (pc' := 111) rfl rfl rfl rfl ?_
              refine zq_ipush (pc' := 112) rfl rfl rfl ?_
              refine zq_icne (pc' := 115) rfl rfl rfl rfl (And.intro (fun c => ?_) (fun c => ?_))
              · have H := H.1 c
                refine zq_aload (pc' := 116) rfl rfl rfl rfl ?_
                refine zq_iload (pc' := 117) rfl rfl rfl rfl ?_
                refine zq_ipush (pc' := 118) rfl rfl rfl ?_
                refine hq_calli (pc' := 121) rfl rfl rfl rfl rfl rfl h_Xi ?_
                refine hmonoi H ?_
                intro x41 g39 e40 H
                refine zq_goto (pc' := 130) rfl rfl rfl ?_
                refine zq_istore (pc' := 132) rfl rfl rfl ?_
                refine zq_aload (pc' := 133) rfl rfl rfl rfl ?_
                refine zq_aload (pc' := 134) rfl rfl rfl rfl ?_
                refine zq_getR (pc' := 137) rfl rfl rfl (hp_gC rfl) ?_
                refine zq_ipush (pc' := 138) rfl rfl rfl ?_
                refine hq_callv (pc' := 141) rfl rfl rfl rfl rfl rfl h_Xi ?_
                refine hmonov H ?_
                intro g42 e43 H
                refine zq_iload (pc' := 143) rfl rfl rfl rfl ?_
                exact zq_iret rfl trivial (Exists.intro _ (Exists.intro _ (And.intro rfl H)))
              · have H := H.2 c
                refine zq_aload (pc' := 125) rfl rfl rfl rfl ?_
                refine zq_getR (pc' := 128) rfl rfl rfl (hp_gC rfl) ?_
                refine zq_iload (pc' := 129) rfl rfl rfl rfl ?_
                obtain ⟨hi44, H⟩ := H
                refine zq_iald (pc' := 130) rfl rfl rfl (hp_ia rfl hi44) ?_
                refine zq_istore (pc' := 132) rfl rfl rfl ?_
                refine zq_aload (pc' := 133) rfl rfl rfl rfl ?_
                refine zq_aload (pc' := 134) rfl rfl rfl rfl ?_
                refine zq_getR (pc' := 137) rfl rfl rfl (hp_gC rfl) ?_
                refine zq_ipush (pc' := 138) rfl rfl rfl ?_
                refine hq_callv (pc' := 141) rfl rfl rfl rfl rfl rfl h_Xi ?_
                refine hmonov H ?_
                intro g45 e46 H
                refine zq_iload (pc' := 143) rfl rfl rfl rfl ?_
                exact zq_iret rfl trivial (Exists.intro _ (Exists.intro _ (And.intro rfl H)))
theorem zh_X8_firstBurst {d : Nat} {k : Int32 → hG → hE → Prop} {X : Nat → hG → hE → Prop} {p1 : Int32} {p2 : Int32} {g : hG} {e : hE} (H :
    hcv d 249 [.ref 1046, .ref 1070, .int 0] g e (fun g1 e2 =>
      hwi d zm_X8_firstBurst k X 14 [(0, .ref 1046), (1, .int p1), (2, .int p2), (3, .int (-1)), (4, .int 1)] g1 e2) X) : hci (d + 1) 287 [.ref 1046, .int p1, .int p2] g e k X := by
  refine hent (M := zm_X8_firstBurst) (show hT 1046 = some (.inr _) from rfl) rfl rfl rfl rfl rfl ?_
  refine zq_aload (pc' := 1) rfl rfl rfl rfl ?_
  refine zq_aload (pc' := 2) rfl rfl rfl rfl ?_
  refine zq_getR (pc' := 5) rfl rfl rfl (hp_gC rfl) ?_
  refine zq_ipush (pc' := 6) rfl rfl rfl ?_
  refine hq_callv (pc' := 9) rfl rfl rfl rfl rfl rfl h_Xi ?_
  refine hmonov H ?_
  intro g1 e2 H
  refine zq_ipushn (pc' := 10) rfl rfl rfl ?_
  refine zq_istore (pc' := 11) rfl rfl rfl ?_
  refine zq_ipush (pc' := 12) rfl rfl rfl ?_
  refine zq_istore_c (pc' := 14) rfl rfl ?_
  exact H
theorem zh_X8_firstBurst_14 {d : Nat} {k : Int32 → hG → hE → Prop} {X : Nat → hG → hE → Prop} {l1 : Int32} {l2 : Int32} {l3 : Int32} {l4 : Int32} {g : hG} {e : hE} (H :
    zbr (60 < l4)
    (hcv d 250 [.ref 1046, .ref 1070, .int 0] g e (fun g1 e2 =>
        k l3 g1 e2) X)
    (zbr (l3 = (-1))
      (hcv d 265 [.ref 1046, .int 1] g e (fun g3 e4 =>
          hin l1 4 ∧
          zbr ((g3.1 1067 l1.toNatClampNeg) = 0)
          (hwi d zm_X8_firstBurst k X 14 [(0, .ref 1046), (1, .int l1), (2, .int l2), (3, .int l3), (4, .int (l4 + 1))] g3 e4)
          (zbr (l2 = 0)
            (hwi d zm_X8_firstBurst k X 14 [(0, .ref 1046), (1, .int l1), (2, .int l2), (3, .int l4), (4, .int (l4 + 1))] g3 e4)
            (hin l1 4 ∧
              hwi d zm_X8_firstBurst k X 14 [(0, .ref 1046), (1, .int l1), (2, .int l2), (3, .int (g3.1 1068 l1.toNatClampNeg)), (4, .int (l4 + 1))] g3 e4))) X)
      (hcv d 250 [.ref 1046, .ref 1070, .int 0] g e (fun g7 e8 =>
          k l3 g7 e8) X))) : hwi d zm_X8_firstBurst k X 14 [(0, .ref 1046), (1, .int l1), (2, .int l2), (3, .int l3), (4, .int l4)] g e := by
  refine zq_iload (pc' := 16) rfl rfl rfl rfl ?_
  refine zq_ipush (pc' := 18) rfl rfl rfl ?_
  refine zq_icgt (pc' := 21) rfl rfl rfl rfl (And.intro (fun c => ?_) (fun c => ?_))
  · have H := H.1 c
    refine zq_aload (pc' := 63) rfl rfl rfl rfl ?_
    refine zq_aload (pc' := 64) rfl rfl rfl rfl ?_
    refine zq_getR (pc' := 67) rfl rfl rfl (hp_gC rfl) ?_
    refine zq_ipush (pc' := 68) rfl rfl rfl ?_
    refine hq_callv (pc' := 71) rfl rfl rfl rfl rfl rfl h_Xi ?_
    refine hmonov H ?_
    intro g1 e2 H
    refine zq_iload (pc' := 72) rfl rfl rfl rfl ?_
    exact zq_iret rfl trivial (Exists.intro _ (Exists.intro _ (And.intro rfl H)))
  · have H := H.2 c
    refine zq_iload (pc' := 22) rfl rfl rfl rfl ?_
    refine zq_ipushn (pc' := 23) rfl rfl rfl ?_
    refine zq_icne (pc' := 26) rfl rfl rfl rfl (And.intro (fun c => ?_) (fun c => ?_))
    · have H := H.1 c
      refine zq_aload (pc' := 27) rfl rfl rfl rfl ?_
      refine zq_ipush (pc' := 28) rfl rfl rfl ?_
      refine hq_callv (pc' := 31) rfl rfl rfl rfl rfl rfl h_Xi ?_
      refine hmonov H ?_
      intro g3 e4 H
      refine zq_aload (pc' := 32) rfl rfl rfl rfl ?_
      refine zq_getR (pc' := 35) rfl rfl rfl (hp_gC rfl) ?_
      refine zq_iload (pc' := 36) rfl rfl rfl rfl ?_
      obtain ⟨hi5, H⟩ := H
      refine zq_iald (pc' := 37) rfl rfl rfl (hp_ia rfl hi5) ?_
      refine zq_ifeq (pc' := 40) rfl rfl rfl rfl (And.intro (fun c => ?_) (fun c => ?_))
      · have H := H.1 c
        refine zq_iinc (pc' := 59) rfl rfl rfl rfl ?_
        refine zq_goto_c (pc' := 14) rfl rfl ?_
        exact H
      · have H := H.2 c
        refine zq_iload (pc' := 41) rfl rfl rfl rfl ?_
        refine zq_ifeq (pc' := 44) rfl rfl rfl rfl (And.intro (fun c => ?_) (fun c => ?_))
        · have H := H.1 c
          refine zq_iload (pc' := 55) rfl rfl rfl rfl ?_
          refine zq_istore (pc' := 56) rfl rfl rfl ?_
          refine zq_iinc (pc' := 59) rfl rfl rfl rfl ?_
          refine zq_goto_c (pc' := 14) rfl rfl ?_
          exact H
        · have H := H.2 c
          refine zq_aload (pc' := 45) rfl rfl rfl rfl ?_
          refine zq_getR (pc' := 48) rfl rfl rfl (hp_gC rfl) ?_
          refine zq_iload (pc' := 49) rfl rfl rfl rfl ?_
          obtain ⟨hi6, H⟩ := H
          refine zq_iald (pc' := 50) rfl rfl rfl (hp_ia rfl hi6) ?_
          refine zq_goto (pc' := 55) rfl rfl rfl ?_
          refine zq_istore (pc' := 56) rfl rfl rfl ?_
          refine zq_iinc (pc' := 59) rfl rfl rfl rfl ?_
          refine zq_goto_c (pc' := 14) rfl rfl ?_
          exact H
    · have H := H.2 c
      refine zq_aload (pc' := 63) rfl rfl rfl rfl ?_
      refine zq_aload (pc' := 64) rfl rfl rfl rfl ?_
      refine zq_getR (pc' := 67) rfl rfl rfl (hp_gC rfl) ?_
      refine zq_ipush (pc' := 68) rfl rfl rfl ?_
      refine hq_callv (pc' := 71) rfl rfl rfl rfl rfl rfl h_Xi ?_
      refine hmonov H ?_
      intro g7 e8 H
      refine zq_iload (pc' := 72) rfl rfl rfl rfl ?_
      exact zq_iret rfl trivial (Exists.intro _ (Exists.intro _ (And.intro rfl H)))
theorem zh_X8_goneIn {d : Nat} {k : Int32 → hG → hE → Prop} {X : Nat → hG → hE → Prop} {p1 : Int32} {g : hG} {e : hE} (H :
    hcv d 249 [.ref 1046, .ref 1070, .int 0] g e (fun g1 e2 =>
      hwi d zm_X8_goneIn k X 13 [(0, .ref 1046), (1, .int p1), (2, .int (-1)), (3, .int 0)] g1 e2) X) : hci (d + 1) 288 [.ref 1046, .int p1] g e k X := by
  refine hent (M := zm_X8_goneIn) (show hT 1046 = some (.inr _) from rfl) rfl rfl rfl rfl rfl ?_
  refine zq_aload (pc' := 1) rfl rfl rfl rfl ?_
  refine zq_aload (pc' := 2) rfl rfl rfl rfl ?_
  refine zq_getR (pc' := 5) rfl rfl rfl (hp_gC rfl) ?_
  refine zq_ipush (pc' := 6) rfl rfl rfl ?_
  refine hq_callv (pc' := 9) rfl rfl rfl rfl rfl rfl h_Xi ?_
  refine hmonov H ?_
  intro g1 e2 H
  refine zq_ipushn (pc' := 10) rfl rfl rfl ?_
  refine zq_istore (pc' := 11) rfl rfl rfl ?_
  refine zq_ipush (pc' := 12) rfl rfl rfl ?_
  refine zq_istore_c (pc' := 13) rfl rfl ?_
  exact H
theorem zh_X8_goneIn_13 {d : Nat} {k : Int32 → hG → hE → Prop} {X : Nat → hG → hE → Prop} {l1 : Int32} {l2 : Int32} {l3 : Int32} {g : hG} {e : hE} (H :
    zbr (60 < l3)
    (hcv d 250 [.ref 1046, .ref 1070, .int 0] g e (fun g1 e2 =>
        k l2 g1 e2) X)
    (zbr (l2 = (-1))
      (hin l1 4 ∧
        zbr ((g.1 1063 l1.toNatClampNeg) = 0)
        (hcv d 265 [.ref 1046, .int 1] g e (fun g4 e5 =>
            hwi d zm_X8_goneIn k X 13 [(0, .ref 1046), (1, .int l1), (2, .int l3), (3, .int (l3 + 1))] g4 e5) X)
        (hcv d 265 [.ref 1046, .int 1] g e (fun g6 e7 =>
            hwi d zm_X8_goneIn k X 13 [(0, .ref 1046), (1, .int l1), (2, .int l2), (3, .int (l3 + 1))] g6 e7) X))
      (hcv d 250 [.ref 1046, .ref 1070, .int 0] g e (fun g8 e9 =>
          k l2 g8 e9) X))) : hwi d zm_X8_goneIn k X 13 [(0, .ref 1046), (1, .int l1), (2, .int l2), (3, .int l3)] g e := by
  refine zq_iload (pc' := 14) rfl rfl rfl rfl ?_
  refine zq_ipush (pc' := 16) rfl rfl rfl ?_
  refine zq_icgt (pc' := 19) rfl rfl rfl rfl (And.intro (fun c => ?_) (fun c => ?_))
  · have H := H.1 c
    refine zq_aload (pc' := 47) rfl rfl rfl rfl ?_
    refine zq_aload (pc' := 48) rfl rfl rfl rfl ?_
    refine zq_getR (pc' := 51) rfl rfl rfl (hp_gC rfl) ?_
    refine zq_ipush (pc' := 52) rfl rfl rfl ?_
    refine hq_callv (pc' := 55) rfl rfl rfl rfl rfl rfl h_Xi ?_
    refine hmonov H ?_
    intro g1 e2 H
    refine zq_iload (pc' := 56) rfl rfl rfl rfl ?_
    exact zq_iret rfl trivial (Exists.intro _ (Exists.intro _ (And.intro rfl H)))
  · have H := H.2 c
    refine zq_iload (pc' := 20) rfl rfl rfl rfl ?_
    refine zq_ipushn (pc' := 21) rfl rfl rfl ?_
    refine zq_icne (pc' := 24) rfl rfl rfl rfl (And.intro (fun c => ?_) (fun c => ?_))
    · have H := H.1 c
      refine zq_aload (pc' := 25) rfl rfl rfl rfl ?_
      refine zq_getR (pc' := 28) rfl rfl rfl (hp_gC rfl) ?_
      refine zq_iload (pc' := 29) rfl rfl rfl rfl ?_
      obtain ⟨hi3, H⟩ := H
      refine zq_iald (pc' := 30) rfl rfl rfl (hp_ia rfl hi3) ?_
      refine zq_ifne (pc' := 33) rfl rfl rfl rfl (And.intro (fun c => ?_) (fun c => ?_))
      · have H := H.1 c
        refine zq_iload (pc' := 34) rfl rfl rfl rfl ?_
        refine zq_istore (pc' := 35) rfl rfl rfl ?_
        refine zq_aload (pc' := 36) rfl rfl rfl rfl ?_
        refine zq_ipush (pc' := 37) rfl rfl rfl ?_
        refine hq_callv (pc' := 40) rfl rfl rfl rfl rfl rfl h_Xi ?_
        refine hmonov H ?_
        intro g4 e5 H
        refine zq_iinc (pc' := 43) rfl rfl rfl rfl ?_
        refine zq_goto_c (pc' := 13) rfl rfl ?_
        exact H
      · have H := H.2 c
        refine zq_aload (pc' := 36) rfl rfl rfl rfl ?_
        refine zq_ipush (pc' := 37) rfl rfl rfl ?_
        refine hq_callv (pc' := 40) rfl rfl rfl rfl rfl rfl h_Xi ?_
        refine hmonov H ?_
        intro g6 e7 H
        refine zq_iinc (pc' := 43) rfl rfl rfl rfl ?_
        refine zq_goto_c (pc' := 13) rfl rfl ?_
        exact H
    · have H := H.2 c
      refine zq_aload (pc' := 47) rfl rfl rfl rfl ?_
      refine zq_aload (pc' := 48) rfl rfl rfl rfl ?_
      refine zq_getR (pc' := 51) rfl rfl rfl (hp_gC rfl) ?_
      refine zq_ipush (pc' := 52) rfl rfl rfl ?_
      refine hq_callv (pc' := 55) rfl rfl rfl rfl rfl rfl h_Xi ?_
      refine hmonov H ?_
      intro g8 e9 H
      refine zq_iload (pc' := 56) rfl rfl rfl rfl ?_
      exact zq_iret rfl trivial (Exists.intro _ (Exists.intro _ (And.intro rfl H)))
theorem zh_X8_when {d : Nat} {k : Int32 → hG → hE → Prop} {X : Nat → hG → hE → Prop} {p1 : Int32} {p2 : Int32} {g : hG} {e : hE} (H :
    hci d 220 [.ref 1046, .int p1] (sI g 1046 4 0) e (fun x3 g1 e2 =>
      zbr (x3 = 0)
      (hci d 215 [.ref 1046, .int 1] g1 e2 (fun x6 g4 e5 =>
          k x6 g4 e5) X)
      (hci d 217 [.long ((p2 : Int32).toInt64), .long 0, .long 2] g1 e2 (fun x9 g7 e8 =>
          zbr (x9 = 0)
          (hci d 215 [.ref 1046, .int 1] g7 e8 (fun x12 g10 e11 =>
              k x12 g10 e11) X)
          (zbr (p2 = 2)
            (hci d 288 [.ref 1046, .int p1] g7 e8 (fun x15 g13 e14 =>
                k x15 g13 e14) X)
            (zbr (p2 = 1)
              (hci d 287 [.ref 1046, .int p1, .int 1] g7 e8 (fun x18 g16 e17 =>
                  k x18 g16 e17) X)
              (hci d 287 [.ref 1046, .int p1, .int 0] g7 e8 (fun x21 g19 e20 =>
                  k x21 g19 e20) X)))) X)) X) : hci (d + 1) 289 [.ref 1046, .int p1, .int p2] g e k X := by
  refine hent (M := zm_X8_when) (show hT 1046 = some (.inr _) from rfl) rfl rfl rfl rfl rfl ?_
  refine zq_aload (pc' := 1) rfl rfl rfl rfl ?_
  refine zq_ipush (pc' := 2) rfl rfl rfl ?_
  refine zq_put (pc' := 5) rfl rfl rfl trivial (hp_sI rfl) ?_
  refine zq_aload (pc' := 6) rfl rfl rfl rfl ?_
  refine zq_iload (pc' := 7) rfl rfl rfl rfl ?_
  refine hq_calli (pc' := 10) rfl rfl rfl rfl rfl rfl h_Xi ?_
  refine hmonoi H ?_
  intro x3 g1 e2 H
  refine zq_ifeq (pc' := 13) rfl rfl rfl rfl (And.intro (fun c => ?_) (fun c => ?_))
  · have H := H.1 c
    refine zq_aload (pc' := 26) rfl rfl rfl rfl ?_
    refine zq_ipush (pc' := 27) rfl rfl rfl ?_
    refine hq_calli (pc' := 30) rfl rfl rfl rfl rfl rfl h_Xi ?_
    refine hmonoi H ?_
    intro x6 g4 e5 H
    exact zq_iret rfl trivial (Exists.intro _ (Exists.intro _ (And.intro rfl H)))
  · have H := H.2 c
    refine zq_iload (pc' := 14) rfl rfl rfl rfl ?_
    refine zq_i2l (pc' := 15) rfl rfl rfl ?_
    refine zq_lpush (pc' := 16) rfl rfl rfl ?_
    refine zq_lpush (pc' := 19) rfl rfl rfl ?_
    refine hq_calli (pc' := 22) rfl rfl rfl rfl rfl rfl h_Xi ?_
    refine hmonoi H ?_
    intro x9 g7 e8 H
    refine zq_ifne (pc' := 25) rfl rfl rfl rfl (And.intro (fun c => ?_) (fun c => ?_))
    · have H := H.1 c
      refine zq_aload (pc' := 26) rfl rfl rfl rfl ?_
      refine zq_ipush (pc' := 27) rfl rfl rfl ?_
      refine hq_calli (pc' := 30) rfl rfl rfl rfl rfl rfl h_Xi ?_
      refine hmonoi H ?_
      intro x12 g10 e11 H
      exact zq_iret rfl trivial (Exists.intro _ (Exists.intro _ (And.intro rfl H)))
    · have H := H.2 c
      refine zq_iload (pc' := 32) rfl rfl rfl rfl ?_
      refine zq_ipush (pc' := 33) rfl rfl rfl ?_
      refine zq_icne (pc' := 36) rfl rfl rfl rfl (And.intro (fun c => ?_) (fun c => ?_))
      · have H := H.1 c
        refine zq_aload (pc' := 37) rfl rfl rfl rfl ?_
        refine zq_iload (pc' := 38) rfl rfl rfl rfl ?_
        refine hq_calli (pc' := 41) rfl rfl rfl rfl rfl rfl h_Xi ?_
        refine hmonoi H ?_
        intro x15 g13 e14 H
        refine zq_goto (pc' := 59) rfl rfl rfl ?_
        exact zq_iret rfl trivial (Exists.intro _ (Exists.intro _ (And.intro rfl H)))
      · have H := H.2 c
        refine zq_aload (pc' := 45) rfl rfl rfl rfl ?_
        refine zq_iload (pc' := 46) rfl rfl rfl rfl ?_
        refine zq_iload (pc' := 47) rfl rfl rfl rfl ?_
        refine zq_ipush (pc' := 48) rfl rfl rfl ?_
        refine zq_icne (pc' := 51) rfl rfl rfl rfl (And.intro (fun c => ?_) (fun c => ?_))
        · have H := H.1 c
          refine zq_ipush (pc' := 52) rfl rfl rfl ?_
          refine zq_goto (pc' := 56) rfl rfl rfl ?_
          refine hq_calli (pc' := 59) rfl rfl rfl rfl rfl rfl h_Xi ?_
          refine hmonoi H ?_
          intro x18 g16 e17 H
          exact zq_iret rfl trivial (Exists.intro _ (Exists.intro _ (And.intro rfl H)))
        · have H := H.2 c
          refine zq_ipush (pc' := 56) rfl rfl rfl ?_
          refine hq_calli (pc' := 59) rfl rfl rfl rfl rfl rfl h_Xi ?_
          refine hmonoi H ?_
          intro x21 g19 e20 H
          exact zq_iret rfl trivial (Exists.intro _ (Exists.intro _ (And.intro rfl H)))
theorem zh_X8_bursts {d : Nat} {k : Int32 → hG → hE → Prop} {X : Nat → hG → hE → Prop} {p1 : Int32} {p2 : Int32} {g : hG} {e : hE} (H :
    hci d 221 [.ref 1046, .int p1, .int p2] (sI g 1046 4 0) e (fun x3 g1 e2 =>
      zbr (x3 = 0)
      (hci d 215 [.ref 1046, .int 1] g1 e2 (fun x6 g4 e5 =>
          k x6 g4 e5) X)
      (hcv d 249 [.ref 1046, .ref 1070, .int 0] g1 e2 (fun g7 e8 =>
          hwi d zm_X8_bursts k X 34 [(0, .ref 1046), (1, .int p1), (2, .int p2), (3, .int (-1)), (4, .int 1)] g7 e8) X)) X) : hci (d + 1) 290 [.ref 1046, .int p1, .int p2] g e k X := by
  refine hent (M := zm_X8_bursts) (show hT 1046 = some (.inr _) from rfl) rfl rfl rfl rfl rfl ?_
  refine zq_aload (pc' := 1) rfl rfl rfl rfl ?_
  refine zq_ipush (pc' := 2) rfl rfl rfl ?_
  refine zq_put (pc' := 5) rfl rfl rfl trivial (hp_sI rfl) ?_
  refine zq_aload (pc' := 6) rfl rfl rfl rfl ?_
  refine zq_iload (pc' := 7) rfl rfl rfl rfl ?_
  refine zq_iload (pc' := 8) rfl rfl rfl rfl ?_
  refine hq_calli (pc' := 11) rfl rfl rfl rfl rfl rfl h_Xi ?_
  refine hmonoi H ?_
  intro x3 g1 e2 H
  refine zq_ifne (pc' := 14) rfl rfl rfl rfl (And.intro (fun c => ?_) (fun c => ?_))
  · have H := H.1 c
    refine zq_aload (pc' := 15) rfl rfl rfl rfl ?_
    refine zq_ipush (pc' := 16) rfl rfl rfl ?_
    refine hq_calli (pc' := 19) rfl rfl rfl rfl rfl rfl h_Xi ?_
    refine hmonoi H ?_
    intro x6 g4 e5 H
    exact zq_iret rfl trivial (Exists.intro _ (Exists.intro _ (And.intro rfl H)))
  · have H := H.2 c
    refine zq_aload (pc' := 21) rfl rfl rfl rfl ?_
    refine zq_aload (pc' := 22) rfl rfl rfl rfl ?_
    refine zq_getR (pc' := 25) rfl rfl rfl (hp_gC rfl) ?_
    refine zq_ipush (pc' := 26) rfl rfl rfl ?_
    refine hq_callv (pc' := 29) rfl rfl rfl rfl rfl rfl h_Xi ?_
    refine hmonov H ?_
    intro g7 e8 H
    refine zq_ipushn (pc' := 30) rfl rfl rfl ?_
    refine zq_istore (pc' := 31) rfl rfl rfl ?_
    refine zq_ipush (pc' := 32) rfl rfl rfl ?_
    refine zq_istore_c (pc' := 34) rfl rfl ?_
    exact H
theorem zh_X8_bursts_34 {d : Nat} {k : Int32 → hG → hE → Prop} {X : Nat → hG → hE → Prop} {l1 : Int32} {l2 : Int32} {l3 : Int32} {l4 : Int32} {g : hG} {e : hE} (H :
    zbr (60 < l4)
    (hcv d 250 [.ref 1046, .ref 1070, .int 0] g e (fun g1 e2 =>
        k l3 g1 e2) X)
    (zbr (l3 = (-1))
      (hcv d 265 [.ref 1046, .int 1] g e (fun g3 e4 =>
          hin l1 4 ∧
          hci d 218 [.int (g3.1 1067 l1.toNatClampNeg), .int l2] g3 e4 (fun x8 g6 e7 =>
            zbr (x8 = 0)
            (hwi d zm_X8_bursts k X 34 [(0, .ref 1046), (1, .int l1), (2, .int l2), (3, .int l3), (4, .int (l4 + 1))] g6 e7)
            (hwi d zm_X8_bursts k X 34 [(0, .ref 1046), (1, .int l1), (2, .int l2), (3, .int l4), (4, .int (l4 + 1))] g6 e7)) X) X)
      (hcv d 250 [.ref 1046, .ref 1070, .int 0] g e (fun g9 e10 =>
          k l3 g9 e10) X))) : hwi d zm_X8_bursts k X 34 [(0, .ref 1046), (1, .int l1), (2, .int l2), (3, .int l3), (4, .int l4)] g e := by
  refine zq_iload (pc' := 36) rfl rfl rfl rfl ?_
  refine zq_ipush (pc' := 38) rfl rfl rfl ?_
  refine zq_icgt (pc' := 41) rfl rfl rfl rfl (And.intro (fun c => ?_) (fun c => ?_))
  · have H := H.1 c
    refine zq_aload (pc' := 74) rfl rfl rfl rfl ?_
    refine zq_aload (pc' := 75) rfl rfl rfl rfl ?_
    refine zq_getR (pc' := 78) rfl rfl rfl (hp_gC rfl) ?_
    refine zq_ipush (pc' := 79) rfl rfl rfl ?_
    refine hq_callv (pc' := 82) rfl rfl rfl rfl rfl rfl h_Xi ?_
    refine hmonov H ?_
    intro g1 e2 H
    refine zq_iload (pc' := 83) rfl rfl rfl rfl ?_
    exact zq_iret rfl trivial (Exists.intro _ (Exists.intro _ (And.intro rfl H)))
  · have H := H.2 c
    refine zq_iload (pc' := 42) rfl rfl rfl rfl ?_
    refine zq_ipushn (pc' := 43) rfl rfl rfl ?_
    refine zq_icne (pc' := 46) rfl rfl rfl rfl (And.intro (fun c => ?_) (fun c => ?_))
    · have H := H.1 c
      refine zq_aload (pc' := 47) rfl rfl rfl rfl ?_
      refine zq_ipush (pc' := 48) rfl rfl rfl ?_
      refine hq_callv (pc' := 51) rfl rfl rfl rfl rfl rfl h_Xi ?_
      refine hmonov H ?_
      intro g3 e4 H
      refine zq_aload (pc' := 52) rfl rfl rfl rfl ?_
      refine zq_getR (pc' := 55) rfl rfl rfl (hp_gC rfl) ?_
      refine zq_iload (pc' := 56) rfl rfl rfl rfl ?_
      obtain ⟨hi5, H⟩ := H
      refine zq_iald (pc' := 57) rfl rfl rfl (hp_ia rfl hi5) ?_
      refine zq_iload (pc' := 58) rfl rfl rfl rfl ?_
      refine hq_calli (pc' := 61) rfl rfl rfl rfl rfl rfl h_Xi ?_
      refine hmonoi H ?_
      intro x8 g6 e7 H
      refine zq_ifeq (pc' := 64) rfl rfl rfl rfl (And.intro (fun c => ?_) (fun c => ?_))
      · have H := H.1 c
        refine zq_iinc (pc' := 70) rfl rfl rfl rfl ?_
        refine zq_goto_c (pc' := 34) rfl rfl ?_
        exact H
      · have H := H.2 c
        refine zq_iload (pc' := 66) rfl rfl rfl rfl ?_
        refine zq_istore (pc' := 67) rfl rfl rfl ?_
        refine zq_iinc (pc' := 70) rfl rfl rfl rfl ?_
        refine zq_goto_c (pc' := 34) rfl rfl ?_
        exact H
    · have H := H.2 c
      refine zq_aload (pc' := 74) rfl rfl rfl rfl ?_
      refine zq_aload (pc' := 75) rfl rfl rfl rfl ?_
      refine zq_getR (pc' := 78) rfl rfl rfl (hp_gC rfl) ?_
      refine zq_ipush (pc' := 79) rfl rfl rfl ?_
      refine hq_callv (pc' := 82) rfl rfl rfl rfl rfl rfl h_Xi ?_
      refine hmonov H ?_
      intro g9 e10 H
      refine zq_iload (pc' := 83) rfl rfl rfl rfl ?_
      exact zq_iret rfl trivial (Exists.intro _ (Exists.intro _ (And.intro rfl H)))
theorem zh_X8_bestZip {d : Nat} {k : Int32 → hG → hE → Prop} {X : Nat → hG → hE → Prop}  {g : hG} {e : hE} (H :
    hwi d zm_X8_bestZip k X 4 [(0, .ref 1046), (1, .int (-1)), (2, .int 0)] g e) : hci (d + 1) 291 [.ref 1046] g e k X := by
  refine hent (M := zm_X8_bestZip) (show hT 1046 = some (.inr _) from rfl) rfl rfl rfl rfl rfl ?_
  refine zq_ipushn (pc' := 1) rfl rfl rfl ?_
  refine zq_istore (pc' := 2) rfl rfl rfl ?_
  refine zq_ipush (pc' := 3) rfl rfl rfl ?_
  refine zq_istore_c (pc' := 4) rfl rfl ?_
  exact H
theorem zh_X8_bestZip_4 {d : Nat} {k : Int32 → hG → hE → Prop} {X : Nat → hG → hE → Prop} {l1 : Int32} {l2 : Int32} {g : hG} {e : hE} (H :
    zbr ((g.1 1050 0) ≤ l2)
    (k l1 g e)
    (zbr (l1 = (-1))
      (hwi d zm_X8_bestZip k X 4 [(0, .ref 1046), (1, .int l2), (2, .int (l2 + 1))] g e)
      (hin l2 4 ∧
        hci d 219 [.int (g.1 1063 l2.toNatClampNeg)] g e (fun x5 g3 e4 =>
          hin l1 4 ∧
          hci d 219 [.int (g3.1 1063 l1.toNatClampNeg)] g3 e4 (fun x9 g7 e8 =>
            zbr (x5 ≤ x9)
            (hwi d zm_X8_bestZip k X 4 [(0, .ref 1046), (1, .int l1), (2, .int (l2 + 1))] g7 e8)
            (hwi d zm_X8_bestZip k X 4 [(0, .ref 1046), (1, .int l2), (2, .int (l2 + 1))] g7 e8)) X) X))) : hwi d zm_X8_bestZip k X 4 [(0, .ref 1046), (1, .int l1), (2, .int l2)] g e := by
  refine zq_iload (pc' := 5) rfl rfl rfl rfl ?_
  refine zq_aload (pc' := 6) rfl rfl rfl rfl ?_
  refine zq_getR (pc' := 9) rfl rfl rfl (hp_gC rfl) ?_
  refine zq_ipush (pc' := 10) rfl rfl rfl ?_
  refine zq_iald (pc' := 11) rfl rfl rfl (hp_ia rfl (by unfold hin; decide)) ?_
  refine zq_icge (pc' := 14) rfl rfl rfl rfl (And.intro (fun c => ?_) (fun c => ?_))
  · have H := H.1 c
    refine zq_iload (pc' := 49) rfl rfl rfl rfl ?_
    exact zq_iret rfl trivial (Exists.intro _ (Exists.intro _ (And.intro rfl H)))
  · have H := H.2 c
    refine zq_iload (pc' := 15) rfl rfl rfl rfl ?_
    refine zq_ipushn (pc' := 16) rfl rfl rfl ?_
    refine zq_iceq (pc' := 19) rfl rfl rfl rfl (And.intro (fun c => ?_) (fun c => ?_))
    · have H := H.1 c
      refine zq_iload (pc' := 41) rfl rfl rfl rfl ?_
      refine zq_istore (pc' := 42) rfl rfl rfl ?_
      refine zq_iinc (pc' := 45) rfl rfl rfl rfl ?_
      refine zq_goto_c (pc' := 4) rfl rfl ?_
      exact H
    · have H := H.2 c
      refine zq_aload (pc' := 20) rfl rfl rfl rfl ?_
      refine zq_getR (pc' := 23) rfl rfl rfl (hp_gC rfl) ?_
      refine zq_iload (pc' := 24) rfl rfl rfl rfl ?_
      obtain ⟨hi2, H⟩ := H
      refine zq_iald (pc' := 25) rfl rfl rfl (hp_ia rfl hi2) ?_
      refine hq_calli (pc' := 28) rfl rfl rfl rfl rfl rfl h_Xi ?_
      refine hmonoi H ?_
      intro x5 g3 e4 H
      refine zq_aload (pc' := 29) rfl rfl rfl rfl ?_
      refine zq_getR (pc' := 32) rfl rfl rfl (hp_gC rfl) ?_
      refine zq_iload (pc' := 33) rfl rfl rfl rfl ?_
      obtain ⟨hi6, H⟩ := H
      refine zq_iald (pc' := 34) rfl rfl rfl (hp_ia rfl hi6) ?_
      refine hq_calli (pc' := 37) rfl rfl rfl rfl rfl rfl h_Xi ?_
      refine hmonoi H ?_
      intro x9 g7 e8 H
      refine zq_icle (pc' := 40) rfl rfl rfl rfl (And.intro (fun c => ?_) (fun c => ?_))
      · have H := H.1 c
        refine zq_iinc (pc' := 45) rfl rfl rfl rfl ?_
        refine zq_goto_c (pc' := 4) rfl rfl ?_
        exact H
      · have H := H.2 c
        refine zq_iload (pc' := 41) rfl rfl rfl rfl ?_
        refine zq_istore (pc' := 42) rfl rfl rfl ?_
        refine zq_iinc (pc' := 45) rfl rfl rfl rfl ?_
        refine zq_goto_c (pc' := 4) rfl rfl ?_
        exact H
theorem zh_X8_later {d : Nat} {k : Int32 → hG → hE → Prop} {X : Nat → hG → hE → Prop} {p1 : Int32} {p2 : Int32} {g : hG} {e : hE} (H :
    hci d 217 [.long ((p2 : Int32).toInt64), .long 0, .long 1] (sI g 1046 4 0) e (fun x3 g1 e2 =>
      zbr (x3 = 0)
      (hci d 215 [.ref 1046, .int 1] g1 e2 (fun x6 g4 e5 =>
          k x6 g4 e5) X)
      (hci d 217 [.long ((p1 : Int32).toInt64), .long 0, .long 60] g1 e2 (fun x9 g7 e8 =>
          zbr (x9 = 0)
          (hci d 215 [.ref 1046, .int 2] g7 e8 (fun x12 g10 e11 =>
              k x12 g10 e11) X)
          (hcv d 249 [.ref 1046, .ref 1070, .int 0] g7 e8 (fun g13 e14 =>
              hcv d 265 [.ref 1046, .int p1] g13 e14 (fun g15 e16 =>
                zbr (p2 = 0)
                (hci d 257 [.ref 1046] g15 e16 (fun x19 g17 e18 =>
                    hcv d 250 [.ref 1046, .ref 1070, .int 0] g17 e18 (fun g20 e21 =>
                      k x19 g20 e21) X) X)
                (hci d 291 [.ref 1046] g15 e16 (fun x24 g22 e23 =>
                    hcv d 250 [.ref 1046, .ref 1070, .int 0] g22 e23 (fun g25 e26 =>
                      k x24 g25 e26) X) X)) X) X)) X)) X) : hci (d + 1) 292 [.ref 1046, .int p1, .int p2] g e k X := by
  refine hent (M := zm_X8_later) (show hT 1046 = some (.inr _) from rfl) rfl rfl rfl rfl rfl ?_
  refine zq_aload (pc' := 1) rfl rfl rfl rfl ?_
  refine zq_ipush (pc' := 2) rfl rfl rfl ?_
  refine zq_put (pc' := 5) rfl rfl rfl trivial (hp_sI rfl) ?_
  refine zq_iload (pc' := 6) rfl rfl rfl rfl ?_
  refine zq_i2l (pc' := 7) rfl rfl rfl ?_
  refine zq_lpush (pc' := 8) rfl rfl rfl ?_
  refine zq_lpush (pc' := 9) rfl rfl rfl ?_
  refine hq_calli (pc' := 12) rfl rfl rfl rfl rfl rfl h_Xi ?_
  refine hmonoi H ?_
  intro x3 g1 e2 H
  refine zq_ifne (pc' := 15) rfl rfl rfl rfl (And.intro (fun c => ?_) (fun c => ?_))
  · have H := H.1 c
    refine zq_aload (pc' := 16) rfl rfl rfl rfl ?_
    refine zq_ipush (pc' := 17) rfl rfl rfl ?_
    refine hq_calli (pc' := 20) rfl rfl rfl rfl rfl rfl h_Xi ?_
    refine hmonoi H ?_
    intro x6 g4 e5 H
    exact zq_iret rfl trivial (Exists.intro _ (Exists.intro _ (And.intro rfl H)))
  · have H := H.2 c
    refine zq_iload (pc' := 22) rfl rfl rfl rfl ?_
    refine zq_i2l (pc' := 23) rfl rfl rfl ?_
    refine zq_lpush (pc' := 24) rfl rfl rfl ?_
    refine zq_lpush (pc' := 27) rfl rfl rfl ?_
    refine hq_calli (pc' := 30) rfl rfl rfl rfl rfl rfl h_Xi ?_
    refine hmonoi H ?_
    intro x9 g7 e8 H
    refine zq_ifne (pc' := 33) rfl rfl rfl rfl (And.intro (fun c => ?_) (fun c => ?_))
    · have H := H.1 c
      refine zq_aload (pc' := 34) rfl rfl rfl rfl ?_
      refine zq_ipush (pc' := 35) rfl rfl rfl ?_
      refine hq_calli (pc' := 38) rfl rfl rfl rfl rfl rfl h_Xi ?_
      refine hmonoi H ?_
      intro x12 g10 e11 H
      exact zq_iret rfl trivial (Exists.intro _ (Exists.intro _ (And.intro rfl H)))
    · have H := H.2 c
      refine zq_aload (pc' := 40) rfl rfl rfl rfl ?_
      refine zq_aload (pc' := 41) rfl rfl rfl rfl ?_
      refine zq_getR (pc' := 44) rfl rfl rfl (hp_gC rfl) ?_
      refine zq_ipush (pc' := 45) rfl rfl rfl ?_
      refine hq_callv (pc' := 48) rfl rfl rfl rfl rfl rfl h_Xi ?_
      refine hmonov H ?_
      intro g13 e14 H
      refine zq_aload (pc' := 49) rfl rfl rfl rfl ?_
      refine zq_iload (pc' := 50) rfl rfl rfl rfl ?_
      refine hq_callv (pc' := 53) rfl rfl rfl rfl rfl rfl h_Xi ?_
      refine hmonov H ?_
      intro g15 e16 H
      refine zq_iload (pc' := 54) rfl rfl rfl rfl ?_
      refine zq_ifne (pc' := 57) rfl rfl rfl rfl (And.intro (fun c => ?_) (fun c => ?_))
      · have H := H.1 c
        refine zq_aload (pc' := 58) rfl rfl rfl rfl ?_
        refine hq_calli (pc' := 61) rfl rfl rfl rfl rfl rfl h_Xi ?_
        refine hmonoi H ?_
        intro x19 g17 e18 H
        refine zq_goto (pc' := 68) rfl rfl rfl ?_
        refine zq_istore (pc' := 69) rfl rfl rfl ?_
        refine zq_aload (pc' := 70) rfl rfl rfl rfl ?_
        refine zq_aload (pc' := 71) rfl rfl rfl rfl ?_
        refine zq_getR (pc' := 74) rfl rfl rfl (hp_gC rfl) ?_
        refine zq_ipush (pc' := 75) rfl rfl rfl ?_
        refine hq_callv (pc' := 78) rfl rfl rfl rfl rfl rfl h_Xi ?_
        refine hmonov H ?_
        intro g20 e21 H
        refine zq_iload (pc' := 79) rfl rfl rfl rfl ?_
        exact zq_iret rfl trivial (Exists.intro _ (Exists.intro _ (And.intro rfl H)))
      · have H := H.2 c
        refine zq_aload (pc' := 65) rfl rfl rfl rfl ?_
        refine hq_calli (pc' := 68) rfl rfl rfl rfl rfl rfl h_Xi ?_
        refine hmonoi H ?_
        intro x24 g22 e23 H
        refine zq_istore (pc' := 69) rfl rfl rfl ?_
        refine zq_aload (pc' := 70) rfl rfl rfl rfl ?_
        refine zq_aload (pc' := 71) rfl rfl rfl rfl ?_
        refine zq_getR (pc' := 74) rfl rfl rfl (hp_gC rfl) ?_
        refine zq_ipush (pc' := 75) rfl rfl rfl ?_
        refine hq_callv (pc' := 78) rfl rfl rfl rfl rfl rfl h_Xi ?_
        refine hmonov H ?_
        intro g25 e26 H
        refine zq_iload (pc' := 79) rfl rfl rfl rfl ?_
        exact zq_iret rfl trivial (Exists.intro _ (Exists.intro _ (And.intro rfl H)))
theorem zh_X8_wearOn {d : Nat} {k : hG → hE → Prop} {X : Nat → hG → hE → Prop} {p1 : Int32} {g : hG} {e : hE} (H :
    hin p1 8 ∧
    hcv d 253 [.ref 1046, .int p1, .int (g.1 1052 p1.toNatClampNeg)] g e (fun g2 e3 =>
      hcv d 265 [.ref 1046, .int 1] g2 e3 (fun g4 e5 =>
        k g4 e5) X) X) : hcv (d + 1) 293 [.ref 1046, .int p1] g e k X := by
  refine hent (M := zm_X8_wearOn) (show hT 1046 = some (.inr _) from rfl) rfl rfl rfl rfl rfl ?_
  refine zq_aload (pc' := 1) rfl rfl rfl rfl ?_
  refine zq_iload (pc' := 2) rfl rfl rfl rfl ?_
  refine zq_aload (pc' := 3) rfl rfl rfl rfl ?_
  refine zq_getR (pc' := 6) rfl rfl rfl (hp_gC rfl) ?_
  refine zq_iload (pc' := 7) rfl rfl rfl rfl ?_
  obtain ⟨hi1, H⟩ := H
  refine zq_iald (pc' := 8) rfl rfl rfl (hp_ia rfl hi1) ?_
  refine hq_callv (pc' := 11) rfl rfl rfl rfl rfl rfl h_Xv ?_
  refine hmonov H ?_
  intro g2 e3 H
  refine zq_aload (pc' := 12) rfl rfl rfl rfl ?_
  refine zq_ipush (pc' := 13) rfl rfl rfl ?_
  refine hq_callv (pc' := 16) rfl rfl rfl rfl rfl rfl h_Xv ?_
  refine hmonov H ?_
  intro g4 e5 H
  exact zq_vret rfl (Exists.intro _ (Exists.intro _ (And.intro rfl H)))
theorem zh_X8_daily {d : Nat} {k : Int32 → hG → hE → Prop} {X : Nat → hG → hE → Prop} {p1 : Int32} {p2 : Int32} {g : hG} {e : hE} (H :
    hci d 220 [.ref 1046, .int p1] (sI g 1046 4 0) e (fun x3 g1 e2 =>
      zbr (x3 = 0)
      (hci d 215 [.ref 1046, .int 1] g1 e2 (fun x6 g4 e5 =>
          k x6 g4 e5) X)
      (hci d 217 [.long ((p2 : Int32).toInt64), .long 0, .long 60] g1 e2 (fun x9 g7 e8 =>
          zbr (x9 = 0)
          (hci d 215 [.ref 1046, .int 2] g7 e8 (fun x12 g10 e11 =>
              k x12 g10 e11) X)
          (hcv d 249 [.ref 1046, .ref 1070, .int 0] g7 e8 (fun g13 e14 =>
              hcv d 266 [.ref 1046] g13 e14 (fun g15 e16 =>
                hwi d zm_X8_daily k X 52 [(0, .ref 1046), (1, .int p1), (2, .int p2), (3, .int 0)] g15 e16) X) X)) X)) X) : hci (d + 1) 294 [.ref 1046, .int p1, .int p2] g e k X := by
  refine hent (M := zm_X8_daily) (show hT 1046 = some (.inr _) from rfl) rfl rfl rfl rfl rfl ?_
  refine zq_aload (pc' := 1) rfl rfl rfl rfl ?_
  refine zq_ipush (pc' := 2) rfl rfl rfl ?_
  refine zq_put (pc' := 5) rfl rfl rfl trivial (hp_sI rfl) ?_
  refine zq_aload (pc' := 6) rfl rfl rfl rfl ?_
  refine zq_iload (pc' := 7) rfl rfl rfl rfl ?_
  refine hq_calli (pc' := 10) rfl rfl rfl rfl rfl rfl h_Xi ?_
  refine hmonoi H ?_
  intro x3 g1 e2 H
  refine zq_ifne (pc' := 13) rfl rfl rfl rfl (And.intro (fun c => ?_) (fun c => ?_))
  · have H := H.1 c
    refine zq_aload (pc' := 14) rfl rfl rfl rfl ?_
    refine zq_ipush (pc' := 15) rfl rfl rfl ?_
    refine hq_calli (pc' := 18) rfl rfl rfl rfl rfl rfl h_Xi ?_
    refine hmonoi H ?_
    intro x6 g4 e5 H
    exact zq_iret rfl trivial (Exists.intro _ (Exists.intro _ (And.intro rfl H)))
  · have H := H.2 c
    refine zq_iload (pc' := 20) rfl rfl rfl rfl ?_
    refine zq_i2l (pc' := 21) rfl rfl rfl ?_
    refine zq_lpush (pc' := 22) rfl rfl rfl ?_
    refine zq_lpush (pc' := 25) rfl rfl rfl ?_
    refine hq_calli (pc' := 28) rfl rfl rfl rfl rfl rfl h_Xi ?_
    refine hmonoi H ?_
    intro x9 g7 e8 H
    refine zq_ifne (pc' := 31) rfl rfl rfl rfl (And.intro (fun c => ?_) (fun c => ?_))
    · have H := H.1 c
      refine zq_aload (pc' := 32) rfl rfl rfl rfl ?_
      refine zq_ipush (pc' := 33) rfl rfl rfl ?_
      refine hq_calli (pc' := 36) rfl rfl rfl rfl rfl rfl h_Xi ?_
      refine hmonoi H ?_
      intro x12 g10 e11 H
      exact zq_iret rfl trivial (Exists.intro _ (Exists.intro _ (And.intro rfl H)))
    · have H := H.2 c
      refine zq_aload (pc' := 38) rfl rfl rfl rfl ?_
      refine zq_aload (pc' := 39) rfl rfl rfl rfl ?_
      refine zq_getR (pc' := 42) rfl rfl rfl (hp_gC rfl) ?_
      refine zq_ipush (pc' := 43) rfl rfl rfl ?_
      refine hq_callv (pc' := 46) rfl rfl rfl rfl rfl rfl h_Xi ?_
      refine hmonov H ?_
      intro g13 e14 H
      refine zq_aload (pc' := 47) rfl rfl rfl rfl ?_
      refine hq_callv (pc' := 50) rfl rfl rfl rfl rfl rfl h_Xi ?_
      refine hmonov H ?_
      intro g15 e16 H
      refine zq_ipush (pc' := 51) rfl rfl rfl ?_
      refine zq_istore_c (pc' := 52) rfl rfl ?_
      exact H
theorem zh_X8_daily_52 {d : Nat} {k : Int32 → hG → hE → Prop} {X : Nat → hG → hE → Prop} {l1 : Int32} {l2 : Int32} {l3 : Int32} {g : hG} {e : hE} (H :
    zbr (l2 ≤ l3)
    (hcv d 250 [.ref 1046, .ref 1070, .int 0] g e (fun g1 e2 =>
        hin l1 4 ∧
        k (g1.1 1069 l1.toNatClampNeg) g1 e2) X)
    (hcv d 293 [.ref 1046, .int l1] g e (fun g4 e5 =>
        hwi d zm_X8_daily k X 52 [(0, .ref 1046), (1, .int l1), (2, .int l2), (3, .int (l3 + 1))] g4 e5) X)) : hwi d zm_X8_daily k X 52 [(0, .ref 1046), (1, .int l1), (2, .int l2), (3, .int l3)] g e := by
  refine zq_iload (pc' := 53) rfl rfl rfl rfl ?_
  refine zq_iload (pc' := 54) rfl rfl rfl rfl ?_
  refine zq_icge (pc' := 57) rfl rfl rfl rfl (And.intro (fun c => ?_) (fun c => ?_))
  · have H := H.1 c
    refine zq_aload (pc' := 69) rfl rfl rfl rfl ?_
    refine zq_aload (pc' := 70) rfl rfl rfl rfl ?_
    refine zq_getR (pc' := 73) rfl rfl rfl (hp_gC rfl) ?_
    refine zq_ipush (pc' := 74) rfl rfl rfl ?_
    refine hq_callv (pc' := 77) rfl rfl rfl rfl rfl rfl h_Xi ?_
    refine hmonov H ?_
    intro g1 e2 H
    refine zq_aload (pc' := 78) rfl rfl rfl rfl ?_
    refine zq_getR (pc' := 81) rfl rfl rfl (hp_gC rfl) ?_
    refine zq_iload (pc' := 82) rfl rfl rfl rfl ?_
    obtain ⟨hi3, H⟩ := H
    refine zq_iald (pc' := 83) rfl rfl rfl (hp_ia rfl hi3) ?_
    exact zq_iret rfl trivial (Exists.intro _ (Exists.intro _ (And.intro rfl H)))
  · have H := H.2 c
    refine zq_aload (pc' := 58) rfl rfl rfl rfl ?_
    refine zq_iload (pc' := 59) rfl rfl rfl rfl ?_
    refine hq_callv (pc' := 62) rfl rfl rfl rfl rfl rfl h_Xi ?_
    refine hmonov H ?_
    intro g4 e5 H
    refine zq_iinc (pc' := 65) rfl rfl rfl rfl ?_
    refine zq_goto_c (pc' := 52) rfl rfl ?_
    exact H
theorem zh_X8_lasts {d : Nat} {k : Int32 → hG → hE → Prop} {X : Nat → hG → hE → Prop} {p1 : Int32} {g : hG} {e : hE} (H :
    hci d 220 [.ref 1046, .int p1] (sI g 1046 4 0) e (fun x3 g1 e2 =>
      zbr (x3 = 0)
      (hci d 215 [.ref 1046, .int 1] g1 e2 (fun x6 g4 e5 =>
          k x6 g4 e5) X)
      (hci d 252 [.ref 1046, .int p1] g1 e2 (fun x9 g7 e8 =>
          hcv d 249 [.ref 1046, .ref 1070, .int 0] g7 e8 (fun g10 e11 =>
            hwi d zm_X8_lasts k X 39 [(0, .ref 1046), (1, .int p1), (2, .int x9), (3, .int (-1)), (4, .int 1)] g10 e11) X) X)) X) : hci (d + 1) 295 [.ref 1046, .int p1] g e k X := by
  refine hent (M := zm_X8_lasts) (show hT 1046 = some (.inr _) from rfl) rfl rfl rfl rfl rfl ?_
  refine zq_aload (pc' := 1) rfl rfl rfl rfl ?_
  refine zq_ipush (pc' := 2) rfl rfl rfl ?_
  refine zq_put (pc' := 5) rfl rfl rfl trivial (hp_sI rfl) ?_
  refine zq_aload (pc' := 6) rfl rfl rfl rfl ?_
  refine zq_iload (pc' := 7) rfl rfl rfl rfl ?_
  refine hq_calli (pc' := 10) rfl rfl rfl rfl rfl rfl h_Xi ?_
  refine hmonoi H ?_
  intro x3 g1 e2 H
  refine zq_ifne (pc' := 13) rfl rfl rfl rfl (And.intro (fun c => ?_) (fun c => ?_))
  · have H := H.1 c
    refine zq_aload (pc' := 14) rfl rfl rfl rfl ?_
    refine zq_ipush (pc' := 15) rfl rfl rfl ?_
    refine hq_calli (pc' := 18) rfl rfl rfl rfl rfl rfl h_Xi ?_
    refine hmonoi H ?_
    intro x6 g4 e5 H
    exact zq_iret rfl trivial (Exists.intro _ (Exists.intro _ (And.intro rfl H)))
  · have H := H.2 c
    refine zq_aload (pc' := 20) rfl rfl rfl rfl ?_
    refine zq_iload (pc' := 21) rfl rfl rfl rfl ?_
    refine hq_calli (pc' := 24) rfl rfl rfl rfl rfl rfl h_Xi ?_
    refine hmonoi H ?_
    intro x9 g7 e8 H
    refine zq_istore (pc' := 25) rfl rfl rfl ?_
    refine zq_aload (pc' := 26) rfl rfl rfl rfl ?_
    refine zq_aload (pc' := 27) rfl rfl rfl rfl ?_
    refine zq_getR (pc' := 30) rfl rfl rfl (hp_gC rfl) ?_
    refine zq_ipush (pc' := 31) rfl rfl rfl ?_
    refine hq_callv (pc' := 34) rfl rfl rfl rfl rfl rfl h_Xi ?_
    refine hmonov H ?_
    intro g10 e11 H
    refine zq_ipushn (pc' := 35) rfl rfl rfl ?_
    refine zq_istore (pc' := 36) rfl rfl rfl ?_
    refine zq_ipush (pc' := 37) rfl rfl rfl ?_
    refine zq_istore_c (pc' := 39) rfl rfl ?_
    exact H
theorem zh_X8_lasts_39 {d : Nat} {k : Int32 → hG → hE → Prop} {X : Nat → hG → hE → Prop} {l1 : Int32} {l2 : Int32} {l3 : Int32} {l4 : Int32} {g : hG} {e : hE} (H :
    zbr (60 < l4)
    (hcv d 250 [.ref 1046, .ref 1070, .int 0] g e (fun g1 e2 =>
        k l3 g1 e2) X)
    (zbr (l3 = (-1))
      (hcv d 293 [.ref 1046, .int l1] g e (fun g3 e4 =>
          hci d 252 [.ref 1046, .int l1] g3 e4 (fun x7 g5 e6 =>
            zbr ((l2 &&& (x7 ^^^ (-1))) = 0)
            (hwi d zm_X8_lasts k X 39 [(0, .ref 1046), (1, .int l1), (2, .int l2), (3, .int l3), (4, .int (l4 + 1))] g5 e6)
            (hwi d zm_X8_lasts k X 39 [(0, .ref 1046), (1, .int l1), (2, .int l2), (3, .int l4), (4, .int (l4 + 1))] g5 e6)) X) X)
      (hcv d 250 [.ref 1046, .ref 1070, .int 0] g e (fun g8 e9 =>
          k l3 g8 e9) X))) : hwi d zm_X8_lasts k X 39 [(0, .ref 1046), (1, .int l1), (2, .int l2), (3, .int l3), (4, .int l4)] g e := by
  refine zq_iload (pc' := 41) rfl rfl rfl rfl ?_
  refine zq_ipush (pc' := 43) rfl rfl rfl ?_
  refine zq_icgt (pc' := 46) rfl rfl rfl rfl (And.intro (fun c => ?_) (fun c => ?_))
  · have H := H.1 c
    refine zq_aload (pc' := 78) rfl rfl rfl rfl ?_
    refine zq_aload (pc' := 79) rfl rfl rfl rfl ?_
    refine zq_getR (pc' := 82) rfl rfl rfl (hp_gC rfl) ?_
    refine zq_ipush (pc' := 83) rfl rfl rfl ?_
    refine hq_callv (pc' := 86) rfl rfl rfl rfl rfl rfl h_Xi ?_
    refine hmonov H ?_
    intro g1 e2 H
    refine zq_iload (pc' := 87) rfl rfl rfl rfl ?_
    exact zq_iret rfl trivial (Exists.intro _ (Exists.intro _ (And.intro rfl H)))
  · have H := H.2 c
    refine zq_iload (pc' := 47) rfl rfl rfl rfl ?_
    refine zq_ipushn (pc' := 48) rfl rfl rfl ?_
    refine zq_icne (pc' := 51) rfl rfl rfl rfl (And.intro (fun c => ?_) (fun c => ?_))
    · have H := H.1 c
      refine zq_aload (pc' := 52) rfl rfl rfl rfl ?_
      refine zq_iload (pc' := 53) rfl rfl rfl rfl ?_
      refine hq_callv (pc' := 56) rfl rfl rfl rfl rfl rfl h_Xi ?_
      refine hmonov H ?_
      intro g3 e4 H
      refine zq_iload (pc' := 57) rfl rfl rfl rfl ?_
      refine zq_aload (pc' := 58) rfl rfl rfl rfl ?_
      refine zq_iload (pc' := 59) rfl rfl rfl rfl ?_
      refine hq_calli (pc' := 62) rfl rfl rfl rfl rfl rfl h_Xi ?_
      refine hmonoi H ?_
      intro x7 g5 e6 H
      refine zq_ipushn (pc' := 63) rfl rfl rfl ?_
      refine zq_ixor (pc' := 64) rfl rfl rfl ?_
      refine zq_iand (pc' := 65) rfl rfl rfl ?_
      refine zq_ifeq (pc' := 68) rfl rfl rfl rfl (And.intro (fun c => ?_) (fun c => ?_))
      · have H := H.1 c
        refine zq_iinc (pc' := 74) rfl rfl rfl rfl ?_
        refine zq_goto_c (pc' := 39) rfl rfl ?_
        exact H
      · have H := H.2 c
        refine zq_iload (pc' := 70) rfl rfl rfl rfl ?_
        refine zq_istore (pc' := 71) rfl rfl rfl ?_
        refine zq_iinc (pc' := 74) rfl rfl rfl rfl ?_
        refine zq_goto_c (pc' := 39) rfl rfl ?_
        exact H
    · have H := H.2 c
      refine zq_aload (pc' := 78) rfl rfl rfl rfl ?_
      refine zq_aload (pc' := 79) rfl rfl rfl rfl ?_
      refine zq_getR (pc' := 82) rfl rfl rfl (hp_gC rfl) ?_
      refine zq_ipush (pc' := 83) rfl rfl rfl ?_
      refine hq_callv (pc' := 86) rfl rfl rfl rfl rfl rfl h_Xi ?_
      refine hmonov H ?_
      intro g8 e9 H
      refine zq_iload (pc' := 87) rfl rfl rfl rfl ?_
      exact zq_iret rfl trivial (Exists.intro _ (Exists.intro _ (And.intro rfl H)))
theorem zh_X8_calm {d : Nat} {k : Int32 → hG → hE → Prop} {X : Nat → hG → hE → Prop} {p1 : Int32} {g : hG} {e : hE} (H :
    hci d 217 [.long ((p1 : Int32).toInt64), .long 1, .long 60] (sI g 1046 4 0) e (fun x3 g1 e2 =>
      zbr (x3 = 0)
      (hci d 215 [.ref 1046, .int 1] g1 e2 (fun x6 g4 e5 =>
          k x6 g4 e5) X)
      (hcv d 249 [.ref 1046, .ref 1070, .int 0] g1 e2 (fun g7 e8 =>
          hwi d zm_X8_calm k X 36 [(0, .ref 1046), (1, .int p1), (2, .int 0), (3, .int 0)] g7 e8) X)) X) : hci (d + 1) 296 [.ref 1046, .int p1] g e k X := by
  refine hent (M := zm_X8_calm) (show hT 1046 = some (.inr _) from rfl) rfl rfl rfl rfl rfl ?_
  refine zq_aload (pc' := 1) rfl rfl rfl rfl ?_
  refine zq_ipush (pc' := 2) rfl rfl rfl ?_
  refine zq_put (pc' := 5) rfl rfl rfl trivial (hp_sI rfl) ?_
  refine zq_iload (pc' := 6) rfl rfl rfl rfl ?_
  refine zq_i2l (pc' := 7) rfl rfl rfl ?_
  refine zq_lpush (pc' := 8) rfl rfl rfl ?_
  refine zq_lpush (pc' := 11) rfl rfl rfl ?_
  refine hq_calli (pc' := 14) rfl rfl rfl rfl rfl rfl h_Xi ?_
  refine hmonoi H ?_
  intro x3 g1 e2 H
  refine zq_ifne (pc' := 17) rfl rfl rfl rfl (And.intro (fun c => ?_) (fun c => ?_))
  · have H := H.1 c
    refine zq_aload (pc' := 18) rfl rfl rfl rfl ?_
    refine zq_ipush (pc' := 19) rfl rfl rfl ?_
    refine hq_calli (pc' := 22) rfl rfl rfl rfl rfl rfl h_Xi ?_
    refine hmonoi H ?_
    intro x6 g4 e5 H
    exact zq_iret rfl trivial (Exists.intro _ (Exists.intro _ (And.intro rfl H)))
  · have H := H.2 c
    refine zq_aload (pc' := 24) rfl rfl rfl rfl ?_
    refine zq_aload (pc' := 25) rfl rfl rfl rfl ?_
    refine zq_getR (pc' := 28) rfl rfl rfl (hp_gC rfl) ?_
    refine zq_ipush (pc' := 29) rfl rfl rfl ?_
    refine hq_callv (pc' := 32) rfl rfl rfl rfl rfl rfl h_Xi ?_
    refine hmonov H ?_
    intro g7 e8 H
    refine zq_ipush (pc' := 33) rfl rfl rfl ?_
    refine zq_istore (pc' := 34) rfl rfl rfl ?_
    refine zq_ipush (pc' := 35) rfl rfl rfl ?_
    refine zq_istore_c (pc' := 36) rfl rfl ?_
    exact H
theorem zh_X8_calm_36 {d : Nat} {k : Int32 → hG → hE → Prop} {X : Nat → hG → hE → Prop} {l1 : Int32} {l2 : Int32} {l3 : Int32} {g : hG} {e : hE} (H :
    zbr (l1 ≤ l3)
    (hcv d 250 [.ref 1046, .ref 1070, .int 0] g e (fun g1 e2 =>
        k l2 g1 e2) X)
    (hcv d 265 [.ref 1046, .int 1] g e (fun g3 e4 =>
        hci d 267 [.ref 1046] g3 e4 (fun x7 g5 e6 =>
          zbr (x7 = 0)
          (hwi d zm_X8_calm k X 36 [(0, .ref 1046), (1, .int l1), (2, .int (l2 + 1)), (3, .int (l3 + 1))] g5 e6)
          (hwi d zm_X8_calm k X 36 [(0, .ref 1046), (1, .int l1), (2, .int (l2 + 0)), (3, .int (l3 + 1))] g5 e6)) X) X)) : hwi d zm_X8_calm k X 36 [(0, .ref 1046), (1, .int l1), (2, .int l2), (3, .int l3)] g e := by
  refine zq_iload (pc' := 37) rfl rfl rfl rfl ?_
  refine zq_iload (pc' := 38) rfl rfl rfl rfl ?_
  refine zq_icge (pc' := 41) rfl rfl rfl rfl (And.intro (fun c => ?_) (fun c => ?_))
  · have H := H.1 c
    refine zq_aload (pc' := 68) rfl rfl rfl rfl ?_
    refine zq_aload (pc' := 69) rfl rfl rfl rfl ?_
    refine zq_getR (pc' := 72) rfl rfl rfl (hp_gC rfl) ?_
    refine zq_ipush (pc' := 73) rfl rfl rfl ?_
    refine hq_callv (pc' := 76) rfl rfl rfl rfl rfl rfl h_Xi ?_
    refine hmonov H ?_
    intro g1 e2 H
    refine zq_iload (pc' := 77) rfl rfl rfl rfl ?_
    exact zq_iret rfl trivial (Exists.intro _ (Exists.intro _ (And.intro rfl H)))
  · have H := H.2 c
    refine zq_aload (pc' := 42) rfl rfl rfl rfl ?_
    refine zq_ipush (pc' := 43) rfl rfl rfl ?_
    refine hq_callv (pc' := 46) rfl rfl rfl rfl rfl rfl h_Xi ?_
    refine hmonov H ?_
    intro g3 e4 H
    refine zq_iload (pc' := 47) rfl rfl rfl rfl ?_
    refine zq_aload (pc' := 48) rfl rfl rfl rfl ?_
    refine hq_calli (pc' := 51) rfl rfl rfl rfl rfl rfl h_Xi ?_
    refine hmonoi H ?_
    intro x7 g5 e6 H
    refine zq_ifne (pc' := 54) rfl rfl rfl rfl (And.intro (fun c => ?_) (fun c => ?_))
    · have H := H.1 c
      refine zq_ipush (pc' := 55) rfl rfl rfl ?_
      refine zq_goto (pc' := 59) rfl rfl rfl ?_
      refine zq_iadd (pc' := 60) rfl rfl rfl ?_
      refine zq_istore (pc' := 61) rfl rfl rfl ?_
      refine zq_iinc (pc' := 64) rfl rfl rfl rfl ?_
      refine zq_goto_c (pc' := 36) rfl rfl ?_
      exact H
    · have H := H.2 c
      refine zq_ipush (pc' := 59) rfl rfl rfl ?_
      refine zq_iadd (pc' := 60) rfl rfl rfl ?_
      refine zq_istore (pc' := 61) rfl rfl rfl ?_
      refine zq_iinc (pc' := 64) rfl rfl rfl rfl ?_
      refine zq_goto_c (pc' := 36) rfl rfl ?_
      exact H
theorem zh_X8_worst {d : Nat} {k : Int32 → hG → hE → Prop} {X : Nat → hG → hE → Prop} {p1 : Int32} {p2 : Int32} {g : hG} {e : hE} (H :
    hci d 217 [.long ((p2 : Int32).toInt64), .long 0, .long 1] (sI g 1046 4 0) e (fun x3 g1 e2 =>
      zbr (x3 = 0)
      (hci d 215 [.ref 1046, .int 1] g1 e2 (fun x6 g4 e5 =>
          k x6 g4 e5) X)
      (hci d 217 [.long ((p1 : Int32).toInt64), .long 1, .long 60] g1 e2 (fun x9 g7 e8 =>
          zbr (x9 = 0)
          (hci d 215 [.ref 1046, .int 2] g7 e8 (fun x12 g10 e11 =>
              k x12 g10 e11) X)
          (hcv d 249 [.ref 1046, .ref 1070, .int 0] g7 e8 (fun g13 e14 =>
              hwi d zm_X8_worst k X 56 [(0, .ref 1046), (1, .int p1), (2, .int p2), (3, .int (-1)), (4, .int (-1)), (5, .int 1)] g13 e14) X)) X)) X) : hci (d + 1) 297 [.ref 1046, .int p1, .int p2] g e k X := by
  refine hent (M := zm_X8_worst) (show hT 1046 = some (.inr _) from rfl) rfl rfl rfl rfl rfl ?_
  refine zq_aload (pc' := 1) rfl rfl rfl rfl ?_
  refine zq_ipush (pc' := 2) rfl rfl rfl ?_
  refine zq_put (pc' := 5) rfl rfl rfl trivial (hp_sI rfl) ?_
  refine zq_iload (pc' := 6) rfl rfl rfl rfl ?_
  refine zq_i2l (pc' := 7) rfl rfl rfl ?_
  refine zq_lpush (pc' := 8) rfl rfl rfl ?_
  refine zq_lpush (pc' := 9) rfl rfl rfl ?_
  refine hq_calli (pc' := 12) rfl rfl rfl rfl rfl rfl h_Xi ?_
  refine hmonoi H ?_
  intro x3 g1 e2 H
  refine zq_ifne (pc' := 15) rfl rfl rfl rfl (And.intro (fun c => ?_) (fun c => ?_))
  · have H := H.1 c
    refine zq_aload (pc' := 16) rfl rfl rfl rfl ?_
    refine zq_ipush (pc' := 17) rfl rfl rfl ?_
    refine hq_calli (pc' := 20) rfl rfl rfl rfl rfl rfl h_Xi ?_
    refine hmonoi H ?_
    intro x6 g4 e5 H
    exact zq_iret rfl trivial (Exists.intro _ (Exists.intro _ (And.intro rfl H)))
  · have H := H.2 c
    refine zq_iload (pc' := 22) rfl rfl rfl rfl ?_
    refine zq_i2l (pc' := 23) rfl rfl rfl ?_
    refine zq_lpush (pc' := 24) rfl rfl rfl ?_
    refine zq_lpush (pc' := 27) rfl rfl rfl ?_
    refine hq_calli (pc' := 30) rfl rfl rfl rfl rfl rfl h_Xi ?_
    refine hmonoi H ?_
    intro x9 g7 e8 H
    refine zq_ifne (pc' := 33) rfl rfl rfl rfl (And.intro (fun c => ?_) (fun c => ?_))
    · have H := H.1 c
      refine zq_aload (pc' := 34) rfl rfl rfl rfl ?_
      refine zq_ipush (pc' := 35) rfl rfl rfl ?_
      refine hq_calli (pc' := 38) rfl rfl rfl rfl rfl rfl h_Xi ?_
      refine hmonoi H ?_
      intro x12 g10 e11 H
      exact zq_iret rfl trivial (Exists.intro _ (Exists.intro _ (And.intro rfl H)))
    · have H := H.2 c
      refine zq_aload (pc' := 40) rfl rfl rfl rfl ?_
      refine zq_aload (pc' := 41) rfl rfl rfl rfl ?_
      refine zq_getR (pc' := 44) rfl rfl rfl (hp_gC rfl) ?_
      refine zq_ipush (pc' := 45) rfl rfl rfl ?_
      refine hq_callv (pc' := 48) rfl rfl rfl rfl rfl rfl h_Xi ?_
      refine hmonov H ?_
      intro g13 e14 H
      refine zq_ipushn (pc' := 49) rfl rfl rfl ?_
      refine zq_istore (pc' := 50) rfl rfl rfl ?_
      refine zq_ipushn (pc' := 51) rfl rfl rfl ?_
      refine zq_istore (pc' := 53) rfl rfl rfl ?_
      refine zq_ipush (pc' := 54) rfl rfl rfl ?_
      refine zq_istore_c (pc' := 56) rfl rfl ?_
      exact H
theorem zh_X8_worst_56 {d : Nat} {k : Int32 → hG → hE → Prop} {X : Nat → hG → hE → Prop} {l1 : Int32} {l2 : Int32} {l3 : Int32} {l4 : Int32} {l5 : Int32} {g : hG} {e : hE} (H :
    zbr (l1 < l5)
    (hcv d 250 [.ref 1046, .ref 1070, .int 0] g e (fun g1 e2 =>
        zbr (l2 = 0)
        (k l3 g1 e2)
        (k l4 g1 e2)) X)
    (hcv d 265 [.ref 1046, .int 1] g e (fun g3 e4 =>
        hci d 267 [.ref 1046] g3 e4 (fun x7 g5 e6 =>
          zbr (l4 < x7)
          (hci d 267 [.ref 1046] g5 e6 (fun x10 g8 e9 =>
              hwi d zm_X8_worst k X 56 [(0, .ref 1046), (1, .int l1), (2, .int l2), (3, .int l5), (4, .int x10), (5, .int (l5 + 1))] g8 e9) X)
          (hwi d zm_X8_worst k X 56 [(0, .ref 1046), (1, .int l1), (2, .int l2), (3, .int l3), (4, .int l4), (5, .int (l5 + 1))] g5 e6)) X) X)) : hwi d zm_X8_worst k X 56 [(0, .ref 1046), (1, .int l1), (2, .int l2), (3, .int l3), (4, .int l4), (5, .int l5)] g e := by
  refine zq_iload (pc' := 58) rfl rfl rfl rfl ?_
  refine zq_iload (pc' := 59) rfl rfl rfl rfl ?_
  refine zq_icgt (pc' := 62) rfl rfl rfl rfl (And.intro (fun c => ?_) (fun c => ?_))
  · have H := H.1 c
    refine zq_aload (pc' := 95) rfl rfl rfl rfl ?_
    refine zq_aload (pc' := 96) rfl rfl rfl rfl ?_
    refine zq_getR (pc' := 99) rfl rfl rfl (hp_gC rfl) ?_
    refine zq_ipush (pc' := 100) rfl rfl rfl ?_
    refine hq_callv (pc' := 103) rfl rfl rfl rfl rfl rfl h_Xi ?_
    refine hmonov H ?_
    intro g1 e2 H
    refine zq_iload (pc' := 104) rfl rfl rfl rfl ?_
    refine zq_ifne (pc' := 107) rfl rfl rfl rfl (And.intro (fun c => ?_) (fun c => ?_))
    · have H := H.1 c
      refine zq_iload (pc' := 108) rfl rfl rfl rfl ?_
      refine zq_goto (pc' := 113) rfl rfl rfl ?_
      exact zq_iret rfl trivial (Exists.intro _ (Exists.intro _ (And.intro rfl H)))
    · have H := H.2 c
      refine zq_iload (pc' := 113) rfl rfl rfl rfl ?_
      exact zq_iret rfl trivial (Exists.intro _ (Exists.intro _ (And.intro rfl H)))
  · have H := H.2 c
    refine zq_aload (pc' := 63) rfl rfl rfl rfl ?_
    refine zq_ipush (pc' := 64) rfl rfl rfl ?_
    refine hq_callv (pc' := 67) rfl rfl rfl rfl rfl rfl h_Xi ?_
    refine hmonov H ?_
    intro g3 e4 H
    refine zq_aload (pc' := 68) rfl rfl rfl rfl ?_
    refine hq_calli (pc' := 71) rfl rfl rfl rfl rfl rfl h_Xi ?_
    refine hmonoi H ?_
    intro x7 g5 e6 H
    refine zq_iload (pc' := 73) rfl rfl rfl rfl ?_
    refine zq_icgt (pc' := 76) rfl rfl rfl rfl (And.intro (fun c => ?_) (fun c => ?_))
    · have H := H.1 c
      refine zq_iload (pc' := 81) rfl rfl rfl rfl ?_
      refine zq_istore (pc' := 82) rfl rfl rfl ?_
      refine zq_aload (pc' := 83) rfl rfl rfl rfl ?_
      refine hq_calli (pc' := 86) rfl rfl rfl rfl rfl rfl h_Xi ?_
      refine hmonoi H ?_
      intro x10 g8 e9 H
      refine zq_istore (pc' := 88) rfl rfl rfl ?_
      refine zq_iinc (pc' := 91) rfl rfl rfl rfl ?_
      refine zq_goto_c (pc' := 56) rfl rfl ?_
      exact H
    · have H := H.2 c
      refine zq_goto (pc' := 88) rfl rfl rfl ?_
      refine zq_iinc (pc' := 91) rfl rfl rfl rfl ?_
      refine zq_goto_c (pc' := 56) rfl rfl ?_
      exact H
theorem zh_X8_most {d : Nat} {k : Int32 → hG → hE → Prop} {X : Nat → hG → hE → Prop} {p1 : Int32} {p2 : Int32} {g : hG} {e : hE} (H :
    hci d 220 [.ref 1046, .int p1] (sI g 1046 4 0) e (fun x3 g1 e2 =>
      zbr (x3 = 0)
      (hci d 215 [.ref 1046, .int 1] g1 e2 (fun x6 g4 e5 =>
          k x6 g4 e5) X)
      (hci d 217 [.long ((p2 : Int32).toInt64), .long 0, .long 60] g1 e2 (fun x9 g7 e8 =>
          zbr (x9 = 0)
          (hci d 215 [.ref 1046, .int 2] g7 e8 (fun x12 g10 e11 =>
              k x12 g10 e11) X)
          (hcv d 249 [.ref 1046, .ref 1070, .int 0] g7 e8 (fun g13 e14 =>
              hwi d zm_X8_most k X 51 [(0, .ref 1046), (1, .int p1), (2, .int p2), (3, .int 0), (4, .int 0)] g13 e14) X)) X)) X) : hci (d + 1) 298 [.ref 1046, .int p1, .int p2] g e k X := by
  refine hent (M := zm_X8_most) (show hT 1046 = some (.inr _) from rfl) rfl rfl rfl rfl rfl ?_
  refine zq_aload (pc' := 1) rfl rfl rfl rfl ?_
  refine zq_ipush (pc' := 2) rfl rfl rfl ?_
  refine zq_put (pc' := 5) rfl rfl rfl trivial (hp_sI rfl) ?_
  refine zq_aload (pc' := 6) rfl rfl rfl rfl ?_
  refine zq_iload (pc' := 7) rfl rfl rfl rfl ?_
  refine hq_calli (pc' := 10) rfl rfl rfl rfl rfl rfl h_Xi ?_
  refine hmonoi H ?_
  intro x3 g1 e2 H
  refine zq_ifne (pc' := 13) rfl rfl rfl rfl (And.intro (fun c => ?_) (fun c => ?_))
  · have H := H.1 c
    refine zq_aload (pc' := 14) rfl rfl rfl rfl ?_
    refine zq_ipush (pc' := 15) rfl rfl rfl ?_
    refine hq_calli (pc' := 18) rfl rfl rfl rfl rfl rfl h_Xi ?_
    refine hmonoi H ?_
    intro x6 g4 e5 H
    exact zq_iret rfl trivial (Exists.intro _ (Exists.intro _ (And.intro rfl H)))
  · have H := H.2 c
    refine zq_iload (pc' := 20) rfl rfl rfl rfl ?_
    refine zq_i2l (pc' := 21) rfl rfl rfl ?_
    refine zq_lpush (pc' := 22) rfl rfl rfl ?_
    refine zq_lpush (pc' := 25) rfl rfl rfl ?_
    refine hq_calli (pc' := 28) rfl rfl rfl rfl rfl rfl h_Xi ?_
    refine hmonoi H ?_
    intro x9 g7 e8 H
    refine zq_ifne (pc' := 31) rfl rfl rfl rfl (And.intro (fun c => ?_) (fun c => ?_))
    · have H := H.1 c
      refine zq_aload (pc' := 32) rfl rfl rfl rfl ?_
      refine zq_ipush (pc' := 33) rfl rfl rfl ?_
      refine hq_calli (pc' := 36) rfl rfl rfl rfl rfl rfl h_Xi ?_
      refine hmonoi H ?_
      intro x12 g10 e11 H
      exact zq_iret rfl trivial (Exists.intro _ (Exists.intro _ (And.intro rfl H)))
    · have H := H.2 c
      refine zq_aload (pc' := 38) rfl rfl rfl rfl ?_
      refine zq_aload (pc' := 39) rfl rfl rfl rfl ?_
      refine zq_getR (pc' := 42) rfl rfl rfl (hp_gC rfl) ?_
      refine zq_ipush (pc' := 43) rfl rfl rfl ?_
      refine hq_callv (pc' := 46) rfl rfl rfl rfl rfl rfl h_Xi ?_
      refine hmonov H ?_
      intro g13 e14 H
      refine zq_ipush (pc' := 47) rfl rfl rfl ?_
      refine zq_istore (pc' := 48) rfl rfl rfl ?_
      refine zq_ipush (pc' := 49) rfl rfl rfl ?_
      refine zq_istore_c (pc' := 51) rfl rfl ?_
      exact H
theorem zh_X8_most_51 {d : Nat} {k : Int32 → hG → hE → Prop} {X : Nat → hG → hE → Prop} {l1 : Int32} {l2 : Int32} {l3 : Int32} {l4 : Int32} {g : hG} {e : hE} (H :
    zbr (l2 ≤ l4)
    (hcv d 250 [.ref 1046, .ref 1070, .int 0] g e (fun g1 e2 =>
        k l3 g1 e2) X)
    (hcv d 265 [.ref 1046, .int 1] g e (fun g3 e4 =>
        hin l1 4 ∧
        hci d 219 [.int (g3.1 1067 l1.toNatClampNeg)] g3 e4 (fun x8 g6 e7 =>
          hci d 2 [.int l3, .int x8] g6 e7 (fun x11 g9 e10 =>
            hwi d zm_X8_most k X 51 [(0, .ref 1046), (1, .int l1), (2, .int l2), (3, .int x11), (4, .int (l4 + 1))] g9 e10) X) X) X)) : hwi d zm_X8_most k X 51 [(0, .ref 1046), (1, .int l1), (2, .int l2), (3, .int l3), (4, .int l4)] g e := by
  refine zq_iload (pc' := 53) rfl rfl rfl rfl ?_
  refine zq_iload (pc' := 54) rfl rfl rfl rfl ?_
  refine zq_icge (pc' := 57) rfl rfl rfl rfl (And.intro (fun c => ?_) (fun c => ?_))
  · have H := H.1 c
    refine zq_aload (pc' := 83) rfl rfl rfl rfl ?_
    refine zq_aload (pc' := 84) rfl rfl rfl rfl ?_
    refine zq_getR (pc' := 87) rfl rfl rfl (hp_gC rfl) ?_
    refine zq_ipush (pc' := 88) rfl rfl rfl ?_
    refine hq_callv (pc' := 91) rfl rfl rfl rfl rfl rfl h_Xi ?_
    refine hmonov H ?_
    intro g1 e2 H
    refine zq_iload (pc' := 92) rfl rfl rfl rfl ?_
    exact zq_iret rfl trivial (Exists.intro _ (Exists.intro _ (And.intro rfl H)))
  · have H := H.2 c
    refine zq_aload (pc' := 58) rfl rfl rfl rfl ?_
    refine zq_ipush (pc' := 59) rfl rfl rfl ?_
    refine hq_callv (pc' := 62) rfl rfl rfl rfl rfl rfl h_Xi ?_
    refine hmonov H ?_
    intro g3 e4 H
    refine zq_iload (pc' := 63) rfl rfl rfl rfl ?_
    refine zq_aload (pc' := 64) rfl rfl rfl rfl ?_
    refine zq_getR (pc' := 67) rfl rfl rfl (hp_gC rfl) ?_
    refine zq_iload (pc' := 68) rfl rfl rfl rfl ?_
    obtain ⟨hi5, H⟩ := H
    refine zq_iald (pc' := 69) rfl rfl rfl (hp_ia rfl hi5) ?_
    refine hq_calli (pc' := 72) rfl rfl rfl rfl rfl rfl h_Xi ?_
    refine hmonoi H ?_
    intro x8 g6 e7 H
    refine hq_calli (pc' := 75) rfl rfl rfl rfl rfl rfl h_Xi ?_
    refine hmonoi H ?_
    intro x11 g9 e10 H
    refine zq_istore (pc' := 76) rfl rfl rfl ?_
    refine zq_iinc (pc' := 79) rfl rfl rfl rfl ?_
    refine zq_goto_c (pc' := 51) rfl rfl ?_
    exact H
theorem zh_X8_tear {d : Nat} {k : Int32 → hG → hE → Prop} {X : Nat → hG → hE → Prop} {p1 : Int32} {p2 : Int32} {p3 : Int32} {g : hG} {e : hE} (H :
    hci d 221 [.ref 1046, .int p1, .int p2] (sI g 1046 4 0) e (fun x3 g1 e2 =>
      zbr (x3 = 0)
      (hci d 215 [.ref 1046, .int 1] g1 e2 (fun x6 g4 e5 =>
          k x6 g4 e5) X)
      (hci d 217 [.long ((p3 : Int32).toInt64), .long 0, .long 99] g1 e2 (fun x9 g7 e8 =>
          zbr (x9 = 0)
          (hci d 215 [.ref 1046, .int 2] g7 e8 (fun x12 g10 e11 =>
              k x12 g10 e11) X)
          (hcv d 249 [.ref 1046, .ref 1070, .int 0] g7 e8 (fun g13 e14 =>
              hin p1 4 ∧
              hin p1 4 ∧
              hcv d 264 [.ref 1046, .int p3] (sI g13 1063 p1.toNatClampNeg ((g13.1 1063 p1.toNatClampNeg) &&& ((1 <<< (p2 &&& 31)) ^^^ (-1)))) e14 (fun g17 e18 =>
                hcv d 250 [.ref 1046, .ref 1070, .int 0] g17 e18 (fun g19 e20 =>
                  hin p1 4 ∧
                  k (g19.1 1067 p1.toNatClampNeg) g19 e20) X) X) X)) X)) X) : hci (d + 1) 299 [.ref 1046, .int p1, .int p2, .int p3] g e k X := by
  refine hent (M := zm_X8_tear) (show hT 1046 = some (.inr _) from rfl) rfl rfl rfl rfl rfl ?_
  refine zq_aload (pc' := 1) rfl rfl rfl rfl ?_
  refine zq_ipush (pc' := 2) rfl rfl rfl ?_
  refine zq_put (pc' := 5) rfl rfl rfl trivial (hp_sI rfl) ?_
  refine zq_aload (pc' := 6) rfl rfl rfl rfl ?_
  refine zq_iload (pc' := 7) rfl rfl rfl rfl ?_
  refine zq_iload (pc' := 8) rfl rfl rfl rfl ?_
  refine hq_calli (pc' := 11) rfl rfl rfl rfl rfl rfl h_Xi ?_
  refine hmonoi H ?_
  intro x3 g1 e2 H
  refine zq_ifne (pc' := 14) rfl rfl rfl rfl (And.intro (fun c => ?_) (fun c => ?_))
  · have H := H.1 c
    refine zq_aload (pc' := 15) rfl rfl rfl rfl ?_
    refine zq_ipush (pc' := 16) rfl rfl rfl ?_
    refine hq_calli (pc' := 19) rfl rfl rfl rfl rfl rfl h_Xi ?_
    refine hmonoi H ?_
    intro x6 g4 e5 H
    exact zq_iret rfl trivial (Exists.intro _ (Exists.intro _ (And.intro rfl H)))
  · have H := H.2 c
    refine zq_iload (pc' := 21) rfl rfl rfl rfl ?_
    refine zq_i2l (pc' := 22) rfl rfl rfl ?_
    refine zq_lpush (pc' := 23) rfl rfl rfl ?_
    refine zq_lpush (pc' := 26) rfl rfl rfl ?_
    refine hq_calli (pc' := 29) rfl rfl rfl rfl rfl rfl h_Xi ?_
    refine hmonoi H ?_
    intro x9 g7 e8 H
    refine zq_ifne (pc' := 32) rfl rfl rfl rfl (And.intro (fun c => ?_) (fun c => ?_))
    · have H := H.1 c
      refine zq_aload (pc' := 33) rfl rfl rfl rfl ?_
      refine zq_ipush (pc' := 34) rfl rfl rfl ?_
      refine hq_calli (pc' := 37) rfl rfl rfl rfl rfl rfl h_Xi ?_
      refine hmonoi H ?_
      intro x12 g10 e11 H
      exact zq_iret rfl trivial (Exists.intro _ (Exists.intro _ (And.intro rfl H)))
    · have H := H.2 c
      refine zq_aload (pc' := 39) rfl rfl rfl rfl ?_
      refine zq_aload (pc' := 40) rfl rfl rfl rfl ?_
      refine zq_getR (pc' := 43) rfl rfl rfl (hp_gC rfl) ?_
      refine zq_ipush (pc' := 44) rfl rfl rfl ?_
      refine hq_callv (pc' := 47) rfl rfl rfl rfl rfl rfl h_Xi ?_
      refine hmonov H ?_
      intro g13 e14 H
      refine zq_aload (pc' := 48) rfl rfl rfl rfl ?_
      refine zq_getR (pc' := 51) rfl rfl rfl (hp_gC rfl) ?_
      refine zq_iload (pc' := 52) rfl rfl rfl rfl ?_
      refine zq_dup2 (pc' := 53) rfl rfl rfl rfl rfl ?_
      obtain ⟨hi15, H⟩ := H
      refine zq_iald (pc' := 54) rfl rfl rfl (hp_ia rfl hi15) ?_
      refine zq_ipush (pc' := 55) rfl rfl rfl ?_
      refine zq_iload (pc' := 56) rfl rfl rfl rfl ?_
      refine zq_ishl (pc' := 57) rfl rfl rfl ?_
      refine zq_ipushn (pc' := 58) rfl rfl rfl ?_
      refine zq_ixor (pc' := 59) rfl rfl rfl ?_
      refine zq_iand (pc' := 60) rfl rfl rfl ?_
      obtain ⟨hi16, H⟩ := H
      refine zq_iast (pc' := 61) rfl rfl rfl (hp_is rfl hi16) ?_
      refine zq_aload (pc' := 62) rfl rfl rfl rfl ?_
      refine zq_iload (pc' := 63) rfl rfl rfl rfl ?_
      refine hq_callv (pc' := 66) rfl rfl rfl rfl rfl rfl h_Xi ?_
      refine hmonov H ?_
      intro g17 e18 H
      refine zq_aload (pc' := 67) rfl rfl rfl rfl ?_
      refine zq_aload (pc' := 68) rfl rfl rfl rfl ?_
      refine zq_getR (pc' := 71) rfl rfl rfl (hp_gC rfl) ?_
      refine zq_ipush (pc' := 72) rfl rfl rfl ?_
      refine hq_callv (pc' := 75) rfl rfl rfl rfl rfl rfl h_Xi ?_
      refine hmonov H ?_
      intro g19 e20 H
      refine zq_aload (pc' := 76) rfl rfl rfl rfl ?_
      refine zq_getR (pc' := 79) rfl rfl rfl (hp_gC rfl) ?_
      refine zq_iload (pc' := 80) rfl rfl rfl rfl ?_
      obtain ⟨hi21, H⟩ := H
      refine zq_iald (pc' := 81) rfl rfl rfl (hp_ia rfl hi21) ?_
      exact zq_iret rfl trivial (Exists.intro _ (Exists.intro _ (And.intro rfl H)))
theorem zh_X8_holdsWith {d : Nat} {k : Int32 → hG → hE → Prop} {X : Nat → hG → hE → Prop} {p1 : Int32} {p2 : Int32} {p3 : Int32} {p4 : Int32} {g : hG} {e : hE} (H :
    zbr (p2 < 0)
    (hwi d zm_X8_holdsWith k X 34 [(0, .ref 1046), (1, .int p1), (2, .int p2), (3, .int p3), (4, .int p4)] g e)
    (hin p1 8 ∧
      zbr ((g.1 1052 p1.toNatClampNeg) ≤ p2)
      (hwi d zm_X8_holdsWith k X 34 [(0, .ref 1046), (1, .int p1), (2, .int p2), (3, .int p3), (4, .int p4)] g e)
      (zbr (p4 < 0)
        (hwi d zm_X8_holdsWith k X 34 [(0, .ref 1046), (1, .int p1), (2, .int p2), (3, .int p3), (4, .int p4)] g e)
        (hin p3 8 ∧
          zbr ((g.1 1052 p3.toNatClampNeg) ≤ p4)
          (hwi d zm_X8_holdsWith k X 34 [(0, .ref 1046), (1, .int p1), (2, .int p2), (3, .int p3), (4, .int p4)] g e)
          (zbr ((1 : Int32) = 0)
            (k 0 g e)
            (hin ((16 * p1) + p2) 64 ∧
              hin ((16 * p3) + p4) 64 ∧
              hci d 3 [.int (g.1 1060 ((16 * p1) + p2).toNatClampNeg), .int (g.1 1061 ((16 * p3) + p4).toNatClampNeg)] g e (fun x7 g5 e6 =>
                k x7 g5 e6) X)))))) : hci (d + 1) 300 [.ref 1046, .int p1, .int p2, .int p3, .int p4] g e k X := by
  refine hent (M := zm_X8_holdsWith) (show hT 1046 = some (.inr _) from rfl) rfl rfl rfl rfl rfl ?_
  refine zq_iload (pc' := 1) rfl rfl rfl rfl ?_
  refine zq_iflt_c (pc' := 4) (lt := [(0, .ref 1046), (1, .int p1), (2, .int p2), (3, .int p3), (4, .int p4)]) (lf := [(0, .ref 1046), (1, .int p1), (2, .int p2), (3, .int p3), (4, .int p4)]) rfl rfl rfl rfl (And.intro (fun c => ?_) (fun c => ?_))
  · have H := H.1 c
    exact H
  · have H := H.2 c
    refine zq_iload (pc' := 5) rfl rfl rfl rfl ?_
    refine zq_aload (pc' := 6) rfl rfl rfl rfl ?_
    refine zq_getR (pc' := 9) rfl rfl rfl (hp_gC rfl) ?_
    refine zq_iload (pc' := 10) rfl rfl rfl rfl ?_
    obtain ⟨hi1, H⟩ := H
    refine zq_iald (pc' := 11) rfl rfl rfl (hp_ia rfl hi1) ?_
    refine zq_icge_c (pc' := 14) (lt := [(0, .ref 1046), (1, .int p1), (2, .int p2), (3, .int p3), (4, .int p4)]) (lf := [(0, .ref 1046), (1, .int p1), (2, .int p2), (3, .int p3), (4, .int p4)]) rfl rfl rfl rfl (And.intro (fun c => ?_) (fun c => ?_))
    · have H := H.1 c
      exact H
    · have H := H.2 c
      refine zq_iload (pc' := 16) rfl rfl rfl rfl ?_
      refine zq_iflt_c (pc' := 19) (lt := [(0, .ref 1046), (1, .int p1), (2, .int p2), (3, .int p3), (4, .int p4)]) (lf := [(0, .ref 1046), (1, .int p1), (2, .int p2), (3, .int p3), (4, .int p4)]) rfl rfl rfl rfl (And.intro (fun c => ?_) (fun c => ?_))
      · have H := H.1 c
        exact H
      · have H := H.2 c
        refine zq_iload (pc' := 21) rfl rfl rfl rfl ?_
        refine zq_aload (pc' := 22) rfl rfl rfl rfl ?_
        refine zq_getR (pc' := 25) rfl rfl rfl (hp_gC rfl) ?_
        refine zq_iload (pc' := 26) rfl rfl rfl rfl ?_
        obtain ⟨hi2, H⟩ := H
        refine zq_iald (pc' := 27) rfl rfl rfl (hp_ia rfl hi2) ?_
        refine zq_icge_c (pc' := 30) (lt := [(0, .ref 1046), (1, .int p1), (2, .int p2), (3, .int p3), (4, .int p4)]) (lf := [(0, .ref 1046), (1, .int p1), (2, .int p2), (3, .int p3), (4, .int p4)]) rfl rfl rfl rfl (And.intro (fun c => ?_) (fun c => ?_))
        · have H := H.1 c
          exact H
        · have H := H.2 c
          refine zq_ipush (pc' := 31) rfl rfl rfl ?_
          refine zq_goto (pc' := 35) rfl rfl rfl ?_
          refine zq_istore (pc' := 37) rfl rfl rfl ?_
          refine zq_iload (pc' := 39) rfl rfl rfl rfl ?_
          refine zq_ifeq (pc' := 42) rfl rfl rfl rfl (And.intro (fun c => ?_) (fun c => ?_))
          · have H := H.1 c
            refine zq_ipush (pc' := 72) rfl rfl rfl ?_
            exact zq_iret rfl trivial (Exists.intro _ (Exists.intro _ (And.intro rfl H)))
          · have H := H.2 c
            refine zq_aload (pc' := 43) rfl rfl rfl rfl ?_
            refine zq_getR (pc' := 46) rfl rfl rfl (hp_gC rfl) ?_
            refine zq_ipush (pc' := 48) rfl rfl rfl ?_
            refine zq_iload (pc' := 49) rfl rfl rfl rfl ?_
            refine zq_imul (pc' := 50) rfl rfl rfl ?_
            refine zq_iload (pc' := 51) rfl rfl rfl rfl ?_
            refine zq_iadd (pc' := 52) rfl rfl rfl ?_
            obtain ⟨hi3, H⟩ := H
            refine zq_iald (pc' := 53) rfl rfl rfl (hp_ia rfl hi3) ?_
            refine zq_aload (pc' := 54) rfl rfl rfl rfl ?_
            refine zq_getR (pc' := 57) rfl rfl rfl (hp_gC rfl) ?_
            refine zq_ipush (pc' := 59) rfl rfl rfl ?_
            refine zq_iload (pc' := 60) rfl rfl rfl rfl ?_
            refine zq_imul (pc' := 61) rfl rfl rfl ?_
            refine zq_iload (pc' := 63) rfl rfl rfl rfl ?_
            refine zq_iadd (pc' := 64) rfl rfl rfl ?_
            obtain ⟨hi4, H⟩ := H
            refine zq_iald (pc' := 65) rfl rfl rfl (hp_ia rfl hi4) ?_
            refine hq_calli (pc' := 68) rfl rfl rfl rfl rfl rfl h_Xi ?_
            refine hmonoi H ?_
            intro x7 g5 e6 H
            refine zq_goto (pc' := 72) rfl rfl rfl ?_
            exact zq_iret rfl trivial (Exists.intro _ (Exists.intro _ (And.intro rfl H)))
theorem zh_X8_holdsWith_34 {d : Nat} {k : Int32 → hG → hE → Prop} {X : Nat → hG → hE → Prop} {l1 : Int32} {l2 : Int32} {l3 : Int32} {l4 : Int32} {g : hG} {e : hE} (H :
    zbr ((0 : Int32) = 0)
    (k 0 g e)
    (hin ((16 * l1) + l2) 64 ∧
      hin ((16 * l3) + l4) 64 ∧
      hci d 3 [.int (g.1 1060 ((16 * l1) + l2).toNatClampNeg), .int (g.1 1061 ((16 * l3) + l4).toNatClampNeg)] g e (fun x5 g3 e4 =>
        k x5 g3 e4) X)) : hwi d zm_X8_holdsWith k X 34 [(0, .ref 1046), (1, .int l1), (2, .int l2), (3, .int l3), (4, .int l4)] g e := by
  refine zq_ipush (pc' := 35) rfl rfl rfl ?_
  refine zq_istore (pc' := 37) rfl rfl rfl ?_
  refine zq_iload (pc' := 39) rfl rfl rfl rfl ?_
  refine zq_ifeq (pc' := 42) rfl rfl rfl rfl (And.intro (fun c => ?_) (fun c => ?_))
  · have H := H.1 c
    refine zq_ipush (pc' := 72) rfl rfl rfl ?_
    exact zq_iret rfl trivial (Exists.intro _ (Exists.intro _ (And.intro rfl H)))
  · have H := H.2 c
    refine zq_aload (pc' := 43) rfl rfl rfl rfl ?_
    refine zq_getR (pc' := 46) rfl rfl rfl (hp_gC rfl) ?_
    refine zq_ipush (pc' := 48) rfl rfl rfl ?_
    refine zq_iload (pc' := 49) rfl rfl rfl rfl ?_
    refine zq_imul (pc' := 50) rfl rfl rfl ?_
    refine zq_iload (pc' := 51) rfl rfl rfl rfl ?_
    refine zq_iadd (pc' := 52) rfl rfl rfl ?_
    obtain ⟨hi1, H⟩ := H
    refine zq_iald (pc' := 53) rfl rfl rfl (hp_ia rfl hi1) ?_
    refine zq_aload (pc' := 54) rfl rfl rfl rfl ?_
    refine zq_getR (pc' := 57) rfl rfl rfl (hp_gC rfl) ?_
    refine zq_ipush (pc' := 59) rfl rfl rfl ?_
    refine zq_iload (pc' := 60) rfl rfl rfl rfl ?_
    refine zq_imul (pc' := 61) rfl rfl rfl ?_
    refine zq_iload (pc' := 63) rfl rfl rfl rfl ?_
    refine zq_iadd (pc' := 64) rfl rfl rfl ?_
    obtain ⟨hi2, H⟩ := H
    refine zq_iald (pc' := 65) rfl rfl rfl (hp_ia rfl hi2) ?_
    refine hq_calli (pc' := 68) rfl rfl rfl rfl rfl rfl h_Xi ?_
    refine hmonoi H ?_
    intro x5 g3 e4 H
    refine zq_goto (pc' := 72) rfl rfl rfl ?_
    exact zq_iret rfl trivial (Exists.intro _ (Exists.intro _ (And.intro rfl H)))
theorem zh_X8_sewnAt {d : Nat} {k : Int32 → hG → hE → Prop} {X : Nat → hG → hE → Prop} {p1 : Int32} {p2 : Int32} {p3 : Int32} {g : hG} {e : hE} (H :
    hwi d zm_X8_sewnAt k X 6 [(0, .ref 1046), (1, .int p1), (2, .int p2), (3, .int p3), (4, .int 0), (5, .int 0)] g e) : hci (d + 1) 301 [.ref 1046, .int p1, .int p2, .int p3] g e k X := by
  refine hent (M := zm_X8_sewnAt) (show hT 1046 = some (.inr _) from rfl) rfl rfl rfl rfl rfl ?_
  refine zq_ipush (pc' := 1) rfl rfl rfl ?_
  refine zq_istore (pc' := 3) rfl rfl rfl ?_
  refine zq_ipush (pc' := 4) rfl rfl rfl ?_
  refine zq_istore_c (pc' := 6) rfl rfl ?_
  exact H
theorem zh_X8_sewnAt_6 {d : Nat} {k : Int32 → hG → hE → Prop} {X : Nat → hG → hE → Prop} {l1 : Int32} {l2 : Int32} {l3 : Int32} {l4 : Int32} {l5 : Int32} {g : hG} {e : hE} (H :
    hin l2 8 ∧
    zbr ((g.1 1052 l2.toNatClampNeg) ≤ l5)
    (k l4 g e)
    (hci d 300 [.ref 1046, .int l1, .int (l5 + l3), .int l2, .int l5] g e (fun x4 g2 e3 =>
        hwi d zm_X8_sewnAt k X 6 [(0, .ref 1046), (1, .int l1), (2, .int l2), (3, .int l3), (4, .int (l4 + x4)), (5, .int (l5 + 1))] g2 e3) X)) : hwi d zm_X8_sewnAt k X 6 [(0, .ref 1046), (1, .int l1), (2, .int l2), (3, .int l3), (4, .int l4), (5, .int l5)] g e := by
  refine zq_iload (pc' := 8) rfl rfl rfl rfl ?_
  refine zq_aload (pc' := 9) rfl rfl rfl rfl ?_
  refine zq_getR (pc' := 12) rfl rfl rfl (hp_gC rfl) ?_
  refine zq_iload (pc' := 13) rfl rfl rfl rfl ?_
  obtain ⟨hi1, H⟩ := H
  refine zq_iald (pc' := 14) rfl rfl rfl (hp_ia rfl hi1) ?_
  refine zq_icge (pc' := 17) rfl rfl rfl rfl (And.intro (fun c => ?_) (fun c => ?_))
  · have H := H.1 c
    refine zq_iload (pc' := 42) rfl rfl rfl rfl ?_
    exact zq_iret rfl trivial (Exists.intro _ (Exists.intro _ (And.intro rfl H)))
  · have H := H.2 c
    refine zq_iload (pc' := 19) rfl rfl rfl rfl ?_
    refine zq_aload (pc' := 20) rfl rfl rfl rfl ?_
    refine zq_iload (pc' := 21) rfl rfl rfl rfl ?_
    refine zq_iload (pc' := 23) rfl rfl rfl rfl ?_
    refine zq_iload (pc' := 24) rfl rfl rfl rfl ?_
    refine zq_iadd (pc' := 25) rfl rfl rfl ?_
    refine zq_iload (pc' := 26) rfl rfl rfl rfl ?_
    refine zq_iload (pc' := 28) rfl rfl rfl rfl ?_
    refine hq_calli (pc' := 31) rfl rfl rfl rfl rfl rfl h_Xi ?_
    refine hmonoi H ?_
    intro x4 g2 e3 H
    refine zq_iadd (pc' := 32) rfl rfl rfl ?_
    refine zq_istore (pc' := 34) rfl rfl rfl ?_
    refine zq_iinc (pc' := 37) rfl rfl rfl rfl ?_
    refine zq_goto_c (pc' := 6) rfl rfl ?_
    exact H
theorem zh_X8_offset {d : Nat} {k : Int32 → hG → hE → Prop} {X : Nat → hG → hE → Prop} {p1 : Int32} {p2 : Int32} {p3 : Int32} {g : hG} {e : hE} (H :
    hci d 220 [.ref 1046, .int p1] (sI g 1046 4 0) e (fun x3 g1 e2 =>
      zbr (x3 = 0)
      (hci d 215 [.ref 1046, .int 1] g1 e2 (fun x6 g4 e5 =>
          k x6 g4 e5) X)
      (hci d 220 [.ref 1046, .int p2] g1 e2 (fun x9 g7 e8 =>
          zbr (x9 = 0)
          (hci d 215 [.ref 1046, .int 1] g7 e8 (fun x12 g10 e11 =>
              k x12 g10 e11) X)
          (hci d 217 [.long ((p3 : Int32).toInt64), .long 0, .long 1] g7 e8 (fun x15 g13 e14 =>
              zbr (x15 = 0)
              (hci d 215 [.ref 1046, .int 1] g13 e14 (fun x18 g16 e17 =>
                  k x18 g16 e17) X)
              (hin p2 8 ∧
                hwi d zm_X8_offset k X 53 [(0, .ref 1046), (1, .int p1), (2, .int p2), (3, .int p3), (4, .int 0), (5, .int (-1)), (6, .int (1 - (g13.1 1052 p2.toNatClampNeg)))] g13 e14)) X)) X)) X) : hci (d + 1) 302 [.ref 1046, .int p1, .int p2, .int p3] g e k X := by
  refine hent (M := zm_X8_offset) (show hT 1046 = some (.inr _) from rfl) rfl rfl rfl rfl rfl ?_
  refine zq_aload (pc' := 1) rfl rfl rfl rfl ?_
  refine zq_ipush (pc' := 2) rfl rfl rfl ?_
  refine zq_put (pc' := 5) rfl rfl rfl trivial (hp_sI rfl) ?_
  refine zq_aload (pc' := 6) rfl rfl rfl rfl ?_
  refine zq_iload (pc' := 7) rfl rfl rfl rfl ?_
  refine hq_calli (pc' := 10) rfl rfl rfl rfl rfl rfl h_Xi ?_
  refine hmonoi H ?_
  intro x3 g1 e2 H
  refine zq_ifeq (pc' := 13) rfl rfl rfl rfl (And.intro (fun c => ?_) (fun c => ?_))
  · have H := H.1 c
    refine zq_aload (pc' := 32) rfl rfl rfl rfl ?_
    refine zq_ipush (pc' := 33) rfl rfl rfl ?_
    refine hq_calli (pc' := 36) rfl rfl rfl rfl rfl rfl h_Xi ?_
    refine hmonoi H ?_
    intro x6 g4 e5 H
    exact zq_iret rfl trivial (Exists.intro _ (Exists.intro _ (And.intro rfl H)))
  · have H := H.2 c
    refine zq_aload (pc' := 14) rfl rfl rfl rfl ?_
    refine zq_iload (pc' := 15) rfl rfl rfl rfl ?_
    refine hq_calli (pc' := 18) rfl rfl rfl rfl rfl rfl h_Xi ?_
    refine hmonoi H ?_
    intro x9 g7 e8 H
    refine zq_ifeq (pc' := 21) rfl rfl rfl rfl (And.intro (fun c => ?_) (fun c => ?_))
    · have H := H.1 c
      refine zq_aload (pc' := 32) rfl rfl rfl rfl ?_
      refine zq_ipush (pc' := 33) rfl rfl rfl ?_
      refine hq_calli (pc' := 36) rfl rfl rfl rfl rfl rfl h_Xi ?_
      refine hmonoi H ?_
      intro x12 g10 e11 H
      exact zq_iret rfl trivial (Exists.intro _ (Exists.intro _ (And.intro rfl H)))
    · have H := H.2 c
      refine zq_iload (pc' := 22) rfl rfl rfl rfl ?_
      refine zq_i2l (pc' := 23) rfl rfl rfl ?_
      refine zq_lpush (pc' := 24) rfl rfl rfl ?_
      refine zq_lpush (pc' := 25) rfl rfl rfl ?_
      refine hq_calli (pc' := 28) rfl rfl rfl rfl rfl rfl h_Xi ?_
      refine hmonoi H ?_
      intro x15 g13 e14 H
      refine zq_ifne (pc' := 31) rfl rfl rfl rfl (And.intro (fun c => ?_) (fun c => ?_))
      · have H := H.1 c
        refine zq_aload (pc' := 32) rfl rfl rfl rfl ?_
        refine zq_ipush (pc' := 33) rfl rfl rfl ?_
        refine hq_calli (pc' := 36) rfl rfl rfl rfl rfl rfl h_Xi ?_
        refine hmonoi H ?_
        intro x18 g16 e17 H
        exact zq_iret rfl trivial (Exists.intro _ (Exists.intro _ (And.intro rfl H)))
      · have H := H.2 c
        refine zq_ipush (pc' := 38) rfl rfl rfl ?_
        refine zq_istore (pc' := 40) rfl rfl rfl ?_
        refine zq_ipushn (pc' := 41) rfl rfl rfl ?_
        refine zq_istore (pc' := 43) rfl rfl rfl ?_
        refine zq_ipush (pc' := 44) rfl rfl rfl ?_
        refine zq_aload (pc' := 45) rfl rfl rfl rfl ?_
        refine zq_getR (pc' := 48) rfl rfl rfl (hp_gC rfl) ?_
        refine zq_iload (pc' := 49) rfl rfl rfl rfl ?_
        obtain ⟨hi19, H⟩ := H
        refine zq_iald (pc' := 50) rfl rfl rfl (hp_ia rfl hi19) ?_
        refine zq_isub (pc' := 51) rfl rfl rfl ?_
        refine zq_istore_c (pc' := 53) rfl rfl ?_
        exact H
theorem zh_X8_offset_53 {d : Nat} {k : Int32 → hG → hE → Prop} {X : Nat → hG → hE → Prop} {l1 : Int32} {l2 : Int32} {l3 : Int32} {l4 : Int32} {l5 : Int32} {l6 : Int32} {g : hG} {e : hE} (H :
    hin l1 8 ∧
    zbr ((g.1 1052 l1.toNatClampNeg) ≤ l6)
    (zbr (l3 = 0)
      (k l4 g e)
      (k l5 g e))
    (hci d 301 [.ref 1046, .int l1, .int l2, .int l6] g e (fun x4 g2 e3 =>
        zbr (l5 < x4)
        (hwi d zm_X8_offset k X 53 [(0, .ref 1046), (1, .int l1), (2, .int l2), (3, .int l3), (4, .int l6), (5, .int x4), (6, .int (l6 + 1))] g2 e3)
        (hwi d zm_X8_offset k X 53 [(0, .ref 1046), (1, .int l1), (2, .int l2), (3, .int l3), (4, .int l4), (5, .int l5), (6, .int (l6 + 1))] g2 e3)) X)) : hwi d zm_X8_offset k X 53 [(0, .ref 1046), (1, .int l1), (2, .int l2), (3, .int l3), (4, .int l4), (5, .int l5), (6, .int l6)] g e := by
  refine zq_iload (pc' := 55) rfl rfl rfl rfl ?_
  refine zq_aload (pc' := 56) rfl rfl rfl rfl ?_
  refine zq_getR (pc' := 59) rfl rfl rfl (hp_gC rfl) ?_
  refine zq_iload (pc' := 60) rfl rfl rfl rfl ?_
  obtain ⟨hi1, H⟩ := H
  refine zq_iald (pc' := 61) rfl rfl rfl (hp_ia rfl hi1) ?_
  refine zq_icge (pc' := 64) rfl rfl rfl rfl (And.intro (fun c => ?_) (fun c => ?_))
  · have H := H.1 c
    refine zq_iload (pc' := 99) rfl rfl rfl rfl ?_
    refine zq_ifne (pc' := 102) rfl rfl rfl rfl (And.intro (fun c => ?_) (fun c => ?_))
    · have H := H.1 c
      refine zq_iload (pc' := 104) rfl rfl rfl rfl ?_
      refine zq_goto (pc' := 109) rfl rfl rfl ?_
      exact zq_iret rfl trivial (Exists.intro _ (Exists.intro _ (And.intro rfl H)))
    · have H := H.2 c
      refine zq_iload (pc' := 109) rfl rfl rfl rfl ?_
      exact zq_iret rfl trivial (Exists.intro _ (Exists.intro _ (And.intro rfl H)))
  · have H := H.2 c
    refine zq_aload (pc' := 65) rfl rfl rfl rfl ?_
    refine zq_iload (pc' := 66) rfl rfl rfl rfl ?_
    refine zq_iload (pc' := 67) rfl rfl rfl rfl ?_
    refine zq_iload (pc' := 69) rfl rfl rfl rfl ?_
    refine hq_calli (pc' := 72) rfl rfl rfl rfl rfl rfl h_Xi ?_
    refine hmonoi H ?_
    intro x4 g2 e3 H
    refine zq_istore (pc' := 74) rfl rfl rfl ?_
    refine zq_iload (pc' := 76) rfl rfl rfl rfl ?_
    refine zq_iload (pc' := 78) rfl rfl rfl rfl ?_
    refine zq_icgt (pc' := 81) rfl rfl rfl rfl (And.intro (fun c => ?_) (fun c => ?_))
    · have H := H.1 c
      refine zq_iload (pc' := 86) rfl rfl rfl rfl ?_
      refine zq_istore (pc' := 88) rfl rfl rfl ?_
      refine zq_iload (pc' := 90) rfl rfl rfl rfl ?_
      refine zq_istore (pc' := 92) rfl rfl rfl ?_
      refine zq_iinc (pc' := 95) rfl rfl rfl rfl ?_
      refine zq_goto_c (pc' := 53) rfl rfl ?_
      exact H
    · have H := H.2 c
      refine zq_goto (pc' := 92) rfl rfl rfl ?_
      refine zq_iinc (pc' := 95) rfl rfl rfl rfl ?_
      refine zq_goto_c (pc' := 53) rfl rfl ?_
      exact H
theorem zh_X8_meshedAt {d : Nat} {k : Int32 → hG → hE → Prop} {X : Nat → hG → hE → Prop} {p1 : Int32} {p2 : Int32} {p3 : Int32} {p4 : Int32} {g : hG} {e : hE} (H :
    hci d 300 [.ref 1046, .int p1, .int p3, .int p2, .int p4] g e (fun x3 g1 e2 =>
      zbr (x3 = 0)
      (k (-1) g1 e2)
      (hin (((18 * (p3 + 1)) + p4) + 1) 324 ∧
        k (x3 + (g1.1 1071 (((18 * (p3 + 1)) + p4) + 1).toNatClampNeg)) g1 e2)) X) : hci (d + 1) 303 [.ref 1046, .int p1, .int p2, .int p3, .int p4] g e k X := by
  refine hent (M := zm_X8_meshedAt) (show hT 1046 = some (.inr _) from rfl) rfl rfl rfl rfl rfl ?_
  refine zq_aload (pc' := 1) rfl rfl rfl rfl ?_
  refine zq_iload (pc' := 2) rfl rfl rfl rfl ?_
  refine zq_iload (pc' := 3) rfl rfl rfl rfl ?_
  refine zq_iload (pc' := 4) rfl rfl rfl rfl ?_
  refine zq_iload (pc' := 6) rfl rfl rfl rfl ?_
  refine hq_calli (pc' := 9) rfl rfl rfl rfl rfl rfl h_Xi ?_
  refine hmonoi H ?_
  intro x3 g1 e2 H
  refine zq_istore (pc' := 11) rfl rfl rfl ?_
  refine zq_iload (pc' := 13) rfl rfl rfl rfl ?_
  refine zq_ifne (pc' := 16) rfl rfl rfl rfl (And.intro (fun c => ?_) (fun c => ?_))
  · have H := H.1 c
    refine zq_ipushn (pc' := 17) rfl rfl rfl ?_
    refine zq_goto (pc' := 39) rfl rfl rfl ?_
    exact zq_iret rfl trivial (Exists.intro _ (Exists.intro _ (And.intro rfl H)))
  · have H := H.2 c
    refine zq_iload (pc' := 22) rfl rfl rfl rfl ?_
    refine zq_aload (pc' := 23) rfl rfl rfl rfl ?_
    refine zq_getR (pc' := 26) rfl rfl rfl (hp_gC rfl) ?_
    refine zq_ipush (pc' := 28) rfl rfl rfl ?_
    refine zq_iload (pc' := 29) rfl rfl rfl rfl ?_
    refine zq_ipush (pc' := 30) rfl rfl rfl ?_
    refine zq_iadd (pc' := 31) rfl rfl rfl ?_
    refine zq_imul (pc' := 32) rfl rfl rfl ?_
    refine zq_iload (pc' := 34) rfl rfl rfl rfl ?_
    refine zq_iadd (pc' := 35) rfl rfl rfl ?_
    refine zq_ipush (pc' := 36) rfl rfl rfl ?_
    refine zq_iadd (pc' := 37) rfl rfl rfl ?_
    obtain ⟨hi4, H⟩ := H
    refine zq_iald (pc' := 38) rfl rfl rfl (hp_ia rfl hi4) ?_
    refine zq_iadd (pc' := 39) rfl rfl rfl ?_
    exact zq_iret rfl trivial (Exists.intro _ (Exists.intro _ (And.intro rfl H)))
theorem zh_X8_tellMesh {d : Nat} {k : hG → hE → Prop} {X : Nat → hG → hE → Prop} {p1 : Int32} {p2 : Int32} {g : hG} {e : hE} (H :
    hwv d zm_X8_tellMesh k X 2 [(0, .ref 1046), (1, .int p1), (2, .int p2), (3, .int 0)] g e) : hcv (d + 1) 304 [.ref 1046, .int p1, .int p2] g e k X := by
  refine hent (M := zm_X8_tellMesh) (show hT 1046 = some (.inr _) from rfl) rfl rfl rfl rfl rfl ?_
  refine zq_ipush (pc' := 1) rfl rfl rfl ?_
  refine zq_istore_c (pc' := 2) rfl rfl ?_
  exact H
theorem zh_X8_tellMesh_2 {d : Nat} {k : hG → hE → Prop} {X : Nat → hG → hE → Prop} {l1 : Int32} {l2 : Int32} {l3 : Int32} {g : hG} {e : hE} (H :
    zbr ((nI 324) ≤ l3)
    (hin l1 8 ∧
      hwv d zm_X8_tellMesh k X 33 [(0, .ref 1046), (1, .int l1), (2, .int l2), (3, .int ((g.1 1052 l1.toNatClampNeg) - 1))] g e)
    (hin l3 324 ∧
      hwv d zm_X8_tellMesh k X 2 [(0, .ref 1046), (1, .int l1), (2, .int l2), (3, .int (l3 + 1))] (sI g 1071 l3.toNatClampNeg 0) e)) : hwv d zm_X8_tellMesh k X 2 [(0, .ref 1046), (1, .int l1), (2, .int l2), (3, .int l3)] g e := by
  refine zq_iload (pc' := 3) rfl rfl rfl rfl ?_
  refine zq_aload (pc' := 4) rfl rfl rfl rfl ?_
  refine zq_getR (pc' := 7) rfl rfl rfl (hp_gC rfl) ?_
  refine zq_alen (pc' := 8) rfl rfl rfl (hp_al rfl rfl) ?_
  refine zq_icge (pc' := 11) rfl rfl rfl rfl (And.intro (fun c => ?_) (fun c => ?_))
  · have H := H.1 c
    refine zq_aload (pc' := 25) rfl rfl rfl rfl ?_
    refine zq_getR (pc' := 28) rfl rfl rfl (hp_gC rfl) ?_
    refine zq_iload (pc' := 29) rfl rfl rfl rfl ?_
    obtain ⟨hi1, H⟩ := H
    refine zq_iald (pc' := 30) rfl rfl rfl (hp_ia rfl hi1) ?_
    refine zq_ipush (pc' := 31) rfl rfl rfl ?_
    refine zq_isub (pc' := 32) rfl rfl rfl ?_
    refine zq_istore_c (pc' := 33) rfl rfl ?_
    exact H
  · have H := H.2 c
    refine zq_aload (pc' := 12) rfl rfl rfl rfl ?_
    refine zq_getR (pc' := 15) rfl rfl rfl (hp_gC rfl) ?_
    refine zq_iload (pc' := 16) rfl rfl rfl rfl ?_
    refine zq_ipush (pc' := 17) rfl rfl rfl ?_
    obtain ⟨hi2, H⟩ := H
    refine zq_iast (pc' := 18) rfl rfl rfl (hp_is rfl hi2) ?_
    refine zq_iinc (pc' := 21) rfl rfl rfl rfl ?_
    refine zq_goto_c (pc' := 2) rfl rfl ?_
    exact H
theorem zh_X8_tellMesh_33 {d : Nat} {k : hG → hE → Prop} {X : Nat → hG → hE → Prop} {l1 : Int32} {l2 : Int32} {l3 : Int32} {g : hG} {e : hE} (H :
    zbr (l3 < 0)
    (k g e)
    (hin l2 8 ∧
      hwv d zm_X8_tellMesh k X 47 [(0, .ref 1046), (1, .int l1), (2, .int l2), (3, .int l3), (4, .int ((g.1 1052 l2.toNatClampNeg) - 1))] g e)) : hwv d zm_X8_tellMesh k X 33 [(0, .ref 1046), (1, .int l1), (2, .int l2), (3, .int l3)] g e := by
  refine zq_iload (pc' := 34) rfl rfl rfl rfl ?_
  refine zq_iflt (pc' := 37) rfl rfl rfl rfl (And.intro (fun c => ?_) (fun c => ?_))
  · have H := H.1 c
    exact zq_vret rfl (Exists.intro _ (Exists.intro _ (And.intro rfl H)))
  · have H := H.2 c
    refine zq_aload (pc' := 38) rfl rfl rfl rfl ?_
    refine zq_getR (pc' := 41) rfl rfl rfl (hp_gC rfl) ?_
    refine zq_iload (pc' := 42) rfl rfl rfl rfl ?_
    obtain ⟨hi1, H⟩ := H
    refine zq_iald (pc' := 43) rfl rfl rfl (hp_ia rfl hi1) ?_
    refine zq_ipush (pc' := 44) rfl rfl rfl ?_
    refine zq_isub (pc' := 45) rfl rfl rfl ?_
    refine zq_istore_c (pc' := 47) rfl rfl ?_
    exact H
theorem zh_X8_tellMesh_47 {d : Nat} {k : hG → hE → Prop} {X : Nat → hG → hE → Prop} {l1 : Int32} {l2 : Int32} {l3 : Int32} {l4 : Int32} {g : hG} {e : hE} (H :
    zbr (l4 < 0)
    (hwv d zm_X8_tellMesh k X 33 [(0, .ref 1046), (1, .int l1), (2, .int l2), (3, .int (l3 + (-1)))] g e)
    (hin ((18 * (l3 + 1)) + l4) 324 ∧
      hin (((18 * l3) + l4) + 1) 324 ∧
      hci d 2 [.int (g.1 1071 ((18 * (l3 + 1)) + l4).toNatClampNeg), .int (g.1 1071 (((18 * l3) + l4) + 1).toNatClampNeg)] g e (fun x5 g3 e4 =>
        hci d 303 [.ref 1046, .int l1, .int l2, .int l3, .int l4] g3 e4 (fun x8 g6 e7 =>
          hci d 2 [.int x5, .int x8] g6 e7 (fun x11 g9 e10 =>
            hin ((18 * l3) + l4) 324 ∧
            hwv d zm_X8_tellMesh k X 47 [(0, .ref 1046), (1, .int l1), (2, .int l2), (3, .int l3), (4, .int (l4 + (-1)))] (sI g9 1071 ((18 * l3) + l4).toNatClampNeg x11) e10) X) X) X)) : hwv d zm_X8_tellMesh k X 47 [(0, .ref 1046), (1, .int l1), (2, .int l2), (3, .int l3), (4, .int l4)] g e := by
  refine zq_iload (pc' := 49) rfl rfl rfl rfl ?_
  refine zq_iflt (pc' := 52) rfl rfl rfl rfl (And.intro (fun c => ?_) (fun c => ?_))
  · have H := H.1 c
    refine zq_iincn (pc' := 120) rfl rfl rfl rfl ?_
    refine zq_goto_c (pc' := 33) rfl rfl ?_
    exact H
  · have H := H.2 c
    refine zq_aload (pc' := 53) rfl rfl rfl rfl ?_
    refine zq_getR (pc' := 56) rfl rfl rfl (hp_gC rfl) ?_
    refine zq_ipush (pc' := 58) rfl rfl rfl ?_
    refine zq_iload (pc' := 59) rfl rfl rfl rfl ?_
    refine zq_ipush (pc' := 60) rfl rfl rfl ?_
    refine zq_iadd (pc' := 61) rfl rfl rfl ?_
    refine zq_imul (pc' := 62) rfl rfl rfl ?_
    refine zq_iload (pc' := 64) rfl rfl rfl rfl ?_
    refine zq_iadd (pc' := 65) rfl rfl rfl ?_
    obtain ⟨hi1, H⟩ := H
    refine zq_iald (pc' := 66) rfl rfl rfl (hp_ia rfl hi1) ?_
    refine zq_aload (pc' := 67) rfl rfl rfl rfl ?_
    refine zq_getR (pc' := 70) rfl rfl rfl (hp_gC rfl) ?_
    refine zq_ipush (pc' := 72) rfl rfl rfl ?_
    refine zq_iload (pc' := 73) rfl rfl rfl rfl ?_
    refine zq_imul (pc' := 74) rfl rfl rfl ?_
    refine zq_iload (pc' := 76) rfl rfl rfl rfl ?_
    refine zq_iadd (pc' := 77) rfl rfl rfl ?_
    refine zq_ipush (pc' := 78) rfl rfl rfl ?_
    refine zq_iadd (pc' := 79) rfl rfl rfl ?_
    obtain ⟨hi2, H⟩ := H
    refine zq_iald (pc' := 80) rfl rfl rfl (hp_ia rfl hi2) ?_
    refine hq_calli (pc' := 83) rfl rfl rfl rfl rfl rfl h_Xv ?_
    refine hmonoi H ?_
    intro x5 g3 e4 H
    refine zq_istore (pc' := 85) rfl rfl rfl ?_
    refine zq_aload (pc' := 86) rfl rfl rfl rfl ?_
    refine zq_getR (pc' := 89) rfl rfl rfl (hp_gC rfl) ?_
    refine zq_ipush (pc' := 91) rfl rfl rfl ?_
    refine zq_iload (pc' := 92) rfl rfl rfl rfl ?_
    refine zq_imul (pc' := 93) rfl rfl rfl ?_
    refine zq_iload (pc' := 95) rfl rfl rfl rfl ?_
    refine zq_iadd (pc' := 96) rfl rfl rfl ?_
    refine zq_iload (pc' := 98) rfl rfl rfl rfl ?_
    refine zq_aload (pc' := 99) rfl rfl rfl rfl ?_
    refine zq_iload (pc' := 100) rfl rfl rfl rfl ?_
    refine zq_iload (pc' := 101) rfl rfl rfl rfl ?_
    refine zq_iload (pc' := 102) rfl rfl rfl rfl ?_
    refine zq_iload (pc' := 104) rfl rfl rfl rfl ?_
    refine hq_calli (pc' := 107) rfl rfl rfl rfl rfl rfl h_Xv ?_
    refine hmonoi H ?_
    intro x8 g6 e7 H
    refine hq_calli (pc' := 110) rfl rfl rfl rfl rfl rfl h_Xv ?_
    refine hmonoi H ?_
    intro x11 g9 e10 H
    obtain ⟨hi12, H⟩ := H
    refine zq_iast (pc' := 111) rfl rfl rfl (hp_is rfl hi12) ?_
    refine zq_iincn (pc' := 114) rfl rfl rfl rfl ?_
    refine zq_goto_c (pc' := 47) rfl rfl ?_
    exact H
theorem zh_X8_mesh {d : Nat} {k : Int32 → hG → hE → Prop} {X : Nat → hG → hE → Prop} {p1 : Int32} {p2 : Int32} {p3 : Int32} {g : hG} {e : hE} (H :
    hci d 220 [.ref 1046, .int p1] (sI g 1046 4 0) e (fun x3 g1 e2 =>
      zbr (x3 = 0)
      (hci d 215 [.ref 1046, .int 1] g1 e2 (fun x6 g4 e5 =>
          k x6 g4 e5) X)
      (hci d 220 [.ref 1046, .int p2] g1 e2 (fun x9 g7 e8 =>
          zbr (x9 = 0)
          (hci d 215 [.ref 1046, .int 1] g7 e8 (fun x12 g10 e11 =>
              k x12 g10 e11) X)
          (hin p1 8 ∧
            hci d 217 [.long ((p3 : Int32).toInt64), .long (-1), .long (((g7.1 1052 p1.toNatClampNeg) - 1 : Int32).toInt64)] g7 e8 (fun x16 g14 e15 =>
              zbr (x16 = 0)
              (hci d 215 [.ref 1046, .int 1] g14 e15 (fun x19 g17 e18 =>
                  k x19 g17 e18) X)
              (hcv d 304 [.ref 1046, .int p1, .int p2] g14 e15 (fun g20 e21 =>
                  zbr (p3 = (-1))
                  (k (g20.1 1071 0) g20 e21)
                  (hwi d zm_X8_mesh k X 74 [(0, .ref 1046), (1, .int p1), (2, .int p2), (3, .int p3), (4, .int 0), (5, .int (-1)), (6, .int 0)] g20 e21)) X)) X)) X)) X) : hci (d + 1) 305 [.ref 1046, .int p1, .int p2, .int p3] g e k X := by
  refine hent (M := zm_X8_mesh) (show hT 1046 = some (.inr _) from rfl) rfl rfl rfl rfl rfl ?_
  refine zq_aload (pc' := 1) rfl rfl rfl rfl ?_
  refine zq_ipush (pc' := 2) rfl rfl rfl ?_
  refine zq_put (pc' := 5) rfl rfl rfl trivial (hp_sI rfl) ?_
  refine zq_aload (pc' := 6) rfl rfl rfl rfl ?_
  refine zq_iload (pc' := 7) rfl rfl rfl rfl ?_
  refine hq_calli (pc' := 10) rfl rfl rfl rfl rfl rfl h_Xi ?_
  refine hmonoi H ?_
  intro x3 g1 e2 H
  refine zq_ifeq (pc' := 13) rfl rfl rfl rfl (And.intro (fun c => ?_) (fun c => ?_))
  · have H := H.1 c
    refine zq_aload (pc' := 42) rfl rfl rfl rfl ?_
    refine zq_ipush (pc' := 43) rfl rfl rfl ?_
    refine hq_calli (pc' := 46) rfl rfl rfl rfl rfl rfl h_Xi ?_
    refine hmonoi H ?_
    intro x6 g4 e5 H
    exact zq_iret rfl trivial (Exists.intro _ (Exists.intro _ (And.intro rfl H)))
  · have H := H.2 c
    refine zq_aload (pc' := 14) rfl rfl rfl rfl ?_
    refine zq_iload (pc' := 15) rfl rfl rfl rfl ?_
    refine hq_calli (pc' := 18) rfl rfl rfl rfl rfl rfl h_Xi ?_
    refine hmonoi H ?_
    intro x9 g7 e8 H
    refine zq_ifeq (pc' := 21) rfl rfl rfl rfl (And.intro (fun c => ?_) (fun c => ?_))
    · have H := H.1 c
      refine zq_aload (pc' := 42) rfl rfl rfl rfl ?_
      refine zq_ipush (pc' := 43) rfl rfl rfl ?_
      refine hq_calli (pc' := 46) rfl rfl rfl rfl rfl rfl h_Xi ?_
      refine hmonoi H ?_
      intro x12 g10 e11 H
      exact zq_iret rfl trivial (Exists.intro _ (Exists.intro _ (And.intro rfl H)))
    · have H := H.2 c
      refine zq_iload (pc' := 22) rfl rfl rfl rfl ?_
      refine zq_i2l (pc' := 23) rfl rfl rfl ?_
      refine zq_lpushn (pc' := 26) rfl rfl rfl ?_
      refine zq_aload (pc' := 27) rfl rfl rfl rfl ?_
      refine zq_getR (pc' := 30) rfl rfl rfl (hp_gC rfl) ?_
      refine zq_iload (pc' := 31) rfl rfl rfl rfl ?_
      obtain ⟨hi13, H⟩ := H
      refine zq_iald (pc' := 32) rfl rfl rfl (hp_ia rfl hi13) ?_
      refine zq_ipush (pc' := 33) rfl rfl rfl ?_
      refine zq_isub (pc' := 34) rfl rfl rfl ?_
      refine zq_i2l (pc' := 35) rfl rfl rfl ?_
      refine hq_calli (pc' := 38) rfl rfl rfl rfl rfl rfl h_Xi ?_
      refine hmonoi H ?_
      intro x16 g14 e15 H
      refine zq_ifne (pc' := 41) rfl rfl rfl rfl (And.intro (fun c => ?_) (fun c => ?_))
      · have H := H.1 c
        refine zq_aload (pc' := 42) rfl rfl rfl rfl ?_
        refine zq_ipush (pc' := 43) rfl rfl rfl ?_
        refine hq_calli (pc' := 46) rfl rfl rfl rfl rfl rfl h_Xi ?_
        refine hmonoi H ?_
        intro x19 g17 e18 H
        exact zq_iret rfl trivial (Exists.intro _ (Exists.intro _ (And.intro rfl H)))
      · have H := H.2 c
        refine zq_aload (pc' := 48) rfl rfl rfl rfl ?_
        refine zq_iload (pc' := 49) rfl rfl rfl rfl ?_
        refine zq_iload (pc' := 50) rfl rfl rfl rfl ?_
        refine hq_callv (pc' := 53) rfl rfl rfl rfl rfl rfl h_Xi ?_
        refine hmonov H ?_
        intro g20 e21 H
        refine zq_iload (pc' := 54) rfl rfl rfl rfl ?_
        refine zq_ipushn (pc' := 55) rfl rfl rfl ?_
        refine zq_icne (pc' := 58) rfl rfl rfl rfl (And.intro (fun c => ?_) (fun c => ?_))
        · have H := H.1 c
          refine zq_aload (pc' := 59) rfl rfl rfl rfl ?_
          refine zq_getR (pc' := 62) rfl rfl rfl (hp_gC rfl) ?_
          refine zq_ipush (pc' := 63) rfl rfl rfl ?_
          refine zq_iald (pc' := 64) rfl rfl rfl (hp_ia rfl (by unfold hin; decide)) ?_
          exact zq_iret rfl trivial (Exists.intro _ (Exists.intro _ (And.intro rfl H)))
        · have H := H.2 c
          refine zq_ipush (pc' := 66) rfl rfl rfl ?_
          refine zq_istore (pc' := 68) rfl rfl rfl ?_
          refine zq_ipushn (pc' := 69) rfl rfl rfl ?_
          refine zq_istore (pc' := 71) rfl rfl rfl ?_
          refine zq_ipush (pc' := 72) rfl rfl rfl ?_
          refine zq_istore_c (pc' := 74) rfl rfl ?_
          exact H
theorem zh_X8_mesh_74 {d : Nat} {k : Int32 → hG → hE → Prop} {X : Nat → hG → hE → Prop} {l1 : Int32} {l2 : Int32} {l3 : Int32} {l4 : Int32} {l5 : Int32} {l6 : Int32} {g : hG} {e : hE} (H :
    zbr (l3 < l6)
    (k l5 g e)
    (hin l2 8 ∧
      hwi d zm_X8_mesh k X 93 [(0, .ref 1046), (1, .int l1), (2, .int l2), (3, .int l3), (4, .int l4), (5, .int (-1)), (6, .int l6), (7, .int ((g.1 1052 l2.toNatClampNeg) - 1))] g e)) : hwi d zm_X8_mesh k X 74 [(0, .ref 1046), (1, .int l1), (2, .int l2), (3, .int l3), (4, .int l4), (5, .int l5), (6, .int l6)] g e := by
  refine zq_iload (pc' := 76) rfl rfl rfl rfl ?_
  refine zq_iload (pc' := 77) rfl rfl rfl rfl ?_
  refine zq_icgt (pc' := 80) rfl rfl rfl rfl (And.intro (fun c => ?_) (fun c => ?_))
  · have H := H.1 c
    refine zq_iload (pc' := 156) rfl rfl rfl rfl ?_
    exact zq_iret rfl trivial (Exists.intro _ (Exists.intro _ (And.intro rfl H)))
  · have H := H.2 c
    refine zq_ipushn (pc' := 81) rfl rfl rfl ?_
    refine zq_istore (pc' := 83) rfl rfl rfl ?_
    refine zq_aload (pc' := 84) rfl rfl rfl rfl ?_
    refine zq_getR (pc' := 87) rfl rfl rfl (hp_gC rfl) ?_
    refine zq_iload (pc' := 88) rfl rfl rfl rfl ?_
    obtain ⟨hi1, H⟩ := H
    refine zq_iald (pc' := 89) rfl rfl rfl (hp_ia rfl hi1) ?_
    refine zq_ipush (pc' := 90) rfl rfl rfl ?_
    refine zq_isub (pc' := 91) rfl rfl rfl ?_
    refine zq_istore_c (pc' := 93) rfl rfl ?_
    exact H
theorem zh_X8_mesh_93 {d : Nat} {k : Int32 → hG → hE → Prop} {X : Nat → hG → hE → Prop} {l1 : Int32} {l2 : Int32} {l3 : Int32} {l4 : Int32} {l5 : Int32} {l6 : Int32} {l7 : Int32} {g : hG} {e : hE} (H :
    zbr (l7 < l4)
    (zbr (l5 = (-1))
      (hwi d zm_X8_mesh k X 74 [(0, .ref 1046), (1, .int l1), (2, .int l2), (3, .int l3), (4, .int l4), (5, .int l5), (6, .int (l6 + 1))] g e)
      (hwi d zm_X8_mesh k X 74 [(0, .ref 1046), (1, .int l1), (2, .int l2), (3, .int l3), (4, .int (l5 + 1)), (5, .int l5), (6, .int (l6 + 1))] g e))
    (hci d 303 [.ref 1046, .int l1, .int l2, .int l6, .int l7] g e (fun x3 g1 e2 =>
        hin ((18 * l6) + l4) 324 ∧
        zbr (x3 = (g1.1 1071 ((18 * l6) + l4).toNatClampNeg))
        (hwi d zm_X8_mesh k X 93 [(0, .ref 1046), (1, .int l1), (2, .int l2), (3, .int l3), (4, .int l4), (5, .int l7), (6, .int l6), (7, .int (l7 + (-1)))] g1 e2)
        (hwi d zm_X8_mesh k X 93 [(0, .ref 1046), (1, .int l1), (2, .int l2), (3, .int l3), (4, .int l4), (5, .int l5), (6, .int l6), (7, .int (l7 + (-1)))] g1 e2)) X)) : hwi d zm_X8_mesh k X 93 [(0, .ref 1046), (1, .int l1), (2, .int l2), (3, .int l3), (4, .int l4), (5, .int l5), (6, .int l6), (7, .int l7)] g e := by
  refine zq_iload (pc' := 95) rfl rfl rfl rfl ?_
  refine zq_iload (pc' := 97) rfl rfl rfl rfl ?_
  refine zq_iclt (pc' := 100) rfl rfl rfl rfl (And.intro (fun c => ?_) (fun c => ?_))
  · have H := H.1 c
    refine zq_iload (pc' := 138) rfl rfl rfl rfl ?_
    refine zq_ipushn (pc' := 139) rfl rfl rfl ?_
    refine zq_iceq (pc' := 142) rfl rfl rfl rfl (And.intro (fun c => ?_) (fun c => ?_))
    · have H := H.1 c
      refine zq_iinc (pc' := 151) rfl rfl rfl rfl ?_
      refine zq_goto_c (pc' := 74) rfl rfl ?_
      exact H
    · have H := H.2 c
      refine zq_iload (pc' := 144) rfl rfl rfl rfl ?_
      refine zq_ipush (pc' := 145) rfl rfl rfl ?_
      refine zq_iadd (pc' := 146) rfl rfl rfl ?_
      refine zq_istore (pc' := 148) rfl rfl rfl ?_
      refine zq_iinc (pc' := 151) rfl rfl rfl rfl ?_
      refine zq_goto_c (pc' := 74) rfl rfl ?_
      exact H
  · have H := H.2 c
    refine zq_aload (pc' := 101) rfl rfl rfl rfl ?_
    refine zq_iload (pc' := 102) rfl rfl rfl rfl ?_
    refine zq_iload (pc' := 103) rfl rfl rfl rfl ?_
    refine zq_iload (pc' := 105) rfl rfl rfl rfl ?_
    refine zq_iload (pc' := 107) rfl rfl rfl rfl ?_
    refine hq_calli (pc' := 110) rfl rfl rfl rfl rfl rfl h_Xi ?_
    refine hmonoi H ?_
    intro x3 g1 e2 H
    refine zq_aload (pc' := 111) rfl rfl rfl rfl ?_
    refine zq_getR (pc' := 114) rfl rfl rfl (hp_gC rfl) ?_
    refine zq_ipush (pc' := 116) rfl rfl rfl ?_
    refine zq_iload (pc' := 118) rfl rfl rfl rfl ?_
    refine zq_imul (pc' := 119) rfl rfl rfl ?_
    refine zq_iload (pc' := 121) rfl rfl rfl rfl ?_
    refine zq_iadd (pc' := 122) rfl rfl rfl ?_
    obtain ⟨hi4, H⟩ := H
    refine zq_iald (pc' := 123) rfl rfl rfl (hp_ia rfl hi4) ?_
    refine zq_icne (pc' := 126) rfl rfl rfl rfl (And.intro (fun c => ?_) (fun c => ?_))
    · have H := H.1 c
      refine zq_iload (pc' := 128) rfl rfl rfl rfl ?_
      refine zq_istore (pc' := 130) rfl rfl rfl ?_
      refine zq_iincn (pc' := 133) rfl rfl rfl rfl ?_
      refine zq_goto_c (pc' := 93) rfl rfl ?_
      exact H
    · have H := H.2 c
      refine zq_iincn (pc' := 133) rfl rfl rfl rfl ?_
      refine zq_goto_c (pc' := 93) rfl rfl ?_
      exact H
theorem zh_X8_cut {d : Nat} {k : Int32 → hG → hE → Prop} {X : Nat → hG → hE → Prop} {p1 : Int32} {p2 : Int32} {g : hG} {e : hE} (H :
    hci d 220 [.ref 1046, .int p1] (sI g 1046 4 0) e (fun x3 g1 e2 =>
      zbr (x3 = 0)
      (hci d 215 [.ref 1046, .int 1] g1 e2 (fun x6 g4 e5 =>
          k x6 g4 e5) X)
      (hci d 217 [.long ((p2 : Int32).toInt64), .long 0, .long 1] g1 e2 (fun x9 g7 e8 =>
          zbr (x9 = 0)
          (hci d 215 [.ref 1046, .int 1] g7 e8 (fun x12 g10 e11 =>
              k x12 g10 e11) X)
          (hwi d zm_X8_cut k X 34 [(0, .ref 1046), (1, .int p1), (2, .int p2), (3, .int 0), (4, .int 0)] g7 e8)) X)) X) : hci (d + 1) 306 [.ref 1046, .int p1, .int p2] g e k X := by
  refine hent (M := zm_X8_cut) (show hT 1046 = some (.inr _) from rfl) rfl rfl rfl rfl rfl ?_
  refine zq_aload (pc' := 1) rfl rfl rfl rfl ?_
  refine zq_ipush (pc' := 2) rfl rfl rfl ?_
  refine zq_put (pc' := 5) rfl rfl rfl trivial (hp_sI rfl) ?_
  refine zq_aload (pc' := 6) rfl rfl rfl rfl ?_
  refine zq_iload (pc' := 7) rfl rfl rfl rfl ?_
  refine hq_calli (pc' := 10) rfl rfl rfl rfl rfl rfl h_Xi ?_
  refine hmonoi H ?_
  intro x3 g1 e2 H
  refine zq_ifeq (pc' := 13) rfl rfl rfl rfl (And.intro (fun c => ?_) (fun c => ?_))
  · have H := H.1 c
    refine zq_aload (pc' := 24) rfl rfl rfl rfl ?_
    refine zq_ipush (pc' := 25) rfl rfl rfl ?_
    refine hq_calli (pc' := 28) rfl rfl rfl rfl rfl rfl h_Xi ?_
    refine hmonoi H ?_
    intro x6 g4 e5 H
    exact zq_iret rfl trivial (Exists.intro _ (Exists.intro _ (And.intro rfl H)))
  · have H := H.2 c
    refine zq_iload (pc' := 14) rfl rfl rfl rfl ?_
    refine zq_i2l (pc' := 15) rfl rfl rfl ?_
    refine zq_lpush (pc' := 16) rfl rfl rfl ?_
    refine zq_lpush (pc' := 17) rfl rfl rfl ?_
    refine hq_calli (pc' := 20) rfl rfl rfl rfl rfl rfl h_Xi ?_
    refine hmonoi H ?_
    intro x9 g7 e8 H
    refine zq_ifne (pc' := 23) rfl rfl rfl rfl (And.intro (fun c => ?_) (fun c => ?_))
    · have H := H.1 c
      refine zq_aload (pc' := 24) rfl rfl rfl rfl ?_
      refine zq_ipush (pc' := 25) rfl rfl rfl ?_
      refine hq_calli (pc' := 28) rfl rfl rfl rfl rfl rfl h_Xi ?_
      refine hmonoi H ?_
      intro x12 g10 e11 H
      exact zq_iret rfl trivial (Exists.intro _ (Exists.intro _ (And.intro rfl H)))
    · have H := H.2 c
      refine zq_ipush (pc' := 30) rfl rfl rfl ?_
      refine zq_istore (pc' := 31) rfl rfl rfl ?_
      refine zq_ipush (pc' := 32) rfl rfl rfl ?_
      refine zq_istore_c (pc' := 34) rfl rfl ?_
      exact H
theorem zh_X8_cut_34 {d : Nat} {k : Int32 → hG → hE → Prop} {X : Nat → hG → hE → Prop} {l1 : Int32} {l2 : Int32} {l3 : Int32} {l4 : Int32} {g : hG} {e : hE} (H :
    hin l1 8 ∧
    zbr ((g.1 1052 l1.toNatClampNeg) ≤ l4)
    (hwi d zm_X8_cut k X 73 [(0, .ref 1046), (1, .int l1), (2, .int l2), (3, .int l3), (4, .int (-1)), (5, .int (-1)), (6, .int 0), (7, .int 1)] g e)
    (hci d 251 [.ref 1046, .int l1, .int l4] g e (fun x4 g2 e3 =>
        hwi d zm_X8_cut k X 34 [(0, .ref 1046), (1, .int l1), (2, .int l2), (3, .int (l3 + x4)), (4, .int (l4 + 1))] g2 e3) X)) : hwi d zm_X8_cut k X 34 [(0, .ref 1046), (1, .int l1), (2, .int l2), (3, .int l3), (4, .int l4)] g e := by
  refine zq_iload (pc' := 36) rfl rfl rfl rfl ?_
  refine zq_aload (pc' := 37) rfl rfl rfl rfl ?_
  refine zq_getR (pc' := 40) rfl rfl rfl (hp_gC rfl) ?_
  refine zq_iload (pc' := 41) rfl rfl rfl rfl ?_
  obtain ⟨hi1, H⟩ := H
  refine zq_iald (pc' := 42) rfl rfl rfl (hp_ia rfl hi1) ?_
  refine zq_icge (pc' := 45) rfl rfl rfl rfl (And.intro (fun c => ?_) (fun c => ?_))
  · have H := H.1 c
    refine zq_ipushn (pc' := 62) rfl rfl rfl ?_
    refine zq_istore (pc' := 64) rfl rfl rfl ?_
    refine zq_ipushn (pc' := 65) rfl rfl rfl ?_
    refine zq_istore (pc' := 67) rfl rfl rfl ?_
    refine zq_ipush (pc' := 68) rfl rfl rfl ?_
    refine zq_istore (pc' := 70) rfl rfl rfl ?_
    refine zq_ipush (pc' := 71) rfl rfl rfl ?_
    refine zq_istore_c (pc' := 73) rfl rfl ?_
    exact H
  · have H := H.2 c
    refine zq_iload (pc' := 46) rfl rfl rfl rfl ?_
    refine zq_aload (pc' := 47) rfl rfl rfl rfl ?_
    refine zq_iload (pc' := 48) rfl rfl rfl rfl ?_
    refine zq_iload (pc' := 50) rfl rfl rfl rfl ?_
    refine hq_calli (pc' := 53) rfl rfl rfl rfl rfl rfl h_Xi ?_
    refine hmonoi H ?_
    intro x4 g2 e3 H
    refine zq_iadd (pc' := 54) rfl rfl rfl ?_
    refine zq_istore (pc' := 55) rfl rfl rfl ?_
    refine zq_iinc (pc' := 58) rfl rfl rfl rfl ?_
    refine zq_goto_c (pc' := 34) rfl rfl ?_
    exact H
theorem zh_X8_cut_73 {d : Nat} {k : Int32 → hG → hE → Prop} {X : Nat → hG → hE → Prop} {l1 : Int32} {l2 : Int32} {l3 : Int32} {l4 : Int32} {l5 : Int32} {l6 : Int32} {l7 : Int32} {g : hG} {e : hE} (H :
    hin l1 8 ∧
    zbr ((g.1 1052 l1.toNatClampNeg) ≤ l7)
    (zbr (l2 = 0)
      (k l4 g e)
      (hci d 2 [.int 0, .int l5] g e (fun x4 g2 e3 =>
          k x4 g2 e3) X))
    (hci d 251 [.ref 1046, .int l1, .int (l7 - 1)] g e (fun x7 g5 e6 =>
        hci d 3 [.int (l6 + x7), .int (l3 - (l6 + x7))] g5 e6 (fun x10 g8 e9 =>
          zbr (l5 < x10)
          (hwi d zm_X8_cut k X 73 [(0, .ref 1046), (1, .int l1), (2, .int l2), (3, .int l3), (4, .int l7), (5, .int x10), (6, .int (l6 + x7)), (7, .int (l7 + 1))] g8 e9)
          (hwi d zm_X8_cut k X 73 [(0, .ref 1046), (1, .int l1), (2, .int l2), (3, .int l3), (4, .int l4), (5, .int l5), (6, .int (l6 + x7)), (7, .int (l7 + 1))] g8 e9)) X) X)) : hwi d zm_X8_cut k X 73 [(0, .ref 1046), (1, .int l1), (2, .int l2), (3, .int l3), (4, .int l4), (5, .int l5), (6, .int l6), (7, .int l7)] g e := by
  refine zq_iload (pc' := 75) rfl rfl rfl rfl ?_
  refine zq_aload (pc' := 76) rfl rfl rfl rfl ?_
  refine zq_getR (pc' := 79) rfl rfl rfl (hp_gC rfl) ?_
  refine zq_iload (pc' := 80) rfl rfl rfl rfl ?_
  obtain ⟨hi1, H⟩ := H
  refine zq_iald (pc' := 81) rfl rfl rfl (hp_ia rfl hi1) ?_
  refine zq_icge (pc' := 84) rfl rfl rfl rfl (And.intro (fun c => ?_) (fun c => ?_))
  · have H := H.1 c
    refine zq_iload (pc' := 134) rfl rfl rfl rfl ?_
    refine zq_ifne (pc' := 137) rfl rfl rfl rfl (And.intro (fun c => ?_) (fun c => ?_))
    · have H := H.1 c
      refine zq_iload (pc' := 139) rfl rfl rfl rfl ?_
      refine zq_goto (pc' := 148) rfl rfl rfl ?_
      exact zq_iret rfl trivial (Exists.intro _ (Exists.intro _ (And.intro rfl H)))
    · have H := H.2 c
      refine zq_ipush (pc' := 143) rfl rfl rfl ?_
      refine zq_iload (pc' := 145) rfl rfl rfl rfl ?_
      refine hq_calli (pc' := 148) rfl rfl rfl rfl rfl rfl h_Xi ?_
      refine hmonoi H ?_
      intro x4 g2 e3 H
      exact zq_iret rfl trivial (Exists.intro _ (Exists.intro _ (And.intro rfl H)))
  · have H := H.2 c
    refine zq_iload (pc' := 86) rfl rfl rfl rfl ?_
    refine zq_aload (pc' := 87) rfl rfl rfl rfl ?_
    refine zq_iload (pc' := 88) rfl rfl rfl rfl ?_
    refine zq_iload (pc' := 90) rfl rfl rfl rfl ?_
    refine zq_ipush (pc' := 91) rfl rfl rfl ?_
    refine zq_isub (pc' := 92) rfl rfl rfl ?_
    refine hq_calli (pc' := 95) rfl rfl rfl rfl rfl rfl h_Xi ?_
    refine hmonoi H ?_
    intro x7 g5 e6 H
    refine zq_iadd (pc' := 96) rfl rfl rfl ?_
    refine zq_istore (pc' := 98) rfl rfl rfl ?_
    refine zq_iload (pc' := 100) rfl rfl rfl rfl ?_
    refine zq_iload (pc' := 101) rfl rfl rfl rfl ?_
    refine zq_iload (pc' := 103) rfl rfl rfl rfl ?_
    refine zq_isub (pc' := 104) rfl rfl rfl ?_
    refine hq_calli (pc' := 107) rfl rfl rfl rfl rfl rfl h_Xi ?_
    refine hmonoi H ?_
    intro x10 g8 e9 H
    refine zq_istore (pc' := 109) rfl rfl rfl ?_
    refine zq_iload (pc' := 111) rfl rfl rfl rfl ?_
    refine zq_iload (pc' := 113) rfl rfl rfl rfl ?_
    refine zq_icgt (pc' := 116) rfl rfl rfl rfl (And.intro (fun c => ?_) (fun c => ?_))
    · have H := H.1 c
      refine zq_iload (pc' := 121) rfl rfl rfl rfl ?_
      refine zq_istore (pc' := 123) rfl rfl rfl ?_
      refine zq_iload (pc' := 125) rfl rfl rfl rfl ?_
      refine zq_istore (pc' := 127) rfl rfl rfl ?_
      refine zq_iinc (pc' := 130) rfl rfl rfl rfl ?_
      refine zq_goto_c (pc' := 73) rfl rfl ?_
      exact H
    · have H := H.2 c
      refine zq_goto (pc' := 127) rfl rfl rfl ?_
      refine zq_iinc (pc' := 130) rfl rfl rfl rfl ?_
      refine zq_goto_c (pc' := 73) rfl rfl ?_
      exact H
theorem zh_X8_matedWith {d : Nat} {k : Int32 → hG → hE → Prop} {X : Nat → hG → hE → Prop} {p1 : Int32} {p2 : Int32} {p3 : Int32} {g : hG} {e : hE} (H :
    hci d 218 [.int p3, .int p2] g e (fun x3 g1 e2 =>
      zbr (x3 = 0)
      (hin p1 8 ∧
        hin p2 8 ∧
        zbr ((g1.1 1052 p1.toNatClampNeg) = (g1.1 1052 p2.toNatClampNeg))
        (hci d 301 [.ref 1046, .int p1, .int p2, .int 0] g1 e2 (fun x8 g6 e7 =>
            hin (((p1 + 1) <<< ((4 : Int32) &&& 31)) + (p3 ||| (1 <<< (p2 &&& 31)))) 80 ∧
            k (x8 + (g6.1 1072 (((p1 + 1) <<< ((4 : Int32) &&& 31)) + (p3 ||| (1 <<< (p2 &&& 31)))).toNatClampNeg)) g6 e7) X)
        (k (-1000000) g1 e2))
      (k (-1000000) g1 e2)) X) : hci (d + 1) 307 [.ref 1046, .int p1, .int p2, .int p3] g e k X := by
  refine hent (M := zm_X8_matedWith) (show hT 1046 = some (.inr _) from rfl) rfl rfl rfl rfl rfl ?_
  refine zq_iload (pc' := 1) rfl rfl rfl rfl ?_
  refine zq_iload (pc' := 2) rfl rfl rfl rfl ?_
  refine hq_calli (pc' := 5) rfl rfl rfl rfl rfl rfl h_Xi ?_
  refine hmonoi H ?_
  intro x3 g1 e2 H
  refine zq_ifne (pc' := 8) rfl rfl rfl rfl (And.intro (fun c => ?_) (fun c => ?_))
  · have H := H.1 c
    refine zq_aload (pc' := 9) rfl rfl rfl rfl ?_
    refine zq_getR (pc' := 12) rfl rfl rfl (hp_gC rfl) ?_
    refine zq_iload (pc' := 13) rfl rfl rfl rfl ?_
    obtain ⟨hi4, H⟩ := H
    refine zq_iald (pc' := 14) rfl rfl rfl (hp_ia rfl hi4) ?_
    refine zq_aload (pc' := 15) rfl rfl rfl rfl ?_
    refine zq_getR (pc' := 18) rfl rfl rfl (hp_gC rfl) ?_
    refine zq_iload (pc' := 19) rfl rfl rfl rfl ?_
    obtain ⟨hi5, H⟩ := H
    refine zq_iald (pc' := 20) rfl rfl rfl (hp_ia rfl hi5) ?_
    refine zq_iceq (pc' := 23) rfl rfl rfl rfl (And.intro (fun c => ?_) (fun c => ?_))
    · have H := H.1 c
      refine zq_aload (pc' := 30) rfl rfl rfl rfl ?_
      refine zq_iload (pc' := 31) rfl rfl rfl rfl ?_
      refine zq_iload (pc' := 32) rfl rfl rfl rfl ?_
      refine zq_ipush (pc' := 33) rfl rfl rfl ?_
      refine hq_calli (pc' := 36) rfl rfl rfl rfl rfl rfl h_Xi ?_
      refine hmonoi H ?_
      intro x8 g6 e7 H
      refine zq_aload (pc' := 37) rfl rfl rfl rfl ?_
      refine zq_getR (pc' := 40) rfl rfl rfl (hp_gC rfl) ?_
      refine zq_iload (pc' := 41) rfl rfl rfl rfl ?_
      refine zq_ipush (pc' := 42) rfl rfl rfl ?_
      refine zq_iadd (pc' := 43) rfl rfl rfl ?_
      refine zq_ipush (pc' := 44) rfl rfl rfl ?_
      refine zq_ishl (pc' := 45) rfl rfl rfl ?_
      refine zq_iload (pc' := 46) rfl rfl rfl rfl ?_
      refine zq_ipush (pc' := 47) rfl rfl rfl ?_
      refine zq_iload (pc' := 48) rfl rfl rfl rfl ?_
      refine zq_ishl (pc' := 49) rfl rfl rfl ?_
      refine zq_ior (pc' := 50) rfl rfl rfl ?_
      refine zq_iadd (pc' := 51) rfl rfl rfl ?_
      obtain ⟨hi9, H⟩ := H
      refine zq_iald (pc' := 52) rfl rfl rfl (hp_ia rfl hi9) ?_
      refine zq_iadd (pc' := 53) rfl rfl rfl ?_
      exact zq_iret rfl trivial (Exists.intro _ (Exists.intro _ (And.intro rfl H)))
    · have H := H.2 c
      refine zq_ipushn (pc' := 26) rfl rfl rfl ?_
      refine zq_goto (pc' := 53) rfl rfl rfl ?_
      exact zq_iret rfl trivial (Exists.intro _ (Exists.intro _ (And.intro rfl H)))
  · have H := H.2 c
    refine zq_ipushn (pc' := 26) rfl rfl rfl ?_
    refine zq_goto (pc' := 53) rfl rfl rfl ?_
    exact zq_iret rfl trivial (Exists.intro _ (Exists.intro _ (And.intro rfl H)))
theorem zh_X8_tellMates {d : Nat} {k : hG → hE → Prop} {X : Nat → hG → hE → Prop}  {g : hG} {e : hE} (H :
    hwv d zm_X8_tellMates k X 9 [(0, .ref 1046), (1, .int (g.1 1050 0)), (2, .int 0)] g e) : hcv (d + 1) 308 [.ref 1046] g e k X := by
  refine hent (M := zm_X8_tellMates) (show hT 1046 = some (.inr _) from rfl) rfl rfl rfl rfl rfl ?_
  refine zq_aload (pc' := 1) rfl rfl rfl rfl ?_
  refine zq_getR (pc' := 4) rfl rfl rfl (hp_gC rfl) ?_
  refine zq_ipush (pc' := 5) rfl rfl rfl ?_
  refine zq_iald (pc' := 6) rfl rfl rfl (hp_ia rfl (by unfold hin; decide)) ?_
  refine zq_istore (pc' := 7) rfl rfl rfl ?_
  refine zq_ipush (pc' := 8) rfl rfl rfl ?_
  refine zq_istore_c (pc' := 9) rfl rfl ?_
  exact H
theorem zh_X8_tellMates_9 {d : Nat} {k : hG → hE → Prop} {X : Nat → hG → hE → Prop} {l1 : Int32} {l2 : Int32} {g : hG} {e : hE} (H :
    zbr ((1 <<< (l1 &&& 31)) ≤ l2)
    (hwv d zm_X8_tellMates k X 37 [(0, .ref 1046), (1, .int l1), (2, .int (l1 - 1))] g e)
    (hin ((l1 <<< ((4 : Int32) &&& 31)) + l2) 80 ∧
      hwv d zm_X8_tellMates k X 9 [(0, .ref 1046), (1, .int l1), (2, .int (l2 + 1))] (sI g 1072 ((l1 <<< ((4 : Int32) &&& 31)) + l2).toNatClampNeg 0) e)) : hwv d zm_X8_tellMates k X 9 [(0, .ref 1046), (1, .int l1), (2, .int l2)] g e := by
  refine zq_iload (pc' := 10) rfl rfl rfl rfl ?_
  refine zq_ipush (pc' := 11) rfl rfl rfl ?_
  refine zq_iload (pc' := 12) rfl rfl rfl rfl ?_
  refine zq_ishl (pc' := 13) rfl rfl rfl ?_
  refine zq_icge (pc' := 16) rfl rfl rfl rfl (And.intro (fun c => ?_) (fun c => ?_))
  · have H := H.1 c
    refine zq_iload (pc' := 34) rfl rfl rfl rfl ?_
    refine zq_ipush (pc' := 35) rfl rfl rfl ?_
    refine zq_isub (pc' := 36) rfl rfl rfl ?_
    refine zq_istore_c (pc' := 37) rfl rfl ?_
    exact H
  · have H := H.2 c
    refine zq_aload (pc' := 17) rfl rfl rfl rfl ?_
    refine zq_getR (pc' := 20) rfl rfl rfl (hp_gC rfl) ?_
    refine zq_iload (pc' := 21) rfl rfl rfl rfl ?_
    refine zq_ipush (pc' := 22) rfl rfl rfl ?_
    refine zq_ishl (pc' := 23) rfl rfl rfl ?_
    refine zq_iload (pc' := 24) rfl rfl rfl rfl ?_
    refine zq_iadd (pc' := 25) rfl rfl rfl ?_
    refine zq_ipush (pc' := 26) rfl rfl rfl ?_
    obtain ⟨hi1, H⟩ := H
    refine zq_iast (pc' := 27) rfl rfl rfl (hp_is rfl hi1) ?_
    refine zq_iinc (pc' := 30) rfl rfl rfl rfl ?_
    refine zq_goto_c (pc' := 9) rfl rfl ?_
    exact H
theorem zh_X8_tellMates_37 {d : Nat} {k : hG → hE → Prop} {X : Nat → hG → hE → Prop} {l1 : Int32} {l2 : Int32} {g : hG} {e : hE} (H :
    zbr (l2 < 0)
    (k g e)
    (hwv d zm_X8_tellMates k X 43 [(0, .ref 1046), (1, .int l1), (2, .int l2), (3, .int 0)] g e)) : hwv d zm_X8_tellMates k X 37 [(0, .ref 1046), (1, .int l1), (2, .int l2)] g e := by
  refine zq_iload (pc' := 38) rfl rfl rfl rfl ?_
  refine zq_iflt (pc' := 41) rfl rfl rfl rfl (And.intro (fun c => ?_) (fun c => ?_))
  · have H := H.1 c
    exact zq_vret rfl (Exists.intro _ (Exists.intro _ (And.intro rfl H)))
  · have H := H.2 c
    refine zq_ipush (pc' := 42) rfl rfl rfl ?_
    refine zq_istore_c (pc' := 43) rfl rfl ?_
    exact H
theorem zh_X8_tellMates_43 {d : Nat} {k : hG → hE → Prop} {X : Nat → hG → hE → Prop} {l1 : Int32} {l2 : Int32} {l3 : Int32} {g : hG} {e : hE} (H :
    zbr ((1 <<< (l1 &&& 31)) ≤ l3)
    (hwv d zm_X8_tellMates k X 37 [(0, .ref 1046), (1, .int l1), (2, .int (l2 + (-1)))] g e)
    (hwv d zm_X8_tellMates k X 58 [(0, .ref 1046), (1, .int l1), (2, .int l2), (3, .int l3), (4, .int (-1000000)), (5, .int 0)] g e)) : hwv d zm_X8_tellMates k X 43 [(0, .ref 1046), (1, .int l1), (2, .int l2), (3, .int l3)] g e := by
  refine zq_iload (pc' := 44) rfl rfl rfl rfl ?_
  refine zq_ipush (pc' := 45) rfl rfl rfl ?_
  refine zq_iload (pc' := 46) rfl rfl rfl rfl ?_
  refine zq_ishl (pc' := 47) rfl rfl rfl ?_
  refine zq_icge (pc' := 50) rfl rfl rfl rfl (And.intro (fun c => ?_) (fun c => ?_))
  · have H := H.1 c
    refine zq_iincn (pc' := 106) rfl rfl rfl rfl ?_
    refine zq_goto_c (pc' := 37) rfl rfl ?_
    exact H
  · have H := H.2 c
    refine zq_ipushn (pc' := 53) rfl rfl rfl ?_
    refine zq_istore (pc' := 55) rfl rfl rfl ?_
    refine zq_ipush (pc' := 56) rfl rfl rfl ?_
    refine zq_istore_c (pc' := 58) rfl rfl ?_
    exact H
theorem zh_X8_tellMates_58 {d : Nat} {k : hG → hE → Prop} {X : Nat → hG → hE → Prop} {l1 : Int32} {l2 : Int32} {l3 : Int32} {l4 : Int32} {l5 : Int32} {g : hG} {e : hE} (H :
    zbr (l1 ≤ l5)
    (hin ((l2 <<< ((4 : Int32) &&& 31)) + l3) 80 ∧
      hwv d zm_X8_tellMates k X 43 [(0, .ref 1046), (1, .int l1), (2, .int l2), (3, .int (l3 + 1))] (sI g 1072 ((l2 <<< ((4 : Int32) &&& 31)) + l3).toNatClampNeg l4) e)
    (hci d 307 [.ref 1046, .int l2, .int l5, .int l3] g e (fun x4 g2 e3 =>
        hci d 2 [.int l4, .int x4] g2 e3 (fun x7 g5 e6 =>
          hwv d zm_X8_tellMates k X 58 [(0, .ref 1046), (1, .int l1), (2, .int l2), (3, .int l3), (4, .int x7), (5, .int (l5 + 1))] g5 e6) X) X)) : hwv d zm_X8_tellMates k X 58 [(0, .ref 1046), (1, .int l1), (2, .int l2), (3, .int l3), (4, .int l4), (5, .int l5)] g e := by
  refine zq_iload (pc' := 60) rfl rfl rfl rfl ?_
  refine zq_iload (pc' := 61) rfl rfl rfl rfl ?_
  refine zq_icge (pc' := 64) rfl rfl rfl rfl (And.intro (fun c => ?_) (fun c => ?_))
  · have H := H.1 c
    refine zq_aload (pc' := 86) rfl rfl rfl rfl ?_
    refine zq_getR (pc' := 89) rfl rfl rfl (hp_gC rfl) ?_
    refine zq_iload (pc' := 90) rfl rfl rfl rfl ?_
    refine zq_ipush (pc' := 91) rfl rfl rfl ?_
    refine zq_ishl (pc' := 92) rfl rfl rfl ?_
    refine zq_iload (pc' := 93) rfl rfl rfl rfl ?_
    refine zq_iadd (pc' := 94) rfl rfl rfl ?_
    refine zq_iload (pc' := 96) rfl rfl rfl rfl ?_
    obtain ⟨hi1, H⟩ := H
    refine zq_iast (pc' := 97) rfl rfl rfl (hp_is rfl hi1) ?_
    refine zq_iinc (pc' := 100) rfl rfl rfl rfl ?_
    refine zq_goto_c (pc' := 43) rfl rfl ?_
    exact H
  · have H := H.2 c
    refine zq_iload (pc' := 66) rfl rfl rfl rfl ?_
    refine zq_aload (pc' := 67) rfl rfl rfl rfl ?_
    refine zq_iload (pc' := 68) rfl rfl rfl rfl ?_
    refine zq_iload (pc' := 70) rfl rfl rfl rfl ?_
    refine zq_iload (pc' := 71) rfl rfl rfl rfl ?_
    refine hq_calli (pc' := 74) rfl rfl rfl rfl rfl rfl h_Xv ?_
    refine hmonoi H ?_
    intro x4 g2 e3 H
    refine hq_calli (pc' := 77) rfl rfl rfl rfl rfl rfl h_Xv ?_
    refine hmonoi H ?_
    intro x7 g5 e6 H
    refine zq_istore (pc' := 79) rfl rfl rfl ?_
    refine zq_iinc (pc' := 82) rfl rfl rfl rfl ?_
    refine zq_goto_c (pc' := 58) rfl rfl ?_
    exact H
theorem zh_X8_mates {d : Nat} {k : Int32 → hG → hE → Prop} {X : Nat → hG → hE → Prop} {p1 : Int32} {g : hG} {e : hE} (H :
    hci d 217 [.long ((p1 : Int32).toInt64), .long (-1), .long ((((sI g 1046 4 0).1 1050 0) - 1 : Int32).toInt64)] (sI g 1046 4 0) e (fun x4 g2 e3 =>
      zbr (x4 = 0)
      (hci d 215 [.ref 1046, .int 1] g2 e3 (fun x7 g5 e6 =>
          k x7 g5 e6) X)
      (hcv d 308 [.ref 1046] g2 e3 (fun g8 e9 =>
          zbr (p1 = (-1))
          (k (g8.1 1072 0) g8 e9)
          (hwi d zm_X8_mates k X 54 [(0, .ref 1046), (1, .int p1), (2, .int 0), (3, .int (-1)), (4, .int 0)] g8 e9)) X)) X) : hci (d + 1) 309 [.ref 1046, .int p1] g e k X := by
  refine hent (M := zm_X8_mates) (show hT 1046 = some (.inr _) from rfl) rfl rfl rfl rfl rfl ?_
  refine zq_aload (pc' := 1) rfl rfl rfl rfl ?_
  refine zq_ipush (pc' := 2) rfl rfl rfl ?_
  refine zq_put (pc' := 5) rfl rfl rfl trivial (hp_sI rfl) ?_
  refine zq_iload (pc' := 6) rfl rfl rfl rfl ?_
  refine zq_i2l (pc' := 7) rfl rfl rfl ?_
  refine zq_lpushn (pc' := 10) rfl rfl rfl ?_
  refine zq_aload (pc' := 11) rfl rfl rfl rfl ?_
  refine zq_getR (pc' := 14) rfl rfl rfl (hp_gC rfl) ?_
  refine zq_ipush (pc' := 15) rfl rfl rfl ?_
  refine zq_iald (pc' := 16) rfl rfl rfl (hp_ia rfl (by unfold hin; decide)) ?_
  refine zq_ipush (pc' := 17) rfl rfl rfl ?_
  refine zq_isub (pc' := 18) rfl rfl rfl ?_
  refine zq_i2l (pc' := 19) rfl rfl rfl ?_
  refine hq_calli (pc' := 22) rfl rfl rfl rfl rfl rfl h_Xi ?_
  refine hmonoi H ?_
  intro x4 g2 e3 H
  refine zq_ifne (pc' := 25) rfl rfl rfl rfl (And.intro (fun c => ?_) (fun c => ?_))
  · have H := H.1 c
    refine zq_aload (pc' := 26) rfl rfl rfl rfl ?_
    refine zq_ipush (pc' := 27) rfl rfl rfl ?_
    refine hq_calli (pc' := 30) rfl rfl rfl rfl rfl rfl h_Xi ?_
    refine hmonoi H ?_
    intro x7 g5 e6 H
    exact zq_iret rfl trivial (Exists.intro _ (Exists.intro _ (And.intro rfl H)))
  · have H := H.2 c
    refine zq_aload (pc' := 32) rfl rfl rfl rfl ?_
    refine hq_callv (pc' := 35) rfl rfl rfl rfl rfl rfl h_Xi ?_
    refine hmonov H ?_
    intro g8 e9 H
    refine zq_iload (pc' := 36) rfl rfl rfl rfl ?_
    refine zq_ipushn (pc' := 37) rfl rfl rfl ?_
    refine zq_icne (pc' := 40) rfl rfl rfl rfl (And.intro (fun c => ?_) (fun c => ?_))
    · have H := H.1 c
      refine zq_aload (pc' := 41) rfl rfl rfl rfl ?_
      refine zq_getR (pc' := 44) rfl rfl rfl (hp_gC rfl) ?_
      refine zq_ipush (pc' := 45) rfl rfl rfl ?_
      refine zq_iald (pc' := 46) rfl rfl rfl (hp_ia rfl (by unfold hin; decide)) ?_
      exact zq_iret rfl trivial (Exists.intro _ (Exists.intro _ (And.intro rfl H)))
    · have H := H.2 c
      refine zq_ipush (pc' := 48) rfl rfl rfl ?_
      refine zq_istore (pc' := 49) rfl rfl rfl ?_
      refine zq_ipushn (pc' := 50) rfl rfl rfl ?_
      refine zq_istore (pc' := 51) rfl rfl rfl ?_
      refine zq_ipush (pc' := 52) rfl rfl rfl ?_
      refine zq_istore_c (pc' := 54) rfl rfl ?_
      exact H
theorem zh_X8_mates_54 {d : Nat} {k : Int32 → hG → hE → Prop} {X : Nat → hG → hE → Prop} {l1 : Int32} {l2 : Int32} {l3 : Int32} {l4 : Int32} {g : hG} {e : hE} (H :
    zbr (l1 < l4)
    (k l3 g e)
    (hwi d zm_X8_mates k X 72 [(0, .ref 1046), (1, .int l1), (2, .int l2), (3, .int (-1)), (4, .int l4), (5, .int ((g.1 1050 0) - 1))] g e)) : hwi d zm_X8_mates k X 54 [(0, .ref 1046), (1, .int l1), (2, .int l2), (3, .int l3), (4, .int l4)] g e := by
  refine zq_iload (pc' := 56) rfl rfl rfl rfl ?_
  refine zq_iload (pc' := 57) rfl rfl rfl rfl ?_
  refine zq_icgt (pc' := 60) rfl rfl rfl rfl (And.intro (fun c => ?_) (fun c => ?_))
  · have H := H.1 c
    refine zq_iload (pc' := 148) rfl rfl rfl rfl ?_
    exact zq_iret rfl trivial (Exists.intro _ (Exists.intro _ (And.intro rfl H)))
  · have H := H.2 c
    refine zq_ipushn (pc' := 61) rfl rfl rfl ?_
    refine zq_istore (pc' := 62) rfl rfl rfl ?_
    refine zq_aload (pc' := 63) rfl rfl rfl rfl ?_
    refine zq_getR (pc' := 66) rfl rfl rfl (hp_gC rfl) ?_
    refine zq_ipush (pc' := 67) rfl rfl rfl ?_
    refine zq_iald (pc' := 68) rfl rfl rfl (hp_ia rfl (by unfold hin; decide)) ?_
    refine zq_ipush (pc' := 69) rfl rfl rfl ?_
    refine zq_isub (pc' := 70) rfl rfl rfl ?_
    refine zq_istore_c (pc' := 72) rfl rfl ?_
    exact H
theorem zh_X8_mates_72 {d : Nat} {k : Int32 → hG → hE → Prop} {X : Nat → hG → hE → Prop} {l1 : Int32} {l2 : Int32} {l3 : Int32} {l4 : Int32} {l5 : Int32} {g : hG} {e : hE} (H :
    zbr (l5 < 0)
    (hwi d zm_X8_mates k X 54 [(0, .ref 1046), (1, .int l1), (2, .int (l2 ||| (1 <<< (l3 &&& 31)))), (3, .int l3), (4, .int (l4 + 1))] g e)
    (hci d 218 [.int l2, .int l5] g e (fun x3 g1 e2 =>
        zbr (x3 = 0)
        (hin l4 8 ∧
          hin l5 8 ∧
          zbr ((g1.1 1052 l4.toNatClampNeg) = (g1.1 1052 l5.toNatClampNeg))
          (hci d 307 [.ref 1046, .int l4, .int l5, .int l2] g1 e2 (fun x8 g6 e7 =>
              hin ((l4 <<< ((4 : Int32) &&& 31)) + l2) 80 ∧
              zbr (x8 = (g6.1 1072 ((l4 <<< ((4 : Int32) &&& 31)) + l2).toNatClampNeg))
              (hwi d zm_X8_mates k X 72 [(0, .ref 1046), (1, .int l1), (2, .int l2), (3, .int l5), (4, .int l4), (5, .int (l5 + (-1)))] g6 e7)
              (hwi d zm_X8_mates k X 72 [(0, .ref 1046), (1, .int l1), (2, .int l2), (3, .int l3), (4, .int l4), (5, .int (l5 + (-1)))] g6 e7)) X)
          (hwi d zm_X8_mates k X 72 [(0, .ref 1046), (1, .int l1), (2, .int l2), (3, .int l3), (4, .int l4), (5, .int (l5 + (-1)))] g1 e2))
        (hwi d zm_X8_mates k X 72 [(0, .ref 1046), (1, .int l1), (2, .int l2), (3, .int l3), (4, .int l4), (5, .int (l5 + (-1)))] g1 e2)) X)) : hwi d zm_X8_mates k X 72 [(0, .ref 1046), (1, .int l1), (2, .int l2), (3, .int l3), (4, .int l4), (5, .int l5)] g e := by
  refine zq_iload (pc' := 74) rfl rfl rfl rfl ?_
  refine zq_iflt (pc' := 77) rfl rfl rfl rfl (And.intro (fun c => ?_) (fun c => ?_))
  · have H := H.1 c
    refine zq_iload (pc' := 136) rfl rfl rfl rfl ?_
    refine zq_ipush (pc' := 137) rfl rfl rfl ?_
    refine zq_iload (pc' := 138) rfl rfl rfl rfl ?_
    refine zq_ishl (pc' := 139) rfl rfl rfl ?_
    refine zq_ior (pc' := 140) rfl rfl rfl ?_
    refine zq_istore (pc' := 141) rfl rfl rfl ?_
    refine zq_iinc (pc' := 144) rfl rfl rfl rfl ?_
    refine zq_goto_c (pc' := 54) rfl rfl ?_
    exact H
  · have H := H.2 c
    refine zq_iload (pc' := 78) rfl rfl rfl rfl ?_
    refine zq_iload (pc' := 80) rfl rfl rfl rfl ?_
    refine hq_calli (pc' := 83) rfl rfl rfl rfl rfl rfl h_Xi ?_
    refine hmonoi H ?_
    intro x3 g1 e2 H
    refine zq_ifne (pc' := 86) rfl rfl rfl rfl (And.intro (fun c => ?_) (fun c => ?_))
    · have H := H.1 c
      refine zq_aload (pc' := 87) rfl rfl rfl rfl ?_
      refine zq_getR (pc' := 90) rfl rfl rfl (hp_gC rfl) ?_
      refine zq_iload (pc' := 92) rfl rfl rfl rfl ?_
      obtain ⟨hi4, H⟩ := H
      refine zq_iald (pc' := 93) rfl rfl rfl (hp_ia rfl hi4) ?_
      refine zq_aload (pc' := 94) rfl rfl rfl rfl ?_
      refine zq_getR (pc' := 97) rfl rfl rfl (hp_gC rfl) ?_
      refine zq_iload (pc' := 99) rfl rfl rfl rfl ?_
      obtain ⟨hi5, H⟩ := H
      refine zq_iald (pc' := 100) rfl rfl rfl (hp_ia rfl hi5) ?_
      refine zq_icne (pc' := 103) rfl rfl rfl rfl (And.intro (fun c => ?_) (fun c => ?_))
      · have H := H.1 c
        refine zq_aload (pc' := 104) rfl rfl rfl rfl ?_
        refine zq_iload (pc' := 106) rfl rfl rfl rfl ?_
        refine zq_iload (pc' := 108) rfl rfl rfl rfl ?_
        refine zq_iload (pc' := 109) rfl rfl rfl rfl ?_
        refine hq_calli (pc' := 112) rfl rfl rfl rfl rfl rfl h_Xi ?_
        refine hmonoi H ?_
        intro x8 g6 e7 H
        refine zq_aload (pc' := 113) rfl rfl rfl rfl ?_
        refine zq_getR (pc' := 116) rfl rfl rfl (hp_gC rfl) ?_
        refine zq_iload (pc' := 118) rfl rfl rfl rfl ?_
        refine zq_ipush (pc' := 119) rfl rfl rfl ?_
        refine zq_ishl (pc' := 120) rfl rfl rfl ?_
        refine zq_iload (pc' := 121) rfl rfl rfl rfl ?_
        refine zq_iadd (pc' := 122) rfl rfl rfl ?_
        obtain ⟨hi9, H⟩ := H
        refine zq_iald (pc' := 123) rfl rfl rfl (hp_ia rfl hi9) ?_
        refine zq_icne (pc' := 126) rfl rfl rfl rfl (And.intro (fun c => ?_) (fun c => ?_))
        · have H := H.1 c
          refine zq_iload (pc' := 128) rfl rfl rfl rfl ?_
          refine zq_istore (pc' := 129) rfl rfl rfl ?_
          refine zq_iincn (pc' := 132) rfl rfl rfl rfl ?_
          refine zq_goto_c (pc' := 72) rfl rfl ?_
          exact H
        · have H := H.2 c
          refine zq_iincn (pc' := 132) rfl rfl rfl rfl ?_
          refine zq_goto_c (pc' := 72) rfl rfl ?_
          exact H
      · have H := H.2 c
        refine zq_iincn (pc' := 132) rfl rfl rfl rfl ?_
        refine zq_goto_c (pc' := 72) rfl rfl ?_
        exact H
    · have H := H.2 c
      refine zq_iincn (pc' := 132) rfl rfl rfl rfl ?_
      refine zq_goto_c (pc' := 72) rfl rfl ?_
      exact H
theorem zh_X8_gap {d : Nat} {k : Int32 → hG → hE → Prop} {X : Nat → hG → hE → Prop} {p1 : Int32} {g : hG} {e : hE} (H :
    hci d 220 [.ref 1046, .int p1] (sI g 1046 4 0) e (fun x3 g1 e2 =>
      zbr (x3 = 0)
      (hci d 215 [.ref 1046, .int 1] g1 e2 (fun x6 g4 e5 =>
          k x6 g4 e5) X)
      (hci d 252 [.ref 1046, .int p1] g1 e2 (fun x9 g7 e8 =>
          hci d 219 [.int x9] g7 e8 (fun x12 g10 e11 =>
            hin p1 4 ∧
            hci d 219 [.int (g10.1 1063 p1.toNatClampNeg)] g10 e11 (fun x16 g14 e15 =>
              k (x12 - x16) g14 e15) X) X) X)) X) : hci (d + 1) 310 [.ref 1046, .int p1] g e k X := by
  refine hent (M := zm_X8_gap) (show hT 1046 = some (.inr _) from rfl) rfl rfl rfl rfl rfl ?_
  refine zq_aload (pc' := 1) rfl rfl rfl rfl ?_
  refine zq_ipush (pc' := 2) rfl rfl rfl ?_
  refine zq_put (pc' := 5) rfl rfl rfl trivial (hp_sI rfl) ?_
  refine zq_aload (pc' := 6) rfl rfl rfl rfl ?_
  refine zq_iload (pc' := 7) rfl rfl rfl rfl ?_
  refine hq_calli (pc' := 10) rfl rfl rfl rfl rfl rfl h_Xi ?_
  refine hmonoi H ?_
  intro x3 g1 e2 H
  refine zq_ifeq (pc' := 13) rfl rfl rfl rfl (And.intro (fun c => ?_) (fun c => ?_))
  · have H := H.1 c
    refine zq_aload (pc' := 35) rfl rfl rfl rfl ?_
    refine zq_ipush (pc' := 36) rfl rfl rfl ?_
    refine hq_calli (pc' := 39) rfl rfl rfl rfl rfl rfl h_Xi ?_
    refine hmonoi H ?_
    intro x6 g4 e5 H
    exact zq_iret rfl trivial (Exists.intro _ (Exists.intro _ (And.intro rfl H)))
  · have H := H.2 c
    refine zq_aload (pc' := 14) rfl rfl rfl rfl ?_
    refine zq_iload (pc' := 15) rfl rfl rfl rfl ?_
    refine hq_calli (pc' := 18) rfl rfl rfl rfl rfl rfl h_Xi ?_
    refine hmonoi H ?_
    intro x9 g7 e8 H
    refine hq_calli (pc' := 21) rfl rfl rfl rfl rfl rfl h_Xi ?_
    refine hmonoi H ?_
    intro x12 g10 e11 H
    refine zq_aload (pc' := 22) rfl rfl rfl rfl ?_
    refine zq_getR (pc' := 25) rfl rfl rfl (hp_gC rfl) ?_
    refine zq_iload (pc' := 26) rfl rfl rfl rfl ?_
    obtain ⟨hi13, H⟩ := H
    refine zq_iald (pc' := 27) rfl rfl rfl (hp_ia rfl hi13) ?_
    refine hq_calli (pc' := 30) rfl rfl rfl rfl rfl rfl h_Xi ?_
    refine hmonoi H ?_
    intro x16 g14 e15 H
    refine zq_isub (pc' := 31) rfl rfl rfl ?_
    refine zq_goto (pc' := 39) rfl rfl rfl ?_
    exact zq_iret rfl trivial (Exists.intro _ (Exists.intro _ (And.intro rfl H)))
theorem zh_X8_unlike {d : Nat} {k : Int32 → hG → hE → Prop} {X : Nat → hG → hE → Prop} {p1 : Int32} {p2 : Int32} {g : hG} {e : hE} (H :
    hci d 220 [.ref 1046, .int p1] (sI g 1046 4 0) e (fun x3 g1 e2 =>
      zbr (x3 = 0)
      (hci d 215 [.ref 1046, .int 1] g1 e2 (fun x6 g4 e5 =>
          k x6 g4 e5) X)
      (hci d 220 [.ref 1046, .int p2] g1 e2 (fun x9 g7 e8 =>
          zbr (x9 = 0)
          (hci d 215 [.ref 1046, .int 1] g7 e8 (fun x12 g10 e11 =>
              k x12 g10 e11) X)
          (hin p1 8 ∧
            hin p2 8 ∧
            zbr ((g7.1 1052 p1.toNatClampNeg) = (g7.1 1052 p2.toNatClampNeg))
            (hci d 272 [.ref 1046, .int p1, .int p2] g7 e8 (fun x17 g15 e16 =>
                k x17 g15 e16) X)
            (k (-1) g7 e8))) X)) X) : hci (d + 1) 311 [.ref 1046, .int p1, .int p2] g e k X := by
  refine hent (M := zm_X8_unlike) (show hT 1046 = some (.inr _) from rfl) rfl rfl rfl rfl rfl ?_
  refine zq_aload (pc' := 1) rfl rfl rfl rfl ?_
  refine zq_ipush (pc' := 2) rfl rfl rfl ?_
  refine zq_put (pc' := 5) rfl rfl rfl trivial (hp_sI rfl) ?_
  refine zq_aload (pc' := 6) rfl rfl rfl rfl ?_
  refine zq_iload (pc' := 7) rfl rfl rfl rfl ?_
  refine hq_calli (pc' := 10) rfl rfl rfl rfl rfl rfl h_Xi ?_
  refine hmonoi H ?_
  intro x3 g1 e2 H
  refine zq_ifeq (pc' := 13) rfl rfl rfl rfl (And.intro (fun c => ?_) (fun c => ?_))
  · have H := H.1 c
    refine zq_aload (pc' := 22) rfl rfl rfl rfl ?_
    refine zq_ipush (pc' := 23) rfl rfl rfl ?_
    refine hq_calli (pc' := 26) rfl rfl rfl rfl rfl rfl h_Xi ?_
    refine hmonoi H ?_
    intro x6 g4 e5 H
    exact zq_iret rfl trivial (Exists.intro _ (Exists.intro _ (And.intro rfl H)))
  · have H := H.2 c
    refine zq_aload (pc' := 14) rfl rfl rfl rfl ?_
    refine zq_iload (pc' := 15) rfl rfl rfl rfl ?_
    refine hq_calli (pc' := 18) rfl rfl rfl rfl rfl rfl h_Xi ?_
    refine hmonoi H ?_
    intro x9 g7 e8 H
    refine zq_ifne (pc' := 21) rfl rfl rfl rfl (And.intro (fun c => ?_) (fun c => ?_))
    · have H := H.1 c
      refine zq_aload (pc' := 22) rfl rfl rfl rfl ?_
      refine zq_ipush (pc' := 23) rfl rfl rfl ?_
      refine hq_calli (pc' := 26) rfl rfl rfl rfl rfl rfl h_Xi ?_
      refine hmonoi H ?_
      intro x12 g10 e11 H
      exact zq_iret rfl trivial (Exists.intro _ (Exists.intro _ (And.intro rfl H)))
    · have H := H.2 c
      refine zq_aload (pc' := 28) rfl rfl rfl rfl ?_
      refine zq_getR (pc' := 31) rfl rfl rfl (hp_gC rfl) ?_
      refine zq_iload (pc' := 32) rfl rfl rfl rfl ?_
      obtain ⟨hi13, H⟩ := H
      refine zq_iald (pc' := 33) rfl rfl rfl (hp_ia rfl hi13) ?_
      refine zq_aload (pc' := 34) rfl rfl rfl rfl ?_
      refine zq_getR (pc' := 37) rfl rfl rfl (hp_gC rfl) ?_
      refine zq_iload (pc' := 38) rfl rfl rfl rfl ?_
      obtain ⟨hi14, H⟩ := H
      refine zq_iald (pc' := 39) rfl rfl rfl (hp_ia rfl hi14) ?_
      refine zq_icne (pc' := 42) rfl rfl rfl rfl (And.intro (fun c => ?_) (fun c => ?_))
      · have H := H.1 c
        refine zq_aload (pc' := 43) rfl rfl rfl rfl ?_
        refine zq_iload (pc' := 44) rfl rfl rfl rfl ?_
        refine zq_iload (pc' := 45) rfl rfl rfl rfl ?_
        refine hq_calli (pc' := 48) rfl rfl rfl rfl rfl rfl h_Xi ?_
        refine hmonoi H ?_
        intro x17 g15 e16 H
        refine zq_goto (pc' := 52) rfl rfl rfl ?_
        exact zq_iret rfl trivial (Exists.intro _ (Exists.intro _ (And.intro rfl H)))
      · have H := H.2 c
        refine zq_ipushn (pc' := 52) rfl rfl rfl ?_
        exact zq_iret rfl trivial (Exists.intro _ (Exists.intro _ (And.intro rfl H)))
theorem zh_X8_closedBehind {d : Nat} {k : Int32 → hG → hE → Prop} {X : Nat → hG → hE → Prop} {p1 : Int32} {p2 : Int32} {g : hG} {e : hE} (H :
    hcv d 265 [.ref 1046, .int p2] g e (fun g1 e2 =>
      hin p1 4 ∧
      hci d 219 [.int (g1.1 1063 p1.toNatClampNeg)] g1 e2 (fun x6 g4 e5 =>
        hcv d 250 [.ref 1046, .ref 1070, .int 0] g4 e5 (fun g7 e8 =>
          k x6 g7 e8) X) X) X) : hci (d + 1) 312 [.ref 1046, .int p1, .int p2] g e k X := by
  refine hent (M := zm_X8_closedBehind) (show hT 1046 = some (.inr _) from rfl) rfl rfl rfl rfl rfl ?_
  refine zq_aload (pc' := 1) rfl rfl rfl rfl ?_
  refine zq_iload (pc' := 2) rfl rfl rfl rfl ?_
  refine hq_callv (pc' := 5) rfl rfl rfl rfl rfl rfl h_Xi ?_
  refine hmonov H ?_
  intro g1 e2 H
  refine zq_aload (pc' := 6) rfl rfl rfl rfl ?_
  refine zq_getR (pc' := 9) rfl rfl rfl (hp_gC rfl) ?_
  refine zq_iload (pc' := 10) rfl rfl rfl rfl ?_
  obtain ⟨hi3, H⟩ := H
  refine zq_iald (pc' := 11) rfl rfl rfl (hp_ia rfl hi3) ?_
  refine hq_calli (pc' := 14) rfl rfl rfl rfl rfl rfl h_Xi ?_
  refine hmonoi H ?_
  intro x6 g4 e5 H
  refine zq_istore (pc' := 15) rfl rfl rfl ?_
  refine zq_aload (pc' := 16) rfl rfl rfl rfl ?_
  refine zq_aload (pc' := 17) rfl rfl rfl rfl ?_
  refine zq_getR (pc' := 20) rfl rfl rfl (hp_gC rfl) ?_
  refine zq_ipush (pc' := 21) rfl rfl rfl ?_
  refine hq_callv (pc' := 24) rfl rfl rfl rfl rfl rfl h_Xi ?_
  refine hmonov H ?_
  intro g7 e8 H
  refine zq_iload (pc' := 25) rfl rfl rfl rfl ?_
  exact zq_iret rfl trivial (Exists.intro _ (Exists.intro _ (And.intro rfl H)))
theorem zh_X8_pinchIfMay {d : Nat} {k : hG → hE → Prop} {X : Nat → hG → hE → Prop} {p0 np0 : Nat} (hp0 : hT p0 = some (.inl (0, np0))) {p1 : Int32} {g : hG} {e : hE} (H :
    hin p1 np0 ∧
    zbr ((g.1 p0 p1.toNatClampNeg) ≤ 0)
    (k g e)
    (hin p1 np0 ∧
      zbr (9 ≤ (g.1 p0 p1.toNatClampNeg))
      (k g e)
      (hin p1 np0 ∧
        hin p1 np0 ∧
        k (sI g p0 p1.toNatClampNeg ((g.1 p0 p1.toNatClampNeg) + 1)) e))) : hcv (d + 1) 313 [.ref p0, .int p1] g e k X := by
  refine hentS (M := zm_X8_pinchIfMay) rfl rfl rfl rfl ?_
  refine zq_aload (pc' := 1) rfl rfl rfl rfl ?_
  refine zq_iload (pc' := 2) rfl rfl rfl rfl ?_
  obtain ⟨hi1, H⟩ := H
  refine zq_iald (pc' := 3) rfl rfl rfl (hp_ia hp0 hi1) ?_
  refine zq_ifle (pc' := 6) rfl rfl rfl rfl (And.intro (fun c => ?_) (fun c => ?_))
  · have H := H.1 c
    exact zq_vret rfl (Exists.intro _ (Exists.intro _ (And.intro rfl H)))
  · have H := H.2 c
    refine zq_aload (pc' := 7) rfl rfl rfl rfl ?_
    refine zq_iload (pc' := 8) rfl rfl rfl rfl ?_
    obtain ⟨hi2, H⟩ := H
    refine zq_iald (pc' := 9) rfl rfl rfl (hp_ia hp0 hi2) ?_
    refine zq_ipush (pc' := 11) rfl rfl rfl ?_
    refine zq_icge (pc' := 14) rfl rfl rfl rfl (And.intro (fun c => ?_) (fun c => ?_))
    · have H := H.1 c
      exact zq_vret rfl (Exists.intro _ (Exists.intro _ (And.intro rfl H)))
    · have H := H.2 c
      refine zq_aload (pc' := 15) rfl rfl rfl rfl ?_
      refine zq_iload (pc' := 16) rfl rfl rfl rfl ?_
      refine zq_dup2 (pc' := 17) rfl rfl rfl rfl rfl ?_
      obtain ⟨hi3, H⟩ := H
      refine zq_iald (pc' := 18) rfl rfl rfl (hp_ia hp0 hi3) ?_
      refine zq_ipush (pc' := 19) rfl rfl rfl ?_
      refine zq_iadd (pc' := 20) rfl rfl rfl ?_
      obtain ⟨hi4, H⟩ := H
      refine zq_iast (pc' := 21) rfl rfl rfl (hp_is hp0 hi4) ?_
      exact zq_vret rfl (Exists.intro _ (Exists.intro _ (And.intro rfl H)))
theorem zh_X8_toPinch {d : Nat} {k : Int32 → hG → hE → Prop} {X : Nat → hG → hE → Prop} {p1 : Int32} {p2 : Int32} {g : hG} {e : hE} (H :
    hci d 220 [.ref 1046, .int p1] (sI g 1046 4 0) e (fun x3 g1 e2 =>
      zbr (x3 = 0)
      (hci d 215 [.ref 1046, .int 1] g1 e2 (fun x6 g4 e5 =>
          k x6 g4 e5) X)
      (hci d 217 [.long ((p2 : Int32).toInt64), .long 1, .long 60] g1 e2 (fun x9 g7 e8 =>
          zbr (x9 = 0)
          (hci d 215 [.ref 1046, .int 2] g7 e8 (fun x12 g10 e11 =>
              k x12 g10 e11) X)
          (hcv d 249 [.ref 1046, .ref 1070, .int 0] g7 e8 (fun g13 e14 =>
              hci d 312 [.ref 1046, .int p1, .int p2] g13 e14 (fun x17 g15 e16 =>
                hwi d zm_X8_toPinch k X 59 [(0, .ref 1046), (1, .int p1), (2, .int p2), (3, .int x17), (4, .int (-1)), (5, .int 0)] g15 e16) X) X)) X)) X) : hci (d + 1) 314 [.ref 1046, .int p1, .int p2] g e k X := by
  refine hent (M := zm_X8_toPinch) (show hT 1046 = some (.inr _) from rfl) rfl rfl rfl rfl rfl ?_
  refine zq_aload (pc' := 1) rfl rfl rfl rfl ?_
  refine zq_ipush (pc' := 2) rfl rfl rfl ?_
  refine zq_put (pc' := 5) rfl rfl rfl trivial (hp_sI rfl) ?_
  refine zq_aload (pc' := 6) rfl rfl rfl rfl ?_
  refine zq_iload (pc' := 7) rfl rfl rfl rfl ?_
  refine hq_calli (pc' := 10) rfl rfl rfl rfl rfl rfl h_Xi ?_
  refine hmonoi H ?_
  intro x3 g1 e2 H
  refine zq_ifne (pc' := 13) rfl rfl rfl rfl (And.intro (fun c => ?_) (fun c => ?_))
  · have H := H.1 c
    refine zq_aload (pc' := 14) rfl rfl rfl rfl ?_
    refine zq_ipush (pc' := 15) rfl rfl rfl ?_
    refine hq_calli (pc' := 18) rfl rfl rfl rfl rfl rfl h_Xi ?_
    refine hmonoi H ?_
    intro x6 g4 e5 H
    exact zq_iret rfl trivial (Exists.intro _ (Exists.intro _ (And.intro rfl H)))
  · have H := H.2 c
    refine zq_iload (pc' := 20) rfl rfl rfl rfl ?_
    refine zq_i2l (pc' := 21) rfl rfl rfl ?_
    refine zq_lpush (pc' := 22) rfl rfl rfl ?_
    refine zq_lpush (pc' := 25) rfl rfl rfl ?_
    refine hq_calli (pc' := 28) rfl rfl rfl rfl rfl rfl h_Xi ?_
    refine hmonoi H ?_
    intro x9 g7 e8 H
    refine zq_ifne (pc' := 31) rfl rfl rfl rfl (And.intro (fun c => ?_) (fun c => ?_))
    · have H := H.1 c
      refine zq_aload (pc' := 32) rfl rfl rfl rfl ?_
      refine zq_ipush (pc' := 33) rfl rfl rfl ?_
      refine hq_calli (pc' := 36) rfl rfl rfl rfl rfl rfl h_Xi ?_
      refine hmonoi H ?_
      intro x12 g10 e11 H
      exact zq_iret rfl trivial (Exists.intro _ (Exists.intro _ (And.intro rfl H)))
    · have H := H.2 c
      refine zq_aload (pc' := 38) rfl rfl rfl rfl ?_
      refine zq_aload (pc' := 39) rfl rfl rfl rfl ?_
      refine zq_getR (pc' := 42) rfl rfl rfl (hp_gC rfl) ?_
      refine zq_ipush (pc' := 43) rfl rfl rfl ?_
      refine hq_callv (pc' := 46) rfl rfl rfl rfl rfl rfl h_Xi ?_
      refine hmonov H ?_
      intro g13 e14 H
      refine zq_aload (pc' := 47) rfl rfl rfl rfl ?_
      refine zq_iload (pc' := 48) rfl rfl rfl rfl ?_
      refine zq_iload (pc' := 49) rfl rfl rfl rfl ?_
      refine hq_calli (pc' := 52) rfl rfl rfl rfl rfl rfl h_Xi ?_
      refine hmonoi H ?_
      intro x17 g15 e16 H
      refine zq_istore (pc' := 53) rfl rfl rfl ?_
      refine zq_ipushn (pc' := 54) rfl rfl rfl ?_
      refine zq_istore (pc' := 56) rfl rfl rfl ?_
      refine zq_ipush (pc' := 57) rfl rfl rfl ?_
      refine zq_istore_c (pc' := 59) rfl rfl ?_
      exact H
theorem zh_X8_toPinch_59 {d : Nat} {k : Int32 → hG → hE → Prop} {X : Nat → hG → hE → Prop} {l1 : Int32} {l2 : Int32} {l3 : Int32} {l4 : Int32} {l5 : Int32} {g : hG} {e : hE} (H :
    hin l1 8 ∧
    zbr ((g.1 1052 l1.toNatClampNeg) ≤ l5)
    (k l4 g e)
    (hcv d 313 [.ref 1060, .int ((16 * l1) + l5)] g e (fun g2 e3 =>
        hcv d 313 [.ref 1061, .int ((16 * l1) + l5)] g2 e3 (fun g4 e5 =>
          hci d 312 [.ref 1046, .int l1, .int l2] g4 e5 (fun x8 g6 e7 =>
            zbr (l3 < x8)
            (hwi d zm_X8_toPinch k X 59 [(0, .ref 1046), (1, .int l1), (2, .int l2), (3, .int x8), (4, .int l5), (5, .int (l5 + 1))] g6 e7)
            (hwi d zm_X8_toPinch k X 59 [(0, .ref 1046), (1, .int l1), (2, .int l2), (3, .int l3), (4, .int l4), (5, .int (l5 + 1))] g6 e7)) X) X) X)) : hwi d zm_X8_toPinch k X 59 [(0, .ref 1046), (1, .int l1), (2, .int l2), (3, .int l3), (4, .int l4), (5, .int l5)] g e := by
  refine zq_iload (pc' := 61) rfl rfl rfl rfl ?_
  refine zq_aload (pc' := 62) rfl rfl rfl rfl ?_
  refine zq_getR (pc' := 65) rfl rfl rfl (hp_gC rfl) ?_
  refine zq_iload (pc' := 66) rfl rfl rfl rfl ?_
  obtain ⟨hi1, H⟩ := H
  refine zq_iald (pc' := 67) rfl rfl rfl (hp_ia rfl hi1) ?_
  refine zq_icge (pc' := 70) rfl rfl rfl rfl (And.intro (fun c => ?_) (fun c => ?_))
  · have H := H.1 c
    refine zq_iload (pc' := 130) rfl rfl rfl rfl ?_
    exact zq_iret rfl trivial (Exists.intro _ (Exists.intro _ (And.intro rfl H)))
  · have H := H.2 c
    refine zq_aload (pc' := 71) rfl rfl rfl rfl ?_
    refine zq_getR (pc' := 74) rfl rfl rfl (hp_gC rfl) ?_
    refine zq_ipush (pc' := 76) rfl rfl rfl ?_
    refine zq_iload (pc' := 77) rfl rfl rfl rfl ?_
    refine zq_imul (pc' := 78) rfl rfl rfl ?_
    refine zq_iload (pc' := 80) rfl rfl rfl rfl ?_
    refine zq_iadd (pc' := 81) rfl rfl rfl ?_
    refine hq_callv (pc' := 84) rfl rfl rfl rfl rfl rfl h_Xi ?_
    refine hmonov H ?_
    intro g2 e3 H
    refine zq_aload (pc' := 85) rfl rfl rfl rfl ?_
    refine zq_getR (pc' := 88) rfl rfl rfl (hp_gC rfl) ?_
    refine zq_ipush (pc' := 90) rfl rfl rfl ?_
    refine zq_iload (pc' := 91) rfl rfl rfl rfl ?_
    refine zq_imul (pc' := 92) rfl rfl rfl ?_
    refine zq_iload (pc' := 94) rfl rfl rfl rfl ?_
    refine zq_iadd (pc' := 95) rfl rfl rfl ?_
    refine hq_callv (pc' := 98) rfl rfl rfl rfl rfl rfl h_Xi ?_
    refine hmonov H ?_
    intro g4 e5 H
    refine zq_aload (pc' := 99) rfl rfl rfl rfl ?_
    refine zq_iload (pc' := 100) rfl rfl rfl rfl ?_
    refine zq_iload (pc' := 101) rfl rfl rfl rfl ?_
    refine hq_calli (pc' := 104) rfl rfl rfl rfl rfl rfl h_Xi ?_
    refine hmonoi H ?_
    intro x8 g6 e7 H
    refine zq_istore (pc' := 106) rfl rfl rfl ?_
    refine zq_iload (pc' := 108) rfl rfl rfl rfl ?_
    refine zq_iload (pc' := 109) rfl rfl rfl rfl ?_
    refine zq_icgt (pc' := 112) rfl rfl rfl rfl (And.intro (fun c => ?_) (fun c => ?_))
    · have H := H.1 c
      refine zq_iload (pc' := 117) rfl rfl rfl rfl ?_
      refine zq_istore (pc' := 119) rfl rfl rfl ?_
      refine zq_iload (pc' := 121) rfl rfl rfl rfl ?_
      refine zq_istore (pc' := 122) rfl rfl rfl ?_
      refine zq_iinc (pc' := 125) rfl rfl rfl rfl ?_
      refine zq_goto_c (pc' := 59) rfl rfl ?_
      exact H
    · have H := H.2 c
      refine zq_goto (pc' := 122) rfl rfl rfl ?_
      refine zq_iinc (pc' := 125) rfl rfl rfl rfl ?_
      refine zq_goto_c (pc' := 59) rfl rfl ?_
      exact H
theorem zh_X8_toSlide {d : Nat} {k : Int32 → hG → hE → Prop} {X : Nat → hG → hE → Prop} {p1 : Int32} {p2 : Int32} {p3 : Int32} {g : hG} {e : hE} (H :
    hci d 220 [.ref 1046, .int p1] (sI g 1046 4 0) e (fun x3 g1 e2 =>
      zbr (x3 = 0)
      (hci d 215 [.ref 1046, .int 1] g1 e2 (fun x6 g4 e5 =>
          k x6 g4 e5) X)
      (hci d 217 [.long ((p3 : Int32).toInt64), .long 0, .long 1] g1 e2 (fun x9 g7 e8 =>
          zbr (x9 = 0)
          (hci d 215 [.ref 1046, .int 1] g7 e8 (fun x12 g10 e11 =>
              k x12 g10 e11) X)
          (hci d 217 [.long ((p2 : Int32).toInt64), .long 1, .long 60] g7 e8 (fun x15 g13 e14 =>
              zbr (x15 = 0)
              (hci d 215 [.ref 1046, .int 2] g13 e14 (fun x18 g16 e17 =>
                  k x18 g16 e17) X)
              (hcv d 249 [.ref 1046, .ref 1070, .int 0] g13 e14 (fun g19 e20 =>
                  hwi d zm_X8_toSlide k X 65 [(0, .ref 1046), (1, .int p1), (2, .int p2), (3, .int p3), (4, .int (-1)), (5, .int (-1)), (6, .int 0)] g19 e20) X)) X)) X)) X) : hci (d + 1) 315 [.ref 1046, .int p1, .int p2, .int p3] g e k X := by
  refine hent (M := zm_X8_toSlide) (show hT 1046 = some (.inr _) from rfl) rfl rfl rfl rfl rfl ?_
  refine zq_aload (pc' := 1) rfl rfl rfl rfl ?_
  refine zq_ipush (pc' := 2) rfl rfl rfl ?_
  refine zq_put (pc' := 5) rfl rfl rfl trivial (hp_sI rfl) ?_
  refine zq_aload (pc' := 6) rfl rfl rfl rfl ?_
  refine zq_iload (pc' := 7) rfl rfl rfl rfl ?_
  refine hq_calli (pc' := 10) rfl rfl rfl rfl rfl rfl h_Xi ?_
  refine hmonoi H ?_
  intro x3 g1 e2 H
  refine zq_ifeq (pc' := 13) rfl rfl rfl rfl (And.intro (fun c => ?_) (fun c => ?_))
  · have H := H.1 c
    refine zq_aload (pc' := 24) rfl rfl rfl rfl ?_
    refine zq_ipush (pc' := 25) rfl rfl rfl ?_
    refine hq_calli (pc' := 28) rfl rfl rfl rfl rfl rfl h_Xi ?_
    refine hmonoi H ?_
    intro x6 g4 e5 H
    exact zq_iret rfl trivial (Exists.intro _ (Exists.intro _ (And.intro rfl H)))
  · have H := H.2 c
    refine zq_iload (pc' := 14) rfl rfl rfl rfl ?_
    refine zq_i2l (pc' := 15) rfl rfl rfl ?_
    refine zq_lpush (pc' := 16) rfl rfl rfl ?_
    refine zq_lpush (pc' := 17) rfl rfl rfl ?_
    refine hq_calli (pc' := 20) rfl rfl rfl rfl rfl rfl h_Xi ?_
    refine hmonoi H ?_
    intro x9 g7 e8 H
    refine zq_ifne (pc' := 23) rfl rfl rfl rfl (And.intro (fun c => ?_) (fun c => ?_))
    · have H := H.1 c
      refine zq_aload (pc' := 24) rfl rfl rfl rfl ?_
      refine zq_ipush (pc' := 25) rfl rfl rfl ?_
      refine hq_calli (pc' := 28) rfl rfl rfl rfl rfl rfl h_Xi ?_
      refine hmonoi H ?_
      intro x12 g10 e11 H
      exact zq_iret rfl trivial (Exists.intro _ (Exists.intro _ (And.intro rfl H)))
    · have H := H.2 c
      refine zq_iload (pc' := 30) rfl rfl rfl rfl ?_
      refine zq_i2l (pc' := 31) rfl rfl rfl ?_
      refine zq_lpush (pc' := 32) rfl rfl rfl ?_
      refine zq_lpush (pc' := 35) rfl rfl rfl ?_
      refine hq_calli (pc' := 38) rfl rfl rfl rfl rfl rfl h_Xi ?_
      refine hmonoi H ?_
      intro x15 g13 e14 H
      refine zq_ifne (pc' := 41) rfl rfl rfl rfl (And.intro (fun c => ?_) (fun c => ?_))
      · have H := H.1 c
        refine zq_aload (pc' := 42) rfl rfl rfl rfl ?_
        refine zq_ipush (pc' := 43) rfl rfl rfl ?_
        refine hq_calli (pc' := 46) rfl rfl rfl rfl rfl rfl h_Xi ?_
        refine hmonoi H ?_
        intro x18 g16 e17 H
        exact zq_iret rfl trivial (Exists.intro _ (Exists.intro _ (And.intro rfl H)))
      · have H := H.2 c
        refine zq_aload (pc' := 48) rfl rfl rfl rfl ?_
        refine zq_aload (pc' := 49) rfl rfl rfl rfl ?_
        refine zq_getR (pc' := 52) rfl rfl rfl (hp_gC rfl) ?_
        refine zq_ipush (pc' := 53) rfl rfl rfl ?_
        refine hq_callv (pc' := 56) rfl rfl rfl rfl rfl rfl h_Xi ?_
        refine hmonov H ?_
        intro g19 e20 H
        refine zq_ipushn (pc' := 57) rfl rfl rfl ?_
        refine zq_istore (pc' := 59) rfl rfl rfl ?_
        refine zq_ipushn (pc' := 60) rfl rfl rfl ?_
        refine zq_istore (pc' := 62) rfl rfl rfl ?_
        refine zq_ipush (pc' := 63) rfl rfl rfl ?_
        refine zq_istore_c (pc' := 65) rfl rfl ?_
        exact H
theorem zh_X8_toSlide_65 {d : Nat} {k : Int32 → hG → hE → Prop} {X : Nat → hG → hE → Prop} {l1 : Int32} {l2 : Int32} {l3 : Int32} {l4 : Int32} {l5 : Int32} {l6 : Int32} {g : hG} {e : hE} (H :
    hin l1 8 ∧
    zbr ((g.1 1052 l1.toNatClampNeg) < l6)
    (zbr (l3 = 0)
      (k l5 g e)
      (k l4 g e))
    (hcv d 253 [.ref 1046, .int l1, .int l6] g e (fun g2 e3 =>
        hci d 312 [.ref 1046, .int l1, .int l2] g2 e3 (fun x6 g4 e5 =>
          zbr (l4 < x6)
          (hwi d zm_X8_toSlide k X 65 [(0, .ref 1046), (1, .int l1), (2, .int l2), (3, .int l3), (4, .int x6), (5, .int l6), (6, .int (l6 + 1))] g4 e5)
          (hwi d zm_X8_toSlide k X 65 [(0, .ref 1046), (1, .int l1), (2, .int l2), (3, .int l3), (4, .int l4), (5, .int l5), (6, .int (l6 + 1))] g4 e5)) X) X)) : hwi d zm_X8_toSlide k X 65 [(0, .ref 1046), (1, .int l1), (2, .int l2), (3, .int l3), (4, .int l4), (5, .int l5), (6, .int l6)] g e := by
  refine zq_iload (pc' := 67) rfl rfl rfl rfl ?_
  refine zq_aload (pc' := 68) rfl rfl rfl rfl ?_
  refine zq_getR (pc' := 71) rfl rfl rfl (hp_gC rfl) ?_
  refine zq_iload (pc' := 72) rfl rfl rfl rfl ?_
  obtain ⟨hi1, H⟩ := H
  refine zq_iald (pc' := 73) rfl rfl rfl (hp_ia rfl hi1) ?_
  refine zq_icgt (pc' := 76) rfl rfl rfl rfl (And.intro (fun c => ?_) (fun c => ?_))
  · have H := H.1 c
    refine zq_iload (pc' := 116) rfl rfl rfl rfl ?_
    refine zq_ifne (pc' := 119) rfl rfl rfl rfl (And.intro (fun c => ?_) (fun c => ?_))
    · have H := H.1 c
      refine zq_iload (pc' := 121) rfl rfl rfl rfl ?_
      refine zq_goto (pc' := 126) rfl rfl rfl ?_
      exact zq_iret rfl trivial (Exists.intro _ (Exists.intro _ (And.intro rfl H)))
    · have H := H.2 c
      refine zq_iload (pc' := 126) rfl rfl rfl rfl ?_
      exact zq_iret rfl trivial (Exists.intro _ (Exists.intro _ (And.intro rfl H)))
  · have H := H.2 c
    refine zq_aload (pc' := 77) rfl rfl rfl rfl ?_
    refine zq_iload (pc' := 78) rfl rfl rfl rfl ?_
    refine zq_iload (pc' := 80) rfl rfl rfl rfl ?_
    refine hq_callv (pc' := 83) rfl rfl rfl rfl rfl rfl h_Xi ?_
    refine hmonov H ?_
    intro g2 e3 H
    refine zq_aload (pc' := 84) rfl rfl rfl rfl ?_
    refine zq_iload (pc' := 85) rfl rfl rfl rfl ?_
    refine zq_iload (pc' := 86) rfl rfl rfl rfl ?_
    refine hq_calli (pc' := 89) rfl rfl rfl rfl rfl rfl h_Xi ?_
    refine hmonoi H ?_
    intro x6 g4 e5 H
    refine zq_istore (pc' := 91) rfl rfl rfl ?_
    refine zq_iload (pc' := 93) rfl rfl rfl rfl ?_
    refine zq_iload (pc' := 95) rfl rfl rfl rfl ?_
    refine zq_icgt (pc' := 98) rfl rfl rfl rfl (And.intro (fun c => ?_) (fun c => ?_))
    · have H := H.1 c
      refine zq_iload (pc' := 103) rfl rfl rfl rfl ?_
      refine zq_istore (pc' := 105) rfl rfl rfl ?_
      refine zq_iload (pc' := 107) rfl rfl rfl rfl ?_
      refine zq_istore (pc' := 109) rfl rfl rfl ?_
      refine zq_iinc (pc' := 112) rfl rfl rfl rfl ?_
      refine zq_goto_c (pc' := 65) rfl rfl ?_
      exact H
    · have H := H.2 c
      refine zq_goto (pc' := 109) rfl rfl rfl ?_
      refine zq_iinc (pc' := 112) rfl rfl rfl rfl ?_
      refine zq_goto_c (pc' := 65) rfl rfl ?_
      exact H
theorem zh_X8_toSet {d : Nat} {k : Int32 → hG → hE → Prop} {X : Nat → hG → hE → Prop} {p1 : Int32} {p2 : Int32} {g : hG} {e : hE} (H :
    hci d 220 [.ref 1046, .int p1] (sI g 1046 4 0) e (fun x3 g1 e2 =>
      zbr (x3 = 0)
      (hci d 215 [.ref 1046, .int 1] g1 e2 (fun x6 g4 e5 =>
          k x6 g4 e5) X)
      (hci d 217 [.long ((p2 : Int32).toInt64), .long 1, .long 60] g1 e2 (fun x9 g7 e8 =>
          zbr (x9 = 0)
          (hci d 215 [.ref 1046, .int 2] g7 e8 (fun x12 g10 e11 =>
              k x12 g10 e11) X)
          (hcv d 249 [.ref 1046, .ref 1070, .int 0] g7 e8 (fun g13 e14 =>
              hwi d zm_X8_toSet k X 54 [(0, .ref 1046), (1, .int p1), (2, .int p2), (3, .int (-1)), (4, .int (-1)), (5, .int 0)] g13 e14) X)) X)) X) : hci (d + 1) 316 [.ref 1046, .int p1, .int p2] g e k X := by
  refine hent (M := zm_X8_toSet) (show hT 1046 = some (.inr _) from rfl) rfl rfl rfl rfl rfl ?_
  refine zq_aload (pc' := 1) rfl rfl rfl rfl ?_
  refine zq_ipush (pc' := 2) rfl rfl rfl ?_
  refine zq_put (pc' := 5) rfl rfl rfl trivial (hp_sI rfl) ?_
  refine zq_aload (pc' := 6) rfl rfl rfl rfl ?_
  refine zq_iload (pc' := 7) rfl rfl rfl rfl ?_
  refine hq_calli (pc' := 10) rfl rfl rfl rfl rfl rfl h_Xi ?_
  refine hmonoi H ?_
  intro x3 g1 e2 H
  refine zq_ifne (pc' := 13) rfl rfl rfl rfl (And.intro (fun c => ?_) (fun c => ?_))
  · have H := H.1 c
    refine zq_aload (pc' := 14) rfl rfl rfl rfl ?_
    refine zq_ipush (pc' := 15) rfl rfl rfl ?_
    refine hq_calli (pc' := 18) rfl rfl rfl rfl rfl rfl h_Xi ?_
    refine hmonoi H ?_
    intro x6 g4 e5 H
    exact zq_iret rfl trivial (Exists.intro _ (Exists.intro _ (And.intro rfl H)))
  · have H := H.2 c
    refine zq_iload (pc' := 20) rfl rfl rfl rfl ?_
    refine zq_i2l (pc' := 21) rfl rfl rfl ?_
    refine zq_lpush (pc' := 22) rfl rfl rfl ?_
    refine zq_lpush (pc' := 25) rfl rfl rfl ?_
    refine hq_calli (pc' := 28) rfl rfl rfl rfl rfl rfl h_Xi ?_
    refine hmonoi H ?_
    intro x9 g7 e8 H
    refine zq_ifne (pc' := 31) rfl rfl rfl rfl (And.intro (fun c => ?_) (fun c => ?_))
    · have H := H.1 c
      refine zq_aload (pc' := 32) rfl rfl rfl rfl ?_
      refine zq_ipush (pc' := 33) rfl rfl rfl ?_
      refine hq_calli (pc' := 36) rfl rfl rfl rfl rfl rfl h_Xi ?_
      refine hmonoi H ?_
      intro x12 g10 e11 H
      exact zq_iret rfl trivial (Exists.intro _ (Exists.intro _ (And.intro rfl H)))
    · have H := H.2 c
      refine zq_aload (pc' := 38) rfl rfl rfl rfl ?_
      refine zq_aload (pc' := 39) rfl rfl rfl rfl ?_
      refine zq_getR (pc' := 42) rfl rfl rfl (hp_gC rfl) ?_
      refine zq_ipush (pc' := 43) rfl rfl rfl ?_
      refine hq_callv (pc' := 46) rfl rfl rfl rfl rfl rfl h_Xi ?_
      refine hmonov H ?_
      intro g13 e14 H
      refine zq_ipushn (pc' := 47) rfl rfl rfl ?_
      refine zq_istore (pc' := 48) rfl rfl rfl ?_
      refine zq_ipushn (pc' := 49) rfl rfl rfl ?_
      refine zq_istore (pc' := 51) rfl rfl rfl ?_
      refine zq_ipush (pc' := 52) rfl rfl rfl ?_
      refine zq_istore_c (pc' := 54) rfl rfl ?_
      exact H
theorem zh_X8_toSet_54 {d : Nat} {k : Int32 → hG → hE → Prop} {X : Nat → hG → hE → Prop} {l1 : Int32} {l2 : Int32} {l3 : Int32} {l4 : Int32} {l5 : Int32} {g : hG} {e : hE} (H :
    hin l1 8 ∧
    zbr ((g.1 1052 l1.toNatClampNeg) ≤ l5)
    (k l4 g e)
    (hci d 251 [.ref 1046, .int l1, .int l5] g e (fun x4 g2 e3 =>
        zbr (x4 ≤ 0)
        (hin ((16 * l1) + l5) 64 ∧
          zbr ((g2.1 1060 ((16 * l1) + l5).toNatClampNeg) = 0)
          (hin ((16 * l1) + l5) 64 ∧
            hin ((16 * l1) + l5) 64 ∧
            zbr (((sI g2 1060 ((16 * l1) + l5).toNatClampNeg 9).1 1061 ((16 * l1) + l5).toNatClampNeg) = 0)
            (hin ((16 * l1) + l5) 64 ∧
              hwi d zm_X8_toSet k X 125 [(0, .ref 1046), (1, .int l1), (2, .int l2), (3, .int l3), (4, .int l4), (5, .int l5)] (sI (sI g2 1060 ((16 * l1) + l5).toNatClampNeg 9) 1061 ((16 * l1) + l5).toNatClampNeg 9) e3)
            (hwi d zm_X8_toSet k X 125 [(0, .ref 1046), (1, .int l1), (2, .int l2), (3, .int l3), (4, .int l4), (5, .int l5)] (sI g2 1060 ((16 * l1) + l5).toNatClampNeg 9) e3))
          (hin ((16 * l1) + l5) 64 ∧
            zbr ((g2.1 1061 ((16 * l1) + l5).toNatClampNeg) = 0)
            (hin ((16 * l1) + l5) 64 ∧
              hwi d zm_X8_toSet k X 125 [(0, .ref 1046), (1, .int l1), (2, .int l2), (3, .int l3), (4, .int l4), (5, .int l5)] (sI g2 1061 ((16 * l1) + l5).toNatClampNeg 9) e3)
            (hwi d zm_X8_toSet k X 125 [(0, .ref 1046), (1, .int l1), (2, .int l2), (3, .int l3), (4, .int l4), (5, .int l5)] g2 e3)))
        (hwi d zm_X8_toSet k X 54 [(0, .ref 1046), (1, .int l1), (2, .int l2), (3, .int l3), (4, .int l4), (5, .int (l5 + 1))] g2 e3)) X)) : hwi d zm_X8_toSet k X 54 [(0, .ref 1046), (1, .int l1), (2, .int l2), (3, .int l3), (4, .int l4), (5, .int l5)] g e := by
  refine zq_iload (pc' := 56) rfl rfl rfl rfl ?_
  refine zq_aload (pc' := 57) rfl rfl rfl rfl ?_
  refine zq_getR (pc' := 60) rfl rfl rfl (hp_gC rfl) ?_
  refine zq_iload (pc' := 61) rfl rfl rfl rfl ?_
  obtain ⟨hi1, H⟩ := H
  refine zq_iald (pc' := 62) rfl rfl rfl (hp_ia rfl hi1) ?_
  refine zq_icge (pc' := 65) rfl rfl rfl rfl (And.intro (fun c => ?_) (fun c => ?_))
  · have H := H.1 c
    refine zq_iload (pc' := 168) rfl rfl rfl rfl ?_
    exact zq_iret rfl trivial (Exists.intro _ (Exists.intro _ (And.intro rfl H)))
  · have H := H.2 c
    refine zq_ipush (pc' := 67) rfl rfl rfl ?_
    refine zq_iload (pc' := 68) rfl rfl rfl rfl ?_
    refine zq_imul (pc' := 69) rfl rfl rfl ?_
    refine zq_iload (pc' := 71) rfl rfl rfl rfl ?_
    refine zq_iadd (pc' := 72) rfl rfl rfl ?_
    refine zq_istore (pc' := 74) rfl rfl rfl ?_
    refine zq_aload (pc' := 75) rfl rfl rfl rfl ?_
    refine zq_iload (pc' := 76) rfl rfl rfl rfl ?_
    refine zq_iload (pc' := 78) rfl rfl rfl rfl ?_
    refine hq_calli (pc' := 81) rfl rfl rfl rfl rfl rfl h_Xi ?_
    refine hmonoi H ?_
    intro x4 g2 e3 H
    refine zq_ifle (pc' := 84) rfl rfl rfl rfl (And.intro (fun c => ?_) (fun c => ?_))
    · have H := H.1 c
      refine zq_aload (pc' := 88) rfl rfl rfl rfl ?_
      refine zq_getR (pc' := 91) rfl rfl rfl (hp_gC rfl) ?_
      refine zq_iload (pc' := 93) rfl rfl rfl rfl ?_
      obtain ⟨hi5, H⟩ := H
      refine zq_iald (pc' := 94) rfl rfl rfl (hp_ia rfl hi5) ?_
      refine zq_ifne (pc' := 97) rfl rfl rfl rfl (And.intro (fun c => ?_) (fun c => ?_))
      · have H := H.1 c
        refine zq_aload (pc' := 98) rfl rfl rfl rfl ?_
        refine zq_getR (pc' := 101) rfl rfl rfl (hp_gC rfl) ?_
        refine zq_iload (pc' := 103) rfl rfl rfl rfl ?_
        refine zq_ipush (pc' := 105) rfl rfl rfl ?_
        obtain ⟨hi6, H⟩ := H
        refine zq_iast (pc' := 106) rfl rfl rfl (hp_is rfl hi6) ?_
        refine zq_aload (pc' := 107) rfl rfl rfl rfl ?_
        refine zq_getR (pc' := 110) rfl rfl rfl (hp_gC rfl) ?_
        refine zq_iload (pc' := 112) rfl rfl rfl rfl ?_
        obtain ⟨hi7, H⟩ := H
        refine zq_iald (pc' := 113) rfl rfl rfl (hp_ia rfl hi7) ?_
        refine zq_ifne_c (pc' := 116) (lt := [(0, .ref 1046), (1, .int l1), (2, .int l2), (3, .int l3), (4, .int l4), (5, .int l5)]) (lf := [(6, .int ((16 * l1) + l5)), (0, .ref 1046), (1, .int l1), (2, .int l2), (3, .int l3), (4, .int l4), (5, .int l5)]) rfl rfl rfl rfl (And.intro (fun c => ?_) (fun c => ?_))
        · have H := H.1 c
          refine zq_aload (pc' := 117) rfl rfl rfl rfl ?_
          refine zq_getR (pc' := 120) rfl rfl rfl (hp_gC rfl) ?_
          refine zq_iload (pc' := 122) rfl rfl rfl rfl ?_
          refine zq_ipush (pc' := 124) rfl rfl rfl ?_
          obtain ⟨hi8, H⟩ := H
          refine zq_iast_c (pc' := 125) rfl rfl (hp_is rfl hi8) ?_
          exact H
        · have H := H.2 c
          exact H
      · have H := H.2 c
        refine zq_aload (pc' := 107) rfl rfl rfl rfl ?_
        refine zq_getR (pc' := 110) rfl rfl rfl (hp_gC rfl) ?_
        refine zq_iload (pc' := 112) rfl rfl rfl rfl ?_
        obtain ⟨hi9, H⟩ := H
        refine zq_iald (pc' := 113) rfl rfl rfl (hp_ia rfl hi9) ?_
        refine zq_ifne_c (pc' := 116) (lt := [(0, .ref 1046), (1, .int l1), (2, .int l2), (3, .int l3), (4, .int l4), (5, .int l5)]) (lf := [(6, .int ((16 * l1) + l5)), (0, .ref 1046), (1, .int l1), (2, .int l2), (3, .int l3), (4, .int l4), (5, .int l5)]) rfl rfl rfl rfl (And.intro (fun c => ?_) (fun c => ?_))
        · have H := H.1 c
          refine zq_aload (pc' := 117) rfl rfl rfl rfl ?_
          refine zq_getR (pc' := 120) rfl rfl rfl (hp_gC rfl) ?_
          refine zq_iload (pc' := 122) rfl rfl rfl rfl ?_
          refine zq_ipush (pc' := 124) rfl rfl rfl ?_
          obtain ⟨hi10, H⟩ := H
          refine zq_iast_c (pc' := 125) rfl rfl (hp_is rfl hi10) ?_
          exact H
        · have H := H.2 c
          exact H
    · have H := H.2 c
      refine zq_goto (pc' := 160) rfl rfl rfl ?_
      refine zq_iinc (pc' := 163) rfl rfl rfl rfl ?_
      refine zq_goto_c (pc' := 54) rfl rfl ?_
      exact H
theorem zh_X8_toSet_125 {d : Nat} {k : Int32 → hG → hE → Prop} {X : Nat → hG → hE → Prop} {l1 : Int32} {l2 : Int32} {l3 : Int32} {l4 : Int32} {l5 : Int32} {g : hG} {e : hE} (H :
    hin l1 8 ∧
    hcv d 253 [.ref 1046, .int l1, .int (g.1 1052 l1.toNatClampNeg)] g e (fun g2 e3 =>
      hci d 312 [.ref 1046, .int l1, .int l2] g2 e3 (fun x6 g4 e5 =>
        zbr (l3 < x6)
        (hwi d zm_X8_toSet k X 54 [(0, .ref 1046), (1, .int l1), (2, .int l2), (3, .int x6), (4, .int l5), (5, .int (l5 + 1))] g4 e5)
        (hwi d zm_X8_toSet k X 54 [(0, .ref 1046), (1, .int l1), (2, .int l2), (3, .int l3), (4, .int l4), (5, .int (l5 + 1))] g4 e5)) X) X) : hwi d zm_X8_toSet k X 125 [(0, .ref 1046), (1, .int l1), (2, .int l2), (3, .int l3), (4, .int l4), (5, .int l5)] g e := by
  refine zq_aload (pc' := 126) rfl rfl rfl rfl ?_
  refine zq_iload (pc' := 127) rfl rfl rfl rfl ?_
  refine zq_aload (pc' := 128) rfl rfl rfl rfl ?_
  refine zq_getR (pc' := 131) rfl rfl rfl (hp_gC rfl) ?_
  refine zq_iload (pc' := 132) rfl rfl rfl rfl ?_
  obtain ⟨hi1, H⟩ := H
  refine zq_iald (pc' := 133) rfl rfl rfl (hp_ia rfl hi1) ?_
  refine hq_callv (pc' := 136) rfl rfl rfl rfl rfl rfl h_Xi ?_
  refine hmonov H ?_
  intro g2 e3 H
  refine zq_aload (pc' := 137) rfl rfl rfl rfl ?_
  refine zq_iload (pc' := 138) rfl rfl rfl rfl ?_
  refine zq_iload (pc' := 139) rfl rfl rfl rfl ?_
  refine hq_calli (pc' := 142) rfl rfl rfl rfl rfl rfl h_Xi ?_
  refine hmonoi H ?_
  intro x6 g4 e5 H
  refine zq_istore (pc' := 144) rfl rfl rfl ?_
  refine zq_iload (pc' := 146) rfl rfl rfl rfl ?_
  refine zq_iload (pc' := 147) rfl rfl rfl rfl ?_
  refine zq_icgt (pc' := 150) rfl rfl rfl rfl (And.intro (fun c => ?_) (fun c => ?_))
  · have H := H.1 c
    refine zq_iload (pc' := 155) rfl rfl rfl rfl ?_
    refine zq_istore (pc' := 157) rfl rfl rfl ?_
    refine zq_iload (pc' := 159) rfl rfl rfl rfl ?_
    refine zq_istore (pc' := 160) rfl rfl rfl ?_
    refine zq_iinc (pc' := 163) rfl rfl rfl rfl ?_
    refine zq_goto_c (pc' := 54) rfl rfl ?_
    exact H
  · have H := H.2 c
    refine zq_goto (pc' := 160) rfl rfl rfl ?_
    refine zq_iinc (pc' := 163) rfl rfl rfl rfl ?_
    refine zq_goto_c (pc' := 54) rfl rfl ?_
    exact H
theorem zh_X8_note {d : Nat} {k : Int32 → hG → hE → Prop} {X : Nat → hG → hE → Prop} {p1 : Int32} {p2 : Int32} {p3 : Int32} {p4 : Int32} {g : hG} {e : hE} (H :
    hci d 221 [.ref 1046, .int p1, .int p2] (sI g 1046 4 0) e (fun x3 g1 e2 =>
      zbr (x3 = 0)
      (hci d 215 [.ref 1046, .int 1] g1 e2 (fun x6 g4 e5 =>
          k x6 g4 e5) X)
      (zbr ((g1.1 1046 33) = 8)
        (hci d 277 [.ref 1046, .int 2] g1 e2 (fun x9 g7 e8 =>
            k x9 g7 e8) X)
        (hci d 217 [.long ((p3 : Int32).toInt64), .long 0, .long 20] g1 e2 (fun x12 g10 e11 =>
            zbr (x12 = 0)
            (hci d 277 [.ref 1046, .int 2] g10 e11 (fun x15 g13 e14 =>
                k x15 g13 e14) X)
            (hin (g10.1 1046 33) 8 ∧
              hin ((sI g10 1073 (g10.1 1046 33).toNatClampNeg p1).1 1046 33) 8 ∧
              ∀ g18, g18 = sI (sI g10 1073 (g10.1 1046 33).toNatClampNeg p1) 1074 ((sI g10 1073 (g10.1 1046 33).toNatClampNeg p1).1 1046 33).toNatClampNeg p2 →
              hin (g18.1 1046 33) 8 ∧
              zbr (p4 = 0)
              (hin ((sI g18 1075 (g18.1 1046 33).toNatClampNeg p3).1 1046 33) 8 ∧
                ∀ g21, g21 = sI (sI g18 1075 (g18.1 1046 33).toNatClampNeg p3) 1076 ((sI g18 1075 (g18.1 1046 33).toNatClampNeg p3).1 1046 33).toNatClampNeg 0 →
                k ((sI g21 1046 33 ((g21.1 1046 33) + 1)).1 1046 33) (sI g21 1046 33 ((g21.1 1046 33) + 1)) e11)
              (hin ((sI g18 1075 (g18.1 1046 33).toNatClampNeg p3).1 1046 33) 8 ∧
                ∀ g23, g23 = sI (sI g18 1075 (g18.1 1046 33).toNatClampNeg p3) 1076 ((sI g18 1075 (g18.1 1046 33).toNatClampNeg p3).1 1046 33).toNatClampNeg 1 →
                k ((sI g23 1046 33 ((g23.1 1046 33) + 1)).1 1046 33) (sI g23 1046 33 ((g23.1 1046 33) + 1)) e11))) X))) X) : hci (d + 1) 317 [.ref 1046, .int p1, .int p2, .int p3, .int p4] g e k X := by
  refine hent (M := zm_X8_note) (show hT 1046 = some (.inr _) from rfl) rfl rfl rfl rfl rfl ?_
  refine zq_aload (pc' := 1) rfl rfl rfl rfl ?_
  refine zq_ipush (pc' := 2) rfl rfl rfl ?_
  refine zq_put (pc' := 5) rfl rfl rfl trivial (hp_sI rfl) ?_
  refine zq_aload (pc' := 6) rfl rfl rfl rfl ?_
  refine zq_iload (pc' := 7) rfl rfl rfl rfl ?_
  refine zq_iload (pc' := 8) rfl rfl rfl rfl ?_
  refine hq_calli (pc' := 11) rfl rfl rfl rfl rfl rfl h_Xi ?_
  refine hmonoi H ?_
  intro x3 g1 e2 H
  refine zq_ifne (pc' := 14) rfl rfl rfl rfl (And.intro (fun c => ?_) (fun c => ?_))
  · have H := H.1 c
    refine zq_aload (pc' := 15) rfl rfl rfl rfl ?_
    refine zq_ipush (pc' := 16) rfl rfl rfl ?_
    refine hq_calli (pc' := 19) rfl rfl rfl rfl rfl rfl h_Xi ?_
    refine hmonoi H ?_
    intro x6 g4 e5 H
    exact zq_iret rfl trivial (Exists.intro _ (Exists.intro _ (And.intro rfl H)))
  · have H := H.2 c
    refine zq_aload (pc' := 21) rfl rfl rfl rfl ?_
    refine zq_getI (pc' := 24) rfl rfl rfl (hp_gI rfl) ?_
    refine zq_ipush (pc' := 26) rfl rfl rfl ?_
    refine zq_iceq (pc' := 29) rfl rfl rfl rfl (And.intro (fun c => ?_) (fun c => ?_))
    · have H := H.1 c
      refine zq_aload (pc' := 42) rfl rfl rfl rfl ?_
      refine zq_ipush (pc' := 43) rfl rfl rfl ?_
      refine hq_calli (pc' := 46) rfl rfl rfl rfl rfl rfl h_Xi ?_
      refine hmonoi H ?_
      intro x9 g7 e8 H
      exact zq_iret rfl trivial (Exists.intro _ (Exists.intro _ (And.intro rfl H)))
    · have H := H.2 c
      refine zq_iload (pc' := 30) rfl rfl rfl rfl ?_
      refine zq_i2l (pc' := 31) rfl rfl rfl ?_
      refine zq_lpush (pc' := 32) rfl rfl rfl ?_
      refine zq_lpush (pc' := 35) rfl rfl rfl ?_
      refine hq_calli (pc' := 38) rfl rfl rfl rfl rfl rfl h_Xi ?_
      refine hmonoi H ?_
      intro x12 g10 e11 H
      refine zq_ifne (pc' := 41) rfl rfl rfl rfl (And.intro (fun c => ?_) (fun c => ?_))
      · have H := H.1 c
        refine zq_aload (pc' := 42) rfl rfl rfl rfl ?_
        refine zq_ipush (pc' := 43) rfl rfl rfl ?_
        refine hq_calli (pc' := 46) rfl rfl rfl rfl rfl rfl h_Xi ?_
        refine hmonoi H ?_
        intro x15 g13 e14 H
        exact zq_iret rfl trivial (Exists.intro _ (Exists.intro _ (And.intro rfl H)))
      · have H := H.2 c
        refine zq_aload (pc' := 48) rfl rfl rfl rfl ?_
        refine zq_getR (pc' := 51) rfl rfl rfl (hp_gC rfl) ?_
        refine zq_aload (pc' := 52) rfl rfl rfl rfl ?_
        refine zq_getI (pc' := 55) rfl rfl rfl (hp_gI rfl) ?_
        refine zq_iload (pc' := 56) rfl rfl rfl rfl ?_
        obtain ⟨hi16, H⟩ := H
        refine zq_iast (pc' := 57) rfl rfl rfl (hp_is rfl hi16) ?_
        refine zq_aload (pc' := 58) rfl rfl rfl rfl ?_
        refine zq_getR (pc' := 61) rfl rfl rfl (hp_gC rfl) ?_
        refine zq_aload (pc' := 62) rfl rfl rfl rfl ?_
        refine zq_getI (pc' := 65) rfl rfl rfl (hp_gI rfl) ?_
        refine zq_iload (pc' := 66) rfl rfl rfl rfl ?_
        obtain ⟨hi17, H⟩ := H
        refine zq_iast (pc' := 67) rfl rfl rfl (hp_is rfl hi17) ?_
        have H := H _ rfl
        refine zq_aload (pc' := 68) rfl rfl rfl rfl ?_
        refine zq_getR (pc' := 71) rfl rfl rfl (hp_gC rfl) ?_
        refine zq_aload (pc' := 72) rfl rfl rfl rfl ?_
        refine zq_getI (pc' := 75) rfl rfl rfl (hp_gI rfl) ?_
        refine zq_iload (pc' := 76) rfl rfl rfl rfl ?_
        obtain ⟨hi19, H⟩ := H
        refine zq_iast (pc' := 77) rfl rfl rfl (hp_is rfl hi19) ?_
        refine zq_aload (pc' := 78) rfl rfl rfl rfl ?_
        refine zq_getR (pc' := 81) rfl rfl rfl (hp_gC rfl) ?_
        refine zq_aload (pc' := 82) rfl rfl rfl rfl ?_
        refine zq_getI (pc' := 85) rfl rfl rfl (hp_gI rfl) ?_
        refine zq_iload (pc' := 87) rfl rfl rfl rfl ?_
        refine zq_ifeq (pc' := 90) rfl rfl rfl rfl (And.intro (fun c => ?_) (fun c => ?_))
        · have H := H.1 c
          refine zq_ipush (pc' := 95) rfl rfl rfl ?_
          obtain ⟨hi20, H⟩ := H
          refine zq_iast (pc' := 96) rfl rfl rfl (hp_is rfl hi20) ?_
          have H := H _ rfl
          refine zq_aload (pc' := 97) rfl rfl rfl rfl ?_
          refine zq_dup (pc' := 98) rfl rfl rfl rfl ?_
          refine zq_getI (pc' := 101) rfl rfl rfl (hp_gI rfl) ?_
          refine zq_ipush (pc' := 102) rfl rfl rfl ?_
          refine zq_iadd (pc' := 103) rfl rfl rfl ?_
          refine zq_put (pc' := 106) rfl rfl rfl trivial (hp_sI rfl) ?_
          refine zq_aload (pc' := 107) rfl rfl rfl rfl ?_
          refine zq_getI (pc' := 110) rfl rfl rfl (hp_gI rfl) ?_
          exact zq_iret rfl trivial (Exists.intro _ (Exists.intro _ (And.intro rfl H)))
        · have H := H.2 c
          refine zq_ipush (pc' := 91) rfl rfl rfl ?_
          refine zq_goto (pc' := 95) rfl rfl rfl ?_
          obtain ⟨hi22, H⟩ := H
          refine zq_iast (pc' := 96) rfl rfl rfl (hp_is rfl hi22) ?_
          have H := H _ rfl
          refine zq_aload (pc' := 97) rfl rfl rfl rfl ?_
          refine zq_dup (pc' := 98) rfl rfl rfl rfl ?_
          refine zq_getI (pc' := 101) rfl rfl rfl (hp_gI rfl) ?_
          refine zq_ipush (pc' := 102) rfl rfl rfl ?_
          refine zq_iadd (pc' := 103) rfl rfl rfl ?_
          refine zq_put (pc' := 106) rfl rfl rfl trivial (hp_sI rfl) ?_
          refine zq_aload (pc' := 107) rfl rfl rfl rfl ?_
          refine zq_getI (pc' := 110) rfl rfl rfl (hp_gI rfl) ?_
          exact zq_iret rfl trivial (Exists.intro _ (Exists.intro _ (And.intro rfl H)))
theorem zh_X8_isAsSeen {d : Nat} {k : Int32 → hG → hE → Prop} {X : Nat → hG → hE → Prop}  {g : hG} {e : hE} (H :
    hcv d 249 [.ref 1046, .ref 1077, .int 0] g e (fun g1 e2 =>
      hwi d zm_X8_isAsSeen k X 13 [(0, .ref 1046), (1, .int 0), (2, .int 0)] g1 e2) X) : hci (d + 1) 318 [.ref 1046] g e k X := by
  refine hent (M := zm_X8_isAsSeen) (show hT 1046 = some (.inr _) from rfl) rfl rfl rfl rfl rfl ?_
  refine zq_aload (pc' := 1) rfl rfl rfl rfl ?_
  refine zq_aload (pc' := 2) rfl rfl rfl rfl ?_
  refine zq_getR (pc' := 5) rfl rfl rfl (hp_gC rfl) ?_
  refine zq_ipush (pc' := 6) rfl rfl rfl ?_
  refine hq_callv (pc' := 9) rfl rfl rfl rfl rfl rfl h_Xi ?_
  refine hmonov H ?_
  intro g1 e2 H
  refine zq_ipush (pc' := 10) rfl rfl rfl ?_
  refine zq_istore (pc' := 11) rfl rfl rfl ?_
  refine zq_ipush (pc' := 12) rfl rfl rfl ?_
  refine zq_istore_c (pc' := 13) rfl rfl ?_
  exact H
theorem zh_X8_isAsSeen_13 {d : Nat} {k : Int32 → hG → hE → Prop} {X : Nat → hG → hE → Prop} {l1 : Int32} {l2 : Int32} {g : hG} {e : hE} (H :
    zbr ((g.1 1046 33) ≤ l2)
    (hwi d zm_X8_isAsSeen k X 42 [(0, .ref 1046), (1, .int l1), (2, .int 1), (3, .int 0)] g e)
    (hin l2 8 ∧
      hci d 2 [.int l1, .int (g.1 1075 l2.toNatClampNeg)] g e (fun x4 g2 e3 =>
        hwi d zm_X8_isAsSeen k X 13 [(0, .ref 1046), (1, .int x4), (2, .int (l2 + 1))] g2 e3) X)) : hwi d zm_X8_isAsSeen k X 13 [(0, .ref 1046), (1, .int l1), (2, .int l2)] g e := by
  refine zq_iload (pc' := 14) rfl rfl rfl rfl ?_
  refine zq_aload (pc' := 15) rfl rfl rfl rfl ?_
  refine zq_getI (pc' := 18) rfl rfl rfl (hp_gI rfl) ?_
  refine zq_icge (pc' := 21) rfl rfl rfl rfl (And.intro (fun c => ?_) (fun c => ?_))
  · have H := H.1 c
    refine zq_ipush (pc' := 39) rfl rfl rfl ?_
    refine zq_istore (pc' := 40) rfl rfl rfl ?_
    refine zq_ipush (pc' := 41) rfl rfl rfl ?_
    refine zq_istore_c (pc' := 42) rfl rfl ?_
    exact H
  · have H := H.2 c
    refine zq_iload (pc' := 22) rfl rfl rfl rfl ?_
    refine zq_aload (pc' := 23) rfl rfl rfl rfl ?_
    refine zq_getR (pc' := 26) rfl rfl rfl (hp_gC rfl) ?_
    refine zq_iload (pc' := 27) rfl rfl rfl rfl ?_
    obtain ⟨hi1, H⟩ := H
    refine zq_iald (pc' := 28) rfl rfl rfl (hp_ia rfl hi1) ?_
    refine hq_calli (pc' := 31) rfl rfl rfl rfl rfl rfl h_Xi ?_
    refine hmonoi H ?_
    intro x4 g2 e3 H
    refine zq_istore (pc' := 32) rfl rfl rfl ?_
    refine zq_iinc (pc' := 35) rfl rfl rfl rfl ?_
    refine zq_goto_c (pc' := 13) rfl rfl ?_
    exact H
theorem zh_X8_isAsSeen_42 {d : Nat} {k : Int32 → hG → hE → Prop} {X : Nat → hG → hE → Prop} {l1 : Int32} {l2 : Int32} {l3 : Int32} {g : hG} {e : hE} (H :
    zbr (l1 < l3)
    (hcv d 250 [.ref 1046, .ref 1077, .int 0] g e (fun g1 e2 =>
        (l2 = 0 ∨ l2 = 1) ∧ k l2 g1 e2) X)
    (zbr (l2 = 0)
      (hcv d 250 [.ref 1046, .ref 1077, .int 0] g e (fun g3 e4 =>
          (l2 = 0 ∨ l2 = 1) ∧ k l2 g3 e4) X)
      (hwi d zm_X8_isAsSeen k X 54 [(0, .ref 1046), (1, .int l1), (2, .int l2), (3, .int l3), (4, .int 0)] g e))) : hwi d zm_X8_isAsSeen k X 42 [(0, .ref 1046), (1, .int l1), (2, .int l2), (3, .int l3)] g e := by
  refine zq_iload (pc' := 43) rfl rfl rfl rfl ?_
  refine zq_iload (pc' := 44) rfl rfl rfl rfl ?_
  refine zq_icgt (pc' := 47) rfl rfl rfl rfl (And.intro (fun c => ?_) (fun c => ?_))
  · have H := H.1 c
    refine zq_aload (pc' := 143) rfl rfl rfl rfl ?_
    refine zq_aload (pc' := 144) rfl rfl rfl rfl ?_
    refine zq_getR (pc' := 147) rfl rfl rfl (hp_gC rfl) ?_
    refine zq_ipush (pc' := 148) rfl rfl rfl ?_
    refine hq_callv (pc' := 151) rfl rfl rfl rfl rfl rfl h_Xi ?_
    refine hmonov H ?_
    intro g1 e2 H
    refine zq_iload (pc' := 152) rfl rfl rfl rfl ?_
    exact zq_iret rfl H.1 (Exists.intro _ (Exists.intro _ (And.intro rfl H.2)))
  · have H := H.2 c
    refine zq_iload (pc' := 48) rfl rfl rfl rfl ?_
    refine zq_ifeq (pc' := 51) rfl rfl rfl rfl (And.intro (fun c => ?_) (fun c => ?_))
    · have H := H.1 c
      refine zq_aload (pc' := 143) rfl rfl rfl rfl ?_
      refine zq_aload (pc' := 144) rfl rfl rfl rfl ?_
      refine zq_getR (pc' := 147) rfl rfl rfl (hp_gC rfl) ?_
      refine zq_ipush (pc' := 148) rfl rfl rfl ?_
      refine hq_callv (pc' := 151) rfl rfl rfl rfl rfl rfl h_Xi ?_
      refine hmonov H ?_
      intro g3 e4 H
      refine zq_iload (pc' := 152) rfl rfl rfl rfl ?_
      exact zq_iret rfl H.1 (Exists.intro _ (Exists.intro _ (And.intro rfl H.2)))
    · have H := H.2 c
      refine zq_ipush (pc' := 52) rfl rfl rfl ?_
      refine zq_istore_c (pc' := 54) rfl rfl ?_
      exact H
theorem zh_X8_isAsSeen_54 {d : Nat} {k : Int32 → hG → hE → Prop} {X : Nat → hG → hE → Prop} {l1 : Int32} {l2 : Int32} {l3 : Int32} {l4 : Int32} {g : hG} {e : hE} (H :
    zbr ((g.1 1046 33) ≤ l4)
    (hcv d 265 [.ref 1046, .int 1] g e (fun g1 e2 =>
        hwi d zm_X8_isAsSeen k X 42 [(0, .ref 1046), (1, .int l1), (2, .int l2), (3, .int (l3 + 1))] g1 e2) X)
    (zbr (l2 = 0)
      (hwi d zm_X8_isAsSeen k X 54 [(0, .ref 1046), (1, .int l1), (2, .int 0), (3, .int l3), (4, .int (l4 + 1))] g e)
      (hin l4 8 ∧
        zbr ((g.1 1075 l4.toNatClampNeg) = l3)
        (hin l4 8 ∧
          hin (g.1 1073 l4.toNatClampNeg) 4 ∧
          hin l4 8 ∧
          hci d 218 [.int (g.1 1063 (g.1 1073 l4.toNatClampNeg).toNatClampNeg), .int (g.1 1074 l4.toNatClampNeg)] g e (fun x9 g7 e8 =>
            hin l4 8 ∧
            zbr ((g7.1 1076 l4.toNatClampNeg) = 1)
            (zbr (x9 = 1)
              (hwi d zm_X8_isAsSeen k X 54 [(0, .ref 1046), (1, .int l1), (2, .int 1), (3, .int l3), (4, .int (l4 + 1))] g7 e8)
              (hwi d zm_X8_isAsSeen k X 54 [(0, .ref 1046), (1, .int l1), (2, .int 0), (3, .int l3), (4, .int (l4 + 1))] g7 e8))
            (zbr (x9 = 0)
              (hwi d zm_X8_isAsSeen k X 54 [(0, .ref 1046), (1, .int l1), (2, .int 1), (3, .int l3), (4, .int (l4 + 1))] g7 e8)
              (hwi d zm_X8_isAsSeen k X 54 [(0, .ref 1046), (1, .int l1), (2, .int 0), (3, .int l3), (4, .int (l4 + 1))] g7 e8))) X)
        (hwi d zm_X8_isAsSeen k X 54 [(0, .ref 1046), (1, .int l1), (2, .int 1), (3, .int l3), (4, .int (l4 + 1))] g e)))) : hwi d zm_X8_isAsSeen k X 54 [(0, .ref 1046), (1, .int l1), (2, .int l2), (3, .int l3), (4, .int l4)] g e := by
  refine zq_iload (pc' := 56) rfl rfl rfl rfl ?_
  refine zq_aload (pc' := 57) rfl rfl rfl rfl ?_
  refine zq_getI (pc' := 60) rfl rfl rfl (hp_gI rfl) ?_
  refine zq_icge (pc' := 63) rfl rfl rfl rfl (And.intro (fun c => ?_) (fun c => ?_))
  · have H := H.1 c
    refine zq_aload (pc' := 132) rfl rfl rfl rfl ?_
    refine zq_ipush (pc' := 133) rfl rfl rfl ?_
    refine hq_callv (pc' := 136) rfl rfl rfl rfl rfl rfl h_Xi ?_
    refine hmonov H ?_
    intro g1 e2 H
    refine zq_iinc (pc' := 139) rfl rfl rfl rfl ?_
    refine zq_goto_c (pc' := 42) rfl rfl ?_
    exact H
  · have H := H.2 c
    refine zq_iload (pc' := 64) rfl rfl rfl rfl ?_
    refine zq_ifeq (pc' := 67) rfl rfl rfl rfl (And.intro (fun c => ?_) (fun c => ?_))
    · have H := H.1 c
      refine zq_ipush (pc' := 124) rfl rfl rfl ?_
      refine zq_istore (pc' := 125) rfl rfl rfl ?_
      refine zq_iinc (pc' := 128) rfl rfl rfl rfl ?_
      refine zq_goto_c (pc' := 54) rfl rfl ?_
      exact H
    · have H := H.2 c
      refine zq_aload (pc' := 68) rfl rfl rfl rfl ?_
      refine zq_getR (pc' := 71) rfl rfl rfl (hp_gC rfl) ?_
      refine zq_iload (pc' := 73) rfl rfl rfl rfl ?_
      obtain ⟨hi3, H⟩ := H
      refine zq_iald (pc' := 74) rfl rfl rfl (hp_ia rfl hi3) ?_
      refine zq_iload (pc' := 75) rfl rfl rfl rfl ?_
      refine zq_icne (pc' := 78) rfl rfl rfl rfl (And.intro (fun c => ?_) (fun c => ?_))
      · have H := H.1 c
        refine zq_aload (pc' := 79) rfl rfl rfl rfl ?_
        refine zq_getR (pc' := 82) rfl rfl rfl (hp_gC rfl) ?_
        refine zq_aload (pc' := 83) rfl rfl rfl rfl ?_
        refine zq_getR (pc' := 86) rfl rfl rfl (hp_gC rfl) ?_
        refine zq_iload (pc' := 88) rfl rfl rfl rfl ?_
        obtain ⟨hi4, H⟩ := H
        refine zq_iald (pc' := 89) rfl rfl rfl (hp_ia rfl hi4) ?_
        obtain ⟨hi5, H⟩ := H
        refine zq_iald (pc' := 90) rfl rfl rfl (hp_ia rfl hi5) ?_
        refine zq_aload (pc' := 91) rfl rfl rfl rfl ?_
        refine zq_getR (pc' := 94) rfl rfl rfl (hp_gC rfl) ?_
        refine zq_iload (pc' := 96) rfl rfl rfl rfl ?_
        obtain ⟨hi6, H⟩ := H
        refine zq_iald (pc' := 97) rfl rfl rfl (hp_ia rfl hi6) ?_
        refine hq_calli (pc' := 100) rfl rfl rfl rfl rfl rfl h_Xi ?_
        refine hmonoi H ?_
        intro x9 g7 e8 H
        refine zq_aload (pc' := 101) rfl rfl rfl rfl ?_
        refine zq_getR (pc' := 104) rfl rfl rfl (hp_gC rfl) ?_
        refine zq_iload (pc' := 106) rfl rfl rfl rfl ?_
        obtain ⟨hi10, H⟩ := H
        refine zq_iald (pc' := 107) rfl rfl rfl (hp_ia rfl hi10) ?_
        refine zq_ipush (pc' := 108) rfl rfl rfl ?_
        refine zq_icne (pc' := 111) rfl rfl rfl rfl (And.intro (fun c => ?_) (fun c => ?_))
        · have H := H.1 c
          refine zq_ipush (pc' := 112) rfl rfl rfl ?_
          refine zq_goto (pc' := 116) rfl rfl rfl ?_
          refine zq_icne (pc' := 119) rfl rfl rfl rfl (And.intro (fun c => ?_) (fun c => ?_))
          · have H := H.1 c
            refine zq_ipush (pc' := 120) rfl rfl rfl ?_
            refine zq_goto (pc' := 124) rfl rfl rfl ?_
            refine zq_istore (pc' := 125) rfl rfl rfl ?_
            refine zq_iinc (pc' := 128) rfl rfl rfl rfl ?_
            refine zq_goto_c (pc' := 54) rfl rfl ?_
            exact H
          · have H := H.2 c
            refine zq_ipush (pc' := 124) rfl rfl rfl ?_
            refine zq_istore (pc' := 125) rfl rfl rfl ?_
            refine zq_iinc (pc' := 128) rfl rfl rfl rfl ?_
            refine zq_goto_c (pc' := 54) rfl rfl ?_
            exact H
        · have H := H.2 c
          refine zq_ipush (pc' := 116) rfl rfl rfl ?_
          refine zq_icne (pc' := 119) rfl rfl rfl rfl (And.intro (fun c => ?_) (fun c => ?_))
          · have H := H.1 c
            refine zq_ipush (pc' := 120) rfl rfl rfl ?_
            refine zq_goto (pc' := 124) rfl rfl rfl ?_
            refine zq_istore (pc' := 125) rfl rfl rfl ?_
            refine zq_iinc (pc' := 128) rfl rfl rfl rfl ?_
            refine zq_goto_c (pc' := 54) rfl rfl ?_
            exact H
          · have H := H.2 c
            refine zq_ipush (pc' := 124) rfl rfl rfl ?_
            refine zq_istore (pc' := 125) rfl rfl rfl ?_
            refine zq_iinc (pc' := 128) rfl rfl rfl rfl ?_
            refine zq_goto_c (pc' := 54) rfl rfl ?_
            exact H
      · have H := H.2 c
        refine zq_ipush (pc' := 120) rfl rfl rfl ?_
        refine zq_goto (pc' := 124) rfl rfl rfl ?_
        refine zq_istore (pc' := 125) rfl rfl rfl ?_
        refine zq_iinc (pc' := 128) rfl rfl rfl rfl ?_
        refine zq_goto_c (pc' := 54) rfl rfl ?_
        exact H
theorem zh_X8_tellFits {d : Nat} {k : hG → hE → Prop} {X : Nat → hG → hE → Prop}  {g : hG} {e : hE} (H :
    hwv d zm_X8_tellFits k X 7 [(0, .ref 1046), (1, .int 0)] (sI g 1046 49 0) e) : hcv (d + 1) 319 [.ref 1046] g e k X := by
  refine hent (M := zm_X8_tellFits) (show hT 1046 = some (.inr _) from rfl) rfl rfl rfl rfl rfl ?_
  refine zq_aload (pc' := 1) rfl rfl rfl rfl ?_
  refine zq_ipush (pc' := 2) rfl rfl rfl ?_
  refine zq_put (pc' := 5) rfl rfl rfl trivial (hp_sI rfl) ?_
  refine zq_ipush (pc' := 6) rfl rfl rfl ?_
  refine zq_istore_c (pc' := 7) rfl rfl ?_
  exact H
theorem zh_X8_tellFits_7 {d : Nat} {k : hG → hE → Prop} {X : Nat → hG → hE → Prop} {l1 : Int32} {g : hG} {e : hE} (H :
    zbr ((g.1 1050 1) ≤ l1)
    (k g e)
    (hin l1 16 ∧
      hwv d zm_X8_tellFits k X 26 [(0, .ref 1046), (1, .int l1), (2, .int (g.1 1055 l1.toNatClampNeg)), (3, .int 0)] g e)) : hwv d zm_X8_tellFits k X 7 [(0, .ref 1046), (1, .int l1)] g e := by
  refine zq_iload (pc' := 8) rfl rfl rfl rfl ?_
  refine zq_aload (pc' := 9) rfl rfl rfl rfl ?_
  refine zq_getR (pc' := 12) rfl rfl rfl (hp_gC rfl) ?_
  refine zq_ipush (pc' := 13) rfl rfl rfl ?_
  refine zq_iald (pc' := 14) rfl rfl rfl (hp_ia rfl (by unfold hin; decide)) ?_
  refine zq_icge (pc' := 17) rfl rfl rfl rfl (And.intro (fun c => ?_) (fun c => ?_))
  · have H := H.1 c
    exact zq_vret rfl (Exists.intro _ (Exists.intro _ (And.intro rfl H)))
  · have H := H.2 c
    refine zq_aload (pc' := 18) rfl rfl rfl rfl ?_
    refine zq_getR (pc' := 21) rfl rfl rfl (hp_gC rfl) ?_
    refine zq_iload (pc' := 22) rfl rfl rfl rfl ?_
    obtain ⟨hi2, H⟩ := H
    refine zq_iald (pc' := 23) rfl rfl rfl (hp_ia rfl hi2) ?_
    refine zq_istore (pc' := 24) rfl rfl rfl ?_
    refine zq_ipush (pc' := 25) rfl rfl rfl ?_
    refine zq_istore_c (pc' := 26) rfl rfl ?_
    exact H
theorem zh_X8_tellFits_26 {d : Nat} {k : hG → hE → Prop} {X : Nat → hG → hE → Prop} {l1 : Int32} {l2 : Int32} {l3 : Int32} {g : hG} {e : hE} (H :
    zbr (9 < l3)
    (hin l1 16 ∧
      hwv d zm_X8_tellFits k X 7 [(0, .ref 1046), (1, .int (l1 + 1))] (sI g 1055 l1.toNatClampNeg l2) e)
    (hin l1 16 ∧
      zbr (l3 = l2)
      (hwv d zm_X8_tellFits k X 26 [(0, .ref 1046), (1, .int l1), (2, .int l2), (3, .int (l3 + 1))] (sI g 1055 l1.toNatClampNeg l3) e)
      (hci d 318 [.ref 1046] (sI g 1055 l1.toNatClampNeg l3) e (fun x5 g3 e4 =>
          zbr (x5 = 0)
          (hwv d zm_X8_tellFits k X 26 [(0, .ref 1046), (1, .int l1), (2, .int l2), (3, .int (l3 + 1))] g3 e4)
          (hin (g3.1 1046 49) 80 ∧
            ∀ g7, g7 = sI (sI g3 1078 (g3.1 1046 49).toNatClampNeg ((10 * l1) + l3)) 1046 49 (((sI g3 1078 (g3.1 1046 49).toNatClampNeg ((10 * l1) + l3)).1 1046 49) + 1) →
            hwv d zm_X8_tellFits k X 26 [(0, .ref 1046), (1, .int l1), (2, .int l2), (3, .int (l3 + 1))] g7 e4)) X))) : hwv d zm_X8_tellFits k X 26 [(0, .ref 1046), (1, .int l1), (2, .int l2), (3, .int l3)] g e := by
  refine zq_iload (pc' := 27) rfl rfl rfl rfl ?_
  refine zq_ipush (pc' := 29) rfl rfl rfl ?_
  refine zq_icgt (pc' := 32) rfl rfl rfl rfl (And.intro (fun c => ?_) (fun c => ?_))
  · have H := H.1 c
    refine zq_aload (pc' := 86) rfl rfl rfl rfl ?_
    refine zq_getR (pc' := 89) rfl rfl rfl (hp_gC rfl) ?_
    refine zq_iload (pc' := 90) rfl rfl rfl rfl ?_
    refine zq_iload (pc' := 91) rfl rfl rfl rfl ?_
    obtain ⟨hi1, H⟩ := H
    refine zq_iast (pc' := 92) rfl rfl rfl (hp_is rfl hi1) ?_
    refine zq_iinc (pc' := 95) rfl rfl rfl rfl ?_
    refine zq_goto_c (pc' := 7) rfl rfl ?_
    exact H
  · have H := H.2 c
    refine zq_aload (pc' := 33) rfl rfl rfl rfl ?_
    refine zq_getR (pc' := 36) rfl rfl rfl (hp_gC rfl) ?_
    refine zq_iload (pc' := 37) rfl rfl rfl rfl ?_
    refine zq_iload (pc' := 38) rfl rfl rfl rfl ?_
    obtain ⟨hi2, H⟩ := H
    refine zq_iast (pc' := 39) rfl rfl rfl (hp_is rfl hi2) ?_
    refine zq_iload (pc' := 40) rfl rfl rfl rfl ?_
    refine zq_iload (pc' := 41) rfl rfl rfl rfl ?_
    refine zq_iceq (pc' := 44) rfl rfl rfl rfl (And.intro (fun c => ?_) (fun c => ?_))
    · have H := H.1 c
      refine zq_iinc (pc' := 82) rfl rfl rfl rfl ?_
      refine zq_goto_c (pc' := 26) rfl rfl ?_
      exact H
    · have H := H.2 c
      refine zq_aload (pc' := 45) rfl rfl rfl rfl ?_
      refine hq_calli (pc' := 48) rfl rfl rfl rfl rfl rfl h_Xv ?_
      refine hmonoi H ?_
      intro x5 g3 e4 H
      refine zq_ifne (pc' := 51) rfl rfl rfl rfl (And.intro (fun c => ?_) (fun c => ?_))
      · have H := H.1 c
        refine zq_goto (pc' := 79) rfl rfl rfl ?_
        refine zq_iinc (pc' := 82) rfl rfl rfl rfl ?_
        refine zq_goto_c (pc' := 26) rfl rfl ?_
        exact H
      · have H := H.2 c
        refine zq_aload (pc' := 55) rfl rfl rfl rfl ?_
        refine zq_getR (pc' := 58) rfl rfl rfl (hp_gC rfl) ?_
        refine zq_aload (pc' := 59) rfl rfl rfl rfl ?_
        refine zq_getI (pc' := 62) rfl rfl rfl (hp_gI rfl) ?_
        refine zq_ipush (pc' := 64) rfl rfl rfl ?_
        refine zq_iload (pc' := 65) rfl rfl rfl rfl ?_
        refine zq_imul (pc' := 66) rfl rfl rfl ?_
        refine zq_iload (pc' := 67) rfl rfl rfl rfl ?_
        refine zq_iadd (pc' := 68) rfl rfl rfl ?_
        obtain ⟨hi6, H⟩ := H
        refine zq_iast (pc' := 69) rfl rfl rfl (hp_is rfl hi6) ?_
        refine zq_aload (pc' := 70) rfl rfl rfl rfl ?_
        refine zq_dup (pc' := 71) rfl rfl rfl rfl ?_
        refine zq_getI (pc' := 74) rfl rfl rfl (hp_gI rfl) ?_
        refine zq_ipush (pc' := 75) rfl rfl rfl ?_
        refine zq_iadd (pc' := 76) rfl rfl rfl ?_
        refine zq_put (pc' := 79) rfl rfl rfl trivial (hp_sI rfl) ?_
        have H := H _ rfl
        refine zq_iinc (pc' := 82) rfl rfl rfl rfl ?_
        refine zq_goto_c (pc' := 26) rfl rfl ?_
        exact H
theorem zh_X8_forced {d : Nat} {k : Int32 → hG → hE → Prop} {X : Nat → hG → hE → Prop} {p1 : Int32} {g : hG} {e : hE} (H :
    hci d 217 [.long ((p1 : Int32).toInt64), .long 0, .long 2] (sI g 1046 4 0) e (fun x3 g1 e2 =>
      zbr (x3 = 0)
      (hci d 215 [.ref 1046, .int 1] g1 e2 (fun x6 g4 e5 =>
          k x6 g4 e5) X)
      (zbr (p1 = 2)
        (hci d 318 [.ref 1046] g1 e2 (fun x9 g7 e8 =>
            zbr (x9 = 0)
            (k 0 g7 e8)
            (k 1 g7 e8)) X)
        (hcv d 319 [.ref 1046] g1 e2 (fun g10 e11 =>
            zbr (p1 = 0)
            (k (g10.1 1046 49) g10 e11)
            (zbr ((g10.1 1046 49) = 0)
              (k (-1) g10 e11)
              (k (g10.1 1078 0) g10 e11))) X))) X) : hci (d + 1) 320 [.ref 1046, .int p1] g e k X := by
  refine hent (M := zm_X8_forced) (show hT 1046 = some (.inr _) from rfl) rfl rfl rfl rfl rfl ?_
  refine zq_aload (pc' := 1) rfl rfl rfl rfl ?_
  refine zq_ipush (pc' := 2) rfl rfl rfl ?_
  refine zq_put (pc' := 5) rfl rfl rfl trivial (hp_sI rfl) ?_
  refine zq_iload (pc' := 6) rfl rfl rfl rfl ?_
  refine zq_i2l (pc' := 7) rfl rfl rfl ?_
  refine zq_lpush (pc' := 8) rfl rfl rfl ?_
  refine zq_lpush (pc' := 11) rfl rfl rfl ?_
  refine hq_calli (pc' := 14) rfl rfl rfl rfl rfl rfl h_Xi ?_
  refine hmonoi H ?_
  intro x3 g1 e2 H
  refine zq_ifne (pc' := 17) rfl rfl rfl rfl (And.intro (fun c => ?_) (fun c => ?_))
  · have H := H.1 c
    refine zq_aload (pc' := 18) rfl rfl rfl rfl ?_
    refine zq_ipush (pc' := 19) rfl rfl rfl ?_
    refine hq_calli (pc' := 22) rfl rfl rfl rfl rfl rfl h_Xi ?_
    refine hmonoi H ?_
    intro x6 g4 e5 H
    exact zq_iret rfl trivial (Exists.intro _ (Exists.intro _ (And.intro rfl H)))
  · have H := H.2 c
    refine zq_iload (pc' := 24) rfl rfl rfl rfl ?_
    refine zq_ipush (pc' := 25) rfl rfl rfl ?_
    refine zq_icne (pc' := 28) rfl rfl rfl rfl (And.intro (fun c => ?_) (fun c => ?_))
    · have H := H.1 c
      refine zq_aload (pc' := 29) rfl rfl rfl rfl ?_
      refine hq_calli (pc' := 32) rfl rfl rfl rfl rfl rfl h_Xi ?_
      refine hmonoi H ?_
      intro x9 g7 e8 H
      refine zq_ifeq (pc' := 35) rfl rfl rfl rfl (And.intro (fun c => ?_) (fun c => ?_))
      · have H := H.1 c
        refine zq_ipush (pc' := 40) rfl rfl rfl ?_
        exact zq_iret rfl trivial (Exists.intro _ (Exists.intro _ (And.intro rfl H)))
      · have H := H.2 c
        refine zq_ipush (pc' := 36) rfl rfl rfl ?_
        refine zq_goto (pc' := 40) rfl rfl rfl ?_
        exact zq_iret rfl trivial (Exists.intro _ (Exists.intro _ (And.intro rfl H)))
    · have H := H.2 c
      refine zq_aload (pc' := 42) rfl rfl rfl rfl ?_
      refine hq_callv (pc' := 45) rfl rfl rfl rfl rfl rfl h_Xi ?_
      refine hmonov H ?_
      intro g10 e11 H
      refine zq_iload (pc' := 46) rfl rfl rfl rfl ?_
      refine zq_ifne (pc' := 49) rfl rfl rfl rfl (And.intro (fun c => ?_) (fun c => ?_))
      · have H := H.1 c
        refine zq_aload (pc' := 50) rfl rfl rfl rfl ?_
        refine zq_getI (pc' := 53) rfl rfl rfl (hp_gI rfl) ?_
        refine zq_goto (pc' := 73) rfl rfl rfl ?_
        exact zq_iret rfl trivial (Exists.intro _ (Exists.intro _ (And.intro rfl H)))
      · have H := H.2 c
        refine zq_aload (pc' := 57) rfl rfl rfl rfl ?_
        refine zq_getI (pc' := 60) rfl rfl rfl (hp_gI rfl) ?_
        refine zq_ifne (pc' := 63) rfl rfl rfl rfl (And.intro (fun c => ?_) (fun c => ?_))
        · have H := H.1 c
          refine zq_ipushn (pc' := 64) rfl rfl rfl ?_
          refine zq_goto (pc' := 73) rfl rfl rfl ?_
          exact zq_iret rfl trivial (Exists.intro _ (Exists.intro _ (And.intro rfl H)))
        · have H := H.2 c
          refine zq_aload (pc' := 68) rfl rfl rfl rfl ?_
          refine zq_getR (pc' := 71) rfl rfl rfl (hp_gC rfl) ?_
          refine zq_ipush (pc' := 72) rfl rfl rfl ?_
          refine zq_iald (pc' := 73) rfl rfl rfl (hp_ia rfl (by unfold hin; decide)) ?_
          exact zq_iret rfl trivial (Exists.intro _ (Exists.intro _ (And.intro rfl H)))
theorem zh_X8_look {d : Nat} {k : Int32 → hG → hE → Prop} {X : Nat → hG → hE → Prop} {p1 : Int32} {g : hG} {e : hE} (H :
    hci d 217 [.long ((p1 : Int32).toInt64), .long 0, .long 1] (sI g 1046 4 0) e (fun x3 g1 e2 =>
      zbr (x3 = 0)
      (hci d 215 [.ref 1046, .int 1] g1 e2 (fun x6 g4 e5 =>
          k x6 g4 e5) X)
      (hcv d 319 [.ref 1046] g1 e2 (fun g7 e8 =>
          hcv d 249 [.ref 1046, .ref 1070, .int 0] g7 e8 (fun g9 e10 =>
            hwi d zm_X8_look k X 36 [(0, .ref 1046), (1, .int p1), (2, .int 0)] g9 e10) X) X)) X) : hci (d + 1) 321 [.ref 1046, .int p1] g e k X := by
  refine hent (M := zm_X8_look) (show hT 1046 = some (.inr _) from rfl) rfl rfl rfl rfl rfl ?_
  refine zq_aload (pc' := 1) rfl rfl rfl rfl ?_
  refine zq_ipush (pc' := 2) rfl rfl rfl ?_
  refine zq_put (pc' := 5) rfl rfl rfl trivial (hp_sI rfl) ?_
  refine zq_iload (pc' := 6) rfl rfl rfl rfl ?_
  refine zq_i2l (pc' := 7) rfl rfl rfl ?_
  refine zq_lpush (pc' := 8) rfl rfl rfl ?_
  refine zq_lpush (pc' := 9) rfl rfl rfl ?_
  refine hq_calli (pc' := 12) rfl rfl rfl rfl rfl rfl h_Xi ?_
  refine hmonoi H ?_
  intro x3 g1 e2 H
  refine zq_ifne (pc' := 15) rfl rfl rfl rfl (And.intro (fun c => ?_) (fun c => ?_))
  · have H := H.1 c
    refine zq_aload (pc' := 16) rfl rfl rfl rfl ?_
    refine zq_ipush (pc' := 17) rfl rfl rfl ?_
    refine hq_calli (pc' := 20) rfl rfl rfl rfl rfl rfl h_Xi ?_
    refine hmonoi H ?_
    intro x6 g4 e5 H
    exact zq_iret rfl trivial (Exists.intro _ (Exists.intro _ (And.intro rfl H)))
  · have H := H.2 c
    refine zq_aload (pc' := 22) rfl rfl rfl rfl ?_
    refine hq_callv (pc' := 25) rfl rfl rfl rfl rfl rfl h_Xi ?_
    refine hmonov H ?_
    intro g7 e8 H
    refine zq_aload (pc' := 26) rfl rfl rfl rfl ?_
    refine zq_aload (pc' := 27) rfl rfl rfl rfl ?_
    refine zq_getR (pc' := 30) rfl rfl rfl (hp_gC rfl) ?_
    refine zq_ipush (pc' := 31) rfl rfl rfl ?_
    refine hq_callv (pc' := 34) rfl rfl rfl rfl rfl rfl h_Xi ?_
    refine hmonov H ?_
    intro g9 e10 H
    refine zq_ipush (pc' := 35) rfl rfl rfl ?_
    refine zq_istore_c (pc' := 36) rfl rfl ?_
    exact H
theorem zh_X8_look_36 {d : Nat} {k : Int32 → hG → hE → Prop} {X : Nat → hG → hE → Prop} {l1 : Int32} {l2 : Int32} {g : hG} {e : hE} (H :
    zbr (4 ≤ l2)
    (hwi d zm_X8_look k X 56 [(0, .ref 1046), (1, .int l1), (2, .int 0)] g e)
    (hin l2 4 ∧
      hwi d zm_X8_look k X 36 [(0, .ref 1046), (1, .int l1), (2, .int (l2 + 1))] (sI g 1079 l2.toNatClampNeg 0) e)) : hwi d zm_X8_look k X 36 [(0, .ref 1046), (1, .int l1), (2, .int l2)] g e := by
  refine zq_iload (pc' := 37) rfl rfl rfl rfl ?_
  refine zq_ipush (pc' := 38) rfl rfl rfl ?_
  refine zq_icge (pc' := 41) rfl rfl rfl rfl (And.intro (fun c => ?_) (fun c => ?_))
  · have H := H.1 c
    refine zq_ipush (pc' := 55) rfl rfl rfl ?_
    refine zq_istore_c (pc' := 56) rfl rfl ?_
    exact H
  · have H := H.2 c
    refine zq_aload (pc' := 42) rfl rfl rfl rfl ?_
    refine zq_getR (pc' := 45) rfl rfl rfl (hp_gC rfl) ?_
    refine zq_iload (pc' := 46) rfl rfl rfl rfl ?_
    refine zq_ipush (pc' := 47) rfl rfl rfl ?_
    obtain ⟨hi1, H⟩ := H
    refine zq_iast (pc' := 48) rfl rfl rfl (hp_is rfl hi1) ?_
    refine zq_iinc (pc' := 51) rfl rfl rfl rfl ?_
    refine zq_goto_c (pc' := 36) rfl rfl ?_
    exact H
theorem zh_X8_look_56 {d : Nat} {k : Int32 → hG → hE → Prop} {X : Nat → hG → hE → Prop} {l1 : Int32} {l2 : Int32} {g : hG} {e : hE} (H :
    zbr ((g.1 1046 49) ≤ l2)
    (hwi d zm_X8_look k X 175 [(0, .ref 1046), (1, .int l1), (2, .int (-1)), (3, .int 0), (4, .int 0)] g e)
    (hin l2 80 ∧
      hin ((g.1 1078 l2.toNatClampNeg) / 10) 16 ∧
      hin l2 80 ∧
      hin ((g.1 1078 l2.toNatClampNeg) / 10) 16 ∧
      ∀ g5, g5 = sI g 1055 ((g.1 1078 l2.toNatClampNeg) / 10).toNatClampNeg ((g.1 1078 l2.toNatClampNeg) - (g.1 1078 l2.toNatClampNeg) / 10 * 10) →
      hcv d 265 [.ref 1046, .int 6] g5 e (fun g6 e7 =>
        hwi d zm_X8_look k X 106 [(0, .ref 1046), (1, .int l1), (2, .int l2), (3, .int ((g.1 1078 l2.toNatClampNeg) / 10)), (4, .int (g.1 1055 ((g.1 1078 l2.toNatClampNeg) / 10).toNatClampNeg)), (5, .int 0)] g6 e7) X)) : hwi d zm_X8_look k X 56 [(0, .ref 1046), (1, .int l1), (2, .int l2)] g e := by
  refine zq_iload (pc' := 57) rfl rfl rfl rfl ?_
  refine zq_aload (pc' := 58) rfl rfl rfl rfl ?_
  refine zq_getI (pc' := 61) rfl rfl rfl (hp_gI rfl) ?_
  refine zq_icge (pc' := 64) rfl rfl rfl rfl (And.intro (fun c => ?_) (fun c => ?_))
  · have H := H.1 c
    refine zq_ipushn (pc' := 169) rfl rfl rfl ?_
    refine zq_istore (pc' := 170) rfl rfl rfl ?_
    refine zq_ipush (pc' := 171) rfl rfl rfl ?_
    refine zq_istore (pc' := 172) rfl rfl rfl ?_
    refine zq_ipush (pc' := 173) rfl rfl rfl ?_
    refine zq_istore_c (pc' := 175) rfl rfl ?_
    exact H
  · have H := H.2 c
    refine zq_aload (pc' := 65) rfl rfl rfl rfl ?_
    refine zq_getR (pc' := 68) rfl rfl rfl (hp_gC rfl) ?_
    refine zq_iload (pc' := 69) rfl rfl rfl rfl ?_
    obtain ⟨hi1, H⟩ := H
    refine zq_iald (pc' := 70) rfl rfl rfl (hp_ia rfl hi1) ?_
    refine zq_ipush (pc' := 72) rfl rfl rfl ?_
    refine zq_idiv (pc' := 73) rfl rfl rfl (by decide) ?_
    refine zq_istore (pc' := 74) rfl rfl rfl ?_
    refine zq_aload (pc' := 75) rfl rfl rfl rfl ?_
    refine zq_getR (pc' := 78) rfl rfl rfl (hp_gC rfl) ?_
    refine zq_iload (pc' := 79) rfl rfl rfl rfl ?_
    obtain ⟨hi2, H⟩ := H
    refine zq_iald (pc' := 80) rfl rfl rfl (hp_ia rfl hi2) ?_
    refine zq_istore (pc' := 82) rfl rfl rfl ?_
    refine zq_aload (pc' := 83) rfl rfl rfl rfl ?_
    refine zq_getR (pc' := 86) rfl rfl rfl (hp_gC rfl) ?_
    refine zq_iload (pc' := 87) rfl rfl rfl rfl ?_
    refine zq_aload (pc' := 88) rfl rfl rfl rfl ?_
    refine zq_getR (pc' := 91) rfl rfl rfl (hp_gC rfl) ?_
    refine zq_iload (pc' := 92) rfl rfl rfl rfl ?_
    obtain ⟨hi3, H⟩ := H
    refine zq_iald (pc' := 93) rfl rfl rfl (hp_ia rfl hi3) ?_
    refine zq_ipush (pc' := 95) rfl rfl rfl ?_
    refine zq_irem (pc' := 96) rfl rfl rfl (by decide) ?_
    obtain ⟨hi4, H⟩ := H
    refine zq_iast (pc' := 97) rfl rfl rfl (hp_is rfl hi4) ?_
    have H := H _ rfl
    refine zq_aload (pc' := 98) rfl rfl rfl rfl ?_
    refine zq_ipush (pc' := 100) rfl rfl rfl ?_
    refine hq_callv (pc' := 103) rfl rfl rfl rfl rfl rfl h_Xi ?_
    refine hmonov H ?_
    intro g6 e7 H
    refine zq_ipush (pc' := 104) rfl rfl rfl ?_
    refine zq_istore_c (pc' := 106) rfl rfl ?_
    exact H
theorem zh_X8_look_106 {d : Nat} {k : Int32 → hG → hE → Prop} {X : Nat → hG → hE → Prop} {l1 : Int32} {l2 : Int32} {l3 : Int32} {l4 : Int32} {l5 : Int32} {g : hG} {e : hE} (H :
    zbr ((g.1 1050 0) ≤ l5)
    (hin l3 16 ∧
      hcv d 250 [.ref 1046, .ref 1070, .int 0] (sI g 1055 l3.toNatClampNeg l4) e (fun g3 e4 =>
        hwi d zm_X8_look k X 56 [(0, .ref 1046), (1, .int l1), (2, .int (l2 + 1))] g3 e4) X)
    (hin l5 4 ∧
      hin l5 4 ∧
      hci d 219 [.int (g.1 1063 l5.toNatClampNeg)] g e (fun x9 g7 e8 =>
        hin l5 4 ∧
        hwi d zm_X8_look k X 106 [(0, .ref 1046), (1, .int l1), (2, .int l2), (3, .int l3), (4, .int l4), (5, .int (l5 + 1))] (sI g7 1079 l5.toNatClampNeg ((g.1 1079 l5.toNatClampNeg) ||| (1 <<< (x9 &&& 31)))) e8) X)) : hwi d zm_X8_look k X 106 [(0, .ref 1046), (1, .int l1), (2, .int l2), (3, .int l3), (4, .int l4), (5, .int l5)] g e := by
  refine zq_iload (pc' := 108) rfl rfl rfl rfl ?_
  refine zq_aload (pc' := 109) rfl rfl rfl rfl ?_
  refine zq_getR (pc' := 112) rfl rfl rfl (hp_gC rfl) ?_
  refine zq_ipush (pc' := 113) rfl rfl rfl ?_
  refine zq_iald (pc' := 114) rfl rfl rfl (hp_ia rfl (by unfold hin; decide)) ?_
  refine zq_icge (pc' := 117) rfl rfl rfl rfl (And.intro (fun c => ?_) (fun c => ?_))
  · have H := H.1 c
    refine zq_aload (pc' := 146) rfl rfl rfl rfl ?_
    refine zq_getR (pc' := 149) rfl rfl rfl (hp_gC rfl) ?_
    refine zq_iload (pc' := 150) rfl rfl rfl rfl ?_
    refine zq_iload (pc' := 152) rfl rfl rfl rfl ?_
    obtain ⟨hi2, H⟩ := H
    refine zq_iast (pc' := 153) rfl rfl rfl (hp_is rfl hi2) ?_
    refine zq_aload (pc' := 154) rfl rfl rfl rfl ?_
    refine zq_aload (pc' := 155) rfl rfl rfl rfl ?_
    refine zq_getR (pc' := 158) rfl rfl rfl (hp_gC rfl) ?_
    refine zq_ipush (pc' := 159) rfl rfl rfl ?_
    refine hq_callv (pc' := 162) rfl rfl rfl rfl rfl rfl h_Xi ?_
    refine hmonov H ?_
    intro g3 e4 H
    refine zq_iinc (pc' := 165) rfl rfl rfl rfl ?_
    refine zq_goto_c (pc' := 56) rfl rfl ?_
    exact H
  · have H := H.2 c
    refine zq_aload (pc' := 118) rfl rfl rfl rfl ?_
    refine zq_getR (pc' := 121) rfl rfl rfl (hp_gC rfl) ?_
    refine zq_iload (pc' := 123) rfl rfl rfl rfl ?_
    refine zq_dup2 (pc' := 124) rfl rfl rfl rfl rfl ?_
    obtain ⟨hi5, H⟩ := H
    refine zq_iald (pc' := 125) rfl rfl rfl (hp_ia rfl hi5) ?_
    refine zq_ipush (pc' := 126) rfl rfl rfl ?_
    refine zq_aload (pc' := 127) rfl rfl rfl rfl ?_
    refine zq_getR (pc' := 130) rfl rfl rfl (hp_gC rfl) ?_
    refine zq_iload (pc' := 132) rfl rfl rfl rfl ?_
    obtain ⟨hi6, H⟩ := H
    refine zq_iald (pc' := 133) rfl rfl rfl (hp_ia rfl hi6) ?_
    refine hq_calli (pc' := 136) rfl rfl rfl rfl rfl rfl h_Xi ?_
    refine hmonoi H ?_
    intro x9 g7 e8 H
    refine zq_ishl (pc' := 137) rfl rfl rfl ?_
    refine zq_ior (pc' := 138) rfl rfl rfl ?_
    obtain ⟨hi10, H⟩ := H
    refine zq_iast (pc' := 139) rfl rfl rfl (hp_is rfl hi10) ?_
    refine zq_iinc (pc' := 142) rfl rfl rfl rfl ?_
    refine zq_goto_c (pc' := 106) rfl rfl ?_
    exact H
theorem zh_X8_look_175 {d : Nat} {k : Int32 → hG → hE → Prop} {X : Nat → hG → hE → Prop} {l1 : Int32} {l2 : Int32} {l3 : Int32} {l4 : Int32} {g : hG} {e : hE} (H :
    zbr ((g.1 1050 0) ≤ l4)
    (zbr (l1 = 0)
      (k l2 g e)
      (k l3 g e))
    (hin l4 4 ∧
      hci d 219 [.int (g.1 1079 l4.toNatClampNeg)] g e (fun x5 g3 e4 =>
        zbr (l3 < x5)
        (hin l4 4 ∧
          hci d 219 [.int (g3.1 1079 l4.toNatClampNeg)] g3 e4 (fun x9 g7 e8 =>
            hwi d zm_X8_look k X 175 [(0, .ref 1046), (1, .int l1), (2, .int l4), (3, .int x9), (4, .int (l4 + 1))] g7 e8) X)
        (hwi d zm_X8_look k X 175 [(0, .ref 1046), (1, .int l1), (2, .int l2), (3, .int l3), (4, .int (l4 + 1))] g3 e4)) X)) : hwi d zm_X8_look k X 175 [(0, .ref 1046), (1, .int l1), (2, .int l2), (3, .int l3), (4, .int l4)] g e := by
  refine zq_iload (pc' := 177) rfl rfl rfl rfl ?_
  refine zq_aload (pc' := 178) rfl rfl rfl rfl ?_
  refine zq_getR (pc' := 181) rfl rfl rfl (hp_gC rfl) ?_
  refine zq_ipush (pc' := 182) rfl rfl rfl ?_
  refine zq_iald (pc' := 183) rfl rfl rfl (hp_ia rfl (by unfold hin; decide)) ?_
  refine zq_icge (pc' := 186) rfl rfl rfl rfl (And.intro (fun c => ?_) (fun c => ?_))
  · have H := H.1 c
    refine zq_iload (pc' := 224) rfl rfl rfl rfl ?_
    refine zq_ifne (pc' := 227) rfl rfl rfl rfl (And.intro (fun c => ?_) (fun c => ?_))
    · have H := H.1 c
      refine zq_iload (pc' := 228) rfl rfl rfl rfl ?_
      refine zq_goto (pc' := 232) rfl rfl rfl ?_
      exact zq_iret rfl trivial (Exists.intro _ (Exists.intro _ (And.intro rfl H)))
    · have H := H.2 c
      refine zq_iload (pc' := 232) rfl rfl rfl rfl ?_
      exact zq_iret rfl trivial (Exists.intro _ (Exists.intro _ (And.intro rfl H)))
  · have H := H.2 c
    refine zq_aload (pc' := 187) rfl rfl rfl rfl ?_
    refine zq_getR (pc' := 190) rfl rfl rfl (hp_gC rfl) ?_
    refine zq_iload (pc' := 192) rfl rfl rfl rfl ?_
    obtain ⟨hi2, H⟩ := H
    refine zq_iald (pc' := 193) rfl rfl rfl (hp_ia rfl hi2) ?_
    refine hq_calli (pc' := 196) rfl rfl rfl rfl rfl rfl h_Xi ?_
    refine hmonoi H ?_
    intro x5 g3 e4 H
    refine zq_iload (pc' := 197) rfl rfl rfl rfl ?_
    refine zq_icgt (pc' := 200) rfl rfl rfl rfl (And.intro (fun c => ?_) (fun c => ?_))
    · have H := H.1 c
      refine zq_iload (pc' := 205) rfl rfl rfl rfl ?_
      refine zq_istore (pc' := 206) rfl rfl rfl ?_
      refine zq_aload (pc' := 207) rfl rfl rfl rfl ?_
      refine zq_getR (pc' := 210) rfl rfl rfl (hp_gC rfl) ?_
      refine zq_iload (pc' := 212) rfl rfl rfl rfl ?_
      obtain ⟨hi6, H⟩ := H
      refine zq_iald (pc' := 213) rfl rfl rfl (hp_ia rfl hi6) ?_
      refine hq_calli (pc' := 216) rfl rfl rfl rfl rfl rfl h_Xi ?_
      refine hmonoi H ?_
      intro x9 g7 e8 H
      refine zq_istore (pc' := 217) rfl rfl rfl ?_
      refine zq_iinc (pc' := 220) rfl rfl rfl rfl ?_
      refine zq_goto_c (pc' := 175) rfl rfl ?_
      exact H
    · have H := H.2 c
      refine zq_goto (pc' := 217) rfl rfl rfl ?_
      refine zq_iinc (pc' := 220) rfl rfl rfl rfl ?_
      refine zq_goto_c (pc' := 175) rfl rfl ?_
      exact H
theorem zh_X8_forget {d : Nat} {k : hG → hE → Prop} {X : Nat → hG → hE → Prop}  {g : hG} {e : hE} (H :
    k (sI (sI g 1046 4 0) 1046 33 0) e) : hcv (d + 1) 322 [.ref 1046] g e k X := by
  refine hent (M := zm_X8_forget) (show hT 1046 = some (.inr _) from rfl) rfl rfl rfl rfl rfl ?_
  refine zq_aload (pc' := 1) rfl rfl rfl rfl ?_
  refine zq_ipush (pc' := 2) rfl rfl rfl ?_
  refine zq_put (pc' := 5) rfl rfl rfl trivial (hp_sI rfl) ?_
  refine zq_aload (pc' := 6) rfl rfl rfl rfl ?_
  refine zq_ipush (pc' := 7) rfl rfl rfl ?_
  refine zq_put (pc' := 10) rfl rfl rfl trivial (hp_sI rfl) ?_
  exact zq_vret rfl (Exists.intro _ (Exists.intro _ (And.intro rfl H)))
theorem zh_X8_wind {d : Nat} {k : Int32 → hG → hE → Prop} {X : Nat → hG → hE → Prop} {p1 : Int32} {p2 : Int32} {p3 : Int32} {p4 : Int32} {g : hG} {e : hE} (H :
    hci d 221 [.ref 1046, .int p1, .int p2] (sI g 1046 4 0) e (fun x3 g1 e2 =>
      zbr (x3 = 0)
      (hci d 215 [.ref 1046, .int 1] g1 e2 (fun x6 g4 e5 =>
          k x6 g4 e5) X)
      (hci d 217 [.long ((p3 : Int32).toInt64), .long 1, .long 5] g1 e2 (fun x9 g7 e8 =>
          zbr (x9 = 0)
          (hci d 215 [.ref 1046, .int 2] g7 e8 (fun x12 g10 e11 =>
              k x12 g10 e11) X)
          (hci d 217 [.long ((p4 : Int32).toInt64), .long 0, .long 10] g7 e8 (fun x15 g13 e14 =>
              zbr (x15 = 0)
              (hci d 215 [.ref 1046, .int 2] g13 e14 (fun x18 g16 e17 =>
                  k x18 g16 e17) X)
              (hcv d 249 [.ref 1046, .ref 1070, .int 0] g13 e14 (fun g19 e20 =>
                  hwi d zm_X8_wind k X 66 [(0, .ref 1046), (1, .int p1), (2, .int p2), (3, .int p3), (4, .int p4), (5, .int 0), (6, .int 0)] g19 e20) X)) X)) X)) X) : hci (d + 1) 323 [.ref 1046, .int p1, .int p2, .int p3, .int p4] g e k X := by
  refine hent (M := zm_X8_wind) (show hT 1046 = some (.inr _) from rfl) rfl rfl rfl rfl rfl ?_
  refine zq_aload (pc' := 1) rfl rfl rfl rfl ?_
  refine zq_ipush (pc' := 2) rfl rfl rfl ?_
  refine zq_put (pc' := 5) rfl rfl rfl trivial (hp_sI rfl) ?_
  refine zq_aload (pc' := 6) rfl rfl rfl rfl ?_
  refine zq_iload (pc' := 7) rfl rfl rfl rfl ?_
  refine zq_iload (pc' := 8) rfl rfl rfl rfl ?_
  refine hq_calli (pc' := 11) rfl rfl rfl rfl rfl rfl h_Xi ?_
  refine hmonoi H ?_
  intro x3 g1 e2 H
  refine zq_ifne (pc' := 14) rfl rfl rfl rfl (And.intro (fun c => ?_) (fun c => ?_))
  · have H := H.1 c
    refine zq_aload (pc' := 15) rfl rfl rfl rfl ?_
    refine zq_ipush (pc' := 16) rfl rfl rfl ?_
    refine hq_calli (pc' := 19) rfl rfl rfl rfl rfl rfl h_Xi ?_
    refine hmonoi H ?_
    intro x6 g4 e5 H
    exact zq_iret rfl trivial (Exists.intro _ (Exists.intro _ (And.intro rfl H)))
  · have H := H.2 c
    refine zq_iload (pc' := 21) rfl rfl rfl rfl ?_
    refine zq_i2l (pc' := 22) rfl rfl rfl ?_
    refine zq_lpush (pc' := 23) rfl rfl rfl ?_
    refine zq_lpush (pc' := 26) rfl rfl rfl ?_
    refine hq_calli (pc' := 29) rfl rfl rfl rfl rfl rfl h_Xi ?_
    refine hmonoi H ?_
    intro x9 g7 e8 H
    refine zq_ifeq (pc' := 32) rfl rfl rfl rfl (And.intro (fun c => ?_) (fun c => ?_))
    · have H := H.1 c
      refine zq_aload (pc' := 46) rfl rfl rfl rfl ?_
      refine zq_ipush (pc' := 47) rfl rfl rfl ?_
      refine hq_calli (pc' := 50) rfl rfl rfl rfl rfl rfl h_Xi ?_
      refine hmonoi H ?_
      intro x12 g10 e11 H
      exact zq_iret rfl trivial (Exists.intro _ (Exists.intro _ (And.intro rfl H)))
    · have H := H.2 c
      refine zq_iload (pc' := 34) rfl rfl rfl rfl ?_
      refine zq_i2l (pc' := 35) rfl rfl rfl ?_
      refine zq_lpush (pc' := 36) rfl rfl rfl ?_
      refine zq_lpush (pc' := 39) rfl rfl rfl ?_
      refine hq_calli (pc' := 42) rfl rfl rfl rfl rfl rfl h_Xi ?_
      refine hmonoi H ?_
      intro x15 g13 e14 H
      refine zq_ifne (pc' := 45) rfl rfl rfl rfl (And.intro (fun c => ?_) (fun c => ?_))
      · have H := H.1 c
        refine zq_aload (pc' := 46) rfl rfl rfl rfl ?_
        refine zq_ipush (pc' := 47) rfl rfl rfl ?_
        refine hq_calli (pc' := 50) rfl rfl rfl rfl rfl rfl h_Xi ?_
        refine hmonoi H ?_
        intro x18 g16 e17 H
        exact zq_iret rfl trivial (Exists.intro _ (Exists.intro _ (And.intro rfl H)))
      · have H := H.2 c
        refine zq_ipush (pc' := 52) rfl rfl rfl ?_
        refine zq_istore (pc' := 54) rfl rfl rfl ?_
        refine zq_aload (pc' := 55) rfl rfl rfl rfl ?_
        refine zq_aload (pc' := 56) rfl rfl rfl rfl ?_
        refine zq_getR (pc' := 59) rfl rfl rfl (hp_gC rfl) ?_
        refine zq_ipush (pc' := 60) rfl rfl rfl ?_
        refine hq_callv (pc' := 63) rfl rfl rfl rfl rfl rfl h_Xi ?_
        refine hmonov H ?_
        intro g19 e20 H
        refine zq_ipush (pc' := 64) rfl rfl rfl ?_
        refine zq_istore_c (pc' := 66) rfl rfl ?_
        exact H
theorem zh_X8_wind_66 {d : Nat} {k : Int32 → hG → hE → Prop} {X : Nat → hG → hE → Prop} {l1 : Int32} {l2 : Int32} {l3 : Int32} {l4 : Int32} {l5 : Int32} {l6 : Int32} {g : hG} {e : hE} (H :
    zbr ((1 <<< (l3 &&& 31)) ≤ l6)
    (k l5 g e)
    (hwi d zm_X8_wind k X 80 [(0, .ref 1046), (1, .int l1), (2, .int l2), (3, .int l3), (4, .int l4), (5, .int l5), (6, .int l6), (7, .int 1), (8, .int 0)] g e)) : hwi d zm_X8_wind k X 66 [(0, .ref 1046), (1, .int l1), (2, .int l2), (3, .int l3), (4, .int l4), (5, .int l5), (6, .int l6)] g e := by
  refine zq_iload (pc' := 68) rfl rfl rfl rfl ?_
  refine zq_ipush (pc' := 69) rfl rfl rfl ?_
  refine zq_iload (pc' := 70) rfl rfl rfl rfl ?_
  refine zq_ishl (pc' := 71) rfl rfl rfl ?_
  refine zq_icge (pc' := 74) rfl rfl rfl rfl (And.intro (fun c => ?_) (fun c => ?_))
  · have H := H.1 c
    refine zq_iload (pc' := 178) rfl rfl rfl rfl ?_
    exact zq_iret rfl trivial (Exists.intro _ (Exists.intro _ (And.intro rfl H)))
  · have H := H.2 c
    refine zq_ipush (pc' := 75) rfl rfl rfl ?_
    refine zq_istore (pc' := 77) rfl rfl rfl ?_
    refine zq_ipush (pc' := 78) rfl rfl rfl ?_
    refine zq_istore_c (pc' := 80) rfl rfl ?_
    exact H
theorem zh_X8_wind_80 {d : Nat} {k : Int32 → hG → hE → Prop} {X : Nat → hG → hE → Prop} {l1 : Int32} {l2 : Int32} {l3 : Int32} {l4 : Int32} {l5 : Int32} {l6 : Int32} {l7 : Int32} {l8 : Int32} {g : hG} {e : hE} (H :
    zbr (l3 ≤ l8)
    (hin l1 4 ∧
      hci d 218 [.int (g.1 1063 l1.toNatClampNeg), .int l2] g e (fun x4 g2 e3 =>
        zbr (x4 = 0)
        (hcv d 250 [.ref 1046, .ref 1070, .int 0] g2 e3 (fun g5 e6 =>
            hwi d zm_X8_wind k X 66 [(0, .ref 1046), (1, .int l1), (2, .int l2), (3, .int l3), (4, .int l4), (5, .int (l5 + 0)), (6, .int (l6 + 1))] g5 e6) X)
        (hcv d 250 [.ref 1046, .ref 1070, .int 0] g2 e3 (fun g7 e8 =>
            hwi d zm_X8_wind k X 66 [(0, .ref 1046), (1, .int l1), (2, .int l2), (3, .int l3), (4, .int l4), (5, .int (l5 + l7)), (6, .int (l6 + 1))] g7 e8) X)) X)
    (hci d 218 [.int l6, .int l8] g e (fun x11 g9 e10 =>
        zbr (x11 = 0)
        (hci d 218 [.int l6, .int l8] g9 e10 (fun x14 g12 e13 =>
            zbr (x14 = 0)
            (hcv d 264 [.ref 1046, .int 0] g12 e13 (fun g15 e16 =>
                hwi d zm_X8_wind k X 80 [(0, .ref 1046), (1, .int l1), (2, .int l2), (3, .int l3), (4, .int l4), (5, .int l5), (6, .int l6), (7, .int (l7 * (10 - l4))), (8, .int (l8 + 1))] g15 e16) X)
            (hcv d 264 [.ref 1046, .int 9] g12 e13 (fun g17 e18 =>
                hwi d zm_X8_wind k X 80 [(0, .ref 1046), (1, .int l1), (2, .int l2), (3, .int l3), (4, .int l4), (5, .int l5), (6, .int l6), (7, .int (l7 * (10 - l4))), (8, .int (l8 + 1))] g17 e18) X)) X)
        (hci d 218 [.int l6, .int l8] g9 e10 (fun x21 g19 e20 =>
            zbr (x21 = 0)
            (hcv d 264 [.ref 1046, .int 0] g19 e20 (fun g22 e23 =>
                hwi d zm_X8_wind k X 80 [(0, .ref 1046), (1, .int l1), (2, .int l2), (3, .int l3), (4, .int l4), (5, .int l5), (6, .int l6), (7, .int (l7 * l4)), (8, .int (l8 + 1))] g22 e23) X)
            (hcv d 264 [.ref 1046, .int 9] g19 e20 (fun g24 e25 =>
                hwi d zm_X8_wind k X 80 [(0, .ref 1046), (1, .int l1), (2, .int l2), (3, .int l3), (4, .int l4), (5, .int l5), (6, .int l6), (7, .int (l7 * l4)), (8, .int (l8 + 1))] g24 e25) X)) X)) X)) : hwi d zm_X8_wind k X 80 [(0, .ref 1046), (1, .int l1), (2, .int l2), (3, .int l3), (4, .int l4), (5, .int l5), (6, .int l6), (7, .int l7), (8, .int l8)] g e := by
  refine zq_iload (pc' := 82) rfl rfl rfl rfl ?_
  refine zq_iload (pc' := 83) rfl rfl rfl rfl ?_
  refine zq_icge (pc' := 86) rfl rfl rfl rfl (And.intro (fun c => ?_) (fun c => ?_))
  · have H := H.1 c
    refine zq_iload (pc' := 139) rfl rfl rfl rfl ?_
    refine zq_aload (pc' := 140) rfl rfl rfl rfl ?_
    refine zq_getR (pc' := 143) rfl rfl rfl (hp_gC rfl) ?_
    refine zq_iload (pc' := 144) rfl rfl rfl rfl ?_
    obtain ⟨hi1, H⟩ := H
    refine zq_iald (pc' := 145) rfl rfl rfl (hp_ia rfl hi1) ?_
    refine zq_iload (pc' := 146) rfl rfl rfl rfl ?_
    refine hq_calli (pc' := 149) rfl rfl rfl rfl rfl rfl h_Xi ?_
    refine hmonoi H ?_
    intro x4 g2 e3 H
    refine zq_ifeq (pc' := 152) rfl rfl rfl rfl (And.intro (fun c => ?_) (fun c => ?_))
    · have H := H.1 c
      refine zq_ipush (pc' := 158) rfl rfl rfl ?_
      refine zq_iadd (pc' := 159) rfl rfl rfl ?_
      refine zq_istore (pc' := 161) rfl rfl rfl ?_
      refine zq_aload (pc' := 162) rfl rfl rfl rfl ?_
      refine zq_aload (pc' := 163) rfl rfl rfl rfl ?_
      refine zq_getR (pc' := 166) rfl rfl rfl (hp_gC rfl) ?_
      refine zq_ipush (pc' := 167) rfl rfl rfl ?_
      refine hq_callv (pc' := 170) rfl rfl rfl rfl rfl rfl h_Xi ?_
      refine hmonov H ?_
      intro g5 e6 H
      refine zq_iinc (pc' := 173) rfl rfl rfl rfl ?_
      refine zq_goto_c (pc' := 66) rfl rfl ?_
      exact H
    · have H := H.2 c
      refine zq_iload (pc' := 154) rfl rfl rfl rfl ?_
      refine zq_goto (pc' := 158) rfl rfl rfl ?_
      refine zq_iadd (pc' := 159) rfl rfl rfl ?_
      refine zq_istore (pc' := 161) rfl rfl rfl ?_
      refine zq_aload (pc' := 162) rfl rfl rfl rfl ?_
      refine zq_aload (pc' := 163) rfl rfl rfl rfl ?_
      refine zq_getR (pc' := 166) rfl rfl rfl (hp_gC rfl) ?_
      refine zq_ipush (pc' := 167) rfl rfl rfl ?_
      refine hq_callv (pc' := 170) rfl rfl rfl rfl rfl rfl h_Xi ?_
      refine hmonov H ?_
      intro g7 e8 H
      refine zq_iinc (pc' := 173) rfl rfl rfl rfl ?_
      refine zq_goto_c (pc' := 66) rfl rfl ?_
      exact H
  · have H := H.2 c
    refine zq_iload (pc' := 88) rfl rfl rfl rfl ?_
    refine zq_iload (pc' := 90) rfl rfl rfl rfl ?_
    refine zq_iload (pc' := 92) rfl rfl rfl rfl ?_
    refine hq_calli (pc' := 95) rfl rfl rfl rfl rfl rfl h_Xi ?_
    refine hmonoi H ?_
    intro x11 g9 e10 H
    refine zq_ifeq (pc' := 98) rfl rfl rfl rfl (And.intro (fun c => ?_) (fun c => ?_))
    · have H := H.1 c
      refine zq_ipush (pc' := 105) rfl rfl rfl ?_
      refine zq_iload (pc' := 107) rfl rfl rfl rfl ?_
      refine zq_isub (pc' := 108) rfl rfl rfl ?_
      refine zq_imul (pc' := 109) rfl rfl rfl ?_
      refine zq_istore (pc' := 111) rfl rfl rfl ?_
      refine zq_aload (pc' := 112) rfl rfl rfl rfl ?_
      refine zq_iload (pc' := 114) rfl rfl rfl rfl ?_
      refine zq_iload (pc' := 116) rfl rfl rfl rfl ?_
      refine hq_calli (pc' := 119) rfl rfl rfl rfl rfl rfl h_Xi ?_
      refine hmonoi H ?_
      intro x14 g12 e13 H
      refine zq_ifeq (pc' := 122) rfl rfl rfl rfl (And.intro (fun c => ?_) (fun c => ?_))
      · have H := H.1 c
        refine zq_ipush (pc' := 128) rfl rfl rfl ?_
        refine hq_callv (pc' := 131) rfl rfl rfl rfl rfl rfl h_Xi ?_
        refine hmonov H ?_
        intro g15 e16 H
        refine zq_iinc (pc' := 134) rfl rfl rfl rfl ?_
        refine zq_goto_c (pc' := 80) rfl rfl ?_
        exact H
      · have H := H.2 c
        refine zq_ipush (pc' := 124) rfl rfl rfl ?_
        refine zq_goto (pc' := 128) rfl rfl rfl ?_
        refine hq_callv (pc' := 131) rfl rfl rfl rfl rfl rfl h_Xi ?_
        refine hmonov H ?_
        intro g17 e18 H
        refine zq_iinc (pc' := 134) rfl rfl rfl rfl ?_
        refine zq_goto_c (pc' := 80) rfl rfl ?_
        exact H
    · have H := H.2 c
      refine zq_iload (pc' := 100) rfl rfl rfl rfl ?_
      refine zq_goto (pc' := 108) rfl rfl rfl ?_
      refine zq_imul (pc' := 109) rfl rfl rfl ?_
      refine zq_istore (pc' := 111) rfl rfl rfl ?_
      refine zq_aload (pc' := 112) rfl rfl rfl rfl ?_
      refine zq_iload (pc' := 114) rfl rfl rfl rfl ?_
      refine zq_iload (pc' := 116) rfl rfl rfl rfl ?_
      refine hq_calli (pc' := 119) rfl rfl rfl rfl rfl rfl h_Xi ?_
      refine hmonoi H ?_
      intro x21 g19 e20 H
      refine zq_ifeq (pc' := 122) rfl rfl rfl rfl (And.intro (fun c => ?_) (fun c => ?_))
      · have H := H.1 c
        refine zq_ipush (pc' := 128) rfl rfl rfl ?_
        refine hq_callv (pc' := 131) rfl rfl rfl rfl rfl rfl h_Xi ?_
        refine hmonov H ?_
        intro g22 e23 H
        refine zq_iinc (pc' := 134) rfl rfl rfl rfl ?_
        refine zq_goto_c (pc' := 80) rfl rfl ?_
        exact H
      · have H := H.2 c
        refine zq_ipush (pc' := 124) rfl rfl rfl ?_
        refine zq_goto (pc' := 128) rfl rfl rfl ?_
        refine hq_callv (pc' := 131) rfl rfl rfl rfl rfl rfl h_Xi ?_
        refine hmonov H ?_
        intro g24 e25 H
        refine zq_iinc (pc' := 134) rfl rfl rfl rfl ?_
        refine zq_goto_c (pc' := 80) rfl rfl ?_
        exact H
theorem zh_X8_tellGains {d : Nat} {k : hG → hE → Prop} {X : Nat → hG → hE → Prop} {p1 : Int32} {p2 : Int32} {g : hG} {e : hE} (H :
    hcv d 249 [.ref 1046, .ref 1070, .int 0] g e (fun g1 e2 =>
      hwv d zm_X8_tellGains k X 11 [(0, .ref 1046), (1, .int p1), (2, .int p2), (3, .int 0)] g1 e2) X) : hcv (d + 1) 324 [.ref 1046, .int p1, .int p2] g e k X := by
  refine hent (M := zm_X8_tellGains) (show hT 1046 = some (.inr _) from rfl) rfl rfl rfl rfl rfl ?_
  refine zq_aload (pc' := 1) rfl rfl rfl rfl ?_
  refine zq_aload (pc' := 2) rfl rfl rfl rfl ?_
  refine zq_getR (pc' := 5) rfl rfl rfl (hp_gC rfl) ?_
  refine zq_ipush (pc' := 6) rfl rfl rfl ?_
  refine hq_callv (pc' := 9) rfl rfl rfl rfl rfl rfl h_Xv ?_
  refine hmonov H ?_
  intro g1 e2 H
  refine zq_ipush (pc' := 10) rfl rfl rfl ?_
  refine zq_istore_c (pc' := 11) rfl rfl ?_
  exact H
theorem zh_X8_tellGains_11 {d : Nat} {k : hG → hE → Prop} {X : Nat → hG → hE → Prop} {l1 : Int32} {l2 : Int32} {l3 : Int32} {g : hG} {e : hE} (H :
    zbr (4 ≤ l3)
    (k g e)
    (zbr ((l3 / 2) = 1)
      (hin l1 8 ∧
        hcv d 253 [.ref 1046, .int l1, .int (g.1 1052 l1.toNatClampNeg)] g e (fun g2 e3 =>
          zbr ((l3 - l3 / 2 * 2) = 1)
          (hin l2 8 ∧
            hcv d 253 [.ref 1046, .int l2, .int (g2.1 1052 l2.toNatClampNeg)] g2 e3 (fun g5 e6 =>
              hwv d zm_X8_tellGains k X 52 [(0, .ref 1046), (1, .int l1), (2, .int l2), (3, .int l3)] g5 e6) X)
          (hwv d zm_X8_tellGains k X 52 [(0, .ref 1046), (1, .int l1), (2, .int l2), (3, .int l3)] g2 e3)) X)
      (zbr ((l3 - l3 / 2 * 2) = 1)
        (hin l2 8 ∧
          hcv d 253 [.ref 1046, .int l2, .int (g.1 1052 l2.toNatClampNeg)] g e (fun g8 e9 =>
            hwv d zm_X8_tellGains k X 52 [(0, .ref 1046), (1, .int l1), (2, .int l2), (3, .int l3)] g8 e9) X)
        (hwv d zm_X8_tellGains k X 52 [(0, .ref 1046), (1, .int l1), (2, .int l2), (3, .int l3)] g e)))) : hwv d zm_X8_tellGains k X 11 [(0, .ref 1046), (1, .int l1), (2, .int l2), (3, .int l3)] g e := by
  refine zq_iload (pc' := 12) rfl rfl rfl rfl ?_
  refine zq_ipush (pc' := 13) rfl rfl rfl ?_
  refine zq_icge (pc' := 16) rfl rfl rfl rfl (And.intro (fun c => ?_) (fun c => ?_))
  · have H := H.1 c
    exact zq_vret rfl (Exists.intro _ (Exists.intro _ (And.intro rfl H)))
  · have H := H.2 c
    refine zq_iload (pc' := 17) rfl rfl rfl rfl ?_
    refine zq_ipush (pc' := 18) rfl rfl rfl ?_
    refine zq_idiv (pc' := 19) rfl rfl rfl (by decide) ?_
    refine zq_ipush (pc' := 20) rfl rfl rfl ?_
    refine zq_icne (pc' := 23) rfl rfl rfl rfl (And.intro (fun c => ?_) (fun c => ?_))
    · have H := H.1 c
      refine zq_aload (pc' := 24) rfl rfl rfl rfl ?_
      refine zq_iload (pc' := 25) rfl rfl rfl rfl ?_
      refine zq_aload (pc' := 26) rfl rfl rfl rfl ?_
      refine zq_getR (pc' := 29) rfl rfl rfl (hp_gC rfl) ?_
      refine zq_iload (pc' := 30) rfl rfl rfl rfl ?_
      obtain ⟨hi1, H⟩ := H
      refine zq_iald (pc' := 31) rfl rfl rfl (hp_ia rfl hi1) ?_
      refine hq_callv (pc' := 34) rfl rfl rfl rfl rfl rfl h_Xv ?_
      refine hmonov H ?_
      intro g2 e3 H
      refine zq_iload (pc' := 35) rfl rfl rfl rfl ?_
      refine zq_ipush (pc' := 36) rfl rfl rfl ?_
      refine zq_irem (pc' := 37) rfl rfl rfl (by decide) ?_
      refine zq_ipush (pc' := 38) rfl rfl rfl ?_
      refine zq_icne_c (pc' := 41) (lt := [(0, .ref 1046), (1, .int l1), (2, .int l2), (3, .int l3)]) (lf := [(0, .ref 1046), (1, .int l1), (2, .int l2), (3, .int l3)]) rfl rfl rfl rfl (And.intro (fun c => ?_) (fun c => ?_))
      · have H := H.1 c
        refine zq_aload (pc' := 42) rfl rfl rfl rfl ?_
        refine zq_iload (pc' := 43) rfl rfl rfl rfl ?_
        refine zq_aload (pc' := 44) rfl rfl rfl rfl ?_
        refine zq_getR (pc' := 47) rfl rfl rfl (hp_gC rfl) ?_
        refine zq_iload (pc' := 48) rfl rfl rfl rfl ?_
        obtain ⟨hi4, H⟩ := H
        refine zq_iald (pc' := 49) rfl rfl rfl (hp_ia rfl hi4) ?_
        refine hq_callv_c (pc' := 52) rfl rfl rfl rfl rfl h_Xv ?_
        refine hmonov H ?_
        intro g5 e6 H
        exact H
      · have H := H.2 c
        exact H
    · have H := H.2 c
      refine zq_iload (pc' := 35) rfl rfl rfl rfl ?_
      refine zq_ipush (pc' := 36) rfl rfl rfl ?_
      refine zq_irem (pc' := 37) rfl rfl rfl (by decide) ?_
      refine zq_ipush (pc' := 38) rfl rfl rfl ?_
      refine zq_icne_c (pc' := 41) (lt := [(0, .ref 1046), (1, .int l1), (2, .int l2), (3, .int l3)]) (lf := [(0, .ref 1046), (1, .int l1), (2, .int l2), (3, .int l3)]) rfl rfl rfl rfl (And.intro (fun c => ?_) (fun c => ?_))
      · have H := H.1 c
        refine zq_aload (pc' := 42) rfl rfl rfl rfl ?_
        refine zq_iload (pc' := 43) rfl rfl rfl rfl ?_
        refine zq_aload (pc' := 44) rfl rfl rfl rfl ?_
        refine zq_getR (pc' := 47) rfl rfl rfl (hp_gC rfl) ?_
        refine zq_iload (pc' := 48) rfl rfl rfl rfl ?_
        obtain ⟨hi7, H⟩ := H
        refine zq_iald (pc' := 49) rfl rfl rfl (hp_ia rfl hi7) ?_
        refine hq_callv_c (pc' := 52) rfl rfl rfl rfl rfl h_Xv ?_
        refine hmonov H ?_
        intro g8 e9 H
        exact H
      · have H := H.2 c
        exact H
theorem zh_X8_tellGains_52 {d : Nat} {k : hG → hE → Prop} {X : Nat → hG → hE → Prop} {l1 : Int32} {l2 : Int32} {l3 : Int32} {g : hG} {e : hE} (H :
    hcv d 265 [.ref 1046, .int 6] g e (fun g1 e2 =>
      hin l1 4 ∧
      hci d 219 [.int (g1.1 1063 l1.toNatClampNeg)] g1 e2 (fun x6 g4 e5 =>
        hin l2 4 ∧
        hci d 219 [.int (g4.1 1063 l2.toNatClampNeg)] g4 e5 (fun x10 g8 e9 =>
          hin (2 * l3) 8 ∧
          hin l2 4 ∧
          hci d 219 [.int ((sI g8 1080 (2 * l3).toNatClampNeg (((2 * x6) - x10) - (3 * (l3 / 2)))).1 1063 l2.toNatClampNeg)] (sI g8 1080 (2 * l3).toNatClampNeg (((2 * x6) - x10) - (3 * (l3 / 2)))) e9 (fun x15 g13 e14 =>
            hin l1 4 ∧
            hci d 219 [.int (g13.1 1063 l1.toNatClampNeg)] g13 e14 (fun x19 g17 e18 =>
              hin ((2 * l3) + 1) 8 ∧
              hcv d 250 [.ref 1046, .ref 1070, .int 0] (sI g17 1080 ((2 * l3) + 1).toNatClampNeg (((2 * x15) - x19) - (3 * (l3 - l3 / 2 * 2)))) e18 (fun g21 e22 =>
                hwv d zm_X8_tellGains k X 11 [(0, .ref 1046), (1, .int l1), (2, .int l2), (3, .int (l3 + 1))] g21 e22) X) X) X) X) X) X) : hwv d zm_X8_tellGains k X 52 [(0, .ref 1046), (1, .int l1), (2, .int l2), (3, .int l3)] g e := by
  refine zq_aload (pc' := 53) rfl rfl rfl rfl ?_
  refine zq_ipush (pc' := 55) rfl rfl rfl ?_
  refine hq_callv (pc' := 58) rfl rfl rfl rfl rfl rfl h_Xv ?_
  refine hmonov H ?_
  intro g1 e2 H
  refine zq_aload (pc' := 59) rfl rfl rfl rfl ?_
  refine zq_getR (pc' := 62) rfl rfl rfl (hp_gC rfl) ?_
  refine zq_ipush (pc' := 63) rfl rfl rfl ?_
  refine zq_iload (pc' := 64) rfl rfl rfl rfl ?_
  refine zq_imul (pc' := 65) rfl rfl rfl ?_
  refine zq_ipush (pc' := 66) rfl rfl rfl ?_
  refine zq_aload (pc' := 67) rfl rfl rfl rfl ?_
  refine zq_getR (pc' := 70) rfl rfl rfl (hp_gC rfl) ?_
  refine zq_iload (pc' := 71) rfl rfl rfl rfl ?_
  obtain ⟨hi3, H⟩ := H
  refine zq_iald (pc' := 72) rfl rfl rfl (hp_ia rfl hi3) ?_
  refine hq_calli (pc' := 75) rfl rfl rfl rfl rfl rfl h_Xv ?_
  refine hmonoi H ?_
  intro x6 g4 e5 H
  refine zq_imul (pc' := 76) rfl rfl rfl ?_
  refine zq_aload (pc' := 77) rfl rfl rfl rfl ?_
  refine zq_getR (pc' := 80) rfl rfl rfl (hp_gC rfl) ?_
  refine zq_iload (pc' := 81) rfl rfl rfl rfl ?_
  obtain ⟨hi7, H⟩ := H
  refine zq_iald (pc' := 82) rfl rfl rfl (hp_ia rfl hi7) ?_
  refine hq_calli (pc' := 85) rfl rfl rfl rfl rfl rfl h_Xv ?_
  refine hmonoi H ?_
  intro x10 g8 e9 H
  refine zq_isub (pc' := 86) rfl rfl rfl ?_
  refine zq_ipush (pc' := 87) rfl rfl rfl ?_
  refine zq_iload (pc' := 88) rfl rfl rfl rfl ?_
  refine zq_ipush (pc' := 89) rfl rfl rfl ?_
  refine zq_idiv (pc' := 90) rfl rfl rfl (by decide) ?_
  refine zq_imul (pc' := 91) rfl rfl rfl ?_
  refine zq_isub (pc' := 92) rfl rfl rfl ?_
  obtain ⟨hi11, H⟩ := H
  refine zq_iast (pc' := 93) rfl rfl rfl (hp_is rfl hi11) ?_
  refine zq_aload (pc' := 94) rfl rfl rfl rfl ?_
  refine zq_getR (pc' := 97) rfl rfl rfl (hp_gC rfl) ?_
  refine zq_ipush (pc' := 98) rfl rfl rfl ?_
  refine zq_iload (pc' := 99) rfl rfl rfl rfl ?_
  refine zq_imul (pc' := 100) rfl rfl rfl ?_
  refine zq_ipush (pc' := 101) rfl rfl rfl ?_
  refine zq_iadd (pc' := 102) rfl rfl rfl ?_
  refine zq_ipush (pc' := 103) rfl rfl rfl ?_
  refine zq_aload (pc' := 104) rfl rfl rfl rfl ?_
  refine zq_getR (pc' := 107) rfl rfl rfl (hp_gC rfl) ?_
  refine zq_iload (pc' := 108) rfl rfl rfl rfl ?_
  obtain ⟨hi12, H⟩ := H
  refine zq_iald (pc' := 109) rfl rfl rfl (hp_ia rfl hi12) ?_
  refine hq_calli (pc' := 112) rfl rfl rfl rfl rfl rfl h_Xv ?_
  refine hmonoi H ?_
  intro x15 g13 e14 H
  refine zq_imul (pc' := 113) rfl rfl rfl ?_
  refine zq_aload (pc' := 114) rfl rfl rfl rfl ?_
  refine zq_getR (pc' := 117) rfl rfl rfl (hp_gC rfl) ?_
  refine zq_iload (pc' := 118) rfl rfl rfl rfl ?_
  obtain ⟨hi16, H⟩ := H
  refine zq_iald (pc' := 119) rfl rfl rfl (hp_ia rfl hi16) ?_
  refine hq_calli (pc' := 122) rfl rfl rfl rfl rfl rfl h_Xv ?_
  refine hmonoi H ?_
  intro x19 g17 e18 H
  refine zq_isub (pc' := 123) rfl rfl rfl ?_
  refine zq_ipush (pc' := 124) rfl rfl rfl ?_
  refine zq_iload (pc' := 125) rfl rfl rfl rfl ?_
  refine zq_ipush (pc' := 126) rfl rfl rfl ?_
  refine zq_irem (pc' := 127) rfl rfl rfl (by decide) ?_
  refine zq_imul (pc' := 128) rfl rfl rfl ?_
  refine zq_isub (pc' := 129) rfl rfl rfl ?_
  obtain ⟨hi20, H⟩ := H
  refine zq_iast (pc' := 130) rfl rfl rfl (hp_is rfl hi20) ?_
  refine zq_aload (pc' := 131) rfl rfl rfl rfl ?_
  refine zq_aload (pc' := 132) rfl rfl rfl rfl ?_
  refine zq_getR (pc' := 135) rfl rfl rfl (hp_gC rfl) ?_
  refine zq_ipush (pc' := 136) rfl rfl rfl ?_
  refine hq_callv (pc' := 139) rfl rfl rfl rfl rfl rfl h_Xv ?_
  refine hmonov H ?_
  intro g21 e22 H
  refine zq_iinc (pc' := 142) rfl rfl rfl rfl ?_
  refine zq_goto_c (pc' := 11) rfl rfl ?_
  exact H
theorem zh_X8_game {d : Nat} {k : Int32 → hG → hE → Prop} {X : Nat → hG → hE → Prop} {p1 : Int32} {p2 : Int32} {p3 : Int32} {g : hG} {e : hE} (H :
    hci d 220 [.ref 1046, .int p1] (sI g 1046 4 0) e (fun x3 g1 e2 =>
      zbr (x3 = 0)
      (hci d 215 [.ref 1046, .int 1] g1 e2 (fun x6 g4 e5 =>
          k x6 g4 e5) X)
      (hci d 220 [.ref 1046, .int p2] g1 e2 (fun x9 g7 e8 =>
          zbr (x9 = 0)
          (hci d 215 [.ref 1046, .int 1] g7 e8 (fun x12 g10 e11 =>
              k x12 g10 e11) X)
          (hci d 217 [.long ((p3 : Int32).toInt64), .long 0, .long 1] g7 e8 (fun x15 g13 e14 =>
              zbr (x15 = 0)
              (hci d 215 [.ref 1046, .int 1] g13 e14 (fun x18 g16 e17 =>
                  k x18 g16 e17) X)
              (zbr (p1 = p2)
                (hci d 215 [.ref 1046, .int 2] g13 e14 (fun x21 g19 e20 =>
                    k x21 g19 e20) X)
                (hcv d 324 [.ref 1046, .int p1, .int p2] g13 e14 (fun g22 e23 =>
                    hwi d zm_X8_game k X 63 [(0, .ref 1046), (3, .int p3), (4, .int 0), (5, .int (-1)), (6, .int 0)] g22 e23) X))) X)) X)) X) : hci (d + 1) 325 [.ref 1046, .int p1, .int p2, .int p3] g e k X := by
  refine hent (M := zm_X8_game) (show hT 1046 = some (.inr _) from rfl) rfl rfl rfl rfl rfl ?_
  refine zq_aload (pc' := 1) rfl rfl rfl rfl ?_
  refine zq_ipush (pc' := 2) rfl rfl rfl ?_
  refine zq_put (pc' := 5) rfl rfl rfl trivial (hp_sI rfl) ?_
  refine zq_aload (pc' := 6) rfl rfl rfl rfl ?_
  refine zq_iload (pc' := 7) rfl rfl rfl rfl ?_
  refine hq_calli (pc' := 10) rfl rfl rfl rfl rfl rfl h_Xi ?_
  refine hmonoi H ?_
  intro x3 g1 e2 H
  refine zq_ifeq (pc' := 13) rfl rfl rfl rfl (And.intro (fun c => ?_) (fun c => ?_))
  · have H := H.1 c
    refine zq_aload (pc' := 32) rfl rfl rfl rfl ?_
    refine zq_ipush (pc' := 33) rfl rfl rfl ?_
    refine hq_calli (pc' := 36) rfl rfl rfl rfl rfl rfl h_Xi ?_
    refine hmonoi H ?_
    intro x6 g4 e5 H
    exact zq_iret rfl trivial (Exists.intro _ (Exists.intro _ (And.intro rfl H)))
  · have H := H.2 c
    refine zq_aload (pc' := 14) rfl rfl rfl rfl ?_
    refine zq_iload (pc' := 15) rfl rfl rfl rfl ?_
    refine hq_calli (pc' := 18) rfl rfl rfl rfl rfl rfl h_Xi ?_
    refine hmonoi H ?_
    intro x9 g7 e8 H
    refine zq_ifeq (pc' := 21) rfl rfl rfl rfl (And.intro (fun c => ?_) (fun c => ?_))
    · have H := H.1 c
      refine zq_aload (pc' := 32) rfl rfl rfl rfl ?_
      refine zq_ipush (pc' := 33) rfl rfl rfl ?_
      refine hq_calli (pc' := 36) rfl rfl rfl rfl rfl rfl h_Xi ?_
      refine hmonoi H ?_
      intro x12 g10 e11 H
      exact zq_iret rfl trivial (Exists.intro _ (Exists.intro _ (And.intro rfl H)))
    · have H := H.2 c
      refine zq_iload (pc' := 22) rfl rfl rfl rfl ?_
      refine zq_i2l (pc' := 23) rfl rfl rfl ?_
      refine zq_lpush (pc' := 24) rfl rfl rfl ?_
      refine zq_lpush (pc' := 25) rfl rfl rfl ?_
      refine hq_calli (pc' := 28) rfl rfl rfl rfl rfl rfl h_Xi ?_
      refine hmonoi H ?_
      intro x15 g13 e14 H
      refine zq_ifne (pc' := 31) rfl rfl rfl rfl (And.intro (fun c => ?_) (fun c => ?_))
      · have H := H.1 c
        refine zq_aload (pc' := 32) rfl rfl rfl rfl ?_
        refine zq_ipush (pc' := 33) rfl rfl rfl ?_
        refine hq_calli (pc' := 36) rfl rfl rfl rfl rfl rfl h_Xi ?_
        refine hmonoi H ?_
        intro x18 g16 e17 H
        exact zq_iret rfl trivial (Exists.intro _ (Exists.intro _ (And.intro rfl H)))
      · have H := H.2 c
        refine zq_iload (pc' := 38) rfl rfl rfl rfl ?_
        refine zq_iload (pc' := 39) rfl rfl rfl rfl ?_
        refine zq_icne (pc' := 42) rfl rfl rfl rfl (And.intro (fun c => ?_) (fun c => ?_))
        · have H := H.1 c
          refine zq_aload (pc' := 43) rfl rfl rfl rfl ?_
          refine zq_ipush (pc' := 44) rfl rfl rfl ?_
          refine hq_calli (pc' := 47) rfl rfl rfl rfl rfl rfl h_Xi ?_
          refine hmonoi H ?_
          intro x21 g19 e20 H
          exact zq_iret rfl trivial (Exists.intro _ (Exists.intro _ (And.intro rfl H)))
        · have H := H.2 c
          refine zq_aload (pc' := 49) rfl rfl rfl rfl ?_
          refine zq_iload (pc' := 50) rfl rfl rfl rfl ?_
          refine zq_iload (pc' := 51) rfl rfl rfl rfl ?_
          refine hq_callv (pc' := 54) rfl rfl rfl rfl rfl rfl h_Xi ?_
          refine hmonov H ?_
          intro g22 e23 H
          refine zq_ipush (pc' := 55) rfl rfl rfl ?_
          refine zq_istore (pc' := 57) rfl rfl rfl ?_
          refine zq_ipushn (pc' := 58) rfl rfl rfl ?_
          refine zq_istore (pc' := 60) rfl rfl rfl ?_
          refine zq_ipush (pc' := 61) rfl rfl rfl ?_
          refine zq_istore_c (pc' := 63) rfl rfl ?_
          exact H
theorem zh_X8_game_63 {d : Nat} {k : Int32 → hG → hE → Prop} {X : Nat → hG → hE → Prop} {l3 : Int32} {l4 : Int32} {l5 : Int32} {l6 : Int32} {g : hG} {e : hE} (H :
    zbr (4 ≤ l6)
    (zbr (l3 = 0)
      (k l4 g e)
      (k l5 g e))
    (hin (2 * (l6 ^^^ 2)) 8 ∧
      hin (2 * l6) 8 ∧
      zbr ((g.1 1080 (2 * l6).toNatClampNeg) < (g.1 1080 (2 * (l6 ^^^ 2)).toNatClampNeg))
      (hwi d zm_X8_game k X 63 [(0, .ref 1046), (3, .int l3), (4, .int l4), (5, .int l5), (6, .int (l6 + 1))] g e)
      (hin ((2 * (l6 ^^^ 1)) + 1) 8 ∧
        hin ((2 * l6) + 1) 8 ∧
        zbr ((g.1 1080 ((2 * (l6 ^^^ 1)) + 1).toNatClampNeg) ≤ (g.1 1080 ((2 * l6) + 1).toNatClampNeg))
        (zbr (l5 = (-1))
          (hwi d zm_X8_game k X 63 [(0, .ref 1046), (3, .int l3), (4, .int (l4 + 1)), (5, .int ((10 * (l6 / 2)) + (l6 - l6 / 2 * 2))), (6, .int (l6 + 1))] g e)
          (hwi d zm_X8_game k X 63 [(0, .ref 1046), (3, .int l3), (4, .int (l4 + 1)), (5, .int l5), (6, .int (l6 + 1))] g e))
        (hwi d zm_X8_game k X 63 [(0, .ref 1046), (3, .int l3), (4, .int l4), (5, .int l5), (6, .int (l6 + 1))] g e)))) : hwi d zm_X8_game k X 63 [(0, .ref 1046), (3, .int l3), (4, .int l4), (5, .int l5), (6, .int l6)] g e := by
  refine zq_iload (pc' := 65) rfl rfl rfl rfl ?_
  refine zq_ipush (pc' := 66) rfl rfl rfl ?_
  refine zq_icge (pc' := 69) rfl rfl rfl rfl (And.intro (fun c => ?_) (fun c => ?_))
  · have H := H.1 c
    refine zq_iload (pc' := 157) rfl rfl rfl rfl ?_
    refine zq_ifne (pc' := 160) rfl rfl rfl rfl (And.intro (fun c => ?_) (fun c => ?_))
    · have H := H.1 c
      refine zq_iload (pc' := 162) rfl rfl rfl rfl ?_
      refine zq_goto (pc' := 167) rfl rfl rfl ?_
      exact zq_iret rfl trivial (Exists.intro _ (Exists.intro _ (And.intro rfl H)))
    · have H := H.2 c
      refine zq_iload (pc' := 167) rfl rfl rfl rfl ?_
      exact zq_iret rfl trivial (Exists.intro _ (Exists.intro _ (And.intro rfl H)))
  · have H := H.2 c
    refine zq_aload (pc' := 70) rfl rfl rfl rfl ?_
    refine zq_getR (pc' := 73) rfl rfl rfl (hp_gC rfl) ?_
    refine zq_ipush (pc' := 74) rfl rfl rfl ?_
    refine zq_iload (pc' := 76) rfl rfl rfl rfl ?_
    refine zq_ipush (pc' := 77) rfl rfl rfl ?_
    refine zq_ixor (pc' := 78) rfl rfl rfl ?_
    refine zq_imul (pc' := 79) rfl rfl rfl ?_
    obtain ⟨hi1, H⟩ := H
    refine zq_iald (pc' := 80) rfl rfl rfl (hp_ia rfl hi1) ?_
    refine zq_aload (pc' := 81) rfl rfl rfl rfl ?_
    refine zq_getR (pc' := 84) rfl rfl rfl (hp_gC rfl) ?_
    refine zq_ipush (pc' := 85) rfl rfl rfl ?_
    refine zq_iload (pc' := 87) rfl rfl rfl rfl ?_
    refine zq_imul (pc' := 88) rfl rfl rfl ?_
    obtain ⟨hi2, H⟩ := H
    refine zq_iald (pc' := 89) rfl rfl rfl (hp_ia rfl hi2) ?_
    refine zq_icgt (pc' := 92) rfl rfl rfl rfl (And.intro (fun c => ?_) (fun c => ?_))
    · have H := H.1 c
      refine zq_iinc (pc' := 153) rfl rfl rfl rfl ?_
      refine zq_goto_c (pc' := 63) rfl rfl ?_
      exact H
    · have H := H.2 c
      refine zq_aload (pc' := 93) rfl rfl rfl rfl ?_
      refine zq_getR (pc' := 96) rfl rfl rfl (hp_gC rfl) ?_
      refine zq_ipush (pc' := 97) rfl rfl rfl ?_
      refine zq_iload (pc' := 99) rfl rfl rfl rfl ?_
      refine zq_ipush (pc' := 100) rfl rfl rfl ?_
      refine zq_ixor (pc' := 101) rfl rfl rfl ?_
      refine zq_imul (pc' := 102) rfl rfl rfl ?_
      refine zq_ipush (pc' := 103) rfl rfl rfl ?_
      refine zq_iadd (pc' := 104) rfl rfl rfl ?_
      obtain ⟨hi3, H⟩ := H
      refine zq_iald (pc' := 105) rfl rfl rfl (hp_ia rfl hi3) ?_
      refine zq_aload (pc' := 106) rfl rfl rfl rfl ?_
      refine zq_getR (pc' := 109) rfl rfl rfl (hp_gC rfl) ?_
      refine zq_ipush (pc' := 110) rfl rfl rfl ?_
      refine zq_iload (pc' := 112) rfl rfl rfl rfl ?_
      refine zq_imul (pc' := 113) rfl rfl rfl ?_
      refine zq_ipush (pc' := 114) rfl rfl rfl ?_
      refine zq_iadd (pc' := 115) rfl rfl rfl ?_
      obtain ⟨hi4, H⟩ := H
      refine zq_iald (pc' := 116) rfl rfl rfl (hp_ia rfl hi4) ?_
      refine zq_icle (pc' := 119) rfl rfl rfl rfl (And.intro (fun c => ?_) (fun c => ?_))
      · have H := H.1 c
        refine zq_iinc (pc' := 125) rfl rfl rfl rfl ?_
        refine zq_iload (pc' := 127) rfl rfl rfl rfl ?_
        refine zq_ipushn (pc' := 128) rfl rfl rfl ?_
        refine zq_icne (pc' := 131) rfl rfl rfl rfl (And.intro (fun c => ?_) (fun c => ?_))
        · have H := H.1 c
          refine zq_ipush (pc' := 133) rfl rfl rfl ?_
          refine zq_iload (pc' := 135) rfl rfl rfl rfl ?_
          refine zq_ipush (pc' := 136) rfl rfl rfl ?_
          refine zq_idiv (pc' := 137) rfl rfl rfl (by decide) ?_
          refine zq_imul (pc' := 138) rfl rfl rfl ?_
          refine zq_iload (pc' := 140) rfl rfl rfl rfl ?_
          refine zq_ipush (pc' := 141) rfl rfl rfl ?_
          refine zq_irem (pc' := 142) rfl rfl rfl (by decide) ?_
          refine zq_iadd (pc' := 143) rfl rfl rfl ?_
          refine zq_goto (pc' := 148) rfl rfl rfl ?_
          refine zq_istore (pc' := 150) rfl rfl rfl ?_
          refine zq_iinc (pc' := 153) rfl rfl rfl rfl ?_
          refine zq_goto_c (pc' := 63) rfl rfl ?_
          exact H
        · have H := H.2 c
          refine zq_iload (pc' := 148) rfl rfl rfl rfl ?_
          refine zq_istore (pc' := 150) rfl rfl rfl ?_
          refine zq_iinc (pc' := 153) rfl rfl rfl rfl ?_
          refine zq_goto_c (pc' := 63) rfl rfl ?_
          exact H
      · have H := H.2 c
        refine zq_goto (pc' := 150) rfl rfl rfl ?_
        refine zq_iinc (pc' := 153) rfl rfl rfl rfl ?_
        refine zq_goto_c (pc' := 63) rfl rfl ?_
        exact H
theorem zh_X8_drawOf {d : Nat} {k : Int32 → hG → hE → Prop} {X : Nat → hG → hE → Prop} {p1 : Int32} {g : hG} {e : hE} (H :
    ¬ p1 = 0 ∧ k (((((sI g 1046 51 (((g.1 1046 51) * 1103515245) + 12345)).1 1046 51) >>> ((16 : Int32) &&& 31)) &&& 32767) - ((((sI g 1046 51 (((g.1 1046 51) * 1103515245) + 12345)).1 1046 51) >>> ((16 : Int32) &&& 31)) &&& 32767) / p1 * p1) (sI g 1046 51 (((g.1 1046 51) * 1103515245) + 12345)) e) : hci (d + 1) 326 [.ref 1046, .int p1] g e k X := by
  refine hent (M := zm_X8_drawOf) (show hT 1046 = some (.inr _) from rfl) rfl rfl rfl rfl rfl ?_
  refine zq_aload (pc' := 1) rfl rfl rfl rfl ?_
  refine zq_aload (pc' := 2) rfl rfl rfl rfl ?_
  refine zq_getI (pc' := 5) rfl rfl rfl (hp_gI rfl) ?_
  refine zq_ipush (pc' := 8) rfl rfl rfl ?_
  refine zq_imul (pc' := 9) rfl rfl rfl ?_
  refine zq_ipush (pc' := 12) rfl rfl rfl ?_
  refine zq_iadd (pc' := 13) rfl rfl rfl ?_
  refine zq_put (pc' := 16) rfl rfl rfl trivial (hp_sI rfl) ?_
  refine zq_aload (pc' := 17) rfl rfl rfl rfl ?_
  refine zq_getI (pc' := 20) rfl rfl rfl (hp_gI rfl) ?_
  refine zq_ipush (pc' := 22) rfl rfl rfl ?_
  refine zq_ishr (pc' := 23) rfl rfl rfl ?_
  refine zq_ipush (pc' := 26) rfl rfl rfl ?_
  refine zq_iand (pc' := 27) rfl rfl rfl ?_
  refine zq_iload (pc' := 28) rfl rfl rfl rfl ?_
  obtain ⟨e0, H⟩ := H
  refine zq_irem (pc' := 29) rfl rfl rfl e0 ?_
  exact zq_iret rfl trivial (Exists.intro _ (Exists.intro _ (And.intro rfl H)))
theorem zh_X8_something {d : Nat} {k : hG → hE → Prop} {X : Nat → hG → hE → Prop}  {g : hG} {e : hE} (H :
    hci d 326 [.ref 1046, .int 6] g e (fun x3 g1 e2 =>
      zbr (2 < x3)
      (k g1 e2)
      (zbr ((g1.1 1050 0) = 0)
        (k g1 e2)
        (hci d 326 [.ref 1046, .int (g1.1 1050 0)] g1 e2 (fun x8 g6 e7 =>
            zbr (x3 = 0)
            (hin x8 8 ∧
              hcv d 253 [.ref 1046, .int x8, .int (g6.1 1052 x8.toNatClampNeg)] g6 e7 (fun g10 e11 =>
                k g10 e11) X)
            (hin x8 8 ∧
              hci d 326 [.ref 1046, .int (g6.1 1052 x8.toNatClampNeg)] g6 e7 (fun x15 g13 e14 =>
                hci d 326 [.ref 1046, .int 2] g13 e14 (fun x18 g16 e17 =>
                  zbr (x18 = 0)
                  (zbr (x3 = 1)
                    (hcv d 313 [.ref 1060, .int ((16 * x8) + x15)] g16 e17 (fun g19 e20 =>
                        hwv d zm_X8_something k X 101 [(0, .ref 1046), (1, .int x3), (2, .int x8), (3, .int x15), (4, .ref 1060), (5, .int ((16 * x8) + x15))] g19 e20) X)
                    (hwv d zm_X8_something k X 101 [(0, .ref 1046), (1, .int x3), (2, .int x8), (3, .int x15), (4, .ref 1060), (5, .int ((16 * x8) + x15))] g16 e17))
                  (zbr (x3 = 1)
                    (hcv d 313 [.ref 1061, .int ((16 * x8) + x15)] g16 e17 (fun g21 e22 =>
                        hwv d zm_X8_something k X 101 [(0, .ref 1046), (1, .int x3), (2, .int x8), (3, .int x15), (4, .ref 1061), (5, .int ((16 * x8) + x15))] g21 e22) X)
                    (hwv d zm_X8_something k X 101 [(0, .ref 1046), (1, .int x3), (2, .int x8), (3, .int x15), (4, .ref 1061), (5, .int ((16 * x8) + x15))] g16 e17))) X) X)) X))) X) : hcv (d + 1) 327 [.ref 1046] g e k X := by
  refine hent (M := zm_X8_something) (show hT 1046 = some (.inr _) from rfl) rfl rfl rfl rfl rfl ?_
  refine zq_aload (pc' := 1) rfl rfl rfl rfl ?_
  refine zq_ipush (pc' := 3) rfl rfl rfl ?_
  refine hq_calli (pc' := 6) rfl rfl rfl rfl rfl rfl h_Xv ?_
  refine hmonoi H ?_
  intro x3 g1 e2 H
  refine zq_istore (pc' := 7) rfl rfl rfl ?_
  refine zq_iload (pc' := 8) rfl rfl rfl rfl ?_
  refine zq_ipush (pc' := 9) rfl rfl rfl ?_
  refine zq_icgt (pc' := 12) rfl rfl rfl rfl (And.intro (fun c => ?_) (fun c => ?_))
  · have H := H.1 c
    exact zq_vret rfl (Exists.intro _ (Exists.intro _ (And.intro rfl H)))
  · have H := H.2 c
    refine zq_aload (pc' := 13) rfl rfl rfl rfl ?_
    refine zq_getR (pc' := 16) rfl rfl rfl (hp_gC rfl) ?_
    refine zq_ipush (pc' := 17) rfl rfl rfl ?_
    refine zq_iald (pc' := 18) rfl rfl rfl (hp_ia rfl (by unfold hin; decide)) ?_
    refine zq_ifne (pc' := 21) rfl rfl rfl rfl (And.intro (fun c => ?_) (fun c => ?_))
    · have H := H.1 c
      exact zq_vret rfl (Exists.intro _ (Exists.intro _ (And.intro rfl H)))
    · have H := H.2 c
      refine zq_aload (pc' := 23) rfl rfl rfl rfl ?_
      refine zq_aload (pc' := 24) rfl rfl rfl rfl ?_
      refine zq_getR (pc' := 27) rfl rfl rfl (hp_gC rfl) ?_
      refine zq_ipush (pc' := 28) rfl rfl rfl ?_
      refine zq_iald (pc' := 29) rfl rfl rfl (hp_ia rfl (by unfold hin; decide)) ?_
      refine hq_calli (pc' := 32) rfl rfl rfl rfl rfl rfl h_Xv ?_
      refine hmonoi H ?_
      intro x8 g6 e7 H
      refine zq_istore (pc' := 33) rfl rfl rfl ?_
      refine zq_iload (pc' := 34) rfl rfl rfl rfl ?_
      refine zq_ifne (pc' := 37) rfl rfl rfl rfl (And.intro (fun c => ?_) (fun c => ?_))
      · have H := H.1 c
        refine zq_aload (pc' := 38) rfl rfl rfl rfl ?_
        refine zq_iload (pc' := 39) rfl rfl rfl rfl ?_
        refine zq_aload (pc' := 40) rfl rfl rfl rfl ?_
        refine zq_getR (pc' := 43) rfl rfl rfl (hp_gC rfl) ?_
        refine zq_iload (pc' := 44) rfl rfl rfl rfl ?_
        obtain ⟨hi9, H⟩ := H
        refine zq_iald (pc' := 45) rfl rfl rfl (hp_ia rfl hi9) ?_
        refine hq_callv (pc' := 48) rfl rfl rfl rfl rfl rfl h_Xv ?_
        refine hmonov H ?_
        intro g10 e11 H
        exact zq_vret rfl (Exists.intro _ (Exists.intro _ (And.intro rfl H)))
      · have H := H.2 c
        refine zq_aload (pc' := 50) rfl rfl rfl rfl ?_
        refine zq_aload (pc' := 51) rfl rfl rfl rfl ?_
        refine zq_getR (pc' := 54) rfl rfl rfl (hp_gC rfl) ?_
        refine zq_iload (pc' := 55) rfl rfl rfl rfl ?_
        obtain ⟨hi12, H⟩ := H
        refine zq_iald (pc' := 56) rfl rfl rfl (hp_ia rfl hi12) ?_
        refine hq_calli (pc' := 59) rfl rfl rfl rfl rfl rfl h_Xv ?_
        refine hmonoi H ?_
        intro x15 g13 e14 H
        refine zq_istore (pc' := 60) rfl rfl rfl ?_
        refine zq_aload (pc' := 61) rfl rfl rfl rfl ?_
        refine zq_ipush (pc' := 62) rfl rfl rfl ?_
        refine hq_calli (pc' := 65) rfl rfl rfl rfl rfl rfl h_Xv ?_
        refine hmonoi H ?_
        intro x18 g16 e17 H
        refine zq_ifne (pc' := 68) rfl rfl rfl rfl (And.intro (fun c => ?_) (fun c => ?_))
        · have H := H.1 c
          refine zq_aload (pc' := 69) rfl rfl rfl rfl ?_
          refine zq_getR (pc' := 72) rfl rfl rfl (hp_gC rfl) ?_
          refine zq_goto (pc' := 79) rfl rfl rfl ?_
          refine zq_astore (pc' := 81) rfl rfl rfl ?_
          refine zq_ipush (pc' := 83) rfl rfl rfl ?_
          refine zq_iload (pc' := 84) rfl rfl rfl rfl ?_
          refine zq_imul (pc' := 85) rfl rfl rfl ?_
          refine zq_iload (pc' := 86) rfl rfl rfl rfl ?_
          refine zq_iadd (pc' := 87) rfl rfl rfl ?_
          refine zq_istore (pc' := 89) rfl rfl rfl ?_
          refine zq_iload (pc' := 90) rfl rfl rfl rfl ?_
          refine zq_ipush (pc' := 91) rfl rfl rfl ?_
          refine zq_icne_c (pc' := 94) (lt := [(0, .ref 1046), (1, .int x3), (2, .int x8), (3, .int x15), (4, .ref 1060), (5, .int ((16 * x8) + x15))]) (lf := [(5, .int ((16 * x8) + x15)), (4, .ref 1060), (3, .int x15), (2, .int x8), (1, .int x3), (0, .ref 1046)]) rfl rfl rfl rfl (And.intro (fun c => ?_) (fun c => ?_))
          · have H := H.1 c
            refine zq_aload (pc' := 96) rfl rfl rfl rfl ?_
            refine zq_iload (pc' := 98) rfl rfl rfl rfl ?_
            refine hq_callv_c (pc' := 101) rfl rfl rfl rfl rfl h_Xv ?_
            refine hmonov H ?_
            intro g19 e20 H
            exact H
          · have H := H.2 c
            exact H
        · have H := H.2 c
          refine zq_aload (pc' := 76) rfl rfl rfl rfl ?_
          refine zq_getR (pc' := 79) rfl rfl rfl (hp_gC rfl) ?_
          refine zq_astore (pc' := 81) rfl rfl rfl ?_
          refine zq_ipush (pc' := 83) rfl rfl rfl ?_
          refine zq_iload (pc' := 84) rfl rfl rfl rfl ?_
          refine zq_imul (pc' := 85) rfl rfl rfl ?_
          refine zq_iload (pc' := 86) rfl rfl rfl rfl ?_
          refine zq_iadd (pc' := 87) rfl rfl rfl ?_
          refine zq_istore (pc' := 89) rfl rfl rfl ?_
          refine zq_iload (pc' := 90) rfl rfl rfl rfl ?_
          refine zq_ipush (pc' := 91) rfl rfl rfl ?_
          refine zq_icne_c (pc' := 94) (lt := [(0, .ref 1046), (1, .int x3), (2, .int x8), (3, .int x15), (4, .ref 1061), (5, .int ((16 * x8) + x15))]) (lf := [(5, .int ((16 * x8) + x15)), (4, .ref 1061), (3, .int x15), (2, .int x8), (1, .int x3), (0, .ref 1046)]) rfl rfl rfl rfl (And.intro (fun c => ?_) (fun c => ?_))
          · have H := H.1 c
            refine zq_aload (pc' := 96) rfl rfl rfl rfl ?_
            refine zq_iload (pc' := 98) rfl rfl rfl rfl ?_
            refine hq_callv_c (pc' := 101) rfl rfl rfl rfl rfl h_Xv ?_
            refine hmonov H ?_
            intro g21 e22 H
            exact H
          · have H := H.2 c
            exact H
theorem zh_X8_something_101 {d : Nat} {k : hG → hE → Prop} {X : Nat → hG → hE → Prop} {l1 : Int32} {l2 : Int32} {l3 : Int32} {l4 : Nat} (hl4 : hT l4 = some (.inl (0, 64))) {l5 : Int32} {g : hG} {e : hE} (H :
    zbr (l1 = 2)
    (hin l5 64 ∧
      hci d 2 [.int 0, .int ((g.1 l4 l5.toNatClampNeg) - 1)] g e (fun x4 g2 e3 =>
        hin l5 64 ∧
        hwv d zm_X8_something k X 122 [(0, .ref 1046), (2, .int l2), (3, .int l3)] (sI g2 l4 l5.toNatClampNeg x4) e3) X)
    (hwv d zm_X8_something k X 122 [(0, .ref 1046), (2, .int l2), (3, .int l3)] g e)) : hwv d zm_X8_something k X 101 [(0, .ref 1046), (1, .int l1), (2, .int l2), (3, .int l3), (4, .ref l4), (5, .int l5)] g e := by
  refine zq_iload (pc' := 102) rfl rfl rfl rfl ?_
  refine zq_ipush (pc' := 103) rfl rfl rfl ?_
  refine zq_icne_c (pc' := 106) (lt := [(0, .ref 1046), (2, .int l2), (3, .int l3)]) (lf := [(0, .ref 1046), (1, .int l1), (2, .int l2), (3, .int l3), (4, .ref l4), (5, .int l5)]) rfl rfl rfl rfl (And.intro (fun c => ?_) (fun c => ?_))
  · have H := H.1 c
    refine zq_aload (pc' := 108) rfl rfl rfl rfl ?_
    refine zq_iload (pc' := 110) rfl rfl rfl rfl ?_
    refine zq_ipush (pc' := 111) rfl rfl rfl ?_
    refine zq_aload (pc' := 113) rfl rfl rfl rfl ?_
    refine zq_iload (pc' := 115) rfl rfl rfl rfl ?_
    obtain ⟨hi1, H⟩ := H
    refine zq_iald (pc' := 116) rfl rfl rfl (hp_ia hl4 hi1) ?_
    refine zq_ipush (pc' := 117) rfl rfl rfl ?_
    refine zq_isub (pc' := 118) rfl rfl rfl ?_
    refine hq_calli (pc' := 121) rfl rfl rfl rfl rfl rfl h_Xv ?_
    refine hmonoi H ?_
    intro x4 g2 e3 H
    obtain ⟨hi5, H⟩ := H
    refine zq_iast_c (pc' := 122) rfl rfl (hp_is hl4 hi5) ?_
    exact H
  · have H := H.2 c
    exact H
theorem zh_X8_something_122 {d : Nat} {k : hG → hE → Prop} {X : Nat → hG → hE → Prop} {l2 : Int32} {l3 : Int32} {g : hG} {e : hE} (H :
    hci d 251 [.ref 1046, .int l2, .int l3] g e (fun x3 g1 e2 =>
      zbr (x3 = 0)
      (hin l2 4 ∧
        hin l2 4 ∧
        k (sI g1 1063 l2.toNatClampNeg ((g1.1 1063 l2.toNatClampNeg) &&& ((1 <<< (l3 &&& 31)) ^^^ (-1)))) e2)
      (k g1 e2)) X) : hwv d zm_X8_something k X 122 [(0, .ref 1046), (2, .int l2), (3, .int l3)] g e := by
  refine zq_aload (pc' := 123) rfl rfl rfl rfl ?_
  refine zq_iload (pc' := 124) rfl rfl rfl rfl ?_
  refine zq_iload (pc' := 125) rfl rfl rfl rfl ?_
  refine hq_calli (pc' := 128) rfl rfl rfl rfl rfl rfl h_Xv ?_
  refine hmonoi H ?_
  intro x3 g1 e2 H
  refine zq_ifne (pc' := 131) rfl rfl rfl rfl (And.intro (fun c => ?_) (fun c => ?_))
  · have H := H.1 c
    refine zq_aload (pc' := 132) rfl rfl rfl rfl ?_
    refine zq_getR (pc' := 135) rfl rfl rfl (hp_gC rfl) ?_
    refine zq_iload (pc' := 136) rfl rfl rfl rfl ?_
    refine zq_dup2 (pc' := 137) rfl rfl rfl rfl rfl ?_
    obtain ⟨hi4, H⟩ := H
    refine zq_iald (pc' := 138) rfl rfl rfl (hp_ia rfl hi4) ?_
    refine zq_ipush (pc' := 139) rfl rfl rfl ?_
    refine zq_iload (pc' := 140) rfl rfl rfl rfl ?_
    refine zq_ishl (pc' := 141) rfl rfl rfl ?_
    refine zq_ipushn (pc' := 142) rfl rfl rfl ?_
    refine zq_ixor (pc' := 143) rfl rfl rfl ?_
    refine zq_iand (pc' := 144) rfl rfl rfl ?_
    obtain ⟨hi5, H⟩ := H
    refine zq_iast (pc' := 145) rfl rfl rfl (hp_is rfl hi5) ?_
    exact zq_vret rfl (Exists.intro _ (Exists.intro _ (And.intro rfl H)))
  · have H := H.2 c
    exact zq_vret rfl (Exists.intro _ (Exists.intro _ (And.intro rfl H)))
theorem zh_X8_years {d : Nat} {k : Int32 → hG → hE → Prop} {X : Nat → hG → hE → Prop} {p1 : Int32} {p2 : Int32} {p3 : Int32} {g : hG} {e : hE} (H :
    hci d 217 [.long ((p3 : Int32).toInt64), .long 0, .long 2] (sI g 1046 4 0) e (fun x3 g1 e2 =>
      zbr (x3 = 0)
      (hci d 215 [.ref 1046, .int 1] g1 e2 (fun x6 g4 e5 =>
          k x6 g4 e5) X)
      (hci d 217 [.long ((p2 : Int32).toInt64), .long 0, .long 60] g1 e2 (fun x9 g7 e8 =>
          zbr (x9 = 0)
          (hci d 215 [.ref 1046, .int 2] g7 e8 (fun x12 g10 e11 =>
              k x12 g10 e11) X)
          (hcv d 249 [.ref 1046, .ref 1070, .int 0] g7 e8 (fun g13 e14 =>
              hcv d 266 [.ref 1046] g13 e14 (fun g15 e16 =>
                hwi d zm_X8_years k X 62 [(0, .ref 1046), (2, .int p2), (3, .int p3), (4, .int 0)] (sI g15 1046 51 p1) e16) X) X)) X)) X) : hci (d + 1) 328 [.ref 1046, .int p1, .int p2, .int p3] g e k X := by
  refine hent (M := zm_X8_years) (show hT 1046 = some (.inr _) from rfl) rfl rfl rfl rfl rfl ?_
  refine zq_aload (pc' := 1) rfl rfl rfl rfl ?_
  refine zq_ipush (pc' := 2) rfl rfl rfl ?_
  refine zq_put (pc' := 5) rfl rfl rfl trivial (hp_sI rfl) ?_
  refine zq_iload (pc' := 6) rfl rfl rfl rfl ?_
  refine zq_i2l (pc' := 7) rfl rfl rfl ?_
  refine zq_lpush (pc' := 8) rfl rfl rfl ?_
  refine zq_lpush (pc' := 11) rfl rfl rfl ?_
  refine hq_calli (pc' := 14) rfl rfl rfl rfl rfl rfl h_Xi ?_
  refine hmonoi H ?_
  intro x3 g1 e2 H
  refine zq_ifne (pc' := 17) rfl rfl rfl rfl (And.intro (fun c => ?_) (fun c => ?_))
  · have H := H.1 c
    refine zq_aload (pc' := 18) rfl rfl rfl rfl ?_
    refine zq_ipush (pc' := 19) rfl rfl rfl ?_
    refine hq_calli (pc' := 22) rfl rfl rfl rfl rfl rfl h_Xi ?_
    refine hmonoi H ?_
    intro x6 g4 e5 H
    exact zq_iret rfl trivial (Exists.intro _ (Exists.intro _ (And.intro rfl H)))
  · have H := H.2 c
    refine zq_iload (pc' := 24) rfl rfl rfl rfl ?_
    refine zq_i2l (pc' := 25) rfl rfl rfl ?_
    refine zq_lpush (pc' := 26) rfl rfl rfl ?_
    refine zq_lpush (pc' := 29) rfl rfl rfl ?_
    refine hq_calli (pc' := 32) rfl rfl rfl rfl rfl rfl h_Xi ?_
    refine hmonoi H ?_
    intro x9 g7 e8 H
    refine zq_ifne (pc' := 35) rfl rfl rfl rfl (And.intro (fun c => ?_) (fun c => ?_))
    · have H := H.1 c
      refine zq_aload (pc' := 36) rfl rfl rfl rfl ?_
      refine zq_ipush (pc' := 37) rfl rfl rfl ?_
      refine hq_calli (pc' := 40) rfl rfl rfl rfl rfl rfl h_Xi ?_
      refine hmonoi H ?_
      intro x12 g10 e11 H
      exact zq_iret rfl trivial (Exists.intro _ (Exists.intro _ (And.intro rfl H)))
    · have H := H.2 c
      refine zq_aload (pc' := 42) rfl rfl rfl rfl ?_
      refine zq_aload (pc' := 43) rfl rfl rfl rfl ?_
      refine zq_getR (pc' := 46) rfl rfl rfl (hp_gC rfl) ?_
      refine zq_ipush (pc' := 47) rfl rfl rfl ?_
      refine hq_callv (pc' := 50) rfl rfl rfl rfl rfl rfl h_Xi ?_
      refine hmonov H ?_
      intro g13 e14 H
      refine zq_aload (pc' := 51) rfl rfl rfl rfl ?_
      refine hq_callv (pc' := 54) rfl rfl rfl rfl rfl rfl h_Xi ?_
      refine hmonov H ?_
      intro g15 e16 H
      refine zq_aload (pc' := 55) rfl rfl rfl rfl ?_
      refine zq_iload (pc' := 56) rfl rfl rfl rfl ?_
      refine zq_put (pc' := 59) rfl rfl rfl trivial (hp_sI rfl) ?_
      refine zq_ipush (pc' := 60) rfl rfl rfl ?_
      refine zq_istore_c (pc' := 62) rfl rfl ?_
      exact H
theorem zh_X8_years_62 {d : Nat} {k : Int32 → hG → hE → Prop} {X : Nat → hG → hE → Prop} {l2 : Int32} {l3 : Int32} {l4 : Int32} {g : hG} {e : hE} (H :
    zbr (l2 ≤ l4)
    (hwi d zm_X8_years k X 89 [(0, .ref 1046), (3, .int l3), (4, .int 0), (5, .int 0)] g e)
    (hcv d 327 [.ref 1046] g e (fun g1 e2 =>
        hcv d 265 [.ref 1046, .int 1] g1 e2 (fun g3 e4 =>
          hwi d zm_X8_years k X 62 [(0, .ref 1046), (2, .int l2), (3, .int l3), (4, .int (l4 + 1))] g3 e4) X) X)) : hwi d zm_X8_years k X 62 [(0, .ref 1046), (2, .int l2), (3, .int l3), (4, .int l4)] g e := by
  refine zq_iload (pc' := 64) rfl rfl rfl rfl ?_
  refine zq_iload (pc' := 65) rfl rfl rfl rfl ?_
  refine zq_icge (pc' := 68) rfl rfl rfl rfl (And.intro (fun c => ?_) (fun c => ?_))
  · have H := H.1 c
    refine zq_ipush (pc' := 84) rfl rfl rfl ?_
    refine zq_istore (pc' := 86) rfl rfl rfl ?_
    refine zq_ipush (pc' := 87) rfl rfl rfl ?_
    refine zq_istore_c (pc' := 89) rfl rfl ?_
    exact H
  · have H := H.2 c
    refine zq_aload (pc' := 69) rfl rfl rfl rfl ?_
    refine hq_callv (pc' := 72) rfl rfl rfl rfl rfl rfl h_Xi ?_
    refine hmonov H ?_
    intro g1 e2 H
    refine zq_aload (pc' := 73) rfl rfl rfl rfl ?_
    refine zq_ipush (pc' := 74) rfl rfl rfl ?_
    refine hq_callv (pc' := 77) rfl rfl rfl rfl rfl rfl h_Xi ?_
    refine hmonov H ?_
    intro g3 e4 H
    refine zq_iinc (pc' := 80) rfl rfl rfl rfl ?_
    refine zq_goto_c (pc' := 62) rfl rfl ?_
    exact H
theorem zh_X8_years_89 {d : Nat} {k : Int32 → hG → hE → Prop} {X : Nat → hG → hE → Prop} {l3 : Int32} {l4 : Int32} {l5 : Int32} {g : hG} {e : hE} (H :
    zbr (4 ≤ l5)
    (zbr (l3 = 0)
      (hcv d 250 [.ref 1046, .ref 1070, .int 0] g e (fun g1 e2 =>
          k l4 g1 e2) X)
      (zbr (l3 = 1)
        (hci d 257 [.ref 1046] g e (fun x5 g3 e4 =>
            hcv d 250 [.ref 1046, .ref 1070, .int 0] g3 e4 (fun g6 e7 =>
              k x5 g6 e7) X) X)
        (hci d 256 [.ref 1046] g e (fun x10 g8 e9 =>
            hcv d 250 [.ref 1046, .ref 1070, .int 0] g8 e9 (fun g11 e12 =>
              k x10 g11 e12) X) X)))
    (hin l5 4 ∧
      hwi d zm_X8_years k X 89 [(0, .ref 1046), (3, .int l3), (4, .int (l4 + (g.1 1069 l5.toNatClampNeg))), (5, .int (l5 + 1))] g e)) : hwi d zm_X8_years k X 89 [(0, .ref 1046), (3, .int l3), (4, .int l4), (5, .int l5)] g e := by
  refine zq_iload (pc' := 91) rfl rfl rfl rfl ?_
  refine zq_ipush (pc' := 92) rfl rfl rfl ?_
  refine zq_icge (pc' := 95) rfl rfl rfl rfl (And.intro (fun c => ?_) (fun c => ?_))
  · have H := H.1 c
    refine zq_iload (pc' := 114) rfl rfl rfl rfl ?_
    refine zq_ifne (pc' := 117) rfl rfl rfl rfl (And.intro (fun c => ?_) (fun c => ?_))
    · have H := H.1 c
      refine zq_iload (pc' := 119) rfl rfl rfl rfl ?_
      refine zq_goto (pc' := 138) rfl rfl rfl ?_
      refine zq_istore (pc' := 140) rfl rfl rfl ?_
      refine zq_aload (pc' := 141) rfl rfl rfl rfl ?_
      refine zq_aload (pc' := 142) rfl rfl rfl rfl ?_
      refine zq_getR (pc' := 145) rfl rfl rfl (hp_gC rfl) ?_
      refine zq_ipush (pc' := 146) rfl rfl rfl ?_
      refine hq_callv (pc' := 149) rfl rfl rfl rfl rfl rfl h_Xi ?_
      refine hmonov H ?_
      intro g1 e2 H
      refine zq_iload (pc' := 151) rfl rfl rfl rfl ?_
      exact zq_iret rfl trivial (Exists.intro _ (Exists.intro _ (And.intro rfl H)))
    · have H := H.2 c
      refine zq_iload (pc' := 123) rfl rfl rfl rfl ?_
      refine zq_ipush (pc' := 124) rfl rfl rfl ?_
      refine zq_icne (pc' := 127) rfl rfl rfl rfl (And.intro (fun c => ?_) (fun c => ?_))
      · have H := H.1 c
        refine zq_aload (pc' := 128) rfl rfl rfl rfl ?_
        refine hq_calli (pc' := 131) rfl rfl rfl rfl rfl rfl h_Xi ?_
        refine hmonoi H ?_
        intro x5 g3 e4 H
        refine zq_goto (pc' := 138) rfl rfl rfl ?_
        refine zq_istore (pc' := 140) rfl rfl rfl ?_
        refine zq_aload (pc' := 141) rfl rfl rfl rfl ?_
        refine zq_aload (pc' := 142) rfl rfl rfl rfl ?_
        refine zq_getR (pc' := 145) rfl rfl rfl (hp_gC rfl) ?_
        refine zq_ipush (pc' := 146) rfl rfl rfl ?_
        refine hq_callv (pc' := 149) rfl rfl rfl rfl rfl rfl h_Xi ?_
        refine hmonov H ?_
        intro g6 e7 H
        refine zq_iload (pc' := 151) rfl rfl rfl rfl ?_
        exact zq_iret rfl trivial (Exists.intro _ (Exists.intro _ (And.intro rfl H)))
      · have H := H.2 c
        refine zq_aload (pc' := 135) rfl rfl rfl rfl ?_
        refine hq_calli (pc' := 138) rfl rfl rfl rfl rfl rfl h_Xi ?_
        refine hmonoi H ?_
        intro x10 g8 e9 H
        refine zq_istore (pc' := 140) rfl rfl rfl ?_
        refine zq_aload (pc' := 141) rfl rfl rfl rfl ?_
        refine zq_aload (pc' := 142) rfl rfl rfl rfl ?_
        refine zq_getR (pc' := 145) rfl rfl rfl (hp_gC rfl) ?_
        refine zq_ipush (pc' := 146) rfl rfl rfl ?_
        refine hq_callv (pc' := 149) rfl rfl rfl rfl rfl rfl h_Xi ?_
        refine hmonov H ?_
        intro g11 e12 H
        refine zq_iload (pc' := 151) rfl rfl rfl rfl ?_
        exact zq_iret rfl trivial (Exists.intro _ (Exists.intro _ (And.intro rfl H)))
  · have H := H.2 c
    refine zq_iload (pc' := 97) rfl rfl rfl rfl ?_
    refine zq_aload (pc' := 98) rfl rfl rfl rfl ?_
    refine zq_getR (pc' := 101) rfl rfl rfl (hp_gC rfl) ?_
    refine zq_iload (pc' := 103) rfl rfl rfl rfl ?_
    obtain ⟨hi13, H⟩ := H
    refine zq_iald (pc' := 104) rfl rfl rfl (hp_ia rfl hi13) ?_
    refine zq_iadd (pc' := 105) rfl rfl rfl ?_
    refine zq_istore (pc' := 107) rfl rfl rfl ?_
    refine zq_iinc (pc' := 110) rfl rfl rfl rfl ?_
    refine zq_goto_c (pc' := 89) rfl rfl ?_
    exact H
theorem zh_X8_copyTo {d : Nat} {k : hG → hE → Prop} {X : Nat → hG → hE → Prop} {p0 np0 : Nat} (hp0 : hT p0 = some (.inl (0, np0))) {p1 np1 : Nat} (hp1 : hT p1 = some (.inl (0, np1))) {g : hG} {e : hE} (H :
    hwv d zm_X8_copyTo k X 2 [(0, .ref p0), (1, .ref p1), (2, .int 0)] g e) : hcv (d + 1) 329 [.ref p0, .ref p1] g e k X := by
  refine hentS (M := zm_X8_copyTo) rfl rfl rfl rfl ?_
  refine zq_ipush (pc' := 1) rfl rfl rfl ?_
  refine zq_istore_c (pc' := 2) rfl rfl ?_
  exact H
theorem zh_X8_copyTo_2 {d : Nat} {k : hG → hE → Prop} {X : Nat → hG → hE → Prop} {l0 nl0 : Nat} (hl0 : hT l0 = some (.inl (0, nl0))) {l1 nl1 : Nat} (hl1 : hT l1 = some (.inl (0, nl1))) {l2 : Int32} {g : hG} {e : hE} (H :
    zbr ((nI nl0) ≤ l2)
    (k g e)
    (hin l2 nl1 ∧
      hin l2 nl0 ∧
      hwv d zm_X8_copyTo k X 2 [(0, .ref l0), (1, .ref l1), (2, .int (l2 + 1))] (sI g l0 l2.toNatClampNeg (g.1 l1 l2.toNatClampNeg)) e)) : hwv d zm_X8_copyTo k X 2 [(0, .ref l0), (1, .ref l1), (2, .int l2)] g e := by
  refine zq_iload (pc' := 3) rfl rfl rfl rfl ?_
  refine zq_aload (pc' := 4) rfl rfl rfl rfl ?_
  refine zq_alen (pc' := 5) rfl rfl rfl (hp_al hl0 rfl) ?_
  refine zq_icge (pc' := 8) rfl rfl rfl rfl (And.intro (fun c => ?_) (fun c => ?_))
  · have H := H.1 c
    exact zq_vret rfl (Exists.intro _ (Exists.intro _ (And.intro rfl H)))
  · have H := H.2 c
    refine zq_aload (pc' := 9) rfl rfl rfl rfl ?_
    refine zq_iload (pc' := 10) rfl rfl rfl rfl ?_
    refine zq_aload (pc' := 11) rfl rfl rfl rfl ?_
    refine zq_iload (pc' := 12) rfl rfl rfl rfl ?_
    obtain ⟨hi1, H⟩ := H
    refine zq_iald (pc' := 13) rfl rfl rfl (hp_ia hl1 hi1) ?_
    obtain ⟨hi2, H⟩ := H
    refine zq_iast (pc' := 14) rfl rfl rfl (hp_is hl0 hi2) ?_
    refine zq_iinc (pc' := 17) rfl rfl rfl rfl ?_
    refine zq_goto_c (pc' := 2) rfl rfl ?_
    exact H
theorem zh_X8_image {d : Nat} {k : hG → hE → Prop} {X : Nat → hG → hE → Prop}  {g : hG} {e : hE} (H :
    ∀ g1, g1 = sI (sI (sI (sI g 1046 4 0) 1046 52 1) 1046 53 ((sI (sI g 1046 4 0) 1046 52 1).1 1046 32)) 1046 54 ((sI (sI (sI g 1046 4 0) 1046 52 1) 1046 53 ((sI (sI g 1046 4 0) 1046 52 1).1 1046 32)).1 1046 33) →
    hcv d 249 [.ref 1046, .ref 1081, .int 0] g1 e (fun g2 e3 =>
      hcv d 329 [.ref 1082, .ref 1064] g2 e3 (fun g4 e5 =>
        hcv d 329 [.ref 1083, .ref 1073] g4 e5 (fun g6 e7 =>
          hcv d 329 [.ref 1084, .ref 1074] g6 e7 (fun g8 e9 =>
            hcv d 329 [.ref 1085, .ref 1075] g8 e9 (fun g10 e11 =>
              hcv d 329 [.ref 1086, .ref 1076] g10 e11 (fun g12 e13 =>
                hcv d 329 [.ref 1087, .ref 1058] g12 e13 (fun g14 e15 =>
                  k g14 e15) X) X) X) X) X) X) X) : hcv (d + 1) 330 [.ref 1046] g e k X := by
  refine hent (M := zm_X8_image) (show hT 1046 = some (.inr _) from rfl) rfl rfl rfl rfl rfl ?_
  refine zq_aload (pc' := 1) rfl rfl rfl rfl ?_
  refine zq_ipush (pc' := 2) rfl rfl rfl ?_
  refine zq_put (pc' := 5) rfl rfl rfl trivial (hp_sI rfl) ?_
  refine zq_aload (pc' := 6) rfl rfl rfl rfl ?_
  refine zq_ipush (pc' := 7) rfl rfl rfl ?_
  refine zq_put (pc' := 10) rfl rfl rfl (Or.inr rfl) (hp_sI rfl) ?_
  refine zq_aload (pc' := 11) rfl rfl rfl rfl ?_
  refine zq_aload (pc' := 12) rfl rfl rfl rfl ?_
  refine zq_getI (pc' := 15) rfl rfl rfl (hp_gI rfl) ?_
  refine zq_put (pc' := 18) rfl rfl rfl trivial (hp_sI rfl) ?_
  refine zq_aload (pc' := 19) rfl rfl rfl rfl ?_
  refine zq_aload (pc' := 20) rfl rfl rfl rfl ?_
  refine zq_getI (pc' := 23) rfl rfl rfl (hp_gI rfl) ?_
  refine zq_put (pc' := 26) rfl rfl rfl trivial (hp_sI rfl) ?_
  have H := H _ rfl
  refine zq_aload (pc' := 27) rfl rfl rfl rfl ?_
  refine zq_aload (pc' := 28) rfl rfl rfl rfl ?_
  refine zq_getR (pc' := 31) rfl rfl rfl (hp_gC rfl) ?_
  refine zq_ipush (pc' := 32) rfl rfl rfl ?_
  refine hq_callv (pc' := 35) rfl rfl rfl rfl rfl rfl h_Xv ?_
  refine hmonov H ?_
  intro g2 e3 H
  refine zq_aload (pc' := 36) rfl rfl rfl rfl ?_
  refine zq_getR (pc' := 39) rfl rfl rfl (hp_gC rfl) ?_
  refine zq_aload (pc' := 40) rfl rfl rfl rfl ?_
  refine zq_getR (pc' := 43) rfl rfl rfl (hp_gC rfl) ?_
  refine hq_callv (pc' := 46) rfl rfl rfl rfl rfl rfl h_Xv ?_
  refine hmonov H ?_
  intro g4 e5 H
  refine zq_aload (pc' := 47) rfl rfl rfl rfl ?_
  refine zq_getR (pc' := 50) rfl rfl rfl (hp_gC rfl) ?_
  refine zq_aload (pc' := 51) rfl rfl rfl rfl ?_
  refine zq_getR (pc' := 54) rfl rfl rfl (hp_gC rfl) ?_
  refine hq_callv (pc' := 57) rfl rfl rfl rfl rfl rfl h_Xv ?_
  refine hmonov H ?_
  intro g6 e7 H
  refine zq_aload (pc' := 58) rfl rfl rfl rfl ?_
  refine zq_getR (pc' := 61) rfl rfl rfl (hp_gC rfl) ?_
  refine zq_aload (pc' := 62) rfl rfl rfl rfl ?_
  refine zq_getR (pc' := 65) rfl rfl rfl (hp_gC rfl) ?_
  refine hq_callv (pc' := 68) rfl rfl rfl rfl rfl rfl h_Xv ?_
  refine hmonov H ?_
  intro g8 e9 H
  refine zq_aload (pc' := 69) rfl rfl rfl rfl ?_
  refine zq_getR (pc' := 72) rfl rfl rfl (hp_gC rfl) ?_
  refine zq_aload (pc' := 73) rfl rfl rfl rfl ?_
  refine zq_getR (pc' := 76) rfl rfl rfl (hp_gC rfl) ?_
  refine hq_callv (pc' := 79) rfl rfl rfl rfl rfl rfl h_Xv ?_
  refine hmonov H ?_
  intro g10 e11 H
  refine zq_aload (pc' := 80) rfl rfl rfl rfl ?_
  refine zq_getR (pc' := 83) rfl rfl rfl (hp_gC rfl) ?_
  refine zq_aload (pc' := 84) rfl rfl rfl rfl ?_
  refine zq_getR (pc' := 87) rfl rfl rfl (hp_gC rfl) ?_
  refine hq_callv (pc' := 90) rfl rfl rfl rfl rfl rfl h_Xv ?_
  refine hmonov H ?_
  intro g12 e13 H
  refine zq_aload (pc' := 91) rfl rfl rfl rfl ?_
  refine zq_getR (pc' := 94) rfl rfl rfl (hp_gC rfl) ?_
  refine zq_aload (pc' := 95) rfl rfl rfl rfl ?_
  refine zq_getR (pc' := 98) rfl rfl rfl (hp_gC rfl) ?_
  refine hq_callv (pc' := 101) rfl rfl rfl rfl rfl rfl h_Xv ?_
  refine hmonov H ?_
  intro g14 e15 H
  exact zq_vret rfl (Exists.intro _ (Exists.intro _ (And.intro rfl H)))
theorem zh_X8_restore {d : Nat} {k : Int32 → hG → hE → Prop} {X : Nat → hG → hE → Prop}  {g : hG} {e : hE} (H :
    zbr (((sI g 1046 4 0).1 1046 52) = 0)
    (k 0 (sI g 1046 4 0) e)
    (∀ g1, g1 = sI (sI (sI g 1046 4 0) 1046 32 ((sI g 1046 4 0).1 1046 53)) 1046 33 ((sI (sI g 1046 4 0) 1046 32 ((sI g 1046 4 0).1 1046 53)).1 1046 54) →
      hcv d 250 [.ref 1046, .ref 1081, .int 0] g1 e (fun g2 e3 =>
        hcv d 329 [.ref 1064, .ref 1082] g2 e3 (fun g4 e5 =>
          hcv d 329 [.ref 1073, .ref 1083] g4 e5 (fun g6 e7 =>
            hcv d 329 [.ref 1074, .ref 1084] g6 e7 (fun g8 e9 =>
              hcv d 329 [.ref 1075, .ref 1085] g8 e9 (fun g10 e11 =>
                hcv d 329 [.ref 1076, .ref 1086] g10 e11 (fun g12 e13 =>
                  hcv d 329 [.ref 1058, .ref 1087] g12 e13 (fun g14 e15 =>
                    k 1 g14 e15) X) X) X) X) X) X) X)) : hci (d + 1) 331 [.ref 1046] g e k X := by
  refine hent (M := zm_X8_restore) (show hT 1046 = some (.inr _) from rfl) rfl rfl rfl rfl rfl ?_
  refine zq_aload (pc' := 1) rfl rfl rfl rfl ?_
  refine zq_ipush (pc' := 2) rfl rfl rfl ?_
  refine zq_put (pc' := 5) rfl rfl rfl trivial (hp_sI rfl) ?_
  refine zq_aload (pc' := 6) rfl rfl rfl rfl ?_
  refine zq_getI (pc' := 9) rfl rfl rfl (hp_gI rfl) ?_
  refine zq_ifne (pc' := 12) rfl rfl rfl rfl (And.intro (fun c => ?_) (fun c => ?_))
  · have H := H.1 c
    refine zq_ipush (pc' := 13) rfl rfl rfl ?_
    exact zq_iret rfl (Or.inl rfl) (Exists.intro _ (Exists.intro _ (And.intro rfl H)))
  · have H := H.2 c
    refine zq_aload (pc' := 15) rfl rfl rfl rfl ?_
    refine zq_aload (pc' := 16) rfl rfl rfl rfl ?_
    refine zq_getI (pc' := 19) rfl rfl rfl (hp_gI rfl) ?_
    refine zq_put (pc' := 22) rfl rfl rfl trivial (hp_sI rfl) ?_
    refine zq_aload (pc' := 23) rfl rfl rfl rfl ?_
    refine zq_aload (pc' := 24) rfl rfl rfl rfl ?_
    refine zq_getI (pc' := 27) rfl rfl rfl (hp_gI rfl) ?_
    refine zq_put (pc' := 30) rfl rfl rfl trivial (hp_sI rfl) ?_
    have H := H _ rfl
    refine zq_aload (pc' := 31) rfl rfl rfl rfl ?_
    refine zq_aload (pc' := 32) rfl rfl rfl rfl ?_
    refine zq_getR (pc' := 35) rfl rfl rfl (hp_gC rfl) ?_
    refine zq_ipush (pc' := 36) rfl rfl rfl ?_
    refine hq_callv (pc' := 39) rfl rfl rfl rfl rfl rfl h_Xi ?_
    refine hmonov H ?_
    intro g2 e3 H
    refine zq_aload (pc' := 40) rfl rfl rfl rfl ?_
    refine zq_getR (pc' := 43) rfl rfl rfl (hp_gC rfl) ?_
    refine zq_aload (pc' := 44) rfl rfl rfl rfl ?_
    refine zq_getR (pc' := 47) rfl rfl rfl (hp_gC rfl) ?_
    refine hq_callv (pc' := 50) rfl rfl rfl rfl rfl rfl h_Xi ?_
    refine hmonov H ?_
    intro g4 e5 H
    refine zq_aload (pc' := 51) rfl rfl rfl rfl ?_
    refine zq_getR (pc' := 54) rfl rfl rfl (hp_gC rfl) ?_
    refine zq_aload (pc' := 55) rfl rfl rfl rfl ?_
    refine zq_getR (pc' := 58) rfl rfl rfl (hp_gC rfl) ?_
    refine hq_callv (pc' := 61) rfl rfl rfl rfl rfl rfl h_Xi ?_
    refine hmonov H ?_
    intro g6 e7 H
    refine zq_aload (pc' := 62) rfl rfl rfl rfl ?_
    refine zq_getR (pc' := 65) rfl rfl rfl (hp_gC rfl) ?_
    refine zq_aload (pc' := 66) rfl rfl rfl rfl ?_
    refine zq_getR (pc' := 69) rfl rfl rfl (hp_gC rfl) ?_
    refine hq_callv (pc' := 72) rfl rfl rfl rfl rfl rfl h_Xi ?_
    refine hmonov H ?_
    intro g8 e9 H
    refine zq_aload (pc' := 73) rfl rfl rfl rfl ?_
    refine zq_getR (pc' := 76) rfl rfl rfl (hp_gC rfl) ?_
    refine zq_aload (pc' := 77) rfl rfl rfl rfl ?_
    refine zq_getR (pc' := 80) rfl rfl rfl (hp_gC rfl) ?_
    refine hq_callv (pc' := 83) rfl rfl rfl rfl rfl rfl h_Xi ?_
    refine hmonov H ?_
    intro g10 e11 H
    refine zq_aload (pc' := 84) rfl rfl rfl rfl ?_
    refine zq_getR (pc' := 87) rfl rfl rfl (hp_gC rfl) ?_
    refine zq_aload (pc' := 88) rfl rfl rfl rfl ?_
    refine zq_getR (pc' := 91) rfl rfl rfl (hp_gC rfl) ?_
    refine hq_callv (pc' := 94) rfl rfl rfl rfl rfl rfl h_Xi ?_
    refine hmonov H ?_
    intro g12 e13 H
    refine zq_aload (pc' := 95) rfl rfl rfl rfl ?_
    refine zq_getR (pc' := 98) rfl rfl rfl (hp_gC rfl) ?_
    refine zq_aload (pc' := 99) rfl rfl rfl rfl ?_
    refine zq_getR (pc' := 102) rfl rfl rfl (hp_gC rfl) ?_
    refine hq_callv (pc' := 105) rfl rfl rfl rfl rfl rfl h_Xi ?_
    refine hmonov H ?_
    intro g14 e15 H
    refine zq_ipush (pc' := 106) rfl rfl rfl ?_
    exact zq_iret rfl (Or.inr rfl) (Exists.intro _ (Exists.intro _ (And.intro rfl H)))
