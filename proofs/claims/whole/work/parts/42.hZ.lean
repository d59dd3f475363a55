theorem zh_X1_take {d : Nat} {k : hG → hE → Prop} {X : Nat → hG → hE → Prop} {p1 : Int32} {g : hG} {e : hE} (H :
    k (sI g 1045 0 p1) e) : hcv (d + 1) 34 [.ref 1045, .int p1] g e k X := by
  refine hent (M := zm_X1_take) (show hT 1045 = some (.inr _) from rfl) rfl rfl rfl rfl rfl ?_
  refine zq_aload (pc' := 1) rfl rfl rfl rfl ?_
  refine zq_iload (pc' := 2) rfl rfl rfl rfl ?_
  refine zq_put (pc' := 5) rfl rfl rfl trivial (hp_sI rfl) ?_
  exact zq_vret rfl (Exists.intro _ (Exists.intro _ (And.intro rfl H)))
theorem zh_X1_draw {d : Nat} {k : Int32 → hG → hE → Prop} {X : Nat → hG → hE → Prop} {p1 : Int32} {g : hG} {e : hE} (H :
    zbr (p1 ≤ 0)
    (k 0 (sI g 1045 0 (((g.1 1045 0) * 1103515245) + 12345)) e)
    (¬ p1 = 0 ∧ k ((((((sI g 1045 0 (((g.1 1045 0) * 1103515245) + 12345)).1 1045 0 : Int32).toUInt32 >>> ((16 : Int32).toUInt32 &&& Int32.toUInt32 31)).toInt32) &&& 32767) - (((((sI g 1045 0 (((g.1 1045 0) * 1103515245) + 12345)).1 1045 0 : Int32).toUInt32 >>> ((16 : Int32).toUInt32 &&& Int32.toUInt32 31)).toInt32) &&& 32767) / p1 * p1) (sI g 1045 0 (((g.1 1045 0) * 1103515245) + 12345)) e)) : hci (d + 1) 35 [.ref 1045, .int p1] g e k X := by
  refine hent (M := zm_X1_draw) (show hT 1045 = some (.inr _) from rfl) rfl rfl rfl rfl rfl ?_
  refine zq_aload (pc' := 1) rfl rfl rfl rfl ?_
  refine zq_aload (pc' := 2) rfl rfl rfl rfl ?_
  refine zq_getI (pc' := 5) rfl rfl rfl (hp_gI rfl) ?_
  refine zq_ipush (pc' := 7) rfl rfl rfl ?_
  refine zq_imul (pc' := 8) rfl rfl rfl ?_
  refine zq_ipush (pc' := 11) rfl rfl rfl ?_
  refine zq_iadd (pc' := 12) rfl rfl rfl ?_
  refine zq_put (pc' := 15) rfl rfl rfl trivial (hp_sI rfl) ?_
  refine zq_iload (pc' := 16) rfl rfl rfl rfl ?_
  refine zq_ifle (pc' := 19) rfl rfl rfl rfl (And.intro (fun c => ?_) (fun c => ?_))
  · have H := H.1 c
    refine zq_ipush (pc' := 36) rfl rfl rfl ?_
    exact zq_iret rfl trivial (Exists.intro _ (Exists.intro _ (And.intro rfl H)))
  · have H := H.2 c
    refine zq_aload (pc' := 20) rfl rfl rfl rfl ?_
    refine zq_getI (pc' := 23) rfl rfl rfl (hp_gI rfl) ?_
    refine zq_ipush (pc' := 25) rfl rfl rfl ?_
    refine zq_iushr (pc' := 26) rfl rfl rfl ?_
    refine zq_ipush (pc' := 29) rfl rfl rfl ?_
    refine zq_iand (pc' := 30) rfl rfl rfl ?_
    refine zq_iload (pc' := 31) rfl rfl rfl rfl ?_
    obtain ⟨e0, H⟩ := H
    refine zq_irem (pc' := 32) rfl rfl rfl e0 ?_
    refine zq_goto (pc' := 36) rfl rfl rfl ?_
    exact zq_iret rfl trivial (Exists.intro _ (Exists.intro _ (And.intro rfl H)))
theorem zh_X4_untell {d : Nat} {k : hG → hE → Prop} {X : Nat → hG → hE → Prop} {p0 : Nat} (hp0 : hU p0) {g : hG} {e : hE} (H :
    k (sI (sI g p0 2 0) p0 3 0) e) : hcv (d + 1) 92 [.ref p0] g e k X := by
  obtain ⟨fs0, hT0⟩ := hUo hp0
  refine hent (M := zm_X4_untell) hT0 rfl rfl rfl rfl rfl ?_
  refine zq_aload (pc' := 1) rfl rfl rfl rfl ?_
  refine zq_ipush (pc' := 2) rfl rfl rfl ?_
  refine zq_put (pc' := 5) rfl rfl rfl (Or.inl rfl) (hp_sI (hkU2 hp0)) ?_
  refine zq_aload (pc' := 6) rfl rfl rfl rfl ?_
  refine zq_ipush (pc' := 7) rfl rfl rfl ?_
  refine zq_put (pc' := 10) rfl rfl rfl (Or.inl rfl) (hp_sI (hkU3 hp0)) ?_
  exact zq_vret rfl (Exists.intro _ (Exists.intro _ (And.intro rfl H)))
theorem zh_X4_isTold {d : Nat} {k : Int32 → hG → hE → Prop} {X : Nat → hG → hE → Prop} {p0 : Nat} (hp0 : hU p0) {g : hG} {e : hE} (H :
    ((g.1 p0 2) = 0 ∨ (g.1 p0 2) = 1) ∧ k (g.1 p0 2) g e) : hci (d + 1) 93 [.ref p0] g e k X := by
  obtain ⟨fs0, hT0⟩ := hUo hp0
  refine hent (M := zm_X4_isTold) hT0 rfl rfl rfl rfl rfl ?_
  refine zq_aload (pc' := 1) rfl rfl rfl rfl ?_
  refine zq_getI (pc' := 4) rfl rfl rfl (hp_gI (hkU2 hp0)) ?_
  exact zq_iret rfl H.1 (Exists.intro _ (Exists.intro _ (And.intro rfl H.2)))
theorem zh_X4_tell {d : Nat} {k : hG → hE → Prop} {X : Nat → hG → hE → Prop} {p0 : Nat} (hp0 : hU p0) {p1 : Nat} (hp1 : hT p1 = some (.inl (0, 700))) {p2 : Int32} {p3 : Int32} {g : hG} {e : hE} (H :
    hci d 2 [.int 0, .int ((sI (sI (sI g p0 0 p2) p0 1 p3) p0 2 1).1 p0 0)] (sI (sI (sI g p0 0 p2) p0 1 p3) p0 2 1) e (fun x3 g1 e2 =>
      hwv d zm_X4_tell k X 25 [(0, .ref p0), (1, .ref p1), (4, .int x3)] g1 e2) X) : hcv (d + 1) 94 [.ref p0, .ref p1, .int p2, .int p3] g e k X := by
  obtain ⟨fs0, hT0⟩ := hUo hp0
  refine hent (M := zm_X4_tell) hT0 rfl rfl rfl rfl rfl ?_
  refine zq_aload (pc' := 1) rfl rfl rfl rfl ?_
  refine zq_iload (pc' := 2) rfl rfl rfl rfl ?_
  refine zq_put (pc' := 5) rfl rfl rfl trivial (hp_sI (hkU0 hp0)) ?_
  refine zq_aload (pc' := 6) rfl rfl rfl rfl ?_
  refine zq_iload (pc' := 7) rfl rfl rfl rfl ?_
  refine zq_put (pc' := 10) rfl rfl rfl trivial (hp_sI (hkU1 hp0)) ?_
  refine zq_aload (pc' := 11) rfl rfl rfl rfl ?_
  refine zq_ipush (pc' := 12) rfl rfl rfl ?_
  refine zq_put (pc' := 15) rfl rfl rfl (Or.inr rfl) (hp_sI (hkU2 hp0)) ?_
  refine zq_ipush (pc' := 16) rfl rfl rfl ?_
  refine zq_aload (pc' := 17) rfl rfl rfl rfl ?_
  refine zq_getI (pc' := 20) rfl rfl rfl (hp_gI (hkU0 hp0)) ?_
  refine hq_calli (pc' := 23) rfl rfl rfl rfl rfl rfl h_Xv ?_
  refine hmonoi H ?_
  intro x3 g1 e2 H
  refine zq_istore_c (pc' := 25) rfl rfl ?_
  exact H
theorem zh_X4_tell_25 {d : Nat} {k : hG → hE → Prop} {X : Nat → hG → hE → Prop} {l0 : Nat} (hl0 : hU l0) {l1 : Nat} (hl1 : hT l1 = some (.inl (0, 700))) {l4 : Int32} {g : hG} {e : hE} (H :
    zbr ((g.1 l0 1) ≤ l4)
    (k g e)
    (zbr ((nI 700) ≤ l4)
      (k g e)
      (zbr ((g.1 l0 3) = 0)
        (hin l4 700 ∧
          zbr ((g.1 l1 l4.toNatClampNeg) = (-4))
          (hwv d zm_X4_tell k X 25 [(0, .ref l0), (1, .ref l1), (4, .int (l4 + 1))] (sI g l0 3 1) e)
          (hwv d zm_X4_tell k X 25 [(0, .ref l0), (1, .ref l1), (4, .int (l4 + 1))] (sI g l0 3 0) e))
        (hwv d zm_X4_tell k X 25 [(0, .ref l0), (1, .ref l1), (4, .int (l4 + 1))] (sI g l0 3 1) e)))) : hwv d zm_X4_tell k X 25 [(0, .ref l0), (1, .ref l1), (4, .int l4)] g e := by
  refine zq_iload (pc' := 27) rfl rfl rfl rfl ?_
  refine zq_aload (pc' := 28) rfl rfl rfl rfl ?_
  refine zq_getI (pc' := 31) rfl rfl rfl (hp_gI (hkU1 hl0)) ?_
  refine zq_icge (pc' := 34) rfl rfl rfl rfl (And.intro (fun c => ?_) (fun c => ?_))
  · have H := H.1 c
    exact zq_vret rfl (Exists.intro _ (Exists.intro _ (And.intro rfl H)))
  · have H := H.2 c
    refine zq_iload (pc' := 36) rfl rfl rfl rfl ?_
    refine zq_aload (pc' := 37) rfl rfl rfl rfl ?_
    refine zq_alen (pc' := 38) rfl rfl rfl (hp_al hl1 rfl) ?_
    refine zq_icge (pc' := 41) rfl rfl rfl rfl (And.intro (fun c => ?_) (fun c => ?_))
    · have H := H.1 c
      exact zq_vret rfl (Exists.intro _ (Exists.intro _ (And.intro rfl H)))
    · have H := H.2 c
      refine zq_aload (pc' := 42) rfl rfl rfl rfl ?_
      refine zq_aload (pc' := 43) rfl rfl rfl rfl ?_
      refine zq_getI (pc' := 46) rfl rfl rfl (hp_gI (hkU3 hl0)) ?_
      refine zq_ifne (pc' := 49) rfl rfl rfl rfl (And.intro (fun c => ?_) (fun c => ?_))
      · have H := H.1 c
        refine zq_aload (pc' := 50) rfl rfl rfl rfl ?_
        refine zq_iload (pc' := 52) rfl rfl rfl rfl ?_
        obtain ⟨hi1, H⟩ := H
        refine zq_iald (pc' := 53) rfl rfl rfl (hp_ia hl1 hi1) ?_
        refine zq_ipushn (pc' := 55) rfl rfl rfl ?_
        refine zq_icne (pc' := 58) rfl rfl rfl rfl (And.intro (fun c => ?_) (fun c => ?_))
        · have H := H.1 c
          refine zq_ipush (pc' := 59) rfl rfl rfl ?_
          refine zq_goto (pc' := 63) rfl rfl rfl ?_
          refine zq_put (pc' := 66) rfl rfl rfl (Or.inr rfl) (hp_sI (hkU3 hl0)) ?_
          refine zq_iinc (pc' := 69) rfl rfl rfl rfl ?_
          refine zq_goto_c (pc' := 25) rfl rfl ?_
          exact H
        · have H := H.2 c
          refine zq_ipush (pc' := 63) rfl rfl rfl ?_
          refine zq_put (pc' := 66) rfl rfl rfl (Or.inl rfl) (hp_sI (hkU3 hl0)) ?_
          refine zq_iinc (pc' := 69) rfl rfl rfl rfl ?_
          refine zq_goto_c (pc' := 25) rfl rfl ?_
          exact H
      · have H := H.2 c
        refine zq_ipush (pc' := 59) rfl rfl rfl ?_
        refine zq_goto (pc' := 63) rfl rfl rfl ?_
        refine zq_put (pc' := 66) rfl rfl rfl (Or.inr rfl) (hp_sI (hkU3 hl0)) ?_
        refine zq_iinc (pc' := 69) rfl rfl rfl rfl ?_
        refine zq_goto_c (pc' := 25) rfl rfl ?_
        exact H
theorem zh_X4_asksForDay {d : Nat} {k : Int32 → hG → hE → Prop} {X : Nat → hG → hE → Prop} {p0 : Nat} (hp0 : hU p0) {g : hG} {e : hE} (H :
    ((g.1 p0 3) = 0 ∨ (g.1 p0 3) = 1) ∧ k (g.1 p0 3) g e) : hci (d + 1) 95 [.ref p0] g e k X := by
  obtain ⟨fs0, hT0⟩ := hUo hp0
  refine hent (M := zm_X4_asksForDay) hT0 rfl rfl rfl rfl rfl ?_
  refine zq_aload (pc' := 1) rfl rfl rfl rfl ?_
  refine zq_getI (pc' := 4) rfl rfl rfl (hp_gI (hkU3 hp0)) ?_
  exact zq_iret rfl H.1 (Exists.intro _ (Exists.intro _ (And.intro rfl H.2)))
theorem zh_X4_value {d : Nat} {k : Int32 → hG → hE → Prop} {X : Nat → hG → hE → Prop} {p0 : Nat} (hp0 : hU p0) {p1 : Nat} (hp1 : hT p1 = some (.inl (0, 700))) {p2 : Int32} {p3 : Int32} {p4 : Int32} {p5 : Int32} {p6 : Int32} {g : hG} {e : hE} (H :
    hci d 2 [.int 0, .int (g.1 p0 0)] g e (fun x3 g1 e2 =>
      hwi d zm_X4_value k X 13 [(0, .ref p0), (1, .ref p1), (2, .int p2), (3, .int p3), (4, .int p4), (5, .int p5), (6, .int p6), (7, .int 0), (8, .int x3)] g1 e2) X) : hci (d + 1) 96 [.ref p0, .ref p1, .int p2, .int p3, .int p4, .int p5, .int p6] g e k X := by
  obtain ⟨fs0, hT0⟩ := hUo hp0
  refine hent (M := zm_X4_value) hT0 rfl rfl rfl rfl rfl ?_
  refine zq_ipush (pc' := 1) rfl rfl rfl ?_
  refine zq_istore (pc' := 3) rfl rfl rfl ?_
  refine zq_ipush (pc' := 4) rfl rfl rfl ?_
  refine zq_aload (pc' := 5) rfl rfl rfl rfl ?_
  refine zq_getI (pc' := 8) rfl rfl rfl (hp_gI (hkU0 hp0)) ?_
  refine hq_calli (pc' := 11) rfl rfl rfl rfl rfl rfl h_Xi ?_
  refine hmonoi H ?_
  intro x3 g1 e2 H
  refine zq_istore_c (pc' := 13) rfl rfl ?_
  exact H
theorem zh_X4_value_13 {d : Nat} {k : Int32 → hG → hE → Prop} {X : Nat → hG → hE → Prop} {l0 : Nat} (hl0 : hU l0) {l1 : Nat} (hl1 : hT l1 = some (.inl (0, 700))) {l2 : Int32} {l3 : Int32} {l4 : Int32} {l5 : Int32} {l6 : Int32} {l7 : Int32} {l8 : Int32} {g : hG} {e : hE} (H :
    zbr ((g.1 l0 1) ≤ l8)
    (k (g.1 (l0 + 1) 0) g e)
    (zbr ((nI 700) ≤ l8)
      (k (g.1 (l0 + 1) 0) g e)
      (hin l8 700 ∧
        zbr ((g.1 l1 l8.toNatClampNeg) ≤ (-6))
        (zbr ((g.1 l1 l8.toNatClampNeg) = (-6))
          (zbr (l7 < 1)
            (hwi d zm_X4_value k X 13 [(0, .ref l0), (1, .ref l1), (2, .int l2), (3, .int l3), (4, .int l4), (5, .int l5), (6, .int l6), (7, .int l7), (8, .int (l8 + 1))] g e)
            (hin (l7 - 1) 40 ∧
              zbr ((g.1 (l0 + 1) (l7 - 1).toNatClampNeg) = 0)
              (hin (l7 - 1) 40 ∧
                hwi d zm_X4_value k X 13 [(0, .ref l0), (1, .ref l1), (2, .int l2), (3, .int l3), (4, .int l4), (5, .int l5), (6, .int l6), (7, .int l7), (8, .int (l8 + 1))] (sI g (l0 + 1) (l7 - 1).toNatClampNeg 1) e)
              (hin (l7 - 1) 40 ∧
                hwi d zm_X4_value k X 13 [(0, .ref l0), (1, .ref l1), (2, .int l2), (3, .int l3), (4, .int l4), (5, .int l5), (6, .int l6), (7, .int l7), (8, .int (l8 + 1))] (sI g (l0 + 1) (l7 - 1).toNatClampNeg 0) e)))
          (zbr (l7 < 2)
            (hwi d zm_X4_value k X 13 [(0, .ref l0), (1, .ref l1), (2, .int l2), (3, .int l3), (4, .int l4), (5, .int l5), (6, .int l6), (7, .int l7), (8, .int (l8 + 1))] g e)
            (hin ((l7 + (-1)) - 1) 40 ∧
              hin (l7 + (-1)) 40 ∧
              hci d 97 [.int (g.1 l1 l8.toNatClampNeg), .int (g.1 (l0 + 1) ((l7 + (-1)) - 1).toNatClampNeg), .int (g.1 (l0 + 1) (l7 + (-1)).toNatClampNeg)] g e (fun x11 g9 e10 =>
                hin ((l7 + (-1)) - 1) 40 ∧
                hwi d zm_X4_value k X 13 [(0, .ref l0), (1, .ref l1), (2, .int l2), (3, .int l3), (4, .int l4), (5, .int l5), (6, .int l6), (7, .int (l7 + (-1))), (8, .int (l8 + 1))] (sI g9 (l0 + 1) ((l7 + (-1)) - 1).toNatClampNeg x11) e10) X)))
        (zbr (l7 < (nI 40))
          (zbr ((g.1 l1 l8.toNatClampNeg) = -nI 5)
            (hin l7 40 ∧
              hwi d zm_X4_value k X 13 [(0, .ref l0), (1, .ref l1), (2, .int l2), (3, .int l3), (4, .int l4), (5, .int l5), (6, .int l6), (7, .int (l7 + 1)), (8, .int (l8 + 1))] (sI g (l0 + 1) l7.toNatClampNeg l6) e)
            (zbr ((g.1 l1 l8.toNatClampNeg) = -nI 4)
            (hin l7 40 ∧
              hwi d zm_X4_value k X 13 [(0, .ref l0), (1, .ref l1), (2, .int l2), (3, .int l3), (4, .int l4), (5, .int l5), (6, .int l6), (7, .int (l7 + 1)), (8, .int (l8 + 1))] (sI g (l0 + 1) l7.toNatClampNeg l5) e)
            (zbr ((g.1 l1 l8.toNatClampNeg) = -nI 3)
            (hin l7 40 ∧
              hwi d zm_X4_value k X 13 [(0, .ref l0), (1, .ref l1), (2, .int l2), (3, .int l3), (4, .int l4), (5, .int l5), (6, .int l6), (7, .int (l7 + 1)), (8, .int (l8 + 1))] (sI g (l0 + 1) l7.toNatClampNeg l4) e)
            (zbr ((g.1 l1 l8.toNatClampNeg) = -nI 2)
            (hin l7 40 ∧
              hwi d zm_X4_value k X 13 [(0, .ref l0), (1, .ref l1), (2, .int l2), (3, .int l3), (4, .int l4), (5, .int l5), (6, .int l6), (7, .int (l7 + 1)), (8, .int (l8 + 1))] (sI g (l0 + 1) l7.toNatClampNeg l3) e)
            (zbr ((g.1 l1 l8.toNatClampNeg) = -nI 1)
            (hin l7 40 ∧
              hwi d zm_X4_value k X 13 [(0, .ref l0), (1, .ref l1), (2, .int l2), (3, .int l3), (4, .int l4), (5, .int l5), (6, .int l6), (7, .int (l7 + 1)), (8, .int (l8 + 1))] (sI g (l0 + 1) l7.toNatClampNeg l2) e)
            (hin l7 40 ∧
              hwi d zm_X4_value k X 13 [(0, .ref l0), (1, .ref l1), (2, .int l2), (3, .int l3), (4, .int l4), (5, .int l5), (6, .int l6), (7, .int (l7 + 1)), (8, .int (l8 + 1))] (sI g (l0 + 1) l7.toNatClampNeg (g.1 l1 l8.toNatClampNeg)) e))))))
          (k 0 g e))))) : hwi d zm_X4_value k X 13 [(0, .ref l0), (1, .ref l1), (2, .int l2), (3, .int l3), (4, .int l4), (5, .int l5), (6, .int l6), (7, .int l7), (8, .int l8)] g e := by
  refine zq_iload (pc' := 15) rfl rfl rfl rfl ?_
  refine zq_aload (pc' := 16) rfl rfl rfl rfl ?_
  refine zq_getI (pc' := 19) rfl rfl rfl (hp_gI (hkU1 hl0)) ?_
  refine zq_icge (pc' := 22) rfl rfl rfl rfl (And.intro (fun c => ?_) (fun c => ?_))
  · have H := H.1 c
    refine zq_aload (pc' := 253) rfl rfl rfl rfl ?_
    refine zq_getR (pc' := 256) rfl rfl rfl (hp_gC (hkU4 hl0)) ?_
    refine zq_ipush (pc' := 257) rfl rfl rfl ?_
    refine zq_iald (pc' := 258) rfl rfl rfl (hp_ia (hTU1 hl0) (by unfold hin; decide)) ?_
    exact zq_iret rfl trivial (Exists.intro _ (Exists.intro _ (And.intro rfl H)))
  · have H := H.2 c
    refine zq_iload (pc' := 24) rfl rfl rfl rfl ?_
    refine zq_aload (pc' := 25) rfl rfl rfl rfl ?_
    refine zq_alen (pc' := 26) rfl rfl rfl (hp_al hl1 rfl) ?_
    refine zq_icge (pc' := 29) rfl rfl rfl rfl (And.intro (fun c => ?_) (fun c => ?_))
    · have H := H.1 c
      refine zq_aload (pc' := 253) rfl rfl rfl rfl ?_
      refine zq_getR (pc' := 256) rfl rfl rfl (hp_gC (hkU4 hl0)) ?_
      refine zq_ipush (pc' := 257) rfl rfl rfl ?_
      refine zq_iald (pc' := 258) rfl rfl rfl (hp_ia (hTU1 hl0) (by unfold hin; decide)) ?_
      exact zq_iret rfl trivial (Exists.intro _ (Exists.intro _ (And.intro rfl H)))
    · have H := H.2 c
      refine zq_aload (pc' := 30) rfl rfl rfl rfl ?_
      refine zq_iload (pc' := 32) rfl rfl rfl rfl ?_
      obtain ⟨hi3, H⟩ := H
      refine zq_iald (pc' := 33) rfl rfl rfl (hp_ia hl1 hi3) ?_
      refine zq_istore (pc' := 35) rfl rfl rfl ?_
      refine zq_iload (pc' := 37) rfl rfl rfl rfl ?_
      refine zq_ipushn (pc' := 39) rfl rfl rfl ?_
      refine zq_icle (pc' := 42) rfl rfl rfl rfl (And.intro (fun c => ?_) (fun c => ?_))
      · have H := H.1 c
        refine zq_iload (pc' := 167) rfl rfl rfl rfl ?_
        refine zq_ipushn (pc' := 169) rfl rfl rfl ?_
        refine zq_icne (pc' := 172) rfl rfl rfl rfl (And.intro (fun c => ?_) (fun c => ?_))
        · have H := H.1 c
          refine zq_iload (pc' := 174) rfl rfl rfl rfl ?_
          refine zq_ipush (pc' := 175) rfl rfl rfl ?_
          refine zq_iclt (pc' := 178) rfl rfl rfl rfl (And.intro (fun c => ?_) (fun c => ?_))
          · have H := H.1 c
            refine zq_iinc (pc' := 249) rfl rfl rfl rfl ?_
            refine zq_goto_c (pc' := 13) rfl rfl ?_
            exact H
          · have H := H.2 c
            refine zq_aload (pc' := 179) rfl rfl rfl rfl ?_
            refine zq_getR (pc' := 182) rfl rfl rfl (hp_gC (hkU4 hl0)) ?_
            refine zq_iload (pc' := 184) rfl rfl rfl rfl ?_
            refine zq_ipush (pc' := 185) rfl rfl rfl ?_
            refine zq_isub (pc' := 186) rfl rfl rfl ?_
            refine zq_aload (pc' := 187) rfl rfl rfl rfl ?_
            refine zq_getR (pc' := 190) rfl rfl rfl (hp_gC (hkU4 hl0)) ?_
            refine zq_iload (pc' := 192) rfl rfl rfl rfl ?_
            refine zq_ipush (pc' := 193) rfl rfl rfl ?_
            refine zq_isub (pc' := 194) rfl rfl rfl ?_
            obtain ⟨hi4, H⟩ := H
            refine zq_iald (pc' := 195) rfl rfl rfl (hp_ia (hTU1 hl0) hi4) ?_
            refine zq_ifne (pc' := 198) rfl rfl rfl rfl (And.intro (fun c => ?_) (fun c => ?_))
            · have H := H.1 c
              refine zq_ipush (pc' := 199) rfl rfl rfl ?_
              refine zq_goto (pc' := 203) rfl rfl rfl ?_
              obtain ⟨hi5, H⟩ := H
              refine zq_iast (pc' := 204) rfl rfl rfl (hp_is (hTU1 hl0) hi5) ?_
              refine zq_goto (pc' := 246) rfl rfl rfl ?_
              refine zq_iinc (pc' := 249) rfl rfl rfl rfl ?_
              refine zq_goto_c (pc' := 13) rfl rfl ?_
              exact H
            · have H := H.2 c
              refine zq_ipush (pc' := 203) rfl rfl rfl ?_
              obtain ⟨hi6, H⟩ := H
              refine zq_iast (pc' := 204) rfl rfl rfl (hp_is (hTU1 hl0) hi6) ?_
              refine zq_goto (pc' := 246) rfl rfl rfl ?_
              refine zq_iinc (pc' := 249) rfl rfl rfl rfl ?_
              refine zq_goto_c (pc' := 13) rfl rfl ?_
              exact H
        · have H := H.2 c
          refine zq_iload (pc' := 209) rfl rfl rfl rfl ?_
          refine zq_ipush (pc' := 210) rfl rfl rfl ?_
          refine zq_iclt (pc' := 213) rfl rfl rfl rfl (And.intro (fun c => ?_) (fun c => ?_))
          · have H := H.1 c
            refine zq_iinc (pc' := 249) rfl rfl rfl rfl ?_
            refine zq_goto_c (pc' := 13) rfl rfl ?_
            exact H
          · have H := H.2 c
            refine zq_iincn (pc' := 216) rfl rfl rfl rfl ?_
            refine zq_aload (pc' := 217) rfl rfl rfl rfl ?_
            refine zq_getR (pc' := 220) rfl rfl rfl (hp_gC (hkU4 hl0)) ?_
            refine zq_iload (pc' := 222) rfl rfl rfl rfl ?_
            refine zq_ipush (pc' := 223) rfl rfl rfl ?_
            refine zq_isub (pc' := 224) rfl rfl rfl ?_
            refine zq_iload (pc' := 226) rfl rfl rfl rfl ?_
            refine zq_aload (pc' := 227) rfl rfl rfl rfl ?_
            refine zq_getR (pc' := 230) rfl rfl rfl (hp_gC (hkU4 hl0)) ?_
            refine zq_iload (pc' := 232) rfl rfl rfl rfl ?_
            refine zq_ipush (pc' := 233) rfl rfl rfl ?_
            refine zq_isub (pc' := 234) rfl rfl rfl ?_
            obtain ⟨hi7, H⟩ := H
            refine zq_iald (pc' := 235) rfl rfl rfl (hp_ia (hTU1 hl0) hi7) ?_
            refine zq_aload (pc' := 236) rfl rfl rfl rfl ?_
            refine zq_getR (pc' := 239) rfl rfl rfl (hp_gC (hkU4 hl0)) ?_
            refine zq_iload (pc' := 241) rfl rfl rfl rfl ?_
            obtain ⟨hi8, H⟩ := H
            refine zq_iald (pc' := 242) rfl rfl rfl (hp_ia (hTU1 hl0) hi8) ?_
            refine hq_calli (pc' := 245) rfl rfl rfl rfl rfl rfl h_Xi ?_
            refine hmonoi H ?_
            intro x11 g9 e10 H
            obtain ⟨hi12, H⟩ := H
            refine zq_iast (pc' := 246) rfl rfl rfl (hp_is (hTU1 hl0) hi12) ?_
            refine zq_iinc (pc' := 249) rfl rfl rfl rfl ?_
            refine zq_goto_c (pc' := 13) rfl rfl ?_
            exact H
      · have H := H.2 c
        refine zq_iload (pc' := 44) rfl rfl rfl rfl ?_
        refine zq_aload (pc' := 45) rfl rfl rfl rfl ?_
        refine zq_getR (pc' := 48) rfl rfl rfl (hp_gC (hkU4 hl0)) ?_
        refine zq_alen (pc' := 49) rfl rfl rfl (hp_al (hTU1 hl0) rfl) ?_
        refine zq_iclt (pc' := 52) rfl rfl rfl rfl (And.intro (fun c => ?_) (fun c => ?_))
        · have H := H.1 c
          refine zq_iload (pc' := 56) rfl rfl rfl rfl ?_
          refine zq_switchn rfl ?_
          refine And.intro (fun c => ?_) (fun c => ?_)
          · have H := H.1 c
            show zW (zE d) zm_X4_value (hqi k X) (138, [(9, .int (g.1 l1 l8.toNatClampNeg)), (0, .ref l0), (1, .ref l1), (2, .int l2), (3, .int l3), (4, .int l4), (5, .int l5), (6, .int l6), (7, .int l7), (8, .int l8)], [], hp g e)
            refine zq_aload (pc' := 139) rfl rfl rfl rfl ?_
            refine zq_getR (pc' := 142) rfl rfl rfl (hp_gC (hkU4 hl0)) ?_
            refine zq_iload (pc' := 144) rfl rfl rfl rfl ?_
            refine zq_iload (pc' := 146) rfl rfl rfl rfl ?_
            obtain ⟨hi13, H⟩ := H
            refine zq_iast (pc' := 147) rfl rfl rfl (hp_is (hTU1 hl0) hi13) ?_
            refine zq_goto (pc' := 159) rfl rfl rfl ?_
            refine zq_iinc (pc' := 162) rfl rfl rfl rfl ?_
            refine zq_goto (pc' := 246) rfl rfl rfl ?_
            refine zq_iinc (pc' := 249) rfl rfl rfl rfl ?_
            refine zq_goto_c (pc' := 13) rfl rfl ?_
            exact H
          · have H := H.2 c
            refine And.intro (fun c => ?_) (fun c => ?_)
            · have H := H.1 c
              show zW (zE d) zm_X4_value (hqi k X) (126, [(9, .int (g.1 l1 l8.toNatClampNeg)), (0, .ref l0), (1, .ref l1), (2, .int l2), (3, .int l3), (4, .int l4), (5, .int l5), (6, .int l6), (7, .int l7), (8, .int l8)], [], hp g e)
              refine zq_aload (pc' := 127) rfl rfl rfl rfl ?_
              refine zq_getR (pc' := 130) rfl rfl rfl (hp_gC (hkU4 hl0)) ?_
              refine zq_iload (pc' := 132) rfl rfl rfl rfl ?_
              refine zq_iload (pc' := 134) rfl rfl rfl rfl ?_
              obtain ⟨hi14, H⟩ := H
              refine zq_iast (pc' := 135) rfl rfl rfl (hp_is (hTU1 hl0) hi14) ?_
              refine zq_goto (pc' := 159) rfl rfl rfl ?_
              refine zq_iinc (pc' := 162) rfl rfl rfl rfl ?_
              refine zq_goto (pc' := 246) rfl rfl rfl ?_
              refine zq_iinc (pc' := 249) rfl rfl rfl rfl ?_
              refine zq_goto_c (pc' := 13) rfl rfl ?_
              exact H
            · have H := H.2 c
              refine And.intro (fun c => ?_) (fun c => ?_)
              · have H := H.1 c
                show zW (zE d) zm_X4_value (hqi k X) (114, [(9, .int (g.1 l1 l8.toNatClampNeg)), (0, .ref l0), (1, .ref l1), (2, .int l2), (3, .int l3), (4, .int l4), (5, .int l5), (6, .int l6), (7, .int l7), (8, .int l8)], [], hp g e)
                refine zq_aload (pc' := 115) rfl rfl rfl rfl ?_
                refine zq_getR (pc' := 118) rfl rfl rfl (hp_gC (hkU4 hl0)) ?_
                refine zq_iload (pc' := 120) rfl rfl rfl rfl ?_
                refine zq_iload (pc' := 122) rfl rfl rfl rfl ?_
                obtain ⟨hi15, H⟩ := H
                refine zq_iast (pc' := 123) rfl rfl rfl (hp_is (hTU1 hl0) hi15) ?_
                refine zq_goto (pc' := 159) rfl rfl rfl ?_
                refine zq_iinc (pc' := 162) rfl rfl rfl rfl ?_
                refine zq_goto (pc' := 246) rfl rfl rfl ?_
                refine zq_iinc (pc' := 249) rfl rfl rfl rfl ?_
                refine zq_goto_c (pc' := 13) rfl rfl ?_
                exact H
              · have H := H.2 c
                refine And.intro (fun c => ?_) (fun c => ?_)
                · have H := H.1 c
                  show zW (zE d) zm_X4_value (hqi k X) (103, [(9, .int (g.1 l1 l8.toNatClampNeg)), (0, .ref l0), (1, .ref l1), (2, .int l2), (3, .int l3), (4, .int l4), (5, .int l5), (6, .int l6), (7, .int l7), (8, .int l8)], [], hp g e)
                  refine zq_aload (pc' := 104) rfl rfl rfl rfl ?_
                  refine zq_getR (pc' := 107) rfl rfl rfl (hp_gC (hkU4 hl0)) ?_
                  refine zq_iload (pc' := 109) rfl rfl rfl rfl ?_
                  refine zq_iload (pc' := 110) rfl rfl rfl rfl ?_
                  obtain ⟨hi16, H⟩ := H
                  refine zq_iast (pc' := 111) rfl rfl rfl (hp_is (hTU1 hl0) hi16) ?_
                  refine zq_goto (pc' := 159) rfl rfl rfl ?_
                  refine zq_iinc (pc' := 162) rfl rfl rfl rfl ?_
                  refine zq_goto (pc' := 246) rfl rfl rfl ?_
                  refine zq_iinc (pc' := 249) rfl rfl rfl rfl ?_
                  refine zq_goto_c (pc' := 13) rfl rfl ?_
                  exact H
                · have H := H.2 c
                  refine And.intro (fun c => ?_) (fun c => ?_)
                  · have H := H.1 c
                    show zW (zE d) zm_X4_value (hqi k X) (92, [(9, .int (g.1 l1 l8.toNatClampNeg)), (0, .ref l0), (1, .ref l1), (2, .int l2), (3, .int l3), (4, .int l4), (5, .int l5), (6, .int l6), (7, .int l7), (8, .int l8)], [], hp g e)
                    refine zq_aload (pc' := 93) rfl rfl rfl rfl ?_
                    refine zq_getR (pc' := 96) rfl rfl rfl (hp_gC (hkU4 hl0)) ?_
                    refine zq_iload (pc' := 98) rfl rfl rfl rfl ?_
                    refine zq_iload (pc' := 99) rfl rfl rfl rfl ?_
                    obtain ⟨hi17, H⟩ := H
                    refine zq_iast (pc' := 100) rfl rfl rfl (hp_is (hTU1 hl0) hi17) ?_
                    refine zq_goto (pc' := 159) rfl rfl rfl ?_
                    refine zq_iinc (pc' := 162) rfl rfl rfl rfl ?_
                    refine zq_goto (pc' := 246) rfl rfl rfl ?_
                    refine zq_iinc (pc' := 249) rfl rfl rfl rfl ?_
                    refine zq_goto_c (pc' := 13) rfl rfl ?_
                    exact H
                  · have H := H.2 c
                    show zW (zE d) zm_X4_value (hqi k X) (150, [(9, .int (g.1 l1 l8.toNatClampNeg)), (0, .ref l0), (1, .ref l1), (2, .int l2), (3, .int l3), (4, .int l4), (5, .int l5), (6, .int l6), (7, .int l7), (8, .int l8)], [], hp g e)
                    refine zq_aload (pc' := 151) rfl rfl rfl rfl ?_
                    refine zq_getR (pc' := 154) rfl rfl rfl (hp_gC (hkU4 hl0)) ?_
                    refine zq_iload (pc' := 156) rfl rfl rfl rfl ?_
                    refine zq_iload (pc' := 158) rfl rfl rfl rfl ?_
                    obtain ⟨hi18, H⟩ := H
                    refine zq_iast (pc' := 159) rfl rfl rfl (hp_is (hTU1 hl0) hi18) ?_
                    refine zq_iinc (pc' := 162) rfl rfl rfl rfl ?_
                    refine zq_goto (pc' := 246) rfl rfl rfl ?_
                    refine zq_iinc (pc' := 249) rfl rfl rfl rfl ?_
                    refine zq_goto_c (pc' := 13) rfl rfl ?_
                    exact H
        · have H := H.2 c
          refine zq_ipush (pc' := 53) rfl rfl rfl ?_
          exact zq_iret rfl trivial (Exists.intro _ (Exists.intro _ (And.intro rfl H)))
theorem zh_X4_joined {d : Nat} {k : Int32 → hG → hE → Prop} {X : Nat → hG → hE → Prop} {p0 : Int32} {p1 : Int32} {p2 : Int32} {g : hG} {e : hE} (H :
    zbr (p0 = -nI 13)
    (k (p1 * p2) g e)
    (zbr (p0 = -nI 12)
    (k (p1 - p2) g e)
    (zbr (p0 = -nI 11)
    (k (p1 + p2) g e)
    (zbr (p0 = -nI 10)
    (zbr (p1 = p2)
      (k 1 g e)
      (k 0 g e))
    (zbr (p0 = -nI 9)
    (zbr (p2 ≤ p1)
      (k 0 g e)
      (k 1 g e))
    (zbr (p0 = -nI 8)
    (zbr (p1 = 0)
      (k 0 g e)
      (zbr (p2 = 0)
        (k 0 g e)
        (k 1 g e)))
    (zbr (p0 = -nI 7)
    (zbr (p1 = 0)
      (zbr (p2 = 0)
        (k 0 g e)
        (k 1 g e))
      (k 1 g e))
    (zbr (p2 = 0)
      (k 0 g e)
      (¬ p2 = 0 ∧ k (p1 / p2) g e))))))))) : hci (d + 1) 97 [.int p0, .int p1, .int p2] g e k X := by
  refine hentS (M := zm_X4_joined) rfl rfl rfl rfl ?_
  refine zq_iload (pc' := 1) rfl rfl rfl rfl ?_
  refine zq_switchn rfl ?_
  refine And.intro (fun c => ?_) (fun c => ?_)
  · have H := H.1 c
    show zW (zE d) zm_X4_joined (hqi k X) (102, [(0, .int p0), (1, .int p1), (2, .int p2)], [], hp g e)
    refine zq_iload (pc' := 103) rfl rfl rfl rfl ?_
    refine zq_iload (pc' := 104) rfl rfl rfl rfl ?_
    refine zq_imul (pc' := 105) rfl rfl rfl ?_
    exact zq_iret rfl trivial (Exists.intro _ (Exists.intro _ (And.intro rfl H)))
  · have H := H.2 c
    refine And.intro (fun c => ?_) (fun c => ?_)
    · have H := H.1 c
      show zW (zE d) zm_X4_joined (hqi k X) (98, [(0, .int p0), (1, .int p1), (2, .int p2)], [], hp g e)
      refine zq_iload (pc' := 99) rfl rfl rfl rfl ?_
      refine zq_iload (pc' := 100) rfl rfl rfl rfl ?_
      refine zq_isub (pc' := 101) rfl rfl rfl ?_
      exact zq_iret rfl trivial (Exists.intro _ (Exists.intro _ (And.intro rfl H)))
    · have H := H.2 c
      refine And.intro (fun c => ?_) (fun c => ?_)
      · have H := H.1 c
        show zW (zE d) zm_X4_joined (hqi k X) (94, [(0, .int p0), (1, .int p1), (2, .int p2)], [], hp g e)
        refine zq_iload (pc' := 95) rfl rfl rfl rfl ?_
        refine zq_iload (pc' := 96) rfl rfl rfl rfl ?_
        refine zq_iadd (pc' := 97) rfl rfl rfl ?_
        exact zq_iret rfl trivial (Exists.intro _ (Exists.intro _ (And.intro rfl H)))
      · have H := H.2 c
        refine And.intro (fun c => ?_) (fun c => ?_)
        · have H := H.1 c
          show zW (zE d) zm_X4_joined (hqi k X) (83, [(0, .int p0), (1, .int p1), (2, .int p2)], [], hp g e)
          refine zq_iload (pc' := 84) rfl rfl rfl rfl ?_
          refine zq_iload (pc' := 85) rfl rfl rfl rfl ?_
          refine zq_icne (pc' := 88) rfl rfl rfl rfl (And.intro (fun c => ?_) (fun c => ?_))
          · have H := H.1 c
            refine zq_ipush (pc' := 89) rfl rfl rfl ?_
            refine zq_goto (pc' := 93) rfl rfl rfl ?_
            exact zq_iret rfl trivial (Exists.intro _ (Exists.intro _ (And.intro rfl H)))
          · have H := H.2 c
            refine zq_ipush (pc' := 93) rfl rfl rfl ?_
            exact zq_iret rfl trivial (Exists.intro _ (Exists.intro _ (And.intro rfl H)))
        · have H := H.2 c
          refine And.intro (fun c => ?_) (fun c => ?_)
          · have H := H.1 c
            show zW (zE d) zm_X4_joined (hqi k X) (72, [(0, .int p0), (1, .int p1), (2, .int p2)], [], hp g e)
            refine zq_iload (pc' := 73) rfl rfl rfl rfl ?_
            refine zq_iload (pc' := 74) rfl rfl rfl rfl ?_
            refine zq_icge (pc' := 77) rfl rfl rfl rfl (And.intro (fun c => ?_) (fun c => ?_))
            · have H := H.1 c
              refine zq_ipush (pc' := 82) rfl rfl rfl ?_
              exact zq_iret rfl trivial (Exists.intro _ (Exists.intro _ (And.intro rfl H)))
            · have H := H.2 c
              refine zq_ipush (pc' := 78) rfl rfl rfl ?_
              refine zq_goto (pc' := 82) rfl rfl rfl ?_
              exact zq_iret rfl trivial (Exists.intro _ (Exists.intro _ (And.intro rfl H)))
          · have H := H.2 c
            refine And.intro (fun c => ?_) (fun c => ?_)
            · have H := H.1 c
              show zW (zE d) zm_X4_joined (hqi k X) (58, [(0, .int p0), (1, .int p1), (2, .int p2)], [], hp g e)
              refine zq_iload (pc' := 59) rfl rfl rfl rfl ?_
              refine zq_ifeq (pc' := 62) rfl rfl rfl rfl (And.intro (fun c => ?_) (fun c => ?_))
              · have H := H.1 c
                refine zq_ipush (pc' := 71) rfl rfl rfl ?_
                exact zq_iret rfl trivial (Exists.intro _ (Exists.intro _ (And.intro rfl H)))
              · have H := H.2 c
                refine zq_iload (pc' := 63) rfl rfl rfl rfl ?_
                refine zq_ifeq (pc' := 66) rfl rfl rfl rfl (And.intro (fun c => ?_) (fun c => ?_))
                · have H := H.1 c
                  refine zq_ipush (pc' := 71) rfl rfl rfl ?_
                  exact zq_iret rfl trivial (Exists.intro _ (Exists.intro _ (And.intro rfl H)))
                · have H := H.2 c
                  refine zq_ipush (pc' := 67) rfl rfl rfl ?_
                  refine zq_goto (pc' := 71) rfl rfl rfl ?_
                  exact zq_iret rfl trivial (Exists.intro _ (Exists.intro _ (And.intro rfl H)))
            · have H := H.2 c
              refine And.intro (fun c => ?_) (fun c => ?_)
              · have H := H.1 c
                show zW (zE d) zm_X4_joined (hqi k X) (44, [(0, .int p0), (1, .int p1), (2, .int p2)], [], hp g e)
                refine zq_iload (pc' := 45) rfl rfl rfl rfl ?_
                refine zq_ifne (pc' := 48) rfl rfl rfl rfl (And.intro (fun c => ?_) (fun c => ?_))
                · have H := H.1 c
                  refine zq_iload (pc' := 49) rfl rfl rfl rfl ?_
                  refine zq_ifeq (pc' := 52) rfl rfl rfl rfl (And.intro (fun c => ?_) (fun c => ?_))
                  · have H := H.1 c
                    refine zq_ipush (pc' := 57) rfl rfl rfl ?_
                    exact zq_iret rfl trivial (Exists.intro _ (Exists.intro _ (And.intro rfl H)))
                  · have H := H.2 c
                    refine zq_ipush (pc' := 53) rfl rfl rfl ?_
                    refine zq_goto (pc' := 57) rfl rfl rfl ?_
                    exact zq_iret rfl trivial (Exists.intro _ (Exists.intro _ (And.intro rfl H)))
                · have H := H.2 c
                  refine zq_ipush (pc' := 53) rfl rfl rfl ?_
                  refine zq_goto (pc' := 57) rfl rfl rfl ?_
                  exact zq_iret rfl trivial (Exists.intro _ (Exists.intro _ (And.intro rfl H)))
              · have H := H.2 c
                show zW (zE d) zm_X4_joined (hqi k X) (106, [(0, .int p0), (1, .int p1), (2, .int p2)], [], hp g e)
                refine zq_iload (pc' := 107) rfl rfl rfl rfl ?_
                refine zq_ifne (pc' := 110) rfl rfl rfl rfl (And.intro (fun c => ?_) (fun c => ?_))
                · have H := H.1 c
                  refine zq_ipush (pc' := 111) rfl rfl rfl ?_
                  refine zq_goto (pc' := 117) rfl rfl rfl ?_
                  exact zq_iret rfl trivial (Exists.intro _ (Exists.intro _ (And.intro rfl H)))
                · have H := H.2 c
                  refine zq_iload (pc' := 115) rfl rfl rfl rfl ?_
                  refine zq_iload (pc' := 116) rfl rfl rfl rfl ?_
                  obtain ⟨e0, H⟩ := H
                  refine zq_idiv (pc' := 117) rfl rfl rfl e0 ?_
                  exact zq_iret rfl trivial (Exists.intro _ (Exists.intro _ (And.intro rfl H)))
theorem zh_X6_makeEmpty {d : Nat} {k : hG → hE → Prop} {X : Nat → hG → hE → Prop} {p0 : Nat} (hp0 : hT p0 = some hZ) {p1 : Int32} {g : hG} {e : hE} (H :
    (p1 = 0 ∨ p1 = 1) ∧
    k (sI (sI (sJ (sJ (sI (sI (sI g p0 6 0) p0 0 0) p0 1 p1) p0 2 0) p0 3 0) p0 4 0) p0 5 0) e) : hcv (d + 1) 107 [.ref p0, .int p1] g e k X := by
  refine hent (M := zm_X6_makeEmpty) hp0 rfl rfl rfl rfl rfl ?_
  refine zq_aload (pc' := 1) rfl rfl rfl rfl ?_
  refine zq_ipush (pc' := 2) rfl rfl rfl ?_
  refine zq_put (pc' := 5) rfl rfl rfl trivial (hp_sI (hk_of hp0 rfl)) ?_
  refine zq_aload (pc' := 6) rfl rfl rfl rfl ?_
  refine zq_ipush (pc' := 7) rfl rfl rfl ?_
  refine zq_put (pc' := 10) rfl rfl rfl trivial (hp_sI (hk_of hp0 rfl)) ?_
  refine zq_aload (pc' := 11) rfl rfl rfl rfl ?_
  refine zq_iload (pc' := 12) rfl rfl rfl rfl ?_
  obtain ⟨e1, H⟩ := H
  refine zq_put (pc' := 15) rfl rfl rfl e1 (hp_sI (hk_of hp0 rfl)) ?_
  refine zq_aload (pc' := 16) rfl rfl rfl rfl ?_
  refine zq_lpush (pc' := 17) rfl rfl rfl ?_
  refine zq_put (pc' := 20) rfl rfl rfl trivial (hp_sJ (hk_of hp0 rfl)) ?_
  refine zq_aload (pc' := 21) rfl rfl rfl rfl ?_
  refine zq_lpush (pc' := 22) rfl rfl rfl ?_
  refine zq_put (pc' := 25) rfl rfl rfl trivial (hp_sJ (hk_of hp0 rfl)) ?_
  refine zq_aload (pc' := 26) rfl rfl rfl rfl ?_
  refine zq_ipush (pc' := 27) rfl rfl rfl ?_
  refine zq_put (pc' := 30) rfl rfl rfl trivial (hp_sI (hk_of hp0 rfl)) ?_
  refine zq_aload (pc' := 31) rfl rfl rfl rfl ?_
  refine zq_ipush (pc' := 32) rfl rfl rfl ?_
  refine zq_put (pc' := 35) rfl rfl rfl trivial (hp_sI (hk_of hp0 rfl)) ?_
  exact zq_vret rfl (Exists.intro _ (Exists.intro _ (And.intro rfl H)))
theorem zh_X6_makeSize {d : Nat} {k : hG → hE → Prop} {X : Nat → hG → hE → Prop} {p0 : Nat} (hp0 : hT p0 = some hZ) {p1 : Int32} {g : hG} {e : hE} (H :
    k (sI g p0 0 p1) e) : hcv (d + 1) 108 [.ref p0, .int p1] g e k X := by
  refine hent (M := zm_X6_makeSize) hp0 rfl rfl rfl rfl rfl ?_
  refine zq_aload (pc' := 1) rfl rfl rfl rfl ?_
  refine zq_iload (pc' := 2) rfl rfl rfl rfl ?_
  refine zq_put (pc' := 5) rfl rfl rfl trivial (hp_sI (hk_of hp0 rfl)) ?_
  exact zq_vret rfl (Exists.intro _ (Exists.intro _ (And.intro rfl H)))
theorem zh_X6_copyOf {d : Nat} {k : hG → hE → Prop} {X : Nat → hG → hE → Prop} {p0 : Nat} (hp0 : hT p0 = some hZ) {p1 : Nat} (hp1 : hT p1 = some hZ) {g : hG} {e : hE} (H :
    (((sI g p0 0 (g.1 p1 0)).1 p1 1) = 0 ∨ ((sI g p0 0 (g.1 p1 0)).1 p1 1) = 1) ∧
    ∀ g1, g1 = sJ (sI (sI g p0 0 (g.1 p1 0)) p0 1 ((sI g p0 0 (g.1 p1 0)).1 p1 1)) p0 2 ((sI (sI g p0 0 (g.1 p1 0)) p0 1 ((sI g p0 0 (g.1 p1 0)).1 p1 1)).2.1 p1 2) →
    ∀ g2, g2 = sI (sI (sJ g1 p0 3 (g1.2.1 p1 3)) p0 4 ((sJ g1 p0 3 (g1.2.1 p1 3)).1 p1 4)) p0 5 ((sI (sJ g1 p0 3 (g1.2.1 p1 3)) p0 4 ((sJ g1 p0 3 (g1.2.1 p1 3)).1 p1 4)).1 p1 5) →
    k (sI g2 p0 6 (g2.1 p1 6)) e) : hcv (d + 1) 109 [.ref p0, .ref p1] g e k X := by
  refine hent (M := zm_X6_copyOf) hp0 rfl rfl rfl rfl rfl ?_
  refine zq_aload (pc' := 1) rfl rfl rfl rfl ?_
  refine zq_aload (pc' := 2) rfl rfl rfl rfl ?_
  refine zq_getI (pc' := 5) rfl rfl rfl (hp_gI (hk_of hp1 rfl)) ?_
  refine zq_put (pc' := 8) rfl rfl rfl trivial (hp_sI (hk_of hp0 rfl)) ?_
  refine zq_aload (pc' := 9) rfl rfl rfl rfl ?_
  refine zq_aload (pc' := 10) rfl rfl rfl rfl ?_
  refine zq_getI (pc' := 13) rfl rfl rfl (hp_gI (hk_of hp1 rfl)) ?_
  obtain ⟨e1, H⟩ := H
  refine zq_put (pc' := 16) rfl rfl rfl e1 (hp_sI (hk_of hp0 rfl)) ?_
  refine zq_aload (pc' := 17) rfl rfl rfl rfl ?_
  refine zq_aload (pc' := 18) rfl rfl rfl rfl ?_
  refine zq_getJ (pc' := 21) rfl rfl rfl (hp_gJ (hk_of hp1 rfl)) ?_
  refine zq_put (pc' := 24) rfl rfl rfl trivial (hp_sJ (hk_of hp0 rfl)) ?_
  have H := H _ rfl
  refine zq_aload (pc' := 25) rfl rfl rfl rfl ?_
  refine zq_aload (pc' := 26) rfl rfl rfl rfl ?_
  refine zq_getJ (pc' := 29) rfl rfl rfl (hp_gJ (hk_of hp1 rfl)) ?_
  refine zq_put (pc' := 32) rfl rfl rfl trivial (hp_sJ (hk_of hp0 rfl)) ?_
  refine zq_aload (pc' := 33) rfl rfl rfl rfl ?_
  refine zq_aload (pc' := 34) rfl rfl rfl rfl ?_
  refine zq_getI (pc' := 37) rfl rfl rfl (hp_gI (hk_of hp1 rfl)) ?_
  refine zq_put (pc' := 40) rfl rfl rfl trivial (hp_sI (hk_of hp0 rfl)) ?_
  refine zq_aload (pc' := 41) rfl rfl rfl rfl ?_
  refine zq_aload (pc' := 42) rfl rfl rfl rfl ?_
  refine zq_getI (pc' := 45) rfl rfl rfl (hp_gI (hk_of hp1 rfl)) ?_
  refine zq_put (pc' := 48) rfl rfl rfl trivial (hp_sI (hk_of hp0 rfl)) ?_
  have H := H _ rfl
  refine zq_aload (pc' := 49) rfl rfl rfl rfl ?_
  refine zq_aload (pc' := 50) rfl rfl rfl rfl ?_
  refine zq_getI (pc' := 53) rfl rfl rfl (hp_gI (hk_of hp1 rfl)) ?_
  refine zq_put (pc' := 56) rfl rfl rfl trivial (hp_sI (hk_of hp0 rfl)) ?_
  exact zq_vret rfl (Exists.intro _ (Exists.intro _ (And.intro rfl H)))
theorem zh_X6_isHarmless {d : Nat} {k : Int32 → hG → hE → Prop} {X : Nat → hG → hE → Prop} {p0 : Nat} (hp0 : hT p0 = some hZ) {p1 : Int32} {g : hG} {e : hE} (H :
    zbr (32 ≤ p1)
    (k 0 g e)
    (zbr ((((g.1 p0 6) >>> (p1 &&& 31)) &&& 1) = 0)
      (k 0 g e)
      (k 1 g e))) : hci (d + 1) 110 [.ref p0, .int p1] g e k X := by
  refine hent (M := zm_X6_isHarmless) hp0 rfl rfl rfl rfl rfl ?_
  refine zq_iload (pc' := 1) rfl rfl rfl rfl ?_
  refine zq_ipush (pc' := 3) rfl rfl rfl ?_
  refine zq_icge (pc' := 6) rfl rfl rfl rfl (And.intro (fun c => ?_) (fun c => ?_))
  · have H := H.1 c
    refine zq_ipush (pc' := 22) rfl rfl rfl ?_
    exact zq_iret rfl (Or.inl rfl) (Exists.intro _ (Exists.intro _ (And.intro rfl H)))
  · have H := H.2 c
    refine zq_aload (pc' := 7) rfl rfl rfl rfl ?_
    refine zq_getI (pc' := 10) rfl rfl rfl (hp_gI (hk_of hp0 rfl)) ?_
    refine zq_iload (pc' := 11) rfl rfl rfl rfl ?_
    refine zq_ishr (pc' := 12) rfl rfl rfl ?_
    refine zq_ipush (pc' := 13) rfl rfl rfl ?_
    refine zq_iand (pc' := 14) rfl rfl rfl ?_
    refine zq_ifeq (pc' := 17) rfl rfl rfl rfl (And.intro (fun c => ?_) (fun c => ?_))
    · have H := H.1 c
      refine zq_ipush (pc' := 22) rfl rfl rfl ?_
      exact zq_iret rfl (Or.inl rfl) (Exists.intro _ (Exists.intro _ (And.intro rfl H)))
    · have H := H.2 c
      refine zq_ipush (pc' := 18) rfl rfl rfl ?_
      refine zq_goto (pc' := 22) rfl rfl rfl ?_
      exact zq_iret rfl (Or.inr rfl) (Exists.intro _ (Exists.intro _ (And.intro rfl H)))
theorem zh_X6_findHarmless {d : Nat} {k : hG → hE → Prop} {X : Nat → hG → hE → Prop} {p0 : Nat} (hp0 : hT p0 = some hZ) {p1 : Int32} {g : hG} {e : hE} (H :
    zbr (32 ≤ p1)
    (k g e)
    (k (sI g p0 6 ((g.1 p0 6) ||| (1 <<< (p1 &&& 31)))) e)) : hcv (d + 1) 111 [.ref p0, .int p1] g e k X := by
  refine hent (M := zm_X6_findHarmless) hp0 rfl rfl rfl rfl rfl ?_
  refine zq_iload (pc' := 1) rfl rfl rfl rfl ?_
  refine zq_ipush (pc' := 3) rfl rfl rfl ?_
  refine zq_icge (pc' := 6) rfl rfl rfl rfl (And.intro (fun c => ?_) (fun c => ?_))
  · have H := H.1 c
    exact zq_vret rfl (Exists.intro _ (Exists.intro _ (And.intro rfl H)))
  · have H := H.2 c
    refine zq_aload (pc' := 7) rfl rfl rfl rfl ?_
    refine zq_dup (pc' := 8) rfl rfl rfl rfl ?_
    refine zq_getI (pc' := 11) rfl rfl rfl (hp_gI (hk_of hp0 rfl)) ?_
    refine zq_ipush (pc' := 12) rfl rfl rfl ?_
    refine zq_iload (pc' := 13) rfl rfl rfl rfl ?_
    refine zq_ishl (pc' := 14) rfl rfl rfl ?_
    refine zq_ior (pc' := 15) rfl rfl rfl ?_
    refine zq_put (pc' := 18) rfl rfl rfl trivial (hp_sI (hk_of hp0 rfl)) ?_
    exact zq_vret rfl (Exists.intro _ (Exists.intro _ (And.intro rfl H)))
theorem zh_X6_size {d : Nat} {k : Int32 → hG → hE → Prop} {X : Nat → hG → hE → Prop} {p0 : Nat} (hp0 : hT p0 = some hZ) {g : hG} {e : hE} (H :
    k (g.1 p0 0) g e) : hci (d + 1) 112 [.ref p0] g e k X := by
  refine hent (M := zm_X6_size) hp0 rfl rfl rfl rfl rfl ?_
  refine zq_aload (pc' := 1) rfl rfl rfl rfl ?_
  refine zq_getI (pc' := 4) rfl rfl rfl (hp_gI (hk_of hp0 rfl)) ?_
  exact zq_iret rfl trivial (Exists.intro _ (Exists.intro _ (And.intro rfl H)))
theorem zh_X6_isCoil {d : Nat} {k : Int32 → hG → hE → Prop} {X : Nat → hG → hE → Prop} {p0 : Nat} (hp0 : hT p0 = some hZ) {g : hG} {e : hE} (H :
    ((g.1 p0 1) = 0 ∨ (g.1 p0 1) = 1) ∧ k (g.1 p0 1) g e) : hci (d + 1) 113 [.ref p0] g e k X := by
  refine hent (M := zm_X6_isCoil) hp0 rfl rfl rfl rfl rfl ?_
  refine zq_aload (pc' := 1) rfl rfl rfl rfl ?_
  refine zq_getI (pc' := 4) rfl rfl rfl (hp_gI (hk_of hp0 rfl)) ?_
  exact zq_iret rfl H.1 (Exists.intro _ (Exists.intro _ (And.intro rfl H.2)))
theorem zh_X6_sliderHeight {d : Nat} {k : Int32 → hG → hE → Prop} {X : Nat → hG → hE → Prop} {p0 : Nat} (hp0 : hT p0 = some hZ) {g : hG} {e : hE} (H :
    k (g.1 p0 5) g e) : hci (d + 1) 114 [.ref p0] g e k X := by
  refine hent (M := zm_X6_sliderHeight) hp0 rfl rfl rfl rfl rfl ?_
  refine zq_aload (pc' := 1) rfl rfl rfl rfl ?_
  refine zq_getI (pc' := 4) rfl rfl rfl (hp_gI (hk_of hp0 rfl)) ?_
  exact zq_iret rfl trivial (Exists.intro _ (Exists.intro _ (And.intro rfl H)))
theorem zh_X6_closedBits {d : Nat} {k : Int32 → hG → hE → Prop} {X : Nat → hG → hE → Prop} {p0 : Nat} (hp0 : hT p0 = some hZ) {g : hG} {e : hE} (H :
    k (g.1 p0 4) g e) : hci (d + 1) 115 [.ref p0] g e k X := by
  refine hent (M := zm_X6_closedBits) hp0 rfl rfl rfl rfl rfl ?_
  refine zq_aload (pc' := 1) rfl rfl rfl rfl ?_
  refine zq_getI (pc' := 4) rfl rfl rfl (hp_gI (hk_of hp0 rfl)) ?_
  exact zq_iret rfl trivial (Exists.intro _ (Exists.intro _ (And.intro rfl H)))
theorem zh_X6_closedCount {d : Nat} {k : Int32 → hG → hE → Prop} {X : Nat → hG → hE → Prop} {p0 : Nat} (hp0 : hT p0 = some hZ) {g : hG} {e : hE} (H :
    hci d 0 [.int (g.1 p0 4)] g e (fun x3 g1 e2 =>
      k x3 g1 e2) X) : hci (d + 1) 116 [.ref p0] g e k X := by
  refine hent (M := zm_X6_closedCount) hp0 rfl rfl rfl rfl rfl ?_
  refine zq_aload (pc' := 1) rfl rfl rfl rfl ?_
  refine zq_getI (pc' := 4) rfl rfl rfl (hp_gI (hk_of hp0 rfl)) ?_
  refine hq_calli (pc' := 7) rfl rfl rfl rfl rfl rfl h_Xi ?_
  refine hmonoi H ?_
  intro x3 g1 e2 H
  exact zq_iret rfl trivial (Exists.intro _ (Exists.intro _ (And.intro rfl H)))
theorem zh_X6_isClosed {d : Nat} {k : Int32 → hG → hE → Prop} {X : Nat → hG → hE → Prop} {p0 : Nat} (hp0 : hT p0 = some hZ) {p1 : Int32} {g : hG} {e : hE} (H :
    zbr ((((g.1 p0 4) >>> (p1 &&& 31)) &&& 1) = 0)
    (k 0 g e)
    (k 1 g e)) : hci (d + 1) 117 [.ref p0, .int p1] g e k X := by
  refine hent (M := zm_X6_isClosed) hp0 rfl rfl rfl rfl rfl ?_
  refine zq_aload (pc' := 1) rfl rfl rfl rfl ?_
  refine zq_getI (pc' := 4) rfl rfl rfl (hp_gI (hk_of hp0 rfl)) ?_
  refine zq_iload (pc' := 5) rfl rfl rfl rfl ?_
  refine zq_ishr (pc' := 6) rfl rfl rfl ?_
  refine zq_ipush (pc' := 7) rfl rfl rfl ?_
  refine zq_iand (pc' := 8) rfl rfl rfl ?_
  refine zq_ifeq (pc' := 11) rfl rfl rfl rfl (And.intro (fun c => ?_) (fun c => ?_))
  · have H := H.1 c
    refine zq_ipush (pc' := 16) rfl rfl rfl ?_
    exact zq_iret rfl (Or.inl rfl) (Exists.intro _ (Exists.intro _ (And.intro rfl H)))
  · have H := H.2 c
    refine zq_ipush (pc' := 12) rfl rfl rfl ?_
    refine zq_goto (pc' := 16) rfl rfl rfl ?_
    exact zq_iret rfl (Or.inr rfl) (Exists.intro _ (Exists.intro _ (And.intro rfl H)))
theorem zh_X6_grip {d : Nat} {k : Int32 → hG → hE → Prop} {X : Nat → hG → hE → Prop} {p0 : Nat} (hp0 : hT p0 = some hZ) {p1 : Int32} {p2 : Int32} {g : hG} {e : hE} (H :
    zbr (p1 = 0)
    (k (((((g.2.1 p0 2 : Int64).toUInt64 >>> ((4 * p2 : Int32).toInt64.toUInt64 &&& Int64.toUInt64 63)).toInt64 : Int64).toInt32) &&& 15) g e)
    (k (((((g.2.1 p0 3 : Int64).toUInt64 >>> ((4 * p2 : Int32).toInt64.toUInt64 &&& Int64.toUInt64 63)).toInt64 : Int64).toInt32) &&& 15) g e)) : hci (d + 1) 118 [.ref p0, .int p1, .int p2] g e k X := by
  refine hent (M := zm_X6_grip) hp0 rfl rfl rfl rfl rfl ?_
  refine zq_iload (pc' := 1) rfl rfl rfl rfl ?_
  refine zq_ifne (pc' := 4) rfl rfl rfl rfl (And.intro (fun c => ?_) (fun c => ?_))
  · have H := H.1 c
    refine zq_aload (pc' := 5) rfl rfl rfl rfl ?_
    refine zq_getJ (pc' := 8) rfl rfl rfl (hp_gJ (hk_of hp0 rfl)) ?_
    refine zq_goto (pc' := 15) rfl rfl rfl ?_
    refine zq_ipush (pc' := 16) rfl rfl rfl ?_
    refine zq_iload (pc' := 17) rfl rfl rfl rfl ?_
    refine zq_imul (pc' := 18) rfl rfl rfl ?_
    refine zq_lushr (pc' := 19) rfl rfl rfl ?_
    refine zq_l2i (pc' := 20) rfl rfl rfl ?_
    refine zq_ipush (pc' := 22) rfl rfl rfl ?_
    refine zq_iand (pc' := 23) rfl rfl rfl ?_
    exact zq_iret rfl trivial (Exists.intro _ (Exists.intro _ (And.intro rfl H)))
  · have H := H.2 c
    refine zq_aload (pc' := 12) rfl rfl rfl rfl ?_
    refine zq_getJ (pc' := 15) rfl rfl rfl (hp_gJ (hk_of hp0 rfl)) ?_
    refine zq_ipush (pc' := 16) rfl rfl rfl ?_
    refine zq_iload (pc' := 17) rfl rfl rfl rfl ?_
    refine zq_imul (pc' := 18) rfl rfl rfl ?_
    refine zq_lushr (pc' := 19) rfl rfl rfl ?_
    refine zq_l2i (pc' := 20) rfl rfl rfl ?_
    refine zq_ipush (pc' := 22) rfl rfl rfl ?_
    refine zq_iand (pc' := 23) rfl rfl rfl ?_
    exact zq_iret rfl trivial (Exists.intro _ (Exists.intro _ (And.intro rfl H)))
theorem zh_X6_putGrip {d : Nat} {k : hG → hE → Prop} {X : Nat → hG → hE → Prop} {p0 : Nat} (hp0 : hT p0 = some hZ) {p1 : Int32} {p2 : Int32} {p3 : Int32} {g : hG} {e : hE} (H :
    zbr (p1 = 0)
    (∀ g1, g1 = sJ (sI g p0 6 0) p0 2 ((((sI g p0 6 0).2.1 p0 2) &&& ((15 <<< ((4 * p2 : Int32).toInt64 &&& 63)) ^^^ (-1))) ||| (((p3 : Int32).toInt64) <<< ((4 * p2 : Int32).toInt64 &&& 63))) →
      k g1 e)
    (∀ g2, g2 = sJ (sI g p0 6 0) p0 3 ((((sI g p0 6 0).2.1 p0 3) &&& ((15 <<< ((4 * p2 : Int32).toInt64 &&& 63)) ^^^ (-1))) ||| (((p3 : Int32).toInt64) <<< ((4 * p2 : Int32).toInt64 &&& 63))) →
      k g2 e)) : hcv (d + 1) 119 [.ref p0, .int p1, .int p2, .int p3] g e k X := by
  refine hent (M := zm_X6_putGrip) hp0 rfl rfl rfl rfl rfl ?_
  refine zq_aload (pc' := 1) rfl rfl rfl rfl ?_
  refine zq_ipush (pc' := 2) rfl rfl rfl ?_
  refine zq_put (pc' := 5) rfl rfl rfl trivial (hp_sI (hk_of hp0 rfl)) ?_
  refine zq_lpush (pc' := 8) rfl rfl rfl ?_
  refine zq_ipush (pc' := 9) rfl rfl rfl ?_
  refine zq_iload (pc' := 10) rfl rfl rfl rfl ?_
  refine zq_imul (pc' := 11) rfl rfl rfl ?_
  refine zq_lshl (pc' := 12) rfl rfl rfl ?_
  refine zq_lpushn (pc' := 15) rfl rfl rfl ?_
  refine zq_lxor (pc' := 16) rfl rfl rfl ?_
  refine zq_lstore (pc' := 18) rfl rfl rfl ?_
  refine zq_iload (pc' := 19) rfl rfl rfl rfl ?_
  refine zq_i2l (pc' := 20) rfl rfl rfl ?_
  refine zq_ipush (pc' := 21) rfl rfl rfl ?_
  refine zq_iload (pc' := 22) rfl rfl rfl rfl ?_
  refine zq_imul (pc' := 23) rfl rfl rfl ?_
  refine zq_lshl (pc' := 24) rfl rfl rfl ?_
  refine zq_lstore (pc' := 26) rfl rfl rfl ?_
  refine zq_iload (pc' := 27) rfl rfl rfl rfl ?_
  refine zq_ifne (pc' := 30) rfl rfl rfl rfl (And.intro (fun c => ?_) (fun c => ?_))
  · have H := H.1 c
    refine zq_aload (pc' := 31) rfl rfl rfl rfl ?_
    refine zq_aload (pc' := 32) rfl rfl rfl rfl ?_
    refine zq_getJ (pc' := 35) rfl rfl rfl (hp_gJ (hk_of hp0 rfl)) ?_
    refine zq_lload (pc' := 37) rfl rfl rfl rfl ?_
    refine zq_land (pc' := 38) rfl rfl rfl ?_
    refine zq_lload (pc' := 40) rfl rfl rfl rfl ?_
    refine zq_lor (pc' := 41) rfl rfl rfl ?_
    refine zq_put (pc' := 44) rfl rfl rfl trivial (hp_sJ (hk_of hp0 rfl)) ?_
    have H := H _ rfl
    refine zq_goto (pc' := 61) rfl rfl rfl ?_
    exact zq_vret rfl (Exists.intro _ (Exists.intro _ (And.intro rfl H)))
  · have H := H.2 c
    refine zq_aload (pc' := 48) rfl rfl rfl rfl ?_
    refine zq_aload (pc' := 49) rfl rfl rfl rfl ?_
    refine zq_getJ (pc' := 52) rfl rfl rfl (hp_gJ (hk_of hp0 rfl)) ?_
    refine zq_lload (pc' := 54) rfl rfl rfl rfl ?_
    refine zq_land (pc' := 55) rfl rfl rfl ?_
    refine zq_lload (pc' := 57) rfl rfl rfl rfl ?_
    refine zq_lor (pc' := 58) rfl rfl rfl ?_
    refine zq_put (pc' := 61) rfl rfl rfl trivial (hp_sJ (hk_of hp0 rfl)) ?_
    have H := H _ rfl
    exact zq_vret rfl (Exists.intro _ (Exists.intro _ (And.intro rfl H)))
theorem zh_X6_hold {d : Nat} {k : Int32 → hG → hE → Prop} {X : Nat → hG → hE → Prop} {p0 : Nat} (hp0 : hT p0 = some hZ) {p1 : Int32} {g : hG} {e : hE} (H :
    hci d 118 [.ref p0, .int 0, .int p1] g e (fun x3 g1 e2 =>
      hci d 118 [.ref p0, .int 1, .int p1] g1 e2 (fun x6 g4 e5 =>
        hci d 3 [.int x3, .int x6] g4 e5 (fun x9 g7 e8 =>
          k x9 g7 e8) X) X) X) : hci (d + 1) 120 [.ref p0, .int p1] g e k X := by
  refine hent (M := zm_X6_hold) hp0 rfl rfl rfl rfl rfl ?_
  refine zq_aload (pc' := 1) rfl rfl rfl rfl ?_
  refine zq_ipush (pc' := 2) rfl rfl rfl ?_
  refine zq_iload (pc' := 3) rfl rfl rfl rfl ?_
  refine hq_calli (pc' := 6) rfl rfl rfl rfl rfl rfl h_Xi ?_
  refine hmonoi H ?_
  intro x3 g1 e2 H
  refine zq_aload (pc' := 7) rfl rfl rfl rfl ?_
  refine zq_ipush (pc' := 8) rfl rfl rfl ?_
  refine zq_iload (pc' := 9) rfl rfl rfl rfl ?_
  refine hq_calli (pc' := 12) rfl rfl rfl rfl rfl rfl h_Xi ?_
  refine hmonoi H ?_
  intro x6 g4 e5 H
  refine hq_calli (pc' := 15) rfl rfl rfl rfl rfl rfl h_Xi ?_
  refine hmonoi H ?_
  intro x9 g7 e8 H
  exact zq_iret rfl trivial (Exists.intro _ (Exists.intro _ (And.intro rfl H)))
theorem zh_X6_holding {d : Nat} {k : Int32 → hG → hE → Prop} {X : Nat → hG → hE → Prop} {p0 : Nat} (hp0 : hT p0 = some hZ) {g : hG} {e : hE} (H :
    hwi d zm_X6_holding k X 4 [(0, .ref p0), (1, .int 0), (2, .int 0)] g e) : hci (d + 1) 121 [.ref p0] g e k X := by
  refine hent (M := zm_X6_holding) hp0 rfl rfl rfl rfl rfl ?_
  refine zq_ipush (pc' := 1) rfl rfl rfl ?_
  refine zq_istore (pc' := 2) rfl rfl rfl ?_
  refine zq_ipush (pc' := 3) rfl rfl rfl ?_
  refine zq_istore_c (pc' := 4) rfl rfl ?_
  exact H
theorem zh_X6_holding_4 {d : Nat} {k : Int32 → hG → hE → Prop} {X : Nat → hG → hE → Prop} {l0 : Nat} (hl0 : hT l0 = some hZ) {l1 : Int32} {l2 : Int32} {g : hG} {e : hE} (H :
    zbr ((g.1 l0 0) ≤ l2)
    (k l1 g e)
    (zbr ((lg_cmp ((((g.2.1 l0 2 : Int64).toUInt64 >>> ((4 * l2 : Int32).toInt64.toUInt64 &&& Int64.toUInt64 63)).toInt64) &&& 15) 0) = 0)
      (hwi d zm_X6_holding k X 4 [(0, .ref l0), (1, .int l1), (2, .int (l2 + 1))] g e)
      (zbr ((lg_cmp ((((g.2.1 l0 3 : Int64).toUInt64 >>> ((4 * l2 : Int32).toInt64.toUInt64 &&& Int64.toUInt64 63)).toInt64) &&& 15) 0) = 0)
        (hwi d zm_X6_holding k X 4 [(0, .ref l0), (1, .int l1), (2, .int (l2 + 1))] g e)
        (hwi d zm_X6_holding k X 4 [(0, .ref l0), (1, .int (l1 ||| (1 <<< (l2 &&& 31)))), (2, .int (l2 + 1))] g e)))) : hwi d zm_X6_holding k X 4 [(0, .ref l0), (1, .int l1), (2, .int l2)] g e := by
  refine zq_iload (pc' := 5) rfl rfl rfl rfl ?_
  refine zq_aload (pc' := 6) rfl rfl rfl rfl ?_
  refine zq_getI (pc' := 9) rfl rfl rfl (hp_gI (hk_of hl0 rfl)) ?_
  refine zq_icge (pc' := 12) rfl rfl rfl rfl (And.intro (fun c => ?_) (fun c => ?_))
  · have H := H.1 c
    refine zq_iload (pc' := 59) rfl rfl rfl rfl ?_
    exact zq_iret rfl trivial (Exists.intro _ (Exists.intro _ (And.intro rfl H)))
  · have H := H.2 c
    refine zq_aload (pc' := 13) rfl rfl rfl rfl ?_
    refine zq_getJ (pc' := 16) rfl rfl rfl (hp_gJ (hk_of hl0 rfl)) ?_
    refine zq_ipush (pc' := 17) rfl rfl rfl ?_
    refine zq_iload (pc' := 18) rfl rfl rfl rfl ?_
    refine zq_imul (pc' := 19) rfl rfl rfl ?_
    refine zq_lushr (pc' := 20) rfl rfl rfl ?_
    refine zq_lpush (pc' := 23) rfl rfl rfl ?_
    refine zq_land (pc' := 24) rfl rfl rfl ?_
    refine zq_lpush (pc' := 25) rfl rfl rfl ?_
    refine zq_lcmp (pc' := 26) rfl rfl rfl ?_
    refine zq_ifeq (pc' := 29) rfl rfl rfl rfl (And.intro (fun c => ?_) (fun c => ?_))
    · have H := H.1 c
      refine zq_iinc (pc' := 55) rfl rfl rfl rfl ?_
      refine zq_goto_c (pc' := 4) rfl rfl ?_
      exact H
    · have H := H.2 c
      refine zq_aload (pc' := 30) rfl rfl rfl rfl ?_
      refine zq_getJ (pc' := 33) rfl rfl rfl (hp_gJ (hk_of hl0 rfl)) ?_
      refine zq_ipush (pc' := 34) rfl rfl rfl ?_
      refine zq_iload (pc' := 35) rfl rfl rfl rfl ?_
      refine zq_imul (pc' := 36) rfl rfl rfl ?_
      refine zq_lushr (pc' := 37) rfl rfl rfl ?_
      refine zq_lpush (pc' := 40) rfl rfl rfl ?_
      refine zq_land (pc' := 41) rfl rfl rfl ?_
      refine zq_lpush (pc' := 42) rfl rfl rfl ?_
      refine zq_lcmp (pc' := 43) rfl rfl rfl ?_
      refine zq_ifeq (pc' := 46) rfl rfl rfl rfl (And.intro (fun c => ?_) (fun c => ?_))
      · have H := H.1 c
        refine zq_iinc (pc' := 55) rfl rfl rfl rfl ?_
        refine zq_goto_c (pc' := 4) rfl rfl ?_
        exact H
      · have H := H.2 c
        refine zq_iload (pc' := 47) rfl rfl rfl rfl ?_
        refine zq_ipush (pc' := 48) rfl rfl rfl ?_
        refine zq_iload (pc' := 49) rfl rfl rfl rfl ?_
        refine zq_ishl (pc' := 50) rfl rfl rfl ?_
        refine zq_ior (pc' := 51) rfl rfl rfl ?_
        refine zq_istore (pc' := 52) rfl rfl rfl ?_
        refine zq_iinc (pc' := 55) rfl rfl rfl rfl ?_
        refine zq_goto_c (pc' := 4) rfl rfl ?_
        exact H
theorem zh_X6_holdsBetween {d : Nat} {k : Int32 → hG → hE → Prop} {X : Nat → hG → hE → Prop} {p0 : Nat} (hp0 : hT p0 = some hZ) {p1 : Int32} {p2 : Int32} {g : hG} {e : hE} (H :
    hwi d zm_X6_holdsBetween k X 5 [(0, .ref p0), (2, .int p2), (3, .int 0), (4, .int p1)] g e) : hci (d + 1) 122 [.ref p0, .int p1, .int p2] g e k X := by
  refine hent (M := zm_X6_holdsBetween) hp0 rfl rfl rfl rfl rfl ?_
  refine zq_ipush (pc' := 1) rfl rfl rfl ?_
  refine zq_istore (pc' := 2) rfl rfl rfl ?_
  refine zq_iload (pc' := 3) rfl rfl rfl rfl ?_
  refine zq_istore_c (pc' := 5) rfl rfl ?_
  exact H
theorem zh_X6_holdsBetween_5 {d : Nat} {k : Int32 → hG → hE → Prop} {X : Nat → hG → hE → Prop} {l0 : Nat} (hl0 : hT l0 = some hZ) {l2 : Int32} {l3 : Int32} {l4 : Int32} {g : hG} {e : hE} (H :
    zbr (l2 ≤ l4)
    (k l3 g e)
    (hci d 120 [.ref l0, .int l4] g e (fun x3 g1 e2 =>
        hwi d zm_X6_holdsBetween k X 5 [(0, .ref l0), (2, .int l2), (3, .int (l3 + x3)), (4, .int (l4 + 1))] g1 e2) X)) : hwi d zm_X6_holdsBetween k X 5 [(0, .ref l0), (2, .int l2), (3, .int l3), (4, .int l4)] g e := by
  refine zq_iload (pc' := 7) rfl rfl rfl rfl ?_
  refine zq_iload (pc' := 8) rfl rfl rfl rfl ?_
  refine zq_icge (pc' := 11) rfl rfl rfl rfl (And.intro (fun c => ?_) (fun c => ?_))
  · have H := H.1 c
    refine zq_iload (pc' := 27) rfl rfl rfl rfl ?_
    exact zq_iret rfl trivial (Exists.intro _ (Exists.intro _ (And.intro rfl H)))
  · have H := H.2 c
    refine zq_iload (pc' := 12) rfl rfl rfl rfl ?_
    refine zq_aload (pc' := 13) rfl rfl rfl rfl ?_
    refine zq_iload (pc' := 15) rfl rfl rfl rfl ?_
    refine hq_calli (pc' := 18) rfl rfl rfl rfl rfl rfl h_Xi ?_
    refine hmonoi H ?_
    intro x3 g1 e2 H
    refine zq_iadd (pc' := 19) rfl rfl rfl ?_
    refine zq_istore (pc' := 20) rfl rfl rfl ?_
    refine zq_iinc (pc' := 23) rfl rfl rfl rfl ?_
    refine zq_goto_c (pc' := 5) rfl rfl ?_
    exact H
theorem zh_X6_gripSum {d : Nat} {k : Int32 → hG → hE → Prop} {X : Nat → hG → hE → Prop} {p0 : Nat} (hp0 : hT p0 = some hZ) {g : hG} {e : hE} (H :
    hwi d zm_X6_gripSum k X 4 [(0, .ref p0), (1, .int 0), (2, .int 0)] g e) : hci (d + 1) 123 [.ref p0] g e k X := by
  refine hent (M := zm_X6_gripSum) hp0 rfl rfl rfl rfl rfl ?_
  refine zq_ipush (pc' := 1) rfl rfl rfl ?_
  refine zq_istore (pc' := 2) rfl rfl rfl ?_
  refine zq_ipush (pc' := 3) rfl rfl rfl ?_
  refine zq_istore_c (pc' := 4) rfl rfl ?_
  exact H
theorem zh_X6_gripSum_4 {d : Nat} {k : Int32 → hG → hE → Prop} {X : Nat → hG → hE → Prop} {l0 : Nat} (hl0 : hT l0 = some hZ) {l1 : Int32} {l2 : Int32} {g : hG} {e : hE} (H :
    zbr ((g.1 l0 0) ≤ l2)
    (k l1 g e)
    (hci d 118 [.ref l0, .int 0, .int l2] g e (fun x3 g1 e2 =>
        hci d 118 [.ref l0, .int 1, .int l2] g1 e2 (fun x6 g4 e5 =>
          hwi d zm_X6_gripSum k X 4 [(0, .ref l0), (1, .int (l1 + (x3 + x6))), (2, .int (l2 + 1))] g4 e5) X) X)) : hwi d zm_X6_gripSum k X 4 [(0, .ref l0), (1, .int l1), (2, .int l2)] g e := by
  refine zq_iload (pc' := 5) rfl rfl rfl rfl ?_
  refine zq_aload (pc' := 6) rfl rfl rfl rfl ?_
  refine zq_getI (pc' := 9) rfl rfl rfl (hp_gI (hk_of hl0 rfl)) ?_
  refine zq_icge (pc' := 12) rfl rfl rfl rfl (And.intro (fun c => ?_) (fun c => ?_))
  · have H := H.1 c
    refine zq_iload (pc' := 35) rfl rfl rfl rfl ?_
    exact zq_iret rfl trivial (Exists.intro _ (Exists.intro _ (And.intro rfl H)))
  · have H := H.2 c
    refine zq_iload (pc' := 13) rfl rfl rfl rfl ?_
    refine zq_aload (pc' := 14) rfl rfl rfl rfl ?_
    refine zq_ipush (pc' := 15) rfl rfl rfl ?_
    refine zq_iload (pc' := 16) rfl rfl rfl rfl ?_
    refine hq_calli (pc' := 19) rfl rfl rfl rfl rfl rfl h_Xi ?_
    refine hmonoi H ?_
    intro x3 g1 e2 H
    refine zq_aload (pc' := 20) rfl rfl rfl rfl ?_
    refine zq_ipush (pc' := 21) rfl rfl rfl ?_
    refine zq_iload (pc' := 22) rfl rfl rfl rfl ?_
    refine hq_calli (pc' := 25) rfl rfl rfl rfl rfl rfl h_Xi ?_
    refine hmonoi H ?_
    intro x6 g4 e5 H
    refine zq_iadd (pc' := 26) rfl rfl rfl ?_
    refine zq_iadd (pc' := 27) rfl rfl rfl ?_
    refine zq_istore (pc' := 28) rfl rfl rfl ?_
    refine zq_iinc (pc' := 31) rfl rfl rfl rfl ?_
    refine zq_goto_c (pc' := 4) rfl rfl ?_
    exact H
theorem zh_X6_hasGripsOf {d : Nat} {k : Int32 → hG → hE → Prop} {X : Nat → hG → hE → Prop} {p0 : Nat} (hp0 : hT p0 = some hZ) {p1 : Nat} (hp1 : hT p1 = some hZ) {g : hG} {e : hE} (H :
    zbr ((g.1 p0 0) = (g.1 p1 0))
    (zbr ((lg_cmp (g.2.1 p0 2) (g.2.1 p1 2)) = 0)
      (zbr ((lg_cmp (g.2.1 p0 3) (g.2.1 p1 3)) = 0)
        (k 1 g e)
        (k 0 g e))
      (k 0 g e))
    (k 0 g e)) : hci (d + 1) 124 [.ref p0, .ref p1] g e k X := by
  refine hent (M := zm_X6_hasGripsOf) hp0 rfl rfl rfl rfl rfl ?_
  refine zq_aload (pc' := 1) rfl rfl rfl rfl ?_
  refine zq_getI (pc' := 4) rfl rfl rfl (hp_gI (hk_of hp0 rfl)) ?_
  refine zq_aload (pc' := 5) rfl rfl rfl rfl ?_
  refine zq_getI (pc' := 8) rfl rfl rfl (hp_gI (hk_of hp1 rfl)) ?_
  refine zq_icne (pc' := 11) rfl rfl rfl rfl (And.intro (fun c => ?_) (fun c => ?_))
  · have H := H.1 c
    refine zq_aload (pc' := 12) rfl rfl rfl rfl ?_
    refine zq_getJ (pc' := 15) rfl rfl rfl (hp_gJ (hk_of hp0 rfl)) ?_
    refine zq_aload (pc' := 16) rfl rfl rfl rfl ?_
    refine zq_getJ (pc' := 19) rfl rfl rfl (hp_gJ (hk_of hp1 rfl)) ?_
    refine zq_lcmp (pc' := 20) rfl rfl rfl ?_
    refine zq_ifne (pc' := 23) rfl rfl rfl rfl (And.intro (fun c => ?_) (fun c => ?_))
    · have H := H.1 c
      refine zq_aload (pc' := 24) rfl rfl rfl rfl ?_
      refine zq_getJ (pc' := 27) rfl rfl rfl (hp_gJ (hk_of hp0 rfl)) ?_
      refine zq_aload (pc' := 28) rfl rfl rfl rfl ?_
      refine zq_getJ (pc' := 31) rfl rfl rfl (hp_gJ (hk_of hp1 rfl)) ?_
      refine zq_lcmp (pc' := 32) rfl rfl rfl ?_
      refine zq_ifne (pc' := 35) rfl rfl rfl rfl (And.intro (fun c => ?_) (fun c => ?_))
      · have H := H.1 c
        refine zq_ipush (pc' := 36) rfl rfl rfl ?_
        refine zq_goto (pc' := 40) rfl rfl rfl ?_
        exact zq_iret rfl (Or.inr rfl) (Exists.intro _ (Exists.intro _ (And.intro rfl H)))
      · have H := H.2 c
        refine zq_ipush (pc' := 40) rfl rfl rfl ?_
        exact zq_iret rfl (Or.inl rfl) (Exists.intro _ (Exists.intro _ (And.intro rfl H)))
    · have H := H.2 c
      refine zq_ipush (pc' := 40) rfl rfl rfl ?_
      exact zq_iret rfl (Or.inl rfl) (Exists.intro _ (Exists.intro _ (And.intro rfl H)))
  · have H := H.2 c
    refine zq_ipush (pc' := 40) rfl rfl rfl ?_
    exact zq_iret rfl (Or.inl rfl) (Exists.intro _ (Exists.intro _ (And.intro rfl H)))
theorem zh_X6_openBeside {d : Nat} {k : Int32 → hG → hE → Prop} {X : Nat → hG → hE → Prop} {p0 : Nat} (hp0 : hT p0 = some hZ) {p1 : Int32} {g : hG} {e : hE} (H :
    zbr (p1 ≤ 0)
    (hwi d zm_X6_openBeside k X 19 [(0, .ref p0), (1, .int p1), (2, .int 0)] g e)
    (hci d 117 [.ref p0, .int (p1 - 1)] g e (fun x3 g1 e2 =>
        zbr (x3 = 0)
        (hwi d zm_X6_openBeside k X 19 [(0, .ref p0), (1, .int p1), (2, .int (0 + 1))] g1 e2)
        (hwi d zm_X6_openBeside k X 19 [(0, .ref p0), (1, .int p1), (2, .int 0)] g1 e2)) X)) : hci (d + 1) 125 [.ref p0, .int p1] g e k X := by
  refine hent (M := zm_X6_openBeside) hp0 rfl rfl rfl rfl rfl ?_
  refine zq_ipush (pc' := 1) rfl rfl rfl ?_
  refine zq_istore (pc' := 2) rfl rfl rfl ?_
  refine zq_iload (pc' := 3) rfl rfl rfl rfl ?_
  refine zq_ifle_c (pc' := 6) (lt := [(0, .ref p0), (1, .int p1), (2, .int 0)]) (lf := [(2, .int 0), (0, .ref p0), (1, .int p1)]) rfl rfl rfl rfl (And.intro (fun c => ?_) (fun c => ?_))
  · have H := H.1 c
    exact H
  · have H := H.2 c
    refine zq_aload (pc' := 7) rfl rfl rfl rfl ?_
    refine zq_iload (pc' := 8) rfl rfl rfl rfl ?_
    refine zq_ipush (pc' := 9) rfl rfl rfl ?_
    refine zq_isub (pc' := 10) rfl rfl rfl ?_
    refine hq_calli (pc' := 13) rfl rfl rfl rfl rfl rfl h_Xi ?_
    refine hmonoi H ?_
    intro x3 g1 e2 H
    refine zq_ifne_c (pc' := 16) (lt := [(0, .ref p0), (1, .int p1), (2, .int 0)]) (lf := [(2, .int 0), (0, .ref p0), (1, .int p1)]) rfl rfl rfl rfl (And.intro (fun c => ?_) (fun c => ?_))
    · have H := H.1 c
      refine zq_iinc_c (pc' := 19) rfl rfl rfl ?_
      exact H
    · have H := H.2 c
      exact H
theorem zh_X6_openBeside_19 {d : Nat} {k : Int32 → hG → hE → Prop} {X : Nat → hG → hE → Prop} {l0 : Nat} (hl0 : hT l0 = some hZ) {l1 : Int32} {l2 : Int32} {g : hG} {e : hE} (H :
    zbr ((g.1 l0 0) ≤ (l1 + 1))
    (k l2 g e)
    (hci d 117 [.ref l0, .int (l1 + 1)] g e (fun x3 g1 e2 =>
        zbr (x3 = 0)
        (k (l2 + 1) g1 e2)
        (k l2 g1 e2)) X)) : hwi d zm_X6_openBeside k X 19 [(0, .ref l0), (1, .int l1), (2, .int l2)] g e := by
  refine zq_iload (pc' := 20) rfl rfl rfl rfl ?_
  refine zq_ipush (pc' := 21) rfl rfl rfl ?_
  refine zq_iadd (pc' := 22) rfl rfl rfl ?_
  refine zq_aload (pc' := 23) rfl rfl rfl rfl ?_
  refine zq_getI (pc' := 26) rfl rfl rfl (hp_gI (hk_of hl0 rfl)) ?_
  refine zq_icge (pc' := 29) rfl rfl rfl rfl (And.intro (fun c => ?_) (fun c => ?_))
  · have H := H.1 c
    refine zq_iload (pc' := 43) rfl rfl rfl rfl ?_
    exact zq_iret rfl trivial (Exists.intro _ (Exists.intro _ (And.intro rfl H)))
  · have H := H.2 c
    refine zq_aload (pc' := 30) rfl rfl rfl rfl ?_
    refine zq_iload (pc' := 31) rfl rfl rfl rfl ?_
    refine zq_ipush (pc' := 32) rfl rfl rfl ?_
    refine zq_iadd (pc' := 33) rfl rfl rfl ?_
    refine hq_calli (pc' := 36) rfl rfl rfl rfl rfl rfl h_Xi ?_
    refine hmonoi H ?_
    intro x3 g1 e2 H
    refine zq_ifne (pc' := 39) rfl rfl rfl rfl (And.intro (fun c => ?_) (fun c => ?_))
    · have H := H.1 c
      refine zq_iinc (pc' := 42) rfl rfl rfl rfl ?_
      refine zq_iload (pc' := 43) rfl rfl rfl rfl ?_
      exact zq_iret rfl trivial (Exists.intro _ (Exists.intro _ (And.intro rfl H)))
    · have H := H.2 c
      refine zq_iload (pc' := 43) rfl rfl rfl rfl ?_
      exact zq_iret rfl trivial (Exists.intro _ (Exists.intro _ (And.intro rfl H)))
theorem zh_X6_slideTo {d : Nat} {k : hG → hE → Prop} {X : Nat → hG → hE → Prop} {p0 : Nat} (hp0 : hT p0 = some hZ) {p1 : Int32} {g : hG} {e : hE} (H :
    hci d 121 [.ref p0] (sI (sI g p0 6 0) p0 5 p1) e (fun x3 g1 e2 =>
      k (sI g1 p0 4 (x3 &&& ((1 <<< (p1 &&& 31)) - 1))) e2) X) : hcv (d + 1) 126 [.ref p0, .int p1] g e k X := by
  refine hent (M := zm_X6_slideTo) hp0 rfl rfl rfl rfl rfl ?_
  refine zq_aload (pc' := 1) rfl rfl rfl rfl ?_
  refine zq_ipush (pc' := 2) rfl rfl rfl ?_
  refine zq_put (pc' := 5) rfl rfl rfl trivial (hp_sI (hk_of hp0 rfl)) ?_
  refine zq_aload (pc' := 6) rfl rfl rfl rfl ?_
  refine zq_iload (pc' := 7) rfl rfl rfl rfl ?_
  refine zq_put (pc' := 10) rfl rfl rfl trivial (hp_sI (hk_of hp0 rfl)) ?_
  refine zq_aload (pc' := 11) rfl rfl rfl rfl ?_
  refine zq_aload (pc' := 12) rfl rfl rfl rfl ?_
  refine hq_calli (pc' := 15) rfl rfl rfl rfl rfl rfl h_Xv ?_
  refine hmonoi H ?_
  intro x3 g1 e2 H
  refine zq_ipush (pc' := 16) rfl rfl rfl ?_
  refine zq_iload (pc' := 17) rfl rfl rfl rfl ?_
  refine zq_ishl (pc' := 18) rfl rfl rfl ?_
  refine zq_ipush (pc' := 19) rfl rfl rfl ?_
  refine zq_isub (pc' := 20) rfl rfl rfl ?_
  refine zq_iand (pc' := 21) rfl rfl rfl ?_
  refine zq_put (pc' := 24) rfl rfl rfl trivial (hp_sI (hk_of hp0 rfl)) ?_
  exact zq_vret rfl (Exists.intro _ (Exists.intro _ (And.intro rfl H)))
theorem zh_X6_slideToTop {d : Nat} {k : hG → hE → Prop} {X : Nat → hG → hE → Prop} {p0 : Nat} (hp0 : hT p0 = some hZ) {g : hG} {e : hE} (H :
    hcv d 126 [.ref p0, .int (g.1 p0 0)] g e (fun g1 e2 =>
      k g1 e2) X) : hcv (d + 1) 127 [.ref p0] g e k X := by
  refine hent (M := zm_X6_slideToTop) hp0 rfl rfl rfl rfl rfl ?_
  refine zq_aload (pc' := 1) rfl rfl rfl rfl ?_
  refine zq_aload (pc' := 2) rfl rfl rfl rfl ?_
  refine zq_getI (pc' := 5) rfl rfl rfl (hp_gI (hk_of hp0 rfl)) ?_
  refine hq_callv (pc' := 8) rfl rfl rfl rfl rfl rfl h_Xv ?_
  refine hmonov H ?_
  intro g1 e2 H
  exact zq_vret rfl (Exists.intro _ (Exists.intro _ (And.intro rfl H)))
theorem zh_X6_openAt {d : Nat} {k : hG → hE → Prop} {X : Nat → hG → hE → Prop} {p0 : Nat} (hp0 : hT p0 = some hZ) {p1 : Int32} {g : hG} {e : hE} (H :
    k (sI (sI g p0 6 0) p0 4 (((sI g p0 6 0).1 p0 4) &&& ((1 <<< (p1 &&& 31)) ^^^ (-1)))) e) : hcv (d + 1) 128 [.ref p0, .int p1] g e k X := by
  refine hent (M := zm_X6_openAt) hp0 rfl rfl rfl rfl rfl ?_
  refine zq_aload (pc' := 1) rfl rfl rfl rfl ?_
  refine zq_ipush (pc' := 2) rfl rfl rfl ?_
  refine zq_put (pc' := 5) rfl rfl rfl trivial (hp_sI (hk_of hp0 rfl)) ?_
  refine zq_aload (pc' := 6) rfl rfl rfl rfl ?_
  refine zq_dup (pc' := 7) rfl rfl rfl rfl ?_
  refine zq_getI (pc' := 10) rfl rfl rfl (hp_gI (hk_of hp0 rfl)) ?_
  refine zq_ipush (pc' := 11) rfl rfl rfl ?_
  refine zq_iload (pc' := 12) rfl rfl rfl rfl ?_
  refine zq_ishl (pc' := 13) rfl rfl rfl ?_
  refine zq_ipushn (pc' := 14) rfl rfl rfl ?_
  refine zq_ixor (pc' := 15) rfl rfl rfl ?_
  refine zq_iand (pc' := 16) rfl rfl rfl ?_
  refine zq_put (pc' := 19) rfl rfl rfl trivial (hp_sI (hk_of hp0 rfl)) ?_
  exact zq_vret rfl (Exists.intro _ (Exists.intro _ (And.intro rfl H)))
theorem zh_X6_mayPinch {d : Nat} {k : Int32 → hG → hE → Prop} {X : Nat → hG → hE → Prop} {p0 : Nat} (hp0 : hT p0 = some hZ) {p1 : Int32} {p2 : Int32} {g : hG} {e : hE} (H :
    hci d 118 [.ref p0, .int p1, .int p2] g e (fun x3 g1 e2 =>
      zbr (x3 ≤ 0)
      (k 0 g1 e2)
      (hci d 118 [.ref p0, .int p1, .int p2] g1 e2 (fun x6 g4 e5 =>
          zbr (9 ≤ x6)
          (k 0 g4 e5)
          (k 1 g4 e5)) X)) X) : hci (d + 1) 129 [.ref p0, .int p1, .int p2] g e k X := by
  refine hent (M := zm_X6_mayPinch) hp0 rfl rfl rfl rfl rfl ?_
  refine zq_aload (pc' := 1) rfl rfl rfl rfl ?_
  refine zq_iload (pc' := 2) rfl rfl rfl rfl ?_
  refine zq_iload (pc' := 3) rfl rfl rfl rfl ?_
  refine hq_calli (pc' := 6) rfl rfl rfl rfl rfl rfl h_Xi ?_
  refine hmonoi H ?_
  intro x3 g1 e2 H
  refine zq_ifle (pc' := 9) rfl rfl rfl rfl (And.intro (fun c => ?_) (fun c => ?_))
  · have H := H.1 c
    refine zq_ipush (pc' := 25) rfl rfl rfl ?_
    exact zq_iret rfl (Or.inl rfl) (Exists.intro _ (Exists.intro _ (And.intro rfl H)))
  · have H := H.2 c
    refine zq_aload (pc' := 10) rfl rfl rfl rfl ?_
    refine zq_iload (pc' := 11) rfl rfl rfl rfl ?_
    refine zq_iload (pc' := 12) rfl rfl rfl rfl ?_
    refine hq_calli (pc' := 15) rfl rfl rfl rfl rfl rfl h_Xi ?_
    refine hmonoi H ?_
    intro x6 g4 e5 H
    refine zq_ipush (pc' := 17) rfl rfl rfl ?_
    refine zq_icge (pc' := 20) rfl rfl rfl rfl (And.intro (fun c => ?_) (fun c => ?_))
    · have H := H.1 c
      refine zq_ipush (pc' := 25) rfl rfl rfl ?_
      exact zq_iret rfl (Or.inl rfl) (Exists.intro _ (Exists.intro _ (And.intro rfl H)))
    · have H := H.2 c
      refine zq_ipush (pc' := 21) rfl rfl rfl ?_
      refine zq_goto (pc' := 25) rfl rfl rfl ?_
      exact zq_iret rfl (Or.inr rfl) (Exists.intro _ (Exists.intro _ (And.intro rfl H)))
theorem zh_X6_pinchTooth {d : Nat} {k : hG → hE → Prop} {X : Nat → hG → hE → Prop} {p0 : Nat} (hp0 : hT p0 = some hZ) {p1 : Int32} {p2 : Int32} {g : hG} {e : hE} (H :
    hci d 129 [.ref p0, .int p1, .int p2] g e (fun x3 g1 e2 =>
      zbr (x3 = 0)
      (k g1 e2)
      (hci d 118 [.ref p0, .int p1, .int p2] g1 e2 (fun x6 g4 e5 =>
          hcv d 119 [.ref p0, .int p1, .int p2, .int (x6 + 1)] g4 e5 (fun g7 e8 =>
            k g7 e8) X) X)) X) : hcv (d + 1) 130 [.ref p0, .int p1, .int p2] g e k X := by
  refine hent (M := zm_X6_pinchTooth) hp0 rfl rfl rfl rfl rfl ?_
  refine zq_aload (pc' := 1) rfl rfl rfl rfl ?_
  refine zq_iload (pc' := 2) rfl rfl rfl rfl ?_
  refine zq_iload (pc' := 3) rfl rfl rfl rfl ?_
  refine hq_calli (pc' := 6) rfl rfl rfl rfl rfl rfl h_Xv ?_
  refine hmonoi H ?_
  intro x3 g1 e2 H
  refine zq_ifeq (pc' := 9) rfl rfl rfl rfl (And.intro (fun c => ?_) (fun c => ?_))
  · have H := H.1 c
    exact zq_vret rfl (Exists.intro _ (Exists.intro _ (And.intro rfl H)))
  · have H := H.2 c
    refine zq_aload (pc' := 10) rfl rfl rfl rfl ?_
    refine zq_iload (pc' := 11) rfl rfl rfl rfl ?_
    refine zq_iload (pc' := 12) rfl rfl rfl rfl ?_
    refine zq_aload (pc' := 13) rfl rfl rfl rfl ?_
    refine zq_iload (pc' := 14) rfl rfl rfl rfl ?_
    refine zq_iload (pc' := 15) rfl rfl rfl rfl ?_
    refine hq_calli (pc' := 18) rfl rfl rfl rfl rfl rfl h_Xv ?_
    refine hmonoi H ?_
    intro x6 g4 e5 H
    refine zq_ipush (pc' := 19) rfl rfl rfl ?_
    refine zq_iadd (pc' := 20) rfl rfl rfl ?_
    refine hq_callv (pc' := 23) rfl rfl rfl rfl rfl rfl h_Xv ?_
    refine hmonov H ?_
    intro g7 e8 H
    exact zq_vret rfl (Exists.intro _ (Exists.intro _ (And.intro rfl H)))
theorem zh_X6_weakenTooth {d : Nat} {k : hG → hE → Prop} {X : Nat → hG → hE → Prop} {p0 : Nat} (hp0 : hT p0 = some hZ) {p1 : Int32} {p2 : Int32} {g : hG} {e : hE} (H :
    hci d 118 [.ref p0, .int p1, .int p2] g e (fun x3 g1 e2 =>
      zbr (x3 ≤ 0)
      (hci d 120 [.ref p0, .int p2] g1 e2 (fun x6 g4 e5 =>
          zbr (x6 = 0)
          (hcv d 128 [.ref p0, .int p2] g4 e5 (fun g7 e8 =>
              k g7 e8) X)
          (k g4 e5)) X)
      (hci d 118 [.ref p0, .int p1, .int p2] g1 e2 (fun x11 g9 e10 =>
          hcv d 119 [.ref p0, .int p1, .int p2, .int (x11 - 1)] g9 e10 (fun g12 e13 =>
            hci d 120 [.ref p0, .int p2] g12 e13 (fun x16 g14 e15 =>
              zbr (x16 = 0)
              (hcv d 128 [.ref p0, .int p2] g14 e15 (fun g17 e18 =>
                  k g17 e18) X)
              (k g14 e15)) X) X) X)) X) : hcv (d + 1) 131 [.ref p0, .int p1, .int p2] g e k X := by
  refine hent (M := zm_X6_weakenTooth) hp0 rfl rfl rfl rfl rfl ?_
  refine zq_aload (pc' := 1) rfl rfl rfl rfl ?_
  refine zq_iload (pc' := 2) rfl rfl rfl rfl ?_
  refine zq_iload (pc' := 3) rfl rfl rfl rfl ?_
  refine hq_calli (pc' := 6) rfl rfl rfl rfl rfl rfl h_Xv ?_
  refine hmonoi H ?_
  intro x3 g1 e2 H
  refine zq_ifle (pc' := 9) rfl rfl rfl rfl (And.intro (fun c => ?_) (fun c => ?_))
  · have H := H.1 c
    refine zq_aload (pc' := 24) rfl rfl rfl rfl ?_
    refine zq_iload (pc' := 25) rfl rfl rfl rfl ?_
    refine hq_calli (pc' := 28) rfl rfl rfl rfl rfl rfl h_Xv ?_
    refine hmonoi H ?_
    intro x6 g4 e5 H
    refine zq_ifne (pc' := 31) rfl rfl rfl rfl (And.intro (fun c => ?_) (fun c => ?_))
    · have H := H.1 c
      refine zq_aload (pc' := 32) rfl rfl rfl rfl ?_
      refine zq_iload (pc' := 33) rfl rfl rfl rfl ?_
      refine hq_callv (pc' := 36) rfl rfl rfl rfl rfl rfl h_Xv ?_
      refine hmonov H ?_
      intro g7 e8 H
      exact zq_vret rfl (Exists.intro _ (Exists.intro _ (And.intro rfl H)))
    · have H := H.2 c
      exact zq_vret rfl (Exists.intro _ (Exists.intro _ (And.intro rfl H)))
  · have H := H.2 c
    refine zq_aload (pc' := 10) rfl rfl rfl rfl ?_
    refine zq_iload (pc' := 11) rfl rfl rfl rfl ?_
    refine zq_iload (pc' := 12) rfl rfl rfl rfl ?_
    refine zq_aload (pc' := 13) rfl rfl rfl rfl ?_
    refine zq_iload (pc' := 14) rfl rfl rfl rfl ?_
    refine zq_iload (pc' := 15) rfl rfl rfl rfl ?_
    refine hq_calli (pc' := 18) rfl rfl rfl rfl rfl rfl h_Xv ?_
    refine hmonoi H ?_
    intro x11 g9 e10 H
    refine zq_ipush (pc' := 19) rfl rfl rfl ?_
    refine zq_isub (pc' := 20) rfl rfl rfl ?_
    refine hq_callv (pc' := 23) rfl rfl rfl rfl rfl rfl h_Xv ?_
    refine hmonov H ?_
    intro g12 e13 H
    refine zq_aload (pc' := 24) rfl rfl rfl rfl ?_
    refine zq_iload (pc' := 25) rfl rfl rfl rfl ?_
    refine hq_calli (pc' := 28) rfl rfl rfl rfl rfl rfl h_Xv ?_
    refine hmonoi H ?_
    intro x16 g14 e15 H
    refine zq_ifne (pc' := 31) rfl rfl rfl rfl (And.intro (fun c => ?_) (fun c => ?_))
    · have H := H.1 c
      refine zq_aload (pc' := 32) rfl rfl rfl rfl ?_
      refine zq_iload (pc' := 33) rfl rfl rfl rfl ?_
      refine hq_callv (pc' := 36) rfl rfl rfl rfl rfl rfl h_Xv ?_
      refine hmonov H ?_
      intro g17 e18 H
      exact zq_vret rfl (Exists.intro _ (Exists.intro _ (And.intro rfl H)))
    · have H := H.2 c
      exact zq_vret rfl (Exists.intro _ (Exists.intro _ (And.intro rfl H)))
theorem zh_X6_wearAt {d : Nat} {k : hG → hE → Prop} {X : Nat → hG → hE → Prop} {p0 : Nat} (hp0 : hT p0 = some hZ) {p1 : Int32} {p2 : Int32} {g : hG} {e : hE} (H :
    hci d 118 [.ref p0, .int 0, .int p1] g e (fun x3 g1 e2 =>
      hci d 2 [.int 0, .int (x3 - p2)] g1 e2 (fun x6 g4 e5 =>
        hcv d 119 [.ref p0, .int 0, .int p1, .int x6] g4 e5 (fun g7 e8 =>
          hci d 118 [.ref p0, .int 1, .int p1] g7 e8 (fun x11 g9 e10 =>
            hci d 2 [.int 0, .int (x11 - p2)] g9 e10 (fun x14 g12 e13 =>
              hcv d 119 [.ref p0, .int 1, .int p1, .int x14] g12 e13 (fun g15 e16 =>
                k g15 e16) X) X) X) X) X) X) : hcv (d + 1) 132 [.ref p0, .int p1, .int p2] g e k X := by
  refine hent (M := zm_X6_wearAt) hp0 rfl rfl rfl rfl rfl ?_
  refine zq_aload (pc' := 1) rfl rfl rfl rfl ?_
  refine zq_ipush (pc' := 2) rfl rfl rfl ?_
  refine zq_iload (pc' := 3) rfl rfl rfl rfl ?_
  refine zq_ipush (pc' := 4) rfl rfl rfl ?_
  refine zq_aload (pc' := 5) rfl rfl rfl rfl ?_
  refine zq_ipush (pc' := 6) rfl rfl rfl ?_
  refine zq_iload (pc' := 7) rfl rfl rfl rfl ?_
  refine hq_calli (pc' := 10) rfl rfl rfl rfl rfl rfl h_Xv ?_
  refine hmonoi H ?_
  intro x3 g1 e2 H
  refine zq_iload (pc' := 11) rfl rfl rfl rfl ?_
  refine zq_isub (pc' := 12) rfl rfl rfl ?_
  refine hq_calli (pc' := 15) rfl rfl rfl rfl rfl rfl h_Xv ?_
  refine hmonoi H ?_
  intro x6 g4 e5 H
  refine hq_callv (pc' := 18) rfl rfl rfl rfl rfl rfl h_Xv ?_
  refine hmonov H ?_
  intro g7 e8 H
  refine zq_aload (pc' := 19) rfl rfl rfl rfl ?_
  refine zq_ipush (pc' := 20) rfl rfl rfl ?_
  refine zq_iload (pc' := 21) rfl rfl rfl rfl ?_
  refine zq_ipush (pc' := 22) rfl rfl rfl ?_
  refine zq_aload (pc' := 23) rfl rfl rfl rfl ?_
  refine zq_ipush (pc' := 24) rfl rfl rfl ?_
  refine zq_iload (pc' := 25) rfl rfl rfl rfl ?_
  refine hq_calli (pc' := 28) rfl rfl rfl rfl rfl rfl h_Xv ?_
  refine hmonoi H ?_
  intro x11 g9 e10 H
  refine zq_iload (pc' := 29) rfl rfl rfl rfl ?_
  refine zq_isub (pc' := 30) rfl rfl rfl ?_
  refine hq_calli (pc' := 33) rfl rfl rfl rfl rfl rfl h_Xv ?_
  refine hmonoi H ?_
  intro x14 g12 e13 H
  refine hq_callv (pc' := 36) rfl rfl rfl rfl rfl rfl h_Xv ?_
  refine hmonov H ?_
  intro g15 e16 H
  exact zq_vret rfl (Exists.intro _ (Exists.intro _ (And.intro rfl H)))
theorem zh_X6_setLacking {d : Nat} {k : hG → hE → Prop} {X : Nat → hG → hE → Prop} {p0 : Nat} (hp0 : hT p0 = some hZ) {p1 : Int32} {g : hG} {e : hE} (H :
    hci d 118 [.ref p0, .int 0, .int p1] g e (fun x3 g1 e2 =>
      zbr (x3 = 0)
      (hcv d 119 [.ref p0, .int 0, .int p1, .int 9] g1 e2 (fun g4 e5 =>
          hci d 118 [.ref p0, .int 1, .int p1] g4 e5 (fun x8 g6 e7 =>
            zbr (x8 = 0)
            (hcv d 119 [.ref p0, .int 1, .int p1, .int 9] g6 e7 (fun g9 e10 =>
                k g9 e10) X)
            (k g6 e7)) X) X)
      (hci d 118 [.ref p0, .int 1, .int p1] g1 e2 (fun x13 g11 e12 =>
          zbr (x13 = 0)
          (hcv d 119 [.ref p0, .int 1, .int p1, .int 9] g11 e12 (fun g14 e15 =>
              k g14 e15) X)
          (k g11 e12)) X)) X) : hcv (d + 1) 133 [.ref p0, .int p1] g e k X := by
  refine hent (M := zm_X6_setLacking) hp0 rfl rfl rfl rfl rfl ?_
  refine zq_aload (pc' := 1) rfl rfl rfl rfl ?_
  refine zq_ipush (pc' := 2) rfl rfl rfl ?_
  refine zq_iload (pc' := 3) rfl rfl rfl rfl ?_
  refine hq_calli (pc' := 6) rfl rfl rfl rfl rfl rfl h_Xv ?_
  refine hmonoi H ?_
  intro x3 g1 e2 H
  refine zq_ifne (pc' := 9) rfl rfl rfl rfl (And.intro (fun c => ?_) (fun c => ?_))
  · have H := H.1 c
    refine zq_aload (pc' := 10) rfl rfl rfl rfl ?_
    refine zq_ipush (pc' := 11) rfl rfl rfl ?_
    refine zq_iload (pc' := 12) rfl rfl rfl rfl ?_
    refine zq_ipush (pc' := 14) rfl rfl rfl ?_
    refine hq_callv (pc' := 17) rfl rfl rfl rfl rfl rfl h_Xv ?_
    refine hmonov H ?_
    intro g4 e5 H
    refine zq_aload (pc' := 18) rfl rfl rfl rfl ?_
    refine zq_ipush (pc' := 19) rfl rfl rfl ?_
    refine zq_iload (pc' := 20) rfl rfl rfl rfl ?_
    refine hq_calli (pc' := 23) rfl rfl rfl rfl rfl rfl h_Xv ?_
    refine hmonoi H ?_
    intro x8 g6 e7 H
    refine zq_ifne (pc' := 26) rfl rfl rfl rfl (And.intro (fun c => ?_) (fun c => ?_))
    · have H := H.1 c
      refine zq_aload (pc' := 27) rfl rfl rfl rfl ?_
      refine zq_ipush (pc' := 28) rfl rfl rfl ?_
      refine zq_iload (pc' := 29) rfl rfl rfl rfl ?_
      refine zq_ipush (pc' := 31) rfl rfl rfl ?_
      refine hq_callv (pc' := 34) rfl rfl rfl rfl rfl rfl h_Xv ?_
      refine hmonov H ?_
      intro g9 e10 H
      exact zq_vret rfl (Exists.intro _ (Exists.intro _ (And.intro rfl H)))
    · have H := H.2 c
      exact zq_vret rfl (Exists.intro _ (Exists.intro _ (And.intro rfl H)))
  · have H := H.2 c
    refine zq_aload (pc' := 18) rfl rfl rfl rfl ?_
    refine zq_ipush (pc' := 19) rfl rfl rfl ?_
    refine zq_iload (pc' := 20) rfl rfl rfl rfl ?_
    refine hq_calli (pc' := 23) rfl rfl rfl rfl rfl rfl h_Xv ?_
    refine hmonoi H ?_
    intro x13 g11 e12 H
    refine zq_ifne (pc' := 26) rfl rfl rfl rfl (And.intro (fun c => ?_) (fun c => ?_))
    · have H := H.1 c
      refine zq_aload (pc' := 27) rfl rfl rfl rfl ?_
      refine zq_ipush (pc' := 28) rfl rfl rfl ?_
      refine zq_iload (pc' := 29) rfl rfl rfl rfl ?_
      refine zq_ipush (pc' := 31) rfl rfl rfl ?_
      refine hq_callv (pc' := 34) rfl rfl rfl rfl rfl rfl h_Xv ?_
      refine hmonov H ?_
      intro g14 e15 H
      exact zq_vret rfl (Exists.intro _ (Exists.intro _ (And.intro rfl H)))
    · have H := H.2 c
      exact zq_vret rfl (Exists.intro _ (Exists.intro _ (And.intro rfl H)))
theorem zh_X6_swapLeft {d : Nat} {k : hG → hE → Prop} {X : Nat → hG → hE → Prop} {p0 : Nat} (hp0 : hT p0 = some hZ) {p1 : Nat} (hp1 : hT p1 = some hZ) {g : hG} {e : hE} (H :
    hcv d 126 [.ref p0, .int 0] (sJ (sJ g p0 2 (g.2.1 p1 2)) p1 2 (g.2.1 p0 2)) e (fun g1 e2 =>
      hcv d 126 [.ref p1, .int 0] g1 e2 (fun g3 e4 =>
        k g3 e4) X) X) : hcv (d + 1) 134 [.ref p0, .ref p1] g e k X := by
  refine hent (M := zm_X6_swapLeft) hp0 rfl rfl rfl rfl rfl ?_
  refine zq_aload (pc' := 1) rfl rfl rfl rfl ?_
  refine zq_getJ (pc' := 4) rfl rfl rfl (hp_gJ (hk_of hp0 rfl)) ?_
  refine zq_lstore (pc' := 5) rfl rfl rfl ?_
  refine zq_aload (pc' := 6) rfl rfl rfl rfl ?_
  refine zq_aload (pc' := 7) rfl rfl rfl rfl ?_
  refine zq_getJ (pc' := 10) rfl rfl rfl (hp_gJ (hk_of hp1 rfl)) ?_
  refine zq_put (pc' := 13) rfl rfl rfl trivial (hp_sJ (hk_of hp0 rfl)) ?_
  refine zq_aload (pc' := 14) rfl rfl rfl rfl ?_
  refine zq_lload (pc' := 15) rfl rfl rfl rfl ?_
  refine zq_put (pc' := 18) rfl rfl rfl trivial (hp_sJ (hk_of hp1 rfl)) ?_
  refine zq_aload (pc' := 19) rfl rfl rfl rfl ?_
  refine zq_ipush (pc' := 20) rfl rfl rfl ?_
  refine hq_callv (pc' := 23) rfl rfl rfl rfl rfl rfl h_Xv ?_
  refine hmonov H ?_
  intro g1 e2 H
  refine zq_aload (pc' := 24) rfl rfl rfl rfl ?_
  refine zq_ipush (pc' := 25) rfl rfl rfl ?_
  refine hq_callv (pc' := 28) rfl rfl rfl rfl rfl rfl h_Xv ?_
  refine hmonov H ?_
  intro g3 e4 H
  exact zq_vret rfl (Exists.intro _ (Exists.intro _ (And.intro rfl H)))
theorem zh_X6_runs {d : Nat} {k : Int32 → hG → hE → Prop} {X : Nat → hG → hE → Prop} {p0 : Nat} (hp0 : hT p0 = some hZ) {g : hG} {e : hE} (H :
    hci d 0 [.int ((g.1 p0 4) &&& (((g.1 p0 4) <<< ((1 : Int32) &&& 31)) ^^^ (-1)))] g e (fun x3 g1 e2 =>
      k x3 g1 e2) X) : hci (d + 1) 135 [.ref p0] g e k X := by
  refine hent (M := zm_X6_runs) hp0 rfl rfl rfl rfl rfl ?_
  refine zq_aload (pc' := 1) rfl rfl rfl rfl ?_
  refine zq_getI (pc' := 4) rfl rfl rfl (hp_gI (hk_of hp0 rfl)) ?_
  refine zq_aload (pc' := 5) rfl rfl rfl rfl ?_
  refine zq_getI (pc' := 8) rfl rfl rfl (hp_gI (hk_of hp0 rfl)) ?_
  refine zq_ipush (pc' := 9) rfl rfl rfl ?_
  refine zq_ishl (pc' := 10) rfl rfl rfl ?_
  refine zq_ipushn (pc' := 11) rfl rfl rfl ?_
  refine zq_ixor (pc' := 12) rfl rfl rfl ?_
  refine zq_iand (pc' := 13) rfl rfl rfl ?_
  refine hq_calli (pc' := 16) rfl rfl rfl rfl rfl rfl h_Xi ?_
  refine hmonoi H ?_
  intro x3 g1 e2 H
  exact zq_iret rfl trivial (Exists.intro _ (Exists.intro _ (And.intro rfl H)))
theorem zh_X6_longestRun {d : Nat} {k : Int32 → hG → hE → Prop} {X : Nat → hG → hE → Prop} {p0 : Nat} (hp0 : hT p0 = some hZ) {g : hG} {e : hE} (H :
    hwi d zm_X6_longestRun k X 6 [(0, .ref p0), (1, .int 0), (2, .int 0), (3, .int 0)] g e) : hci (d + 1) 136 [.ref p0] g e k X := by
  refine hent (M := zm_X6_longestRun) hp0 rfl rfl rfl rfl rfl ?_
  refine zq_ipush (pc' := 1) rfl rfl rfl ?_
  refine zq_istore (pc' := 2) rfl rfl rfl ?_
  refine zq_ipush (pc' := 3) rfl rfl rfl ?_
  refine zq_istore (pc' := 4) rfl rfl rfl ?_
  refine zq_ipush (pc' := 5) rfl rfl rfl ?_
  refine zq_istore_c (pc' := 6) rfl rfl ?_
  exact H
theorem zh_X6_longestRun_6 {d : Nat} {k : Int32 → hG → hE → Prop} {X : Nat → hG → hE → Prop} {l0 : Nat} (hl0 : hT l0 = some hZ) {l1 : Int32} {l2 : Int32} {l3 : Int32} {g : hG} {e : hE} (H :
    zbr ((g.1 l0 0) ≤ l3)
    (k l1 g e)
    (hci d 117 [.ref l0, .int l3] g e (fun x3 g1 e2 =>
        zbr (x3 = 0)
        (hci d 2 [.int l1, .int 0] g1 e2 (fun x6 g4 e5 =>
            hwi d zm_X6_longestRun k X 6 [(0, .ref l0), (1, .int x6), (2, .int 0), (3, .int (l3 + 1))] g4 e5) X)
        (hci d 2 [.int l1, .int (l2 + 1)] g1 e2 (fun x9 g7 e8 =>
            hwi d zm_X6_longestRun k X 6 [(0, .ref l0), (1, .int x9), (2, .int (l2 + 1)), (3, .int (l3 + 1))] g7 e8) X)) X)) : hwi d zm_X6_longestRun k X 6 [(0, .ref l0), (1, .int l1), (2, .int l2), (3, .int l3)] g e := by
  refine zq_iload (pc' := 7) rfl rfl rfl rfl ?_
  refine zq_aload (pc' := 8) rfl rfl rfl rfl ?_
  refine zq_getI (pc' := 11) rfl rfl rfl (hp_gI (hk_of hl0 rfl)) ?_
  refine zq_icge (pc' := 14) rfl rfl rfl rfl (And.intro (fun c => ?_) (fun c => ?_))
  · have H := H.1 c
    refine zq_iload (pc' := 43) rfl rfl rfl rfl ?_
    exact zq_iret rfl trivial (Exists.intro _ (Exists.intro _ (And.intro rfl H)))
  · have H := H.2 c
    refine zq_aload (pc' := 15) rfl rfl rfl rfl ?_
    refine zq_iload (pc' := 16) rfl rfl rfl rfl ?_
    refine hq_calli (pc' := 19) rfl rfl rfl rfl rfl rfl h_Xi ?_
    refine hmonoi H ?_
    intro x3 g1 e2 H
    refine zq_ifeq (pc' := 22) rfl rfl rfl rfl (And.intro (fun c => ?_) (fun c => ?_))
    · have H := H.1 c
      refine zq_ipush (pc' := 29) rfl rfl rfl ?_
      refine zq_istore (pc' := 30) rfl rfl rfl ?_
      refine zq_iload (pc' := 31) rfl rfl rfl rfl ?_
      refine zq_iload (pc' := 32) rfl rfl rfl rfl ?_
      refine hq_calli (pc' := 35) rfl rfl rfl rfl rfl rfl h_Xi ?_
      refine hmonoi H ?_
      intro x6 g4 e5 H
      refine zq_istore (pc' := 36) rfl rfl rfl ?_
      refine zq_iinc (pc' := 39) rfl rfl rfl rfl ?_
      refine zq_goto_c (pc' := 6) rfl rfl ?_
      exact H
    · have H := H.2 c
      refine zq_iload (pc' := 23) rfl rfl rfl rfl ?_
      refine zq_ipush (pc' := 24) rfl rfl rfl ?_
      refine zq_iadd (pc' := 25) rfl rfl rfl ?_
      refine zq_goto (pc' := 29) rfl rfl rfl ?_
      refine zq_istore (pc' := 30) rfl rfl rfl ?_
      refine zq_iload (pc' := 31) rfl rfl rfl rfl ?_
      refine zq_iload (pc' := 32) rfl rfl rfl rfl ?_
      refine hq_calli (pc' := 35) rfl rfl rfl rfl rfl rfl h_Xi ?_
      refine hmonoi H ?_
      intro x9 g7 e8 H
      refine zq_istore (pc' := 36) rfl rfl rfl ?_
      refine zq_iinc (pc' := 39) rfl rfl rfl rfl ?_
      refine zq_goto_c (pc' := 6) rfl rfl ?_
      exact H
theorem zh_X6_lowestOfLongest {d : Nat} {k : Int32 → hG → hE → Prop} {X : Nat → hG → hE → Prop} {p0 : Nat} (hp0 : hT p0 = some hZ) {g : hG} {e : hE} (H :
    hci d 136 [.ref p0] g e (fun x3 g1 e2 =>
      hwi d zm_X6_lowestOfLongest k X 9 [(0, .ref p0), (1, .int x3), (2, .int 0), (3, .int 0)] g1 e2) X) : hci (d + 1) 137 [.ref p0] g e k X := by
  refine hent (M := zm_X6_lowestOfLongest) hp0 rfl rfl rfl rfl rfl ?_
  refine zq_aload (pc' := 1) rfl rfl rfl rfl ?_
  refine hq_calli (pc' := 4) rfl rfl rfl rfl rfl rfl h_Xi ?_
  refine hmonoi H ?_
  intro x3 g1 e2 H
  refine zq_istore (pc' := 5) rfl rfl rfl ?_
  refine zq_ipush (pc' := 6) rfl rfl rfl ?_
  refine zq_istore (pc' := 7) rfl rfl rfl ?_
  refine zq_ipush (pc' := 8) rfl rfl rfl ?_
  refine zq_istore_c (pc' := 9) rfl rfl ?_
  exact H
theorem zh_X6_lowestOfLongest_9 {d : Nat} {k : Int32 → hG → hE → Prop} {X : Nat → hG → hE → Prop} {l0 : Nat} (hl0 : hT l0 = some hZ) {l1 : Int32} {l2 : Int32} {l3 : Int32} {g : hG} {e : hE} (H :
    zbr ((g.1 l0 0) ≤ l3)
    (k (-1) g e)
    (hci d 117 [.ref l0, .int l3] g e (fun x3 g1 e2 =>
        zbr (x3 = 0)
        (zbr ((0 : Int32) ≤ 0)
          (hwi d zm_X6_lowestOfLongest k X 9 [(0, .ref l0), (1, .int l1), (2, .int 0), (3, .int (l3 + 1))] g1 e2)
          (zbr ((0 : Int32) = l1)
            (k ((l3 - 0) + 1) g1 e2)
            (hwi d zm_X6_lowestOfLongest k X 9 [(0, .ref l0), (1, .int l1), (2, .int 0), (3, .int (l3 + 1))] g1 e2)))
        (zbr ((l2 + 1) ≤ 0)
          (hwi d zm_X6_lowestOfLongest k X 9 [(0, .ref l0), (1, .int l1), (2, .int (l2 + 1)), (3, .int (l3 + 1))] g1 e2)
          (zbr ((l2 + 1) = l1)
            (k ((l3 - (l2 + 1)) + 1) g1 e2)
            (hwi d zm_X6_lowestOfLongest k X 9 [(0, .ref l0), (1, .int l1), (2, .int (l2 + 1)), (3, .int (l3 + 1))] g1 e2)))) X)) : hwi d zm_X6_lowestOfLongest k X 9 [(0, .ref l0), (1, .int l1), (2, .int l2), (3, .int l3)] g e := by
  refine zq_iload (pc' := 10) rfl rfl rfl rfl ?_
  refine zq_aload (pc' := 11) rfl rfl rfl rfl ?_
  refine zq_getI (pc' := 14) rfl rfl rfl (hp_gI (hk_of hl0 rfl)) ?_
  refine zq_icge (pc' := 17) rfl rfl rfl rfl (And.intro (fun c => ?_) (fun c => ?_))
  · have H := H.1 c
    refine zq_ipushn (pc' := 55) rfl rfl rfl ?_
    exact zq_iret rfl trivial (Exists.intro _ (Exists.intro _ (And.intro rfl H)))
  · have H := H.2 c
    refine zq_aload (pc' := 18) rfl rfl rfl rfl ?_
    refine zq_iload (pc' := 19) rfl rfl rfl rfl ?_
    refine hq_calli (pc' := 22) rfl rfl rfl rfl rfl rfl h_Xi ?_
    refine hmonoi H ?_
    intro x3 g1 e2 H
    refine zq_ifeq (pc' := 25) rfl rfl rfl rfl (And.intro (fun c => ?_) (fun c => ?_))
    · have H := H.1 c
      refine zq_ipush (pc' := 32) rfl rfl rfl ?_
      refine zq_istore (pc' := 33) rfl rfl rfl ?_
      refine zq_iload (pc' := 34) rfl rfl rfl rfl ?_
      refine zq_ifle (pc' := 37) rfl rfl rfl rfl (And.intro (fun c => ?_) (fun c => ?_))
      · have H := H.1 c
        refine zq_iinc (pc' := 51) rfl rfl rfl rfl ?_
        refine zq_goto_c (pc' := 9) rfl rfl ?_
        exact H
      · have H := H.2 c
        refine zq_iload (pc' := 38) rfl rfl rfl rfl ?_
        refine zq_iload (pc' := 39) rfl rfl rfl rfl ?_
        refine zq_icne (pc' := 42) rfl rfl rfl rfl (And.intro (fun c => ?_) (fun c => ?_))
        · have H := H.1 c
          refine zq_iload (pc' := 43) rfl rfl rfl rfl ?_
          refine zq_iload (pc' := 44) rfl rfl rfl rfl ?_
          refine zq_isub (pc' := 45) rfl rfl rfl ?_
          refine zq_ipush (pc' := 46) rfl rfl rfl ?_
          refine zq_iadd (pc' := 47) rfl rfl rfl ?_
          exact zq_iret rfl trivial (Exists.intro _ (Exists.intro _ (And.intro rfl H)))
        · have H := H.2 c
          refine zq_iinc (pc' := 51) rfl rfl rfl rfl ?_
          refine zq_goto_c (pc' := 9) rfl rfl ?_
          exact H
    · have H := H.2 c
      refine zq_iload (pc' := 26) rfl rfl rfl rfl ?_
      refine zq_ipush (pc' := 27) rfl rfl rfl ?_
      refine zq_iadd (pc' := 28) rfl rfl rfl ?_
      refine zq_goto (pc' := 32) rfl rfl rfl ?_
      refine zq_istore (pc' := 33) rfl rfl rfl ?_
      refine zq_iload (pc' := 34) rfl rfl rfl rfl ?_
      refine zq_ifle (pc' := 37) rfl rfl rfl rfl (And.intro (fun c => ?_) (fun c => ?_))
      · have H := H.1 c
        refine zq_iinc (pc' := 51) rfl rfl rfl rfl ?_
        refine zq_goto_c (pc' := 9) rfl rfl ?_
        exact H
      · have H := H.2 c
        refine zq_iload (pc' := 38) rfl rfl rfl rfl ?_
        refine zq_iload (pc' := 39) rfl rfl rfl rfl ?_
        refine zq_icne (pc' := 42) rfl rfl rfl rfl (And.intro (fun c => ?_) (fun c => ?_))
        · have H := H.1 c
          refine zq_iload (pc' := 43) rfl rfl rfl rfl ?_
          refine zq_iload (pc' := 44) rfl rfl rfl rfl ?_
          refine zq_isub (pc' := 45) rfl rfl rfl ?_
          refine zq_ipush (pc' := 46) rfl rfl rfl ?_
          refine zq_iadd (pc' := 47) rfl rfl rfl ?_
          exact zq_iret rfl trivial (Exists.intro _ (Exists.intro _ (And.intro rfl H)))
        · have H := H.2 c
          refine zq_iinc (pc' := 51) rfl rfl rfl rfl ?_
          refine zq_goto_c (pc' := 9) rfl rfl ?_
          exact H
theorem zh_X6_weakest {d : Nat} {k : Int32 → hG → hE → Prop} {X : Nat → hG → hE → Prop} {p0 : Nat} (hp0 : hT p0 = some hZ) {g : hG} {e : hE} (H :
    hwi d zm_X6_weakest k X 7 [(0, .ref p0), (1, .int (-1)), (2, .int 10), (3, .int 0)] g e) : hci (d + 1) 138 [.ref p0] g e k X := by
  refine hent (M := zm_X6_weakest) hp0 rfl rfl rfl rfl rfl ?_
  refine zq_ipushn (pc' := 1) rfl rfl rfl ?_
  refine zq_istore (pc' := 2) rfl rfl rfl ?_
  refine zq_ipush (pc' := 4) rfl rfl rfl ?_
  refine zq_istore (pc' := 5) rfl rfl rfl ?_
  refine zq_ipush (pc' := 6) rfl rfl rfl ?_
  refine zq_istore_c (pc' := 7) rfl rfl ?_
  exact H
theorem zh_X6_weakest_7 {d : Nat} {k : Int32 → hG → hE → Prop} {X : Nat → hG → hE → Prop} {l0 : Nat} (hl0 : hT l0 = some hZ) {l1 : Int32} {l2 : Int32} {l3 : Int32} {g : hG} {e : hE} (H :
    zbr ((g.1 l0 0) ≤ l3)
    (k l1 g e)
    (hci d 117 [.ref l0, .int l3] g e (fun x3 g1 e2 =>
        zbr (x3 = 0)
        (hwi d zm_X6_weakest k X 7 [(0, .ref l0), (1, .int l1), (2, .int l2), (3, .int (l3 + 1))] g1 e2)
        (hci d 120 [.ref l0, .int l3] g1 e2 (fun x6 g4 e5 =>
            zbr (l2 ≤ x6)
            (hwi d zm_X6_weakest k X 7 [(0, .ref l0), (1, .int l1), (2, .int l2), (3, .int (l3 + 1))] g4 e5)
            (hci d 120 [.ref l0, .int l3] g4 e5 (fun x9 g7 e8 =>
                hwi d zm_X6_weakest k X 7 [(0, .ref l0), (1, .int l3), (2, .int x9), (3, .int (l3 + 1))] g7 e8) X)) X)) X)) : hwi d zm_X6_weakest k X 7 [(0, .ref l0), (1, .int l1), (2, .int l2), (3, .int l3)] g e := by
  refine zq_iload (pc' := 8) rfl rfl rfl rfl ?_
  refine zq_aload (pc' := 9) rfl rfl rfl rfl ?_
  refine zq_getI (pc' := 12) rfl rfl rfl (hp_gI (hk_of hl0 rfl)) ?_
  refine zq_icge (pc' := 15) rfl rfl rfl rfl (And.intro (fun c => ?_) (fun c => ?_))
  · have H := H.1 c
    refine zq_iload (pc' := 47) rfl rfl rfl rfl ?_
    exact zq_iret rfl trivial (Exists.intro _ (Exists.intro _ (And.intro rfl H)))
  · have H := H.2 c
    refine zq_aload (pc' := 16) rfl rfl rfl rfl ?_
    refine zq_iload (pc' := 17) rfl rfl rfl rfl ?_
    refine hq_calli (pc' := 20) rfl rfl rfl rfl rfl rfl h_Xi ?_
    refine hmonoi H ?_
    intro x3 g1 e2 H
    refine zq_ifeq (pc' := 23) rfl rfl rfl rfl (And.intro (fun c => ?_) (fun c => ?_))
    · have H := H.1 c
      refine zq_iinc (pc' := 43) rfl rfl rfl rfl ?_
      refine zq_goto_c (pc' := 7) rfl rfl ?_
      exact H
    · have H := H.2 c
      refine zq_aload (pc' := 24) rfl rfl rfl rfl ?_
      refine zq_iload (pc' := 25) rfl rfl rfl rfl ?_
      refine hq_calli (pc' := 28) rfl rfl rfl rfl rfl rfl h_Xi ?_
      refine hmonoi H ?_
      intro x6 g4 e5 H
      refine zq_iload (pc' := 29) rfl rfl rfl rfl ?_
      refine zq_icge (pc' := 32) rfl rfl rfl rfl (And.intro (fun c => ?_) (fun c => ?_))
      · have H := H.1 c
        refine zq_iinc (pc' := 43) rfl rfl rfl rfl ?_
        refine zq_goto_c (pc' := 7) rfl rfl ?_
        exact H
      · have H := H.2 c
        refine zq_aload (pc' := 33) rfl rfl rfl rfl ?_
        refine zq_iload (pc' := 34) rfl rfl rfl rfl ?_
        refine hq_calli (pc' := 37) rfl rfl rfl rfl rfl rfl h_Xi ?_
        refine hmonoi H ?_
        intro x9 g7 e8 H
        refine zq_istore (pc' := 38) rfl rfl rfl ?_
        refine zq_iload (pc' := 39) rfl rfl rfl rfl ?_
        refine zq_istore (pc' := 40) rfl rfl rfl ?_
        refine zq_iinc (pc' := 43) rfl rfl rfl rfl ?_
        refine zq_goto_c (pc' := 7) rfl rfl ?_
        exact H
theorem zh_X6_stateBits {d : Nat} {k : Int32 → hG → hE → Prop} {X : Nat → hG → hE → Prop} {p0 : Nat} (hp0 : hT p0 = some hZ) {g : hG} {e : hE} (H :
    k ((g.1 p0 4) ||| ((g.1 p0 5) <<< ((16 : Int32) &&& 31))) g e) : hci (d + 1) 139 [.ref p0] g e k X := by
  refine hent (M := zm_X6_stateBits) hp0 rfl rfl rfl rfl rfl ?_
  refine zq_aload (pc' := 1) rfl rfl rfl rfl ?_
  refine zq_getI (pc' := 4) rfl rfl rfl (hp_gI (hk_of hp0 rfl)) ?_
  refine zq_aload (pc' := 5) rfl rfl rfl rfl ?_
  refine zq_getI (pc' := 8) rfl rfl rfl (hp_gI (hk_of hp0 rfl)) ?_
  refine zq_ipush (pc' := 10) rfl rfl rfl ?_
  refine zq_ishl (pc' := 11) rfl rfl rfl ?_
  refine zq_ior (pc' := 12) rfl rfl rfl ?_
  exact zq_iret rfl trivial (Exists.intro _ (Exists.intro _ (And.intro rfl H)))
theorem zh_X6_takeState {d : Nat} {k : hG → hE → Prop} {X : Nat → hG → hE → Prop} {p0 : Nat} (hp0 : hT p0 = some hZ) {p1 : Int64} {p2 : Int64} {p3 : Int32} {g : hG} {e : hE} (H :
    k (sI (sI (sJ (sJ (sI g p0 6 0) p0 2 p1) p0 3 p2) p0 4 (p3 &&& 65535)) p0 5 (p3 >>> ((16 : Int32) &&& 31))) e) : hcv (d + 1) 140 [.ref p0, .long p1, .long p2, .int p3] g e k X := by
  refine hent (M := zm_X6_takeState) hp0 rfl rfl rfl rfl rfl ?_
  refine zq_aload (pc' := 1) rfl rfl rfl rfl ?_
  refine zq_ipush (pc' := 2) rfl rfl rfl ?_
  refine zq_put (pc' := 5) rfl rfl rfl trivial (hp_sI (hk_of hp0 rfl)) ?_
  refine zq_aload (pc' := 6) rfl rfl rfl rfl ?_
  refine zq_lload (pc' := 7) rfl rfl rfl rfl ?_
  refine zq_put (pc' := 10) rfl rfl rfl trivial (hp_sJ (hk_of hp0 rfl)) ?_
  refine zq_aload (pc' := 11) rfl rfl rfl rfl ?_
  refine zq_lload (pc' := 12) rfl rfl rfl rfl ?_
  refine zq_put (pc' := 15) rfl rfl rfl trivial (hp_sJ (hk_of hp0 rfl)) ?_
  refine zq_aload (pc' := 16) rfl rfl rfl rfl ?_
  refine zq_iload (pc' := 18) rfl rfl rfl rfl ?_
  refine zq_ipush (pc' := 20) rfl rfl rfl ?_
  refine zq_iand (pc' := 21) rfl rfl rfl ?_
  refine zq_put (pc' := 24) rfl rfl rfl trivial (hp_sI (hk_of hp0 rfl)) ?_
  refine zq_aload (pc' := 25) rfl rfl rfl rfl ?_
  refine zq_iload (pc' := 27) rfl rfl rfl rfl ?_
  refine zq_ipush (pc' := 29) rfl rfl rfl ?_
  refine zq_ishr (pc' := 30) rfl rfl rfl ?_
  refine zq_put (pc' := 33) rfl rfl rfl trivial (hp_sI (hk_of hp0 rfl)) ?_
  exact zq_vret rfl (Exists.intro _ (Exists.intro _ (And.intro rfl H)))
theorem zh_X6_leftGrips {d : Nat} {k : Int64 → hG → hE → Prop} {X : Nat → hG → hE → Prop} {p0 : Nat} (hp0 : hT p0 = some hZ) {g : hG} {e : hE} (H :
    k (g.2.1 p0 2) g e) : hcj (d + 1) 141 [.ref p0] g e k X := by
  refine hent (M := zm_X6_leftGrips) hp0 rfl rfl rfl rfl rfl ?_
  refine zq_aload (pc' := 1) rfl rfl rfl rfl ?_
  refine zq_getJ (pc' := 4) rfl rfl rfl (hp_gJ (hk_of hp0 rfl)) ?_
  exact zq_lret rfl (Exists.intro _ (Exists.intro _ (And.intro rfl H)))
theorem zh_X6_rightGrips {d : Nat} {k : Int64 → hG → hE → Prop} {X : Nat → hG → hE → Prop} {p0 : Nat} (hp0 : hT p0 = some hZ) {g : hG} {e : hE} (H :
    k (g.2.1 p0 3) g e) : hcj (d + 1) 142 [.ref p0] g e k X := by
  refine hent (M := zm_X6_rightGrips) hp0 rfl rfl rfl rfl rfl ?_
  refine zq_aload (pc' := 1) rfl rfl rfl rfl ?_
  refine zq_getJ (pc' := 4) rfl rfl rfl (hp_gJ (hk_of hp0 rfl)) ?_
  exact zq_lret rfl (Exists.intro _ (Exists.intro _ (And.intro rfl H)))
