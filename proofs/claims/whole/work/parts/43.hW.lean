theorem zh_X0_actCount {d : Nat} {k : Int32 → hG → hE → Prop} {X : Nat → hG → hE → Prop} {p0 : Nat} (hp0 : hB p0) {g : hG} {e : hE} (H :
    k (g.1 p0 1) g e) : hci (d + 1) 17 [.ref p0] g e k X := by
  obtain ⟨fs0, hT0⟩ := hBo hp0
  refine hent (M := zm_X0_actCount) hT0 rfl rfl rfl rfl rfl ?_
  refine zq_aload (pc' := 1) rfl rfl rfl rfl ?_
  refine zq_getI (pc' := 4) rfl rfl rfl (hp_gI (hkB1 hp0)) ?_
  exact zq_iret rfl trivial (Exists.intro _ (Exists.intro _ (And.intro rfl H)))
theorem zh_X0_noteCount {d : Nat} {k : Int32 → hG → hE → Prop} {X : Nat → hG → hE → Prop} {p0 : Nat} (hp0 : hB p0) {g : hG} {e : hE} (H :
    k (g.1 p0 3) g e) : hci (d + 1) 18 [.ref p0] g e k X := by
  obtain ⟨fs0, hT0⟩ := hBo hp0
  refine hent (M := zm_X0_noteCount) hT0 rfl rfl rfl rfl rfl ?_
  refine zq_aload (pc' := 1) rfl rfl rfl rfl ?_
  refine zq_getI (pc' := 4) rfl rfl rfl (hp_gI (hkB3 hp0)) ?_
  exact zq_iret rfl trivial (Exists.intro _ (Exists.intro _ (And.intro rfl H)))
theorem zh_X0_refusedOf {d : Nat} {k : Int32 → hG → hE → Prop} {X : Nat → hG → hE → Prop} {p0 : Nat} (hp0 : hB p0) {p1 : Int32} {g : hG} {e : hE} (H :
    zbr (p1 < 0)
    (k 0 g e)
    (zbr ((nI 3) ≤ p1)
      (k 0 g e)
      (hin p1 3 ∧
        k (g.1 (p0 + 3) p1.toNatClampNeg) g e))) : hci (d + 1) 19 [.ref p0, .int p1] g e k X := by
  obtain ⟨fs0, hT0⟩ := hBo hp0
  refine hent (M := zm_X0_refusedOf) hT0 rfl rfl rfl rfl rfl ?_
  refine zq_iload (pc' := 1) rfl rfl rfl rfl ?_
  refine zq_iflt (pc' := 4) rfl rfl rfl rfl (And.intro (fun c => ?_) (fun c => ?_))
  · have H := H.1 c
    refine zq_ipush (pc' := 23) rfl rfl rfl ?_
    exact zq_iret rfl trivial (Exists.intro _ (Exists.intro _ (And.intro rfl H)))
  · have H := H.2 c
    refine zq_iload (pc' := 5) rfl rfl rfl rfl ?_
    refine zq_aload (pc' := 6) rfl rfl rfl rfl ?_
    refine zq_getR (pc' := 9) rfl rfl rfl (hp_gC (hkB4 hp0)) ?_
    refine zq_alen (pc' := 10) rfl rfl rfl (hp_al (hTB3 hp0) rfl) ?_
    refine zq_icge (pc' := 13) rfl rfl rfl rfl (And.intro (fun c => ?_) (fun c => ?_))
    · have H := H.1 c
      refine zq_ipush (pc' := 23) rfl rfl rfl ?_
      exact zq_iret rfl trivial (Exists.intro _ (Exists.intro _ (And.intro rfl H)))
    · have H := H.2 c
      refine zq_aload (pc' := 14) rfl rfl rfl rfl ?_
      refine zq_getR (pc' := 17) rfl rfl rfl (hp_gC (hkB4 hp0)) ?_
      refine zq_iload (pc' := 18) rfl rfl rfl rfl ?_
      obtain ⟨hi1, H⟩ := H
      refine zq_iald (pc' := 19) rfl rfl rfl (hp_ia (hTB3 hp0) hi1) ?_
      refine zq_goto (pc' := 23) rfl rfl rfl ?_
      exact zq_iret rfl trivial (Exists.intro _ (Exists.intro _ (And.intro rfl H)))
theorem zh_X0_refuse {d : Nat} {k : hG → hE → Prop} {X : Nat → hG → hE → Prop} {p0 : Nat} (hp0 : hB p0) {p1 : Int32} {g : hG} {e : hE} (H :
    zbr (p1 < 0)
    (k g e)
    (zbr ((nI 3) ≤ p1)
      (k g e)
      (hin p1 3 ∧
        hin p1 3 ∧
        k (sI g (p0 + 3) p1.toNatClampNeg ((g.1 (p0 + 3) p1.toNatClampNeg) + 1)) e))) : hcv (d + 1) 20 [.ref p0, .int p1] g e k X := by
  obtain ⟨fs0, hT0⟩ := hBo hp0
  refine hent (M := zm_X0_refuse) hT0 rfl rfl rfl rfl rfl ?_
  refine zq_iload (pc' := 1) rfl rfl rfl rfl ?_
  refine zq_iflt (pc' := 4) rfl rfl rfl rfl (And.intro (fun c => ?_) (fun c => ?_))
  · have H := H.1 c
    exact zq_vret rfl (Exists.intro _ (Exists.intro _ (And.intro rfl H)))
  · have H := H.2 c
    refine zq_iload (pc' := 5) rfl rfl rfl rfl ?_
    refine zq_aload (pc' := 6) rfl rfl rfl rfl ?_
    refine zq_getR (pc' := 9) rfl rfl rfl (hp_gC (hkB4 hp0)) ?_
    refine zq_alen (pc' := 10) rfl rfl rfl (hp_al (hTB3 hp0) rfl) ?_
    refine zq_icge (pc' := 13) rfl rfl rfl rfl (And.intro (fun c => ?_) (fun c => ?_))
    · have H := H.1 c
      exact zq_vret rfl (Exists.intro _ (Exists.intro _ (And.intro rfl H)))
    · have H := H.2 c
      refine zq_aload (pc' := 14) rfl rfl rfl rfl ?_
      refine zq_getR (pc' := 17) rfl rfl rfl (hp_gC (hkB4 hp0)) ?_
      refine zq_iload (pc' := 18) rfl rfl rfl rfl ?_
      refine zq_dup2 (pc' := 19) rfl rfl rfl rfl rfl ?_
      obtain ⟨hi1, H⟩ := H
      refine zq_iald (pc' := 20) rfl rfl rfl (hp_ia (hTB3 hp0) hi1) ?_
      refine zq_ipush (pc' := 21) rfl rfl rfl ?_
      refine zq_iadd (pc' := 22) rfl rfl rfl ?_
      obtain ⟨hi2, H⟩ := H
      refine zq_iast (pc' := 23) rfl rfl rfl (hp_is (hTB3 hp0) hi2) ?_
      exact zq_vret rfl (Exists.intro _ (Exists.intro _ (And.intro rfl H)))
theorem zh_X0_dropActs {d : Nat} {k : hG → hE → Prop} {X : Nat → hG → hE → Prop} {p0 : Nat} (hp0 : hB p0) {g : hG} {e : hE} (H :
    k (sI g p0 1 0) e) : hcv (d + 1) 21 [.ref p0] g e k X := by
  obtain ⟨fs0, hT0⟩ := hBo hp0
  refine hent (M := zm_X0_dropActs) hT0 rfl rfl rfl rfl rfl ?_
  refine zq_aload (pc' := 1) rfl rfl rfl rfl ?_
  refine zq_ipush (pc' := 2) rfl rfl rfl ?_
  refine zq_put (pc' := 5) rfl rfl rfl trivial (hp_sI (hkB1 hp0)) ?_
  exact zq_vret rfl (Exists.intro _ (Exists.intro _ (And.intro rfl H)))
theorem zh_X0_dropNotes {d : Nat} {k : hG → hE → Prop} {X : Nat → hG → hE → Prop} {p0 : Nat} (hp0 : hB p0) {g : hG} {e : hE} (H :
    k (sI g p0 3 0) e) : hcv (d + 1) 22 [.ref p0] g e k X := by
  obtain ⟨fs0, hT0⟩ := hBo hp0
  refine hent (M := zm_X0_dropNotes) hT0 rfl rfl rfl rfl rfl ?_
  refine zq_aload (pc' := 1) rfl rfl rfl rfl ?_
  refine zq_ipush (pc' := 2) rfl rfl rfl ?_
  refine zq_put (pc' := 5) rfl rfl rfl trivial (hp_sI (hkB3 hp0)) ?_
  exact zq_vret rfl (Exists.intro _ (Exists.intro _ (And.intro rfl H)))
theorem zh_X0_beginAct {d : Nat} {k : hG → hE → Prop} {X : Nat → hG → hE → Prop} {p0 : Nat} (hp0 : hB p0) {p1 : Nat} (hp1 : hD p1) {g : hG} {e : hE} (H :
    zbr ((g.1 p0 1) < 40)
    (hwv d zm_X0_beginAct k X 32 [(0, .ref p0), (1, .ref p1)] g e)
    (hcpin (13 : Int32) (0 : Int32) (507 : Int32) 520 520 ∧
      ∀ g2, g2 = aJ g (p0 + 1) (va_cpy (g.2.1 (p0 + 1)) (g.2.1 (p0 + 1)) (13 : Int32).toNatClampNeg (0 : Int32).toNatClampNeg (507 : Int32).toNatClampNeg) →
      hwv d zm_X0_beginAct k X 32 [(0, .ref p0), (1, .ref p1)] (sI g2 p0 1 39) e)) : hcv (d + 1) 23 [.ref p0, .ref p1] g e k X := by
  obtain ⟨fs0, hT0⟩ := hBo hp0
  refine hent (M := zm_X0_beginAct) hT0 rfl rfl rfl rfl rfl ?_
  refine zq_aload (pc' := 1) rfl rfl rfl rfl ?_
  refine zq_getI (pc' := 4) rfl rfl rfl (hp_gI (hkB1 hp0)) ?_
  refine zq_ipush (pc' := 6) rfl rfl rfl ?_
  refine zq_iclt_c (pc' := 9) (lt := [(0, .ref p0), (1, .ref p1)]) (lf := [(0, .ref p0), (1, .ref p1)]) rfl rfl rfl rfl (And.intro (fun c => ?_) (fun c => ?_))
  · have H := H.1 c
    exact H
  · have H := H.2 c
    refine zq_aload (pc' := 10) rfl rfl rfl rfl ?_
    refine zq_getR (pc' := 13) rfl rfl rfl (hp_gC (hkB0 hp0)) ?_
    refine zq_ipush (pc' := 15) rfl rfl rfl ?_
    refine zq_aload (pc' := 16) rfl rfl rfl rfl ?_
    refine zq_getR (pc' := 19) rfl rfl rfl (hp_gC (hkB0 hp0)) ?_
    refine zq_ipush (pc' := 20) rfl rfl rfl ?_
    refine zq_ipush (pc' := 23) rfl rfl rfl ?_
    obtain ⟨hi1, H⟩ := H
    refine zq_cpj (pc' := 26) rfl rfl rfl rfl (hp_cj (hTB1 hp0) (hTB1 hp0) hi1) ?_
    have H := H _ rfl
    refine zq_aload (pc' := 27) rfl rfl rfl rfl ?_
    refine zq_ipush (pc' := 29) rfl rfl rfl ?_
    refine zq_put_c (pc' := 32) rfl rfl trivial (hp_sI (hkB1 hp0)) ?_
    exact H
theorem zh_X0_beginAct_32 {d : Nat} {k : hG → hE → Prop} {X : Nat → hG → hE → Prop} {l0 : Nat} (hl0 : hB l0) {l1 : Nat} (hl1 : hD l1) {g : hG} {e : hE} (H :
    hcv d 27 [.ref l1, .ref (l0 + 1), .int ((g.1 l0 1) * 13)] g e (fun g1 e2 =>
      k (sI g1 l0 1 ((g1.1 l0 1) + 1)) e2) X) : hwv d zm_X0_beginAct k X 32 [(0, .ref l0), (1, .ref l1)] g e := by
  refine zq_aload (pc' := 33) rfl rfl rfl rfl ?_
  refine zq_aload (pc' := 34) rfl rfl rfl rfl ?_
  refine zq_getR (pc' := 37) rfl rfl rfl (hp_gC (hkB0 hl0)) ?_
  refine zq_aload (pc' := 38) rfl rfl rfl rfl ?_
  refine zq_getI (pc' := 41) rfl rfl rfl (hp_gI (hkB1 hl0)) ?_
  refine zq_ipush (pc' := 43) rfl rfl rfl ?_
  refine zq_imul (pc' := 44) rfl rfl rfl ?_
  refine hq_callv (pc' := 47) rfl rfl rfl rfl rfl rfl h_Xv ?_
  refine hmonov H ?_
  intro g1 e2 H
  refine zq_aload (pc' := 48) rfl rfl rfl rfl ?_
  refine zq_dup (pc' := 49) rfl rfl rfl rfl ?_
  refine zq_getI (pc' := 52) rfl rfl rfl (hp_gI (hkB1 hl0)) ?_
  refine zq_ipush (pc' := 53) rfl rfl rfl ?_
  refine zq_iadd (pc' := 54) rfl rfl rfl ?_
  refine zq_put (pc' := 57) rfl rfl rfl trivial (hp_sI (hkB1 hl0)) ?_
  exact zq_vret rfl (Exists.intro _ (Exists.intro _ (And.intro rfl H)))
theorem zh_X0_undoAct {d : Nat} {k : Int32 → hG → hE → Prop} {X : Nat → hG → hE → Prop} {p0 : Nat} (hp0 : hB p0) {p1 : Nat} (hp1 : hD p1) {g : hG} {e : hE} (H :
    zbr (0 < (g.1 p0 1))
    (hcv d 28 [.ref p1, .ref (p0 + 1), .int (((sI g p0 1 ((g.1 p0 1) - 1)).1 p0 1) * 13)] (sI g p0 1 ((g.1 p0 1) - 1)) e (fun g1 e2 =>
        k 1 g1 e2) X)
    (k 0 g e)) : hci (d + 1) 24 [.ref p0, .ref p1] g e k X := by
  obtain ⟨fs0, hT0⟩ := hBo hp0
  refine hent (M := zm_X0_undoAct) hT0 rfl rfl rfl rfl rfl ?_
  refine zq_aload (pc' := 1) rfl rfl rfl rfl ?_
  refine zq_getI (pc' := 4) rfl rfl rfl (hp_gI (hkB1 hp0)) ?_
  refine zq_ifgt (pc' := 7) rfl rfl rfl rfl (And.intro (fun c => ?_) (fun c => ?_))
  · have H := H.1 c
    refine zq_aload (pc' := 10) rfl rfl rfl rfl ?_
    refine zq_dup (pc' := 11) rfl rfl rfl rfl ?_
    refine zq_getI (pc' := 14) rfl rfl rfl (hp_gI (hkB1 hp0)) ?_
    refine zq_ipush (pc' := 15) rfl rfl rfl ?_
    refine zq_isub (pc' := 16) rfl rfl rfl ?_
    refine zq_put (pc' := 19) rfl rfl rfl trivial (hp_sI (hkB1 hp0)) ?_
    refine zq_aload (pc' := 20) rfl rfl rfl rfl ?_
    refine zq_aload (pc' := 21) rfl rfl rfl rfl ?_
    refine zq_getR (pc' := 24) rfl rfl rfl (hp_gC (hkB0 hp0)) ?_
    refine zq_aload (pc' := 25) rfl rfl rfl rfl ?_
    refine zq_getI (pc' := 28) rfl rfl rfl (hp_gI (hkB1 hp0)) ?_
    refine zq_ipush (pc' := 30) rfl rfl rfl ?_
    refine zq_imul (pc' := 31) rfl rfl rfl ?_
    refine hq_callv (pc' := 34) rfl rfl rfl rfl rfl rfl h_Xi ?_
    refine hmonov H ?_
    intro g1 e2 H
    refine zq_ipush (pc' := 35) rfl rfl rfl ?_
    exact zq_iret rfl (Or.inr rfl) (Exists.intro _ (Exists.intro _ (And.intro rfl H)))
  · have H := H.2 c
    refine zq_ipush (pc' := 8) rfl rfl rfl ?_
    exact zq_iret rfl (Or.inl rfl) (Exists.intro _ (Exists.intro _ (And.intro rfl H)))
theorem zh_X0_writeNow {d : Nat} {k : hG → hE → Prop} {X : Nat → hG → hE → Prop} {p0 : Nat} (hp0 : hB p0) {p1 : Nat} (hp1 : hD p1) {g : hG} {e : hE} (H :
    hcv d 27 [.ref p1, .ref (p0 + 4), .int 0] g e (fun g1 e2 =>
      k g1 e2) X) : hcv (d + 1) 25 [.ref p0, .ref p1] g e k X := by
  obtain ⟨fs0, hT0⟩ := hBo hp0
  refine hent (M := zm_X0_writeNow) hT0 rfl rfl rfl rfl rfl ?_
  refine zq_aload (pc' := 1) rfl rfl rfl rfl ?_
  refine zq_aload (pc' := 2) rfl rfl rfl rfl ?_
  refine zq_getR (pc' := 5) rfl rfl rfl (hp_gC (hkB5 hp0)) ?_
  refine zq_ipush (pc' := 6) rfl rfl rfl ?_
  refine hq_callv (pc' := 9) rfl rfl rfl rfl rfl rfl h_Xv ?_
  refine hmonov H ?_
  intro g1 e2 H
  exact zq_vret rfl (Exists.intro _ (Exists.intro _ (And.intro rfl H)))
theorem zh_X0_readNow {d : Nat} {k : hG → hE → Prop} {X : Nat → hG → hE → Prop} {p0 : Nat} (hp0 : hB p0) {p1 : Nat} (hp1 : hD p1) {g : hG} {e : hE} (H :
    hcv d 28 [.ref p1, .ref (p0 + 4), .int 0] g e (fun g1 e2 =>
      k g1 e2) X) : hcv (d + 1) 26 [.ref p0, .ref p1] g e k X := by
  obtain ⟨fs0, hT0⟩ := hBo hp0
  refine hent (M := zm_X0_readNow) hT0 rfl rfl rfl rfl rfl ?_
  refine zq_aload (pc' := 1) rfl rfl rfl rfl ?_
  refine zq_aload (pc' := 2) rfl rfl rfl rfl ?_
  refine zq_getR (pc' := 5) rfl rfl rfl (hp_gC (hkB5 hp0)) ?_
  refine zq_ipush (pc' := 6) rfl rfl rfl ?_
  refine hq_callv (pc' := 9) rfl rfl rfl rfl rfl rfl h_Xv ?_
  refine hmonov H ?_
  intro g1 e2 H
  exact zq_vret rfl (Exists.intro _ (Exists.intro _ (And.intro rfl H)))
theorem zh_X0_write {d : Nat} {k : hG → hE → Prop} {X : Nat → hG → hE → Prop} {p0 : Nat} (hp0 : hD p0) {p1 np1 : Nat} (hp1 : hT p1 = some (.inl (1, np1))) {p2 : Int32} {g : hG} {e : hE} (H :
    zbr (p2 < 0)
    (k g e)
    (zbr ((p2 + 13) ≤ (nI np1))
      (hwv d zm_X0_write k X 16 [(0, .ref p0), (1, .ref p1), (2, .int p2), (3, .int 0)] g e)
      (k g e))) : hcv (d + 1) 27 [.ref p0, .ref p1, .int p2] g e k X := by
  refine hentS (M := zm_X0_write) rfl rfl rfl rfl ?_
  refine zq_iload (pc' := 1) rfl rfl rfl rfl ?_
  refine zq_iflt (pc' := 4) rfl rfl rfl rfl (And.intro (fun c => ?_) (fun c => ?_))
  · have H := H.1 c
    exact zq_vret rfl (Exists.intro _ (Exists.intro _ (And.intro rfl H)))
  · have H := H.2 c
    refine zq_iload (pc' := 5) rfl rfl rfl rfl ?_
    refine zq_ipush (pc' := 7) rfl rfl rfl ?_
    refine zq_iadd (pc' := 8) rfl rfl rfl ?_
    refine zq_aload (pc' := 9) rfl rfl rfl rfl ?_
    refine zq_alen (pc' := 10) rfl rfl rfl (hp_al hp1 rfl) ?_
    refine zq_icle (pc' := 13) rfl rfl rfl rfl (And.intro (fun c => ?_) (fun c => ?_))
    · have H := H.1 c
      refine zq_ipush (pc' := 15) rfl rfl rfl ?_
      refine zq_istore_c (pc' := 16) rfl rfl ?_
      exact H
    · have H := H.2 c
      exact zq_vret rfl (Exists.intro _ (Exists.intro _ (And.intro rfl H)))
theorem zh_X0_write_16 {d : Nat} {k : hG → hE → Prop} {X : Nat → hG → hE → Prop} {l0 : Nat} (hl0 : hD l0) {l1 nl1 : Nat} (hl1 : hT l1 = some (.inl (1, nl1))) {l2 : Int32} {l3 : Int32} {g : hG} {e : hE} (H :
    hci d 46 [.ref l0] g e (fun x3 g1 e2 =>
      zbr (x3 ≤ l3)
      (hci d 49 [.ref l0] g1 e2 (fun x6 g4 e5 =>
          hin ((l2 + 13) - 1) nl1 ∧
          k (sJ g4 l1 ((l2 + 13) - 1).toNatClampNeg ((x6 : Int32).toInt64)) e5) X)
      (zbr (4 ≤ l3)
        (hci d 49 [.ref l0] g1 e2 (fun x10 g8 e9 =>
            hin ((l2 + 13) - 1) nl1 ∧
            k (sJ g8 l1 ((l2 + 13) - 1).toNatClampNeg ((x10 : Int32).toInt64)) e9) X)
        (hcr d 48 [.ref l0, .int l3] g1 e2 (fun a14 g12 e13 =>
            hT a14 = some hZ ∧ hcj d 141 [.ref a14] g12 e13 (fun y18 g16 e17 =>
              hin (l2 + (3 * l3)) nl1 ∧
              hcj d 142 [.ref a14] (sJ g16 l1 (l2 + (3 * l3)).toNatClampNeg y18) e17 (fun y22 g20 e21 =>
                hin ((l2 + (3 * l3)) + 1) nl1 ∧
                hci d 139 [.ref a14] (sJ g20 l1 ((l2 + (3 * l3)) + 1).toNatClampNeg y22) e21 (fun x26 g24 e25 =>
                  hin ((l2 + (3 * l3)) + 2) nl1 ∧
                  hwv d zm_X0_write k X 16 [(0, .ref l0), (1, .ref l1), (2, .int l2), (3, .int (l3 + 1))] (sJ g24 l1 ((l2 + (3 * l3)) + 2).toNatClampNeg ((x26 : Int32).toInt64)) e25) X) X) X) X))) X) : hwv d zm_X0_write k X 16 [(0, .ref l0), (1, .ref l1), (2, .int l2), (3, .int l3)] g e := by
  refine zq_iload (pc' := 17) rfl rfl rfl rfl ?_
  refine zq_aload (pc' := 18) rfl rfl rfl rfl ?_
  refine hq_calli (pc' := 21) rfl rfl rfl rfl rfl rfl h_Xv ?_
  refine hmonoi H ?_
  intro x3 g1 e2 H
  refine zq_icge (pc' := 24) rfl rfl rfl rfl (And.intro (fun c => ?_) (fun c => ?_))
  · have H := H.1 c
    refine zq_aload (pc' := 84) rfl rfl rfl rfl ?_
    refine zq_iload (pc' := 85) rfl rfl rfl rfl ?_
    refine zq_ipush (pc' := 87) rfl rfl rfl ?_
    refine zq_iadd (pc' := 88) rfl rfl rfl ?_
    refine zq_ipush (pc' := 89) rfl rfl rfl ?_
    refine zq_isub (pc' := 90) rfl rfl rfl ?_
    refine zq_aload (pc' := 91) rfl rfl rfl rfl ?_
    refine hq_calli (pc' := 94) rfl rfl rfl rfl rfl rfl h_Xv ?_
    refine hmonoi H ?_
    intro x6 g4 e5 H
    refine zq_i2l (pc' := 95) rfl rfl rfl ?_
    obtain ⟨hi7, H⟩ := H
    refine zq_last (pc' := 96) rfl rfl rfl (hp_js hl1 hi7) ?_
    exact zq_vret rfl (Exists.intro _ (Exists.intro _ (And.intro rfl H)))
  · have H := H.2 c
    refine zq_iload (pc' := 25) rfl rfl rfl rfl ?_
    refine zq_ipush (pc' := 26) rfl rfl rfl ?_
    refine zq_icge (pc' := 29) rfl rfl rfl rfl (And.intro (fun c => ?_) (fun c => ?_))
    · have H := H.1 c
      refine zq_aload (pc' := 84) rfl rfl rfl rfl ?_
      refine zq_iload (pc' := 85) rfl rfl rfl rfl ?_
      refine zq_ipush (pc' := 87) rfl rfl rfl ?_
      refine zq_iadd (pc' := 88) rfl rfl rfl ?_
      refine zq_ipush (pc' := 89) rfl rfl rfl ?_
      refine zq_isub (pc' := 90) rfl rfl rfl ?_
      refine zq_aload (pc' := 91) rfl rfl rfl rfl ?_
      refine hq_calli (pc' := 94) rfl rfl rfl rfl rfl rfl h_Xv ?_
      refine hmonoi H ?_
      intro x10 g8 e9 H
      refine zq_i2l (pc' := 95) rfl rfl rfl ?_
      obtain ⟨hi11, H⟩ := H
      refine zq_last (pc' := 96) rfl rfl rfl (hp_js hl1 hi11) ?_
      exact zq_vret rfl (Exists.intro _ (Exists.intro _ (And.intro rfl H)))
    · have H := H.2 c
      refine zq_aload (pc' := 30) rfl rfl rfl rfl ?_
      refine zq_iload (pc' := 31) rfl rfl rfl rfl ?_
      refine hq_callr (pc' := 34) rfl rfl rfl rfl rfl rfl h_Xv ?_
      refine hmonor H ?_
      intro a14 g12 e13 H
      obtain ⟨hx15, H⟩ := H
      refine zq_astore (pc' := 36) rfl rfl rfl ?_
      refine zq_aload (pc' := 37) rfl rfl rfl rfl ?_
      refine zq_iload (pc' := 38) rfl rfl rfl rfl ?_
      refine zq_ipush (pc' := 39) rfl rfl rfl ?_
      refine zq_iload (pc' := 40) rfl rfl rfl rfl ?_
      refine zq_imul (pc' := 41) rfl rfl rfl ?_
      refine zq_iadd (pc' := 42) rfl rfl rfl ?_
      refine zq_aload (pc' := 44) rfl rfl rfl rfl ?_
      refine hq_callj (pc' := 47) rfl rfl rfl rfl rfl rfl h_Xv ?_
      refine hmonoj H ?_
      intro y18 g16 e17 H
      obtain ⟨hi19, H⟩ := H
      refine zq_last (pc' := 48) rfl rfl rfl (hp_js hl1 hi19) ?_
      refine zq_aload (pc' := 49) rfl rfl rfl rfl ?_
      refine zq_iload (pc' := 50) rfl rfl rfl rfl ?_
      refine zq_ipush (pc' := 51) rfl rfl rfl ?_
      refine zq_iload (pc' := 52) rfl rfl rfl rfl ?_
      refine zq_imul (pc' := 53) rfl rfl rfl ?_
      refine zq_iadd (pc' := 54) rfl rfl rfl ?_
      refine zq_ipush (pc' := 55) rfl rfl rfl ?_
      refine zq_iadd (pc' := 56) rfl rfl rfl ?_
      refine zq_aload (pc' := 58) rfl rfl rfl rfl ?_
      refine hq_callj (pc' := 61) rfl rfl rfl rfl rfl rfl h_Xv ?_
      refine hmonoj H ?_
      intro y22 g20 e21 H
      obtain ⟨hi23, H⟩ := H
      refine zq_last (pc' := 62) rfl rfl rfl (hp_js hl1 hi23) ?_
      refine zq_aload (pc' := 63) rfl rfl rfl rfl ?_
      refine zq_iload (pc' := 64) rfl rfl rfl rfl ?_
      refine zq_ipush (pc' := 65) rfl rfl rfl ?_
      refine zq_iload (pc' := 66) rfl rfl rfl rfl ?_
      refine zq_imul (pc' := 67) rfl rfl rfl ?_
      refine zq_iadd (pc' := 68) rfl rfl rfl ?_
      refine zq_ipush (pc' := 69) rfl rfl rfl ?_
      refine zq_iadd (pc' := 70) rfl rfl rfl ?_
      refine zq_aload (pc' := 72) rfl rfl rfl rfl ?_
      refine hq_calli (pc' := 75) rfl rfl rfl rfl rfl rfl h_Xv ?_
      refine hmonoi H ?_
      intro x26 g24 e25 H
      refine zq_i2l (pc' := 76) rfl rfl rfl ?_
      obtain ⟨hi27, H⟩ := H
      refine zq_last (pc' := 77) rfl rfl rfl (hp_js hl1 hi27) ?_
      refine zq_iinc (pc' := 80) rfl rfl rfl rfl ?_
      refine zq_goto_c (pc' := 16) rfl rfl ?_
      exact H
theorem zh_X0_read {d : Nat} {k : hG → hE → Prop} {X : Nat → hG → hE → Prop} {p0 : Nat} (hp0 : hD p0) {p1 np1 : Nat} (hp1 : hT p1 = some (.inl (1, np1))) {p2 : Int32} {g : hG} {e : hE} (H :
    zbr (p2 < 0)
    (k g e)
    (zbr ((p2 + 13) ≤ (nI np1))
      (hwv d zm_X0_read k X 16 [(0, .ref p0), (1, .ref p1), (2, .int p2), (3, .int 0)] g e)
      (k g e))) : hcv (d + 1) 28 [.ref p0, .ref p1, .int p2] g e k X := by
  refine hentS (M := zm_X0_read) rfl rfl rfl rfl ?_
  refine zq_iload (pc' := 1) rfl rfl rfl rfl ?_
  refine zq_iflt (pc' := 4) rfl rfl rfl rfl (And.intro (fun c => ?_) (fun c => ?_))
  · have H := H.1 c
    exact zq_vret rfl (Exists.intro _ (Exists.intro _ (And.intro rfl H)))
  · have H := H.2 c
    refine zq_iload (pc' := 5) rfl rfl rfl rfl ?_
    refine zq_ipush (pc' := 7) rfl rfl rfl ?_
    refine zq_iadd (pc' := 8) rfl rfl rfl ?_
    refine zq_aload (pc' := 9) rfl rfl rfl rfl ?_
    refine zq_alen (pc' := 10) rfl rfl rfl (hp_al hp1 rfl) ?_
    refine zq_icle (pc' := 13) rfl rfl rfl rfl (And.intro (fun c => ?_) (fun c => ?_))
    · have H := H.1 c
      refine zq_ipush (pc' := 15) rfl rfl rfl ?_
      refine zq_istore_c (pc' := 16) rfl rfl ?_
      exact H
    · have H := H.2 c
      exact zq_vret rfl (Exists.intro _ (Exists.intro _ (And.intro rfl H)))
theorem zh_X0_read_16 {d : Nat} {k : hG → hE → Prop} {X : Nat → hG → hE → Prop} {l0 : Nat} (hl0 : hD l0) {l1 nl1 : Nat} (hl1 : hT l1 = some (.inl (1, nl1))) {l2 : Int32} {l3 : Int32} {g : hG} {e : hE} (H :
    hci d 46 [.ref l0] g e (fun x3 g1 e2 =>
      zbr (x3 ≤ l3)
      (hin ((l2 + 13) - 1) nl1 ∧
        hcv d 50 [.ref l0, .int ((g1.2.1 l1 ((l2 + 13) - 1).toNatClampNeg : Int64).toInt32)] g1 e2 (fun g5 e6 =>
          k g5 e6) X)
      (zbr (4 ≤ l3)
        (hin ((l2 + 13) - 1) nl1 ∧
          hcv d 50 [.ref l0, .int ((g1.2.1 l1 ((l2 + 13) - 1).toNatClampNeg : Int64).toInt32)] g1 e2 (fun g8 e9 =>
            k g8 e9) X)
        (hin ((l2 + (3 * l3)) + 2) nl1 ∧
          hcr d 48 [.ref l0, .int l3] g1 e2 (fun a13 g11 e12 =>
            hT a13 = some hZ ∧ hin (l2 + (3 * l3)) nl1 ∧
            hin ((l2 + (3 * l3)) + 1) nl1 ∧
            hcv d 140 [.ref a13, .long (g11.2.1 l1 (l2 + (3 * l3)).toNatClampNeg), .long (g11.2.1 l1 ((l2 + (3 * l3)) + 1).toNatClampNeg), .int ((g1.2.1 l1 ((l2 + (3 * l3)) + 2).toNatClampNeg : Int64).toInt32)] g11 e12 (fun g17 e18 =>
              hwv d zm_X0_read k X 16 [(0, .ref l0), (1, .ref l1), (2, .int l2), (3, .int (l3 + 1))] g17 e18) X) X))) X) : hwv d zm_X0_read k X 16 [(0, .ref l0), (1, .ref l1), (2, .int l2), (3, .int l3)] g e := by
  refine zq_iload (pc' := 17) rfl rfl rfl rfl ?_
  refine zq_aload (pc' := 18) rfl rfl rfl rfl ?_
  refine hq_calli (pc' := 21) rfl rfl rfl rfl rfl rfl h_Xv ?_
  refine hmonoi H ?_
  intro x3 g1 e2 H
  refine zq_icge (pc' := 24) rfl rfl rfl rfl (And.intro (fun c => ?_) (fun c => ?_))
  · have H := H.1 c
    refine zq_aload (pc' := 74) rfl rfl rfl rfl ?_
    refine zq_aload (pc' := 75) rfl rfl rfl rfl ?_
    refine zq_iload (pc' := 76) rfl rfl rfl rfl ?_
    refine zq_ipush (pc' := 78) rfl rfl rfl ?_
    refine zq_iadd (pc' := 79) rfl rfl rfl ?_
    refine zq_ipush (pc' := 80) rfl rfl rfl ?_
    refine zq_isub (pc' := 81) rfl rfl rfl ?_
    obtain ⟨hi4, H⟩ := H
    refine zq_lald (pc' := 82) rfl rfl rfl (hp_la hl1 hi4) ?_
    refine zq_l2i (pc' := 83) rfl rfl rfl ?_
    refine hq_callv (pc' := 86) rfl rfl rfl rfl rfl rfl h_Xv ?_
    refine hmonov H ?_
    intro g5 e6 H
    exact zq_vret rfl (Exists.intro _ (Exists.intro _ (And.intro rfl H)))
  · have H := H.2 c
    refine zq_iload (pc' := 25) rfl rfl rfl rfl ?_
    refine zq_ipush (pc' := 26) rfl rfl rfl ?_
    refine zq_icge (pc' := 29) rfl rfl rfl rfl (And.intro (fun c => ?_) (fun c => ?_))
    · have H := H.1 c
      refine zq_aload (pc' := 74) rfl rfl rfl rfl ?_
      refine zq_aload (pc' := 75) rfl rfl rfl rfl ?_
      refine zq_iload (pc' := 76) rfl rfl rfl rfl ?_
      refine zq_ipush (pc' := 78) rfl rfl rfl ?_
      refine zq_iadd (pc' := 79) rfl rfl rfl ?_
      refine zq_ipush (pc' := 80) rfl rfl rfl ?_
      refine zq_isub (pc' := 81) rfl rfl rfl ?_
      obtain ⟨hi7, H⟩ := H
      refine zq_lald (pc' := 82) rfl rfl rfl (hp_la hl1 hi7) ?_
      refine zq_l2i (pc' := 83) rfl rfl rfl ?_
      refine hq_callv (pc' := 86) rfl rfl rfl rfl rfl rfl h_Xv ?_
      refine hmonov H ?_
      intro g8 e9 H
      exact zq_vret rfl (Exists.intro _ (Exists.intro _ (And.intro rfl H)))
    · have H := H.2 c
      refine zq_aload (pc' := 30) rfl rfl rfl rfl ?_
      refine zq_iload (pc' := 31) rfl rfl rfl rfl ?_
      refine zq_ipush (pc' := 32) rfl rfl rfl ?_
      refine zq_iload (pc' := 33) rfl rfl rfl rfl ?_
      refine zq_imul (pc' := 34) rfl rfl rfl ?_
      refine zq_iadd (pc' := 35) rfl rfl rfl ?_
      refine zq_ipush (pc' := 36) rfl rfl rfl ?_
      refine zq_iadd (pc' := 37) rfl rfl rfl ?_
      obtain ⟨hi10, H⟩ := H
      refine zq_lald (pc' := 38) rfl rfl rfl (hp_la hl1 hi10) ?_
      refine zq_l2i (pc' := 39) rfl rfl rfl ?_
      refine zq_istore (pc' := 41) rfl rfl rfl ?_
      refine zq_aload (pc' := 42) rfl rfl rfl rfl ?_
      refine zq_iload (pc' := 43) rfl rfl rfl rfl ?_
      refine hq_callr (pc' := 46) rfl rfl rfl rfl rfl rfl h_Xv ?_
      refine hmonor H ?_
      intro a13 g11 e12 H
      obtain ⟨hx14, H⟩ := H
      refine zq_aload (pc' := 47) rfl rfl rfl rfl ?_
      refine zq_iload (pc' := 48) rfl rfl rfl rfl ?_
      refine zq_ipush (pc' := 49) rfl rfl rfl ?_
      refine zq_iload (pc' := 50) rfl rfl rfl rfl ?_
      refine zq_imul (pc' := 51) rfl rfl rfl ?_
      refine zq_iadd (pc' := 52) rfl rfl rfl ?_
      obtain ⟨hi15, H⟩ := H
      refine zq_lald (pc' := 53) rfl rfl rfl (hp_la hl1 hi15) ?_
      refine zq_aload (pc' := 54) rfl rfl rfl rfl ?_
      refine zq_iload (pc' := 55) rfl rfl rfl rfl ?_
      refine zq_ipush (pc' := 56) rfl rfl rfl ?_
      refine zq_iload (pc' := 57) rfl rfl rfl rfl ?_
      refine zq_imul (pc' := 58) rfl rfl rfl ?_
      refine zq_iadd (pc' := 59) rfl rfl rfl ?_
      refine zq_ipush (pc' := 60) rfl rfl rfl ?_
      refine zq_iadd (pc' := 61) rfl rfl rfl ?_
      obtain ⟨hi16, H⟩ := H
      refine zq_lald (pc' := 62) rfl rfl rfl (hp_la hl1 hi16) ?_
      refine zq_iload (pc' := 64) rfl rfl rfl rfl ?_
      refine hq_callv (pc' := 67) rfl rfl rfl rfl rfl rfl h_Xv ?_
      refine hmonov H ?_
      intro g17 e18 H
      refine zq_iinc (pc' := 70) rfl rfl rfl rfl ?_
      refine zq_goto_c (pc' := 16) rfl rfl ?_
      exact H
theorem zh_X0_copyAll {d : Nat} {k : hG → hE → Prop} {X : Nat → hG → hE → Prop} {p0 : Nat} (hp0 : hB p0) {p1 : Nat} (hp1 : hB p1) {g : hG} {e : hE} (H :
    hcpin (0 : Int32) (0 : Int32) (nI 520) 520 520 ∧
    ∀ g2, g2 = aJ g (p0 + 1) (va_cpy (g.2.1 (p1 + 1)) (g.2.1 (p0 + 1)) (0 : Int32).toNatClampNeg (0 : Int32).toNatClampNeg (nI 520).toNatClampNeg) →
    hcpin (0 : Int32) (0 : Int32) (nI 8) 8 8 ∧
    ∀ g4, g4 = aI (sI g2 p0 1 (g2.1 p1 1)) (p0 + 2) (va_cpy ((sI g2 p0 1 (g2.1 p1 1)).1 (p1 + 2)) ((sI g2 p0 1 (g2.1 p1 1)).1 (p0 + 2)) (0 : Int32).toNatClampNeg (0 : Int32).toNatClampNeg (nI 8).toNatClampNeg) →
    hcpin (0 : Int32) (0 : Int32) (nI 3) 3 3 ∧
    ∀ g6, g6 = aI (sI g4 p0 3 (g4.1 p1 3)) (p0 + 3) (va_cpy ((sI g4 p0 3 (g4.1 p1 3)).1 (p1 + 3)) ((sI g4 p0 3 (g4.1 p1 3)).1 (p0 + 3)) (0 : Int32).toNatClampNeg (0 : Int32).toNatClampNeg (nI 3).toNatClampNeg) →
    hcpin (0 : Int32) (0 : Int32) (nI 13) 13 13 ∧
    ∀ g8, g8 = aJ g6 (p0 + 4) (va_cpy (g6.2.1 (p1 + 4)) (g6.2.1 (p0 + 4)) (0 : Int32).toNatClampNeg (0 : Int32).toNatClampNeg (nI 13).toNatClampNeg) →
    k g8 e) : hcv (d + 1) 29 [.ref p0, .ref p1] g e k X := by
  obtain ⟨fs0, hT0⟩ := hBo hp0
  refine hent (M := zm_X0_copyAll) hT0 rfl rfl rfl rfl rfl ?_
  refine zq_aload (pc' := 1) rfl rfl rfl rfl ?_
  refine zq_getR (pc' := 4) rfl rfl rfl (hp_gC (hkB0 hp1)) ?_
  refine zq_ipush (pc' := 5) rfl rfl rfl ?_
  refine zq_aload (pc' := 6) rfl rfl rfl rfl ?_
  refine zq_getR (pc' := 9) rfl rfl rfl (hp_gC (hkB0 hp0)) ?_
  refine zq_ipush (pc' := 10) rfl rfl rfl ?_
  refine zq_aload (pc' := 11) rfl rfl rfl rfl ?_
  refine zq_getR (pc' := 14) rfl rfl rfl (hp_gC (hkB0 hp0)) ?_
  refine zq_alen (pc' := 15) rfl rfl rfl (hp_al (hTB1 hp0) rfl) ?_
  obtain ⟨hi1, H⟩ := H
  refine zq_cpj (pc' := 18) rfl rfl rfl rfl (hp_cj (hTB1 hp1) (hTB1 hp0) hi1) ?_
  have H := H _ rfl
  refine zq_aload (pc' := 19) rfl rfl rfl rfl ?_
  refine zq_aload (pc' := 20) rfl rfl rfl rfl ?_
  refine zq_getI (pc' := 23) rfl rfl rfl (hp_gI (hkB1 hp1)) ?_
  refine zq_put (pc' := 26) rfl rfl rfl trivial (hp_sI (hkB1 hp0)) ?_
  refine zq_aload (pc' := 27) rfl rfl rfl rfl ?_
  refine zq_getR (pc' := 30) rfl rfl rfl (hp_gC (hkB2 hp1)) ?_
  refine zq_ipush (pc' := 31) rfl rfl rfl ?_
  refine zq_aload (pc' := 32) rfl rfl rfl rfl ?_
  refine zq_getR (pc' := 35) rfl rfl rfl (hp_gC (hkB2 hp0)) ?_
  refine zq_ipush (pc' := 36) rfl rfl rfl ?_
  refine zq_aload (pc' := 37) rfl rfl rfl rfl ?_
  refine zq_getR (pc' := 40) rfl rfl rfl (hp_gC (hkB2 hp0)) ?_
  refine zq_alen (pc' := 41) rfl rfl rfl (hp_al (hTB2 hp0) rfl) ?_
  obtain ⟨hi3, H⟩ := H
  refine zq_cpi (pc' := 44) rfl rfl rfl rfl (hp_ci (hTB2 hp1) (hTB2 hp0) hi3) ?_
  have H := H _ rfl
  refine zq_aload (pc' := 45) rfl rfl rfl rfl ?_
  refine zq_aload (pc' := 46) rfl rfl rfl rfl ?_
  refine zq_getI (pc' := 49) rfl rfl rfl (hp_gI (hkB3 hp1)) ?_
  refine zq_put (pc' := 52) rfl rfl rfl trivial (hp_sI (hkB3 hp0)) ?_
  refine zq_aload (pc' := 53) rfl rfl rfl rfl ?_
  refine zq_getR (pc' := 56) rfl rfl rfl (hp_gC (hkB4 hp1)) ?_
  refine zq_ipush (pc' := 57) rfl rfl rfl ?_
  refine zq_aload (pc' := 58) rfl rfl rfl rfl ?_
  refine zq_getR (pc' := 61) rfl rfl rfl (hp_gC (hkB4 hp0)) ?_
  refine zq_ipush (pc' := 62) rfl rfl rfl ?_
  refine zq_aload (pc' := 63) rfl rfl rfl rfl ?_
  refine zq_getR (pc' := 66) rfl rfl rfl (hp_gC (hkB4 hp0)) ?_
  refine zq_alen (pc' := 67) rfl rfl rfl (hp_al (hTB3 hp0) rfl) ?_
  obtain ⟨hi5, H⟩ := H
  refine zq_cpi (pc' := 70) rfl rfl rfl rfl (hp_ci (hTB3 hp1) (hTB3 hp0) hi5) ?_
  have H := H _ rfl
  refine zq_aload (pc' := 71) rfl rfl rfl rfl ?_
  refine zq_getR (pc' := 74) rfl rfl rfl (hp_gC (hkB5 hp1)) ?_
  refine zq_ipush (pc' := 75) rfl rfl rfl ?_
  refine zq_aload (pc' := 76) rfl rfl rfl rfl ?_
  refine zq_getR (pc' := 79) rfl rfl rfl (hp_gC (hkB5 hp0)) ?_
  refine zq_ipush (pc' := 80) rfl rfl rfl ?_
  refine zq_aload (pc' := 81) rfl rfl rfl rfl ?_
  refine zq_getR (pc' := 84) rfl rfl rfl (hp_gC (hkB5 hp0)) ?_
  refine zq_alen (pc' := 85) rfl rfl rfl (hp_al (hTB4 hp0) rfl) ?_
  obtain ⟨hi7, H⟩ := H
  refine zq_cpj (pc' := 88) rfl rfl rfl rfl (hp_cj (hTB4 hp1) (hTB4 hp0) hi7) ?_
  have H := H _ rfl
  exact zq_vret rfl (Exists.intro _ (Exists.intro _ (And.intro rfl H)))
theorem zh_X0_addNote {d : Nat} {k : Int32 → hG → hE → Prop} {X : Nat → hG → hE → Prop} {p0 : Nat} (hp0 : hB p0) {p1 : Int32} {p2 : Int32} {p3 : Int32} {p4 : Int32} {g : hG} {e : hE} (H :
    zbr ((g.1 p0 3) < 0)
    (k 0 g e)
    (zbr ((g.1 p0 3) < (nI 8))
      (zbr (p4 = 0)
        (hin (g.1 p0 3) 8 ∧
          ∀ g2, g2 = sI g (p0 + 2) (g.1 p0 3).toNatClampNeg ((((p1 <<< ((10 : Int32) &&& 31)) ||| (p2 <<< ((6 : Int32) &&& 31))) ||| (p3 <<< ((1 : Int32) &&& 31))) ||| 0) →
          k 1 (sI g2 p0 3 ((g2.1 p0 3) + 1)) e)
        (hin (g.1 p0 3) 8 ∧
          ∀ g4, g4 = sI g (p0 + 2) (g.1 p0 3).toNatClampNeg ((((p1 <<< ((10 : Int32) &&& 31)) ||| (p2 <<< ((6 : Int32) &&& 31))) ||| (p3 <<< ((1 : Int32) &&& 31))) ||| 1) →
          k 1 (sI g4 p0 3 ((g4.1 p0 3) + 1)) e))
      (k 0 g e))) : hci (d + 1) 30 [.ref p0, .int p1, .int p2, .int p3, .int p4] g e k X := by
  obtain ⟨fs0, hT0⟩ := hBo hp0
  refine hent (M := zm_X0_addNote) hT0 rfl rfl rfl rfl rfl ?_
  refine zq_aload (pc' := 1) rfl rfl rfl rfl ?_
  refine zq_getI (pc' := 4) rfl rfl rfl (hp_gI (hkB3 hp0)) ?_
  refine zq_iflt (pc' := 7) rfl rfl rfl rfl (And.intro (fun c => ?_) (fun c => ?_))
  · have H := H.1 c
    refine zq_ipush (pc' := 20) rfl rfl rfl ?_
    exact zq_iret rfl (Or.inl rfl) (Exists.intro _ (Exists.intro _ (And.intro rfl H)))
  · have H := H.2 c
    refine zq_aload (pc' := 8) rfl rfl rfl rfl ?_
    refine zq_getI (pc' := 11) rfl rfl rfl (hp_gI (hkB3 hp0)) ?_
    refine zq_aload (pc' := 12) rfl rfl rfl rfl ?_
    refine zq_getR (pc' := 15) rfl rfl rfl (hp_gC (hkB2 hp0)) ?_
    refine zq_alen (pc' := 16) rfl rfl rfl (hp_al (hTB2 hp0) rfl) ?_
    refine zq_iclt (pc' := 19) rfl rfl rfl rfl (And.intro (fun c => ?_) (fun c => ?_))
    · have H := H.1 c
      refine zq_aload (pc' := 22) rfl rfl rfl rfl ?_
      refine zq_getR (pc' := 25) rfl rfl rfl (hp_gC (hkB2 hp0)) ?_
      refine zq_aload (pc' := 26) rfl rfl rfl rfl ?_
      refine zq_getI (pc' := 29) rfl rfl rfl (hp_gI (hkB3 hp0)) ?_
      refine zq_iload (pc' := 30) rfl rfl rfl rfl ?_
      refine zq_ipush (pc' := 32) rfl rfl rfl ?_
      refine zq_ishl (pc' := 33) rfl rfl rfl ?_
      refine zq_iload (pc' := 34) rfl rfl rfl rfl ?_
      refine zq_ipush (pc' := 36) rfl rfl rfl ?_
      refine zq_ishl (pc' := 37) rfl rfl rfl ?_
      refine zq_ior (pc' := 38) rfl rfl rfl ?_
      refine zq_iload (pc' := 39) rfl rfl rfl rfl ?_
      refine zq_ipush (pc' := 40) rfl rfl rfl ?_
      refine zq_ishl (pc' := 41) rfl rfl rfl ?_
      refine zq_ior (pc' := 42) rfl rfl rfl ?_
      refine zq_iload (pc' := 44) rfl rfl rfl rfl ?_
      refine zq_ifeq (pc' := 47) rfl rfl rfl rfl (And.intro (fun c => ?_) (fun c => ?_))
      · have H := H.1 c
        refine zq_ipush (pc' := 52) rfl rfl rfl ?_
        refine zq_ior (pc' := 53) rfl rfl rfl ?_
        obtain ⟨hi1, H⟩ := H
        refine zq_iast (pc' := 54) rfl rfl rfl (hp_is (hTB2 hp0) hi1) ?_
        have H := H _ rfl
        refine zq_aload (pc' := 55) rfl rfl rfl rfl ?_
        refine zq_dup (pc' := 56) rfl rfl rfl rfl ?_
        refine zq_getI (pc' := 59) rfl rfl rfl (hp_gI (hkB3 hp0)) ?_
        refine zq_ipush (pc' := 60) rfl rfl rfl ?_
        refine zq_iadd (pc' := 61) rfl rfl rfl ?_
        refine zq_put (pc' := 64) rfl rfl rfl trivial (hp_sI (hkB3 hp0)) ?_
        refine zq_ipush (pc' := 65) rfl rfl rfl ?_
        exact zq_iret rfl (Or.inr rfl) (Exists.intro _ (Exists.intro _ (And.intro rfl H)))
      · have H := H.2 c
        refine zq_ipush (pc' := 48) rfl rfl rfl ?_
        refine zq_goto (pc' := 52) rfl rfl rfl ?_
        refine zq_ior (pc' := 53) rfl rfl rfl ?_
        obtain ⟨hi3, H⟩ := H
        refine zq_iast (pc' := 54) rfl rfl rfl (hp_is (hTB2 hp0) hi3) ?_
        have H := H _ rfl
        refine zq_aload (pc' := 55) rfl rfl rfl rfl ?_
        refine zq_dup (pc' := 56) rfl rfl rfl rfl ?_
        refine zq_getI (pc' := 59) rfl rfl rfl (hp_gI (hkB3 hp0)) ?_
        refine zq_ipush (pc' := 60) rfl rfl rfl ?_
        refine zq_iadd (pc' := 61) rfl rfl rfl ?_
        refine zq_put (pc' := 64) rfl rfl rfl trivial (hp_sI (hkB3 hp0)) ?_
        refine zq_ipush (pc' := 65) rfl rfl rfl ?_
        exact zq_iret rfl (Or.inr rfl) (Exists.intro _ (Exists.intro _ (And.intro rfl H)))
    · have H := H.2 c
      refine zq_ipush (pc' := 20) rfl rfl rfl ?_
      exact zq_iret rfl (Or.inl rfl) (Exists.intro _ (Exists.intro _ (And.intro rfl H)))
theorem zh_X0_lastNoted {d : Nat} {k : Int32 → hG → hE → Prop} {X : Nat → hG → hE → Prop} {p0 : Nat} (hp0 : hB p0) {p1 : Int32} {g : hG} {e : hE} (H :
    hwi d zm_X0_lastNoted k X 4 [(0, .ref p0), (1, .int p1), (2, .int (-1)), (3, .int 0)] g e) : hci (d + 1) 31 [.ref p0, .int p1] g e k X := by
  obtain ⟨fs0, hT0⟩ := hBo hp0
  refine hent (M := zm_X0_lastNoted) hT0 rfl rfl rfl rfl rfl ?_
  refine zq_ipushn (pc' := 1) rfl rfl rfl ?_
  refine zq_istore (pc' := 2) rfl rfl rfl ?_
  refine zq_ipush (pc' := 3) rfl rfl rfl ?_
  refine zq_istore_c (pc' := 4) rfl rfl ?_
  exact H
theorem zh_X0_lastNoted_4 {d : Nat} {k : Int32 → hG → hE → Prop} {X : Nat → hG → hE → Prop} {l0 : Nat} (hl0 : hB l0) {l1 : Int32} {l2 : Int32} {l3 : Int32} {g : hG} {e : hE} (H :
    zbr ((g.1 l0 3) ≤ l3)
    (k l2 g e)
    (zbr ((nI 8) ≤ l3)
      (k l2 g e)
      (hin l3 8 ∧
        zbr (((g.1 (l0 + 2) l3.toNatClampNeg) >>> ((10 : Int32) &&& 31)) = l1)
        (hin l3 8 ∧
          hci d 2 [.int l2, .int (((g.1 (l0 + 2) l3.toNatClampNeg) >>> ((1 : Int32) &&& 31)) &&& 31)] g e (fun x5 g3 e4 =>
            hwi d zm_X0_lastNoted k X 4 [(0, .ref l0), (1, .int l1), (2, .int x5), (3, .int (l3 + 1))] g3 e4) X)
        (hwi d zm_X0_lastNoted k X 4 [(0, .ref l0), (1, .int l1), (2, .int l2), (3, .int (l3 + 1))] g e)))) : hwi d zm_X0_lastNoted k X 4 [(0, .ref l0), (1, .int l1), (2, .int l2), (3, .int l3)] g e := by
  refine zq_iload (pc' := 5) rfl rfl rfl rfl ?_
  refine zq_aload (pc' := 6) rfl rfl rfl rfl ?_
  refine zq_getI (pc' := 9) rfl rfl rfl (hp_gI (hkB3 hl0)) ?_
  refine zq_icge (pc' := 12) rfl rfl rfl rfl (And.intro (fun c => ?_) (fun c => ?_))
  · have H := H.1 c
    refine zq_iload (pc' := 57) rfl rfl rfl rfl ?_
    exact zq_iret rfl trivial (Exists.intro _ (Exists.intro _ (And.intro rfl H)))
  · have H := H.2 c
    refine zq_iload (pc' := 13) rfl rfl rfl rfl ?_
    refine zq_aload (pc' := 14) rfl rfl rfl rfl ?_
    refine zq_getR (pc' := 17) rfl rfl rfl (hp_gC (hkB2 hl0)) ?_
    refine zq_alen (pc' := 18) rfl rfl rfl (hp_al (hTB2 hl0) rfl) ?_
    refine zq_icge (pc' := 21) rfl rfl rfl rfl (And.intro (fun c => ?_) (fun c => ?_))
    · have H := H.1 c
      refine zq_iload (pc' := 57) rfl rfl rfl rfl ?_
      exact zq_iret rfl trivial (Exists.intro _ (Exists.intro _ (And.intro rfl H)))
    · have H := H.2 c
      refine zq_aload (pc' := 22) rfl rfl rfl rfl ?_
      refine zq_getR (pc' := 25) rfl rfl rfl (hp_gC (hkB2 hl0)) ?_
      refine zq_iload (pc' := 26) rfl rfl rfl rfl ?_
      obtain ⟨hi1, H⟩ := H
      refine zq_iald (pc' := 27) rfl rfl rfl (hp_ia (hTB2 hl0) hi1) ?_
      refine zq_ipush (pc' := 29) rfl rfl rfl ?_
      refine zq_ishr (pc' := 30) rfl rfl rfl ?_
      refine zq_iload (pc' := 31) rfl rfl rfl rfl ?_
      refine zq_icne (pc' := 34) rfl rfl rfl rfl (And.intro (fun c => ?_) (fun c => ?_))
      · have H := H.1 c
        refine zq_iload (pc' := 35) rfl rfl rfl rfl ?_
        refine zq_aload (pc' := 36) rfl rfl rfl rfl ?_
        refine zq_getR (pc' := 39) rfl rfl rfl (hp_gC (hkB2 hl0)) ?_
        refine zq_iload (pc' := 40) rfl rfl rfl rfl ?_
        obtain ⟨hi2, H⟩ := H
        refine zq_iald (pc' := 41) rfl rfl rfl (hp_ia (hTB2 hl0) hi2) ?_
        refine zq_ipush (pc' := 42) rfl rfl rfl ?_
        refine zq_ishr (pc' := 43) rfl rfl rfl ?_
        refine zq_ipush (pc' := 45) rfl rfl rfl ?_
        refine zq_iand (pc' := 46) rfl rfl rfl ?_
        refine hq_calli (pc' := 49) rfl rfl rfl rfl rfl rfl h_Xi ?_
        refine hmonoi H ?_
        intro x5 g3 e4 H
        refine zq_istore (pc' := 50) rfl rfl rfl ?_
        refine zq_iinc (pc' := 53) rfl rfl rfl rfl ?_
        refine zq_goto_c (pc' := 4) rfl rfl ?_
        exact H
      · have H := H.2 c
        refine zq_iinc (pc' := 53) rfl rfl rfl rfl ?_
        refine zq_goto_c (pc' := 4) rfl rfl ?_
        exact H
theorem zh_X0_agrees {d : Nat} {k : Int32 → hG → hE → Prop} {X : Nat → hG → hE → Prop} {p0 : Nat} (hp0 : hB p0) {p1 : Int32} {p2 : Int32} {p3 : Int32} {g : hG} {e : hE} (H :
    hwi d zm_X0_agrees k X 3 [(0, .ref p0), (1, .int p1), (2, .int p2), (3, .int p3), (4, .int 0)] g e) : hci (d + 1) 32 [.ref p0, .int p1, .int p2, .int p3] g e k X := by
  obtain ⟨fs0, hT0⟩ := hBo hp0
  refine hent (M := zm_X0_agrees) hT0 rfl rfl rfl rfl rfl ?_
  refine zq_ipush (pc' := 1) rfl rfl rfl ?_
  refine zq_istore_c (pc' := 3) rfl rfl ?_
  exact H
theorem zh_X0_agrees_3 {d : Nat} {k : Int32 → hG → hE → Prop} {X : Nat → hG → hE → Prop} {l0 : Nat} (hl0 : hB l0) {l1 : Int32} {l2 : Int32} {l3 : Int32} {l4 : Int32} {g : hG} {e : hE} (H :
    zbr ((g.1 l0 3) ≤ l4)
    (k 1 g e)
    (zbr ((nI 8) ≤ l4)
      (k 1 g e)
      (hin l4 8 ∧
        zbr (((g.1 (l0 + 2) l4.toNatClampNeg) >>> ((10 : Int32) &&& 31)) = l1)
        (zbr ((((g.1 (l0 + 2) l4.toNatClampNeg) >>> ((1 : Int32) &&& 31)) &&& 31) = l2)
          (zbr ((1 : Int32) = 0)
            (hwi d zm_X0_agrees k X 3 [(0, .ref l0), (1, .int l1), (2, .int l2), (3, .int l3), (4, .int (l4 + 1))] g e)
            (zbr (((l3 >>> ((((g.1 (l0 + 2) l4.toNatClampNeg) >>> ((6 : Int32) &&& 31)) &&& 15) &&& 31)) &&& 1) = ((g.1 (l0 + 2) l4.toNatClampNeg) &&& 1))
              (hwi d zm_X0_agrees k X 3 [(0, .ref l0), (1, .int l1), (2, .int l2), (3, .int l3), (4, .int (l4 + 1))] g e)
              (k 0 g e)))
          (hwi d zm_X0_agrees k X 55 [(0, .ref l0), (1, .int l1), (2, .int l2), (3, .int l3), (4, .int l4), (5, .int (g.1 (l0 + 2) l4.toNatClampNeg))] g e))
        (hwi d zm_X0_agrees k X 55 [(0, .ref l0), (1, .int l1), (2, .int l2), (3, .int l3), (4, .int l4), (5, .int (g.1 (l0 + 2) l4.toNatClampNeg))] g e)))) : hwi d zm_X0_agrees k X 3 [(0, .ref l0), (1, .int l1), (2, .int l2), (3, .int l3), (4, .int l4)] g e := by
  refine zq_iload (pc' := 5) rfl rfl rfl rfl ?_
  refine zq_aload (pc' := 6) rfl rfl rfl rfl ?_
  refine zq_getI (pc' := 9) rfl rfl rfl (hp_gI (hkB3 hl0)) ?_
  refine zq_icge (pc' := 12) rfl rfl rfl rfl (And.intro (fun c => ?_) (fun c => ?_))
  · have H := H.1 c
    refine zq_ipush (pc' := 91) rfl rfl rfl ?_
    exact zq_iret rfl (Or.inr rfl) (Exists.intro _ (Exists.intro _ (And.intro rfl H)))
  · have H := H.2 c
    refine zq_iload (pc' := 14) rfl rfl rfl rfl ?_
    refine zq_aload (pc' := 15) rfl rfl rfl rfl ?_
    refine zq_getR (pc' := 18) rfl rfl rfl (hp_gC (hkB2 hl0)) ?_
    refine zq_alen (pc' := 19) rfl rfl rfl (hp_al (hTB2 hl0) rfl) ?_
    refine zq_icge (pc' := 22) rfl rfl rfl rfl (And.intro (fun c => ?_) (fun c => ?_))
    · have H := H.1 c
      refine zq_ipush (pc' := 91) rfl rfl rfl ?_
      exact zq_iret rfl (Or.inr rfl) (Exists.intro _ (Exists.intro _ (And.intro rfl H)))
    · have H := H.2 c
      refine zq_aload (pc' := 23) rfl rfl rfl rfl ?_
      refine zq_getR (pc' := 26) rfl rfl rfl (hp_gC (hkB2 hl0)) ?_
      refine zq_iload (pc' := 28) rfl rfl rfl rfl ?_
      obtain ⟨hi1, H⟩ := H
      refine zq_iald (pc' := 29) rfl rfl rfl (hp_ia (hTB2 hl0) hi1) ?_
      refine zq_istore (pc' := 31) rfl rfl rfl ?_
      refine zq_iload (pc' := 33) rfl rfl rfl rfl ?_
      refine zq_ipush (pc' := 35) rfl rfl rfl ?_
      refine zq_ishr (pc' := 36) rfl rfl rfl ?_
      refine zq_iload (pc' := 37) rfl rfl rfl rfl ?_
      refine zq_icne_c (pc' := 40) (lt := [(0, .ref l0), (1, .int l1), (2, .int l2), (3, .int l3), (4, .int l4), (5, .int (g.1 (l0 + 2) l4.toNatClampNeg))]) (lf := [(5, .int (g.1 (l0 + 2) l4.toNatClampNeg)), (0, .ref l0), (1, .int l1), (2, .int l2), (3, .int l3), (4, .int l4)]) rfl rfl rfl rfl (And.intro (fun c => ?_) (fun c => ?_))
      · have H := H.1 c
        refine zq_iload (pc' := 42) rfl rfl rfl rfl ?_
        refine zq_ipush (pc' := 43) rfl rfl rfl ?_
        refine zq_ishr (pc' := 44) rfl rfl rfl ?_
        refine zq_ipush (pc' := 46) rfl rfl rfl ?_
        refine zq_iand (pc' := 47) rfl rfl rfl ?_
        refine zq_iload (pc' := 48) rfl rfl rfl rfl ?_
        refine zq_icne_c (pc' := 51) (lt := [(0, .ref l0), (1, .int l1), (2, .int l2), (3, .int l3), (4, .int l4), (5, .int (g.1 (l0 + 2) l4.toNatClampNeg))]) (lf := [(5, .int (g.1 (l0 + 2) l4.toNatClampNeg)), (0, .ref l0), (1, .int l1), (2, .int l2), (3, .int l3), (4, .int l4)]) rfl rfl rfl rfl (And.intro (fun c => ?_) (fun c => ?_))
        · have H := H.1 c
          refine zq_ipush (pc' := 52) rfl rfl rfl ?_
          refine zq_goto (pc' := 56) rfl rfl rfl ?_
          refine zq_istore (pc' := 58) rfl rfl rfl ?_
          refine zq_iload (pc' := 60) rfl rfl rfl rfl ?_
          refine zq_ifeq (pc' := 63) rfl rfl rfl rfl (And.intro (fun c => ?_) (fun c => ?_))
          · have H := H.1 c
            refine zq_iinc (pc' := 87) rfl rfl rfl rfl ?_
            refine zq_goto_c (pc' := 3) rfl rfl ?_
            exact H
          · have H := H.2 c
            refine zq_iload (pc' := 64) rfl rfl rfl rfl ?_
            refine zq_iload (pc' := 66) rfl rfl rfl rfl ?_
            refine zq_ipush (pc' := 68) rfl rfl rfl ?_
            refine zq_ishr (pc' := 69) rfl rfl rfl ?_
            refine zq_ipush (pc' := 71) rfl rfl rfl ?_
            refine zq_iand (pc' := 72) rfl rfl rfl ?_
            refine zq_ishr (pc' := 73) rfl rfl rfl ?_
            refine zq_ipush (pc' := 74) rfl rfl rfl ?_
            refine zq_iand (pc' := 75) rfl rfl rfl ?_
            refine zq_iload (pc' := 77) rfl rfl rfl rfl ?_
            refine zq_ipush (pc' := 78) rfl rfl rfl ?_
            refine zq_iand (pc' := 79) rfl rfl rfl ?_
            refine zq_iceq (pc' := 82) rfl rfl rfl rfl (And.intro (fun c => ?_) (fun c => ?_))
            · have H := H.1 c
              refine zq_iinc (pc' := 87) rfl rfl rfl rfl ?_
              refine zq_goto_c (pc' := 3) rfl rfl ?_
              exact H
            · have H := H.2 c
              refine zq_ipush (pc' := 83) rfl rfl rfl ?_
              exact zq_iret rfl (Or.inl rfl) (Exists.intro _ (Exists.intro _ (And.intro rfl H)))
        · have H := H.2 c
          exact H
      · have H := H.2 c
        exact H
theorem zh_X0_agrees_55 {d : Nat} {k : Int32 → hG → hE → Prop} {X : Nat → hG → hE → Prop} {l0 : Nat} (hl0 : hB l0) {l1 : Int32} {l2 : Int32} {l3 : Int32} {l4 : Int32} {l5 : Int32} {g : hG} {e : hE} (H :
    zbr ((0 : Int32) = 0)
    (hwi d zm_X0_agrees k X 3 [(0, .ref l0), (1, .int l1), (2, .int l2), (3, .int l3), (4, .int (l4 + 1))] g e)
    (zbr (((l3 >>> (((l5 >>> ((6 : Int32) &&& 31)) &&& 15) &&& 31)) &&& 1) = (l5 &&& 1))
      (hwi d zm_X0_agrees k X 3 [(0, .ref l0), (1, .int l1), (2, .int l2), (3, .int l3), (4, .int (l4 + 1))] g e)
      (k 0 g e))) : hwi d zm_X0_agrees k X 55 [(0, .ref l0), (1, .int l1), (2, .int l2), (3, .int l3), (4, .int l4), (5, .int l5)] g e := by
  refine zq_ipush (pc' := 56) rfl rfl rfl ?_
  refine zq_istore (pc' := 58) rfl rfl rfl ?_
  refine zq_iload (pc' := 60) rfl rfl rfl rfl ?_
  refine zq_ifeq (pc' := 63) rfl rfl rfl rfl (And.intro (fun c => ?_) (fun c => ?_))
  · have H := H.1 c
    refine zq_iinc (pc' := 87) rfl rfl rfl rfl ?_
    refine zq_goto_c (pc' := 3) rfl rfl ?_
    exact H
  · have H := H.2 c
    refine zq_iload (pc' := 64) rfl rfl rfl rfl ?_
    refine zq_iload (pc' := 66) rfl rfl rfl rfl ?_
    refine zq_ipush (pc' := 68) rfl rfl rfl ?_
    refine zq_ishr (pc' := 69) rfl rfl rfl ?_
    refine zq_ipush (pc' := 71) rfl rfl rfl ?_
    refine zq_iand (pc' := 72) rfl rfl rfl ?_
    refine zq_ishr (pc' := 73) rfl rfl rfl ?_
    refine zq_ipush (pc' := 74) rfl rfl rfl ?_
    refine zq_iand (pc' := 75) rfl rfl rfl ?_
    refine zq_iload (pc' := 77) rfl rfl rfl rfl ?_
    refine zq_ipush (pc' := 78) rfl rfl rfl ?_
    refine zq_iand (pc' := 79) rfl rfl rfl ?_
    refine zq_iceq (pc' := 82) rfl rfl rfl rfl (And.intro (fun c => ?_) (fun c => ?_))
    · have H := H.1 c
      refine zq_iinc (pc' := 87) rfl rfl rfl rfl ?_
      refine zq_goto_c (pc' := 3) rfl rfl ?_
      exact H
    · have H := H.2 c
      refine zq_ipush (pc' := 83) rfl rfl rfl ?_
      exact zq_iret rfl (Or.inl rfl) (Exists.intro _ (Exists.intro _ (And.intro rfl H)))
theorem zh_X2_makeEmpty {d : Nat} {k : hG → hE → Prop} {X : Nat → hG → hE → Prop} {p0 : Nat} (hp0 : hD p0) {g : hG} {e : hE} (H :
    hcv d 92 [.ref (p0 + 8)] (sI (sI (sI g p0 1 0) p0 3 0) p0 5 0) e (fun g1 e2 =>
      hcv d 92 [.ref (p0 + 10)] g1 e2 (fun g3 e4 =>
        k (sI g3 p0 8 0) e4) X) X) : hcv (d + 1) 37 [.ref p0] g e k X := by
  obtain ⟨fs0, hT0⟩ := hDo hp0
  refine hent (M := zm_X2_makeEmpty) hT0 rfl rfl rfl rfl rfl ?_
  refine zq_aload (pc' := 1) rfl rfl rfl rfl ?_
  refine zq_ipush (pc' := 2) rfl rfl rfl ?_
  refine zq_put (pc' := 5) rfl rfl rfl trivial (hp_sI (hkD1 hp0)) ?_
  refine zq_aload (pc' := 6) rfl rfl rfl rfl ?_
  refine zq_ipush (pc' := 7) rfl rfl rfl ?_
  refine zq_put (pc' := 10) rfl rfl rfl trivial (hp_sI (hkD3 hp0)) ?_
  refine zq_aload (pc' := 11) rfl rfl rfl rfl ?_
  refine zq_ipush (pc' := 12) rfl rfl rfl ?_
  refine zq_put (pc' := 15) rfl rfl rfl trivial (hp_sI (hkD5 hp0)) ?_
  refine zq_aload (pc' := 16) rfl rfl rfl rfl ?_
  refine zq_getR (pc' := 19) rfl rfl rfl (hp_gC (hkD6 hp0)) ?_
  refine hq_callv (pc' := 22) rfl rfl rfl rfl rfl rfl h_Xv ?_
  refine hmonov H ?_
  intro g1 e2 H
  refine zq_aload (pc' := 23) rfl rfl rfl rfl ?_
  refine zq_getR (pc' := 26) rfl rfl rfl (hp_gC (hkD7 hp0)) ?_
  refine hq_callv (pc' := 29) rfl rfl rfl rfl rfl rfl h_Xv ?_
  refine hmonov H ?_
  intro g3 e4 H
  refine zq_aload (pc' := 30) rfl rfl rfl rfl ?_
  refine zq_ipush (pc' := 31) rfl rfl rfl ?_
  refine zq_put (pc' := 34) rfl rfl rfl trivial (hp_sI (hkD8 hp0)) ?_
  exact zq_vret rfl (Exists.intro _ (Exists.intro _ (And.intro rfl H)))
theorem zh_X2_isFull {d : Nat} {k : Int32 → hG → hE → Prop} {X : Nat → hG → hE → Prop} {p0 : Nat} (hp0 : hD p0) {g : hG} {e : hE} (H :
    zbr ((g.1 p0 1) < 0)
    (k 1 g e)
    (zbr ((g.1 p0 1) < (nI 4))
      (k 0 g e)
      (k 1 g e))) : hci (d + 1) 38 [.ref p0] g e k X := by
  obtain ⟨fs0, hT0⟩ := hDo hp0
  refine hent (M := zm_X2_isFull) hT0 rfl rfl rfl rfl rfl ?_
  refine zq_aload (pc' := 1) rfl rfl rfl rfl ?_
  refine zq_getI (pc' := 4) rfl rfl rfl (hp_gI (hkD1 hp0)) ?_
  refine zq_iflt (pc' := 7) rfl rfl rfl rfl (And.intro (fun c => ?_) (fun c => ?_))
  · have H := H.1 c
    refine zq_ipush (pc' := 20) rfl rfl rfl ?_
    refine zq_goto (pc' := 24) rfl rfl rfl ?_
    exact zq_iret rfl (Or.inr rfl) (Exists.intro _ (Exists.intro _ (And.intro rfl H)))
  · have H := H.2 c
    refine zq_aload (pc' := 8) rfl rfl rfl rfl ?_
    refine zq_getI (pc' := 11) rfl rfl rfl (hp_gI (hkD1 hp0)) ?_
    refine zq_aload (pc' := 12) rfl rfl rfl rfl ?_
    refine zq_getR (pc' := 15) rfl rfl rfl (hp_gC (hkD0 hp0)) ?_
    refine zq_alen (pc' := 16) rfl rfl rfl (hp_al (hTD1 hp0) rfl) ?_
    refine zq_iclt (pc' := 19) rfl rfl rfl rfl (And.intro (fun c => ?_) (fun c => ?_))
    · have H := H.1 c
      refine zq_ipush (pc' := 24) rfl rfl rfl ?_
      exact zq_iret rfl (Or.inl rfl) (Exists.intro _ (Exists.intro _ (And.intro rfl H)))
    · have H := H.2 c
      refine zq_ipush (pc' := 20) rfl rfl rfl ?_
      refine zq_goto (pc' := 24) rfl rfl rfl ?_
      exact zq_iret rfl (Or.inr rfl) (Exists.intro _ (Exists.intro _ (And.intro rfl H)))
theorem zh_X2_nextZip {d : Nat} {k : Nat → hG → hE → Prop} {X : Nat → hG → hE → Prop} {p0 : Nat} (hp0 : hD p0) {g : hG} {e : hE} (H :
    zbr ((g.1 p0 1) < 0)
    (∃ a2 : Nat, hin (0 : Int32) 4 ∧ hR (p0 + 1) (0 : Int32).toNatClampNeg = some a2 ∧ hT a2 = some hZ ∧
      k a2 g e)
    (zbr ((nI 4) ≤ (g.1 p0 1))
      (∃ a5 : Nat, hin (0 : Int32) 4 ∧ hR (p0 + 1) (0 : Int32).toNatClampNeg = some a5 ∧ hT a5 = some hZ ∧
        k a5 g e)
      (∃ a8 : Nat, hin (g.1 p0 1) 4 ∧ hR (p0 + 1) (g.1 p0 1).toNatClampNeg = some a8 ∧ hT a8 = some hZ ∧
        k a8 g e))) : hcr (d + 1) 39 [.ref p0] g e k X := by
  obtain ⟨fs0, hT0⟩ := hDo hp0
  refine hent (M := zm_X2_nextZip) hT0 rfl rfl rfl rfl rfl ?_
  refine zq_aload (pc' := 1) rfl rfl rfl rfl ?_
  refine zq_getI (pc' := 4) rfl rfl rfl (hp_gI (hkD1 hp0)) ?_
  refine zq_iflt (pc' := 7) rfl rfl rfl rfl (And.intro (fun c => ?_) (fun c => ?_))
  · have H := H.1 c
    refine zq_aload (pc' := 32) rfl rfl rfl rfl ?_
    refine zq_getR (pc' := 35) rfl rfl rfl (hp_gC (hkD0 hp0)) ?_
    refine zq_ipush (pc' := 36) rfl rfl rfl ?_
    obtain ⟨a2, hi1, hx3, hya2, H⟩ := H
    refine zq_aald (pc' := 37) rfl rfl rfl (hp_aa (hTD1 hp0) (Or.inl rfl) hi1 hx3) ?_
    exact zq_aret rfl (Exists.intro _ (Exists.intro _ (And.intro rfl H)))
  · have H := H.2 c
    refine zq_aload (pc' := 8) rfl rfl rfl rfl ?_
    refine zq_getI (pc' := 11) rfl rfl rfl (hp_gI (hkD1 hp0)) ?_
    refine zq_aload (pc' := 12) rfl rfl rfl rfl ?_
    refine zq_getR (pc' := 15) rfl rfl rfl (hp_gC (hkD0 hp0)) ?_
    refine zq_alen (pc' := 16) rfl rfl rfl (hp_al (hTD1 hp0) rfl) ?_
    refine zq_icge (pc' := 19) rfl rfl rfl rfl (And.intro (fun c => ?_) (fun c => ?_))
    · have H := H.1 c
      refine zq_aload (pc' := 32) rfl rfl rfl rfl ?_
      refine zq_getR (pc' := 35) rfl rfl rfl (hp_gC (hkD0 hp0)) ?_
      refine zq_ipush (pc' := 36) rfl rfl rfl ?_
      obtain ⟨a5, hi4, hx6, hya5, H⟩ := H
      refine zq_aald (pc' := 37) rfl rfl rfl (hp_aa (hTD1 hp0) (Or.inl rfl) hi4 hx6) ?_
      exact zq_aret rfl (Exists.intro _ (Exists.intro _ (And.intro rfl H)))
    · have H := H.2 c
      refine zq_aload (pc' := 20) rfl rfl rfl rfl ?_
      refine zq_getR (pc' := 23) rfl rfl rfl (hp_gC (hkD0 hp0)) ?_
      refine zq_aload (pc' := 24) rfl rfl rfl rfl ?_
      refine zq_getI (pc' := 27) rfl rfl rfl (hp_gI (hkD1 hp0)) ?_
      obtain ⟨a8, hi7, hx9, hya8, H⟩ := H
      refine zq_aald (pc' := 28) rfl rfl rfl (hp_aa (hTD1 hp0) (Or.inl rfl) hi7 hx9) ?_
      refine zq_goto (pc' := 37) rfl rfl rfl ?_
      exact zq_aret rfl (Exists.intro _ (Exists.intro _ (And.intro rfl H)))
theorem zh_X2_addZip {d : Nat} {k : hG → hE → Prop} {X : Nat → hG → hE → Prop} {p0 : Nat} (hp0 : hD p0) {g : hG} {e : hE} (H :
    hci d 38 [.ref p0] g e (fun x3 g1 e2 =>
      zbr (x3 = 0)
      (hcr d 39 [.ref p0] g1 e2 (fun a6 g4 e5 =>
          hT a6 = some hZ ∧ hcv d 127 [.ref a6] g4 e5 (fun g8 e9 =>
            k (sI g8 p0 1 ((g8.1 p0 1) + 1)) e9) X) X)
      (k g1 e2)) X) : hcv (d + 1) 40 [.ref p0] g e k X := by
  obtain ⟨fs0, hT0⟩ := hDo hp0
  refine hent (M := zm_X2_addZip) hT0 rfl rfl rfl rfl rfl ?_
  refine zq_aload (pc' := 1) rfl rfl rfl rfl ?_
  refine hq_calli (pc' := 4) rfl rfl rfl rfl rfl rfl h_Xv ?_
  refine hmonoi H ?_
  intro x3 g1 e2 H
  refine zq_ifne (pc' := 7) rfl rfl rfl rfl (And.intro (fun c => ?_) (fun c => ?_))
  · have H := H.1 c
    refine zq_aload (pc' := 8) rfl rfl rfl rfl ?_
    refine hq_callr (pc' := 11) rfl rfl rfl rfl rfl rfl h_Xv ?_
    refine hmonor H ?_
    intro a6 g4 e5 H
    obtain ⟨hx7, H⟩ := H
    refine hq_callv (pc' := 14) rfl rfl rfl rfl rfl rfl h_Xv ?_
    refine hmonov H ?_
    intro g8 e9 H
    refine zq_aload (pc' := 15) rfl rfl rfl rfl ?_
    refine zq_dup (pc' := 16) rfl rfl rfl rfl ?_
    refine zq_getI (pc' := 19) rfl rfl rfl (hp_gI (hkD1 hp0)) ?_
    refine zq_ipush (pc' := 20) rfl rfl rfl ?_
    refine zq_iadd (pc' := 21) rfl rfl rfl ?_
    refine zq_put (pc' := 24) rfl rfl rfl trivial (hp_sI (hkD1 hp0)) ?_
    exact zq_vret rfl (Exists.intro _ (Exists.intro _ (And.intro rfl H)))
  · have H := H.2 c
    exact zq_vret rfl (Exists.intro _ (Exists.intro _ (And.intro rfl H)))
theorem zh_X2_addStrain {d : Nat} {k : Int32 → hG → hE → Prop} {X : Nat → hG → hE → Prop} {p0 : Nat} (hp0 : hD p0) {p1 : Int32} {g : hG} {e : hE} (H :
    zbr ((g.1 p0 3) < 0)
    (k 0 g e)
    (zbr ((g.1 p0 3) < (nI 8))
      (hin (g.1 p0 3) 8 ∧
        k 1 (sI (sI g (p0 + 6) (g.1 p0 3).toNatClampNeg p1) p0 3 (((sI g (p0 + 6) (g.1 p0 3).toNatClampNeg p1).1 p0 3) + 1)) e)
      (k 0 g e))) : hci (d + 1) 41 [.ref p0, .int p1] g e k X := by
  obtain ⟨fs0, hT0⟩ := hDo hp0
  refine hent (M := zm_X2_addStrain) hT0 rfl rfl rfl rfl rfl ?_
  refine zq_aload (pc' := 1) rfl rfl rfl rfl ?_
  refine zq_getI (pc' := 4) rfl rfl rfl (hp_gI (hkD3 hp0)) ?_
  refine zq_iflt (pc' := 7) rfl rfl rfl rfl (And.intro (fun c => ?_) (fun c => ?_))
  · have H := H.1 c
    refine zq_ipush (pc' := 20) rfl rfl rfl ?_
    exact zq_iret rfl (Or.inl rfl) (Exists.intro _ (Exists.intro _ (And.intro rfl H)))
  · have H := H.2 c
    refine zq_aload (pc' := 8) rfl rfl rfl rfl ?_
    refine zq_getI (pc' := 11) rfl rfl rfl (hp_gI (hkD3 hp0)) ?_
    refine zq_aload (pc' := 12) rfl rfl rfl rfl ?_
    refine zq_getR (pc' := 15) rfl rfl rfl (hp_gC (hkD2 hp0)) ?_
    refine zq_alen (pc' := 16) rfl rfl rfl (hp_al (hTD6 hp0) rfl) ?_
    refine zq_iclt (pc' := 19) rfl rfl rfl rfl (And.intro (fun c => ?_) (fun c => ?_))
    · have H := H.1 c
      refine zq_aload (pc' := 22) rfl rfl rfl rfl ?_
      refine zq_getR (pc' := 25) rfl rfl rfl (hp_gC (hkD2 hp0)) ?_
      refine zq_aload (pc' := 26) rfl rfl rfl rfl ?_
      refine zq_getI (pc' := 29) rfl rfl rfl (hp_gI (hkD3 hp0)) ?_
      refine zq_iload (pc' := 30) rfl rfl rfl rfl ?_
      obtain ⟨hi1, H⟩ := H
      refine zq_iast (pc' := 31) rfl rfl rfl (hp_is (hTD6 hp0) hi1) ?_
      refine zq_aload (pc' := 32) rfl rfl rfl rfl ?_
      refine zq_dup (pc' := 33) rfl rfl rfl rfl ?_
      refine zq_getI (pc' := 36) rfl rfl rfl (hp_gI (hkD3 hp0)) ?_
      refine zq_ipush (pc' := 37) rfl rfl rfl ?_
      refine zq_iadd (pc' := 38) rfl rfl rfl ?_
      refine zq_put (pc' := 41) rfl rfl rfl trivial (hp_sI (hkD3 hp0)) ?_
      refine zq_ipush (pc' := 42) rfl rfl rfl ?_
      exact zq_iret rfl (Or.inr rfl) (Exists.intro _ (Exists.intro _ (And.intro rfl H)))
    · have H := H.2 c
      refine zq_ipush (pc' := 20) rfl rfl rfl ?_
      exact zq_iret rfl (Or.inl rfl) (Exists.intro _ (Exists.intro _ (And.intro rfl H)))
theorem zh_X2_addStep {d : Nat} {k : hG → hE → Prop} {X : Nat → hG → hE → Prop} {p0 : Nat} (hp0 : hD p0) {p1 : Int32} {g : hG} {e : hE} (H :
    zbr ((g.1 p0 5) < 0)
    (k g e)
    (zbr ((nI 700) ≤ (g.1 p0 5))
      (k g e)
      (hin (g.1 p0 5) 700 ∧
        k (sI (sI g (p0 + 7) (g.1 p0 5).toNatClampNeg p1) p0 5 (((sI g (p0 + 7) (g.1 p0 5).toNatClampNeg p1).1 p0 5) + 1)) e))) : hcv (d + 1) 42 [.ref p0, .int p1] g e k X := by
  obtain ⟨fs0, hT0⟩ := hDo hp0
  refine hent (M := zm_X2_addStep) hT0 rfl rfl rfl rfl rfl ?_
  refine zq_aload (pc' := 1) rfl rfl rfl rfl ?_
  refine zq_getI (pc' := 4) rfl rfl rfl (hp_gI (hkD5 hp0)) ?_
  refine zq_iflt (pc' := 7) rfl rfl rfl rfl (And.intro (fun c => ?_) (fun c => ?_))
  · have H := H.1 c
    exact zq_vret rfl (Exists.intro _ (Exists.intro _ (And.intro rfl H)))
  · have H := H.2 c
    refine zq_aload (pc' := 8) rfl rfl rfl rfl ?_
    refine zq_getI (pc' := 11) rfl rfl rfl (hp_gI (hkD5 hp0)) ?_
    refine zq_aload (pc' := 12) rfl rfl rfl rfl ?_
    refine zq_getR (pc' := 15) rfl rfl rfl (hp_gC (hkD4 hp0)) ?_
    refine zq_alen (pc' := 16) rfl rfl rfl (hp_al (hTD7 hp0) rfl) ?_
    refine zq_icge (pc' := 19) rfl rfl rfl rfl (And.intro (fun c => ?_) (fun c => ?_))
    · have H := H.1 c
      exact zq_vret rfl (Exists.intro _ (Exists.intro _ (And.intro rfl H)))
    · have H := H.2 c
      refine zq_aload (pc' := 20) rfl rfl rfl rfl ?_
      refine zq_getR (pc' := 23) rfl rfl rfl (hp_gC (hkD4 hp0)) ?_
      refine zq_aload (pc' := 24) rfl rfl rfl rfl ?_
      refine zq_getI (pc' := 27) rfl rfl rfl (hp_gI (hkD5 hp0)) ?_
      refine zq_iload (pc' := 28) rfl rfl rfl rfl ?_
      obtain ⟨hi1, H⟩ := H
      refine zq_iast (pc' := 29) rfl rfl rfl (hp_is (hTD7 hp0) hi1) ?_
      refine zq_aload (pc' := 30) rfl rfl rfl rfl ?_
      refine zq_dup (pc' := 31) rfl rfl rfl rfl ?_
      refine zq_getI (pc' := 34) rfl rfl rfl (hp_gI (hkD5 hp0)) ?_
      refine zq_ipush (pc' := 35) rfl rfl rfl ?_
      refine zq_iadd (pc' := 36) rfl rfl rfl ?_
      refine zq_put (pc' := 39) rfl rfl rfl trivial (hp_sI (hkD5 hp0)) ?_
      exact zq_vret rfl (Exists.intro _ (Exists.intro _ (And.intro rfl H)))
theorem zh_X2_stepCount {d : Nat} {k : Int32 → hG → hE → Prop} {X : Nat → hG → hE → Prop} {p0 : Nat} (hp0 : hD p0) {g : hG} {e : hE} (H :
    k (g.1 p0 5) g e) : hci (d + 1) 43 [.ref p0] g e k X := by
  obtain ⟨fs0, hT0⟩ := hDo hp0
  refine hent (M := zm_X2_stepCount) hT0 rfl rfl rfl rfl rfl ?_
  refine zq_aload (pc' := 1) rfl rfl rfl rfl ?_
  refine zq_getI (pc' := 4) rfl rfl rfl (hp_gI (hkD5 hp0)) ?_
  exact zq_iret rfl trivial (Exists.intro _ (Exists.intro _ (And.intro rfl H)))
theorem zh_X2_isTold {d : Nat} {k : Int32 → hG → hE → Prop} {X : Nat → hG → hE → Prop} {p0 : Nat} (hp0 : hD p0) {p1 : Int32} {g : hG} {e : hE} (H :
    zbr (p1 = 0)
    (hci d 93 [.ref (p0 + 10)] g e (fun x3 g1 e2 =>
        (x3 = 0 ∨ x3 = 1) ∧ k x3 g1 e2) X)
    (hci d 93 [.ref (p0 + 8)] g e (fun x6 g4 e5 =>
        (x6 = 0 ∨ x6 = 1) ∧ k x6 g4 e5) X)) : hci (d + 1) 44 [.ref p0, .int p1] g e k X := by
  obtain ⟨fs0, hT0⟩ := hDo hp0
  refine hent (M := zm_X2_isTold) hT0 rfl rfl rfl rfl rfl ?_
  refine zq_iload (pc' := 1) rfl rfl rfl rfl ?_
  refine zq_ifeq (pc' := 4) rfl rfl rfl rfl (And.intro (fun c => ?_) (fun c => ?_))
  · have H := H.1 c
    refine zq_aload (pc' := 12) rfl rfl rfl rfl ?_
    refine zq_getR (pc' := 15) rfl rfl rfl (hp_gC (hkD7 hp0)) ?_
    refine hq_calli (pc' := 18) rfl rfl rfl rfl rfl rfl h_Xi ?_
    refine hmonoi H ?_
    intro x3 g1 e2 H
    exact zq_iret rfl H.1 (Exists.intro _ (Exists.intro _ (And.intro rfl H.2)))
  · have H := H.2 c
    refine zq_aload (pc' := 5) rfl rfl rfl rfl ?_
    refine zq_getR (pc' := 8) rfl rfl rfl (hp_gC (hkD6 hp0)) ?_
    refine zq_goto (pc' := 15) rfl rfl rfl ?_
    refine hq_calli (pc' := 18) rfl rfl rfl rfl rfl rfl h_Xi ?_
    refine hmonoi H ?_
    intro x6 g4 e5 H
    exact zq_iret rfl H.1 (Exists.intro _ (Exists.intro _ (And.intro rfl H.2)))
theorem zh_X2_tell {d : Nat} {k : hG → hE → Prop} {X : Nat → hG → hE → Prop} {p0 : Nat} (hp0 : hD p0) {p1 : Int32} {p2 : Int32} {g : hG} {e : hE} (H :
    zbr (p1 = 0)
    (hcv d 94 [.ref (p0 + 10), .ref (p0 + 7), .int p2, .int (g.1 p0 5)] g e (fun g1 e2 =>
        k g1 e2) X)
    (hcv d 94 [.ref (p0 + 8), .ref (p0 + 7), .int p2, .int (g.1 p0 5)] g e (fun g3 e4 =>
        k g3 e4) X)) : hcv (d + 1) 45 [.ref p0, .int p1, .int p2] g e k X := by
  obtain ⟨fs0, hT0⟩ := hDo hp0
  refine hent (M := zm_X2_tell) hT0 rfl rfl rfl rfl rfl ?_
  refine zq_iload (pc' := 1) rfl rfl rfl rfl ?_
  refine zq_ifeq (pc' := 4) rfl rfl rfl rfl (And.intro (fun c => ?_) (fun c => ?_))
  · have H := H.1 c
    refine zq_aload (pc' := 12) rfl rfl rfl rfl ?_
    refine zq_getR (pc' := 15) rfl rfl rfl (hp_gC (hkD7 hp0)) ?_
    refine zq_aload (pc' := 16) rfl rfl rfl rfl ?_
    refine zq_getR (pc' := 19) rfl rfl rfl (hp_gC (hkD4 hp0)) ?_
    refine zq_iload (pc' := 20) rfl rfl rfl rfl ?_
    refine zq_aload (pc' := 21) rfl rfl rfl rfl ?_
    refine zq_getI (pc' := 24) rfl rfl rfl (hp_gI (hkD5 hp0)) ?_
    refine hq_callv (pc' := 27) rfl rfl rfl rfl rfl rfl h_Xv ?_
    refine hmonov H ?_
    intro g1 e2 H
    exact zq_vret rfl (Exists.intro _ (Exists.intro _ (And.intro rfl H)))
  · have H := H.2 c
    refine zq_aload (pc' := 5) rfl rfl rfl rfl ?_
    refine zq_getR (pc' := 8) rfl rfl rfl (hp_gC (hkD6 hp0)) ?_
    refine zq_goto (pc' := 15) rfl rfl rfl ?_
    refine zq_aload (pc' := 16) rfl rfl rfl rfl ?_
    refine zq_getR (pc' := 19) rfl rfl rfl (hp_gC (hkD4 hp0)) ?_
    refine zq_iload (pc' := 20) rfl rfl rfl rfl ?_
    refine zq_aload (pc' := 21) rfl rfl rfl rfl ?_
    refine zq_getI (pc' := 24) rfl rfl rfl (hp_gI (hkD5 hp0)) ?_
    refine hq_callv (pc' := 27) rfl rfl rfl rfl rfl rfl h_Xv ?_
    refine hmonov H ?_
    intro g3 e4 H
    exact zq_vret rfl (Exists.intro _ (Exists.intro _ (And.intro rfl H)))
theorem zh_X2_zipCount {d : Nat} {k : Int32 → hG → hE → Prop} {X : Nat → hG → hE → Prop} {p0 : Nat} (hp0 : hD p0) {g : hG} {e : hE} (H :
    k (g.1 p0 1) g e) : hci (d + 1) 46 [.ref p0] g e k X := by
  obtain ⟨fs0, hT0⟩ := hDo hp0
  refine hent (M := zm_X2_zipCount) hT0 rfl rfl rfl rfl rfl ?_
  refine zq_aload (pc' := 1) rfl rfl rfl rfl ?_
  refine zq_getI (pc' := 4) rfl rfl rfl (hp_gI (hkD1 hp0)) ?_
  exact zq_iret rfl trivial (Exists.intro _ (Exists.intro _ (And.intro rfl H)))
theorem zh_X2_hasZip {d : Nat} {k : Int32 → hG → hE → Prop} {X : Nat → hG → hE → Prop} {p0 : Nat} (hp0 : hD p0) {p1 : Int32} {g : hG} {e : hE} (H :
    zbr (p1 < 0)
    (k 0 g e)
    (zbr ((g.1 p0 1) ≤ p1)
      (k 0 g e)
      (zbr ((nI 4) ≤ p1)
        (k 0 g e)
        (k 1 g e)))) : hci (d + 1) 47 [.ref p0, .int p1] g e k X := by
  obtain ⟨fs0, hT0⟩ := hDo hp0
  refine hent (M := zm_X2_hasZip) hT0 rfl rfl rfl rfl rfl ?_
  refine zq_iload (pc' := 1) rfl rfl rfl rfl ?_
  refine zq_iflt (pc' := 4) rfl rfl rfl rfl (And.intro (fun c => ?_) (fun c => ?_))
  · have H := H.1 c
    refine zq_ipush (pc' := 26) rfl rfl rfl ?_
    exact zq_iret rfl (Or.inl rfl) (Exists.intro _ (Exists.intro _ (And.intro rfl H)))
  · have H := H.2 c
    refine zq_iload (pc' := 5) rfl rfl rfl rfl ?_
    refine zq_aload (pc' := 6) rfl rfl rfl rfl ?_
    refine zq_getI (pc' := 9) rfl rfl rfl (hp_gI (hkD1 hp0)) ?_
    refine zq_icge (pc' := 12) rfl rfl rfl rfl (And.intro (fun c => ?_) (fun c => ?_))
    · have H := H.1 c
      refine zq_ipush (pc' := 26) rfl rfl rfl ?_
      exact zq_iret rfl (Or.inl rfl) (Exists.intro _ (Exists.intro _ (And.intro rfl H)))
    · have H := H.2 c
      refine zq_iload (pc' := 13) rfl rfl rfl rfl ?_
      refine zq_aload (pc' := 14) rfl rfl rfl rfl ?_
      refine zq_getR (pc' := 17) rfl rfl rfl (hp_gC (hkD0 hp0)) ?_
      refine zq_alen (pc' := 18) rfl rfl rfl (hp_al (hTD1 hp0) rfl) ?_
      refine zq_icge (pc' := 21) rfl rfl rfl rfl (And.intro (fun c => ?_) (fun c => ?_))
      · have H := H.1 c
        refine zq_ipush (pc' := 26) rfl rfl rfl ?_
        exact zq_iret rfl (Or.inl rfl) (Exists.intro _ (Exists.intro _ (And.intro rfl H)))
      · have H := H.2 c
        refine zq_ipush (pc' := 22) rfl rfl rfl ?_
        refine zq_goto (pc' := 26) rfl rfl rfl ?_
        exact zq_iret rfl (Or.inr rfl) (Exists.intro _ (Exists.intro _ (And.intro rfl H)))
theorem zh_X2_zipAt {d : Nat} {k : Nat → hG → hE → Prop} {X : Nat → hG → hE → Prop} {p0 : Nat} (hp0 : hD p0) {p1 : Int32} {g : hG} {e : hE} (H :
    zbr (p1 < 0)
    (∃ a2 : Nat, hin (0 : Int32) 4 ∧ hR (p0 + 1) (0 : Int32).toNatClampNeg = some a2 ∧ hT a2 = some hZ ∧
      k a2 g e)
    (zbr ((nI 4) ≤ p1)
      (∃ a5 : Nat, hin (0 : Int32) 4 ∧ hR (p0 + 1) (0 : Int32).toNatClampNeg = some a5 ∧ hT a5 = some hZ ∧
        k a5 g e)
      (∃ a8 : Nat, hin p1 4 ∧ hR (p0 + 1) p1.toNatClampNeg = some a8 ∧ hT a8 = some hZ ∧
        k a8 g e))) : hcr (d + 1) 48 [.ref p0, .int p1] g e k X := by
  obtain ⟨fs0, hT0⟩ := hDo hp0
  refine hent (M := zm_X2_zipAt) hT0 rfl rfl rfl rfl rfl ?_
  refine zq_iload (pc' := 1) rfl rfl rfl rfl ?_
  refine zq_iflt (pc' := 4) rfl rfl rfl rfl (And.intro (fun c => ?_) (fun c => ?_))
  · have H := H.1 c
    refine zq_aload (pc' := 23) rfl rfl rfl rfl ?_
    refine zq_getR (pc' := 26) rfl rfl rfl (hp_gC (hkD0 hp0)) ?_
    refine zq_ipush (pc' := 27) rfl rfl rfl ?_
    obtain ⟨a2, hi1, hx3, hya2, H⟩ := H
    refine zq_aald (pc' := 28) rfl rfl rfl (hp_aa (hTD1 hp0) (Or.inl rfl) hi1 hx3) ?_
    exact zq_aret rfl (Exists.intro _ (Exists.intro _ (And.intro rfl H)))
  · have H := H.2 c
    refine zq_iload (pc' := 5) rfl rfl rfl rfl ?_
    refine zq_aload (pc' := 6) rfl rfl rfl rfl ?_
    refine zq_getR (pc' := 9) rfl rfl rfl (hp_gC (hkD0 hp0)) ?_
    refine zq_alen (pc' := 10) rfl rfl rfl (hp_al (hTD1 hp0) rfl) ?_
    refine zq_icge (pc' := 13) rfl rfl rfl rfl (And.intro (fun c => ?_) (fun c => ?_))
    · have H := H.1 c
      refine zq_aload (pc' := 23) rfl rfl rfl rfl ?_
      refine zq_getR (pc' := 26) rfl rfl rfl (hp_gC (hkD0 hp0)) ?_
      refine zq_ipush (pc' := 27) rfl rfl rfl ?_
      obtain ⟨a5, hi4, hx6, hya5, H⟩ := H
      refine zq_aald (pc' := 28) rfl rfl rfl (hp_aa (hTD1 hp0) (Or.inl rfl) hi4 hx6) ?_
      exact zq_aret rfl (Exists.intro _ (Exists.intro _ (And.intro rfl H)))
    · have H := H.2 c
      refine zq_aload (pc' := 14) rfl rfl rfl rfl ?_
      refine zq_getR (pc' := 17) rfl rfl rfl (hp_gC (hkD0 hp0)) ?_
      refine zq_iload (pc' := 18) rfl rfl rfl rfl ?_
      obtain ⟨a8, hi7, hx9, hya8, H⟩ := H
      refine zq_aald (pc' := 19) rfl rfl rfl (hp_aa (hTD1 hp0) (Or.inl rfl) hi7 hx9) ?_
      refine zq_goto (pc' := 28) rfl rfl rfl ?_
      exact zq_aret rfl (Exists.intro _ (Exists.intro _ (And.intro rfl H)))
theorem zh_X2_today {d : Nat} {k : Int32 → hG → hE → Prop} {X : Nat → hG → hE → Prop} {p0 : Nat} (hp0 : hD p0) {g : hG} {e : hE} (H :
    k (g.1 p0 8) g e) : hci (d + 1) 49 [.ref p0] g e k X := by
  obtain ⟨fs0, hT0⟩ := hDo hp0
  refine hent (M := zm_X2_today) hT0 rfl rfl rfl rfl rfl ?_
  refine zq_aload (pc' := 1) rfl rfl rfl rfl ?_
  refine zq_getI (pc' := 4) rfl rfl rfl (hp_gI (hkD8 hp0)) ?_
  exact zq_iret rfl trivial (Exists.intro _ (Exists.intro _ (And.intro rfl H)))
theorem zh_X2_turnTo {d : Nat} {k : hG → hE → Prop} {X : Nat → hG → hE → Prop} {p0 : Nat} (hp0 : hD p0) {p1 : Int32} {g : hG} {e : hE} (H :
    k (sI g p0 8 p1) e) : hcv (d + 1) 50 [.ref p0, .int p1] g e k X := by
  obtain ⟨fs0, hT0⟩ := hDo hp0
  refine hent (M := zm_X2_turnTo) hT0 rfl rfl rfl rfl rfl ?_
  refine zq_aload (pc' := 1) rfl rfl rfl rfl ?_
  refine zq_iload (pc' := 2) rfl rfl rfl rfl ?_
  refine zq_put (pc' := 5) rfl rfl rfl trivial (hp_sI (hkD8 hp0)) ?_
  exact zq_vret rfl (Exists.intro _ (Exists.intro _ (And.intro rfl H)))
theorem zh_X2_strainCount {d : Nat} {k : Int32 → hG → hE → Prop} {X : Nat → hG → hE → Prop} {p0 : Nat} (hp0 : hD p0) {g : hG} {e : hE} (H :
    k (g.1 p0 3) g e) : hci (d + 1) 51 [.ref p0] g e k X := by
  obtain ⟨fs0, hT0⟩ := hDo hp0
  refine hent (M := zm_X2_strainCount) hT0 rfl rfl rfl rfl rfl ?_
  refine zq_aload (pc' := 1) rfl rfl rfl rfl ?_
  refine zq_getI (pc' := 4) rfl rfl rfl (hp_gI (hkD3 hp0)) ?_
  exact zq_iret rfl trivial (Exists.intro _ (Exists.intro _ (And.intro rfl H)))
theorem zh_X2_strainAt {d : Nat} {k : Int32 → hG → hE → Prop} {X : Nat → hG → hE → Prop} {p0 : Nat} (hp0 : hD p0) {p1 : Int32} {g : hG} {e : hE} (H :
    zbr (p1 < 0)
    (k 4 g e)
    (zbr ((g.1 p0 3) ≤ p1)
      (k 4 g e)
      (zbr ((nI 8) ≤ p1)
        (k 4 g e)
        (hin p1 8 ∧
          k (g.1 (p0 + 6) p1.toNatClampNeg) g e)))) : hci (d + 1) 52 [.ref p0, .int p1] g e k X := by
  obtain ⟨fs0, hT0⟩ := hDo hp0
  refine hent (M := zm_X2_strainAt) hT0 rfl rfl rfl rfl rfl ?_
  refine zq_iload (pc' := 1) rfl rfl rfl rfl ?_
  refine zq_iflt (pc' := 4) rfl rfl rfl rfl (And.intro (fun c => ?_) (fun c => ?_))
  · have H := H.1 c
    refine zq_ipush (pc' := 31) rfl rfl rfl ?_
    exact zq_iret rfl trivial (Exists.intro _ (Exists.intro _ (And.intro rfl H)))
  · have H := H.2 c
    refine zq_iload (pc' := 5) rfl rfl rfl rfl ?_
    refine zq_aload (pc' := 6) rfl rfl rfl rfl ?_
    refine zq_getI (pc' := 9) rfl rfl rfl (hp_gI (hkD3 hp0)) ?_
    refine zq_icge (pc' := 12) rfl rfl rfl rfl (And.intro (fun c => ?_) (fun c => ?_))
    · have H := H.1 c
      refine zq_ipush (pc' := 31) rfl rfl rfl ?_
      exact zq_iret rfl trivial (Exists.intro _ (Exists.intro _ (And.intro rfl H)))
    · have H := H.2 c
      refine zq_iload (pc' := 13) rfl rfl rfl rfl ?_
      refine zq_aload (pc' := 14) rfl rfl rfl rfl ?_
      refine zq_getR (pc' := 17) rfl rfl rfl (hp_gC (hkD2 hp0)) ?_
      refine zq_alen (pc' := 18) rfl rfl rfl (hp_al (hTD6 hp0) rfl) ?_
      refine zq_icge (pc' := 21) rfl rfl rfl rfl (And.intro (fun c => ?_) (fun c => ?_))
      · have H := H.1 c
        refine zq_ipush (pc' := 31) rfl rfl rfl ?_
        exact zq_iret rfl trivial (Exists.intro _ (Exists.intro _ (And.intro rfl H)))
      · have H := H.2 c
        refine zq_aload (pc' := 22) rfl rfl rfl rfl ?_
        refine zq_getR (pc' := 25) rfl rfl rfl (hp_gC (hkD2 hp0)) ?_
        refine zq_iload (pc' := 26) rfl rfl rfl rfl ?_
        obtain ⟨hi1, H⟩ := H
        refine zq_iald (pc' := 27) rfl rfl rfl (hp_ia (hTD6 hp0) hi1) ?_
        refine zq_goto (pc' := 31) rfl rfl rfl ?_
        exact zq_iret rfl trivial (Exists.intro _ (Exists.intro _ (And.intro rfl H)))
theorem zh_X2_strainOn {d : Nat} {k : Int32 → hG → hE → Prop} {X : Nat → hG → hE → Prop} {p0 : Nat} (hp0 : hD p0) {p1 : Int32} {g : hG} {e : hE} (H :
    hci d 54 [.ref p0, .int p1, .int (-1), .int 0] g e (fun x3 g1 e2 =>
      k x3 g1 e2) X) : hci (d + 1) 53 [.ref p0, .int p1] g e k X := by
  obtain ⟨fs0, hT0⟩ := hDo hp0
  refine hent (M := zm_X2_strainOn) hT0 rfl rfl rfl rfl rfl ?_
  refine zq_aload (pc' := 1) rfl rfl rfl rfl ?_
  refine zq_iload (pc' := 2) rfl rfl rfl rfl ?_
  refine zq_ipushn (pc' := 3) rfl rfl rfl ?_
  refine zq_ipush (pc' := 4) rfl rfl rfl ?_
  refine hq_calli (pc' := 7) rfl rfl rfl rfl rfl rfl h_Xi ?_
  refine hmonoi H ?_
  intro x3 g1 e2 H
  exact zq_iret rfl trivial (Exists.intro _ (Exists.intro _ (And.intro rfl H)))
theorem zh_X2_strainWith {d : Nat} {k : Int32 → hG → hE → Prop} {X : Nat → hG → hE → Prop} {p0 : Nat} (hp0 : hD p0) {p1 : Int32} {p2 : Int32} {p3 : Int32} {g : hG} {e : hE} (H :
    zbr (0 < (g.1 p0 3))
    (¬ (g.1 p0 3) = 0 ∧ zbr ((p1 - p1 / (g.1 p0 3) * (g.1 p0 3)) = p2)
      (k p3 g e)
      (hci d 52 [.ref p0, .int (p1 - p1 / (g.1 p0 3) * (g.1 p0 3))] g e (fun x3 g1 e2 =>
          k x3 g1 e2) X))
    (k 4 g e)) : hci (d + 1) 54 [.ref p0, .int p1, .int p2, .int p3] g e k X := by
  obtain ⟨fs0, hT0⟩ := hDo hp0
  refine hent (M := zm_X2_strainWith) hT0 rfl rfl rfl rfl rfl ?_
  refine zq_aload (pc' := 1) rfl rfl rfl rfl ?_
  refine zq_getI (pc' := 4) rfl rfl rfl (hp_gI (hkD3 hp0)) ?_
  refine zq_ifgt (pc' := 7) rfl rfl rfl rfl (And.intro (fun c => ?_) (fun c => ?_))
  · have H := H.1 c
    refine zq_iload (pc' := 10) rfl rfl rfl rfl ?_
    refine zq_aload (pc' := 11) rfl rfl rfl rfl ?_
    refine zq_getI (pc' := 14) rfl rfl rfl (hp_gI (hkD3 hp0)) ?_
    obtain ⟨e0, H⟩ := H
    refine zq_irem (pc' := 15) rfl rfl rfl e0 ?_
    refine zq_istore (pc' := 17) rfl rfl rfl ?_
    refine zq_iload (pc' := 19) rfl rfl rfl rfl ?_
    refine zq_iload (pc' := 20) rfl rfl rfl rfl ?_
    refine zq_icne (pc' := 23) rfl rfl rfl rfl (And.intro (fun c => ?_) (fun c => ?_))
    · have H := H.1 c
      refine zq_iload (pc' := 24) rfl rfl rfl rfl ?_
      refine zq_goto (pc' := 33) rfl rfl rfl ?_
      exact zq_iret rfl trivial (Exists.intro _ (Exists.intro _ (And.intro rfl H)))
    · have H := H.2 c
      refine zq_aload (pc' := 28) rfl rfl rfl rfl ?_
      refine zq_iload (pc' := 30) rfl rfl rfl rfl ?_
      refine hq_calli (pc' := 33) rfl rfl rfl rfl rfl rfl h_Xi ?_
      refine hmonoi H ?_
      intro x3 g1 e2 H
      exact zq_iret rfl trivial (Exists.intro _ (Exists.intro _ (And.intro rfl H)))
  · have H := H.2 c
    refine zq_ipush (pc' := 8) rfl rfl rfl ?_
    exact zq_iret rfl trivial (Exists.intro _ (Exists.intro _ (And.intro rfl H)))
theorem zh_X2_allClosed {d : Nat} {k : Int32 → hG → hE → Prop} {X : Nat → hG → hE → Prop} {p0 : Nat} (hp0 : hD p0) {g : hG} {e : hE} (H :
    hwi d zm_X2_allClosed k X 4 [(0, .ref p0), (1, .int 0), (2, .int 0)] g e) : hci (d + 1) 55 [.ref p0] g e k X := by
  obtain ⟨fs0, hT0⟩ := hDo hp0
  refine hent (M := zm_X2_allClosed) hT0 rfl rfl rfl rfl rfl ?_
  refine zq_ipush (pc' := 1) rfl rfl rfl ?_
  refine zq_istore (pc' := 2) rfl rfl rfl ?_
  refine zq_ipush (pc' := 3) rfl rfl rfl ?_
  refine zq_istore_c (pc' := 4) rfl rfl ?_
  exact H
theorem zh_X2_allClosed_4 {d : Nat} {k : Int32 → hG → hE → Prop} {X : Nat → hG → hE → Prop} {l0 : Nat} (hl0 : hD l0) {l1 : Int32} {l2 : Int32} {g : hG} {e : hE} (H :
    zbr ((g.1 l0 1) ≤ l2)
    (k l1 g e)
    (hcr d 48 [.ref l0, .int l2] g e (fun a3 g1 e2 =>
        hT a3 = some hZ ∧ hci d 116 [.ref a3] g1 e2 (fun x7 g5 e6 =>
          hwi d zm_X2_allClosed k X 4 [(0, .ref l0), (1, .int (l1 + x7)), (2, .int (l2 + 1))] g5 e6) X) X)) : hwi d zm_X2_allClosed k X 4 [(0, .ref l0), (1, .int l1), (2, .int l2)] g e := by
  refine zq_iload (pc' := 5) rfl rfl rfl rfl ?_
  refine zq_aload (pc' := 6) rfl rfl rfl rfl ?_
  refine zq_getI (pc' := 9) rfl rfl rfl (hp_gI (hkD1 hl0)) ?_
  refine zq_icge (pc' := 12) rfl rfl rfl rfl (And.intro (fun c => ?_) (fun c => ?_))
  · have H := H.1 c
    refine zq_iload (pc' := 30) rfl rfl rfl rfl ?_
    exact zq_iret rfl trivial (Exists.intro _ (Exists.intro _ (And.intro rfl H)))
  · have H := H.2 c
    refine zq_iload (pc' := 13) rfl rfl rfl rfl ?_
    refine zq_aload (pc' := 14) rfl rfl rfl rfl ?_
    refine zq_iload (pc' := 15) rfl rfl rfl rfl ?_
    refine hq_callr (pc' := 18) rfl rfl rfl rfl rfl rfl h_Xi ?_
    refine hmonor H ?_
    intro a3 g1 e2 H
    obtain ⟨hx4, H⟩ := H
    refine hq_calli (pc' := 21) rfl rfl rfl rfl rfl rfl h_Xi ?_
    refine hmonoi H ?_
    intro x7 g5 e6 H
    refine zq_iadd (pc' := 22) rfl rfl rfl ?_
    refine zq_istore (pc' := 23) rfl rfl rfl ?_
    refine zq_iinc (pc' := 26) rfl rfl rfl rfl ?_
    refine zq_goto_c (pc' := 4) rfl rfl ?_
    exact H
theorem zh_X2_allGrips {d : Nat} {k : Int32 → hG → hE → Prop} {X : Nat → hG → hE → Prop} {p0 : Nat} (hp0 : hD p0) {g : hG} {e : hE} (H :
    hwi d zm_X2_allGrips k X 4 [(0, .ref p0), (1, .int 0), (2, .int 0)] g e) : hci (d + 1) 56 [.ref p0] g e k X := by
  obtain ⟨fs0, hT0⟩ := hDo hp0
  refine hent (M := zm_X2_allGrips) hT0 rfl rfl rfl rfl rfl ?_
  refine zq_ipush (pc' := 1) rfl rfl rfl ?_
  refine zq_istore (pc' := 2) rfl rfl rfl ?_
  refine zq_ipush (pc' := 3) rfl rfl rfl ?_
  refine zq_istore_c (pc' := 4) rfl rfl ?_
  exact H
theorem zh_X2_allGrips_4 {d : Nat} {k : Int32 → hG → hE → Prop} {X : Nat → hG → hE → Prop} {l0 : Nat} (hl0 : hD l0) {l1 : Int32} {l2 : Int32} {g : hG} {e : hE} (H :
    zbr ((g.1 l0 1) ≤ l2)
    (k l1 g e)
    (hcr d 48 [.ref l0, .int l2] g e (fun a3 g1 e2 =>
        hT a3 = some hZ ∧ hci d 123 [.ref a3] g1 e2 (fun x7 g5 e6 =>
          hwi d zm_X2_allGrips k X 4 [(0, .ref l0), (1, .int (l1 + x7)), (2, .int (l2 + 1))] g5 e6) X) X)) : hwi d zm_X2_allGrips k X 4 [(0, .ref l0), (1, .int l1), (2, .int l2)] g e := by
  refine zq_iload (pc' := 5) rfl rfl rfl rfl ?_
  refine zq_aload (pc' := 6) rfl rfl rfl rfl ?_
  refine zq_getI (pc' := 9) rfl rfl rfl (hp_gI (hkD1 hl0)) ?_
  refine zq_icge (pc' := 12) rfl rfl rfl rfl (And.intro (fun c => ?_) (fun c => ?_))
  · have H := H.1 c
    refine zq_iload (pc' := 30) rfl rfl rfl rfl ?_
    exact zq_iret rfl trivial (Exists.intro _ (Exists.intro _ (And.intro rfl H)))
  · have H := H.2 c
    refine zq_iload (pc' := 13) rfl rfl rfl rfl ?_
    refine zq_aload (pc' := 14) rfl rfl rfl rfl ?_
    refine zq_iload (pc' := 15) rfl rfl rfl rfl ?_
    refine hq_callr (pc' := 18) rfl rfl rfl rfl rfl rfl h_Xi ?_
    refine hmonor H ?_
    intro a3 g1 e2 H
    obtain ⟨hx4, H⟩ := H
    refine hq_calli (pc' := 21) rfl rfl rfl rfl rfl rfl h_Xi ?_
    refine hmonoi H ?_
    intro x7 g5 e6 H
    refine zq_iadd (pc' := 22) rfl rfl rfl ?_
    refine zq_istore (pc' := 23) rfl rfl rfl ?_
    refine zq_iinc (pc' := 26) rfl rfl rfl rfl ?_
    refine zq_goto_c (pc' := 4) rfl rfl ?_
    exact H
theorem zh_X2_passToday {d : Nat} {k : hG → hE → Prop} {X : Nat → hG → hE → Prop} {p0 : Nat} (hp0 : hD p0) {g : hG} {e : hE} (H :
    hwv d zm_X2_passToday k X 2 [(0, .ref p0), (1, .int 0)] g e) : hcv (d + 1) 57 [.ref p0] g e k X := by
  obtain ⟨fs0, hT0⟩ := hDo hp0
  refine hent (M := zm_X2_passToday) hT0 rfl rfl rfl rfl rfl ?_
  refine zq_ipush (pc' := 1) rfl rfl rfl ?_
  refine zq_istore_c (pc' := 2) rfl rfl ?_
  exact H
theorem zh_X2_passToday_2 {d : Nat} {k : hG → hE → Prop} {X : Nat → hG → hE → Prop} {l0 : Nat} (hl0 : hD l0) {l1 : Int32} {g : hG} {e : hE} (H :
    zbr ((g.1 l0 1) ≤ l1)
    (k (sI g l0 8 ((g.1 l0 8) + 1)) e)
    (hcr d 48 [.ref l0, .int l1] g e (fun a3 g1 e2 =>
        hT a3 = some hZ ∧ hci d 53 [.ref l0, .int (g1.1 l0 8)] g1 e2 (fun x7 g5 e6 =>
          hci d 58 [.ref l0, .ref a3, .int x7, .int (g5.1 l0 8)] g5 e6 (fun x10 g8 e9 =>
            hwv d zm_X2_passToday k X 2 [(0, .ref l0), (1, .int (l1 + 1))] g8 e9) X) X) X)) : hwv d zm_X2_passToday k X 2 [(0, .ref l0), (1, .int l1)] g e := by
  refine zq_iload (pc' := 3) rfl rfl rfl rfl ?_
  refine zq_aload (pc' := 4) rfl rfl rfl rfl ?_
  refine zq_getI (pc' := 7) rfl rfl rfl (hp_gI (hkD1 hl0)) ?_
  refine zq_icge (pc' := 10) rfl rfl rfl rfl (And.intro (fun c => ?_) (fun c => ?_))
  · have H := H.1 c
    refine zq_aload (pc' := 39) rfl rfl rfl rfl ?_
    refine zq_dup (pc' := 40) rfl rfl rfl rfl ?_
    refine zq_getI (pc' := 43) rfl rfl rfl (hp_gI (hkD8 hl0)) ?_
    refine zq_ipush (pc' := 44) rfl rfl rfl ?_
    refine zq_iadd (pc' := 45) rfl rfl rfl ?_
    refine zq_put (pc' := 48) rfl rfl rfl trivial (hp_sI (hkD8 hl0)) ?_
    exact zq_vret rfl (Exists.intro _ (Exists.intro _ (And.intro rfl H)))
  · have H := H.2 c
    refine zq_aload (pc' := 11) rfl rfl rfl rfl ?_
    refine zq_aload (pc' := 12) rfl rfl rfl rfl ?_
    refine zq_iload (pc' := 13) rfl rfl rfl rfl ?_
    refine hq_callr (pc' := 16) rfl rfl rfl rfl rfl rfl h_Xv ?_
    refine hmonor H ?_
    intro a3 g1 e2 H
    obtain ⟨hx4, H⟩ := H
    refine zq_aload (pc' := 17) rfl rfl rfl rfl ?_
    refine zq_aload (pc' := 18) rfl rfl rfl rfl ?_
    refine zq_getI (pc' := 21) rfl rfl rfl (hp_gI (hkD8 hl0)) ?_
    refine hq_calli (pc' := 24) rfl rfl rfl rfl rfl rfl h_Xv ?_
    refine hmonoi H ?_
    intro x7 g5 e6 H
    refine zq_aload (pc' := 25) rfl rfl rfl rfl ?_
    refine zq_getI (pc' := 28) rfl rfl rfl (hp_gI (hkD8 hl0)) ?_
    refine hq_calli (pc' := 31) rfl rfl rfl rfl rfl rfl h_Xv ?_
    refine hmonoi H ?_
    intro x10 g8 e9 H
    refine zq_pop (pc' := 32) rfl rfl rfl rfl ?_
    refine zq_iinc (pc' := 35) rfl rfl rfl rfl ?_
    refine zq_goto_c (pc' := 2) rfl rfl ?_
    exact H
theorem zh_X2_pass {d : Nat} {k : Int32 → hG → hE → Prop} {X : Nat → hG → hE → Prop} {p0 : Nat} (hp0 : hD p0) {p1 : Nat} (hp1 : hT p1 = some hZ) {p2 : Int32} {p3 : Int32} {g : hG} {e : hE} (H :
    hci d 115 [.ref p1] (sI g p0 9 (-1)) e (fun x3 g1 e2 =>
      zbr (x3 = 0)
      (hwi d zm_X2_pass k X 33 [(0, .ref p0), (1, .ref p1), (2, .int p2), (3, .int p3), (4, .int 0), (5, .int 0), (6, .int 0)] g1 e2)
      (hci d 110 [.ref p1, .int p2] g1 e2 (fun x6 g4 e5 =>
          zbr (x6 = 0)
          (hwi d zm_X2_pass k X 33 [(0, .ref p0), (1, .ref p1), (2, .int p2), (3, .int p3), (4, .int 0), (5, .int 1), (6, .int 0)] g4 e5)
          (hwi d zm_X2_pass k X 33 [(0, .ref p0), (1, .ref p1), (2, .int p2), (3, .int p3), (4, .int 0), (5, .int 0), (6, .int 0)] g4 e5)) X)) X) : hci (d + 1) 58 [.ref p0, .ref p1, .int p2, .int p3] g e k X := by
  obtain ⟨fs0, hT0⟩ := hDo hp0
  refine hent (M := zm_X2_pass) hT0 rfl rfl rfl rfl rfl ?_
  refine zq_ipush (pc' := 1) rfl rfl rfl ?_
  refine zq_istore (pc' := 3) rfl rfl rfl ?_
  refine zq_aload (pc' := 4) rfl rfl rfl rfl ?_
  refine zq_ipushn (pc' := 5) rfl rfl rfl ?_
  refine zq_put (pc' := 8) rfl rfl rfl trivial (hp_sI (hkD9 hp0)) ?_
  refine zq_aload (pc' := 9) rfl rfl rfl rfl ?_
  refine hq_calli (pc' := 12) rfl rfl rfl rfl rfl rfl h_Xi ?_
  refine hmonoi H ?_
  intro x3 g1 e2 H
  refine zq_ifeq (pc' := 15) rfl rfl rfl rfl (And.intro (fun c => ?_) (fun c => ?_))
  · have H := H.1 c
    refine zq_ipush (pc' := 28) rfl rfl rfl ?_
    refine zq_istore (pc' := 30) rfl rfl rfl ?_
    refine zq_ipush (pc' := 31) rfl rfl rfl ?_
    refine zq_istore_c (pc' := 33) rfl rfl ?_
    exact H
  · have H := H.2 c
    refine zq_aload (pc' := 16) rfl rfl rfl rfl ?_
    refine zq_iload (pc' := 17) rfl rfl rfl rfl ?_
    refine hq_calli (pc' := 20) rfl rfl rfl rfl rfl rfl h_Xi ?_
    refine hmonoi H ?_
    intro x6 g4 e5 H
    refine zq_ifne (pc' := 23) rfl rfl rfl rfl (And.intro (fun c => ?_) (fun c => ?_))
    · have H := H.1 c
      refine zq_ipush (pc' := 24) rfl rfl rfl ?_
      refine zq_goto (pc' := 28) rfl rfl rfl ?_
      refine zq_istore (pc' := 30) rfl rfl rfl ?_
      refine zq_ipush (pc' := 31) rfl rfl rfl ?_
      refine zq_istore_c (pc' := 33) rfl rfl ?_
      exact H
    · have H := H.2 c
      refine zq_ipush (pc' := 28) rfl rfl rfl ?_
      refine zq_istore (pc' := 30) rfl rfl rfl ?_
      refine zq_ipush (pc' := 31) rfl rfl rfl ?_
      refine zq_istore_c (pc' := 33) rfl rfl ?_
      exact H
theorem zh_X2_pass_33 {d : Nat} {k : Int32 → hG → hE → Prop} {X : Nat → hG → hE → Prop} {l0 : Nat} (hl0 : hD l0) {l1 : Nat} (hl1 : hT l1 = some hZ) {l2 : Int32} {l3 : Int32} {l4 : Int32} {l5 : Int32} {l6 : Int32} {g : hG} {e : hE} (H :
    zbr (l5 = 0)
    (zbr (l4 = 0)
      (hci d 95 [.ref (l0 + 8)] g e (fun x3 g1 e2 =>
          zbr (x3 = 0)
          (hcv d 111 [.ref l1, .int l2] g1 e2 (fun g4 e5 =>
              k l4 g4 e5) X)
          (k l4 g1 e2)) X)
      (k l4 g e))
    (zbr (16 < l6)
      (zbr (l4 = 0)
        (hci d 95 [.ref (l0 + 8)] g e (fun x8 g6 e7 =>
            zbr (x8 = 0)
            (hcv d 111 [.ref l1, .int l2] g6 e7 (fun g9 e10 =>
                k l4 g9 e10) X)
            (k l4 g6 e7)) X)
        (k l4 g e))
      (hwi d zm_X2_pass k X 51 [(0, .ref l0), (1, .ref l1), (2, .int l2), (3, .int l3), (4, .int l4), (5, .int 0), (6, .int l6), (7, .int 0)] g e))) : hwi d zm_X2_pass k X 33 [(0, .ref l0), (1, .ref l1), (2, .int l2), (3, .int l3), (4, .int l4), (5, .int l5), (6, .int l6)] g e := by
  refine zq_iload (pc' := 35) rfl rfl rfl rfl ?_
  refine zq_ifeq (pc' := 38) rfl rfl rfl rfl (And.intro (fun c => ?_) (fun c => ?_))
  · have H := H.1 c
    refine zq_iload (pc' := 145) rfl rfl rfl rfl ?_
    refine zq_ifne (pc' := 148) rfl rfl rfl rfl (And.intro (fun c => ?_) (fun c => ?_))
    · have H := H.1 c
      refine zq_aload (pc' := 149) rfl rfl rfl rfl ?_
      refine zq_getR (pc' := 152) rfl rfl rfl (hp_gC (hkD6 hl0)) ?_
      refine hq_calli (pc' := 155) rfl rfl rfl rfl rfl rfl h_Xi ?_
      refine hmonoi H ?_
      intro x3 g1 e2 H
      refine zq_ifne (pc' := 158) rfl rfl rfl rfl (And.intro (fun c => ?_) (fun c => ?_))
      · have H := H.1 c
        refine zq_aload (pc' := 159) rfl rfl rfl rfl ?_
        refine zq_iload (pc' := 160) rfl rfl rfl rfl ?_
        refine hq_callv (pc' := 163) rfl rfl rfl rfl rfl rfl h_Xi ?_
        refine hmonov H ?_
        intro g4 e5 H
        refine zq_iload (pc' := 165) rfl rfl rfl rfl ?_
        exact zq_iret rfl trivial (Exists.intro _ (Exists.intro _ (And.intro rfl H)))
      · have H := H.2 c
        refine zq_iload (pc' := 165) rfl rfl rfl rfl ?_
        exact zq_iret rfl trivial (Exists.intro _ (Exists.intro _ (And.intro rfl H)))
    · have H := H.2 c
      refine zq_iload (pc' := 165) rfl rfl rfl rfl ?_
      exact zq_iret rfl trivial (Exists.intro _ (Exists.intro _ (And.intro rfl H)))
  · have H := H.2 c
    refine zq_iload (pc' := 40) rfl rfl rfl rfl ?_
    refine zq_ipush (pc' := 42) rfl rfl rfl ?_
    refine zq_icgt (pc' := 45) rfl rfl rfl rfl (And.intro (fun c => ?_) (fun c => ?_))
    · have H := H.1 c
      refine zq_iload (pc' := 145) rfl rfl rfl rfl ?_
      refine zq_ifne (pc' := 148) rfl rfl rfl rfl (And.intro (fun c => ?_) (fun c => ?_))
      · have H := H.1 c
        refine zq_aload (pc' := 149) rfl rfl rfl rfl ?_
        refine zq_getR (pc' := 152) rfl rfl rfl (hp_gC (hkD6 hl0)) ?_
        refine hq_calli (pc' := 155) rfl rfl rfl rfl rfl rfl h_Xi ?_
        refine hmonoi H ?_
        intro x8 g6 e7 H
        refine zq_ifne (pc' := 158) rfl rfl rfl rfl (And.intro (fun c => ?_) (fun c => ?_))
        · have H := H.1 c
          refine zq_aload (pc' := 159) rfl rfl rfl rfl ?_
          refine zq_iload (pc' := 160) rfl rfl rfl rfl ?_
          refine hq_callv (pc' := 163) rfl rfl rfl rfl rfl rfl h_Xi ?_
          refine hmonov H ?_
          intro g9 e10 H
          refine zq_iload (pc' := 165) rfl rfl rfl rfl ?_
          exact zq_iret rfl trivial (Exists.intro _ (Exists.intro _ (And.intro rfl H)))
        · have H := H.2 c
          refine zq_iload (pc' := 165) rfl rfl rfl rfl ?_
          exact zq_iret rfl trivial (Exists.intro _ (Exists.intro _ (And.intro rfl H)))
      · have H := H.2 c
        refine zq_iload (pc' := 165) rfl rfl rfl rfl ?_
        exact zq_iret rfl trivial (Exists.intro _ (Exists.intro _ (And.intro rfl H)))
    · have H := H.2 c
      refine zq_ipush (pc' := 46) rfl rfl rfl ?_
      refine zq_istore (pc' := 48) rfl rfl rfl ?_
      refine zq_ipush (pc' := 49) rfl rfl rfl ?_
      refine zq_istore_c (pc' := 51) rfl rfl ?_
      exact H
theorem zh_X2_pass_51 {d : Nat} {k : Int32 → hG → hE → Prop} {X : Nat → hG → hE → Prop} {l0 : Nat} (hl0 : hD l0) {l1 : Nat} (hl1 : hT l1 = some hZ) {l2 : Int32} {l3 : Int32} {l4 : Int32} {l5 : Int32} {l6 : Int32} {l7 : Int32} {g : hG} {e : hE} (H :
    hci d 112 [.ref l1] g e (fun x3 g1 e2 =>
      zbr (x3 ≤ l7)
      (hwi d zm_X2_pass k X 33 [(0, .ref l0), (1, .ref l1), (2, .int l2), (3, .int l3), (4, .int l4), (5, .int l5), (6, .int (l6 + 1))] g1 e2)
      (hci d 117 [.ref l1, .int l7] g1 e2 (fun x6 g4 e5 =>
          zbr (x6 = 0)
          (hwi d zm_X2_pass k X 51 [(0, .ref l0), (1, .ref l1), (2, .int l2), (3, .int l3), (4, .int l4), (5, .int l5), (6, .int l6), (7, .int (l7 + 1))] g4 e5)
          (hci d 61 [.ref l0, .ref l1, .int l7, .int l2, .int l3] g4 e5 (fun x9 g7 e8 =>
              hci d 120 [.ref l1, .int l7] g7 e8 (fun x12 g10 e11 =>
                zbr (x9 ≤ x12)
                (hwi d zm_X2_pass k X 51 [(0, .ref l0), (1, .ref l1), (2, .int l2), (3, .int l3), (4, .int l4), (5, .int l5), (6, .int l6), (7, .int (l7 + 1))] g10 e11)
                (zbr (l4 = 0)
                  (hci d 0 [.int l4] (sI g10 l0 9 l7) e11 (fun x15 g13 e14 =>
                      hcv d 62 [.ref l0, .ref l1, .int l7, .int l2, .int l3, .int x15] g13 e14 (fun g16 e17 =>
                        hwi d zm_X2_pass k X 51 [(0, .ref l0), (1, .ref l1), (2, .int l2), (3, .int l3), (4, .int (l4 ||| (1 <<< (l7 &&& 31)))), (5, .int 1), (6, .int l6), (7, .int (l7 + 1))] g16 e17) X) X)
                  (hci d 0 [.int l4] (sI g10 l0 9 (g10.1 l0 9)) e11 (fun x20 g18 e19 =>
                      hcv d 62 [.ref l0, .ref l1, .int l7, .int l2, .int l3, .int x20] g18 e19 (fun g21 e22 =>
                        hwi d zm_X2_pass k X 51 [(0, .ref l0), (1, .ref l1), (2, .int l2), (3, .int l3), (4, .int (l4 ||| (1 <<< (l7 &&& 31)))), (5, .int 1), (6, .int l6), (7, .int (l7 + 1))] g21 e22) X) X))) X) X)) X)) X) : hwi d zm_X2_pass k X 51 [(0, .ref l0), (1, .ref l1), (2, .int l2), (3, .int l3), (4, .int l4), (5, .int l5), (6, .int l6), (7, .int l7)] g e := by
  refine zq_iload (pc' := 53) rfl rfl rfl rfl ?_
  refine zq_aload (pc' := 54) rfl rfl rfl rfl ?_
  refine hq_calli (pc' := 57) rfl rfl rfl rfl rfl rfl h_Xi ?_
  refine hmonoi H ?_
  intro x3 g1 e2 H
  refine zq_icge (pc' := 60) rfl rfl rfl rfl (And.intro (fun c => ?_) (fun c => ?_))
  · have H := H.1 c
    refine zq_iinc (pc' := 140) rfl rfl rfl rfl ?_
    refine zq_goto_c (pc' := 33) rfl rfl ?_
    exact H
  · have H := H.2 c
    refine zq_aload (pc' := 61) rfl rfl rfl rfl ?_
    refine zq_iload (pc' := 63) rfl rfl rfl rfl ?_
    refine hq_calli (pc' := 66) rfl rfl rfl rfl rfl rfl h_Xi ?_
    refine hmonoi H ?_
    intro x6 g4 e5 H
    refine zq_ifeq (pc' := 69) rfl rfl rfl rfl (And.intro (fun c => ?_) (fun c => ?_))
    · have H := H.1 c
      refine zq_iinc (pc' := 134) rfl rfl rfl rfl ?_
      refine zq_goto_c (pc' := 51) rfl rfl ?_
      exact H
    · have H := H.2 c
      refine zq_aload (pc' := 70) rfl rfl rfl rfl ?_
      refine zq_aload (pc' := 71) rfl rfl rfl rfl ?_
      refine zq_iload (pc' := 73) rfl rfl rfl rfl ?_
      refine zq_iload (pc' := 74) rfl rfl rfl rfl ?_
      refine zq_iload (pc' := 75) rfl rfl rfl rfl ?_
      refine hq_calli (pc' := 78) rfl rfl rfl rfl rfl rfl h_Xi ?_
      refine hmonoi H ?_
      intro x9 g7 e8 H
      refine zq_aload (pc' := 79) rfl rfl rfl rfl ?_
      refine zq_iload (pc' := 81) rfl rfl rfl rfl ?_
      refine hq_calli (pc' := 84) rfl rfl rfl rfl rfl rfl h_Xi ?_
      refine hmonoi H ?_
      intro x12 g10 e11 H
      refine zq_icle (pc' := 87) rfl rfl rfl rfl (And.intro (fun c => ?_) (fun c => ?_))
      · have H := H.1 c
        refine zq_iinc (pc' := 134) rfl rfl rfl rfl ?_
        refine zq_goto_c (pc' := 51) rfl rfl ?_
        exact H
      · have H := H.2 c
        refine zq_aload (pc' := 88) rfl rfl rfl rfl ?_
        refine zq_iload (pc' := 90) rfl rfl rfl rfl ?_
        refine zq_ifne (pc' := 93) rfl rfl rfl rfl (And.intro (fun c => ?_) (fun c => ?_))
        · have H := H.1 c
          refine zq_iload (pc' := 95) rfl rfl rfl rfl ?_
          refine zq_goto (pc' := 102) rfl rfl rfl ?_
          refine zq_put (pc' := 105) rfl rfl rfl trivial (hp_sI (hkD9 hl0)) ?_
          refine zq_aload (pc' := 106) rfl rfl rfl rfl ?_
          refine zq_aload (pc' := 107) rfl rfl rfl rfl ?_
          refine zq_iload (pc' := 109) rfl rfl rfl rfl ?_
          refine zq_iload (pc' := 110) rfl rfl rfl rfl ?_
          refine zq_iload (pc' := 111) rfl rfl rfl rfl ?_
          refine zq_iload (pc' := 113) rfl rfl rfl rfl ?_
          refine hq_calli (pc' := 116) rfl rfl rfl rfl rfl rfl h_Xi ?_
          refine hmonoi H ?_
          intro x15 g13 e14 H
          refine hq_callv (pc' := 119) rfl rfl rfl rfl rfl rfl h_Xi ?_
          refine hmonov H ?_
          intro g16 e17 H
          refine zq_iload (pc' := 121) rfl rfl rfl rfl ?_
          refine zq_ipush (pc' := 122) rfl rfl rfl ?_
          refine zq_iload (pc' := 124) rfl rfl rfl rfl ?_
          refine zq_ishl (pc' := 125) rfl rfl rfl ?_
          refine zq_ior (pc' := 126) rfl rfl rfl ?_
          refine zq_istore (pc' := 128) rfl rfl rfl ?_
          refine zq_ipush (pc' := 129) rfl rfl rfl ?_
          refine zq_istore (pc' := 131) rfl rfl rfl ?_
          refine zq_iinc (pc' := 134) rfl rfl rfl rfl ?_
          refine zq_goto_c (pc' := 51) rfl rfl ?_
          exact H
        · have H := H.2 c
          refine zq_aload (pc' := 99) rfl rfl rfl rfl ?_
          refine zq_getI (pc' := 102) rfl rfl rfl (hp_gI (hkD9 hl0)) ?_
          refine zq_put (pc' := 105) rfl rfl rfl trivial (hp_sI (hkD9 hl0)) ?_
          refine zq_aload (pc' := 106) rfl rfl rfl rfl ?_
          refine zq_aload (pc' := 107) rfl rfl rfl rfl ?_
          refine zq_iload (pc' := 109) rfl rfl rfl rfl ?_
          refine zq_iload (pc' := 110) rfl rfl rfl rfl ?_
          refine zq_iload (pc' := 111) rfl rfl rfl rfl ?_
          refine zq_iload (pc' := 113) rfl rfl rfl rfl ?_
          refine hq_calli (pc' := 116) rfl rfl rfl rfl rfl rfl h_Xi ?_
          refine hmonoi H ?_
          intro x20 g18 e19 H
          refine hq_callv (pc' := 119) rfl rfl rfl rfl rfl rfl h_Xi ?_
          refine hmonov H ?_
          intro g21 e22 H
          refine zq_iload (pc' := 121) rfl rfl rfl rfl ?_
          refine zq_ipush (pc' := 122) rfl rfl rfl ?_
          refine zq_iload (pc' := 124) rfl rfl rfl rfl ?_
          refine zq_ishl (pc' := 125) rfl rfl rfl ?_
          refine zq_ior (pc' := 126) rfl rfl rfl ?_
          refine zq_istore (pc' := 128) rfl rfl rfl ?_
          refine zq_ipush (pc' := 129) rfl rfl rfl ?_
          refine zq_istore (pc' := 131) rfl rfl rfl ?_
          refine zq_iinc (pc' := 134) rfl rfl rfl rfl ?_
          refine zq_goto_c (pc' := 51) rfl rfl ?_
          exact H
theorem zh_X2_firstPlace {d : Nat} {k : Int32 → hG → hE → Prop} {X : Nat → hG → hE → Prop} {p0 : Nat} (hp0 : hD p0) {g : hG} {e : hE} (H :
    k (g.1 p0 9) g e) : hci (d + 1) 59 [.ref p0] g e k X := by
  obtain ⟨fs0, hT0⟩ := hDo hp0
  refine hent (M := zm_X2_firstPlace) hT0 rfl rfl rfl rfl rfl ?_
  refine zq_aload (pc' := 1) rfl rfl rfl rfl ?_
  refine zq_getI (pc' := 4) rfl rfl rfl (hp_gI (hkD9 hp0)) ?_
  exact zq_iret rfl trivial (Exists.intro _ (Exists.intro _ (And.intro rfl H)))
theorem zh_X2_anyBursts {d : Nat} {k : Int32 → hG → hE → Prop} {X : Nat → hG → hE → Prop} {p0 : Nat} (hp0 : hD p0) {p1 : Nat} (hp1 : hT p1 = some hZ) {p2 : Int32} {g : hG} {e : hE} (H :
    hwi d zm_X2_anyBursts k X 2 [(0, .ref p0), (1, .ref p1), (2, .int p2), (3, .int 0)] g e) : hci (d + 1) 60 [.ref p0, .ref p1, .int p2] g e k X := by
  obtain ⟨fs0, hT0⟩ := hDo hp0
  refine hent (M := zm_X2_anyBursts) hT0 rfl rfl rfl rfl rfl ?_
  refine zq_ipush (pc' := 1) rfl rfl rfl ?_
  refine zq_istore_c (pc' := 2) rfl rfl ?_
  exact H
theorem zh_X2_anyBursts_2 {d : Nat} {k : Int32 → hG → hE → Prop} {X : Nat → hG → hE → Prop} {l0 : Nat} (hl0 : hD l0) {l1 : Nat} (hl1 : hT l1 = some hZ) {l2 : Int32} {l3 : Int32} {g : hG} {e : hE} (H :
    hci d 112 [.ref l1] g e (fun x3 g1 e2 =>
      zbr (x3 ≤ l3)
      (k 0 g1 e2)
      (hci d 117 [.ref l1, .int l3] g1 e2 (fun x6 g4 e5 =>
          zbr (x6 = 0)
          (hwi d zm_X2_anyBursts k X 2 [(0, .ref l0), (1, .ref l1), (2, .int l2), (3, .int (l3 + 1))] g4 e5)
          (hci d 61 [.ref l0, .ref l1, .int l3, .int l2, .int (g4.1 l0 8)] g4 e5 (fun x9 g7 e8 =>
              hci d 120 [.ref l1, .int l3] g7 e8 (fun x12 g10 e11 =>
                zbr (x9 ≤ x12)
                (hwi d zm_X2_anyBursts k X 2 [(0, .ref l0), (1, .ref l1), (2, .int l2), (3, .int (l3 + 1))] g10 e11)
                (k 1 g10 e11)) X) X)) X)) X) : hwi d zm_X2_anyBursts k X 2 [(0, .ref l0), (1, .ref l1), (2, .int l2), (3, .int l3)] g e := by
  refine zq_iload (pc' := 3) rfl rfl rfl rfl ?_
  refine zq_aload (pc' := 4) rfl rfl rfl rfl ?_
  refine hq_calli (pc' := 7) rfl rfl rfl rfl rfl rfl h_Xi ?_
  refine hmonoi H ?_
  intro x3 g1 e2 H
  refine zq_icge (pc' := 10) rfl rfl rfl rfl (And.intro (fun c => ?_) (fun c => ?_))
  · have H := H.1 c
    refine zq_ipush (pc' := 46) rfl rfl rfl ?_
    exact zq_iret rfl (Or.inl rfl) (Exists.intro _ (Exists.intro _ (And.intro rfl H)))
  · have H := H.2 c
    refine zq_aload (pc' := 11) rfl rfl rfl rfl ?_
    refine zq_iload (pc' := 12) rfl rfl rfl rfl ?_
    refine hq_calli (pc' := 15) rfl rfl rfl rfl rfl rfl h_Xi ?_
    refine hmonoi H ?_
    intro x6 g4 e5 H
    refine zq_ifeq (pc' := 18) rfl rfl rfl rfl (And.intro (fun c => ?_) (fun c => ?_))
    · have H := H.1 c
      refine zq_iinc (pc' := 42) rfl rfl rfl rfl ?_
      refine zq_goto_c (pc' := 2) rfl rfl ?_
      exact H
    · have H := H.2 c
      refine zq_aload (pc' := 19) rfl rfl rfl rfl ?_
      refine zq_aload (pc' := 20) rfl rfl rfl rfl ?_
      refine zq_iload (pc' := 21) rfl rfl rfl rfl ?_
      refine zq_iload (pc' := 22) rfl rfl rfl rfl ?_
      refine zq_aload (pc' := 23) rfl rfl rfl rfl ?_
      refine zq_getI (pc' := 26) rfl rfl rfl (hp_gI (hkD8 hl0)) ?_
      refine hq_calli (pc' := 29) rfl rfl rfl rfl rfl rfl h_Xi ?_
      refine hmonoi H ?_
      intro x9 g7 e8 H
      refine zq_aload (pc' := 30) rfl rfl rfl rfl ?_
      refine zq_iload (pc' := 31) rfl rfl rfl rfl ?_
      refine hq_calli (pc' := 34) rfl rfl rfl rfl rfl rfl h_Xi ?_
      refine hmonoi H ?_
      intro x12 g10 e11 H
      refine zq_icle (pc' := 37) rfl rfl rfl rfl (And.intro (fun c => ?_) (fun c => ?_))
      · have H := H.1 c
        refine zq_iinc (pc' := 42) rfl rfl rfl rfl ?_
        refine zq_goto_c (pc' := 2) rfl rfl ?_
        exact H
      · have H := H.2 c
        refine zq_ipush (pc' := 38) rfl rfl rfl ?_
        exact zq_iret rfl (Or.inr rfl) (Exists.intro _ (Exists.intro _ (And.intro rfl H)))
theorem zh_X2_pullOn {d : Nat} {k : Int32 → hG → hE → Prop} {X : Nat → hG → hE → Prop} {p0 : Nat} (hp0 : hD p0) {p1 : Nat} (hp1 : hT p1 = some hZ) {p2 : Int32} {p3 : Int32} {p4 : Int32} {g : hG} {e : hE} (H :
    hci d 125 [.ref p1, .int p2] g e (fun x3 g1 e2 =>
      hci d 93 [.ref (p0 + 8)] g1 e2 (fun x6 g4 e5 =>
        zbr (x6 = 0)
        (hci d 3 [.int 99, .int (p3 + (2 * x3))] g4 e5 (fun x9 g7 e8 =>
            hci d 2 [.int 0, .int x9] g7 e8 (fun x12 g10 e11 =>
              k x12 g10 e11) X) X)
        (hci d 120 [.ref p1, .int p2] g4 e5 (fun x15 g13 e14 =>
            hci d 96 [.ref (p0 + 8), .ref (p0 + 7), .int p3, .int p2, .int x15, .int p4, .int x3] g13 e14 (fun x18 g16 e17 =>
              hci d 3 [.int 99, .int x18] g16 e17 (fun x21 g19 e20 =>
                hci d 2 [.int 0, .int x21] g19 e20 (fun x24 g22 e23 =>
                  k x24 g22 e23) X) X) X) X)) X) X) : hci (d + 1) 61 [.ref p0, .ref p1, .int p2, .int p3, .int p4] g e k X := by
  obtain ⟨fs0, hT0⟩ := hDo hp0
  refine hent (M := zm_X2_pullOn) hT0 rfl rfl rfl rfl rfl ?_
  refine zq_aload (pc' := 1) rfl rfl rfl rfl ?_
  refine zq_iload (pc' := 2) rfl rfl rfl rfl ?_
  refine hq_calli (pc' := 5) rfl rfl rfl rfl rfl rfl h_Xi ?_
  refine hmonoi H ?_
  intro x3 g1 e2 H
  refine zq_istore (pc' := 7) rfl rfl rfl ?_
  refine zq_aload (pc' := 8) rfl rfl rfl rfl ?_
  refine zq_getR (pc' := 11) rfl rfl rfl (hp_gC (hkD6 hp0)) ?_
  refine hq_calli (pc' := 14) rfl rfl rfl rfl rfl rfl h_Xi ?_
  refine hmonoi H ?_
  intro x6 g4 e5 H
  refine zq_ifeq (pc' := 17) rfl rfl rfl rfl (And.intro (fun c => ?_) (fun c => ?_))
  · have H := H.1 c
    refine zq_iload (pc' := 43) rfl rfl rfl rfl ?_
    refine zq_ipush (pc' := 44) rfl rfl rfl ?_
    refine zq_iload (pc' := 46) rfl rfl rfl rfl ?_
    refine zq_imul (pc' := 47) rfl rfl rfl ?_
    refine zq_iadd (pc' := 48) rfl rfl rfl ?_
    refine zq_istore (pc' := 50) rfl rfl rfl ?_
    refine zq_ipush (pc' := 51) rfl rfl rfl ?_
    refine zq_ipush (pc' := 53) rfl rfl rfl ?_
    refine zq_iload (pc' := 55) rfl rfl rfl rfl ?_
    refine hq_calli (pc' := 58) rfl rfl rfl rfl rfl rfl h_Xi ?_
    refine hmonoi H ?_
    intro x9 g7 e8 H
    refine hq_calli (pc' := 61) rfl rfl rfl rfl rfl rfl h_Xi ?_
    refine hmonoi H ?_
    intro x12 g10 e11 H
    exact zq_iret rfl trivial (Exists.intro _ (Exists.intro _ (And.intro rfl H)))
  · have H := H.2 c
    refine zq_aload (pc' := 18) rfl rfl rfl rfl ?_
    refine zq_getR (pc' := 21) rfl rfl rfl (hp_gC (hkD6 hp0)) ?_
    refine zq_aload (pc' := 22) rfl rfl rfl rfl ?_
    refine zq_getR (pc' := 25) rfl rfl rfl (hp_gC (hkD4 hp0)) ?_
    refine zq_iload (pc' := 26) rfl rfl rfl rfl ?_
    refine zq_iload (pc' := 27) rfl rfl rfl rfl ?_
    refine zq_aload (pc' := 28) rfl rfl rfl rfl ?_
    refine zq_iload (pc' := 29) rfl rfl rfl rfl ?_
    refine hq_calli (pc' := 32) rfl rfl rfl rfl rfl rfl h_Xi ?_
    refine hmonoi H ?_
    intro x15 g13 e14 H
    refine zq_iload (pc' := 34) rfl rfl rfl rfl ?_
    refine zq_iload (pc' := 36) rfl rfl rfl rfl ?_
    refine hq_calli (pc' := 39) rfl rfl rfl rfl rfl rfl h_Xi ?_
    refine hmonoi H ?_
    intro x18 g16 e17 H
    refine zq_goto (pc' := 48) rfl rfl rfl ?_
    refine zq_istore (pc' := 50) rfl rfl rfl ?_
    refine zq_ipush (pc' := 51) rfl rfl rfl ?_
    refine zq_ipush (pc' := 53) rfl rfl rfl ?_
    refine zq_iload (pc' := 55) rfl rfl rfl rfl ?_
    refine hq_calli (pc' := 58) rfl rfl rfl rfl rfl rfl h_Xi ?_
    refine hmonoi H ?_
    intro x21 g19 e20 H
    refine hq_calli (pc' := 61) rfl rfl rfl rfl rfl rfl h_Xi ?_
    refine hmonoi H ?_
    intro x24 g22 e23 H
    exact zq_iret rfl trivial (Exists.intro _ (Exists.intro _ (And.intro rfl H)))
theorem zh_X2_burstAt {d : Nat} {k : hG → hE → Prop} {X : Nat → hG → hE → Prop} {p0 : Nat} (hp0 : hD p0) {p1 : Nat} (hp1 : hT p1 = some hZ) {p2 : Int32} {p3 : Int32} {p4 : Int32} {p5 : Int32} {g : hG} {e : hE} (H :
    hci d 113 [.ref p1] g e (fun x3 g1 e2 =>
      zbr (x3 = 0)
      (hci d 93 [.ref (p0 + 10)] g1 e2 (fun x6 g4 e5 =>
          zbr (x6 = 0)
          (hci d 3 [.int 9, .int 1] g4 e5 (fun x9 g7 e8 =>
              hci d 2 [.int 0, .int x9] g7 e8 (fun x12 g10 e11 =>
                hcv d 132 [.ref p1, .int p2, .int x12] g10 e11 (fun g13 e14 =>
                  hcv d 128 [.ref p1, .int p2] g13 e14 (fun g15 e16 =>
                    k g15 e16) X) X) X) X)
          (hci d 120 [.ref p1, .int p2] g4 e5 (fun x19 g17 e18 =>
              hci d 96 [.ref (p0 + 10), .ref (p0 + 7), .int p3, .int p2, .int x19, .int p4, .int p5] g17 e18 (fun x22 g20 e21 =>
                hci d 3 [.int 9, .int x22] g20 e21 (fun x25 g23 e24 =>
                  hci d 2 [.int 0, .int x25] g23 e24 (fun x28 g26 e27 =>
                    hcv d 132 [.ref p1, .int p2, .int x28] g26 e27 (fun g29 e30 =>
                      hcv d 128 [.ref p1, .int p2] g29 e30 (fun g31 e32 =>
                        k g31 e32) X) X) X) X) X) X)) X)
      (hcv d 128 [.ref p1, .int p2] g1 e2 (fun g33 e34 =>
          k g33 e34) X)) X) : hcv (d + 1) 62 [.ref p0, .ref p1, .int p2, .int p3, .int p4, .int p5] g e k X := by
  obtain ⟨fs0, hT0⟩ := hDo hp0
  refine hent (M := zm_X2_burstAt) hT0 rfl rfl rfl rfl rfl ?_
  refine zq_aload (pc' := 1) rfl rfl rfl rfl ?_
  refine hq_calli (pc' := 4) rfl rfl rfl rfl rfl rfl h_Xv ?_
  refine hmonoi H ?_
  intro x3 g1 e2 H
  refine zq_ifne (pc' := 7) rfl rfl rfl rfl (And.intro (fun c => ?_) (fun c => ?_))
  · have H := H.1 c
    refine zq_aload (pc' := 8) rfl rfl rfl rfl ?_
    refine zq_getR (pc' := 11) rfl rfl rfl (hp_gC (hkD7 hp0)) ?_
    refine hq_calli (pc' := 14) rfl rfl rfl rfl rfl rfl h_Xv ?_
    refine hmonoi H ?_
    intro x6 g4 e5 H
    refine zq_ifeq (pc' := 17) rfl rfl rfl rfl (And.intro (fun c => ?_) (fun c => ?_))
    · have H := H.1 c
      refine zq_ipush (pc' := 43) rfl rfl rfl ?_
      refine zq_istore (pc' := 45) rfl rfl rfl ?_
      refine zq_aload (pc' := 46) rfl rfl rfl rfl ?_
      refine zq_iload (pc' := 47) rfl rfl rfl rfl ?_
      refine zq_ipush (pc' := 48) rfl rfl rfl ?_
      refine zq_ipush (pc' := 50) rfl rfl rfl ?_
      refine zq_iload (pc' := 52) rfl rfl rfl rfl ?_
      refine hq_calli (pc' := 55) rfl rfl rfl rfl rfl rfl h_Xv ?_
      refine hmonoi H ?_
      intro x9 g7 e8 H
      refine hq_calli (pc' := 58) rfl rfl rfl rfl rfl rfl h_Xv ?_
      refine hmonoi H ?_
      intro x12 g10 e11 H
      refine hq_callv (pc' := 61) rfl rfl rfl rfl rfl rfl h_Xv ?_
      refine hmonov H ?_
      intro g13 e14 H
      refine zq_aload (pc' := 62) rfl rfl rfl rfl ?_
      refine zq_iload (pc' := 63) rfl rfl rfl rfl ?_
      refine hq_callv (pc' := 66) rfl rfl rfl rfl rfl rfl h_Xv ?_
      refine hmonov H ?_
      intro g15 e16 H
      exact zq_vret rfl (Exists.intro _ (Exists.intro _ (And.intro rfl H)))
    · have H := H.2 c
      refine zq_aload (pc' := 18) rfl rfl rfl rfl ?_
      refine zq_getR (pc' := 21) rfl rfl rfl (hp_gC (hkD7 hp0)) ?_
      refine zq_aload (pc' := 22) rfl rfl rfl rfl ?_
      refine zq_getR (pc' := 25) rfl rfl rfl (hp_gC (hkD4 hp0)) ?_
      refine zq_iload (pc' := 26) rfl rfl rfl rfl ?_
      refine zq_iload (pc' := 27) rfl rfl rfl rfl ?_
      refine zq_aload (pc' := 28) rfl rfl rfl rfl ?_
      refine zq_iload (pc' := 29) rfl rfl rfl rfl ?_
      refine hq_calli (pc' := 32) rfl rfl rfl rfl rfl rfl h_Xv ?_
      refine hmonoi H ?_
      intro x19 g17 e18 H
      refine zq_iload (pc' := 34) rfl rfl rfl rfl ?_
      refine zq_iload (pc' := 36) rfl rfl rfl rfl ?_
      refine hq_calli (pc' := 39) rfl rfl rfl rfl rfl rfl h_Xv ?_
      refine hmonoi H ?_
      intro x22 g20 e21 H
      refine zq_goto (pc' := 43) rfl rfl rfl ?_
      refine zq_istore (pc' := 45) rfl rfl rfl ?_
      refine zq_aload (pc' := 46) rfl rfl rfl rfl ?_
      refine zq_iload (pc' := 47) rfl rfl rfl rfl ?_
      refine zq_ipush (pc' := 48) rfl rfl rfl ?_
      refine zq_ipush (pc' := 50) rfl rfl rfl ?_
      refine zq_iload (pc' := 52) rfl rfl rfl rfl ?_
      refine hq_calli (pc' := 55) rfl rfl rfl rfl rfl rfl h_Xv ?_
      refine hmonoi H ?_
      intro x25 g23 e24 H
      refine hq_calli (pc' := 58) rfl rfl rfl rfl rfl rfl h_Xv ?_
      refine hmonoi H ?_
      intro x28 g26 e27 H
      refine hq_callv (pc' := 61) rfl rfl rfl rfl rfl rfl h_Xv ?_
      refine hmonov H ?_
      intro g29 e30 H
      refine zq_aload (pc' := 62) rfl rfl rfl rfl ?_
      refine zq_iload (pc' := 63) rfl rfl rfl rfl ?_
      refine hq_callv (pc' := 66) rfl rfl rfl rfl rfl rfl h_Xv ?_
      refine hmonov H ?_
      intro g31 e32 H
      exact zq_vret rfl (Exists.intro _ (Exists.intro _ (And.intro rfl H)))
  · have H := H.2 c
    refine zq_aload (pc' := 62) rfl rfl rfl rfl ?_
    refine zq_iload (pc' := 63) rfl rfl rfl rfl ?_
    refine hq_callv (pc' := 66) rfl rfl rfl rfl rfl rfl h_Xv ?_
    refine hmonov H ?_
    intro g33 e34 H
    exact zq_vret rfl (Exists.intro _ (Exists.intro _ (And.intro rfl H)))
theorem zh_X5_holdOf {d : Nat} {k : Int32 → hG → hE → Prop} {X : Nat → hG → hE → Prop} {p0 : Nat} (hp0 : hT p0 = some hZ) {p1 : Int32} {p2 : Nat} (hp2 : hT p2 = some hZ) {p3 : Int32} {g : hG} {e : hE} (H :
    hci d 118 [.ref p0, .int 0, .int p1] g e (fun x3 g1 e2 =>
      hci d 118 [.ref p2, .int 1, .int p3] g1 e2 (fun x6 g4 e5 =>
        hci d 3 [.int x3, .int x6] g4 e5 (fun x9 g7 e8 =>
          k x9 g7 e8) X) X) X) : hci (d + 1) 99 [.ref p0, .int p1, .ref p2, .int p3] g e k X := by
  refine hentS (M := zm_X5_holdOf) rfl rfl rfl rfl ?_
  refine zq_aload (pc' := 1) rfl rfl rfl rfl ?_
  refine zq_ipush (pc' := 2) rfl rfl rfl ?_
  refine zq_iload (pc' := 3) rfl rfl rfl rfl ?_
  refine hq_calli (pc' := 6) rfl rfl rfl rfl rfl rfl h_Xi ?_
  refine hmonoi H ?_
  intro x3 g1 e2 H
  refine zq_aload (pc' := 7) rfl rfl rfl rfl ?_
  refine zq_ipush (pc' := 8) rfl rfl rfl ?_
  refine zq_iload (pc' := 9) rfl rfl rfl rfl ?_
  refine hq_calli (pc' := 12) rfl rfl rfl rfl rfl rfl h_Xi ?_
  refine hmonoi H ?_
  intro x6 g4 e5 H
  refine hq_calli (pc' := 15) rfl rfl rfl rfl rfl rfl h_Xi ?_
  refine hmonoi H ?_
  intro x9 g7 e8 H
  exact zq_iret rfl trivial (Exists.intro _ (Exists.intro _ (And.intro rfl H)))
theorem zh_X5_heldAt {d : Nat} {k : Int32 → hG → hE → Prop} {X : Nat → hG → hE → Prop} {p1 : Nat} (hp1 : hT p1 = some hZ) {p2 : Nat} (hp2 : hT p2 = some hZ) {p3 : Int32} {g : hG} {e : hE} (H :
    hwi d zm_X5_heldAt k X 6 [(1, .ref p1), (2, .ref p2), (3, .int p3), (4, .int 0), (5, .int 0)] g e) : hci (d + 1) 100 [.ref 1043, .ref p1, .ref p2, .int p3] g e k X := by
  refine hent (M := zm_X5_heldAt) (show hT 1043 = some (.inr _) from rfl) rfl rfl rfl rfl rfl ?_
  refine zq_ipush (pc' := 1) rfl rfl rfl ?_
  refine zq_istore (pc' := 3) rfl rfl rfl ?_
  refine zq_ipush (pc' := 4) rfl rfl rfl ?_
  refine zq_istore_c (pc' := 6) rfl rfl ?_
  exact H
theorem zh_X5_heldAt_6 {d : Nat} {k : Int32 → hG → hE → Prop} {X : Nat → hG → hE → Prop} {l1 : Nat} (hl1 : hT l1 = some hZ) {l2 : Nat} (hl2 : hT l2 = some hZ) {l3 : Int32} {l4 : Int32} {l5 : Int32} {g : hG} {e : hE} (H :
    hci d 112 [.ref l2] g e (fun x3 g1 e2 =>
      zbr (x3 ≤ l5)
      (k l4 g1 e2)
      (zbr ((l5 + l3) < 0)
        (hwi d zm_X5_heldAt k X 6 [(1, .ref l1), (2, .ref l2), (3, .int l3), (4, .int l4), (5, .int (l5 + 1))] g1 e2)
        (hci d 112 [.ref l1] g1 e2 (fun x6 g4 e5 =>
            zbr (x6 ≤ (l5 + l3))
            (hwi d zm_X5_heldAt k X 6 [(1, .ref l1), (2, .ref l2), (3, .int l3), (4, .int l4), (5, .int (l5 + 1))] g4 e5)
            (hci d 99 [.ref l1, .int (l5 + l3), .ref l2, .int l5] g4 e5 (fun x9 g7 e8 =>
                hwi d zm_X5_heldAt k X 6 [(1, .ref l1), (2, .ref l2), (3, .int l3), (4, .int (l4 + x9)), (5, .int (l5 + 1))] g7 e8) X)) X))) X) : hwi d zm_X5_heldAt k X 6 [(1, .ref l1), (2, .ref l2), (3, .int l3), (4, .int l4), (5, .int l5)] g e := by
  refine zq_iload (pc' := 8) rfl rfl rfl rfl ?_
  refine zq_aload (pc' := 9) rfl rfl rfl rfl ?_
  refine hq_calli (pc' := 12) rfl rfl rfl rfl rfl rfl h_Xi ?_
  refine hmonoi H ?_
  intro x3 g1 e2 H
  refine zq_icge (pc' := 15) rfl rfl rfl rfl (And.intro (fun c => ?_) (fun c => ?_))
  · have H := H.1 c
    refine zq_iload (pc' := 57) rfl rfl rfl rfl ?_
    exact zq_iret rfl trivial (Exists.intro _ (Exists.intro _ (And.intro rfl H)))
  · have H := H.2 c
    refine zq_iload (pc' := 17) rfl rfl rfl rfl ?_
    refine zq_iload (pc' := 18) rfl rfl rfl rfl ?_
    refine zq_iadd (pc' := 19) rfl rfl rfl ?_
    refine zq_iflt (pc' := 22) rfl rfl rfl rfl (And.intro (fun c => ?_) (fun c => ?_))
    · have H := H.1 c
      refine zq_iinc (pc' := 52) rfl rfl rfl rfl ?_
      refine zq_goto_c (pc' := 6) rfl rfl ?_
      exact H
    · have H := H.2 c
      refine zq_iload (pc' := 24) rfl rfl rfl rfl ?_
      refine zq_iload (pc' := 25) rfl rfl rfl rfl ?_
      refine zq_iadd (pc' := 26) rfl rfl rfl ?_
      refine zq_aload (pc' := 27) rfl rfl rfl rfl ?_
      refine hq_calli (pc' := 30) rfl rfl rfl rfl rfl rfl h_Xi ?_
      refine hmonoi H ?_
      intro x6 g4 e5 H
      refine zq_icge (pc' := 33) rfl rfl rfl rfl (And.intro (fun c => ?_) (fun c => ?_))
      · have H := H.1 c
        refine zq_iinc (pc' := 52) rfl rfl rfl rfl ?_
        refine zq_goto_c (pc' := 6) rfl rfl ?_
        exact H
      · have H := H.2 c
        refine zq_iload (pc' := 35) rfl rfl rfl rfl ?_
        refine zq_aload (pc' := 36) rfl rfl rfl rfl ?_
        refine zq_iload (pc' := 38) rfl rfl rfl rfl ?_
        refine zq_iload (pc' := 39) rfl rfl rfl rfl ?_
        refine zq_iadd (pc' := 40) rfl rfl rfl ?_
        refine zq_aload (pc' := 41) rfl rfl rfl rfl ?_
        refine zq_iload (pc' := 43) rfl rfl rfl rfl ?_
        refine hq_calli (pc' := 46) rfl rfl rfl rfl rfl rfl h_Xi ?_
        refine hmonoi H ?_
        intro x9 g7 e8 H
        refine zq_iadd (pc' := 47) rfl rfl rfl ?_
        refine zq_istore (pc' := 49) rfl rfl rfl ?_
        refine zq_iinc (pc' := 52) rfl rfl rfl rfl ?_
        refine zq_goto_c (pc' := 6) rfl rfl ?_
        exact H
theorem zh_X5_heldFrom {d : Nat} {k : Int32 → hG → hE → Prop} {X : Nat → hG → hE → Prop} {p1 : Int32} {p2 : Int32} {g : hG} {e : hE} (H :
    zbr (((p1 * 17) + p2) < 0)
    (k 0 g e)
    (zbr ((nI 289) ≤ ((p1 * 17) + p2))
      (k 0 g e)
      (hin ((p1 * 17) + p2) 289 ∧
        k (g.1 1044 ((p1 * 17) + p2).toNatClampNeg) g e))) : hci (d + 1) 101 [.ref 1043, .int p1, .int p2] g e k X := by
  refine hent (M := zm_X5_heldFrom) (show hT 1043 = some (.inr _) from rfl) rfl rfl rfl rfl rfl ?_
  refine zq_iload (pc' := 1) rfl rfl rfl rfl ?_
  refine zq_ipush (pc' := 3) rfl rfl rfl ?_
  refine zq_imul (pc' := 4) rfl rfl rfl ?_
  refine zq_iload (pc' := 5) rfl rfl rfl rfl ?_
  refine zq_iadd (pc' := 6) rfl rfl rfl ?_
  refine zq_istore (pc' := 7) rfl rfl rfl ?_
  refine zq_iload (pc' := 8) rfl rfl rfl rfl ?_
  refine zq_iflt (pc' := 11) rfl rfl rfl rfl (And.intro (fun c => ?_) (fun c => ?_))
  · have H := H.1 c
    refine zq_ipush (pc' := 30) rfl rfl rfl ?_
    exact zq_iret rfl trivial (Exists.intro _ (Exists.intro _ (And.intro rfl H)))
  · have H := H.2 c
    refine zq_iload (pc' := 12) rfl rfl rfl rfl ?_
    refine zq_aload (pc' := 13) rfl rfl rfl rfl ?_
    refine zq_getR (pc' := 16) rfl rfl rfl (hp_gC rfl) ?_
    refine zq_alen (pc' := 17) rfl rfl rfl (hp_al rfl rfl) ?_
    refine zq_icge (pc' := 20) rfl rfl rfl rfl (And.intro (fun c => ?_) (fun c => ?_))
    · have H := H.1 c
      refine zq_ipush (pc' := 30) rfl rfl rfl ?_
      exact zq_iret rfl trivial (Exists.intro _ (Exists.intro _ (And.intro rfl H)))
    · have H := H.2 c
      refine zq_aload (pc' := 21) rfl rfl rfl rfl ?_
      refine zq_getR (pc' := 24) rfl rfl rfl (hp_gC rfl) ?_
      refine zq_iload (pc' := 25) rfl rfl rfl rfl ?_
      obtain ⟨hi1, H⟩ := H
      refine zq_iald (pc' := 26) rfl rfl rfl (hp_ia rfl hi1) ?_
      refine zq_goto (pc' := 30) rfl rfl rfl ?_
      exact zq_iret rfl trivial (Exists.intro _ (Exists.intro _ (And.intro rfl H)))
theorem zh_X5_putHeld {d : Nat} {k : hG → hE → Prop} {X : Nat → hG → hE → Prop} {p1 : Int32} {p2 : Int32} {p3 : Int32} {g : hG} {e : hE} (H :
    zbr (((p1 * 17) + p2) < 0)
    (k g e)
    (zbr ((nI 289) ≤ ((p1 * 17) + p2))
      (k g e)
      (hin ((p1 * 17) + p2) 289 ∧
        k (sI g 1044 ((p1 * 17) + p2).toNatClampNeg p3) e))) : hcv (d + 1) 102 [.ref 1043, .int p1, .int p2, .int p3] g e k X := by
  refine hent (M := zm_X5_putHeld) (show hT 1043 = some (.inr _) from rfl) rfl rfl rfl rfl rfl ?_
  refine zq_iload (pc' := 1) rfl rfl rfl rfl ?_
  refine zq_ipush (pc' := 3) rfl rfl rfl ?_
  refine zq_imul (pc' := 4) rfl rfl rfl ?_
  refine zq_iload (pc' := 5) rfl rfl rfl rfl ?_
  refine zq_iadd (pc' := 6) rfl rfl rfl ?_
  refine zq_istore (pc' := 8) rfl rfl rfl ?_
  refine zq_iload (pc' := 10) rfl rfl rfl rfl ?_
  refine zq_iflt (pc' := 13) rfl rfl rfl rfl (And.intro (fun c => ?_) (fun c => ?_))
  · have H := H.1 c
    exact zq_vret rfl (Exists.intro _ (Exists.intro _ (And.intro rfl H)))
  · have H := H.2 c
    refine zq_iload (pc' := 15) rfl rfl rfl rfl ?_
    refine zq_aload (pc' := 16) rfl rfl rfl rfl ?_
    refine zq_getR (pc' := 19) rfl rfl rfl (hp_gC rfl) ?_
    refine zq_alen (pc' := 20) rfl rfl rfl (hp_al rfl rfl) ?_
    refine zq_icge (pc' := 23) rfl rfl rfl rfl (And.intro (fun c => ?_) (fun c => ?_))
    · have H := H.1 c
      exact zq_vret rfl (Exists.intro _ (Exists.intro _ (And.intro rfl H)))
    · have H := H.2 c
      refine zq_aload (pc' := 24) rfl rfl rfl rfl ?_
      refine zq_getR (pc' := 27) rfl rfl rfl (hp_gC rfl) ?_
      refine zq_iload (pc' := 29) rfl rfl rfl rfl ?_
      refine zq_iload (pc' := 30) rfl rfl rfl rfl ?_
      obtain ⟨hi1, H⟩ := H
      refine zq_iast (pc' := 31) rfl rfl rfl (hp_is rfl hi1) ?_
      exact zq_vret rfl (Exists.intro _ (Exists.intro _ (And.intro rfl H)))
theorem zh_X5_meshed {d : Nat} {k : Int32 → hG → hE → Prop} {X : Nat → hG → hE → Prop} {p1 : Nat} (hp1 : hT p1 = some hZ) {p2 : Nat} (hp2 : hT p2 = some hZ) {g : hG} {e : hE} (H :
    hci d 112 [.ref p1] g e (fun x3 g1 e2 =>
      hwi d zm_X5_meshed k X 5 [(0, .ref 1043), (1, .ref p1), (2, .ref p2), (3, .int x3)] g1 e2) X) : hci (d + 1) 103 [.ref 1043, .ref p1, .ref p2] g e k X := by
  refine hent (M := zm_X5_meshed) (show hT 1043 = some (.inr _) from rfl) rfl rfl rfl rfl rfl ?_
  refine zq_aload (pc' := 1) rfl rfl rfl rfl ?_
  refine hq_calli (pc' := 4) rfl rfl rfl rfl rfl rfl h_Xi ?_
  refine hmonoi H ?_
  intro x3 g1 e2 H
  refine zq_istore_c (pc' := 5) rfl rfl ?_
  exact H
theorem zh_X5_meshed_5 {d : Nat} {k : Int32 → hG → hE → Prop} {X : Nat → hG → hE → Prop} {l1 : Nat} (hl1 : hT l1 = some hZ) {l2 : Nat} (hl2 : hT l2 = some hZ) {l3 : Int32} {g : hG} {e : hE} (H :
    zbr (l3 < 0)
    (hci d 101 [.ref 1043, .int 0, .int 0] g e (fun x3 g1 e2 =>
        k x3 g1 e2) X)
    (hci d 112 [.ref l2] g e (fun x6 g4 e5 =>
        hwi d zm_X5_meshed k X 15 [(0, .ref 1043), (1, .ref l1), (2, .ref l2), (3, .int l3), (4, .int x6)] g4 e5) X)) : hwi d zm_X5_meshed k X 5 [(0, .ref 1043), (1, .ref l1), (2, .ref l2), (3, .int l3)] g e := by
  refine zq_iload (pc' := 6) rfl rfl rfl rfl ?_
  refine zq_iflt (pc' := 9) rfl rfl rfl rfl (And.intro (fun c => ?_) (fun c => ?_))
  · have H := H.1 c
    refine zq_aload (pc' := 112) rfl rfl rfl rfl ?_
    refine zq_ipush (pc' := 113) rfl rfl rfl ?_
    refine zq_ipush (pc' := 114) rfl rfl rfl ?_
    refine hq_calli (pc' := 117) rfl rfl rfl rfl rfl rfl h_Xi ?_
    refine hmonoi H ?_
    intro x3 g1 e2 H
    exact zq_iret rfl trivial (Exists.intro _ (Exists.intro _ (And.intro rfl H)))
  · have H := H.2 c
    refine zq_aload (pc' := 10) rfl rfl rfl rfl ?_
    refine hq_calli (pc' := 13) rfl rfl rfl rfl rfl rfl h_Xi ?_
    refine hmonoi H ?_
    intro x6 g4 e5 H
    refine zq_istore_c (pc' := 15) rfl rfl ?_
    exact H
theorem zh_X5_meshed_15 {d : Nat} {k : Int32 → hG → hE → Prop} {X : Nat → hG → hE → Prop} {l1 : Nat} (hl1 : hT l1 = some hZ) {l2 : Nat} (hl2 : hT l2 = some hZ) {l3 : Int32} {l4 : Int32} {g : hG} {e : hE} (H :
    zbr (l4 < 0)
    (hwi d zm_X5_meshed k X 5 [(0, .ref 1043), (1, .ref l1), (2, .ref l2), (3, .int (l3 + (-1)))] g e)
    (hci d 112 [.ref l1] g e (fun x3 g1 e2 =>
        zbr (x3 ≤ l3)
        (hcv d 102 [.ref 1043, .int l3, .int l4, .int 0] g1 e2 (fun g4 e5 =>
            hwi d zm_X5_meshed k X 15 [(0, .ref 1043), (1, .ref l1), (2, .ref l2), (3, .int l3), (4, .int (l4 + (-1)))] g4 e5) X)
        (hci d 112 [.ref l2] g1 e2 (fun x8 g6 e7 =>
            zbr (x8 ≤ l4)
            (hcv d 102 [.ref 1043, .int l3, .int l4, .int 0] g6 e7 (fun g9 e10 =>
                hwi d zm_X5_meshed k X 15 [(0, .ref 1043), (1, .ref l1), (2, .ref l2), (3, .int l3), (4, .int (l4 + (-1)))] g9 e10) X)
            (hci d 101 [.ref 1043, .int (l3 + 1), .int l4] g6 e7 (fun x13 g11 e12 =>
                hci d 101 [.ref 1043, .int l3, .int (l4 + 1)] g11 e12 (fun x16 g14 e15 =>
                  hci d 2 [.int x13, .int x16] g14 e15 (fun x19 g17 e18 =>
                    hci d 99 [.ref l1, .int l3, .ref l2, .int l4] g17 e18 (fun x22 g20 e21 =>
                      hci d 101 [.ref 1043, .int (l3 + 1), .int (l4 + 1)] g20 e21 (fun x25 g23 e24 =>
                        hci d 2 [.int x19, .int (x22 + x25)] g23 e24 (fun x28 g26 e27 =>
                          hcv d 102 [.ref 1043, .int l3, .int l4, .int x28] g26 e27 (fun g29 e30 =>
                            hwi d zm_X5_meshed k X 15 [(0, .ref 1043), (1, .ref l1), (2, .ref l2), (3, .int l3), (4, .int (l4 + (-1)))] g29 e30) X) X) X) X) X) X) X)) X)) X)) : hwi d zm_X5_meshed k X 15 [(0, .ref 1043), (1, .ref l1), (2, .ref l2), (3, .int l3), (4, .int l4)] g e := by
  refine zq_iload (pc' := 17) rfl rfl rfl rfl ?_
  refine zq_iflt (pc' := 20) rfl rfl rfl rfl (And.intro (fun c => ?_) (fun c => ?_))
  · have H := H.1 c
    refine zq_iincn (pc' := 108) rfl rfl rfl rfl ?_
    refine zq_goto_c (pc' := 5) rfl rfl ?_
    exact H
  · have H := H.2 c
    refine zq_ipush (pc' := 21) rfl rfl rfl ?_
    refine zq_istore (pc' := 23) rfl rfl rfl ?_
    refine zq_iload (pc' := 24) rfl rfl rfl rfl ?_
    refine zq_aload (pc' := 25) rfl rfl rfl rfl ?_
    refine hq_calli (pc' := 28) rfl rfl rfl rfl rfl rfl h_Xi ?_
    refine hmonoi H ?_
    intro x3 g1 e2 H
    refine zq_icge (pc' := 31) rfl rfl rfl rfl (And.intro (fun c => ?_) (fun c => ?_))
    · have H := H.1 c
      refine zq_aload (pc' := 91) rfl rfl rfl rfl ?_
      refine zq_iload (pc' := 92) rfl rfl rfl rfl ?_
      refine zq_iload (pc' := 94) rfl rfl rfl rfl ?_
      refine zq_iload (pc' := 96) rfl rfl rfl rfl ?_
      refine hq_callv (pc' := 99) rfl rfl rfl rfl rfl rfl h_Xi ?_
      refine hmonov H ?_
      intro g4 e5 H
      refine zq_iincn (pc' := 102) rfl rfl rfl rfl ?_
      refine zq_goto_c (pc' := 15) rfl rfl ?_
      exact H
    · have H := H.2 c
      refine zq_iload (pc' := 33) rfl rfl rfl rfl ?_
      refine zq_aload (pc' := 34) rfl rfl rfl rfl ?_
      refine hq_calli (pc' := 37) rfl rfl rfl rfl rfl rfl h_Xi ?_
      refine hmonoi H ?_
      intro x8 g6 e7 H
      refine zq_icge (pc' := 40) rfl rfl rfl rfl (And.intro (fun c => ?_) (fun c => ?_))
      · have H := H.1 c
        refine zq_aload (pc' := 91) rfl rfl rfl rfl ?_
        refine zq_iload (pc' := 92) rfl rfl rfl rfl ?_
        refine zq_iload (pc' := 94) rfl rfl rfl rfl ?_
        refine zq_iload (pc' := 96) rfl rfl rfl rfl ?_
        refine hq_callv (pc' := 99) rfl rfl rfl rfl rfl rfl h_Xi ?_
        refine hmonov H ?_
        intro g9 e10 H
        refine zq_iincn (pc' := 102) rfl rfl rfl rfl ?_
        refine zq_goto_c (pc' := 15) rfl rfl ?_
        exact H
      · have H := H.2 c
        refine zq_aload (pc' := 41) rfl rfl rfl rfl ?_
        refine zq_iload (pc' := 42) rfl rfl rfl rfl ?_
        refine zq_ipush (pc' := 43) rfl rfl rfl ?_
        refine zq_iadd (pc' := 44) rfl rfl rfl ?_
        refine zq_iload (pc' := 46) rfl rfl rfl rfl ?_
        refine hq_calli (pc' := 49) rfl rfl rfl rfl rfl rfl h_Xi ?_
        refine hmonoi H ?_
        intro x13 g11 e12 H
        refine zq_aload (pc' := 50) rfl rfl rfl rfl ?_
        refine zq_iload (pc' := 51) rfl rfl rfl rfl ?_
        refine zq_iload (pc' := 53) rfl rfl rfl rfl ?_
        refine zq_ipush (pc' := 54) rfl rfl rfl ?_
        refine zq_iadd (pc' := 55) rfl rfl rfl ?_
        refine hq_calli (pc' := 58) rfl rfl rfl rfl rfl rfl h_Xi ?_
        refine hmonoi H ?_
        intro x16 g14 e15 H
        refine hq_calli (pc' := 61) rfl rfl rfl rfl rfl rfl h_Xi ?_
        refine hmonoi H ?_
        intro x19 g17 e18 H
        refine zq_istore (pc' := 63) rfl rfl rfl ?_
        refine zq_iload (pc' := 65) rfl rfl rfl rfl ?_
        refine zq_aload (pc' := 66) rfl rfl rfl rfl ?_
        refine zq_iload (pc' := 67) rfl rfl rfl rfl ?_
        refine zq_aload (pc' := 68) rfl rfl rfl rfl ?_
        refine zq_iload (pc' := 70) rfl rfl rfl rfl ?_
        refine hq_calli (pc' := 73) rfl rfl rfl rfl rfl rfl h_Xi ?_
        refine hmonoi H ?_
        intro x22 g20 e21 H
        refine zq_aload (pc' := 74) rfl rfl rfl rfl ?_
        refine zq_iload (pc' := 75) rfl rfl rfl rfl ?_
        refine zq_ipush (pc' := 76) rfl rfl rfl ?_
        refine zq_iadd (pc' := 77) rfl rfl rfl ?_
        refine zq_iload (pc' := 79) rfl rfl rfl rfl ?_
        refine zq_ipush (pc' := 80) rfl rfl rfl ?_
        refine zq_iadd (pc' := 81) rfl rfl rfl ?_
        refine hq_calli (pc' := 84) rfl rfl rfl rfl rfl rfl h_Xi ?_
        refine hmonoi H ?_
        intro x25 g23 e24 H
        refine zq_iadd (pc' := 85) rfl rfl rfl ?_
        refine hq_calli (pc' := 88) rfl rfl rfl rfl rfl rfl h_Xi ?_
        refine hmonoi H ?_
        intro x28 g26 e27 H
        refine zq_istore (pc' := 90) rfl rfl rfl ?_
        refine zq_aload (pc' := 91) rfl rfl rfl rfl ?_
        refine zq_iload (pc' := 92) rfl rfl rfl rfl ?_
        refine zq_iload (pc' := 94) rfl rfl rfl rfl ?_
        refine zq_iload (pc' := 96) rfl rfl rfl rfl ?_
        refine hq_callv (pc' := 99) rfl rfl rfl rfl rfl rfl h_Xi ?_
        refine hmonov H ?_
        intro g29 e30 H
        refine zq_iincn (pc' := 102) rfl rfl rfl rfl ?_
        refine zq_goto_c (pc' := 15) rfl rfl ?_
        exact H
theorem zh_X5_meshedWith {d : Nat} {k : Int32 → hG → hE → Prop} {X : Nat → hG → hE → Prop} {p1 : Nat} (hp1 : hT p1 = some hZ) {p2 : Nat} (hp2 : hT p2 = some hZ) {p3 : Int32} {g : hG} {e : hE} (H :
    hci d 103 [.ref 1043, .ref p1, .ref p2] g e (fun x3 g1 e2 =>
      hwi d zm_X5_meshedWith k X 16 [(0, .ref 1043), (1, .ref p1), (2, .ref p2), (3, .int p3), (4, .int 0), (5, .int (-1)), (6, .int 0)] g1 e2) X) : hci (d + 1) 104 [.ref 1043, .ref p1, .ref p2, .int p3] g e k X := by
  refine hent (M := zm_X5_meshedWith) (show hT 1043 = some (.inr _) from rfl) rfl rfl rfl rfl rfl ?_
  refine zq_aload (pc' := 1) rfl rfl rfl rfl ?_
  refine zq_aload (pc' := 2) rfl rfl rfl rfl ?_
  refine zq_aload (pc' := 3) rfl rfl rfl rfl ?_
  refine hq_calli (pc' := 6) rfl rfl rfl rfl rfl rfl h_Xi ?_
  refine hmonoi H ?_
  intro x3 g1 e2 H
  refine zq_pop (pc' := 7) rfl rfl rfl rfl ?_
  refine zq_ipush (pc' := 8) rfl rfl rfl ?_
  refine zq_istore (pc' := 10) rfl rfl rfl ?_
  refine zq_ipushn (pc' := 11) rfl rfl rfl ?_
  refine zq_istore (pc' := 13) rfl rfl rfl ?_
  refine zq_ipush (pc' := 14) rfl rfl rfl ?_
  refine zq_istore_c (pc' := 16) rfl rfl ?_
  exact H
theorem zh_X5_meshedWith_16 {d : Nat} {k : Int32 → hG → hE → Prop} {X : Nat → hG → hE → Prop} {l1 : Nat} (hl1 : hT l1 = some hZ) {l2 : Nat} (hl2 : hT l2 = some hZ) {l3 : Int32} {l4 : Int32} {l5 : Int32} {l6 : Int32} {g : hG} {e : hE} (H :
    zbr (l3 < l6)
    (k l5 g e)
    (hci d 112 [.ref l1] g e (fun x3 g1 e2 =>
        zbr (x3 ≤ l6)
        (k l5 g1 e2)
        (hci d 105 [.ref 1043, .ref l1, .ref l2, .int l6, .int l4] g1 e2 (fun x6 g4 e5 =>
            zbr (x6 = (-1))
            (hwi d zm_X5_meshedWith k X 16 [(0, .ref 1043), (1, .ref l1), (2, .ref l2), (3, .int l3), (4, .int l4), (5, .int x6), (6, .int (l6 + 1))] g4 e5)
            (hwi d zm_X5_meshedWith k X 16 [(0, .ref 1043), (1, .ref l1), (2, .ref l2), (3, .int l3), (4, .int (x6 + 1)), (5, .int x6), (6, .int (l6 + 1))] g4 e5)) X)) X)) : hwi d zm_X5_meshedWith k X 16 [(0, .ref 1043), (1, .ref l1), (2, .ref l2), (3, .int l3), (4, .int l4), (5, .int l5), (6, .int l6)] g e := by
  refine zq_iload (pc' := 18) rfl rfl rfl rfl ?_
  refine zq_iload (pc' := 19) rfl rfl rfl rfl ?_
  refine zq_icgt (pc' := 22) rfl rfl rfl rfl (And.intro (fun c => ?_) (fun c => ?_))
  · have H := H.1 c
    refine zq_iload (pc' := 63) rfl rfl rfl rfl ?_
    exact zq_iret rfl trivial (Exists.intro _ (Exists.intro _ (And.intro rfl H)))
  · have H := H.2 c
    refine zq_iload (pc' := 24) rfl rfl rfl rfl ?_
    refine zq_aload (pc' := 25) rfl rfl rfl rfl ?_
    refine hq_calli (pc' := 28) rfl rfl rfl rfl rfl rfl h_Xi ?_
    refine hmonoi H ?_
    intro x3 g1 e2 H
    refine zq_icge (pc' := 31) rfl rfl rfl rfl (And.intro (fun c => ?_) (fun c => ?_))
    · have H := H.1 c
      refine zq_iload (pc' := 63) rfl rfl rfl rfl ?_
      exact zq_iret rfl trivial (Exists.intro _ (Exists.intro _ (And.intro rfl H)))
    · have H := H.2 c
      refine zq_aload (pc' := 32) rfl rfl rfl rfl ?_
      refine zq_aload (pc' := 33) rfl rfl rfl rfl ?_
      refine zq_aload (pc' := 34) rfl rfl rfl rfl ?_
      refine zq_iload (pc' := 36) rfl rfl rfl rfl ?_
      refine zq_iload (pc' := 38) rfl rfl rfl rfl ?_
      refine hq_calli (pc' := 41) rfl rfl rfl rfl rfl rfl h_Xi ?_
      refine hmonoi H ?_
      intro x6 g4 e5 H
      refine zq_istore (pc' := 43) rfl rfl rfl ?_
      refine zq_iload (pc' := 45) rfl rfl rfl rfl ?_
      refine zq_ipushn (pc' := 46) rfl rfl rfl ?_
      refine zq_iceq (pc' := 49) rfl rfl rfl rfl (And.intro (fun c => ?_) (fun c => ?_))
      · have H := H.1 c
        refine zq_iinc (pc' := 58) rfl rfl rfl rfl ?_
        refine zq_goto_c (pc' := 16) rfl rfl ?_
        exact H
      · have H := H.2 c
        refine zq_iload (pc' := 51) rfl rfl rfl rfl ?_
        refine zq_ipush (pc' := 52) rfl rfl rfl ?_
        refine zq_iadd (pc' := 53) rfl rfl rfl ?_
        refine zq_istore (pc' := 55) rfl rfl rfl ?_
        refine zq_iinc (pc' := 58) rfl rfl rfl rfl ?_
        refine zq_goto_c (pc' := 16) rfl rfl ?_
        exact H
theorem zh_X5_firstPartner {d : Nat} {k : Int32 → hG → hE → Prop} {X : Nat → hG → hE → Prop} {p1 : Nat} (hp1 : hT p1 = some hZ) {p2 : Nat} (hp2 : hT p2 = some hZ) {p3 : Int32} {p4 : Int32} {g : hG} {e : hE} (H :
    hwi d zm_X5_firstPartner k X 4 [(0, .ref 1043), (1, .ref p1), (2, .ref p2), (3, .int p3), (4, .int p4), (5, .int p4)] g e) : hci (d + 1) 105 [.ref 1043, .ref p1, .ref p2, .int p3, .int p4] g e k X := by
  refine hent (M := zm_X5_firstPartner) (show hT 1043 = some (.inr _) from rfl) rfl rfl rfl rfl rfl ?_
  refine zq_iload (pc' := 2) rfl rfl rfl rfl ?_
  refine zq_istore_c (pc' := 4) rfl rfl ?_
  exact H
theorem zh_X5_firstPartner_4 {d : Nat} {k : Int32 → hG → hE → Prop} {X : Nat → hG → hE → Prop} {l1 : Nat} (hl1 : hT l1 = some hZ) {l2 : Nat} (hl2 : hT l2 = some hZ) {l3 : Int32} {l4 : Int32} {l5 : Int32} {g : hG} {e : hE} (H :
    hci d 112 [.ref l2] g e (fun x3 g1 e2 =>
      zbr (x3 ≤ l5)
      (k (-1) g1 e2)
      (hci d 99 [.ref l1, .int l3, .ref l2, .int l5] g1 e2 (fun x6 g4 e5 =>
          zbr (x6 ≤ 0)
          (hwi d zm_X5_firstPartner k X 4 [(0, .ref 1043), (1, .ref l1), (2, .ref l2), (3, .int l3), (4, .int l4), (5, .int (l5 + 1))] g4 e5)
          (hci d 101 [.ref 1043, .int (l3 + 1), .int (l5 + 1)] g4 e5 (fun x9 g7 e8 =>
              hci d 101 [.ref 1043, .int l3, .int l4] g7 e8 (fun x12 g10 e11 =>
                zbr ((x6 + x9) = x12)
                (k l5 g10 e11)
                (hwi d zm_X5_firstPartner k X 4 [(0, .ref 1043), (1, .ref l1), (2, .ref l2), (3, .int l3), (4, .int l4), (5, .int (l5 + 1))] g10 e11)) X) X)) X)) X) : hwi d zm_X5_firstPartner k X 4 [(0, .ref 1043), (1, .ref l1), (2, .ref l2), (3, .int l3), (4, .int l4), (5, .int l5)] g e := by
  refine zq_iload (pc' := 6) rfl rfl rfl rfl ?_
  refine zq_aload (pc' := 7) rfl rfl rfl rfl ?_
  refine hq_calli (pc' := 10) rfl rfl rfl rfl rfl rfl h_Xi ?_
  refine hmonoi H ?_
  intro x3 g1 e2 H
  refine zq_icge (pc' := 13) rfl rfl rfl rfl (And.intro (fun c => ?_) (fun c => ?_))
  · have H := H.1 c
    refine zq_ipushn (pc' := 62) rfl rfl rfl ?_
    exact zq_iret rfl trivial (Exists.intro _ (Exists.intro _ (And.intro rfl H)))
  · have H := H.2 c
    refine zq_aload (pc' := 14) rfl rfl rfl rfl ?_
    refine zq_iload (pc' := 15) rfl rfl rfl rfl ?_
    refine zq_aload (pc' := 16) rfl rfl rfl rfl ?_
    refine zq_iload (pc' := 18) rfl rfl rfl rfl ?_
    refine hq_calli (pc' := 21) rfl rfl rfl rfl rfl rfl h_Xi ?_
    refine hmonoi H ?_
    intro x6 g4 e5 H
    refine zq_istore (pc' := 23) rfl rfl rfl ?_
    refine zq_iload (pc' := 25) rfl rfl rfl rfl ?_
    refine zq_ifle (pc' := 28) rfl rfl rfl rfl (And.intro (fun c => ?_) (fun c => ?_))
    · have H := H.1 c
      refine zq_iinc (pc' := 58) rfl rfl rfl rfl ?_
      refine zq_goto_c (pc' := 4) rfl rfl ?_
      exact H
    · have H := H.2 c
      refine zq_iload (pc' := 30) rfl rfl rfl rfl ?_
      refine zq_aload (pc' := 31) rfl rfl rfl rfl ?_
      refine zq_iload (pc' := 32) rfl rfl rfl rfl ?_
      refine zq_ipush (pc' := 33) rfl rfl rfl ?_
      refine zq_iadd (pc' := 34) rfl rfl rfl ?_
      refine zq_iload (pc' := 36) rfl rfl rfl rfl ?_
      refine zq_ipush (pc' := 37) rfl rfl rfl ?_
      refine zq_iadd (pc' := 38) rfl rfl rfl ?_
      refine hq_calli (pc' := 41) rfl rfl rfl rfl rfl rfl h_Xi ?_
      refine hmonoi H ?_
      intro x9 g7 e8 H
      refine zq_iadd (pc' := 42) rfl rfl rfl ?_
      refine zq_aload (pc' := 43) rfl rfl rfl rfl ?_
      refine zq_iload (pc' := 44) rfl rfl rfl rfl ?_
      refine zq_iload (pc' := 46) rfl rfl rfl rfl ?_
      refine hq_calli (pc' := 49) rfl rfl rfl rfl rfl rfl h_Xi ?_
      refine hmonoi H ?_
      intro x12 g10 e11 H
      refine zq_icne (pc' := 52) rfl rfl rfl rfl (And.intro (fun c => ?_) (fun c => ?_))
      · have H := H.1 c
        refine zq_iload (pc' := 54) rfl rfl rfl rfl ?_
        exact zq_iret rfl trivial (Exists.intro _ (Exists.intro _ (And.intro rfl H)))
      · have H := H.2 c
        refine zq_iinc (pc' := 58) rfl rfl rfl rfl ?_
        refine zq_goto_c (pc' := 4) rfl rfl ?_
        exact H
