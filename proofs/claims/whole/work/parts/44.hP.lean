theorem zh_X3_faultAt {d : Nat} {k : Int32 → hG → hE → Prop} {X : Nat → hG → hE → Prop}  {g : hG} {e : hE} (H :
    k (g.1 1026 3) g e) : hci (d + 1) 64 [.ref 1026] g e k X := by
  refine hent (M := zm_X3_faultAt) (show hT 1026 = some (.inr _) from rfl) rfl rfl rfl rfl rfl ?_
  refine zq_aload (pc' := 1) rfl rfl rfl rfl ?_
  refine zq_getI (pc' := 4) rfl rfl rfl (hp_gI rfl) ?_
  exact zq_iret rfl trivial (Exists.intro _ (Exists.intro _ (And.intro rfl H)))
theorem zh_X3_read {d : Nat} {k : Int32 → hG → hE → Prop} {X : Nat → hG → hE → Prop} {p1 : Int32} {p2 : Nat} (hp2 : hD p2) {g : hG} {e : hE} (H :
    hci d 3 [.int p1, .int (nI 700)] g e (fun x3 g1 e2 =>
      hci d 2 [.int 0, .int x3] g1 e2 (fun x6 g4 e5 =>
        hD ((sR (sI (sI (sI g4 1026 1 x6) 1026 4 0) 1026 6 0) 1026 7 p2).2.2 1026 7) ∧ 
        hcv d 37 [.ref ((sR (sI (sI (sI g4 1026 1 x6) 1026 4 0) 1026 6 0) 1026 7 p2).2.2 1026 7)] (sR (sI (sI (sI g4 1026 1 x6) 1026 4 0) 1026 6 0) 1026 7 p2) e5 (fun g8 e9 =>
          hcv d 70 [.ref 1026] g8 e9 (fun g10 e11 =>
            hwi d zm_X3_read k X 45 [(0, .ref 1026), (3, .int 0)] g10 e11) X) X) X) X) : hci (d + 1) 65 [.ref 1026, .int p1, .ref p2] g e k X := by
  refine hent (M := zm_X3_read) (show hT 1026 = some (.inr _) from rfl) rfl rfl rfl rfl rfl ?_
  refine zq_aload (pc' := 1) rfl rfl rfl rfl ?_
  refine zq_ipush (pc' := 2) rfl rfl rfl ?_
  refine zq_iload (pc' := 3) rfl rfl rfl rfl ?_
  refine zq_aload (pc' := 4) rfl rfl rfl rfl ?_
  refine zq_getR (pc' := 7) rfl rfl rfl (hp_gC rfl) ?_
  refine zq_alen (pc' := 8) rfl rfl rfl (hp_al rfl rfl) ?_
  refine hq_calli (pc' := 11) rfl rfl rfl rfl rfl rfl h_Xi ?_
  refine hmonoi H ?_
  intro x3 g1 e2 H
  refine hq_calli (pc' := 14) rfl rfl rfl rfl rfl rfl h_Xi ?_
  refine hmonoi H ?_
  intro x6 g4 e5 H
  refine zq_put (pc' := 17) rfl rfl rfl trivial (hp_sI rfl) ?_
  refine zq_aload (pc' := 18) rfl rfl rfl rfl ?_
  refine zq_ipush (pc' := 19) rfl rfl rfl ?_
  refine zq_put (pc' := 22) rfl rfl rfl trivial (hp_sI rfl) ?_
  refine zq_aload (pc' := 23) rfl rfl rfl rfl ?_
  refine zq_ipush (pc' := 24) rfl rfl rfl ?_
  refine zq_put (pc' := 27) rfl rfl rfl trivial (hp_sI rfl) ?_
  refine zq_aload (pc' := 28) rfl rfl rfl rfl ?_
  refine zq_aload (pc' := 29) rfl rfl rfl rfl ?_
  refine zq_put (pc' := 32) rfl rfl rfl trivial (hp_sR rfl) ?_
  refine zq_aload (pc' := 33) rfl rfl rfl rfl ?_
  obtain ⟨hr7, H⟩ := H
  refine zq_getR (pc' := 36) rfl rfl rfl (hp_gR rfl) ?_
  refine hq_callv (pc' := 39) rfl rfl rfl rfl rfl rfl h_Xi ?_
  refine hmonov H ?_
  intro g8 e9 H
  refine zq_aload (pc' := 40) rfl rfl rfl rfl ?_
  refine hq_callv (pc' := 43) rfl rfl rfl rfl rfl rfl h_Xi ?_
  refine hmonov H ?_
  intro g10 e11 H
  refine zq_ipush (pc' := 44) rfl rfl rfl ?_
  refine zq_istore_c (pc' := 45) rfl rfl ?_
  exact H
theorem zh_X3_read_45 {d : Nat} {k : Int32 → hG → hE → Prop} {X : Nat → hG → hE → Prop} {l3 : Int32} {g : hG} {e : hE} (H :
    zbr (700 < l3)
    (k 0 g e)
    (zbr ((g.1 1026 2) = 0)
      (k 0 g e)
      (hci d 76 [.ref 1026] g e (fun x3 g1 e2 =>
          zbr (x3 = 0)
          (k (g1.1 1026 6) g1 e2)
          (hwi d zm_X3_read k X 45 [(0, .ref 1026), (3, .int (l3 + 1))] g1 e2)) X))) : hwi d zm_X3_read k X 45 [(0, .ref 1026), (3, .int l3)] g e := by
  refine zq_iload (pc' := 46) rfl rfl rfl rfl ?_
  refine zq_ipush (pc' := 49) rfl rfl rfl ?_
  refine zq_icgt (pc' := 52) rfl rfl rfl rfl (And.intro (fun c => ?_) (fun c => ?_))
  · have H := H.1 c
    refine zq_ipush (pc' := 78) rfl rfl rfl ?_
    exact zq_iret rfl trivial (Exists.intro _ (Exists.intro _ (And.intro rfl H)))
  · have H := H.2 c
    refine zq_aload (pc' := 53) rfl rfl rfl rfl ?_
    refine zq_getI (pc' := 56) rfl rfl rfl (hp_gI rfl) ?_
    refine zq_ifeq (pc' := 59) rfl rfl rfl rfl (And.intro (fun c => ?_) (fun c => ?_))
    · have H := H.1 c
      refine zq_ipush (pc' := 78) rfl rfl rfl ?_
      exact zq_iret rfl trivial (Exists.intro _ (Exists.intro _ (And.intro rfl H)))
    · have H := H.2 c
      refine zq_aload (pc' := 60) rfl rfl rfl rfl ?_
      refine hq_calli (pc' := 63) rfl rfl rfl rfl rfl rfl h_Xi ?_
      refine hmonoi H ?_
      intro x3 g1 e2 H
      refine zq_ifne (pc' := 66) rfl rfl rfl rfl (And.intro (fun c => ?_) (fun c => ?_))
      · have H := H.1 c
        refine zq_aload (pc' := 67) rfl rfl rfl rfl ?_
        refine zq_getI (pc' := 70) rfl rfl rfl (hp_gI rfl) ?_
        exact zq_iret rfl trivial (Exists.intro _ (Exists.intro _ (And.intro rfl H)))
      · have H := H.2 c
        refine zq_iinc (pc' := 74) rfl rfl rfl rfl ?_
        refine zq_goto_c (pc' := 45) rfl rfl ?_
        exact H
theorem zh_X3_byteAt {d : Nat} {k : Int32 → hG → hE → Prop} {X : Nat → hG → hE → Prop} {p1 : Int32} {g : hG} {e : hE} (H :
    zbr (p1 < 0)
    (k 0 g e)
    (zbr ((g.1 1026 1) ≤ p1)
      (k 0 g e)
      (zbr ((nI 700) ≤ p1)
        (k 0 g e)
        (hin p1 700 ∧
          k (g.1 1001 p1.toNatClampNeg) g e)))) : hci (d + 1) 66 [.ref 1026, .int p1] g e k X := by
  refine hent (M := zm_X3_byteAt) (show hT 1026 = some (.inr _) from rfl) rfl rfl rfl rfl rfl ?_
  refine zq_iload (pc' := 1) rfl rfl rfl rfl ?_
  refine zq_iflt (pc' := 4) rfl rfl rfl rfl (And.intro (fun c => ?_) (fun c => ?_))
  · have H := H.1 c
    refine zq_ipush (pc' := 31) rfl rfl rfl ?_
    exact zq_iret rfl trivial (Exists.intro _ (Exists.intro _ (And.intro rfl H)))
  · have H := H.2 c
    refine zq_iload (pc' := 5) rfl rfl rfl rfl ?_
    refine zq_aload (pc' := 6) rfl rfl rfl rfl ?_
    refine zq_getI (pc' := 9) rfl rfl rfl (hp_gI rfl) ?_
    refine zq_icge (pc' := 12) rfl rfl rfl rfl (And.intro (fun c => ?_) (fun c => ?_))
    · have H := H.1 c
      refine zq_ipush (pc' := 31) rfl rfl rfl ?_
      exact zq_iret rfl trivial (Exists.intro _ (Exists.intro _ (And.intro rfl H)))
    · have H := H.2 c
      refine zq_iload (pc' := 13) rfl rfl rfl rfl ?_
      refine zq_aload (pc' := 14) rfl rfl rfl rfl ?_
      refine zq_getR (pc' := 17) rfl rfl rfl (hp_gC rfl) ?_
      refine zq_alen (pc' := 18) rfl rfl rfl (hp_al rfl rfl) ?_
      refine zq_icge (pc' := 21) rfl rfl rfl rfl (And.intro (fun c => ?_) (fun c => ?_))
      · have H := H.1 c
        refine zq_ipush (pc' := 31) rfl rfl rfl ?_
        exact zq_iret rfl trivial (Exists.intro _ (Exists.intro _ (And.intro rfl H)))
      · have H := H.2 c
        refine zq_aload (pc' := 22) rfl rfl rfl rfl ?_
        refine zq_getR (pc' := 25) rfl rfl rfl (hp_gC rfl) ?_
        refine zq_iload (pc' := 26) rfl rfl rfl rfl ?_
        obtain ⟨hi1, H⟩ := H
        refine zq_bald (pc' := 27) rfl rfl rfl (hp_ba rfl hi1) ?_
        refine zq_goto (pc' := 31) rfl rfl rfl ?_
        exact zq_iret rfl trivial (Exists.intro _ (Exists.intro _ (And.intro rfl H)))
theorem zh_X3_isLetter {d : Nat} {k : Int32 → hG → hE → Prop} {X : Nat → hG → hE → Prop} {p1 : Int32} {g : hG} {e : hE} (H :
    hci d 66 [.ref 1026, .int p1] g e (fun x3 g1 e2 =>
      zbr (x3 < 97)
      (k 0 g1 e2)
      (hci d 66 [.ref 1026, .int p1] g1 e2 (fun x6 g4 e5 =>
          zbr (122 < x6)
          (k 0 g4 e5)
          (k 1 g4 e5)) X)) X) : hci (d + 1) 67 [.ref 1026, .int p1] g e k X := by
  refine hent (M := zm_X3_isLetter) (show hT 1026 = some (.inr _) from rfl) rfl rfl rfl rfl rfl ?_
  refine zq_aload (pc' := 1) rfl rfl rfl rfl ?_
  refine zq_iload (pc' := 2) rfl rfl rfl rfl ?_
  refine hq_calli (pc' := 5) rfl rfl rfl rfl rfl rfl h_Xi ?_
  refine hmonoi H ?_
  intro x3 g1 e2 H
  refine zq_ipush (pc' := 7) rfl rfl rfl ?_
  refine zq_iclt (pc' := 10) rfl rfl rfl rfl (And.intro (fun c => ?_) (fun c => ?_))
  · have H := H.1 c
    refine zq_ipush (pc' := 25) rfl rfl rfl ?_
    exact zq_iret rfl (Or.inl rfl) (Exists.intro _ (Exists.intro _ (And.intro rfl H)))
  · have H := H.2 c
    refine zq_aload (pc' := 11) rfl rfl rfl rfl ?_
    refine zq_iload (pc' := 12) rfl rfl rfl rfl ?_
    refine hq_calli (pc' := 15) rfl rfl rfl rfl rfl rfl h_Xi ?_
    refine hmonoi H ?_
    intro x6 g4 e5 H
    refine zq_ipush (pc' := 17) rfl rfl rfl ?_
    refine zq_icgt (pc' := 20) rfl rfl rfl rfl (And.intro (fun c => ?_) (fun c => ?_))
    · have H := H.1 c
      refine zq_ipush (pc' := 25) rfl rfl rfl ?_
      exact zq_iret rfl (Or.inl rfl) (Exists.intro _ (Exists.intro _ (And.intro rfl H)))
    · have H := H.2 c
      refine zq_ipush (pc' := 21) rfl rfl rfl ?_
      refine zq_goto (pc' := 25) rfl rfl rfl ?_
      exact zq_iret rfl (Or.inr rfl) (Exists.intro _ (Exists.intro _ (And.intro rfl H)))
theorem zh_X3_isDigit {d : Nat} {k : Int32 → hG → hE → Prop} {X : Nat → hG → hE → Prop} {p1 : Int32} {g : hG} {e : hE} (H :
    hci d 66 [.ref 1026, .int p1] g e (fun x3 g1 e2 =>
      zbr (x3 < 48)
      (k 0 g1 e2)
      (hci d 66 [.ref 1026, .int p1] g1 e2 (fun x6 g4 e5 =>
          zbr (57 < x6)
          (k 0 g4 e5)
          (k 1 g4 e5)) X)) X) : hci (d + 1) 68 [.ref 1026, .int p1] g e k X := by
  refine hent (M := zm_X3_isDigit) (show hT 1026 = some (.inr _) from rfl) rfl rfl rfl rfl rfl ?_
  refine zq_aload (pc' := 1) rfl rfl rfl rfl ?_
  refine zq_iload (pc' := 2) rfl rfl rfl rfl ?_
  refine hq_calli (pc' := 5) rfl rfl rfl rfl rfl rfl h_Xi ?_
  refine hmonoi H ?_
  intro x3 g1 e2 H
  refine zq_ipush (pc' := 7) rfl rfl rfl ?_
  refine zq_iclt (pc' := 10) rfl rfl rfl rfl (And.intro (fun c => ?_) (fun c => ?_))
  · have H := H.1 c
    refine zq_ipush (pc' := 25) rfl rfl rfl ?_
    exact zq_iret rfl (Or.inl rfl) (Exists.intro _ (Exists.intro _ (And.intro rfl H)))
  · have H := H.2 c
    refine zq_aload (pc' := 11) rfl rfl rfl rfl ?_
    refine zq_iload (pc' := 12) rfl rfl rfl rfl ?_
    refine hq_calli (pc' := 15) rfl rfl rfl rfl rfl rfl h_Xi ?_
    refine hmonoi H ?_
    intro x6 g4 e5 H
    refine zq_ipush (pc' := 17) rfl rfl rfl ?_
    refine zq_icgt (pc' := 20) rfl rfl rfl rfl (And.intro (fun c => ?_) (fun c => ?_))
    · have H := H.1 c
      refine zq_ipush (pc' := 25) rfl rfl rfl ?_
      exact zq_iret rfl (Or.inl rfl) (Exists.intro _ (Exists.intro _ (And.intro rfl H)))
    · have H := H.2 c
      refine zq_ipush (pc' := 21) rfl rfl rfl ?_
      refine zq_goto (pc' := 25) rfl rfl rfl ?_
      exact zq_iret rfl (Or.inr rfl) (Exists.intro _ (Exists.intro _ (And.intro rfl H)))
theorem zh_X3_isBlank {d : Nat} {k : Int32 → hG → hE → Prop} {X : Nat → hG → hE → Prop} {p1 : Int32} {g : hG} {e : hE} (H :
    hci d 66 [.ref 1026, .int p1] g e (fun x3 g1 e2 =>
      zbr (x3 = 32)
      (k 1 g1 e2)
      (hci d 66 [.ref 1026, .int p1] g1 e2 (fun x6 g4 e5 =>
          zbr (x6 = 10)
          (k 1 g4 e5)
          (k 0 g4 e5)) X)) X) : hci (d + 1) 69 [.ref 1026, .int p1] g e k X := by
  refine hent (M := zm_X3_isBlank) (show hT 1026 = some (.inr _) from rfl) rfl rfl rfl rfl rfl ?_
  refine zq_aload (pc' := 1) rfl rfl rfl rfl ?_
  refine zq_iload (pc' := 2) rfl rfl rfl rfl ?_
  refine hq_calli (pc' := 5) rfl rfl rfl rfl rfl rfl h_Xi ?_
  refine hmonoi H ?_
  intro x3 g1 e2 H
  refine zq_ipush (pc' := 7) rfl rfl rfl ?_
  refine zq_iceq (pc' := 10) rfl rfl rfl rfl (And.intro (fun c => ?_) (fun c => ?_))
  · have H := H.1 c
    refine zq_ipush (pc' := 21) rfl rfl rfl ?_
    refine zq_goto (pc' := 25) rfl rfl rfl ?_
    exact zq_iret rfl (Or.inr rfl) (Exists.intro _ (Exists.intro _ (And.intro rfl H)))
  · have H := H.2 c
    refine zq_aload (pc' := 11) rfl rfl rfl rfl ?_
    refine zq_iload (pc' := 12) rfl rfl rfl rfl ?_
    refine hq_calli (pc' := 15) rfl rfl rfl rfl rfl rfl h_Xi ?_
    refine hmonoi H ?_
    intro x6 g4 e5 H
    refine zq_ipush (pc' := 17) rfl rfl rfl ?_
    refine zq_icne (pc' := 20) rfl rfl rfl rfl (And.intro (fun c => ?_) (fun c => ?_))
    · have H := H.1 c
      refine zq_ipush (pc' := 21) rfl rfl rfl ?_
      refine zq_goto (pc' := 25) rfl rfl rfl ?_
      exact zq_iret rfl (Or.inr rfl) (Exists.intro _ (Exists.intro _ (And.intro rfl H)))
    · have H := H.2 c
      refine zq_ipush (pc' := 25) rfl rfl rfl ?_
      exact zq_iret rfl (Or.inl rfl) (Exists.intro _ (Exists.intro _ (And.intro rfl H)))
theorem zh_X3_advance {d : Nat} {k : hG → hE → Prop} {X : Nat → hG → hE → Prop}  {g : hG} {e : hE} (H :
    hwv d zm_X3_advance k X 8 [(0, .ref 1026)] (sI g 1026 3 (g.1 1026 4)) e) : hcv (d + 1) 70 [.ref 1026] g e k X := by
  refine hent (M := zm_X3_advance) (show hT 1026 = some (.inr _) from rfl) rfl rfl rfl rfl rfl ?_
  refine zq_aload (pc' := 1) rfl rfl rfl rfl ?_
  refine zq_aload (pc' := 2) rfl rfl rfl rfl ?_
  refine zq_getI (pc' := 5) rfl rfl rfl (hp_gI rfl) ?_
  refine zq_put_c (pc' := 8) rfl rfl trivial (hp_sI rfl) ?_
  exact H
theorem zh_X3_advance_8 {d : Nat} {k : hG → hE → Prop} {X : Nat → hG → hE → Prop}  {g : hG} {e : hE} (H :
    zbr ((g.1 1026 1) ≤ (g.1 1026 3))
    (hwv d zm_X3_advance k X 43 [(0, .ref 1026)] g e)
    (hci d 69 [.ref 1026, .int (g.1 1026 3)] g e (fun x3 g1 e2 =>
        zbr (x3 = 0)
        (hwv d zm_X3_advance k X 43 [(0, .ref 1026)] g1 e2)
        (hwv d zm_X3_advance k X 8 [(0, .ref 1026)] (sI g1 1026 3 ((g1.1 1026 3) + 1)) e2)) X)) : hwv d zm_X3_advance k X 8 [(0, .ref 1026)] g e := by
  refine zq_aload (pc' := 9) rfl rfl rfl rfl ?_
  refine zq_getI (pc' := 12) rfl rfl rfl (hp_gI rfl) ?_
  refine zq_aload (pc' := 13) rfl rfl rfl rfl ?_
  refine zq_getI (pc' := 16) rfl rfl rfl (hp_gI rfl) ?_
  refine zq_icge_c (pc' := 19) (lt := [(0, .ref 1026)]) (lf := [(0, .ref 1026)]) rfl rfl rfl rfl (And.intro (fun c => ?_) (fun c => ?_))
  · have H := H.1 c
    exact H
  · have H := H.2 c
    refine zq_aload (pc' := 20) rfl rfl rfl rfl ?_
    refine zq_aload (pc' := 21) rfl rfl rfl rfl ?_
    refine zq_getI (pc' := 24) rfl rfl rfl (hp_gI rfl) ?_
    refine hq_calli (pc' := 27) rfl rfl rfl rfl rfl rfl h_Xv ?_
    refine hmonoi H ?_
    intro x3 g1 e2 H
    refine zq_ifeq_c (pc' := 30) (lt := [(0, .ref 1026)]) (lf := [(0, .ref 1026)]) rfl rfl rfl rfl (And.intro (fun c => ?_) (fun c => ?_))
    · have H := H.1 c
      exact H
    · have H := H.2 c
      refine zq_aload (pc' := 31) rfl rfl rfl rfl ?_
      refine zq_dup (pc' := 32) rfl rfl rfl rfl ?_
      refine zq_getI (pc' := 35) rfl rfl rfl (hp_gI rfl) ?_
      refine zq_ipush (pc' := 36) rfl rfl rfl ?_
      refine zq_iadd (pc' := 37) rfl rfl rfl ?_
      refine zq_put (pc' := 40) rfl rfl rfl trivial (hp_sI rfl) ?_
      refine zq_goto_c (pc' := 8) rfl rfl ?_
      exact H
theorem zh_X3_advance_43 {d : Nat} {k : hG → hE → Prop} {X : Nat → hG → hE → Prop}  {g : hG} {e : hE} (H :
    zbr (((sI g 1026 4 (g.1 1026 3)).1 1026 3) < ((sI g 1026 4 (g.1 1026 3)).1 1026 1))
    (hci d 67 [.ref 1026, .int ((sI g 1026 4 (g.1 1026 3)).1 1026 3)] (sI g 1026 4 (g.1 1026 3)) e (fun x3 g1 e2 =>
        zbr (x3 = 0)
        (hci d 68 [.ref 1026, .int (g1.1 1026 3)] g1 e2 (fun x6 g4 e5 =>
            zbr (x6 = 0)
            (hci d 66 [.ref 1026, .int (g4.1 1026 3)] g4 e5 (fun x9 g7 e8 =>
                hci d 6 [.ref 0, .int (((x9 &&& 255 : Int32).toUInt32 % 65536).toInt32)] g7 e8 (fun x12 g10 e11 =>
                  zbr (x12 < 0)
                  (k (sI (sI g10 1026 2 4) 1026 4 (((sI g10 1026 2 4).1 1026 4) + 1)) e11)
                  (k (sI (sI g10 1026 2 3) 1026 4 (((sI g10 1026 2 3).1 1026 4) + 1)) e11)) X) X)
            (hcv d 71 [.ref 1026] (sI g4 1026 2 2) e5 (fun g13 e14 =>
                k g13 e14) X)) X)
        (hwv d zm_X3_advance k X 86 [(0, .ref 1026)] (sI g1 1026 2 1) e2)) X)
    (k (sI (sI g 1026 4 (g.1 1026 3)) 1026 2 0) e)) : hwv d zm_X3_advance k X 43 [(0, .ref 1026)] g e := by
  refine zq_aload (pc' := 44) rfl rfl rfl rfl ?_
  refine zq_aload (pc' := 45) rfl rfl rfl rfl ?_
  refine zq_getI (pc' := 48) rfl rfl rfl (hp_gI rfl) ?_
  refine zq_put (pc' := 51) rfl rfl rfl trivial (hp_sI rfl) ?_
  refine zq_aload (pc' := 52) rfl rfl rfl rfl ?_
  refine zq_getI (pc' := 55) rfl rfl rfl (hp_gI rfl) ?_
  refine zq_aload (pc' := 56) rfl rfl rfl rfl ?_
  refine zq_getI (pc' := 59) rfl rfl rfl (hp_gI rfl) ?_
  refine zq_iclt (pc' := 62) rfl rfl rfl rfl (And.intro (fun c => ?_) (fun c => ?_))
  · have H := H.1 c
    refine zq_aload (pc' := 71) rfl rfl rfl rfl ?_
    refine zq_aload (pc' := 72) rfl rfl rfl rfl ?_
    refine zq_getI (pc' := 75) rfl rfl rfl (hp_gI rfl) ?_
    refine hq_calli (pc' := 78) rfl rfl rfl rfl rfl rfl h_Xv ?_
    refine hmonoi H ?_
    intro x3 g1 e2 H
    refine zq_ifeq (pc' := 81) rfl rfl rfl rfl (And.intro (fun c => ?_) (fun c => ?_))
    · have H := H.1 c
      refine zq_aload (pc' := 122) rfl rfl rfl rfl ?_
      refine zq_aload (pc' := 123) rfl rfl rfl rfl ?_
      refine zq_getI (pc' := 126) rfl rfl rfl (hp_gI rfl) ?_
      refine hq_calli (pc' := 129) rfl rfl rfl rfl rfl rfl h_Xv ?_
      refine hmonoi H ?_
      intro x6 g4 e5 H
      refine zq_ifeq (pc' := 132) rfl rfl rfl rfl (And.intro (fun c => ?_) (fun c => ?_))
      · have H := H.1 c
        refine zq_aload (pc' := 145) rfl rfl rfl rfl ?_
        refine zq_rpush (pc' := 147) rfl rfl rfl ?_
        refine zq_aload (pc' := 148) rfl rfl rfl rfl ?_
        refine zq_aload (pc' := 149) rfl rfl rfl rfl ?_
        refine zq_getI (pc' := 152) rfl rfl rfl (hp_gI rfl) ?_
        refine hq_calli (pc' := 155) rfl rfl rfl rfl rfl rfl h_Xv ?_
        refine hmonoi H ?_
        intro x9 g7 e8 H
        refine zq_ipush (pc' := 158) rfl rfl rfl ?_
        refine zq_iand (pc' := 159) rfl rfl rfl ?_
        refine zq_i2c (pc' := 160) rfl rfl rfl ?_
        refine hq_calli (pc' := 163) rfl rfl rfl rfl rfl rfl h_Xv ?_
        refine hmonoi H ?_
        intro x12 g10 e11 H
        refine zq_iflt (pc' := 166) rfl rfl rfl rfl (And.intro (fun c => ?_) (fun c => ?_))
        · have H := H.1 c
          refine zq_ipush (pc' := 171) rfl rfl rfl ?_
          refine zq_put (pc' := 174) rfl rfl rfl trivial (hp_sI rfl) ?_
          refine zq_aload (pc' := 175) rfl rfl rfl rfl ?_
          refine zq_dup (pc' := 176) rfl rfl rfl rfl ?_
          refine zq_getI (pc' := 179) rfl rfl rfl (hp_gI rfl) ?_
          refine zq_ipush (pc' := 180) rfl rfl rfl ?_
          refine zq_iadd (pc' := 181) rfl rfl rfl ?_
          refine zq_put (pc' := 184) rfl rfl rfl trivial (hp_sI rfl) ?_
          exact zq_vret rfl (Exists.intro _ (Exists.intro _ (And.intro rfl H)))
        · have H := H.2 c
          refine zq_ipush (pc' := 167) rfl rfl rfl ?_
          refine zq_goto (pc' := 171) rfl rfl rfl ?_
          refine zq_put (pc' := 174) rfl rfl rfl trivial (hp_sI rfl) ?_
          refine zq_aload (pc' := 175) rfl rfl rfl rfl ?_
          refine zq_dup (pc' := 176) rfl rfl rfl rfl ?_
          refine zq_getI (pc' := 179) rfl rfl rfl (hp_gI rfl) ?_
          refine zq_ipush (pc' := 180) rfl rfl rfl ?_
          refine zq_iadd (pc' := 181) rfl rfl rfl ?_
          refine zq_put (pc' := 184) rfl rfl rfl trivial (hp_sI rfl) ?_
          exact zq_vret rfl (Exists.intro _ (Exists.intro _ (And.intro rfl H)))
      · have H := H.2 c
        refine zq_aload (pc' := 133) rfl rfl rfl rfl ?_
        refine zq_ipush (pc' := 134) rfl rfl rfl ?_
        refine zq_put (pc' := 137) rfl rfl rfl trivial (hp_sI rfl) ?_
        refine zq_aload (pc' := 138) rfl rfl rfl rfl ?_
        refine hq_callv (pc' := 141) rfl rfl rfl rfl rfl rfl h_Xv ?_
        refine hmonov H ?_
        intro g13 e14 H
        refine zq_goto (pc' := 184) rfl rfl rfl ?_
        exact zq_vret rfl (Exists.intro _ (Exists.intro _ (And.intro rfl H)))
    · have H := H.2 c
      refine zq_aload (pc' := 82) rfl rfl rfl rfl ?_
      refine zq_ipush (pc' := 83) rfl rfl rfl ?_
      refine zq_put_c (pc' := 86) rfl rfl trivial (hp_sI rfl) ?_
      exact H
  · have H := H.2 c
    refine zq_aload (pc' := 63) rfl rfl rfl rfl ?_
    refine zq_ipush (pc' := 64) rfl rfl rfl ?_
    refine zq_put (pc' := 67) rfl rfl rfl trivial (hp_sI rfl) ?_
    refine zq_goto (pc' := 184) rfl rfl rfl ?_
    exact zq_vret rfl (Exists.intro _ (Exists.intro _ (And.intro rfl H)))
theorem zh_X3_advance_86 {d : Nat} {k : hG → hE → Prop} {X : Nat → hG → hE → Prop}  {g : hG} {e : hE} (H :
    zbr ((g.1 1026 1) ≤ (g.1 1026 4))
    (k g e)
    (hci d 67 [.ref 1026, .int (g.1 1026 4)] g e (fun x3 g1 e2 =>
        zbr (x3 = 0)
        (k g1 e2)
        (hwv d zm_X3_advance k X 86 [(0, .ref 1026)] (sI g1 1026 4 ((g1.1 1026 4) + 1)) e2)) X)) : hwv d zm_X3_advance k X 86 [(0, .ref 1026)] g e := by
  refine zq_aload (pc' := 87) rfl rfl rfl rfl ?_
  refine zq_getI (pc' := 90) rfl rfl rfl (hp_gI rfl) ?_
  refine zq_aload (pc' := 91) rfl rfl rfl rfl ?_
  refine zq_getI (pc' := 94) rfl rfl rfl (hp_gI rfl) ?_
  refine zq_icge (pc' := 97) rfl rfl rfl rfl (And.intro (fun c => ?_) (fun c => ?_))
  · have H := H.1 c
    exact zq_vret rfl (Exists.intro _ (Exists.intro _ (And.intro rfl H)))
  · have H := H.2 c
    refine zq_aload (pc' := 98) rfl rfl rfl rfl ?_
    refine zq_aload (pc' := 99) rfl rfl rfl rfl ?_
    refine zq_getI (pc' := 102) rfl rfl rfl (hp_gI rfl) ?_
    refine hq_calli (pc' := 105) rfl rfl rfl rfl rfl rfl h_Xv ?_
    refine hmonoi H ?_
    intro x3 g1 e2 H
    refine zq_ifeq (pc' := 108) rfl rfl rfl rfl (And.intro (fun c => ?_) (fun c => ?_))
    · have H := H.1 c
      exact zq_vret rfl (Exists.intro _ (Exists.intro _ (And.intro rfl H)))
    · have H := H.2 c
      refine zq_aload (pc' := 109) rfl rfl rfl rfl ?_
      refine zq_dup (pc' := 110) rfl rfl rfl rfl ?_
      refine zq_getI (pc' := 113) rfl rfl rfl (hp_gI rfl) ?_
      refine zq_ipush (pc' := 114) rfl rfl rfl ?_
      refine zq_iadd (pc' := 115) rfl rfl rfl ?_
      refine zq_put (pc' := 118) rfl rfl rfl trivial (hp_sI rfl) ?_
      refine zq_goto_c (pc' := 86) rfl rfl ?_
      exact H
theorem zh_X3_takeNumber {d : Nat} {k : hG → hE → Prop} {X : Nat → hG → hE → Prop}  {g : hG} {e : hE} (H :
    hwv d zm_X3_takeNumber k X 5 [(0, .ref 1026)] (sI g 1026 5 0) e) : hcv (d + 1) 71 [.ref 1026] g e k X := by
  refine hent (M := zm_X3_takeNumber) (show hT 1026 = some (.inr _) from rfl) rfl rfl rfl rfl rfl ?_
  refine zq_aload (pc' := 1) rfl rfl rfl rfl ?_
  refine zq_ipush (pc' := 2) rfl rfl rfl ?_
  refine zq_put_c (pc' := 5) rfl rfl trivial (hp_sI rfl) ?_
  exact H
theorem zh_X3_takeNumber_5 {d : Nat} {k : hG → hE → Prop} {X : Nat → hG → hE → Prop}  {g : hG} {e : hE} (H :
    zbr ((g.1 1026 1) ≤ (g.1 1026 4))
    (zbr (((g.1 1026 4) - (g.1 1026 3)) ≤ 4)
      (k g e)
      (k (sI g 1026 5 10000) e))
    (hci d 68 [.ref 1026, .int (g.1 1026 4)] g e (fun x3 g1 e2 =>
        zbr (x3 = 0)
        (zbr (((g1.1 1026 4) - (g1.1 1026 3)) ≤ 4)
          (k g1 e2)
          (k (sI g1 1026 5 10000) e2))
        (hci d 66 [.ref 1026, .int (g1.1 1026 4)] g1 e2 (fun x6 g4 e5 =>
            hci d 3 [.int 10000, .int ((((g1.1 1026 5) * 10) + x6) - 48)] g4 e5 (fun x9 g7 e8 =>
              hwv d zm_X3_takeNumber k X 5 [(0, .ref 1026)] (sI (sI g7 1026 5 x9) 1026 4 (((sI g7 1026 5 x9).1 1026 4) + 1)) e8) X) X)) X)) : hwv d zm_X3_takeNumber k X 5 [(0, .ref 1026)] g e := by
  refine zq_aload (pc' := 6) rfl rfl rfl rfl ?_
  refine zq_getI (pc' := 9) rfl rfl rfl (hp_gI rfl) ?_
  refine zq_aload (pc' := 10) rfl rfl rfl rfl ?_
  refine zq_getI (pc' := 13) rfl rfl rfl (hp_gI rfl) ?_
  refine zq_icge (pc' := 16) rfl rfl rfl rfl (And.intro (fun c => ?_) (fun c => ?_))
  · have H := H.1 c
    refine zq_aload (pc' := 70) rfl rfl rfl rfl ?_
    refine zq_getI (pc' := 73) rfl rfl rfl (hp_gI rfl) ?_
    refine zq_aload (pc' := 74) rfl rfl rfl rfl ?_
    refine zq_getI (pc' := 77) rfl rfl rfl (hp_gI rfl) ?_
    refine zq_isub (pc' := 78) rfl rfl rfl ?_
    refine zq_ipush (pc' := 79) rfl rfl rfl ?_
    refine zq_icle (pc' := 82) rfl rfl rfl rfl (And.intro (fun c => ?_) (fun c => ?_))
    · have H := H.1 c
      exact zq_vret rfl (Exists.intro _ (Exists.intro _ (And.intro rfl H)))
    · have H := H.2 c
      refine zq_aload (pc' := 83) rfl rfl rfl rfl ?_
      refine zq_ipush (pc' := 86) rfl rfl rfl ?_
      refine zq_put (pc' := 89) rfl rfl rfl trivial (hp_sI rfl) ?_
      exact zq_vret rfl (Exists.intro _ (Exists.intro _ (And.intro rfl H)))
  · have H := H.2 c
    refine zq_aload (pc' := 17) rfl rfl rfl rfl ?_
    refine zq_aload (pc' := 18) rfl rfl rfl rfl ?_
    refine zq_getI (pc' := 21) rfl rfl rfl (hp_gI rfl) ?_
    refine hq_calli (pc' := 24) rfl rfl rfl rfl rfl rfl h_Xv ?_
    refine hmonoi H ?_
    intro x3 g1 e2 H
    refine zq_ifeq (pc' := 27) rfl rfl rfl rfl (And.intro (fun c => ?_) (fun c => ?_))
    · have H := H.1 c
      refine zq_aload (pc' := 70) rfl rfl rfl rfl ?_
      refine zq_getI (pc' := 73) rfl rfl rfl (hp_gI rfl) ?_
      refine zq_aload (pc' := 74) rfl rfl rfl rfl ?_
      refine zq_getI (pc' := 77) rfl rfl rfl (hp_gI rfl) ?_
      refine zq_isub (pc' := 78) rfl rfl rfl ?_
      refine zq_ipush (pc' := 79) rfl rfl rfl ?_
      refine zq_icle (pc' := 82) rfl rfl rfl rfl (And.intro (fun c => ?_) (fun c => ?_))
      · have H := H.1 c
        exact zq_vret rfl (Exists.intro _ (Exists.intro _ (And.intro rfl H)))
      · have H := H.2 c
        refine zq_aload (pc' := 83) rfl rfl rfl rfl ?_
        refine zq_ipush (pc' := 86) rfl rfl rfl ?_
        refine zq_put (pc' := 89) rfl rfl rfl trivial (hp_sI rfl) ?_
        exact zq_vret rfl (Exists.intro _ (Exists.intro _ (And.intro rfl H)))
    · have H := H.2 c
      refine zq_aload (pc' := 28) rfl rfl rfl rfl ?_
      refine zq_ipush (pc' := 31) rfl rfl rfl ?_
      refine zq_aload (pc' := 32) rfl rfl rfl rfl ?_
      refine zq_getI (pc' := 35) rfl rfl rfl (hp_gI rfl) ?_
      refine zq_ipush (pc' := 37) rfl rfl rfl ?_
      refine zq_imul (pc' := 38) rfl rfl rfl ?_
      refine zq_aload (pc' := 39) rfl rfl rfl rfl ?_
      refine zq_aload (pc' := 40) rfl rfl rfl rfl ?_
      refine zq_getI (pc' := 43) rfl rfl rfl (hp_gI rfl) ?_
      refine hq_calli (pc' := 46) rfl rfl rfl rfl rfl rfl h_Xv ?_
      refine hmonoi H ?_
      intro x6 g4 e5 H
      refine zq_iadd (pc' := 47) rfl rfl rfl ?_
      refine zq_ipush (pc' := 49) rfl rfl rfl ?_
      refine zq_isub (pc' := 50) rfl rfl rfl ?_
      refine hq_calli (pc' := 53) rfl rfl rfl rfl rfl rfl h_Xv ?_
      refine hmonoi H ?_
      intro x9 g7 e8 H
      refine zq_put (pc' := 56) rfl rfl rfl trivial (hp_sI rfl) ?_
      refine zq_aload (pc' := 57) rfl rfl rfl rfl ?_
      refine zq_dup (pc' := 58) rfl rfl rfl rfl ?_
      refine zq_getI (pc' := 61) rfl rfl rfl (hp_gI rfl) ?_
      refine zq_ipush (pc' := 62) rfl rfl rfl ?_
      refine zq_iadd (pc' := 63) rfl rfl rfl ?_
      refine zq_put (pc' := 66) rfl rfl rfl trivial (hp_sI rfl) ?_
      refine zq_goto_c (pc' := 5) rfl rfl ?_
      exact H
theorem zh_X3_isWord {d : Nat} {k : Int32 → hG → hE → Prop} {X : Nat → hG → hE → Prop} {p1 : Nat} (hp1 : p1 < 58 ∧ p1 % 2 = 0) {g : hG} {e : hE} (H :
    zbr ((g.1 1026 2) = 1)
    (hci d 4 [.ref p1] g e (fun x3 g1 e2 =>
        zbr (((g.1 1026 4) - (g.1 1026 3)) = x3)
        (hwi d zm_X3_isWord k X 28 [(0, .ref 1026), (1, .ref p1), (2, .int 0)] g1 e2)
        (k 0 g1 e2)) X)
    (k 0 g e)) : hci (d + 1) 72 [.ref 1026, .ref p1] g e k X := by
  refine hent (M := zm_X3_isWord) (show hT 1026 = some (.inr _) from rfl) rfl rfl rfl rfl rfl ?_
  refine zq_aload (pc' := 1) rfl rfl rfl rfl ?_
  refine zq_getI (pc' := 4) rfl rfl rfl (hp_gI rfl) ?_
  refine zq_ipush (pc' := 5) rfl rfl rfl ?_
  refine zq_icne (pc' := 8) rfl rfl rfl rfl (And.intro (fun c => ?_) (fun c => ?_))
  · have H := H.1 c
    refine zq_aload (pc' := 9) rfl rfl rfl rfl ?_
    refine zq_getI (pc' := 12) rfl rfl rfl (hp_gI rfl) ?_
    refine zq_aload (pc' := 13) rfl rfl rfl rfl ?_
    refine zq_getI (pc' := 16) rfl rfl rfl (hp_gI rfl) ?_
    refine zq_isub (pc' := 17) rfl rfl rfl ?_
    refine zq_aload (pc' := 18) rfl rfl rfl rfl ?_
    refine hq_calli (pc' := 21) rfl rfl rfl rfl rfl rfl h_Xi ?_
    refine hmonoi H ?_
    intro x3 g1 e2 H
    refine zq_iceq (pc' := 24) rfl rfl rfl rfl (And.intro (fun c => ?_) (fun c => ?_))
    · have H := H.1 c
      refine zq_ipush (pc' := 27) rfl rfl rfl ?_
      refine zq_istore_c (pc' := 28) rfl rfl ?_
      exact H
    · have H := H.2 c
      refine zq_ipush (pc' := 25) rfl rfl rfl ?_
      exact zq_iret rfl (Or.inl rfl) (Exists.intro _ (Exists.intro _ (And.intro rfl H)))
  · have H := H.2 c
    refine zq_ipush (pc' := 25) rfl rfl rfl ?_
    exact zq_iret rfl (Or.inl rfl) (Exists.intro _ (Exists.intro _ (And.intro rfl H)))
theorem zh_X3_isWord_28 {d : Nat} {k : Int32 → hG → hE → Prop} {X : Nat → hG → hE → Prop} {l1 : Nat} (hl1 : l1 < 58 ∧ l1 % 2 = 0) {l2 : Int32} {g : hG} {e : hE} (H :
    hci d 4 [.ref l1] g e (fun x3 g1 e2 =>
      zbr (x3 ≤ l2)
      (k 1 g1 e2)
      (hci d 66 [.ref 1026, .int ((g1.1 1026 3) + l2)] g1 e2 (fun x6 g4 e5 =>
          hci d 5 [.ref l1, .int l2] g4 e5 (fun x9 g7 e8 =>
            zbr (x6 = x9)
            (hwi d zm_X3_isWord k X 28 [(0, .ref 1026), (1, .ref l1), (2, .int (l2 + 1))] g7 e8)
            (k 0 g7 e8)) X) X)) X) : hwi d zm_X3_isWord k X 28 [(0, .ref 1026), (1, .ref l1), (2, .int l2)] g e := by
  refine zq_iload (pc' := 29) rfl rfl rfl rfl ?_
  refine zq_aload (pc' := 30) rfl rfl rfl rfl ?_
  refine hq_calli (pc' := 33) rfl rfl rfl rfl rfl rfl h_Xi ?_
  refine hmonoi H ?_
  intro x3 g1 e2 H
  refine zq_icge (pc' := 36) rfl rfl rfl rfl (And.intro (fun c => ?_) (fun c => ?_))
  · have H := H.1 c
    refine zq_ipush (pc' := 63) rfl rfl rfl ?_
    exact zq_iret rfl (Or.inr rfl) (Exists.intro _ (Exists.intro _ (And.intro rfl H)))
  · have H := H.2 c
    refine zq_aload (pc' := 37) rfl rfl rfl rfl ?_
    refine zq_aload (pc' := 38) rfl rfl rfl rfl ?_
    refine zq_getI (pc' := 41) rfl rfl rfl (hp_gI rfl) ?_
    refine zq_iload (pc' := 42) rfl rfl rfl rfl ?_
    refine zq_iadd (pc' := 43) rfl rfl rfl ?_
    refine hq_calli (pc' := 46) rfl rfl rfl rfl rfl rfl h_Xi ?_
    refine hmonoi H ?_
    intro x6 g4 e5 H
    refine zq_aload (pc' := 47) rfl rfl rfl rfl ?_
    refine zq_iload (pc' := 48) rfl rfl rfl rfl ?_
    refine hq_calli (pc' := 51) rfl rfl rfl rfl rfl rfl h_Xi ?_
    refine hmonoi H ?_
    intro x9 g7 e8 H
    refine zq_iceq (pc' := 54) rfl rfl rfl rfl (And.intro (fun c => ?_) (fun c => ?_))
    · have H := H.1 c
      refine zq_iinc (pc' := 59) rfl rfl rfl rfl ?_
      refine zq_goto_c (pc' := 28) rfl rfl ?_
      exact H
    · have H := H.2 c
      refine zq_ipush (pc' := 55) rfl rfl rfl ?_
      exact zq_iret rfl (Or.inl rfl) (Exists.intro _ (Exists.intro _ (And.intro rfl H)))
theorem zh_X3_isSign {d : Nat} {k : Int32 → hG → hE → Prop} {X : Nat → hG → hE → Prop} {p1 : Int32} {g : hG} {e : hE} (H :
    zbr ((g.1 1026 2) = 3)
    (hci d 66 [.ref 1026, .int (g.1 1026 3)] g e (fun x3 g1 e2 =>
        zbr (x3 = p1)
        (k 1 g1 e2)
        (k 0 g1 e2)) X)
    (k 0 g e)) : hci (d + 1) 73 [.ref 1026, .int p1] g e k X := by
  refine hent (M := zm_X3_isSign) (show hT 1026 = some (.inr _) from rfl) rfl rfl rfl rfl rfl ?_
  refine zq_aload (pc' := 1) rfl rfl rfl rfl ?_
  refine zq_getI (pc' := 4) rfl rfl rfl (hp_gI rfl) ?_
  refine zq_ipush (pc' := 5) rfl rfl rfl ?_
  refine zq_icne (pc' := 8) rfl rfl rfl rfl (And.intro (fun c => ?_) (fun c => ?_))
  · have H := H.1 c
    refine zq_aload (pc' := 9) rfl rfl rfl rfl ?_
    refine zq_aload (pc' := 10) rfl rfl rfl rfl ?_
    refine zq_getI (pc' := 13) rfl rfl rfl (hp_gI rfl) ?_
    refine hq_calli (pc' := 16) rfl rfl rfl rfl rfl rfl h_Xi ?_
    refine hmonoi H ?_
    intro x3 g1 e2 H
    refine zq_iload (pc' := 17) rfl rfl rfl rfl ?_
    refine zq_icne (pc' := 20) rfl rfl rfl rfl (And.intro (fun c => ?_) (fun c => ?_))
    · have H := H.1 c
      refine zq_ipush (pc' := 21) rfl rfl rfl ?_
      refine zq_goto (pc' := 25) rfl rfl rfl ?_
      exact zq_iret rfl (Or.inr rfl) (Exists.intro _ (Exists.intro _ (And.intro rfl H)))
    · have H := H.2 c
      refine zq_ipush (pc' := 25) rfl rfl rfl ?_
      exact zq_iret rfl (Or.inl rfl) (Exists.intro _ (Exists.intro _ (And.intro rfl H)))
  · have H := H.2 c
    refine zq_ipush (pc' := 25) rfl rfl rfl ?_
    exact zq_iret rfl (Or.inl rfl) (Exists.intro _ (Exists.intro _ (And.intro rfl H)))
theorem zh_X3_fail {d : Nat} {k : Int32 → hG → hE → Prop} {X : Nat → hG → hE → Prop} {p1 : Int32} {g : hG} {e : hE} (H :
    k 0 (sI g 1026 6 p1) e) : hci (d + 1) 74 [.ref 1026, .int p1] g e k X := by
  refine hent (M := zm_X3_fail) (show hT 1026 = some (.inr _) from rfl) rfl rfl rfl rfl rfl ?_
  refine zq_aload (pc' := 1) rfl rfl rfl rfl ?_
  refine zq_iload (pc' := 2) rfl rfl rfl rfl ?_
  refine zq_put (pc' := 5) rfl rfl rfl trivial (hp_sI rfl) ?_
  refine zq_ipush (pc' := 6) rfl rfl rfl ?_
  exact zq_iret rfl (Or.inl rfl) (Exists.intro _ (Exists.intro _ (And.intro rfl H)))
theorem zh_X3_takeSign {d : Nat} {k : Int32 → hG → hE → Prop} {X : Nat → hG → hE → Prop} {p1 : Int32} {g : hG} {e : hE} (H :
    hci d 73 [.ref 1026, .int p1] g e (fun x3 g1 e2 =>
      zbr (x3 = 0)
      (hci d 74 [.ref 1026, .int 1] g1 e2 (fun x6 g4 e5 =>
          (x6 = 0 ∨ x6 = 1) ∧ k x6 g4 e5) X)
      (hcv d 70 [.ref 1026] g1 e2 (fun g7 e8 =>
          k 1 g7 e8) X)) X) : hci (d + 1) 75 [.ref 1026, .int p1] g e k X := by
  refine hent (M := zm_X3_takeSign) (show hT 1026 = some (.inr _) from rfl) rfl rfl rfl rfl rfl ?_
  refine zq_aload (pc' := 1) rfl rfl rfl rfl ?_
  refine zq_iload (pc' := 2) rfl rfl rfl rfl ?_
  refine hq_calli (pc' := 5) rfl rfl rfl rfl rfl rfl h_Xi ?_
  refine hmonoi H ?_
  intro x3 g1 e2 H
  refine zq_ifne (pc' := 8) rfl rfl rfl rfl (And.intro (fun c => ?_) (fun c => ?_))
  · have H := H.1 c
    refine zq_aload (pc' := 9) rfl rfl rfl rfl ?_
    refine zq_ipush (pc' := 10) rfl rfl rfl ?_
    refine hq_calli (pc' := 13) rfl rfl rfl rfl rfl rfl h_Xi ?_
    refine hmonoi H ?_
    intro x6 g4 e5 H
    exact zq_iret rfl H.1 (Exists.intro _ (Exists.intro _ (And.intro rfl H.2)))
  · have H := H.2 c
    refine zq_aload (pc' := 15) rfl rfl rfl rfl ?_
    refine hq_callv (pc' := 18) rfl rfl rfl rfl rfl rfl h_Xi ?_
    refine hmonov H ?_
    intro g7 e8 H
    refine zq_ipush (pc' := 19) rfl rfl rfl ?_
    exact zq_iret rfl (Or.inr rfl) (Exists.intro _ (Exists.intro _ (And.intro rfl H)))
theorem zh_X3_line {d : Nat} {k : Int32 → hG → hE → Prop} {X : Nat → hG → hE → Prop}  {g : hG} {e : hE} (H :
    hci d 72 [.ref 1026, .ref 2] g e (fun x3 g1 e2 =>
      zbr (x3 = 0)
      (hci d 72 [.ref 1026, .ref 4] g1 e2 (fun x6 g4 e5 =>
          zbr (x6 = 0)
          (hci d 72 [.ref 1026, .ref 6] g4 e5 (fun x9 g7 e8 =>
              zbr (x9 = 0)
              (hci d 72 [.ref 1026, .ref 8] g7 e8 (fun x12 g10 e11 =>
                  zbr (x12 = 0)
                  (hci d 72 [.ref 1026, .ref 10] g10 e11 (fun x15 g13 e14 =>
                      zbr (x15 = 0)
                      (hci d 74 [.ref 1026, .int 1] g13 e14 (fun x18 g16 e17 =>
                          (x18 = 0 ∨ x18 = 1) ∧ k x18 g16 e17) X)
                      (hD (g13.2.2 1026 7) ∧ 
                        hcr d 45 [.ref (g13.2.2 1026 7)] g13 e14 (fun a22 g20 e21 =>
                          hU a22 ∧ hci d 81 [.ref 1026, .ref a22, .int 0] g20 e21 (fun x26 g24 e25 =>
                            (x26 = 0 ∨ x26 = 1) ∧ k x26 g24 e25) X) X)) X)
                  (hD (g10.2.2 1026 7) ∧ 
                    hcr d 44 [.ref (g10.2.2 1026 7)] g10 e11 (fun a30 g28 e29 =>
                      hU a30 ∧ hci d 81 [.ref 1026, .ref a30, .int 1] g28 e29 (fun x34 g32 e33 =>
                        (x34 = 0 ∨ x34 = 1) ∧ k x34 g32 e33) X) X)) X)
              (hci d 80 [.ref 1026] g7 e8 (fun x37 g35 e36 =>
                  (x37 = 0 ∨ x37 = 1) ∧ k x37 g35 e36) X)) X)
          (hci d 77 [.ref 1026, .int 1] g4 e5 (fun x40 g38 e39 =>
              (x40 = 0 ∨ x40 = 1) ∧ k x40 g38 e39) X)) X)
      (hci d 77 [.ref 1026, .int 0] g1 e2 (fun x43 g41 e42 =>
          (x43 = 0 ∨ x43 = 1) ∧ k x43 g41 e42) X)) X) : hci (d + 1) 76 [.ref 1026] g e k X := by
  refine hent (M := zm_X3_line) (show hT 1026 = some (.inr _) from rfl) rfl rfl rfl rfl rfl ?_
  refine zq_aload (pc' := 1) rfl rfl rfl rfl ?_
  refine zq_rpush (pc' := 3) rfl rfl rfl ?_
  refine hq_calli (pc' := 6) rfl rfl rfl rfl rfl rfl h_Xi ?_
  refine hmonoi H ?_
  intro x3 g1 e2 H
  refine zq_ifeq (pc' := 9) rfl rfl rfl rfl (And.intro (fun c => ?_) (fun c => ?_))
  · have H := H.1 c
    refine zq_aload (pc' := 16) rfl rfl rfl rfl ?_
    refine zq_rpush (pc' := 18) rfl rfl rfl ?_
    refine hq_calli (pc' := 21) rfl rfl rfl rfl rfl rfl h_Xi ?_
    refine hmonoi H ?_
    intro x6 g4 e5 H
    refine zq_ifeq (pc' := 24) rfl rfl rfl rfl (And.intro (fun c => ?_) (fun c => ?_))
    · have H := H.1 c
      refine zq_aload (pc' := 31) rfl rfl rfl rfl ?_
      refine zq_rpush (pc' := 33) rfl rfl rfl ?_
      refine hq_calli (pc' := 36) rfl rfl rfl rfl rfl rfl h_Xi ?_
      refine hmonoi H ?_
      intro x9 g7 e8 H
      refine zq_ifeq (pc' := 39) rfl rfl rfl rfl (And.intro (fun c => ?_) (fun c => ?_))
      · have H := H.1 c
        refine zq_aload (pc' := 45) rfl rfl rfl rfl ?_
        refine zq_rpush (pc' := 47) rfl rfl rfl ?_
        refine hq_calli (pc' := 50) rfl rfl rfl rfl rfl rfl h_Xi ?_
        refine hmonoi H ?_
        intro x12 g10 e11 H
        refine zq_ifeq (pc' := 53) rfl rfl rfl rfl (And.intro (fun c => ?_) (fun c => ?_))
        · have H := H.1 c
          refine zq_aload (pc' := 67) rfl rfl rfl rfl ?_
          refine zq_rpush (pc' := 69) rfl rfl rfl ?_
          refine hq_calli (pc' := 72) rfl rfl rfl rfl rfl rfl h_Xi ?_
          refine hmonoi H ?_
          intro x15 g13 e14 H
          refine zq_ifeq (pc' := 75) rfl rfl rfl rfl (And.intro (fun c => ?_) (fun c => ?_))
          · have H := H.1 c
            refine zq_aload (pc' := 89) rfl rfl rfl rfl ?_
            refine zq_ipush (pc' := 90) rfl rfl rfl ?_
            refine hq_calli (pc' := 93) rfl rfl rfl rfl rfl rfl h_Xi ?_
            refine hmonoi H ?_
            intro x18 g16 e17 H
            exact zq_iret rfl H.1 (Exists.intro _ (Exists.intro _ (And.intro rfl H.2)))
          · have H := H.2 c
            refine zq_aload (pc' := 76) rfl rfl rfl rfl ?_
            refine zq_aload (pc' := 77) rfl rfl rfl rfl ?_
            obtain ⟨hr19, H⟩ := H
            refine zq_getR (pc' := 80) rfl rfl rfl (hp_gR rfl) ?_
            refine hq_callr (pc' := 83) rfl rfl rfl rfl rfl rfl h_Xi ?_
            refine hmonor H ?_
            intro a22 g20 e21 H
            obtain ⟨hx23, H⟩ := H
            refine zq_ipush (pc' := 84) rfl rfl rfl ?_
            refine hq_calli (pc' := 87) rfl rfl rfl rfl rfl rfl h_Xi ?_
            refine hmonoi H ?_
            intro x26 g24 e25 H
            exact zq_iret rfl H.1 (Exists.intro _ (Exists.intro _ (And.intro rfl H.2)))
        · have H := H.2 c
          refine zq_aload (pc' := 54) rfl rfl rfl rfl ?_
          refine zq_aload (pc' := 55) rfl rfl rfl rfl ?_
          obtain ⟨hr27, H⟩ := H
          refine zq_getR (pc' := 58) rfl rfl rfl (hp_gR rfl) ?_
          refine hq_callr (pc' := 61) rfl rfl rfl rfl rfl rfl h_Xi ?_
          refine hmonor H ?_
          intro a30 g28 e29 H
          obtain ⟨hx31, H⟩ := H
          refine zq_ipush (pc' := 62) rfl rfl rfl ?_
          refine hq_calli (pc' := 65) rfl rfl rfl rfl rfl rfl h_Xi ?_
          refine hmonoi H ?_
          intro x34 g32 e33 H
          exact zq_iret rfl H.1 (Exists.intro _ (Exists.intro _ (And.intro rfl H.2)))
      · have H := H.2 c
        refine zq_aload (pc' := 40) rfl rfl rfl rfl ?_
        refine hq_calli (pc' := 43) rfl rfl rfl rfl rfl rfl h_Xi ?_
        refine hmonoi H ?_
        intro x37 g35 e36 H
        exact zq_iret rfl H.1 (Exists.intro _ (Exists.intro _ (And.intro rfl H.2)))
    · have H := H.2 c
      refine zq_aload (pc' := 25) rfl rfl rfl rfl ?_
      refine zq_ipush (pc' := 26) rfl rfl rfl ?_
      refine hq_calli (pc' := 29) rfl rfl rfl rfl rfl rfl h_Xi ?_
      refine hmonoi H ?_
      intro x40 g38 e39 H
      exact zq_iret rfl H.1 (Exists.intro _ (Exists.intro _ (And.intro rfl H.2)))
  · have H := H.2 c
    refine zq_aload (pc' := 10) rfl rfl rfl rfl ?_
    refine zq_ipush (pc' := 11) rfl rfl rfl ?_
    refine hq_calli (pc' := 14) rfl rfl rfl rfl rfl rfl h_Xi ?_
    refine hmonoi H ?_
    intro x43 g41 e42 H
    exact zq_iret rfl H.1 (Exists.intro _ (Exists.intro _ (And.intro rfl H.2)))
theorem zh_X3_zipLine {d : Nat} {k : Int32 → hG → hE → Prop} {X : Nat → hG → hE → Prop} {p1 : Int32} {g : hG} {e : hE} (H :
    hD (g.2.2 1026 7) ∧ 
    hci d 38 [.ref (g.2.2 1026 7)] g e (fun x4 g2 e3 =>
      zbr (x4 = 0)
      (hD (g2.2.2 1026 7) ∧ 
        hcr d 39 [.ref (g2.2.2 1026 7)] g2 e3 (fun a8 g6 e7 =>
          hT a8 = some hZ ∧ hcv d 107 [.ref a8, .int p1] g6 e7 (fun g10 e11 =>
            hcv d 70 [.ref 1026] g10 e11 (fun g12 e13 =>
              hci d 78 [.ref 1026, .ref a8] g12 e13 (fun x16 g14 e15 =>
                zbr (x16 = 0)
                (k 0 g14 e15)
                (hci d 79 [.ref 1026, .ref a8] g14 e15 (fun x19 g17 e18 =>
                    zbr (x19 = 0)
                    (k 0 g17 e18)
                    (hci d 75 [.ref 1026, .int 59] g17 e18 (fun x22 g20 e21 =>
                        zbr (x22 = 0)
                        (k 0 g20 e21)
                        (hD (g20.2.2 1026 7) ∧ 
                          hcv d 40 [.ref (g20.2.2 1026 7)] g20 e21 (fun g24 e25 =>
                            k 1 g24 e25) X)) X)) X)) X) X) X) X)
      (hci d 74 [.ref 1026, .int 2] g2 e3 (fun x28 g26 e27 =>
          (x28 = 0 ∨ x28 = 1) ∧ k x28 g26 e27) X)) X) : hci (d + 1) 77 [.ref 1026, .int p1] g e k X := by
  refine hent (M := zm_X3_zipLine) (show hT 1026 = some (.inr _) from rfl) rfl rfl rfl rfl rfl ?_
  refine zq_aload (pc' := 1) rfl rfl rfl rfl ?_
  obtain ⟨hr1, H⟩ := H
  refine zq_getR (pc' := 4) rfl rfl rfl (hp_gR rfl) ?_
  refine hq_calli (pc' := 7) rfl rfl rfl rfl rfl rfl h_Xi ?_
  refine hmonoi H ?_
  intro x4 g2 e3 H
  refine zq_ifeq (pc' := 10) rfl rfl rfl rfl (And.intro (fun c => ?_) (fun c => ?_))
  · have H := H.1 c
    refine zq_aload (pc' := 17) rfl rfl rfl rfl ?_
    obtain ⟨hr5, H⟩ := H
    refine zq_getR (pc' := 20) rfl rfl rfl (hp_gR rfl) ?_
    refine hq_callr (pc' := 23) rfl rfl rfl rfl rfl rfl h_Xi ?_
    refine hmonor H ?_
    intro a8 g6 e7 H
    obtain ⟨hx9, H⟩ := H
    refine zq_astore (pc' := 24) rfl rfl rfl ?_
    refine zq_aload (pc' := 25) rfl rfl rfl rfl ?_
    refine zq_iload (pc' := 26) rfl rfl rfl rfl ?_
    refine hq_callv (pc' := 29) rfl rfl rfl rfl rfl rfl h_Xi ?_
    refine hmonov H ?_
    intro g10 e11 H
    refine zq_aload (pc' := 30) rfl rfl rfl rfl ?_
    refine hq_callv (pc' := 33) rfl rfl rfl rfl rfl rfl h_Xi ?_
    refine hmonov H ?_
    intro g12 e13 H
    refine zq_aload (pc' := 34) rfl rfl rfl rfl ?_
    refine zq_aload (pc' := 35) rfl rfl rfl rfl ?_
    refine hq_calli (pc' := 38) rfl rfl rfl rfl rfl rfl h_Xi ?_
    refine hmonoi H ?_
    intro x16 g14 e15 H
    refine zq_ifeq (pc' := 41) rfl rfl rfl rfl (And.intro (fun c => ?_) (fun c => ?_))
    · have H := H.1 c
      refine zq_ipush (pc' := 59) rfl rfl rfl ?_
      exact zq_iret rfl (Or.inl rfl) (Exists.intro _ (Exists.intro _ (And.intro rfl H)))
    · have H := H.2 c
      refine zq_aload (pc' := 42) rfl rfl rfl rfl ?_
      refine zq_aload (pc' := 43) rfl rfl rfl rfl ?_
      refine hq_calli (pc' := 46) rfl rfl rfl rfl rfl rfl h_Xi ?_
      refine hmonoi H ?_
      intro x19 g17 e18 H
      refine zq_ifeq (pc' := 49) rfl rfl rfl rfl (And.intro (fun c => ?_) (fun c => ?_))
      · have H := H.1 c
        refine zq_ipush (pc' := 59) rfl rfl rfl ?_
        exact zq_iret rfl (Or.inl rfl) (Exists.intro _ (Exists.intro _ (And.intro rfl H)))
      · have H := H.2 c
        refine zq_aload (pc' := 50) rfl rfl rfl rfl ?_
        refine zq_ipush (pc' := 52) rfl rfl rfl ?_
        refine hq_calli (pc' := 55) rfl rfl rfl rfl rfl rfl h_Xi ?_
        refine hmonoi H ?_
        intro x22 g20 e21 H
        refine zq_ifne (pc' := 58) rfl rfl rfl rfl (And.intro (fun c => ?_) (fun c => ?_))
        · have H := H.1 c
          refine zq_ipush (pc' := 59) rfl rfl rfl ?_
          exact zq_iret rfl (Or.inl rfl) (Exists.intro _ (Exists.intro _ (And.intro rfl H)))
        · have H := H.2 c
          refine zq_aload (pc' := 61) rfl rfl rfl rfl ?_
          obtain ⟨hr23, H⟩ := H
          refine zq_getR (pc' := 64) rfl rfl rfl (hp_gR rfl) ?_
          refine hq_callv (pc' := 67) rfl rfl rfl rfl rfl rfl h_Xi ?_
          refine hmonov H ?_
          intro g24 e25 H
          refine zq_ipush (pc' := 68) rfl rfl rfl ?_
          exact zq_iret rfl (Or.inr rfl) (Exists.intro _ (Exists.intro _ (And.intro rfl H)))
  · have H := H.2 c
    refine zq_aload (pc' := 11) rfl rfl rfl rfl ?_
    refine zq_ipush (pc' := 12) rfl rfl rfl ?_
    refine hq_calli (pc' := 15) rfl rfl rfl rfl rfl rfl h_Xi ?_
    refine hmonoi H ?_
    intro x28 g26 e27 H
    exact zq_iret rfl H.1 (Exists.intro _ (Exists.intro _ (And.intro rfl H.2)))
theorem zh_X3_leftTape {d : Nat} {k : Int32 → hG → hE → Prop} {X : Nat → hG → hE → Prop} {p1 : Nat} (hp1 : hT p1 = some hZ) {g : hG} {e : hE} (H :
    hwi d zm_X3_leftTape k X 2 [(0, .ref 1026), (1, .ref p1), (2, .int 0)] g e) : hci (d + 1) 78 [.ref 1026, .ref p1] g e k X := by
  refine hent (M := zm_X3_leftTape) (show hT 1026 = some (.inr _) from rfl) rfl rfl rfl rfl rfl ?_
  refine zq_ipush (pc' := 1) rfl rfl rfl ?_
  refine zq_istore_c (pc' := 2) rfl rfl ?_
  exact H
theorem zh_X3_leftTape_2 {d : Nat} {k : Int32 → hG → hE → Prop} {X : Nat → hG → hE → Prop} {l1 : Nat} (hl1 : hT l1 = some hZ) {l2 : Int32} {g : hG} {e : hE} (H :
    zbr (16 < l2)
    (hci d 74 [.ref 1026, .int 1] g e (fun x3 g1 e2 =>
        (x3 = 0 ∨ x3 = 1) ∧ k x3 g1 e2) X)
    (zbr (l2 ≤ 0)
      (hwi d zm_X3_leftTape k X 32 [(0, .ref 1026), (1, .ref l1), (2, .int l2)] g e)
      (hci d 72 [.ref 1026, .ref 12] g e (fun x6 g4 e5 =>
          zbr (x6 = 0)
          (hwi d zm_X3_leftTape k X 32 [(0, .ref 1026), (1, .ref l1), (2, .int l2)] g4 e5)
          (hcv d 108 [.ref l1, .int l2] g4 e5 (fun g7 e8 =>
              hcv d 70 [.ref 1026] g7 e8 (fun g9 e10 =>
                k 1 g9 e10) X) X)) X))) : hwi d zm_X3_leftTape k X 2 [(0, .ref 1026), (1, .ref l1), (2, .int l2)] g e := by
  refine zq_iload (pc' := 3) rfl rfl rfl rfl ?_
  refine zq_ipush (pc' := 5) rfl rfl rfl ?_
  refine zq_icgt (pc' := 8) rfl rfl rfl rfl (And.intro (fun c => ?_) (fun c => ?_))
  · have H := H.1 c
    refine zq_aload (pc' := 88) rfl rfl rfl rfl ?_
    refine zq_ipush (pc' := 89) rfl rfl rfl ?_
    refine hq_calli (pc' := 92) rfl rfl rfl rfl rfl rfl h_Xi ?_
    refine hmonoi H ?_
    intro x3 g1 e2 H
    exact zq_iret rfl H.1 (Exists.intro _ (Exists.intro _ (And.intro rfl H.2)))
  · have H := H.2 c
    refine zq_iload (pc' := 9) rfl rfl rfl rfl ?_
    refine zq_ifle_c (pc' := 12) (lt := [(0, .ref 1026), (1, .ref l1), (2, .int l2)]) (lf := [(0, .ref 1026), (1, .ref l1), (2, .int l2)]) rfl rfl rfl rfl (And.intro (fun c => ?_) (fun c => ?_))
    · have H := H.1 c
      exact H
    · have H := H.2 c
      refine zq_aload (pc' := 13) rfl rfl rfl rfl ?_
      refine zq_rpush (pc' := 15) rfl rfl rfl ?_
      refine hq_calli (pc' := 18) rfl rfl rfl rfl rfl rfl h_Xi ?_
      refine hmonoi H ?_
      intro x6 g4 e5 H
      refine zq_ifeq_c (pc' := 21) (lt := [(0, .ref 1026), (1, .ref l1), (2, .int l2)]) (lf := [(0, .ref 1026), (1, .ref l1), (2, .int l2)]) rfl rfl rfl rfl (And.intro (fun c => ?_) (fun c => ?_))
      · have H := H.1 c
        exact H
      · have H := H.2 c
        refine zq_aload (pc' := 22) rfl rfl rfl rfl ?_
        refine zq_iload (pc' := 23) rfl rfl rfl rfl ?_
        refine hq_callv (pc' := 26) rfl rfl rfl rfl rfl rfl h_Xi ?_
        refine hmonov H ?_
        intro g7 e8 H
        refine zq_aload (pc' := 27) rfl rfl rfl rfl ?_
        refine hq_callv (pc' := 30) rfl rfl rfl rfl rfl rfl h_Xi ?_
        refine hmonov H ?_
        intro g9 e10 H
        refine zq_ipush (pc' := 31) rfl rfl rfl ?_
        exact zq_iret rfl (Or.inr rfl) (Exists.intro _ (Exists.intro _ (And.intro rfl H)))
theorem zh_X3_leftTape_32 {d : Nat} {k : Int32 → hG → hE → Prop} {X : Nat → hG → hE → Prop} {l1 : Nat} (hl1 : hT l1 = some hZ) {l2 : Int32} {g : hG} {e : hE} (H :
    zbr ((g.1 1026 2) = 2)
    (zbr (l2 = 16)
      (hci d 74 [.ref 1026, .int 2] g e (fun x3 g1 e2 =>
          (x3 = 0 ∨ x3 = 1) ∧ k x3 g1 e2) X)
      (zbr ((g.1 1026 5) ≤ 9)
        (hcv d 119 [.ref l1, .int 0, .int l2, .int (g.1 1026 5)] g e (fun g4 e5 =>
            hcv d 70 [.ref 1026] g4 e5 (fun g6 e7 =>
              hwi d zm_X3_leftTape k X 2 [(0, .ref 1026), (1, .ref l1), (2, .int (l2 + 1))] g6 e7) X) X)
        (hci d 74 [.ref 1026, .int 2] g e (fun x10 g8 e9 =>
            (x10 = 0 ∨ x10 = 1) ∧ k x10 g8 e9) X)))
    (hci d 74 [.ref 1026, .int 1] g e (fun x13 g11 e12 =>
        (x13 = 0 ∨ x13 = 1) ∧ k x13 g11 e12) X)) : hwi d zm_X3_leftTape k X 32 [(0, .ref 1026), (1, .ref l1), (2, .int l2)] g e := by
  refine zq_aload (pc' := 33) rfl rfl rfl rfl ?_
  refine zq_getI (pc' := 36) rfl rfl rfl (hp_gI rfl) ?_
  refine zq_ipush (pc' := 37) rfl rfl rfl ?_
  refine zq_iceq (pc' := 40) rfl rfl rfl rfl (And.intro (fun c => ?_) (fun c => ?_))
  · have H := H.1 c
    refine zq_iload (pc' := 47) rfl rfl rfl rfl ?_
    refine zq_ipush (pc' := 49) rfl rfl rfl ?_
    refine zq_iceq (pc' := 52) rfl rfl rfl rfl (And.intro (fun c => ?_) (fun c => ?_))
    · have H := H.1 c
      refine zq_aload (pc' := 62) rfl rfl rfl rfl ?_
      refine zq_ipush (pc' := 63) rfl rfl rfl ?_
      refine hq_calli (pc' := 66) rfl rfl rfl rfl rfl rfl h_Xi ?_
      refine hmonoi H ?_
      intro x3 g1 e2 H
      exact zq_iret rfl H.1 (Exists.intro _ (Exists.intro _ (And.intro rfl H.2)))
    · have H := H.2 c
      refine zq_aload (pc' := 53) rfl rfl rfl rfl ?_
      refine zq_getI (pc' := 56) rfl rfl rfl (hp_gI rfl) ?_
      refine zq_ipush (pc' := 58) rfl rfl rfl ?_
      refine zq_icle (pc' := 61) rfl rfl rfl rfl (And.intro (fun c => ?_) (fun c => ?_))
      · have H := H.1 c
        refine zq_aload (pc' := 68) rfl rfl rfl rfl ?_
        refine zq_ipush (pc' := 69) rfl rfl rfl ?_
        refine zq_iload (pc' := 70) rfl rfl rfl rfl ?_
        refine zq_aload (pc' := 71) rfl rfl rfl rfl ?_
        refine zq_getI (pc' := 74) rfl rfl rfl (hp_gI rfl) ?_
        refine hq_callv (pc' := 77) rfl rfl rfl rfl rfl rfl h_Xi ?_
        refine hmonov H ?_
        intro g4 e5 H
        refine zq_aload (pc' := 78) rfl rfl rfl rfl ?_
        refine hq_callv (pc' := 81) rfl rfl rfl rfl rfl rfl h_Xi ?_
        refine hmonov H ?_
        intro g6 e7 H
        refine zq_iinc (pc' := 84) rfl rfl rfl rfl ?_
        refine zq_goto_c (pc' := 2) rfl rfl ?_
        exact H
      · have H := H.2 c
        refine zq_aload (pc' := 62) rfl rfl rfl rfl ?_
        refine zq_ipush (pc' := 63) rfl rfl rfl ?_
        refine hq_calli (pc' := 66) rfl rfl rfl rfl rfl rfl h_Xi ?_
        refine hmonoi H ?_
        intro x10 g8 e9 H
        exact zq_iret rfl H.1 (Exists.intro _ (Exists.intro _ (And.intro rfl H.2)))
  · have H := H.2 c
    refine zq_aload (pc' := 41) rfl rfl rfl rfl ?_
    refine zq_ipush (pc' := 42) rfl rfl rfl ?_
    refine hq_calli (pc' := 45) rfl rfl rfl rfl rfl rfl h_Xi ?_
    refine hmonoi H ?_
    intro x13 g11 e12 H
    exact zq_iret rfl H.1 (Exists.intro _ (Exists.intro _ (And.intro rfl H.2)))
theorem zh_X3_rightTape {d : Nat} {k : Int32 → hG → hE → Prop} {X : Nat → hG → hE → Prop} {p1 : Nat} (hp1 : hT p1 = some hZ) {g : hG} {e : hE} (H :
    hwi d zm_X3_rightTape k X 2 [(0, .ref 1026), (1, .ref p1), (2, .int 0)] g e) : hci (d + 1) 79 [.ref 1026, .ref p1] g e k X := by
  refine hent (M := zm_X3_rightTape) (show hT 1026 = some (.inr _) from rfl) rfl rfl rfl rfl rfl ?_
  refine zq_ipush (pc' := 1) rfl rfl rfl ?_
  refine zq_istore_c (pc' := 2) rfl rfl ?_
  exact H
theorem zh_X3_rightTape_2 {d : Nat} {k : Int32 → hG → hE → Prop} {X : Nat → hG → hE → Prop} {l1 : Nat} (hl1 : hT l1 = some hZ) {l2 : Int32} {g : hG} {e : hE} (H :
    hci d 112 [.ref l1] g e (fun x3 g1 e2 =>
      zbr (x3 ≤ l2)
      (k 1 g1 e2)
      (zbr ((g1.1 1026 2) = 2)
        (zbr ((g1.1 1026 5) ≤ 9)
          (hcv d 119 [.ref l1, .int 1, .int l2, .int (g1.1 1026 5)] g1 e2 (fun g4 e5 =>
              hcv d 70 [.ref 1026] g4 e5 (fun g6 e7 =>
                hwi d zm_X3_rightTape k X 2 [(0, .ref 1026), (1, .ref l1), (2, .int (l2 + 1))] g6 e7) X) X)
          (hci d 74 [.ref 1026, .int 2] g1 e2 (fun x10 g8 e9 =>
              (x10 = 0 ∨ x10 = 1) ∧ k x10 g8 e9) X))
        (hci d 74 [.ref 1026, .int 1] g1 e2 (fun x13 g11 e12 =>
            (x13 = 0 ∨ x13 = 1) ∧ k x13 g11 e12) X))) X) : hwi d zm_X3_rightTape k X 2 [(0, .ref 1026), (1, .ref l1), (2, .int l2)] g e := by
  refine zq_iload (pc' := 3) rfl rfl rfl rfl ?_
  refine zq_aload (pc' := 4) rfl rfl rfl rfl ?_
  refine hq_calli (pc' := 7) rfl rfl rfl rfl rfl rfl h_Xi ?_
  refine hmonoi H ?_
  intro x3 g1 e2 H
  refine zq_icge (pc' := 10) rfl rfl rfl rfl (And.intro (fun c => ?_) (fun c => ?_))
  · have H := H.1 c
    refine zq_ipush (pc' := 60) rfl rfl rfl ?_
    exact zq_iret rfl (Or.inr rfl) (Exists.intro _ (Exists.intro _ (And.intro rfl H)))
  · have H := H.2 c
    refine zq_aload (pc' := 11) rfl rfl rfl rfl ?_
    refine zq_getI (pc' := 14) rfl rfl rfl (hp_gI rfl) ?_
    refine zq_ipush (pc' := 15) rfl rfl rfl ?_
    refine zq_iceq (pc' := 18) rfl rfl rfl rfl (And.intro (fun c => ?_) (fun c => ?_))
    · have H := H.1 c
      refine zq_aload (pc' := 25) rfl rfl rfl rfl ?_
      refine zq_getI (pc' := 28) rfl rfl rfl (hp_gI rfl) ?_
      refine zq_ipush (pc' := 30) rfl rfl rfl ?_
      refine zq_icle (pc' := 33) rfl rfl rfl rfl (And.intro (fun c => ?_) (fun c => ?_))
      · have H := H.1 c
        refine zq_aload (pc' := 40) rfl rfl rfl rfl ?_
        refine zq_ipush (pc' := 41) rfl rfl rfl ?_
        refine zq_iload (pc' := 42) rfl rfl rfl rfl ?_
        refine zq_aload (pc' := 43) rfl rfl rfl rfl ?_
        refine zq_getI (pc' := 46) rfl rfl rfl (hp_gI rfl) ?_
        refine hq_callv (pc' := 49) rfl rfl rfl rfl rfl rfl h_Xi ?_
        refine hmonov H ?_
        intro g4 e5 H
        refine zq_aload (pc' := 50) rfl rfl rfl rfl ?_
        refine hq_callv (pc' := 53) rfl rfl rfl rfl rfl rfl h_Xi ?_
        refine hmonov H ?_
        intro g6 e7 H
        refine zq_iinc (pc' := 56) rfl rfl rfl rfl ?_
        refine zq_goto_c (pc' := 2) rfl rfl ?_
        exact H
      · have H := H.2 c
        refine zq_aload (pc' := 34) rfl rfl rfl rfl ?_
        refine zq_ipush (pc' := 35) rfl rfl rfl ?_
        refine hq_calli (pc' := 38) rfl rfl rfl rfl rfl rfl h_Xi ?_
        refine hmonoi H ?_
        intro x10 g8 e9 H
        exact zq_iret rfl H.1 (Exists.intro _ (Exists.intro _ (And.intro rfl H.2)))
    · have H := H.2 c
      refine zq_aload (pc' := 19) rfl rfl rfl rfl ?_
      refine zq_ipush (pc' := 20) rfl rfl rfl ?_
      refine hq_calli (pc' := 23) rfl rfl rfl rfl rfl rfl h_Xi ?_
      refine hmonoi H ?_
      intro x13 g11 e12 H
      exact zq_iret rfl H.1 (Exists.intro _ (Exists.intro _ (And.intro rfl H.2)))
theorem zh_X3_strainLine {d : Nat} {k : Int32 → hG → hE → Prop} {X : Nat → hG → hE → Prop}  {g : hG} {e : hE} (H :
    hD (g.2.2 1026 7) ∧ 
    hci d 51 [.ref (g.2.2 1026 7)] g e (fun x4 g2 e3 =>
      zbr (x4 ≤ 0)
      (hcv d 70 [.ref 1026] g2 e3 (fun g5 e6 =>
          hwi d zm_X3_strainLine k X 22 [(0, .ref 1026), (1, .int 0)] g5 e6) X)
      (hci d 74 [.ref 1026, .int 5] g2 e3 (fun x9 g7 e8 =>
          (x9 = 0 ∨ x9 = 1) ∧ k x9 g7 e8) X)) X) : hci (d + 1) 80 [.ref 1026] g e k X := by
  refine hent (M := zm_X3_strainLine) (show hT 1026 = some (.inr _) from rfl) rfl rfl rfl rfl rfl ?_
  refine zq_aload (pc' := 1) rfl rfl rfl rfl ?_
  obtain ⟨hr1, H⟩ := H
  refine zq_getR (pc' := 4) rfl rfl rfl (hp_gR rfl) ?_
  refine hq_calli (pc' := 7) rfl rfl rfl rfl rfl rfl h_Xi ?_
  refine hmonoi H ?_
  intro x4 g2 e3 H
  refine zq_ifle (pc' := 10) rfl rfl rfl rfl (And.intro (fun c => ?_) (fun c => ?_))
  · have H := H.1 c
    refine zq_aload (pc' := 17) rfl rfl rfl rfl ?_
    refine hq_callv (pc' := 20) rfl rfl rfl rfl rfl rfl h_Xi ?_
    refine hmonov H ?_
    intro g5 e6 H
    refine zq_ipush (pc' := 21) rfl rfl rfl ?_
    refine zq_istore_c (pc' := 22) rfl rfl ?_
    exact H
  · have H := H.2 c
    refine zq_aload (pc' := 11) rfl rfl rfl rfl ?_
    refine zq_ipush (pc' := 12) rfl rfl rfl ?_
    refine hq_calli (pc' := 15) rfl rfl rfl rfl rfl rfl h_Xi ?_
    refine hmonoi H ?_
    intro x9 g7 e8 H
    exact zq_iret rfl H.1 (Exists.intro _ (Exists.intro _ (And.intro rfl H.2)))
theorem zh_X3_strainLine_22 {d : Nat} {k : Int32 → hG → hE → Prop} {X : Nat → hG → hE → Prop} {l1 : Int32} {g : hG} {e : hE} (H :
    zbr (8 < l1)
    (hci d 74 [.ref 1026, .int 1] g e (fun x3 g1 e2 =>
        (x3 = 0 ∨ x3 = 1) ∧ k x3 g1 e2) X)
    (zbr (l1 ≤ 0)
      (hwi d zm_X3_strainLine k X 47 [(0, .ref 1026), (1, .int l1)] g e)
      (hci d 73 [.ref 1026, .int 59] g e (fun x6 g4 e5 =>
          zbr (x6 = 0)
          (hwi d zm_X3_strainLine k X 47 [(0, .ref 1026), (1, .int l1)] g4 e5)
          (hcv d 70 [.ref 1026] g4 e5 (fun g7 e8 =>
              k 1 g7 e8) X)) X))) : hwi d zm_X3_strainLine k X 22 [(0, .ref 1026), (1, .int l1)] g e := by
  refine zq_iload (pc' := 23) rfl rfl rfl rfl ?_
  refine zq_ipush (pc' := 25) rfl rfl rfl ?_
  refine zq_icgt (pc' := 28) rfl rfl rfl rfl (And.intro (fun c => ?_) (fun c => ?_))
  · have H := H.1 c
    refine zq_aload (pc' := 101) rfl rfl rfl rfl ?_
    refine zq_ipush (pc' := 102) rfl rfl rfl ?_
    refine hq_calli (pc' := 105) rfl rfl rfl rfl rfl rfl h_Xi ?_
    refine hmonoi H ?_
    intro x3 g1 e2 H
    exact zq_iret rfl H.1 (Exists.intro _ (Exists.intro _ (And.intro rfl H.2)))
  · have H := H.2 c
    refine zq_iload (pc' := 29) rfl rfl rfl rfl ?_
    refine zq_ifle_c (pc' := 32) (lt := [(0, .ref 1026), (1, .int l1)]) (lf := [(0, .ref 1026), (1, .int l1)]) rfl rfl rfl rfl (And.intro (fun c => ?_) (fun c => ?_))
    · have H := H.1 c
      exact H
    · have H := H.2 c
      refine zq_aload (pc' := 33) rfl rfl rfl rfl ?_
      refine zq_ipush (pc' := 35) rfl rfl rfl ?_
      refine hq_calli (pc' := 38) rfl rfl rfl rfl rfl rfl h_Xi ?_
      refine hmonoi H ?_
      intro x6 g4 e5 H
      refine zq_ifeq_c (pc' := 41) (lt := [(0, .ref 1026), (1, .int l1)]) (lf := [(0, .ref 1026), (1, .int l1)]) rfl rfl rfl rfl (And.intro (fun c => ?_) (fun c => ?_))
      · have H := H.1 c
        exact H
      · have H := H.2 c
        refine zq_aload (pc' := 42) rfl rfl rfl rfl ?_
        refine hq_callv (pc' := 45) rfl rfl rfl rfl rfl rfl h_Xi ?_
        refine hmonov H ?_
        intro g7 e8 H
        refine zq_ipush (pc' := 46) rfl rfl rfl ?_
        exact zq_iret rfl (Or.inr rfl) (Exists.intro _ (Exists.intro _ (And.intro rfl H)))
theorem zh_X3_strainLine_47 {d : Nat} {k : Int32 → hG → hE → Prop} {X : Nat → hG → hE → Prop} {l1 : Int32} {g : hG} {e : hE} (H :
    zbr ((g.1 1026 2) = 2)
    (zbr (9 < (g.1 1026 5))
      (hci d 74 [.ref 1026, .int 2] g e (fun x3 g1 e2 =>
          (x3 = 0 ∨ x3 = 1) ∧ k x3 g1 e2) X)
      (hD (g.2.2 1026 7) ∧ 
        hci d 41 [.ref (g.2.2 1026 7), .int (g.1 1026 5)] g e (fun x7 g5 e6 =>
          zbr (x7 = 0)
          (hci d 74 [.ref 1026, .int 2] g5 e6 (fun x10 g8 e9 =>
              (x10 = 0 ∨ x10 = 1) ∧ k x10 g8 e9) X)
          (hcv d 70 [.ref 1026] g5 e6 (fun g11 e12 =>
              hwi d zm_X3_strainLine k X 22 [(0, .ref 1026), (1, .int (l1 + 1))] g11 e12) X)) X))
    (hci d 74 [.ref 1026, .int 1] g e (fun x15 g13 e14 =>
        (x15 = 0 ∨ x15 = 1) ∧ k x15 g13 e14) X)) : hwi d zm_X3_strainLine k X 47 [(0, .ref 1026), (1, .int l1)] g e := by
  refine zq_aload (pc' := 48) rfl rfl rfl rfl ?_
  refine zq_getI (pc' := 51) rfl rfl rfl (hp_gI rfl) ?_
  refine zq_ipush (pc' := 52) rfl rfl rfl ?_
  refine zq_iceq (pc' := 55) rfl rfl rfl rfl (And.intro (fun c => ?_) (fun c => ?_))
  · have H := H.1 c
    refine zq_aload (pc' := 62) rfl rfl rfl rfl ?_
    refine zq_getI (pc' := 65) rfl rfl rfl (hp_gI rfl) ?_
    refine zq_ipush (pc' := 67) rfl rfl rfl ?_
    refine zq_icgt (pc' := 70) rfl rfl rfl rfl (And.intro (fun c => ?_) (fun c => ?_))
    · have H := H.1 c
      refine zq_aload (pc' := 85) rfl rfl rfl rfl ?_
      refine zq_ipush (pc' := 86) rfl rfl rfl ?_
      refine hq_calli (pc' := 89) rfl rfl rfl rfl rfl rfl h_Xi ?_
      refine hmonoi H ?_
      intro x3 g1 e2 H
      exact zq_iret rfl H.1 (Exists.intro _ (Exists.intro _ (And.intro rfl H.2)))
    · have H := H.2 c
      refine zq_aload (pc' := 71) rfl rfl rfl rfl ?_
      obtain ⟨hr4, H⟩ := H
      refine zq_getR (pc' := 74) rfl rfl rfl (hp_gR rfl) ?_
      refine zq_aload (pc' := 75) rfl rfl rfl rfl ?_
      refine zq_getI (pc' := 78) rfl rfl rfl (hp_gI rfl) ?_
      refine hq_calli (pc' := 81) rfl rfl rfl rfl rfl rfl h_Xi ?_
      refine hmonoi H ?_
      intro x7 g5 e6 H
      refine zq_ifne (pc' := 84) rfl rfl rfl rfl (And.intro (fun c => ?_) (fun c => ?_))
      · have H := H.1 c
        refine zq_aload (pc' := 85) rfl rfl rfl rfl ?_
        refine zq_ipush (pc' := 86) rfl rfl rfl ?_
        refine hq_calli (pc' := 89) rfl rfl rfl rfl rfl rfl h_Xi ?_
        refine hmonoi H ?_
        intro x10 g8 e9 H
        exact zq_iret rfl H.1 (Exists.intro _ (Exists.intro _ (And.intro rfl H.2)))
      · have H := H.2 c
        refine zq_aload (pc' := 91) rfl rfl rfl rfl ?_
        refine hq_callv (pc' := 94) rfl rfl rfl rfl rfl rfl h_Xi ?_
        refine hmonov H ?_
        intro g11 e12 H
        refine zq_iinc (pc' := 97) rfl rfl rfl rfl ?_
        refine zq_goto_c (pc' := 22) rfl rfl ?_
        exact H
  · have H := H.2 c
    refine zq_aload (pc' := 56) rfl rfl rfl rfl ?_
    refine zq_ipush (pc' := 57) rfl rfl rfl ?_
    refine hq_calli (pc' := 60) rfl rfl rfl rfl rfl rfl h_Xi ?_
    refine hmonoi H ?_
    intro x15 g13 e14 H
    exact zq_iret rfl H.1 (Exists.intro _ (Exists.intro _ (And.intro rfl H.2)))
theorem zh_X3_ruleLine {d : Nat} {k : Int32 → hG → hE → Prop} {X : Nat → hG → hE → Prop} {p1 : Nat} (hp1 : hU p1) {p2 : Int32} {g : hG} {e : hE} (H :
    hci d 93 [.ref p1] g e (fun x3 g1 e2 =>
      zbr (x3 = 0)
      ((p2 = 0 ∨ p2 = 1) ∧
        hcv d 70 [.ref 1026] (sI g1 1026 8 p2) e2 (fun g4 e5 =>
          hD (g4.2.2 1026 7) ∧ 
          hci d 43 [.ref (g4.2.2 1026 7)] g4 e5 (fun x9 g7 e8 =>
            hci d 82 [.ref 1026, .int 0] g7 e8 (fun x12 g10 e11 =>
              zbr (x12 = 0)
              (k 0 g10 e11)
              (hci d 75 [.ref 1026, .int 59] g10 e11 (fun x15 g13 e14 =>
                  zbr (x15 = 0)
                  (k 0 g13 e14)
                  (hD (g13.2.2 1026 7) ∧ 
                    hci d 43 [.ref (g13.2.2 1026 7)] g13 e14 (fun x19 g17 e18 =>
                      hcv d 94 [.ref p1, .int x9, .int x19] g17 e18 (fun g20 e21 =>
                        k 1 g20 e21) X) X)) X)) X) X) X)
      (hci d 74 [.ref 1026, .int 5] g1 e2 (fun x24 g22 e23 =>
          (x24 = 0 ∨ x24 = 1) ∧ k x24 g22 e23) X)) X) : hci (d + 1) 81 [.ref 1026, .ref p1, .int p2] g e k X := by
  refine hent (M := zm_X3_ruleLine) (show hT 1026 = some (.inr _) from rfl) rfl rfl rfl rfl rfl ?_
  refine zq_aload (pc' := 1) rfl rfl rfl rfl ?_
  refine hq_calli (pc' := 4) rfl rfl rfl rfl rfl rfl h_Xi ?_
  refine hmonoi H ?_
  intro x3 g1 e2 H
  refine zq_ifeq (pc' := 7) rfl rfl rfl rfl (And.intro (fun c => ?_) (fun c => ?_))
  · have H := H.1 c
    refine zq_aload (pc' := 14) rfl rfl rfl rfl ?_
    refine zq_iload (pc' := 15) rfl rfl rfl rfl ?_
    obtain ⟨e1, H⟩ := H
    refine zq_put (pc' := 18) rfl rfl rfl e1 (hp_sI rfl) ?_
    refine zq_aload (pc' := 19) rfl rfl rfl rfl ?_
    refine hq_callv (pc' := 22) rfl rfl rfl rfl rfl rfl h_Xi ?_
    refine hmonov H ?_
    intro g4 e5 H
    refine zq_aload (pc' := 23) rfl rfl rfl rfl ?_
    obtain ⟨hr6, H⟩ := H
    refine zq_getR (pc' := 26) rfl rfl rfl (hp_gR rfl) ?_
    refine hq_calli (pc' := 29) rfl rfl rfl rfl rfl rfl h_Xi ?_
    refine hmonoi H ?_
    intro x9 g7 e8 H
    refine zq_istore (pc' := 30) rfl rfl rfl ?_
    refine zq_aload (pc' := 31) rfl rfl rfl rfl ?_
    refine zq_ipush (pc' := 32) rfl rfl rfl ?_
    refine hq_calli (pc' := 35) rfl rfl rfl rfl rfl rfl h_Xi ?_
    refine hmonoi H ?_
    intro x12 g10 e11 H
    refine zq_ifeq (pc' := 38) rfl rfl rfl rfl (And.intro (fun c => ?_) (fun c => ?_))
    · have H := H.1 c
      refine zq_ipush (pc' := 48) rfl rfl rfl ?_
      exact zq_iret rfl (Or.inl rfl) (Exists.intro _ (Exists.intro _ (And.intro rfl H)))
    · have H := H.2 c
      refine zq_aload (pc' := 39) rfl rfl rfl rfl ?_
      refine zq_ipush (pc' := 41) rfl rfl rfl ?_
      refine hq_calli (pc' := 44) rfl rfl rfl rfl rfl rfl h_Xi ?_
      refine hmonoi H ?_
      intro x15 g13 e14 H
      refine zq_ifne (pc' := 47) rfl rfl rfl rfl (And.intro (fun c => ?_) (fun c => ?_))
      · have H := H.1 c
        refine zq_ipush (pc' := 48) rfl rfl rfl ?_
        exact zq_iret rfl (Or.inl rfl) (Exists.intro _ (Exists.intro _ (And.intro rfl H)))
      · have H := H.2 c
        refine zq_aload (pc' := 50) rfl rfl rfl rfl ?_
        refine zq_iload (pc' := 51) rfl rfl rfl rfl ?_
        refine zq_aload (pc' := 52) rfl rfl rfl rfl ?_
        obtain ⟨hr16, H⟩ := H
        refine zq_getR (pc' := 55) rfl rfl rfl (hp_gR rfl) ?_
        refine hq_calli (pc' := 58) rfl rfl rfl rfl rfl rfl h_Xi ?_
        refine hmonoi H ?_
        intro x19 g17 e18 H
        refine hq_callv (pc' := 61) rfl rfl rfl rfl rfl rfl h_Xi ?_
        refine hmonov H ?_
        intro g20 e21 H
        refine zq_ipush (pc' := 62) rfl rfl rfl ?_
        exact zq_iret rfl (Or.inr rfl) (Exists.intro _ (Exists.intro _ (And.intro rfl H)))
  · have H := H.2 c
    refine zq_aload (pc' := 8) rfl rfl rfl rfl ?_
    refine zq_ipush (pc' := 9) rfl rfl rfl ?_
    refine hq_calli (pc' := 12) rfl rfl rfl rfl rfl rfl h_Xi ?_
    refine hmonoi H ?_
    intro x24 g22 e23 H
    exact zq_iret rfl H.1 (Exists.intro _ (Exists.intro _ (And.intro rfl H.2)))
theorem zh_X3_anyOf {d : Nat} {k : Int32 → hG → hE → Prop} {X : Nat → hG → hE → Prop} {p1 : Int32} {g : hG} {e : hE} (H :
    zbr (p1 < 6)
    (hci d 84 [.ref 1026, .int p1] g e (fun x3 g1 e2 =>
        zbr (x3 = 0)
        (k 0 g1 e2)
        (hwi d zm_X3_anyOf k X 35 [(0, .ref 1026), (1, .int p1), (2, .int 0)] g1 e2)) X)
    (hci d 83 [.ref 1026] g e (fun x6 g4 e5 =>
        zbr (x6 = 0)
        (hci d 74 [.ref 1026, .int 1] g4 e5 (fun x9 g7 e8 =>
            (x9 = 0 ∨ x9 = 1) ∧ k x9 g7 e8) X)
        (hci d 74 [.ref 1026, .int 2] g4 e5 (fun x12 g10 e11 =>
            (x12 = 0 ∨ x12 = 1) ∧ k x12 g10 e11) X)) X)) : hci (d + 1) 82 [.ref 1026, .int p1] g e k X := by
  refine hent (M := zm_X3_anyOf) (show hT 1026 = some (.inr _) from rfl) rfl rfl rfl rfl rfl ?_
  refine zq_iload (pc' := 1) rfl rfl rfl rfl ?_
  refine zq_ipush (pc' := 3) rfl rfl rfl ?_
  refine zq_iclt (pc' := 6) rfl rfl rfl rfl (And.intro (fun c => ?_) (fun c => ?_))
  · have H := H.1 c
    refine zq_aload (pc' := 24) rfl rfl rfl rfl ?_
    refine zq_iload (pc' := 25) rfl rfl rfl rfl ?_
    refine hq_calli (pc' := 28) rfl rfl rfl rfl rfl rfl h_Xi ?_
    refine hmonoi H ?_
    intro x3 g1 e2 H
    refine zq_ifne (pc' := 31) rfl rfl rfl rfl (And.intro (fun c => ?_) (fun c => ?_))
    · have H := H.1 c
      refine zq_ipush (pc' := 32) rfl rfl rfl ?_
      exact zq_iret rfl (Or.inl rfl) (Exists.intro _ (Exists.intro _ (And.intro rfl H)))
    · have H := H.2 c
      refine zq_ipush (pc' := 34) rfl rfl rfl ?_
      refine zq_istore_c (pc' := 35) rfl rfl ?_
      exact H
  · have H := H.2 c
    refine zq_aload (pc' := 7) rfl rfl rfl rfl ?_
    refine zq_aload (pc' := 8) rfl rfl rfl rfl ?_
    refine hq_calli (pc' := 11) rfl rfl rfl rfl rfl rfl h_Xi ?_
    refine hmonoi H ?_
    intro x6 g4 e5 H
    refine zq_ifeq (pc' := 14) rfl rfl rfl rfl (And.intro (fun c => ?_) (fun c => ?_))
    · have H := H.1 c
      refine zq_ipush (pc' := 19) rfl rfl rfl ?_
      refine hq_calli (pc' := 22) rfl rfl rfl rfl rfl rfl h_Xi ?_
      refine hmonoi H ?_
      intro x9 g7 e8 H
      exact zq_iret rfl H.1 (Exists.intro _ (Exists.intro _ (And.intro rfl H.2)))
    · have H := H.2 c
      refine zq_ipush (pc' := 15) rfl rfl rfl ?_
      refine zq_goto (pc' := 19) rfl rfl rfl ?_
      refine hq_calli (pc' := 22) rfl rfl rfl rfl rfl rfl h_Xi ?_
      refine hmonoi H ?_
      intro x12 g10 e11 H
      exact zq_iret rfl H.1 (Exists.intro _ (Exists.intro _ (And.intro rfl H.2)))
theorem zh_X3_anyOf_35 {d : Nat} {k : Int32 → hG → hE → Prop} {X : Nat → hG → hE → Prop} {l1 : Int32} {l2 : Int32} {g : hG} {e : hE} (H :
    zbr (700 ≤ l2)
    (k 1 g e)
    (hci d 72 [.ref 1026, .ref 14] g e (fun x3 g1 e2 =>
        zbr (x3 = 0)
        (k 1 g1 e2)
        (hcv d 70 [.ref 1026] g1 e2 (fun g4 e5 =>
            hci d 84 [.ref 1026, .int l1] g4 e5 (fun x8 g6 e7 =>
              zbr (x8 = 0)
              (k 0 g6 e7)
              (hD (g6.2.2 1026 7) ∧ 
                hcv d 42 [.ref (g6.2.2 1026 7), .int (-7)] g6 e7 (fun g10 e11 =>
                  hwi d zm_X3_anyOf k X 35 [(0, .ref 1026), (1, .int l1), (2, .int (l2 + 1))] g10 e11) X)) X) X)) X)) : hwi d zm_X3_anyOf k X 35 [(0, .ref 1026), (1, .int l1), (2, .int l2)] g e := by
  refine zq_iload (pc' := 36) rfl rfl rfl rfl ?_
  refine zq_ipush (pc' := 39) rfl rfl rfl ?_
  refine zq_icge (pc' := 42) rfl rfl rfl rfl (And.intro (fun c => ?_) (fun c => ?_))
  · have H := H.1 c
    refine zq_ipush (pc' := 81) rfl rfl rfl ?_
    exact zq_iret rfl (Or.inr rfl) (Exists.intro _ (Exists.intro _ (And.intro rfl H)))
  · have H := H.2 c
    refine zq_aload (pc' := 43) rfl rfl rfl rfl ?_
    refine zq_rpush (pc' := 45) rfl rfl rfl ?_
    refine hq_calli (pc' := 48) rfl rfl rfl rfl rfl rfl h_Xi ?_
    refine hmonoi H ?_
    intro x3 g1 e2 H
    refine zq_ifeq (pc' := 51) rfl rfl rfl rfl (And.intro (fun c => ?_) (fun c => ?_))
    · have H := H.1 c
      refine zq_ipush (pc' := 81) rfl rfl rfl ?_
      exact zq_iret rfl (Or.inr rfl) (Exists.intro _ (Exists.intro _ (And.intro rfl H)))
    · have H := H.2 c
      refine zq_aload (pc' := 52) rfl rfl rfl rfl ?_
      refine hq_callv (pc' := 55) rfl rfl rfl rfl rfl rfl h_Xi ?_
      refine hmonov H ?_
      intro g4 e5 H
      refine zq_aload (pc' := 56) rfl rfl rfl rfl ?_
      refine zq_iload (pc' := 57) rfl rfl rfl rfl ?_
      refine hq_calli (pc' := 60) rfl rfl rfl rfl rfl rfl h_Xi ?_
      refine hmonoi H ?_
      intro x8 g6 e7 H
      refine zq_ifne (pc' := 63) rfl rfl rfl rfl (And.intro (fun c => ?_) (fun c => ?_))
      · have H := H.1 c
        refine zq_ipush (pc' := 64) rfl rfl rfl ?_
        exact zq_iret rfl (Or.inl rfl) (Exists.intro _ (Exists.intro _ (And.intro rfl H)))
      · have H := H.2 c
        refine zq_aload (pc' := 66) rfl rfl rfl rfl ?_
        obtain ⟨hr9, H⟩ := H
        refine zq_getR (pc' := 69) rfl rfl rfl (hp_gR rfl) ?_
        refine zq_ipushn (pc' := 71) rfl rfl rfl ?_
        refine hq_callv (pc' := 74) rfl rfl rfl rfl rfl rfl h_Xi ?_
        refine hmonov H ?_
        intro g10 e11 H
        refine zq_iinc (pc' := 77) rfl rfl rfl rfl ?_
        refine zq_goto_c (pc' := 35) rfl rfl ?_
        exact H
theorem zh_X3_mayBegin {d : Nat} {k : Int32 → hG → hE → Prop} {X : Nat → hG → hE → Prop}  {g : hG} {e : hE} (H :
    zbr ((g.1 1026 2) = 2)
    (k 1 g e)
    (zbr ((g.1 1026 2) = 1)
      (k 1 g e)
      (hci d 73 [.ref 1026, .int 40] g e (fun x3 g1 e2 =>
          zbr (x3 = 0)
          (k 0 g1 e2)
          (k 1 g1 e2)) X))) : hci (d + 1) 83 [.ref 1026] g e k X := by
  refine hent (M := zm_X3_mayBegin) (show hT 1026 = some (.inr _) from rfl) rfl rfl rfl rfl rfl ?_
  refine zq_aload (pc' := 1) rfl rfl rfl rfl ?_
  refine zq_getI (pc' := 4) rfl rfl rfl (hp_gI rfl) ?_
  refine zq_ipush (pc' := 5) rfl rfl rfl ?_
  refine zq_iceq (pc' := 8) rfl rfl rfl rfl (And.intro (fun c => ?_) (fun c => ?_))
  · have H := H.1 c
    refine zq_ipush (pc' := 26) rfl rfl rfl ?_
    refine zq_goto (pc' := 30) rfl rfl rfl ?_
    exact zq_iret rfl (Or.inr rfl) (Exists.intro _ (Exists.intro _ (And.intro rfl H)))
  · have H := H.2 c
    refine zq_aload (pc' := 9) rfl rfl rfl rfl ?_
    refine zq_getI (pc' := 12) rfl rfl rfl (hp_gI rfl) ?_
    refine zq_ipush (pc' := 13) rfl rfl rfl ?_
    refine zq_iceq (pc' := 16) rfl rfl rfl rfl (And.intro (fun c => ?_) (fun c => ?_))
    · have H := H.1 c
      refine zq_ipush (pc' := 26) rfl rfl rfl ?_
      refine zq_goto (pc' := 30) rfl rfl rfl ?_
      exact zq_iret rfl (Or.inr rfl) (Exists.intro _ (Exists.intro _ (And.intro rfl H)))
    · have H := H.2 c
      refine zq_aload (pc' := 17) rfl rfl rfl rfl ?_
      refine zq_ipush (pc' := 19) rfl rfl rfl ?_
      refine hq_calli (pc' := 22) rfl rfl rfl rfl rfl rfl h_Xi ?_
      refine hmonoi H ?_
      intro x3 g1 e2 H
      refine zq_ifeq (pc' := 25) rfl rfl rfl rfl (And.intro (fun c => ?_) (fun c => ?_))
      · have H := H.1 c
        refine zq_ipush (pc' := 30) rfl rfl rfl ?_
        exact zq_iret rfl (Or.inl rfl) (Exists.intro _ (Exists.intro _ (And.intro rfl H)))
      · have H := H.2 c
        refine zq_ipush (pc' := 26) rfl rfl rfl ?_
        refine zq_goto (pc' := 30) rfl rfl rfl ?_
        exact zq_iret rfl (Or.inr rfl) (Exists.intro _ (Exists.intro _ (And.intro rfl H)))
theorem zh_X3_allOf {d : Nat} {k : Int32 → hG → hE → Prop} {X : Nat → hG → hE → Prop} {p1 : Int32} {g : hG} {e : hE} (H :
    hci d 85 [.ref 1026, .int p1] g e (fun x3 g1 e2 =>
      zbr (x3 = 0)
      (k 0 g1 e2)
      (hwi d zm_X3_allOf k X 12 [(0, .ref 1026), (1, .int p1), (2, .int 0)] g1 e2)) X) : hci (d + 1) 84 [.ref 1026, .int p1] g e k X := by
  refine hent (M := zm_X3_allOf) (show hT 1026 = some (.inr _) from rfl) rfl rfl rfl rfl rfl ?_
  refine zq_aload (pc' := 1) rfl rfl rfl rfl ?_
  refine zq_iload (pc' := 2) rfl rfl rfl rfl ?_
  refine hq_calli (pc' := 5) rfl rfl rfl rfl rfl rfl h_Xi ?_
  refine hmonoi H ?_
  intro x3 g1 e2 H
  refine zq_ifne (pc' := 8) rfl rfl rfl rfl (And.intro (fun c => ?_) (fun c => ?_))
  · have H := H.1 c
    refine zq_ipush (pc' := 9) rfl rfl rfl ?_
    exact zq_iret rfl (Or.inl rfl) (Exists.intro _ (Exists.intro _ (And.intro rfl H)))
  · have H := H.2 c
    refine zq_ipush (pc' := 11) rfl rfl rfl ?_
    refine zq_istore_c (pc' := 12) rfl rfl ?_
    exact H
theorem zh_X3_allOf_12 {d : Nat} {k : Int32 → hG → hE → Prop} {X : Nat → hG → hE → Prop} {l1 : Int32} {l2 : Int32} {g : hG} {e : hE} (H :
    zbr (700 ≤ l2)
    (k 1 g e)
    (hci d 72 [.ref 1026, .ref 16] g e (fun x3 g1 e2 =>
        zbr (x3 = 0)
        (k 1 g1 e2)
        (hcv d 70 [.ref 1026] g1 e2 (fun g4 e5 =>
            hci d 85 [.ref 1026, .int l1] g4 e5 (fun x8 g6 e7 =>
              zbr (x8 = 0)
              (k 0 g6 e7)
              (hD (g6.2.2 1026 7) ∧ 
                hcv d 42 [.ref (g6.2.2 1026 7), .int (-8)] g6 e7 (fun g10 e11 =>
                  hwi d zm_X3_allOf k X 12 [(0, .ref 1026), (1, .int l1), (2, .int (l2 + 1))] g10 e11) X)) X) X)) X)) : hwi d zm_X3_allOf k X 12 [(0, .ref 1026), (1, .int l1), (2, .int l2)] g e := by
  refine zq_iload (pc' := 13) rfl rfl rfl rfl ?_
  refine zq_ipush (pc' := 16) rfl rfl rfl ?_
  refine zq_icge (pc' := 19) rfl rfl rfl rfl (And.intro (fun c => ?_) (fun c => ?_))
  · have H := H.1 c
    refine zq_ipush (pc' := 58) rfl rfl rfl ?_
    exact zq_iret rfl (Or.inr rfl) (Exists.intro _ (Exists.intro _ (And.intro rfl H)))
  · have H := H.2 c
    refine zq_aload (pc' := 20) rfl rfl rfl rfl ?_
    refine zq_rpush (pc' := 22) rfl rfl rfl ?_
    refine hq_calli (pc' := 25) rfl rfl rfl rfl rfl rfl h_Xi ?_
    refine hmonoi H ?_
    intro x3 g1 e2 H
    refine zq_ifeq (pc' := 28) rfl rfl rfl rfl (And.intro (fun c => ?_) (fun c => ?_))
    · have H := H.1 c
      refine zq_ipush (pc' := 58) rfl rfl rfl ?_
      exact zq_iret rfl (Or.inr rfl) (Exists.intro _ (Exists.intro _ (And.intro rfl H)))
    · have H := H.2 c
      refine zq_aload (pc' := 29) rfl rfl rfl rfl ?_
      refine hq_callv (pc' := 32) rfl rfl rfl rfl rfl rfl h_Xi ?_
      refine hmonov H ?_
      intro g4 e5 H
      refine zq_aload (pc' := 33) rfl rfl rfl rfl ?_
      refine zq_iload (pc' := 34) rfl rfl rfl rfl ?_
      refine hq_calli (pc' := 37) rfl rfl rfl rfl rfl rfl h_Xi ?_
      refine hmonoi H ?_
      intro x8 g6 e7 H
      refine zq_ifne (pc' := 40) rfl rfl rfl rfl (And.intro (fun c => ?_) (fun c => ?_))
      · have H := H.1 c
        refine zq_ipush (pc' := 41) rfl rfl rfl ?_
        exact zq_iret rfl (Or.inl rfl) (Exists.intro _ (Exists.intro _ (And.intro rfl H)))
      · have H := H.2 c
        refine zq_aload (pc' := 43) rfl rfl rfl rfl ?_
        obtain ⟨hr9, H⟩ := H
        refine zq_getR (pc' := 46) rfl rfl rfl (hp_gR rfl) ?_
        refine zq_ipushn (pc' := 48) rfl rfl rfl ?_
        refine hq_callv (pc' := 51) rfl rfl rfl rfl rfl rfl h_Xi ?_
        refine hmonov H ?_
        intro g10 e11 H
        refine zq_iinc (pc' := 54) rfl rfl rfl rfl ?_
        refine zq_goto_c (pc' := 12) rfl rfl ?_
        exact H
theorem zh_X3_negation {d : Nat} {k : Int32 → hG → hE → Prop} {X : Nat → hG → hE → Prop} {p1 : Int32} {g : hG} {e : hE} (H :
    hwi d zm_X3_negation k X 2 [(0, .ref 1026), (1, .int p1), (2, .int 0)] g e) : hci (d + 1) 85 [.ref 1026, .int p1] g e k X := by
  refine hent (M := zm_X3_negation) (show hT 1026 = some (.inr _) from rfl) rfl rfl rfl rfl rfl ?_
  refine zq_ipush (pc' := 1) rfl rfl rfl ?_
  refine zq_istore_c (pc' := 2) rfl rfl ?_
  exact H
theorem zh_X3_negation_2 {d : Nat} {k : Int32 → hG → hE → Prop} {X : Nat → hG → hE → Prop} {l1 : Int32} {l2 : Int32} {g : hG} {e : hE} (H :
    zbr (6 ≤ l2)
    (hwi d zm_X3_negation k X 27 [(0, .ref 1026), (1, .int l1), (2, .int l2)] g e)
    (hci d 72 [.ref 1026, .ref 18] g e (fun x3 g1 e2 =>
        zbr (x3 = 0)
        (hwi d zm_X3_negation k X 27 [(0, .ref 1026), (1, .int l1), (2, .int l2)] g1 e2)
        (hcv d 70 [.ref 1026] g1 e2 (fun g4 e5 =>
            hwi d zm_X3_negation k X 2 [(0, .ref 1026), (1, .int l1), (2, .int (l2 + 1))] g4 e5) X)) X)) : hwi d zm_X3_negation k X 2 [(0, .ref 1026), (1, .int l1), (2, .int l2)] g e := by
  refine zq_iload (pc' := 3) rfl rfl rfl rfl ?_
  refine zq_ipush (pc' := 5) rfl rfl rfl ?_
  refine zq_icge_c (pc' := 8) (lt := [(0, .ref 1026), (1, .int l1), (2, .int l2)]) (lf := [(0, .ref 1026), (1, .int l1), (2, .int l2)]) rfl rfl rfl rfl (And.intro (fun c => ?_) (fun c => ?_))
  · have H := H.1 c
    exact H
  · have H := H.2 c
    refine zq_aload (pc' := 9) rfl rfl rfl rfl ?_
    refine zq_rpush (pc' := 11) rfl rfl rfl ?_
    refine hq_calli (pc' := 14) rfl rfl rfl rfl rfl rfl h_Xi ?_
    refine hmonoi H ?_
    intro x3 g1 e2 H
    refine zq_ifeq_c (pc' := 17) (lt := [(0, .ref 1026), (1, .int l1), (2, .int l2)]) (lf := [(0, .ref 1026), (1, .int l1), (2, .int l2)]) rfl rfl rfl rfl (And.intro (fun c => ?_) (fun c => ?_))
    · have H := H.1 c
      exact H
    · have H := H.2 c
      refine zq_iinc (pc' := 20) rfl rfl rfl rfl ?_
      refine zq_aload (pc' := 21) rfl rfl rfl rfl ?_
      refine hq_callv (pc' := 24) rfl rfl rfl rfl rfl rfl h_Xi ?_
      refine hmonov H ?_
      intro g4 e5 H
      refine zq_goto_c (pc' := 2) rfl rfl ?_
      exact H
theorem zh_X3_negation_27 {d : Nat} {k : Int32 → hG → hE → Prop} {X : Nat → hG → hE → Prop} {l1 : Int32} {l2 : Int32} {g : hG} {e : hE} (H :
    hci d 72 [.ref 1026, .ref 18] g e (fun x3 g1 e2 =>
      zbr (x3 = 0)
      (hci d 86 [.ref 1026, .int l1] g1 e2 (fun x6 g4 e5 =>
          zbr (x6 = 0)
          (k 0 g4 e5)
          (hwi d zm_X3_negation k X 54 [(0, .ref 1026), (2, .int l2), (3, .int 0)] g4 e5)) X)
      (hci d 74 [.ref 1026, .int 2] g1 e2 (fun x9 g7 e8 =>
          (x9 = 0 ∨ x9 = 1) ∧ k x9 g7 e8) X)) X) : hwi d zm_X3_negation k X 27 [(0, .ref 1026), (1, .int l1), (2, .int l2)] g e := by
  refine zq_aload (pc' := 28) rfl rfl rfl rfl ?_
  refine zq_rpush (pc' := 30) rfl rfl rfl ?_
  refine hq_calli (pc' := 33) rfl rfl rfl rfl rfl rfl h_Xi ?_
  refine hmonoi H ?_
  intro x3 g1 e2 H
  refine zq_ifeq (pc' := 36) rfl rfl rfl rfl (And.intro (fun c => ?_) (fun c => ?_))
  · have H := H.1 c
    refine zq_aload (pc' := 43) rfl rfl rfl rfl ?_
    refine zq_iload (pc' := 44) rfl rfl rfl rfl ?_
    refine hq_calli (pc' := 47) rfl rfl rfl rfl rfl rfl h_Xi ?_
    refine hmonoi H ?_
    intro x6 g4 e5 H
    refine zq_ifne (pc' := 50) rfl rfl rfl rfl (And.intro (fun c => ?_) (fun c => ?_))
    · have H := H.1 c
      refine zq_ipush (pc' := 51) rfl rfl rfl ?_
      exact zq_iret rfl (Or.inl rfl) (Exists.intro _ (Exists.intro _ (And.intro rfl H)))
    · have H := H.2 c
      refine zq_ipush (pc' := 53) rfl rfl rfl ?_
      refine zq_istore_c (pc' := 54) rfl rfl ?_
      exact H
  · have H := H.2 c
    refine zq_aload (pc' := 37) rfl rfl rfl rfl ?_
    refine zq_ipush (pc' := 38) rfl rfl rfl ?_
    refine hq_calli (pc' := 41) rfl rfl rfl rfl rfl rfl h_Xi ?_
    refine hmonoi H ?_
    intro x9 g7 e8 H
    exact zq_iret rfl H.1 (Exists.intro _ (Exists.intro _ (And.intro rfl H.2)))
theorem zh_X3_negation_54 {d : Nat} {k : Int32 → hG → hE → Prop} {X : Nat → hG → hE → Prop} {l2 : Int32} {l3 : Int32} {g : hG} {e : hE} (H :
    zbr (l2 ≤ l3)
    (k 1 g e)
    (hD (g.2.2 1026 7) ∧ 
      hcv d 42 [.ref (g.2.2 1026 7), .int (-6)] g e (fun g2 e3 =>
        hwi d zm_X3_negation k X 54 [(0, .ref 1026), (2, .int l2), (3, .int (l3 + 1))] g2 e3) X)) : hwi d zm_X3_negation k X 54 [(0, .ref 1026), (2, .int l2), (3, .int l3)] g e := by
  refine zq_iload (pc' := 55) rfl rfl rfl rfl ?_
  refine zq_iload (pc' := 56) rfl rfl rfl rfl ?_
  refine zq_icge (pc' := 59) rfl rfl rfl rfl (And.intro (fun c => ?_) (fun c => ?_))
  · have H := H.1 c
    refine zq_ipush (pc' := 75) rfl rfl rfl ?_
    exact zq_iret rfl (Or.inr rfl) (Exists.intro _ (Exists.intro _ (And.intro rfl H)))
  · have H := H.2 c
    refine zq_aload (pc' := 60) rfl rfl rfl rfl ?_
    obtain ⟨hr1, H⟩ := H
    refine zq_getR (pc' := 63) rfl rfl rfl (hp_gR rfl) ?_
    refine zq_ipushn (pc' := 65) rfl rfl rfl ?_
    refine hq_callv (pc' := 68) rfl rfl rfl rfl rfl rfl h_Xi ?_
    refine hmonov H ?_
    intro g2 e3 H
    refine zq_iinc (pc' := 71) rfl rfl rfl rfl ?_
    refine zq_goto_c (pc' := 54) rfl rfl ?_
    exact H
theorem zh_X3_comparison {d : Nat} {k : Int32 → hG → hE → Prop} {X : Nat → hG → hE → Prop} {p1 : Int32} {g : hG} {e : hE} (H :
    hci d 87 [.ref 1026, .int p1] g e (fun x3 g1 e2 =>
      zbr (x3 = 0)
      (k 0 g1 e2)
      (hci d 73 [.ref 1026, .int 60] g1 e2 (fun x6 g4 e5 =>
          zbr (x6 = 0)
          (hci d 73 [.ref 1026, .int 61] g4 e5 (fun x9 g7 e8 =>
              zbr (x9 = 0)
              (k 1 g7 e8)
              (hwi d zm_X3_comparison k X 30 [(0, .ref 1026), (1, .int p1)] g7 e8)) X)
          (hwi d zm_X3_comparison k X 30 [(0, .ref 1026), (1, .int p1)] g4 e5)) X)) X) : hci (d + 1) 86 [.ref 1026, .int p1] g e k X := by
  refine hent (M := zm_X3_comparison) (show hT 1026 = some (.inr _) from rfl) rfl rfl rfl rfl rfl ?_
  refine zq_aload (pc' := 1) rfl rfl rfl rfl ?_
  refine zq_iload (pc' := 2) rfl rfl rfl rfl ?_
  refine hq_calli (pc' := 5) rfl rfl rfl rfl rfl rfl h_Xi ?_
  refine hmonoi H ?_
  intro x3 g1 e2 H
  refine zq_ifne (pc' := 8) rfl rfl rfl rfl (And.intro (fun c => ?_) (fun c => ?_))
  · have H := H.1 c
    refine zq_ipush (pc' := 9) rfl rfl rfl ?_
    exact zq_iret rfl (Or.inl rfl) (Exists.intro _ (Exists.intro _ (And.intro rfl H)))
  · have H := H.2 c
    refine zq_aload (pc' := 11) rfl rfl rfl rfl ?_
    refine zq_ipush (pc' := 13) rfl rfl rfl ?_
    refine hq_calli (pc' := 16) rfl rfl rfl rfl rfl rfl h_Xi ?_
    refine hmonoi H ?_
    intro x6 g4 e5 H
    refine zq_ifne_c (pc' := 19) (lt := [(0, .ref 1026), (1, .int p1)]) (lf := [(0, .ref 1026), (1, .int p1)]) rfl rfl rfl rfl (And.intro (fun c => ?_) (fun c => ?_))
    · have H := H.1 c
      refine zq_aload (pc' := 20) rfl rfl rfl rfl ?_
      refine zq_ipush (pc' := 22) rfl rfl rfl ?_
      refine hq_calli (pc' := 25) rfl rfl rfl rfl rfl rfl h_Xi ?_
      refine hmonoi H ?_
      intro x9 g7 e8 H
      refine zq_ifne_c (pc' := 28) (lt := [(0, .ref 1026), (1, .int p1)]) (lf := [(0, .ref 1026), (1, .int p1)]) rfl rfl rfl rfl (And.intro (fun c => ?_) (fun c => ?_))
      · have H := H.1 c
        refine zq_ipush (pc' := 29) rfl rfl rfl ?_
        exact zq_iret rfl (Or.inr rfl) (Exists.intro _ (Exists.intro _ (And.intro rfl H)))
      · have H := H.2 c
        exact H
    · have H := H.2 c
      exact H
theorem zh_X3_comparison_30 {d : Nat} {k : Int32 → hG → hE → Prop} {X : Nat → hG → hE → Prop} {l1 : Int32} {g : hG} {e : hE} (H :
    hci d 73 [.ref 1026, .int 60] g e (fun x3 g1 e2 =>
      zbr (x3 = 0)
      (hcv d 70 [.ref 1026] g1 e2 (fun g4 e5 =>
          hci d 87 [.ref 1026, .int l1] g4 e5 (fun x8 g6 e7 =>
            zbr (x8 = 0)
            (k 0 g6 e7)
            (hD (g6.2.2 1026 7) ∧ 
              hcv d 42 [.ref (g6.2.2 1026 7), .int (-10)] g6 e7 (fun g10 e11 =>
                k 1 g10 e11) X)) X) X)
      (hcv d 70 [.ref 1026] g1 e2 (fun g12 e13 =>
          hci d 87 [.ref 1026, .int l1] g12 e13 (fun x16 g14 e15 =>
            zbr (x16 = 0)
            (k 0 g14 e15)
            (hD (g14.2.2 1026 7) ∧ 
              hcv d 42 [.ref (g14.2.2 1026 7), .int (-9)] g14 e15 (fun g18 e19 =>
                k 1 g18 e19) X)) X) X)) X) : hwi d zm_X3_comparison k X 30 [(0, .ref 1026), (1, .int l1)] g e := by
  refine zq_aload (pc' := 31) rfl rfl rfl rfl ?_
  refine zq_ipush (pc' := 33) rfl rfl rfl ?_
  refine hq_calli (pc' := 36) rfl rfl rfl rfl rfl rfl h_Xi ?_
  refine hmonoi H ?_
  intro x3 g1 e2 H
  refine zq_ifeq (pc' := 39) rfl rfl rfl rfl (And.intro (fun c => ?_) (fun c => ?_))
  · have H := H.1 c
    refine zq_ipushn (pc' := 46) rfl rfl rfl ?_
    refine zq_istore (pc' := 47) rfl rfl rfl ?_
    refine zq_aload (pc' := 48) rfl rfl rfl rfl ?_
    refine hq_callv (pc' := 51) rfl rfl rfl rfl rfl rfl h_Xi ?_
    refine hmonov H ?_
    intro g4 e5 H
    refine zq_aload (pc' := 52) rfl rfl rfl rfl ?_
    refine zq_iload (pc' := 53) rfl rfl rfl rfl ?_
    refine hq_calli (pc' := 56) rfl rfl rfl rfl rfl rfl h_Xi ?_
    refine hmonoi H ?_
    intro x8 g6 e7 H
    refine zq_ifne (pc' := 59) rfl rfl rfl rfl (And.intro (fun c => ?_) (fun c => ?_))
    · have H := H.1 c
      refine zq_ipush (pc' := 60) rfl rfl rfl ?_
      exact zq_iret rfl (Or.inl rfl) (Exists.intro _ (Exists.intro _ (And.intro rfl H)))
    · have H := H.2 c
      refine zq_aload (pc' := 62) rfl rfl rfl rfl ?_
      obtain ⟨hr9, H⟩ := H
      refine zq_getR (pc' := 65) rfl rfl rfl (hp_gR rfl) ?_
      refine zq_iload (pc' := 66) rfl rfl rfl rfl ?_
      refine hq_callv (pc' := 69) rfl rfl rfl rfl rfl rfl h_Xi ?_
      refine hmonov H ?_
      intro g10 e11 H
      refine zq_ipush (pc' := 70) rfl rfl rfl ?_
      exact zq_iret rfl (Or.inr rfl) (Exists.intro _ (Exists.intro _ (And.intro rfl H)))
  · have H := H.2 c
    refine zq_ipushn (pc' := 41) rfl rfl rfl ?_
    refine zq_goto (pc' := 46) rfl rfl rfl ?_
    refine zq_istore (pc' := 47) rfl rfl rfl ?_
    refine zq_aload (pc' := 48) rfl rfl rfl rfl ?_
    refine hq_callv (pc' := 51) rfl rfl rfl rfl rfl rfl h_Xi ?_
    refine hmonov H ?_
    intro g12 e13 H
    refine zq_aload (pc' := 52) rfl rfl rfl rfl ?_
    refine zq_iload (pc' := 53) rfl rfl rfl rfl ?_
    refine hq_calli (pc' := 56) rfl rfl rfl rfl rfl rfl h_Xi ?_
    refine hmonoi H ?_
    intro x16 g14 e15 H
    refine zq_ifne (pc' := 59) rfl rfl rfl rfl (And.intro (fun c => ?_) (fun c => ?_))
    · have H := H.1 c
      refine zq_ipush (pc' := 60) rfl rfl rfl ?_
      exact zq_iret rfl (Or.inl rfl) (Exists.intro _ (Exists.intro _ (And.intro rfl H)))
    · have H := H.2 c
      refine zq_aload (pc' := 62) rfl rfl rfl rfl ?_
      obtain ⟨hr17, H⟩ := H
      refine zq_getR (pc' := 65) rfl rfl rfl (hp_gR rfl) ?_
      refine zq_iload (pc' := 66) rfl rfl rfl rfl ?_
      refine hq_callv (pc' := 69) rfl rfl rfl rfl rfl rfl h_Xi ?_
      refine hmonov H ?_
      intro g18 e19 H
      refine zq_ipush (pc' := 70) rfl rfl rfl ?_
      exact zq_iret rfl (Or.inr rfl) (Exists.intro _ (Exists.intro _ (And.intro rfl H)))
theorem zh_X3_sum {d : Nat} {k : Int32 → hG → hE → Prop} {X : Nat → hG → hE → Prop} {p1 : Int32} {g : hG} {e : hE} (H :
    hci d 88 [.ref 1026, .int p1] g e (fun x3 g1 e2 =>
      zbr (x3 = 0)
      (k 0 g1 e2)
      (hwi d zm_X3_sum k X 12 [(0, .ref 1026), (1, .int p1), (2, .int 0)] g1 e2)) X) : hci (d + 1) 87 [.ref 1026, .int p1] g e k X := by
  refine hent (M := zm_X3_sum) (show hT 1026 = some (.inr _) from rfl) rfl rfl rfl rfl rfl ?_
  refine zq_aload (pc' := 1) rfl rfl rfl rfl ?_
  refine zq_iload (pc' := 2) rfl rfl rfl rfl ?_
  refine hq_calli (pc' := 5) rfl rfl rfl rfl rfl rfl h_Xi ?_
  refine hmonoi H ?_
  intro x3 g1 e2 H
  refine zq_ifne (pc' := 8) rfl rfl rfl rfl (And.intro (fun c => ?_) (fun c => ?_))
  · have H := H.1 c
    refine zq_ipush (pc' := 9) rfl rfl rfl ?_
    exact zq_iret rfl (Or.inl rfl) (Exists.intro _ (Exists.intro _ (And.intro rfl H)))
  · have H := H.2 c
    refine zq_ipush (pc' := 11) rfl rfl rfl ?_
    refine zq_istore_c (pc' := 12) rfl rfl ?_
    exact H
theorem zh_X3_sum_12 {d : Nat} {k : Int32 → hG → hE → Prop} {X : Nat → hG → hE → Prop} {l1 : Int32} {l2 : Int32} {g : hG} {e : hE} (H :
    zbr (700 ≤ l2)
    (k 1 g e)
    (hci d 73 [.ref 1026, .int 43] g e (fun x3 g1 e2 =>
        zbr (x3 = 0)
        (hci d 73 [.ref 1026, .int 45] g1 e2 (fun x6 g4 e5 =>
            zbr (x6 = 0)
            (k 1 g4 e5)
            (hwi d zm_X3_sum k X 37 [(0, .ref 1026), (1, .int l1), (2, .int l2)] g4 e5)) X)
        (hwi d zm_X3_sum k X 37 [(0, .ref 1026), (1, .int l1), (2, .int l2)] g1 e2)) X)) : hwi d zm_X3_sum k X 12 [(0, .ref 1026), (1, .int l1), (2, .int l2)] g e := by
  refine zq_iload (pc' := 13) rfl rfl rfl rfl ?_
  refine zq_ipush (pc' := 16) rfl rfl rfl ?_
  refine zq_icge (pc' := 19) rfl rfl rfl rfl (And.intro (fun c => ?_) (fun c => ?_))
  · have H := H.1 c
    refine zq_ipush (pc' := 83) rfl rfl rfl ?_
    exact zq_iret rfl (Or.inr rfl) (Exists.intro _ (Exists.intro _ (And.intro rfl H)))
  · have H := H.2 c
    refine zq_aload (pc' := 20) rfl rfl rfl rfl ?_
    refine zq_ipush (pc' := 22) rfl rfl rfl ?_
    refine hq_calli (pc' := 25) rfl rfl rfl rfl rfl rfl h_Xi ?_
    refine hmonoi H ?_
    intro x3 g1 e2 H
    refine zq_ifne_c (pc' := 28) (lt := [(0, .ref 1026), (1, .int l1), (2, .int l2)]) (lf := [(0, .ref 1026), (1, .int l1), (2, .int l2)]) rfl rfl rfl rfl (And.intro (fun c => ?_) (fun c => ?_))
    · have H := H.1 c
      refine zq_aload (pc' := 29) rfl rfl rfl rfl ?_
      refine zq_ipush (pc' := 31) rfl rfl rfl ?_
      refine hq_calli (pc' := 34) rfl rfl rfl rfl rfl rfl h_Xi ?_
      refine hmonoi H ?_
      intro x6 g4 e5 H
      refine zq_ifeq_c (pc' := 37) (lt := [(0, .ref 1026), (1, .int l1), (2, .int l2)]) (lf := [(0, .ref 1026), (1, .int l1), (2, .int l2)]) rfl rfl rfl rfl (And.intro (fun c => ?_) (fun c => ?_))
      · have H := H.1 c
        refine zq_ipush (pc' := 83) rfl rfl rfl ?_
        exact zq_iret rfl (Or.inr rfl) (Exists.intro _ (Exists.intro _ (And.intro rfl H)))
      · have H := H.2 c
        exact H
    · have H := H.2 c
      exact H
theorem zh_X3_sum_37 {d : Nat} {k : Int32 → hG → hE → Prop} {X : Nat → hG → hE → Prop} {l1 : Int32} {l2 : Int32} {g : hG} {e : hE} (H :
    hci d 73 [.ref 1026, .int 43] g e (fun x3 g1 e2 =>
      zbr (x3 = 0)
      (hcv d 70 [.ref 1026] g1 e2 (fun g4 e5 =>
          hci d 88 [.ref 1026, .int l1] g4 e5 (fun x8 g6 e7 =>
            zbr (x8 = 0)
            (k 0 g6 e7)
            (hD (g6.2.2 1026 7) ∧ 
              hcv d 42 [.ref (g6.2.2 1026 7), .int (-12)] g6 e7 (fun g10 e11 =>
                hwi d zm_X3_sum k X 12 [(0, .ref 1026), (1, .int l1), (2, .int (l2 + 1))] g10 e11) X)) X) X)
      (hcv d 70 [.ref 1026] g1 e2 (fun g12 e13 =>
          hci d 88 [.ref 1026, .int l1] g12 e13 (fun x16 g14 e15 =>
            zbr (x16 = 0)
            (k 0 g14 e15)
            (hD (g14.2.2 1026 7) ∧ 
              hcv d 42 [.ref (g14.2.2 1026 7), .int (-11)] g14 e15 (fun g18 e19 =>
                hwi d zm_X3_sum k X 12 [(0, .ref 1026), (1, .int l1), (2, .int (l2 + 1))] g18 e19) X)) X) X)) X) : hwi d zm_X3_sum k X 37 [(0, .ref 1026), (1, .int l1), (2, .int l2)] g e := by
  refine zq_aload (pc' := 38) rfl rfl rfl rfl ?_
  refine zq_ipush (pc' := 40) rfl rfl rfl ?_
  refine hq_calli (pc' := 43) rfl rfl rfl rfl rfl rfl h_Xi ?_
  refine hmonoi H ?_
  intro x3 g1 e2 H
  refine zq_ifeq (pc' := 46) rfl rfl rfl rfl (And.intro (fun c => ?_) (fun c => ?_))
  · have H := H.1 c
    refine zq_ipushn (pc' := 53) rfl rfl rfl ?_
    refine zq_istore (pc' := 54) rfl rfl rfl ?_
    refine zq_aload (pc' := 55) rfl rfl rfl rfl ?_
    refine hq_callv (pc' := 58) rfl rfl rfl rfl rfl rfl h_Xi ?_
    refine hmonov H ?_
    intro g4 e5 H
    refine zq_aload (pc' := 59) rfl rfl rfl rfl ?_
    refine zq_iload (pc' := 60) rfl rfl rfl rfl ?_
    refine hq_calli (pc' := 63) rfl rfl rfl rfl rfl rfl h_Xi ?_
    refine hmonoi H ?_
    intro x8 g6 e7 H
    refine zq_ifne (pc' := 66) rfl rfl rfl rfl (And.intro (fun c => ?_) (fun c => ?_))
    · have H := H.1 c
      refine zq_ipush (pc' := 67) rfl rfl rfl ?_
      exact zq_iret rfl (Or.inl rfl) (Exists.intro _ (Exists.intro _ (And.intro rfl H)))
    · have H := H.2 c
      refine zq_aload (pc' := 69) rfl rfl rfl rfl ?_
      obtain ⟨hr9, H⟩ := H
      refine zq_getR (pc' := 72) rfl rfl rfl (hp_gR rfl) ?_
      refine zq_iload (pc' := 73) rfl rfl rfl rfl ?_
      refine hq_callv (pc' := 76) rfl rfl rfl rfl rfl rfl h_Xi ?_
      refine hmonov H ?_
      intro g10 e11 H
      refine zq_iinc (pc' := 79) rfl rfl rfl rfl ?_
      refine zq_goto_c (pc' := 12) rfl rfl ?_
      exact H
  · have H := H.2 c
    refine zq_ipushn (pc' := 48) rfl rfl rfl ?_
    refine zq_goto (pc' := 53) rfl rfl rfl ?_
    refine zq_istore (pc' := 54) rfl rfl rfl ?_
    refine zq_aload (pc' := 55) rfl rfl rfl rfl ?_
    refine hq_callv (pc' := 58) rfl rfl rfl rfl rfl rfl h_Xi ?_
    refine hmonov H ?_
    intro g12 e13 H
    refine zq_aload (pc' := 59) rfl rfl rfl rfl ?_
    refine zq_iload (pc' := 60) rfl rfl rfl rfl ?_
    refine hq_calli (pc' := 63) rfl rfl rfl rfl rfl rfl h_Xi ?_
    refine hmonoi H ?_
    intro x16 g14 e15 H
    refine zq_ifne (pc' := 66) rfl rfl rfl rfl (And.intro (fun c => ?_) (fun c => ?_))
    · have H := H.1 c
      refine zq_ipush (pc' := 67) rfl rfl rfl ?_
      exact zq_iret rfl (Or.inl rfl) (Exists.intro _ (Exists.intro _ (And.intro rfl H)))
    · have H := H.2 c
      refine zq_aload (pc' := 69) rfl rfl rfl rfl ?_
      obtain ⟨hr17, H⟩ := H
      refine zq_getR (pc' := 72) rfl rfl rfl (hp_gR rfl) ?_
      refine zq_iload (pc' := 73) rfl rfl rfl rfl ?_
      refine hq_callv (pc' := 76) rfl rfl rfl rfl rfl rfl h_Xi ?_
      refine hmonov H ?_
      intro g18 e19 H
      refine zq_iinc (pc' := 79) rfl rfl rfl rfl ?_
      refine zq_goto_c (pc' := 12) rfl rfl ?_
      exact H
theorem zh_X3_product {d : Nat} {k : Int32 → hG → hE → Prop} {X : Nat → hG → hE → Prop} {p1 : Int32} {g : hG} {e : hE} (H :
    hci d 89 [.ref 1026, .int p1] g e (fun x3 g1 e2 =>
      zbr (x3 = 0)
      (k 0 g1 e2)
      (hwi d zm_X3_product k X 12 [(0, .ref 1026), (1, .int p1), (2, .int 0)] g1 e2)) X) : hci (d + 1) 88 [.ref 1026, .int p1] g e k X := by
  refine hent (M := zm_X3_product) (show hT 1026 = some (.inr _) from rfl) rfl rfl rfl rfl rfl ?_
  refine zq_aload (pc' := 1) rfl rfl rfl rfl ?_
  refine zq_iload (pc' := 2) rfl rfl rfl rfl ?_
  refine hq_calli (pc' := 5) rfl rfl rfl rfl rfl rfl h_Xi ?_
  refine hmonoi H ?_
  intro x3 g1 e2 H
  refine zq_ifne (pc' := 8) rfl rfl rfl rfl (And.intro (fun c => ?_) (fun c => ?_))
  · have H := H.1 c
    refine zq_ipush (pc' := 9) rfl rfl rfl ?_
    exact zq_iret rfl (Or.inl rfl) (Exists.intro _ (Exists.intro _ (And.intro rfl H)))
  · have H := H.2 c
    refine zq_ipush (pc' := 11) rfl rfl rfl ?_
    refine zq_istore_c (pc' := 12) rfl rfl ?_
    exact H
theorem zh_X3_product_12 {d : Nat} {k : Int32 → hG → hE → Prop} {X : Nat → hG → hE → Prop} {l1 : Int32} {l2 : Int32} {g : hG} {e : hE} (H :
    zbr (700 ≤ l2)
    (k 1 g e)
    (hci d 73 [.ref 1026, .int 42] g e (fun x3 g1 e2 =>
        zbr (x3 = 0)
        (hci d 73 [.ref 1026, .int 47] g1 e2 (fun x6 g4 e5 =>
            zbr (x6 = 0)
            (k 1 g4 e5)
            (hwi d zm_X3_product k X 37 [(0, .ref 1026), (1, .int l1), (2, .int l2)] g4 e5)) X)
        (hwi d zm_X3_product k X 37 [(0, .ref 1026), (1, .int l1), (2, .int l2)] g1 e2)) X)) : hwi d zm_X3_product k X 12 [(0, .ref 1026), (1, .int l1), (2, .int l2)] g e := by
  refine zq_iload (pc' := 13) rfl rfl rfl rfl ?_
  refine zq_ipush (pc' := 16) rfl rfl rfl ?_
  refine zq_icge (pc' := 19) rfl rfl rfl rfl (And.intro (fun c => ?_) (fun c => ?_))
  · have H := H.1 c
    refine zq_ipush (pc' := 83) rfl rfl rfl ?_
    exact zq_iret rfl (Or.inr rfl) (Exists.intro _ (Exists.intro _ (And.intro rfl H)))
  · have H := H.2 c
    refine zq_aload (pc' := 20) rfl rfl rfl rfl ?_
    refine zq_ipush (pc' := 22) rfl rfl rfl ?_
    refine hq_calli (pc' := 25) rfl rfl rfl rfl rfl rfl h_Xi ?_
    refine hmonoi H ?_
    intro x3 g1 e2 H
    refine zq_ifne_c (pc' := 28) (lt := [(0, .ref 1026), (1, .int l1), (2, .int l2)]) (lf := [(0, .ref 1026), (1, .int l1), (2, .int l2)]) rfl rfl rfl rfl (And.intro (fun c => ?_) (fun c => ?_))
    · have H := H.1 c
      refine zq_aload (pc' := 29) rfl rfl rfl rfl ?_
      refine zq_ipush (pc' := 31) rfl rfl rfl ?_
      refine hq_calli (pc' := 34) rfl rfl rfl rfl rfl rfl h_Xi ?_
      refine hmonoi H ?_
      intro x6 g4 e5 H
      refine zq_ifeq_c (pc' := 37) (lt := [(0, .ref 1026), (1, .int l1), (2, .int l2)]) (lf := [(0, .ref 1026), (1, .int l1), (2, .int l2)]) rfl rfl rfl rfl (And.intro (fun c => ?_) (fun c => ?_))
      · have H := H.1 c
        refine zq_ipush (pc' := 83) rfl rfl rfl ?_
        exact zq_iret rfl (Or.inr rfl) (Exists.intro _ (Exists.intro _ (And.intro rfl H)))
      · have H := H.2 c
        exact H
    · have H := H.2 c
      exact H
theorem zh_X3_product_37 {d : Nat} {k : Int32 → hG → hE → Prop} {X : Nat → hG → hE → Prop} {l1 : Int32} {l2 : Int32} {g : hG} {e : hE} (H :
    hci d 73 [.ref 1026, .int 42] g e (fun x3 g1 e2 =>
      zbr (x3 = 0)
      (hcv d 70 [.ref 1026] g1 e2 (fun g4 e5 =>
          hci d 89 [.ref 1026, .int l1] g4 e5 (fun x8 g6 e7 =>
            zbr (x8 = 0)
            (k 0 g6 e7)
            (hD (g6.2.2 1026 7) ∧ 
              hcv d 42 [.ref (g6.2.2 1026 7), .int (-14)] g6 e7 (fun g10 e11 =>
                hwi d zm_X3_product k X 12 [(0, .ref 1026), (1, .int l1), (2, .int (l2 + 1))] g10 e11) X)) X) X)
      (hcv d 70 [.ref 1026] g1 e2 (fun g12 e13 =>
          hci d 89 [.ref 1026, .int l1] g12 e13 (fun x16 g14 e15 =>
            zbr (x16 = 0)
            (k 0 g14 e15)
            (hD (g14.2.2 1026 7) ∧ 
              hcv d 42 [.ref (g14.2.2 1026 7), .int (-13)] g14 e15 (fun g18 e19 =>
                hwi d zm_X3_product k X 12 [(0, .ref 1026), (1, .int l1), (2, .int (l2 + 1))] g18 e19) X)) X) X)) X) : hwi d zm_X3_product k X 37 [(0, .ref 1026), (1, .int l1), (2, .int l2)] g e := by
  refine zq_aload (pc' := 38) rfl rfl rfl rfl ?_
  refine zq_ipush (pc' := 40) rfl rfl rfl ?_
  refine hq_calli (pc' := 43) rfl rfl rfl rfl rfl rfl h_Xi ?_
  refine hmonoi H ?_
  intro x3 g1 e2 H
  refine zq_ifeq (pc' := 46) rfl rfl rfl rfl (And.intro (fun c => ?_) (fun c => ?_))
  · have H := H.1 c
    refine zq_ipushn (pc' := 53) rfl rfl rfl ?_
    refine zq_istore (pc' := 54) rfl rfl rfl ?_
    refine zq_aload (pc' := 55) rfl rfl rfl rfl ?_
    refine hq_callv (pc' := 58) rfl rfl rfl rfl rfl rfl h_Xi ?_
    refine hmonov H ?_
    intro g4 e5 H
    refine zq_aload (pc' := 59) rfl rfl rfl rfl ?_
    refine zq_iload (pc' := 60) rfl rfl rfl rfl ?_
    refine hq_calli (pc' := 63) rfl rfl rfl rfl rfl rfl h_Xi ?_
    refine hmonoi H ?_
    intro x8 g6 e7 H
    refine zq_ifne (pc' := 66) rfl rfl rfl rfl (And.intro (fun c => ?_) (fun c => ?_))
    · have H := H.1 c
      refine zq_ipush (pc' := 67) rfl rfl rfl ?_
      exact zq_iret rfl (Or.inl rfl) (Exists.intro _ (Exists.intro _ (And.intro rfl H)))
    · have H := H.2 c
      refine zq_aload (pc' := 69) rfl rfl rfl rfl ?_
      obtain ⟨hr9, H⟩ := H
      refine zq_getR (pc' := 72) rfl rfl rfl (hp_gR rfl) ?_
      refine zq_iload (pc' := 73) rfl rfl rfl rfl ?_
      refine hq_callv (pc' := 76) rfl rfl rfl rfl rfl rfl h_Xi ?_
      refine hmonov H ?_
      intro g10 e11 H
      refine zq_iinc (pc' := 79) rfl rfl rfl rfl ?_
      refine zq_goto_c (pc' := 12) rfl rfl ?_
      exact H
  · have H := H.2 c
    refine zq_ipushn (pc' := 48) rfl rfl rfl ?_
    refine zq_goto (pc' := 53) rfl rfl rfl ?_
    refine zq_istore (pc' := 54) rfl rfl rfl ?_
    refine zq_aload (pc' := 55) rfl rfl rfl rfl ?_
    refine hq_callv (pc' := 58) rfl rfl rfl rfl rfl rfl h_Xi ?_
    refine hmonov H ?_
    intro g12 e13 H
    refine zq_aload (pc' := 59) rfl rfl rfl rfl ?_
    refine zq_iload (pc' := 60) rfl rfl rfl rfl ?_
    refine hq_calli (pc' := 63) rfl rfl rfl rfl rfl rfl h_Xi ?_
    refine hmonoi H ?_
    intro x16 g14 e15 H
    refine zq_ifne (pc' := 66) rfl rfl rfl rfl (And.intro (fun c => ?_) (fun c => ?_))
    · have H := H.1 c
      refine zq_ipush (pc' := 67) rfl rfl rfl ?_
      exact zq_iret rfl (Or.inl rfl) (Exists.intro _ (Exists.intro _ (And.intro rfl H)))
    · have H := H.2 c
      refine zq_aload (pc' := 69) rfl rfl rfl rfl ?_
      obtain ⟨hr17, H⟩ := H
      refine zq_getR (pc' := 72) rfl rfl rfl (hp_gR rfl) ?_
      refine zq_iload (pc' := 73) rfl rfl rfl rfl ?_
      refine hq_callv (pc' := 76) rfl rfl rfl rfl rfl rfl h_Xi ?_
      refine hmonov H ?_
      intro g18 e19 H
      refine zq_iinc (pc' := 79) rfl rfl rfl rfl ?_
      refine zq_goto_c (pc' := 12) rfl rfl ?_
      exact H
theorem zh_X3_part {d : Nat} {k : Int32 → hG → hE → Prop} {X : Nat → hG → hE → Prop} {p1 : Int32} {g : hG} {e : hE} (H :
    hci d 73 [.ref 1026, .int 40] g e (fun x3 g1 e2 =>
      zbr (x3 = 0)
      (zbr ((g1.1 1026 2) = 2)
        (hwi d zm_X3_part k X 60 [(0, .ref 1026)] g1 e2)
        (zbr ((g1.1 1026 2) = 1)
          (hwi d zm_X3_part k X 60 [(0, .ref 1026)] g1 e2)
          (hci d 74 [.ref 1026, .int 1] g1 e2 (fun x6 g4 e5 =>
              (x6 = 0 ∨ x6 = 1) ∧ k x6 g4 e5) X)))
      (hcv d 70 [.ref 1026] g1 e2 (fun g7 e8 =>
          hci d 82 [.ref 1026, .int (p1 + 1)] g7 e8 (fun x11 g9 e10 =>
            zbr (x11 = 0)
            (k 0 g9 e10)
            (hci d 75 [.ref 1026, .int 41] g9 e10 (fun x14 g12 e13 =>
                zbr (x14 = 0)
                (k 0 g12 e13)
                (k 1 g12 e13)) X)) X) X)) X) : hci (d + 1) 89 [.ref 1026, .int p1] g e k X := by
  refine hent (M := zm_X3_part) (show hT 1026 = some (.inr _) from rfl) rfl rfl rfl rfl rfl ?_
  refine zq_aload (pc' := 1) rfl rfl rfl rfl ?_
  refine zq_ipush (pc' := 3) rfl rfl rfl ?_
  refine hq_calli (pc' := 6) rfl rfl rfl rfl rfl rfl h_Xi ?_
  refine hmonoi H ?_
  intro x3 g1 e2 H
  refine zq_ifeq (pc' := 9) rfl rfl rfl rfl (And.intro (fun c => ?_) (fun c => ?_))
  · have H := H.1 c
    refine zq_aload (pc' := 39) rfl rfl rfl rfl ?_
    refine zq_getI (pc' := 42) rfl rfl rfl (hp_gI rfl) ?_
    refine zq_ipush (pc' := 43) rfl rfl rfl ?_
    refine zq_iceq_c (pc' := 46) (lt := [(0, .ref 1026)]) (lf := [(0, .ref 1026), (1, .int p1)]) rfl rfl rfl rfl (And.intro (fun c => ?_) (fun c => ?_))
    · have H := H.1 c
      exact H
    · have H := H.2 c
      refine zq_aload (pc' := 47) rfl rfl rfl rfl ?_
      refine zq_getI (pc' := 50) rfl rfl rfl (hp_gI rfl) ?_
      refine zq_ipush (pc' := 51) rfl rfl rfl ?_
      refine zq_iceq_c (pc' := 54) (lt := [(0, .ref 1026)]) (lf := [(0, .ref 1026), (1, .int p1)]) rfl rfl rfl rfl (And.intro (fun c => ?_) (fun c => ?_))
      · have H := H.1 c
        exact H
      · have H := H.2 c
        refine zq_aload (pc' := 55) rfl rfl rfl rfl ?_
        refine zq_ipush (pc' := 56) rfl rfl rfl ?_
        refine hq_calli (pc' := 59) rfl rfl rfl rfl rfl rfl h_Xi ?_
        refine hmonoi H ?_
        intro x6 g4 e5 H
        exact zq_iret rfl H.1 (Exists.intro _ (Exists.intro _ (And.intro rfl H.2)))
  · have H := H.2 c
    refine zq_aload (pc' := 10) rfl rfl rfl rfl ?_
    refine hq_callv (pc' := 13) rfl rfl rfl rfl rfl rfl h_Xi ?_
    refine hmonov H ?_
    intro g7 e8 H
    refine zq_aload (pc' := 14) rfl rfl rfl rfl ?_
    refine zq_iload (pc' := 15) rfl rfl rfl rfl ?_
    refine zq_ipush (pc' := 16) rfl rfl rfl ?_
    refine zq_iadd (pc' := 17) rfl rfl rfl ?_
    refine hq_calli (pc' := 20) rfl rfl rfl rfl rfl rfl h_Xi ?_
    refine hmonoi H ?_
    intro x11 g9 e10 H
    refine zq_ifeq (pc' := 23) rfl rfl rfl rfl (And.intro (fun c => ?_) (fun c => ?_))
    · have H := H.1 c
      refine zq_ipush (pc' := 37) rfl rfl rfl ?_
      exact zq_iret rfl (Or.inl rfl) (Exists.intro _ (Exists.intro _ (And.intro rfl H)))
    · have H := H.2 c
      refine zq_aload (pc' := 24) rfl rfl rfl rfl ?_
      refine zq_ipush (pc' := 26) rfl rfl rfl ?_
      refine hq_calli (pc' := 29) rfl rfl rfl rfl rfl rfl h_Xi ?_
      refine hmonoi H ?_
      intro x14 g12 e13 H
      refine zq_ifeq (pc' := 32) rfl rfl rfl rfl (And.intro (fun c => ?_) (fun c => ?_))
      · have H := H.1 c
        refine zq_ipush (pc' := 37) rfl rfl rfl ?_
        exact zq_iret rfl (Or.inl rfl) (Exists.intro _ (Exists.intro _ (And.intro rfl H)))
      · have H := H.2 c
        refine zq_ipush (pc' := 33) rfl rfl rfl ?_
        refine zq_goto (pc' := 37) rfl rfl rfl ?_
        exact zq_iret rfl (Or.inr rfl) (Exists.intro _ (Exists.intro _ (And.intro rfl H)))
theorem zh_X3_part_60 {d : Nat} {k : Int32 → hG → hE → Prop} {X : Nat → hG → hE → Prop}  {g : hG} {e : hE} (H :
    zbr ((g.1 1026 2) = 2)
    (zbr ((g.1 1026 5) < 10000)
      (zbr ((g.1 1026 5) = (-99))
        (hci d 74 [.ref 1026, .int 3] g e (fun x3 g1 e2 =>
            (x3 = 0 ∨ x3 = 1) ∧ k x3 g1 e2) X)
        (hD (g.2.2 1026 7) ∧ 
          hcv d 42 [.ref (g.2.2 1026 7), .int (g.1 1026 5)] g e (fun g5 e6 =>
            hcv d 70 [.ref 1026] g5 e6 (fun g7 e8 =>
              k 1 g7 e8) X) X))
      (hci d 74 [.ref 1026, .int 2] g e (fun x11 g9 e10 =>
          (x11 = 0 ∨ x11 = 1) ∧ k x11 g9 e10) X))
    (hci d 90 [.ref 1026] g e (fun x14 g12 e13 =>
        zbr (x14 < 10000)
        (zbr (x14 = (-99))
          (hci d 74 [.ref 1026, .int 3] g12 e13 (fun x17 g15 e16 =>
              (x17 = 0 ∨ x17 = 1) ∧ k x17 g15 e16) X)
          (hD (g12.2.2 1026 7) ∧ 
            hcv d 42 [.ref (g12.2.2 1026 7), .int x14] g12 e13 (fun g19 e20 =>
              hcv d 70 [.ref 1026] g19 e20 (fun g21 e22 =>
                k 1 g21 e22) X) X))
        (hci d 74 [.ref 1026, .int 2] g12 e13 (fun x25 g23 e24 =>
            (x25 = 0 ∨ x25 = 1) ∧ k x25 g23 e24) X)) X)) : hwi d zm_X3_part k X 60 [(0, .ref 1026)] g e := by
  refine zq_aload (pc' := 61) rfl rfl rfl rfl ?_
  refine zq_getI (pc' := 64) rfl rfl rfl (hp_gI rfl) ?_
  refine zq_ipush (pc' := 65) rfl rfl rfl ?_
  refine zq_icne (pc' := 68) rfl rfl rfl rfl (And.intro (fun c => ?_) (fun c => ?_))
  · have H := H.1 c
    refine zq_aload (pc' := 69) rfl rfl rfl rfl ?_
    refine zq_getI (pc' := 72) rfl rfl rfl (hp_gI rfl) ?_
    refine zq_goto (pc' := 79) rfl rfl rfl ?_
    refine zq_istore (pc' := 80) rfl rfl rfl ?_
    refine zq_iload (pc' := 81) rfl rfl rfl rfl ?_
    refine zq_ipush (pc' := 84) rfl rfl rfl ?_
    refine zq_iclt (pc' := 87) rfl rfl rfl rfl (And.intro (fun c => ?_) (fun c => ?_))
    · have H := H.1 c
      refine zq_iload (pc' := 94) rfl rfl rfl rfl ?_
      refine zq_ipushn (pc' := 96) rfl rfl rfl ?_
      refine zq_icne (pc' := 99) rfl rfl rfl rfl (And.intro (fun c => ?_) (fun c => ?_))
      · have H := H.1 c
        refine zq_aload (pc' := 100) rfl rfl rfl rfl ?_
        refine zq_ipush (pc' := 101) rfl rfl rfl ?_
        refine hq_calli (pc' := 104) rfl rfl rfl rfl rfl rfl h_Xi ?_
        refine hmonoi H ?_
        intro x3 g1 e2 H
        exact zq_iret rfl H.1 (Exists.intro _ (Exists.intro _ (And.intro rfl H.2)))
      · have H := H.2 c
        refine zq_aload (pc' := 106) rfl rfl rfl rfl ?_
        obtain ⟨hr4, H⟩ := H
        refine zq_getR (pc' := 109) rfl rfl rfl (hp_gR rfl) ?_
        refine zq_iload (pc' := 110) rfl rfl rfl rfl ?_
        refine hq_callv (pc' := 113) rfl rfl rfl rfl rfl rfl h_Xi ?_
        refine hmonov H ?_
        intro g5 e6 H
        refine zq_aload (pc' := 114) rfl rfl rfl rfl ?_
        refine hq_callv (pc' := 117) rfl rfl rfl rfl rfl rfl h_Xi ?_
        refine hmonov H ?_
        intro g7 e8 H
        refine zq_ipush (pc' := 118) rfl rfl rfl ?_
        exact zq_iret rfl (Or.inr rfl) (Exists.intro _ (Exists.intro _ (And.intro rfl H)))
    · have H := H.2 c
      refine zq_aload (pc' := 88) rfl rfl rfl rfl ?_
      refine zq_ipush (pc' := 89) rfl rfl rfl ?_
      refine hq_calli (pc' := 92) rfl rfl rfl rfl rfl rfl h_Xi ?_
      refine hmonoi H ?_
      intro x11 g9 e10 H
      exact zq_iret rfl H.1 (Exists.intro _ (Exists.intro _ (And.intro rfl H.2)))
  · have H := H.2 c
    refine zq_aload (pc' := 76) rfl rfl rfl rfl ?_
    refine hq_calli (pc' := 79) rfl rfl rfl rfl rfl rfl h_Xi ?_
    refine hmonoi H ?_
    intro x14 g12 e13 H
    refine zq_istore (pc' := 80) rfl rfl rfl ?_
    refine zq_iload (pc' := 81) rfl rfl rfl rfl ?_
    refine zq_ipush (pc' := 84) rfl rfl rfl ?_
    refine zq_iclt (pc' := 87) rfl rfl rfl rfl (And.intro (fun c => ?_) (fun c => ?_))
    · have H := H.1 c
      refine zq_iload (pc' := 94) rfl rfl rfl rfl ?_
      refine zq_ipushn (pc' := 96) rfl rfl rfl ?_
      refine zq_icne (pc' := 99) rfl rfl rfl rfl (And.intro (fun c => ?_) (fun c => ?_))
      · have H := H.1 c
        refine zq_aload (pc' := 100) rfl rfl rfl rfl ?_
        refine zq_ipush (pc' := 101) rfl rfl rfl ?_
        refine hq_calli (pc' := 104) rfl rfl rfl rfl rfl rfl h_Xi ?_
        refine hmonoi H ?_
        intro x17 g15 e16 H
        exact zq_iret rfl H.1 (Exists.intro _ (Exists.intro _ (And.intro rfl H.2)))
      · have H := H.2 c
        refine zq_aload (pc' := 106) rfl rfl rfl rfl ?_
        obtain ⟨hr18, H⟩ := H
        refine zq_getR (pc' := 109) rfl rfl rfl (hp_gR rfl) ?_
        refine zq_iload (pc' := 110) rfl rfl rfl rfl ?_
        refine hq_callv (pc' := 113) rfl rfl rfl rfl rfl rfl h_Xi ?_
        refine hmonov H ?_
        intro g19 e20 H
        refine zq_aload (pc' := 114) rfl rfl rfl rfl ?_
        refine hq_callv (pc' := 117) rfl rfl rfl rfl rfl rfl h_Xi ?_
        refine hmonov H ?_
        intro g21 e22 H
        refine zq_ipush (pc' := 118) rfl rfl rfl ?_
        exact zq_iret rfl (Or.inr rfl) (Exists.intro _ (Exists.intro _ (And.intro rfl H)))
    · have H := H.2 c
      refine zq_aload (pc' := 88) rfl rfl rfl rfl ?_
      refine zq_ipush (pc' := 89) rfl rfl rfl ?_
      refine hq_calli (pc' := 92) rfl rfl rfl rfl rfl rfl h_Xi ?_
      refine hmonoi H ?_
      intro x25 g23 e24 H
      exact zq_iret rfl H.1 (Exists.intro _ (Exists.intro _ (And.intro rfl H.2)))
theorem zh_X3_valueStep {d : Nat} {k : Int32 → hG → hE → Prop} {X : Nat → hG → hE → Prop}  {g : hG} {e : hE} (H :
    hci d 72 [.ref 1026, .ref 6] g e (fun x3 g1 e2 =>
      zbr (x3 = 0)
      (hci d 72 [.ref 1026, .ref 20] g1 e2 (fun x6 g4 e5 =>
          zbr (x6 = 0)
          (hci d 72 [.ref 1026, .ref 22] g4 e5 (fun x9 g7 e8 =>
              zbr (x9 = 0)
              (hci d 72 [.ref 1026, .ref 24] g7 e8 (fun x12 g10 e11 =>
                  zbr (x12 = 0)
                  (zbr ((g10.1 1026 8) = 0)
                    (hci d 72 [.ref 1026, .ref 28] g10 e11 (fun x15 g13 e14 =>
                        zbr (x15 = 0)
                        (k (-99) g13 e14)
                        (k (-5) g13 e14)) X)
                    (hci d 72 [.ref 1026, .ref 26] g10 e11 (fun x18 g16 e17 =>
                        zbr (x18 = 0)
                        (k (-99) g16 e17)
                        (k (-5) g16 e17)) X))
                  (k (-4) g10 e11)) X)
              (k (-3) g7 e8)) X)
          (k (-2) g4 e5)) X)
      (k (-1) g1 e2)) X) : hci (d + 1) 90 [.ref 1026] g e k X := by
  refine hent (M := zm_X3_valueStep) (show hT 1026 = some (.inr _) from rfl) rfl rfl rfl rfl rfl ?_
  refine zq_aload (pc' := 1) rfl rfl rfl rfl ?_
  refine zq_rpush (pc' := 3) rfl rfl rfl ?_
  refine hq_calli (pc' := 6) rfl rfl rfl rfl rfl rfl h_Xi ?_
  refine hmonoi H ?_
  intro x3 g1 e2 H
  refine zq_ifeq (pc' := 9) rfl rfl rfl rfl (And.intro (fun c => ?_) (fun c => ?_))
  · have H := H.1 c
    refine zq_aload (pc' := 12) rfl rfl rfl rfl ?_
    refine zq_rpush (pc' := 14) rfl rfl rfl ?_
    refine hq_calli (pc' := 17) rfl rfl rfl rfl rfl rfl h_Xi ?_
    refine hmonoi H ?_
    intro x6 g4 e5 H
    refine zq_ifeq (pc' := 20) rfl rfl rfl rfl (And.intro (fun c => ?_) (fun c => ?_))
    · have H := H.1 c
      refine zq_aload (pc' := 24) rfl rfl rfl rfl ?_
      refine zq_rpush (pc' := 26) rfl rfl rfl ?_
      refine hq_calli (pc' := 29) rfl rfl rfl rfl rfl rfl h_Xi ?_
      refine hmonoi H ?_
      intro x9 g7 e8 H
      refine zq_ifeq (pc' := 32) rfl rfl rfl rfl (And.intro (fun c => ?_) (fun c => ?_))
      · have H := H.1 c
        refine zq_aload (pc' := 36) rfl rfl rfl rfl ?_
        refine zq_rpush (pc' := 38) rfl rfl rfl ?_
        refine hq_calli (pc' := 41) rfl rfl rfl rfl rfl rfl h_Xi ?_
        refine hmonoi H ?_
        intro x12 g10 e11 H
        refine zq_ifeq (pc' := 44) rfl rfl rfl rfl (And.intro (fun c => ?_) (fun c => ?_))
        · have H := H.1 c
          refine zq_aload (pc' := 48) rfl rfl rfl rfl ?_
          refine zq_aload (pc' := 49) rfl rfl rfl rfl ?_
          refine zq_getI (pc' := 52) rfl rfl rfl (hp_gI rfl) ?_
          refine zq_ifeq (pc' := 55) rfl rfl rfl rfl (And.intro (fun c => ?_) (fun c => ?_))
          · have H := H.1 c
            refine zq_rpush (pc' := 62) rfl rfl rfl ?_
            refine hq_calli (pc' := 65) rfl rfl rfl rfl rfl rfl h_Xi ?_
            refine hmonoi H ?_
            intro x15 g13 e14 H
            refine zq_ifeq (pc' := 68) rfl rfl rfl rfl (And.intro (fun c => ?_) (fun c => ?_))
            · have H := H.1 c
              refine zq_ipushn (pc' := 75) rfl rfl rfl ?_
              exact zq_iret rfl trivial (Exists.intro _ (Exists.intro _ (And.intro rfl H)))
            · have H := H.2 c
              refine zq_ipushn (pc' := 70) rfl rfl rfl ?_
              refine zq_goto (pc' := 75) rfl rfl rfl ?_
              exact zq_iret rfl trivial (Exists.intro _ (Exists.intro _ (And.intro rfl H)))
          · have H := H.2 c
            refine zq_rpush (pc' := 57) rfl rfl rfl ?_
            refine zq_goto (pc' := 62) rfl rfl rfl ?_
            refine hq_calli (pc' := 65) rfl rfl rfl rfl rfl rfl h_Xi ?_
            refine hmonoi H ?_
            intro x18 g16 e17 H
            refine zq_ifeq (pc' := 68) rfl rfl rfl rfl (And.intro (fun c => ?_) (fun c => ?_))
            · have H := H.1 c
              refine zq_ipushn (pc' := 75) rfl rfl rfl ?_
              exact zq_iret rfl trivial (Exists.intro _ (Exists.intro _ (And.intro rfl H)))
            · have H := H.2 c
              refine zq_ipushn (pc' := 70) rfl rfl rfl ?_
              refine zq_goto (pc' := 75) rfl rfl rfl ?_
              exact zq_iret rfl trivial (Exists.intro _ (Exists.intro _ (And.intro rfl H)))
        · have H := H.2 c
          refine zq_ipushn (pc' := 46) rfl rfl rfl ?_
          exact zq_iret rfl trivial (Exists.intro _ (Exists.intro _ (And.intro rfl H)))
      · have H := H.2 c
        refine zq_ipushn (pc' := 34) rfl rfl rfl ?_
        exact zq_iret rfl trivial (Exists.intro _ (Exists.intro _ (And.intro rfl H)))
    · have H := H.2 c
      refine zq_ipushn (pc' := 22) rfl rfl rfl ?_
      exact zq_iret rfl trivial (Exists.intro _ (Exists.intro _ (And.intro rfl H)))
  · have H := H.2 c
    refine zq_ipushn (pc' := 10) rfl rfl rfl ?_
    exact zq_iret rfl trivial (Exists.intro _ (Exists.intro _ (And.intro rfl H)))
