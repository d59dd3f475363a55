theorem zh_X3_faultAt {d : Nat} {k : Int32 → hG → hE → Prop} {X : Nat → hG → hE → Prop}  {g : hG} {e : hE} (H :
    k (g.1 1001 4) g e) : hci (d + 1) 64 [.ref 1001] g e k X := by
  refine hent (M := zm_X3_faultAt) (show hT 1001 = some (.inr _) from rfl) rfl rfl rfl rfl rfl ?_
  refine zq_aload (pc' := 1) rfl rfl rfl rfl ?_
  refine zq_getI (pc' := 4) rfl rfl rfl (hp_gI rfl) ?_
  exact zq_iret rfl trivial (Exists.intro _ (Exists.intro _ (And.intro rfl H)))
theorem zh_X3_read {d : Nat} {k : Int32 → hG → hE → Prop} {X : Nat → hG → hE → Prop} {p1 : Int32} {g : hG} {e : hE} (H :
    hci d 3 [.int p1, .int (nI 700)] g e (fun x3 g1 e2 =>
      hci d 2 [.int 0, .int x3] g1 e2 (fun x6 g4 e5 =>
        hD ((sI (sI (sI (sI g4 1001 2 x6) 1001 1 0) 1001 5 0) 1001 6 0).2.2 1001 7) ∧ 
        hcv d 37 [.ref ((sI (sI (sI (sI g4 1001 2 x6) 1001 1 0) 1001 5 0) 1001 6 0).2.2 1001 7)] (sI (sI (sI (sI g4 1001 2 x6) 1001 1 0) 1001 5 0) 1001 6 0) e5 (fun g8 e9 =>
          hcv d 70 [.ref 1001] g8 e9 (fun g10 e11 =>
            hwi d zm_X3_read k X 45 [(0, .ref 1001), (2, .int 0)] g10 e11) X) X) X) X) : hci (d + 1) 65 [.ref 1001, .int p1] g e k X := by
  refine hent (M := zm_X3_read) (show hT 1001 = some (.inr _) from rfl) rfl rfl rfl rfl rfl ?_
  refine zq_aload (pc' := 1) rfl rfl rfl rfl ?_
  refine zq_ipush (pc' := 2) rfl rfl rfl ?_
  refine zq_iload (pc' := 3) rfl rfl rfl rfl ?_
  refine zq_aload (pc' := 4) rfl rfl rfl rfl ?_
  refine zq_getR (pc' := 7) rfl rfl rfl (hp_gC rfl) ?_
  refine zq_alen (pc' := 8) rfl rfl rfl (hp_al rfl rfl) ?_
  refine hq_calli (pc' := 11) rfl rfl rfl rfl rfl rfl h_Xi ?_
  refine hmonoi H ?_
  intro x3 g1 e2 H
  refine hq_calli (pc' := 14) rfl rfl rfl rfl rfl rfl h_Xi ?_
  refine hmonoi H ?_
  intro x6 g4 e5 H
  refine zq_put (pc' := 17) rfl rfl rfl trivial (hp_sI rfl) ?_
  refine zq_aload (pc' := 18) rfl rfl rfl rfl ?_
  refine zq_ipush (pc' := 19) rfl rfl rfl ?_
  refine zq_put (pc' := 22) rfl rfl rfl trivial (hp_sI rfl) ?_
  refine zq_aload (pc' := 23) rfl rfl rfl rfl ?_
  refine zq_ipush (pc' := 24) rfl rfl rfl ?_
  refine zq_put (pc' := 27) rfl rfl rfl trivial (hp_sI rfl) ?_
  refine zq_aload (pc' := 28) rfl rfl rfl rfl ?_
  refine zq_ipush (pc' := 29) rfl rfl rfl ?_
  refine zq_put (pc' := 32) rfl rfl rfl trivial (hp_sI rfl) ?_
  refine zq_aload (pc' := 33) rfl rfl rfl rfl ?_
  obtain ⟨hr7, H⟩ := H
  refine zq_getR (pc' := 36) rfl rfl rfl (hp_gR rfl) ?_
  refine hq_callv (pc' := 39) rfl rfl rfl rfl rfl rfl h_Xi ?_
  refine hmonov H ?_
  intro g8 e9 H
  refine zq_aload (pc' := 40) rfl rfl rfl rfl ?_
  refine hq_callv (pc' := 43) rfl rfl rfl rfl rfl rfl h_Xi ?_
  refine hmonov H ?_
  intro g10 e11 H
  refine zq_ipush (pc' := 44) rfl rfl rfl ?_
  refine zq_istore_c (pc' := 45) rfl rfl ?_
  exact H
theorem zh_X3_read_45 {d : Nat} {k : Int32 → hG → hE → Prop} {X : Nat → hG → hE → Prop} {l2 : Int32} {g : hG} {e : hE} (H :
    zbr (700 < l2)
    (k 0 g e)
    (zbr ((g.1 1001 3) = 0)
      (k 0 g e)
      (hci d 76 [.ref 1001] g e (fun x3 g1 e2 =>
          zbr (x3 = 0)
          (k (g1.1 1001 6) g1 e2)
          (hwi d zm_X3_read k X 45 [(0, .ref 1001), (2, .int (l2 + 1))] g1 e2)) X))) : hwi d zm_X3_read k X 45 [(0, .ref 1001), (2, .int l2)] g e := by
  refine zq_iload (pc' := 46) rfl rfl rfl rfl ?_
  refine zq_ipush (pc' := 49) rfl rfl rfl ?_
  refine zq_icgt (pc' := 52) rfl rfl rfl rfl (And.intro (fun c => ?_) (fun c => ?_))
  · have H := H.1 c
    refine zq_ipush (pc' := 78) rfl rfl rfl ?_
    exact zq_iret rfl trivial (Exists.intro _ (Exists.intro _ (And.intro rfl H)))
  · have H := H.2 c
    refine zq_aload (pc' := 53) rfl rfl rfl rfl ?_
    refine zq_getI (pc' := 56) rfl rfl rfl (hp_gI rfl) ?_
    refine zq_ifeq (pc' := 59) rfl rfl rfl rfl (And.intro (fun c => ?_) (fun c => ?_))
    · have H := H.1 c
      refine zq_ipush (pc' := 78) rfl rfl rfl ?_
      exact zq_iret rfl trivial (Exists.intro _ (Exists.intro _ (And.intro rfl H)))
    · have H := H.2 c
      refine zq_aload (pc' := 60) rfl rfl rfl rfl ?_
      refine hq_calli (pc' := 63) rfl rfl rfl rfl rfl rfl h_Xi ?_
      refine hmonoi H ?_
      intro x3 g1 e2 H
      refine zq_ifne (pc' := 66) rfl rfl rfl rfl (And.intro (fun c => ?_) (fun c => ?_))
      · have H := H.1 c
        refine zq_aload (pc' := 67) rfl rfl rfl rfl ?_
        refine zq_getI (pc' := 70) rfl rfl rfl (hp_gI rfl) ?_
        exact zq_iret rfl trivial (Exists.intro _ (Exists.intro _ (And.intro rfl H)))
      · have H := H.2 c
        refine zq_iinc (pc' := 74) rfl rfl rfl rfl ?_
        refine zq_goto_c (pc' := 45) rfl rfl ?_
        exact H
theorem zh_X3_byteAt {d : Nat} {k : Int32 → hG → hE → Prop} {X : Nat → hG → hE → Prop} {p1 : Int32} {g : hG} {e : hE} (H :
    zbr (p1 < 0)
    (k 0 g e)
    (zbr ((g.1 1001 2) ≤ p1)
      (k 0 g e)
      (zbr ((nI 700) ≤ p1)
        (k 0 g e)
        (hin p1 700 ∧
          k (g.1 1002 p1.toNatClampNeg) g e)))) : hci (d + 1) 66 [.ref 1001, .int p1] g e k X := by
  refine hent (M := zm_X3_byteAt) (show hT 1001 = some (.inr _) from rfl) rfl rfl rfl rfl rfl ?_
  refine zq_iload (pc' := 1) rfl rfl rfl rfl ?_
  refine zq_iflt (pc' := 4) rfl rfl rfl rfl (And.intro (fun c => ?_) (fun c => ?_))
  · have H := H.1 c
    refine zq_ipush (pc' := 31) rfl rfl rfl ?_
    exact zq_iret rfl trivial (Exists.intro _ (Exists.intro _ (And.intro rfl H)))
  · have H := H.2 c
    refine zq_iload (pc' := 5) rfl rfl rfl rfl ?_
    refine zq_aload (pc' := 6) rfl rfl rfl rfl ?_
    refine zq_getI (pc' := 9) rfl rfl rfl (hp_gI rfl) ?_
    refine zq_icge (pc' := 12) rfl rfl rfl rfl (And.intro (fun c => ?_) (fun c => ?_))
    · have H := H.1 c
      refine zq_ipush (pc' := 31) rfl rfl rfl ?_
      exact zq_iret rfl trivial (Exists.intro _ (Exists.intro _ (And.intro rfl H)))
    · have H := H.2 c
      refine zq_iload (pc' := 13) rfl rfl rfl rfl ?_
      refine zq_aload (pc' := 14) rfl rfl rfl rfl ?_
      refine zq_getR (pc' := 17) rfl rfl rfl (hp_gC rfl) ?_
      refine zq_alen (pc' := 18) rfl rfl rfl (hp_al rfl rfl) ?_
      refine zq_icge (pc' := 21) rfl rfl rfl rfl (And.intro (fun c => ?_) (fun c => ?_))
      · have H := H.1 c
        refine zq_ipush (pc' := 31) rfl rfl rfl ?_
        exact zq_iret rfl trivial (Exists.intro _ (Exists.intro _ (And.intro rfl H)))
      · have H := H.2 c
        refine zq_aload (pc' := 22) rfl rfl rfl rfl ?_
        refine zq_getR (pc' := 25) rfl rfl rfl (hp_gC rfl) ?_
        refine zq_iload (pc' := 26) rfl rfl rfl rfl ?_
        obtain ⟨hi1, H⟩ := H
        refine zq_bald (pc' := 27) rfl rfl rfl (hp_ba rfl hi1) ?_
        refine zq_goto (pc' := 31) rfl rfl rfl ?_
        exact zq_iret rfl trivial (Exists.intro _ (Exists.intro _ (And.intro rfl H)))
theorem zh_X3_isLetter {d : Nat} {k : Int32 → hG → hE → Prop} {X : Nat → hG → hE → Prop} {p0 : Int32} {g : hG} {e : hE} (H :
    zbr (p0 < 97)
    (k 0 g e)
    (zbr (122 < p0)
      (k 0 g e)
      (k 1 g e))) : hci (d + 1) 67 [.int p0] g e k X := by
  refine hentS (M := zm_X3_isLetter) rfl rfl rfl rfl ?_
  refine zq_iload (pc' := 1) rfl rfl rfl rfl ?_
  refine zq_ipush (pc' := 3) rfl rfl rfl ?_
  refine zq_iclt (pc' := 6) rfl rfl rfl rfl (And.intro (fun c => ?_) (fun c => ?_))
  · have H := H.1 c
    refine zq_ipush (pc' := 17) rfl rfl rfl ?_
    exact zq_iret rfl (Or.inl rfl) (Exists.intro _ (Exists.intro _ (And.intro rfl H)))
  · have H := H.2 c
    refine zq_iload (pc' := 7) rfl rfl rfl rfl ?_
    refine zq_ipush (pc' := 9) rfl rfl rfl ?_
    refine zq_icgt (pc' := 12) rfl rfl rfl rfl (And.intro (fun c => ?_) (fun c => ?_))
    · have H := H.1 c
      refine zq_ipush (pc' := 17) rfl rfl rfl ?_
      exact zq_iret rfl (Or.inl rfl) (Exists.intro _ (Exists.intro _ (And.intro rfl H)))
    · have H := H.2 c
      refine zq_ipush (pc' := 13) rfl rfl rfl ?_
      refine zq_goto (pc' := 17) rfl rfl rfl ?_
      exact zq_iret rfl (Or.inr rfl) (Exists.intro _ (Exists.intro _ (And.intro rfl H)))
theorem zh_X3_isDigit {d : Nat} {k : Int32 → hG → hE → Prop} {X : Nat → hG → hE → Prop} {p0 : Int32} {g : hG} {e : hE} (H :
    zbr (p0 < 48)
    (k 0 g e)
    (zbr (57 < p0)
      (k 0 g e)
      (k 1 g e))) : hci (d + 1) 68 [.int p0] g e k X := by
  refine hentS (M := zm_X3_isDigit) rfl rfl rfl rfl ?_
  refine zq_iload (pc' := 1) rfl rfl rfl rfl ?_
  refine zq_ipush (pc' := 3) rfl rfl rfl ?_
  refine zq_iclt (pc' := 6) rfl rfl rfl rfl (And.intro (fun c => ?_) (fun c => ?_))
  · have H := H.1 c
    refine zq_ipush (pc' := 17) rfl rfl rfl ?_
    exact zq_iret rfl (Or.inl rfl) (Exists.intro _ (Exists.intro _ (And.intro rfl H)))
  · have H := H.2 c
    refine zq_iload (pc' := 7) rfl rfl rfl rfl ?_
    refine zq_ipush (pc' := 9) rfl rfl rfl ?_
    refine zq_icgt (pc' := 12) rfl rfl rfl rfl (And.intro (fun c => ?_) (fun c => ?_))
    · have H := H.1 c
      refine zq_ipush (pc' := 17) rfl rfl rfl ?_
      exact zq_iret rfl (Or.inl rfl) (Exists.intro _ (Exists.intro _ (And.intro rfl H)))
    · have H := H.2 c
      refine zq_ipush (pc' := 13) rfl rfl rfl ?_
      refine zq_goto (pc' := 17) rfl rfl rfl ?_
      exact zq_iret rfl (Or.inr rfl) (Exists.intro _ (Exists.intro _ (And.intro rfl H)))
theorem zh_X3_isBlank {d : Nat} {k : Int32 → hG → hE → Prop} {X : Nat → hG → hE → Prop} {p0 : Int32} {g : hG} {e : hE} (H :
    zbr (p0 = 32)
    (k 1 g e)
    (zbr (p0 = 10)
      (k 1 g e)
      (k 0 g e))) : hci (d + 1) 69 [.int p0] g e k X := by
  refine hentS (M := zm_X3_isBlank) rfl rfl rfl rfl ?_
  refine zq_iload (pc' := 1) rfl rfl rfl rfl ?_
  refine zq_ipush (pc' := 3) rfl rfl rfl ?_
  refine zq_iceq (pc' := 6) rfl rfl rfl rfl (And.intro (fun c => ?_) (fun c => ?_))
  · have H := H.1 c
    refine zq_ipush (pc' := 13) rfl rfl rfl ?_
    refine zq_goto (pc' := 17) rfl rfl rfl ?_
    exact zq_iret rfl (Or.inr rfl) (Exists.intro _ (Exists.intro _ (And.intro rfl H)))
  · have H := H.2 c
    refine zq_iload (pc' := 7) rfl rfl rfl rfl ?_
    refine zq_ipush (pc' := 9) rfl rfl rfl ?_
    refine zq_icne (pc' := 12) rfl rfl rfl rfl (And.intro (fun c => ?_) (fun c => ?_))
    · have H := H.1 c
      refine zq_ipush (pc' := 13) rfl rfl rfl ?_
      refine zq_goto (pc' := 17) rfl rfl rfl ?_
      exact zq_iret rfl (Or.inr rfl) (Exists.intro _ (Exists.intro _ (And.intro rfl H)))
    · have H := H.2 c
      refine zq_ipush (pc' := 17) rfl rfl rfl ?_
      exact zq_iret rfl (Or.inl rfl) (Exists.intro _ (Exists.intro _ (And.intro rfl H)))
theorem zh_X3_advance {d : Nat} {k : hG → hE → Prop} {X : Nat → hG → hE → Prop}  {g : hG} {e : hE} (H :
    hwv d zm_X3_advance k X 8 [(0, .ref 1001)] (sI g 1001 4 (g.1 1001 5)) e) : hcv (d + 1) 70 [.ref 1001] g e k X := by
  refine hent (M := zm_X3_advance) (show hT 1001 = some (.inr _) from rfl) rfl rfl rfl rfl rfl ?_
  refine zq_aload (pc' := 1) rfl rfl rfl rfl ?_
  refine zq_aload (pc' := 2) rfl rfl rfl rfl ?_
  refine zq_getI (pc' := 5) rfl rfl rfl (hp_gI rfl) ?_
  refine zq_put_c (pc' := 8) rfl rfl trivial (hp_sI rfl) ?_
  exact H
theorem zh_X3_advance_8 {d : Nat} {k : hG → hE → Prop} {X : Nat → hG → hE → Prop}  {g : hG} {e : hE} (H :
    zbr ((g.1 1001 2) ≤ (g.1 1001 4))
    (hwv d zm_X3_advance k X 46 [(0, .ref 1001)] g e)
    (hci d 66 [.ref 1001, .int (g.1 1001 4)] g e (fun x3 g1 e2 =>
        hci d 69 [.int x3] g1 e2 (fun x6 g4 e5 =>
          zbr (x6 = 0)
          (hwv d zm_X3_advance k X 46 [(0, .ref 1001)] g4 e5)
          (hwv d zm_X3_advance k X 8 [(0, .ref 1001)] (sI g4 1001 4 ((g4.1 1001 4) + 1)) e5)) X) X)) : hwv d zm_X3_advance k X 8 [(0, .ref 1001)] g e := by
  refine zq_aload (pc' := 9) rfl rfl rfl rfl ?_
  refine zq_getI (pc' := 12) rfl rfl rfl (hp_gI rfl) ?_
  refine zq_aload (pc' := 13) rfl rfl rfl rfl ?_
  refine zq_getI (pc' := 16) rfl rfl rfl (hp_gI rfl) ?_
  refine zq_icge_c (pc' := 19) (lt := [(0, .ref 1001)]) (lf := [(0, .ref 1001)]) rfl rfl rfl rfl (And.intro (fun c => ?_) (fun c => ?_))
  · have H := H.1 c
    exact H
  · have H := H.2 c
    refine zq_aload (pc' := 20) rfl rfl rfl rfl ?_
    refine zq_aload (pc' := 21) rfl rfl rfl rfl ?_
    refine zq_getI (pc' := 24) rfl rfl rfl (hp_gI rfl) ?_
    refine hq_calli (pc' := 27) rfl rfl rfl rfl rfl rfl h_Xv ?_
    refine hmonoi H ?_
    intro x3 g1 e2 H
    refine hq_calli (pc' := 30) rfl rfl rfl rfl rfl rfl h_Xv ?_
    refine hmonoi H ?_
    intro x6 g4 e5 H
    refine zq_ifeq_c (pc' := 33) (lt := [(0, .ref 1001)]) (lf := [(0, .ref 1001)]) rfl rfl rfl rfl (And.intro (fun c => ?_) (fun c => ?_))
    · have H := H.1 c
      exact H
    · have H := H.2 c
      refine zq_aload (pc' := 34) rfl rfl rfl rfl ?_
      refine zq_dup (pc' := 35) rfl rfl rfl rfl ?_
      refine zq_getI (pc' := 38) rfl rfl rfl (hp_gI rfl) ?_
      refine zq_ipush (pc' := 39) rfl rfl rfl ?_
      refine zq_iadd (pc' := 40) rfl rfl rfl ?_
      refine zq_put (pc' := 43) rfl rfl rfl trivial (hp_sI rfl) ?_
      refine zq_goto_c (pc' := 8) rfl rfl ?_
      exact H
theorem zh_X3_advance_46 {d : Nat} {k : hG → hE → Prop} {X : Nat → hG → hE → Prop}  {g : hG} {e : hE} (H :
    hci d 66 [.ref 1001, .int ((sI g 1001 5 (g.1 1001 4)).1 1001 4)] (sI g 1001 5 (g.1 1001 4)) e (fun x3 g1 e2 =>
      zbr ((g1.1 1001 4) < (g1.1 1001 2))
      (hci d 67 [.int x3] g1 e2 (fun x6 g4 e5 =>
          zbr (x6 = 0)
          (hci d 68 [.int x3] g4 e5 (fun x9 g7 e8 =>
              zbr (x9 = 0)
              (hci d 6 [.ref 0, .int (((x3 &&& 255 : Int32).toUInt32 % 65536).toInt32)] g7 e8 (fun x12 g10 e11 =>
                  zbr (x12 < 0)
                  (k (sI (sI g10 1001 3 4) 1001 5 (((sI g10 1001 3 4).1 1001 5) + 1)) e11)
                  (k (sI (sI g10 1001 3 3) 1001 5 (((sI g10 1001 3 3).1 1001 5) + 1)) e11)) X)
              (hwv d zm_X3_advance k X 144 [(0, .ref 1001)] (sI g7 1001 3 2) e8)) X)
          (hwv d zm_X3_advance k X 94 [(0, .ref 1001)] (sI g4 1001 3 1) e5)) X)
      (k (sI g1 1001 3 0) e2)) X) : hwv d zm_X3_advance k X 46 [(0, .ref 1001)] g e := by
  refine zq_aload (pc' := 47) rfl rfl rfl rfl ?_
  refine zq_aload (pc' := 48) rfl rfl rfl rfl ?_
  refine zq_getI (pc' := 51) rfl rfl rfl (hp_gI rfl) ?_
  refine zq_put (pc' := 54) rfl rfl rfl trivial (hp_sI rfl) ?_
  refine zq_aload (pc' := 55) rfl rfl rfl rfl ?_
  refine zq_aload (pc' := 56) rfl rfl rfl rfl ?_
  refine zq_getI (pc' := 59) rfl rfl rfl (hp_gI rfl) ?_
  refine hq_calli (pc' := 62) rfl rfl rfl rfl rfl rfl h_Xv ?_
  refine hmonoi H ?_
  intro x3 g1 e2 H
  refine zq_istore (pc' := 63) rfl rfl rfl ?_
  refine zq_aload (pc' := 64) rfl rfl rfl rfl ?_
  refine zq_getI (pc' := 67) rfl rfl rfl (hp_gI rfl) ?_
  refine zq_aload (pc' := 68) rfl rfl rfl rfl ?_
  refine zq_getI (pc' := 71) rfl rfl rfl (hp_gI rfl) ?_
  refine zq_iclt (pc' := 74) rfl rfl rfl rfl (And.intro (fun c => ?_) (fun c => ?_))
  · have H := H.1 c
    refine zq_iload (pc' := 83) rfl rfl rfl rfl ?_
    refine hq_calli (pc' := 86) rfl rfl rfl rfl rfl rfl h_Xv ?_
    refine hmonoi H ?_
    intro x6 g4 e5 H
    refine zq_ifeq (pc' := 89) rfl rfl rfl rfl (And.intro (fun c => ?_) (fun c => ?_))
    · have H := H.1 c
      refine zq_iload (pc' := 133) rfl rfl rfl rfl ?_
      refine hq_calli (pc' := 136) rfl rfl rfl rfl rfl rfl h_Xv ?_
      refine hmonoi H ?_
      intro x9 g7 e8 H
      refine zq_ifeq (pc' := 139) rfl rfl rfl rfl (And.intro (fun c => ?_) (fun c => ?_))
      · have H := H.1 c
        refine zq_aload (pc' := 183) rfl rfl rfl rfl ?_
        refine zq_rpush (pc' := 185) rfl rfl rfl ?_
        refine zq_iload (pc' := 186) rfl rfl rfl rfl ?_
        refine zq_ipush (pc' := 189) rfl rfl rfl ?_
        refine zq_iand (pc' := 190) rfl rfl rfl ?_
        refine zq_i2c (pc' := 191) rfl rfl rfl ?_
        refine hq_calli (pc' := 194) rfl rfl rfl rfl rfl rfl h_Xv ?_
        refine hmonoi H ?_
        intro x12 g10 e11 H
        refine zq_iflt (pc' := 197) rfl rfl rfl rfl (And.intro (fun c => ?_) (fun c => ?_))
        · have H := H.1 c
          refine zq_ipush (pc' := 202) rfl rfl rfl ?_
          refine zq_put (pc' := 205) rfl rfl rfl trivial (hp_sI rfl) ?_
          refine zq_aload (pc' := 206) rfl rfl rfl rfl ?_
          refine zq_dup (pc' := 207) rfl rfl rfl rfl ?_
          refine zq_getI (pc' := 210) rfl rfl rfl (hp_gI rfl) ?_
          refine zq_ipush (pc' := 211) rfl rfl rfl ?_
          refine zq_iadd (pc' := 212) rfl rfl rfl ?_
          refine zq_put (pc' := 215) rfl rfl rfl trivial (hp_sI rfl) ?_
          exact zq_vret rfl (Exists.intro _ (Exists.intro _ (And.intro rfl H)))
        · have H := H.2 c
          refine zq_ipush (pc' := 198) rfl rfl rfl ?_
          refine zq_goto (pc' := 202) rfl rfl rfl ?_
          refine zq_put (pc' := 205) rfl rfl rfl trivial (hp_sI rfl) ?_
          refine zq_aload (pc' := 206) rfl rfl rfl rfl ?_
          refine zq_dup (pc' := 207) rfl rfl rfl rfl ?_
          refine zq_getI (pc' := 210) rfl rfl rfl (hp_gI rfl) ?_
          refine zq_ipush (pc' := 211) rfl rfl rfl ?_
          refine zq_iadd (pc' := 212) rfl rfl rfl ?_
          refine zq_put (pc' := 215) rfl rfl rfl trivial (hp_sI rfl) ?_
          exact zq_vret rfl (Exists.intro _ (Exists.intro _ (And.intro rfl H)))
      · have H := H.2 c
        refine zq_aload (pc' := 140) rfl rfl rfl rfl ?_
        refine zq_ipush (pc' := 141) rfl rfl rfl ?_
        refine zq_put_c (pc' := 144) rfl rfl trivial (hp_sI rfl) ?_
        exact H
    · have H := H.2 c
      refine zq_aload (pc' := 90) rfl rfl rfl rfl ?_
      refine zq_ipush (pc' := 91) rfl rfl rfl ?_
      refine zq_put_c (pc' := 94) rfl rfl trivial (hp_sI rfl) ?_
      exact H
  · have H := H.2 c
    refine zq_aload (pc' := 75) rfl rfl rfl rfl ?_
    refine zq_ipush (pc' := 76) rfl rfl rfl ?_
    refine zq_put (pc' := 79) rfl rfl rfl trivial (hp_sI rfl) ?_
    refine zq_goto (pc' := 215) rfl rfl rfl ?_
    exact zq_vret rfl (Exists.intro _ (Exists.intro _ (And.intro rfl H)))
theorem zh_X3_advance_94 {d : Nat} {k : hG → hE → Prop} {X : Nat → hG → hE → Prop}  {g : hG} {e : hE} (H :
    zbr ((g.1 1001 2) ≤ (g.1 1001 5))
    (k g e)
    (hci d 66 [.ref 1001, .int (g.1 1001 5)] g e (fun x3 g1 e2 =>
        hci d 67 [.int x3] g1 e2 (fun x6 g4 e5 =>
          zbr (x6 = 0)
          (k g4 e5)
          (hwv d zm_X3_advance k X 94 [(0, .ref 1001)] (sI g4 1001 5 ((g4.1 1001 5) + 1)) e5)) X) X)) : hwv d zm_X3_advance k X 94 [(0, .ref 1001)] g e := by
  refine zq_aload (pc' := 95) rfl rfl rfl rfl ?_
  refine zq_getI (pc' := 98) rfl rfl rfl (hp_gI rfl) ?_
  refine zq_aload (pc' := 99) rfl rfl rfl rfl ?_
  refine zq_getI (pc' := 102) rfl rfl rfl (hp_gI rfl) ?_
  refine zq_icge (pc' := 105) rfl rfl rfl rfl (And.intro (fun c => ?_) (fun c => ?_))
  · have H := H.1 c
    exact zq_vret rfl (Exists.intro _ (Exists.intro _ (And.intro rfl H)))
  · have H := H.2 c
    refine zq_aload (pc' := 106) rfl rfl rfl rfl ?_
    refine zq_aload (pc' := 107) rfl rfl rfl rfl ?_
    refine zq_getI (pc' := 110) rfl rfl rfl (hp_gI rfl) ?_
    refine hq_calli (pc' := 113) rfl rfl rfl rfl rfl rfl h_Xv ?_
    refine hmonoi H ?_
    intro x3 g1 e2 H
    refine hq_calli (pc' := 116) rfl rfl rfl rfl rfl rfl h_Xv ?_
    refine hmonoi H ?_
    intro x6 g4 e5 H
    refine zq_ifeq (pc' := 119) rfl rfl rfl rfl (And.intro (fun c => ?_) (fun c => ?_))
    · have H := H.1 c
      exact zq_vret rfl (Exists.intro _ (Exists.intro _ (And.intro rfl H)))
    · have H := H.2 c
      refine zq_aload (pc' := 120) rfl rfl rfl rfl ?_
      refine zq_dup (pc' := 121) rfl rfl rfl rfl ?_
      refine zq_getI (pc' := 124) rfl rfl rfl (hp_gI rfl) ?_
      refine zq_ipush (pc' := 125) rfl rfl rfl ?_
      refine zq_iadd (pc' := 126) rfl rfl rfl ?_
      refine zq_put (pc' := 129) rfl rfl rfl trivial (hp_sI rfl) ?_
      refine zq_goto_c (pc' := 94) rfl rfl ?_
      exact H
theorem zh_X3_advance_144 {d : Nat} {k : hG → hE → Prop} {X : Nat → hG → hE → Prop}  {g : hG} {e : hE} (H :
    zbr ((g.1 1001 2) ≤ (g.1 1001 5))
    (k g e)
    (hci d 66 [.ref 1001, .int (g.1 1001 5)] g e (fun x3 g1 e2 =>
        hci d 68 [.int x3] g1 e2 (fun x6 g4 e5 =>
          zbr (x6 = 0)
          (k g4 e5)
          (hwv d zm_X3_advance k X 144 [(0, .ref 1001)] (sI g4 1001 5 ((g4.1 1001 5) + 1)) e5)) X) X)) : hwv d zm_X3_advance k X 144 [(0, .ref 1001)] g e := by
  refine zq_aload (pc' := 145) rfl rfl rfl rfl ?_
  refine zq_getI (pc' := 148) rfl rfl rfl (hp_gI rfl) ?_
  refine zq_aload (pc' := 149) rfl rfl rfl rfl ?_
  refine zq_getI (pc' := 152) rfl rfl rfl (hp_gI rfl) ?_
  refine zq_icge (pc' := 155) rfl rfl rfl rfl (And.intro (fun c => ?_) (fun c => ?_))
  · have H := H.1 c
    exact zq_vret rfl (Exists.intro _ (Exists.intro _ (And.intro rfl H)))
  · have H := H.2 c
    refine zq_aload (pc' := 156) rfl rfl rfl rfl ?_
    refine zq_aload (pc' := 157) rfl rfl rfl rfl ?_
    refine zq_getI (pc' := 160) rfl rfl rfl (hp_gI rfl) ?_
    refine hq_calli (pc' := 163) rfl rfl rfl rfl rfl rfl h_Xv ?_
    refine hmonoi H ?_
    intro x3 g1 e2 H
    refine hq_calli (pc' := 166) rfl rfl rfl rfl rfl rfl h_Xv ?_
    refine hmonoi H ?_
    intro x6 g4 e5 H
    refine zq_ifeq (pc' := 169) rfl rfl rfl rfl (And.intro (fun c => ?_) (fun c => ?_))
    · have H := H.1 c
      exact zq_vret rfl (Exists.intro _ (Exists.intro _ (And.intro rfl H)))
    · have H := H.2 c
      refine zq_aload (pc' := 170) rfl rfl rfl rfl ?_
      refine zq_dup (pc' := 171) rfl rfl rfl rfl ?_
      refine zq_getI (pc' := 174) rfl rfl rfl (hp_gI rfl) ?_
      refine zq_ipush (pc' := 175) rfl rfl rfl ?_
      refine zq_iadd (pc' := 176) rfl rfl rfl ?_
      refine zq_put (pc' := 179) rfl rfl rfl trivial (hp_sI rfl) ?_
      refine zq_goto_c (pc' := 144) rfl rfl ?_
      exact H
theorem zh_X3_number {d : Nat} {k : Int32 → hG → hE → Prop} {X : Nat → hG → hE → Prop}  {g : hG} {e : hE} (H :
    zbr (((g.1 1001 5) - (g.1 1001 4)) ≤ 4)
    (hwi d zm_X3_number k X 24 [(0, .ref 1001), (1, .int 0), (2, .int (g.1 1001 4))] g e)
    (k 10000 g e)) : hci (d + 1) 71 [.ref 1001] g e k X := by
  refine hent (M := zm_X3_number) (show hT 1001 = some (.inr _) from rfl) rfl rfl rfl rfl rfl ?_
  refine zq_aload (pc' := 1) rfl rfl rfl rfl ?_
  refine zq_getI (pc' := 4) rfl rfl rfl (hp_gI rfl) ?_
  refine zq_aload (pc' := 5) rfl rfl rfl rfl ?_
  refine zq_getI (pc' := 8) rfl rfl rfl (hp_gI rfl) ?_
  refine zq_isub (pc' := 9) rfl rfl rfl ?_
  refine zq_ipush (pc' := 10) rfl rfl rfl ?_
  refine zq_icle (pc' := 13) rfl rfl rfl rfl (And.intro (fun c => ?_) (fun c => ?_))
  · have H := H.1 c
    refine zq_ipush (pc' := 18) rfl rfl rfl ?_
    refine zq_istore (pc' := 19) rfl rfl rfl ?_
    refine zq_aload (pc' := 20) rfl rfl rfl rfl ?_
    refine zq_getI (pc' := 23) rfl rfl rfl (hp_gI rfl) ?_
    refine zq_istore_c (pc' := 24) rfl rfl ?_
    exact H
  · have H := H.2 c
    refine zq_ipush (pc' := 16) rfl rfl rfl ?_
    exact zq_iret rfl trivial (Exists.intro _ (Exists.intro _ (And.intro rfl H)))
theorem zh_X3_number_24 {d : Nat} {k : Int32 → hG → hE → Prop} {X : Nat → hG → hE → Prop} {l1 : Int32} {l2 : Int32} {g : hG} {e : hE} (H :
    zbr ((g.1 1001 5) ≤ l2)
    (k l1 g e)
    (hci d 66 [.ref 1001, .int l2] g e (fun x3 g1 e2 =>
        hwi d zm_X3_number k X 24 [(0, .ref 1001), (1, .int (((l1 * 10) + x3) - 48)), (2, .int (l2 + 1))] g1 e2) X)) : hwi d zm_X3_number k X 24 [(0, .ref 1001), (1, .int l1), (2, .int l2)] g e := by
  refine zq_iload (pc' := 25) rfl rfl rfl rfl ?_
  refine zq_aload (pc' := 26) rfl rfl rfl rfl ?_
  refine zq_getI (pc' := 29) rfl rfl rfl (hp_gI rfl) ?_
  refine zq_icge (pc' := 32) rfl rfl rfl rfl (And.intro (fun c => ?_) (fun c => ?_))
  · have H := H.1 c
    refine zq_iload (pc' := 53) rfl rfl rfl rfl ?_
    exact zq_iret rfl trivial (Exists.intro _ (Exists.intro _ (And.intro rfl H)))
  · have H := H.2 c
    refine zq_iload (pc' := 33) rfl rfl rfl rfl ?_
    refine zq_ipush (pc' := 35) rfl rfl rfl ?_
    refine zq_imul (pc' := 36) rfl rfl rfl ?_
    refine zq_aload (pc' := 37) rfl rfl rfl rfl ?_
    refine zq_iload (pc' := 38) rfl rfl rfl rfl ?_
    refine hq_calli (pc' := 41) rfl rfl rfl rfl rfl rfl h_Xi ?_
    refine hmonoi H ?_
    intro x3 g1 e2 H
    refine zq_iadd (pc' := 42) rfl rfl rfl ?_
    refine zq_ipush (pc' := 44) rfl rfl rfl ?_
    refine zq_isub (pc' := 45) rfl rfl rfl ?_
    refine zq_istore (pc' := 46) rfl rfl rfl ?_
    refine zq_iinc (pc' := 49) rfl rfl rfl rfl ?_
    refine zq_goto_c (pc' := 24) rfl rfl ?_
    exact H
theorem zh_X3_isWord {d : Nat} {k : Int32 → hG → hE → Prop} {X : Nat → hG → hE → Prop} {p1 : Nat} (hp1 : p1 < 58 ∧ p1 % 2 = 0) {g : hG} {e : hE} (H :
    zbr ((g.1 1001 3) = 1)
    (hci d 4 [.ref p1] g e (fun x3 g1 e2 =>
        zbr (((g.1 1001 5) - (g.1 1001 4)) = x3)
        (hwi d zm_X3_isWord k X 28 [(0, .ref 1001), (1, .ref p1), (2, .int 0)] g1 e2)
        (k 0 g1 e2)) X)
    (k 0 g e)) : hci (d + 1) 72 [.ref 1001, .ref p1] g e k X := by
  refine hent (M := zm_X3_isWord) (show hT 1001 = some (.inr _) from rfl) rfl rfl rfl rfl rfl ?_
  refine zq_aload (pc' := 1) rfl rfl rfl rfl ?_
  refine zq_getI (pc' := 4) rfl rfl rfl (hp_gI rfl) ?_
  refine zq_ipush (pc' := 5) rfl rfl rfl ?_
  refine zq_icne (pc' := 8) rfl rfl rfl rfl (And.intro (fun c => ?_) (fun c => ?_))
  · have H := H.1 c
    refine zq_aload (pc' := 9) rfl rfl rfl rfl ?_
    refine zq_getI (pc' := 12) rfl rfl rfl (hp_gI rfl) ?_
    refine zq_aload (pc' := 13) rfl rfl rfl rfl ?_
    refine zq_getI (pc' := 16) rfl rfl rfl (hp_gI rfl) ?_
    refine zq_isub (pc' := 17) rfl rfl rfl ?_
    refine zq_aload (pc' := 18) rfl rfl rfl rfl ?_
    refine hq_calli (pc' := 21) rfl rfl rfl rfl rfl rfl h_Xi ?_
    refine hmonoi H ?_
    intro x3 g1 e2 H
    refine zq_iceq (pc' := 24) rfl rfl rfl rfl (And.intro (fun c => ?_) (fun c => ?_))
    · have H := H.1 c
      refine zq_ipush (pc' := 27) rfl rfl rfl ?_
      refine zq_istore_c (pc' := 28) rfl rfl ?_
      exact H
    · have H := H.2 c
      refine zq_ipush (pc' := 25) rfl rfl rfl ?_
      exact zq_iret rfl (Or.inl rfl) (Exists.intro _ (Exists.intro _ (And.intro rfl H)))
  · have H := H.2 c
    refine zq_ipush (pc' := 25) rfl rfl rfl ?_
    exact zq_iret rfl (Or.inl rfl) (Exists.intro _ (Exists.intro _ (And.intro rfl H)))
theorem zh_X3_isWord_28 {d : Nat} {k : Int32 → hG → hE → Prop} {X : Nat → hG → hE → Prop} {l1 : Nat} (hl1 : l1 < 58 ∧ l1 % 2 = 0) {l2 : Int32} {g : hG} {e : hE} (H :
    hci d 4 [.ref l1] g e (fun x3 g1 e2 =>
      zbr (x3 ≤ l2)
      (k 1 g1 e2)
      (hci d 66 [.ref 1001, .int ((g1.1 1001 4) + l2)] g1 e2 (fun x6 g4 e5 =>
          hci d 5 [.ref l1, .int l2] g4 e5 (fun x9 g7 e8 =>
            zbr (x6 = x9)
            (hwi d zm_X3_isWord k X 28 [(0, .ref 1001), (1, .ref l1), (2, .int (l2 + 1))] g7 e8)
            (k 0 g7 e8)) X) X)) X) : hwi d zm_X3_isWord k X 28 [(0, .ref 1001), (1, .ref l1), (2, .int l2)] g e := by
  refine zq_iload (pc' := 29) rfl rfl rfl rfl ?_
  refine zq_aload (pc' := 30) rfl rfl rfl rfl ?_
  refine hq_calli (pc' := 33) rfl rfl rfl rfl rfl rfl h_Xi ?_
  refine hmonoi H ?_
  intro x3 g1 e2 H
  refine zq_icge (pc' := 36) rfl rfl rfl rfl (And.intro (fun c => ?_) (fun c => ?_))
  · have H := H.1 c
    refine zq_ipush (pc' := 63) rfl rfl rfl ?_
    exact zq_iret rfl (Or.inr rfl) (Exists.intro _ (Exists.intro _ (And.intro rfl H)))
  · have H := H.2 c
    refine zq_aload (pc' := 37) rfl rfl rfl rfl ?_
    refine zq_aload (pc' := 38) rfl rfl rfl rfl ?_
    refine zq_getI (pc' := 41) rfl rfl rfl (hp_gI rfl) ?_
    refine zq_iload (pc' := 42) rfl rfl rfl rfl ?_
    refine zq_iadd (pc' := 43) rfl rfl rfl ?_
    refine hq_calli (pc' := 46) rfl rfl rfl rfl rfl rfl h_Xi ?_
    refine hmonoi H ?_
    intro x6 g4 e5 H
    refine zq_aload (pc' := 47) rfl rfl rfl rfl ?_
    refine zq_iload (pc' := 48) rfl rfl rfl rfl ?_
    refine hq_calli (pc' := 51) rfl rfl rfl rfl rfl rfl h_Xi ?_
    refine hmonoi H ?_
    intro x9 g7 e8 H
    refine zq_iceq (pc' := 54) rfl rfl rfl rfl (And.intro (fun c => ?_) (fun c => ?_))
    · have H := H.1 c
      refine zq_iinc (pc' := 59) rfl rfl rfl rfl ?_
      refine zq_goto_c (pc' := 28) rfl rfl ?_
      exact H
    · have H := H.2 c
      refine zq_ipush (pc' := 55) rfl rfl rfl ?_
      exact zq_iret rfl (Or.inl rfl) (Exists.intro _ (Exists.intro _ (And.intro rfl H)))
theorem zh_X3_isSign {d : Nat} {k : Int32 → hG → hE → Prop} {X : Nat → hG → hE → Prop} {p1 : Int32} {g : hG} {e : hE} (H :
    zbr ((g.1 1001 3) = 3)
    (hci d 66 [.ref 1001, .int (g.1 1001 4)] g e (fun x3 g1 e2 =>
        zbr (x3 = p1)
        (k 1 g1 e2)
        (k 0 g1 e2)) X)
    (k 0 g e)) : hci (d + 1) 73 [.ref 1001, .int p1] g e k X := by
  refine hent (M := zm_X3_isSign) (show hT 1001 = some (.inr _) from rfl) rfl rfl rfl rfl rfl ?_
  refine zq_aload (pc' := 1) rfl rfl rfl rfl ?_
  refine zq_getI (pc' := 4) rfl rfl rfl (hp_gI rfl) ?_
  refine zq_ipush (pc' := 5) rfl rfl rfl ?_
  refine zq_icne (pc' := 8) rfl rfl rfl rfl (And.intro (fun c => ?_) (fun c => ?_))
  · have H := H.1 c
    refine zq_aload (pc' := 9) rfl rfl rfl rfl ?_
    refine zq_aload (pc' := 10) rfl rfl rfl rfl ?_
    refine zq_getI (pc' := 13) rfl rfl rfl (hp_gI rfl) ?_
    refine hq_calli (pc' := 16) rfl rfl rfl rfl rfl rfl h_Xi ?_
    refine hmonoi H ?_
    intro x3 g1 e2 H
    refine zq_iload (pc' := 17) rfl rfl rfl rfl ?_
    refine zq_icne (pc' := 20) rfl rfl rfl rfl (And.intro (fun c => ?_) (fun c => ?_))
    · have H := H.1 c
      refine zq_ipush (pc' := 21) rfl rfl rfl ?_
      refine zq_goto (pc' := 25) rfl rfl rfl ?_
      exact zq_iret rfl (Or.inr rfl) (Exists.intro _ (Exists.intro _ (And.intro rfl H)))
    · have H := H.2 c
      refine zq_ipush (pc' := 25) rfl rfl rfl ?_
      exact zq_iret rfl (Or.inl rfl) (Exists.intro _ (Exists.intro _ (And.intro rfl H)))
  · have H := H.2 c
    refine zq_ipush (pc' := 25) rfl rfl rfl ?_
    exact zq_iret rfl (Or.inl rfl) (Exists.intro _ (Exists.intro _ (And.intro rfl H)))
theorem zh_X3_fail {d : Nat} {k : Int32 → hG → hE → Prop} {X : Nat → hG → hE → Prop} {p1 : Int32} {g : hG} {e : hE} (H :
    k 0 (sI g 1001 6 p1) e) : hci (d + 1) 74 [.ref 1001, .int p1] g e k X := by
  refine hent (M := zm_X3_fail) (show hT 1001 = some (.inr _) from rfl) rfl rfl rfl rfl rfl ?_
  refine zq_aload (pc' := 1) rfl rfl rfl rfl ?_
  refine zq_iload (pc' := 2) rfl rfl rfl rfl ?_
  refine zq_put (pc' := 5) rfl rfl rfl trivial (hp_sI rfl) ?_
  refine zq_ipush (pc' := 6) rfl rfl rfl ?_
  exact zq_iret rfl (Or.inl rfl) (Exists.intro _ (Exists.intro _ (And.intro rfl H)))
theorem zh_X3_takeSign {d : Nat} {k : Int32 → hG → hE → Prop} {X : Nat → hG → hE → Prop} {p1 : Int32} {g : hG} {e : hE} (H :
    hci d 73 [.ref 1001, .int p1] g e (fun x3 g1 e2 =>
      zbr (x3 = 0)
      (hci d 74 [.ref 1001, .int 1] g1 e2 (fun x6 g4 e5 =>
          (x6 = 0 ∨ x6 = 1) ∧ k x6 g4 e5) X)
      (hcv d 70 [.ref 1001] g1 e2 (fun g7 e8 =>
          k 1 g7 e8) X)) X) : hci (d + 1) 75 [.ref 1001, .int p1] g e k X := by
  refine hent (M := zm_X3_takeSign) (show hT 1001 = some (.inr _) from rfl) rfl rfl rfl rfl rfl ?_
  refine zq_aload (pc' := 1) rfl rfl rfl rfl ?_
  refine zq_iload (pc' := 2) rfl rfl rfl rfl ?_
  refine hq_calli (pc' := 5) rfl rfl rfl rfl rfl rfl h_Xi ?_
  refine hmonoi H ?_
  intro x3 g1 e2 H
  refine zq_ifne (pc' := 8) rfl rfl rfl rfl (And.intro (fun c => ?_) (fun c => ?_))
  · have H := H.1 c
    refine zq_aload (pc' := 9) rfl rfl rfl rfl ?_
    refine zq_ipush (pc' := 10) rfl rfl rfl ?_
    refine hq_calli (pc' := 13) rfl rfl rfl rfl rfl rfl h_Xi ?_
    refine hmonoi H ?_
    intro x6 g4 e5 H
    exact zq_iret rfl H.1 (Exists.intro _ (Exists.intro _ (And.intro rfl H.2)))
  · have H := H.2 c
    refine zq_aload (pc' := 15) rfl rfl rfl rfl ?_
    refine hq_callv (pc' := 18) rfl rfl rfl rfl rfl rfl h_Xi ?_
    refine hmonov H ?_
    intro g7 e8 H
    refine zq_ipush (pc' := 19) rfl rfl rfl ?_
    exact zq_iret rfl (Or.inr rfl) (Exists.intro _ (Exists.intro _ (And.intro rfl H)))
theorem zh_X3_line {d : Nat} {k : Int32 → hG → hE → Prop} {X : Nat → hG → hE → Prop}  {g : hG} {e : hE} (H :
    hci d 72 [.ref 1001, .ref 2] g e (fun x3 g1 e2 =>
      zbr (x3 = 0)
      (hci d 72 [.ref 1001, .ref 4] g1 e2 (fun x6 g4 e5 =>
          zbr (x6 = 0)
          (hci d 72 [.ref 1001, .ref 6] g4 e5 (fun x9 g7 e8 =>
              zbr (x9 = 0)
              (hci d 72 [.ref 1001, .ref 8] g7 e8 (fun x12 g10 e11 =>
                  zbr (x12 = 0)
                  (hci d 72 [.ref 1001, .ref 10] g10 e11 (fun x15 g13 e14 =>
                      zbr (x15 = 0)
                      (hci d 74 [.ref 1001, .int 1] g13 e14 (fun x18 g16 e17 =>
                          (x18 = 0 ∨ x18 = 1) ∧ k x18 g16 e17) X)
                      (hci d 81 [.ref 1001, .int 0] g13 e14 (fun x21 g19 e20 =>
                          (x21 = 0 ∨ x21 = 1) ∧ k x21 g19 e20) X)) X)
                  (hci d 81 [.ref 1001, .int 1] g10 e11 (fun x24 g22 e23 =>
                      (x24 = 0 ∨ x24 = 1) ∧ k x24 g22 e23) X)) X)
              (hci d 80 [.ref 1001] g7 e8 (fun x27 g25 e26 =>
                  (x27 = 0 ∨ x27 = 1) ∧ k x27 g25 e26) X)) X)
          (hci d 77 [.ref 1001, .int 1] g4 e5 (fun x30 g28 e29 =>
              (x30 = 0 ∨ x30 = 1) ∧ k x30 g28 e29) X)) X)
      (hci d 77 [.ref 1001, .int 0] g1 e2 (fun x33 g31 e32 =>
          (x33 = 0 ∨ x33 = 1) ∧ k x33 g31 e32) X)) X) : hci (d + 1) 76 [.ref 1001] g e k X := by
  refine hent (M := zm_X3_line) (show hT 1001 = some (.inr _) from rfl) rfl rfl rfl rfl rfl ?_
  refine zq_aload (pc' := 1) rfl rfl rfl rfl ?_
  refine zq_rpush (pc' := 3) rfl rfl rfl ?_
  refine hq_calli (pc' := 6) rfl rfl rfl rfl rfl rfl h_Xi ?_
  refine hmonoi H ?_
  intro x3 g1 e2 H
  refine zq_ifeq (pc' := 9) rfl rfl rfl rfl (And.intro (fun c => ?_) (fun c => ?_))
  · have H := H.1 c
    refine zq_aload (pc' := 16) rfl rfl rfl rfl ?_
    refine zq_rpush (pc' := 18) rfl rfl rfl ?_
    refine hq_calli (pc' := 21) rfl rfl rfl rfl rfl rfl h_Xi ?_
    refine hmonoi H ?_
    intro x6 g4 e5 H
    refine zq_ifeq (pc' := 24) rfl rfl rfl rfl (And.intro (fun c => ?_) (fun c => ?_))
    · have H := H.1 c
      refine zq_aload (pc' := 31) rfl rfl rfl rfl ?_
      refine zq_rpush (pc' := 33) rfl rfl rfl ?_
      refine hq_calli (pc' := 36) rfl rfl rfl rfl rfl rfl h_Xi ?_
      refine hmonoi H ?_
      intro x9 g7 e8 H
      refine zq_ifeq (pc' := 39) rfl rfl rfl rfl (And.intro (fun c => ?_) (fun c => ?_))
      · have H := H.1 c
        refine zq_aload (pc' := 45) rfl rfl rfl rfl ?_
        refine zq_rpush (pc' := 47) rfl rfl rfl ?_
        refine hq_calli (pc' := 50) rfl rfl rfl rfl rfl rfl h_Xi ?_
        refine hmonoi H ?_
        intro x12 g10 e11 H
        refine zq_ifeq (pc' := 53) rfl rfl rfl rfl (And.intro (fun c => ?_) (fun c => ?_))
        · have H := H.1 c
          refine zq_aload (pc' := 60) rfl rfl rfl rfl ?_
          refine zq_rpush (pc' := 62) rfl rfl rfl ?_
          refine hq_calli (pc' := 65) rfl rfl rfl rfl rfl rfl h_Xi ?_
          refine hmonoi H ?_
          intro x15 g13 e14 H
          refine zq_ifeq (pc' := 68) rfl rfl rfl rfl (And.intro (fun c => ?_) (fun c => ?_))
          · have H := H.1 c
            refine zq_aload (pc' := 75) rfl rfl rfl rfl ?_
            refine zq_ipush (pc' := 76) rfl rfl rfl ?_
            refine hq_calli (pc' := 79) rfl rfl rfl rfl rfl rfl h_Xi ?_
            refine hmonoi H ?_
            intro x18 g16 e17 H
            exact zq_iret rfl H.1 (Exists.intro _ (Exists.intro _ (And.intro rfl H.2)))
          · have H := H.2 c
            refine zq_aload (pc' := 69) rfl rfl rfl rfl ?_
            refine zq_ipush (pc' := 70) rfl rfl rfl ?_
            refine hq_calli (pc' := 73) rfl rfl rfl rfl rfl rfl h_Xi ?_
            refine hmonoi H ?_
            intro x21 g19 e20 H
            exact zq_iret rfl H.1 (Exists.intro _ (Exists.intro _ (And.intro rfl H.2)))
        · have H := H.2 c
          refine zq_aload (pc' := 54) rfl rfl rfl rfl ?_
          refine zq_ipush (pc' := 55) rfl rfl rfl ?_
          refine hq_calli (pc' := 58) rfl rfl rfl rfl rfl rfl h_Xi ?_
          refine hmonoi H ?_
          intro x24 g22 e23 H
          exact zq_iret rfl H.1 (Exists.intro _ (Exists.intro _ (And.intro rfl H.2)))
      · have H := H.2 c
        refine zq_aload (pc' := 40) rfl rfl rfl rfl ?_
        refine hq_calli (pc' := 43) rfl rfl rfl rfl rfl rfl h_Xi ?_
        refine hmonoi H ?_
        intro x27 g25 e26 H
        exact zq_iret rfl H.1 (Exists.intro _ (Exists.intro _ (And.intro rfl H.2)))
    · have H := H.2 c
      refine zq_aload (pc' := 25) rfl rfl rfl rfl ?_
      refine zq_ipush (pc' := 26) rfl rfl rfl ?_
      refine hq_calli (pc' := 29) rfl rfl rfl rfl rfl rfl h_Xi ?_
      refine hmonoi H ?_
      intro x30 g28 e29 H
      exact zq_iret rfl H.1 (Exists.intro _ (Exists.intro _ (And.intro rfl H.2)))
  · have H := H.2 c
    refine zq_aload (pc' := 10) rfl rfl rfl rfl ?_
    refine zq_ipush (pc' := 11) rfl rfl rfl ?_
    refine hq_calli (pc' := 14) rfl rfl rfl rfl rfl rfl h_Xi ?_
    refine hmonoi H ?_
    intro x33 g31 e32 H
    exact zq_iret rfl H.1 (Exists.intro _ (Exists.intro _ (And.intro rfl H.2)))
theorem zh_X3_zipLine {d : Nat} {k : Int32 → hG → hE → Prop} {X : Nat → hG → hE → Prop} {p1 : Int32} {g : hG} {e : hE} (H :
    hD (g.2.2 1001 7) ∧ 
    hci d 38 [.ref (g.2.2 1001 7)] g e (fun x4 g2 e3 =>
      zbr (x4 = 0)
      (hD (g2.2.2 1001 7) ∧ 
        hcr d 39 [.ref (g2.2.2 1001 7)] g2 e3 (fun a8 g6 e7 =>
          hT a8 = some hZ ∧ hcv d 107 [.ref a8, .int p1] g6 e7 (fun g10 e11 =>
            hcv d 70 [.ref 1001] g10 e11 (fun g12 e13 =>
              hci d 78 [.ref 1001, .ref a8] g12 e13 (fun x16 g14 e15 =>
                zbr (x16 = 0)
                (k 0 g14 e15)
                (hci d 79 [.ref 1001, .ref a8] g14 e15 (fun x19 g17 e18 =>
                    zbr (x19 = 0)
                    (k 0 g17 e18)
                    (hci d 75 [.ref 1001, .int 59] g17 e18 (fun x22 g20 e21 =>
                        zbr (x22 = 0)
                        (k 0 g20 e21)
                        (hD (g20.2.2 1001 7) ∧ 
                          hcv d 40 [.ref (g20.2.2 1001 7)] g20 e21 (fun g24 e25 =>
                            k 1 g24 e25) X)) X)) X)) X) X) X) X)
      (hci d 74 [.ref 1001, .int 2] g2 e3 (fun x28 g26 e27 =>
          (x28 = 0 ∨ x28 = 1) ∧ k x28 g26 e27) X)) X) : hci (d + 1) 77 [.ref 1001, .int p1] g e k X := by
  refine hent (M := zm_X3_zipLine) (show hT 1001 = some (.inr _) from rfl) rfl rfl rfl rfl rfl ?_
  refine zq_aload (pc' := 1) rfl rfl rfl rfl ?_
  obtain ⟨hr1, H⟩ := H
  refine zq_getR (pc' := 4) rfl rfl rfl (hp_gR rfl) ?_
  refine hq_calli (pc' := 7) rfl rfl rfl rfl rfl rfl h_Xi ?_
  refine hmonoi H ?_
  intro x4 g2 e3 H
  refine zq_ifeq (pc' := 10) rfl rfl rfl rfl (And.intro (fun c => ?_) (fun c => ?_))
  · have H := H.1 c
    refine zq_aload (pc' := 17) rfl rfl rfl rfl ?_
    obtain ⟨hr5, H⟩ := H
    refine zq_getR (pc' := 20) rfl rfl rfl (hp_gR rfl) ?_
    refine hq_callr (pc' := 23) rfl rfl rfl rfl rfl rfl h_Xi ?_
    refine hmonor H ?_
    intro a8 g6 e7 H
    obtain ⟨hx9, H⟩ := H
    refine zq_astore (pc' := 24) rfl rfl rfl ?_
    refine zq_aload (pc' := 25) rfl rfl rfl rfl ?_
    refine zq_iload (pc' := 26) rfl rfl rfl rfl ?_
    refine hq_callv (pc' := 29) rfl rfl rfl rfl rfl rfl h_Xi ?_
    refine hmonov H ?_
    intro g10 e11 H
    refine zq_aload (pc' := 30) rfl rfl rfl rfl ?_
    refine hq_callv (pc' := 33) rfl rfl rfl rfl rfl rfl h_Xi ?_
    refine hmonov H ?_
    intro g12 e13 H
    refine zq_aload (pc' := 34) rfl rfl rfl rfl ?_
    refine zq_aload (pc' := 35) rfl rfl rfl rfl ?_
    refine hq_calli (pc' := 38) rfl rfl rfl rfl rfl rfl h_Xi ?_
    refine hmonoi H ?_
    intro x16 g14 e15 H
    refine zq_ifeq (pc' := 41) rfl rfl rfl rfl (And.intro (fun c => ?_) (fun c => ?_))
    · have H := H.1 c
      refine zq_ipush (pc' := 59) rfl rfl rfl ?_
      exact zq_iret rfl (Or.inl rfl) (Exists.intro _ (Exists.intro _ (And.intro rfl H)))
    · have H := H.2 c
      refine zq_aload (pc' := 42) rfl rfl rfl rfl ?_
      refine zq_aload (pc' := 43) rfl rfl rfl rfl ?_
      refine hq_calli (pc' := 46) rfl rfl rfl rfl rfl rfl h_Xi ?_
      refine hmonoi H ?_
      intro x19 g17 e18 H
      refine zq_ifeq (pc' := 49) rfl rfl rfl rfl (And.intro (fun c => ?_) (fun c => ?_))
      · have H := H.1 c
        refine zq_ipush (pc' := 59) rfl rfl rfl ?_
        exact zq_iret rfl (Or.inl rfl) (Exists.intro _ (Exists.intro _ (And.intro rfl H)))
      · have H := H.2 c
        refine zq_aload (pc' := 50) rfl rfl rfl rfl ?_
        refine zq_ipush (pc' := 52) rfl rfl rfl ?_
        refine hq_calli (pc' := 55) rfl rfl rfl rfl rfl rfl h_Xi ?_
        refine hmonoi H ?_
        intro x22 g20 e21 H
        refine zq_ifne (pc' := 58) rfl rfl rfl rfl (And.intro (fun c => ?_) (fun c => ?_))
        · have H := H.1 c
          refine zq_ipush (pc' := 59) rfl rfl rfl ?_
          exact zq_iret rfl (Or.inl rfl) (Exists.intro _ (Exists.intro _ (And.intro rfl H)))
        · have H := H.2 c
          refine zq_aload (pc' := 61) rfl rfl rfl rfl ?_
          obtain ⟨hr23, H⟩ := H
          refine zq_getR (pc' := 64) rfl rfl rfl (hp_gR rfl) ?_
          refine hq_callv (pc' := 67) rfl rfl rfl rfl rfl rfl h_Xi ?_
          refine hmonov H ?_
          intro g24 e25 H
          refine zq_ipush (pc' := 68) rfl rfl rfl ?_
          exact zq_iret rfl (Or.inr rfl) (Exists.intro _ (Exists.intro _ (And.intro rfl H)))
  · have H := H.2 c
    refine zq_aload (pc' := 11) rfl rfl rfl rfl ?_
    refine zq_ipush (pc' := 12) rfl rfl rfl ?_
    refine hq_calli (pc' := 15) rfl rfl rfl rfl rfl rfl h_Xi ?_
    refine hmonoi H ?_
    intro x28 g26 e27 H
    exact zq_iret rfl H.1 (Exists.intro _ (Exists.intro _ (And.intro rfl H.2)))
theorem zh_X3_leftTape {d : Nat} {k : Int32 → hG → hE → Prop} {X : Nat → hG → hE → Prop} {p1 : Nat} (hp1 : hT p1 = some hZ) {g : hG} {e : hE} (H :
    hwi d zm_X3_leftTape k X 2 [(0, .ref 1001), (1, .ref p1), (2, .int 0)] g e) : hci (d + 1) 78 [.ref 1001, .ref p1] g e k X := by
  refine hent (M := zm_X3_leftTape) (show hT 1001 = some (.inr _) from rfl) rfl rfl rfl rfl rfl ?_
  refine zq_ipush (pc' := 1) rfl rfl rfl ?_
  refine zq_istore_c (pc' := 2) rfl rfl ?_
  exact H
theorem zh_X3_leftTape_2 {d : Nat} {k : Int32 → hG → hE → Prop} {X : Nat → hG → hE → Prop} {l1 : Nat} (hl1 : hT l1 = some hZ) {l2 : Int32} {g : hG} {e : hE} (H :
    zbr (16 < l2)
    (hci d 74 [.ref 1001, .int 1] g e (fun x3 g1 e2 =>
        (x3 = 0 ∨ x3 = 1) ∧ k x3 g1 e2) X)
    (zbr (l2 ≤ 0)
      (hwi d zm_X3_leftTape k X 32 [(0, .ref 1001), (1, .ref l1), (2, .int l2)] g e)
      (hci d 72 [.ref 1001, .ref 12] g e (fun x6 g4 e5 =>
          zbr (x6 = 0)
          (hwi d zm_X3_leftTape k X 32 [(0, .ref 1001), (1, .ref l1), (2, .int l2)] g4 e5)
          (hcv d 108 [.ref l1, .int l2] g4 e5 (fun g7 e8 =>
              hcv d 70 [.ref 1001] g7 e8 (fun g9 e10 =>
                k 1 g9 e10) X) X)) X))) : hwi d zm_X3_leftTape k X 2 [(0, .ref 1001), (1, .ref l1), (2, .int l2)] g e := by
  refine zq_iload (pc' := 3) rfl rfl rfl rfl ?_
  refine zq_ipush (pc' := 5) rfl rfl rfl ?_
  refine zq_icgt (pc' := 8) rfl rfl rfl rfl (And.intro (fun c => ?_) (fun c => ?_))
  · have H := H.1 c
    refine zq_aload (pc' := 88) rfl rfl rfl rfl ?_
    refine zq_ipush (pc' := 89) rfl rfl rfl ?_
    refine hq_calli (pc' := 92) rfl rfl rfl rfl rfl rfl h_Xi ?_
    refine hmonoi H ?_
    intro x3 g1 e2 H
    exact zq_iret rfl H.1 (Exists.intro _ (Exists.intro _ (And.intro rfl H.2)))
  · have H := H.2 c
    refine zq_iload (pc' := 9) rfl rfl rfl rfl ?_
    refine zq_ifle_c (pc' := 12) (lt := [(0, .ref 1001), (1, .ref l1), (2, .int l2)]) (lf := [(0, .ref 1001), (1, .ref l1), (2, .int l2)]) rfl rfl rfl rfl (And.intro (fun c => ?_) (fun c => ?_))
    · have H := H.1 c
      exact H
    · have H := H.2 c
      refine zq_aload (pc' := 13) rfl rfl rfl rfl ?_
      refine zq_rpush (pc' := 15) rfl rfl rfl ?_
      refine hq_calli (pc' := 18) rfl rfl rfl rfl rfl rfl h_Xi ?_
      refine hmonoi H ?_
      intro x6 g4 e5 H
      refine zq_ifeq_c (pc' := 21) (lt := [(0, .ref 1001), (1, .ref l1), (2, .int l2)]) (lf := [(0, .ref 1001), (1, .ref l1), (2, .int l2)]) rfl rfl rfl rfl (And.intro (fun c => ?_) (fun c => ?_))
      · have H := H.1 c
        exact H
      · have H := H.2 c
        refine zq_aload (pc' := 22) rfl rfl rfl rfl ?_
        refine zq_iload (pc' := 23) rfl rfl rfl rfl ?_
        refine hq_callv (pc' := 26) rfl rfl rfl rfl rfl rfl h_Xi ?_
        refine hmonov H ?_
        intro g7 e8 H
        refine zq_aload (pc' := 27) rfl rfl rfl rfl ?_
        refine hq_callv (pc' := 30) rfl rfl rfl rfl rfl rfl h_Xi ?_
        refine hmonov H ?_
        intro g9 e10 H
        refine zq_ipush (pc' := 31) rfl rfl rfl ?_
        exact zq_iret rfl (Or.inr rfl) (Exists.intro _ (Exists.intro _ (And.intro rfl H)))
theorem zh_X3_leftTape_32 {d : Nat} {k : Int32 → hG → hE → Prop} {X : Nat → hG → hE → Prop} {l1 : Nat} (hl1 : hT l1 = some hZ) {l2 : Int32} {g : hG} {e : hE} (H :
    zbr ((g.1 1001 3) = 2)
    (zbr (l2 = 16)
      (hci d 74 [.ref 1001, .int 2] g e (fun x3 g1 e2 =>
          (x3 = 0 ∨ x3 = 1) ∧ k x3 g1 e2) X)
      (hci d 71 [.ref 1001] g e (fun x6 g4 e5 =>
          zbr (x6 ≤ 9)
          (hci d 71 [.ref 1001] g4 e5 (fun x9 g7 e8 =>
              hcv d 119 [.ref l1, .int 0, .int l2, .int x9] g7 e8 (fun g10 e11 =>
                hcv d 70 [.ref 1001] g10 e11 (fun g12 e13 =>
                  hwi d zm_X3_leftTape k X 2 [(0, .ref 1001), (1, .ref l1), (2, .int (l2 + 1))] g12 e13) X) X) X)
          (hci d 74 [.ref 1001, .int 2] g4 e5 (fun x16 g14 e15 =>
              (x16 = 0 ∨ x16 = 1) ∧ k x16 g14 e15) X)) X))
    (hci d 74 [.ref 1001, .int 1] g e (fun x19 g17 e18 =>
        (x19 = 0 ∨ x19 = 1) ∧ k x19 g17 e18) X)) : hwi d zm_X3_leftTape k X 32 [(0, .ref 1001), (1, .ref l1), (2, .int l2)] g e := by
  refine zq_aload (pc' := 33) rfl rfl rfl rfl ?_
  refine zq_getI (pc' := 36) rfl rfl rfl (hp_gI rfl) ?_
  refine zq_ipush (pc' := 37) rfl rfl rfl ?_
  refine zq_iceq (pc' := 40) rfl rfl rfl rfl (And.intro (fun c => ?_) (fun c => ?_))
  · have H := H.1 c
    refine zq_iload (pc' := 47) rfl rfl rfl rfl ?_
    refine zq_ipush (pc' := 49) rfl rfl rfl ?_
    refine zq_iceq (pc' := 52) rfl rfl rfl rfl (And.intro (fun c => ?_) (fun c => ?_))
    · have H := H.1 c
      refine zq_aload (pc' := 62) rfl rfl rfl rfl ?_
      refine zq_ipush (pc' := 63) rfl rfl rfl ?_
      refine hq_calli (pc' := 66) rfl rfl rfl rfl rfl rfl h_Xi ?_
      refine hmonoi H ?_
      intro x3 g1 e2 H
      exact zq_iret rfl H.1 (Exists.intro _ (Exists.intro _ (And.intro rfl H.2)))
    · have H := H.2 c
      refine zq_aload (pc' := 53) rfl rfl rfl rfl ?_
      refine hq_calli (pc' := 56) rfl rfl rfl rfl rfl rfl h_Xi ?_
      refine hmonoi H ?_
      intro x6 g4 e5 H
      refine zq_ipush (pc' := 58) rfl rfl rfl ?_
      refine zq_icle (pc' := 61) rfl rfl rfl rfl (And.intro (fun c => ?_) (fun c => ?_))
      · have H := H.1 c
        refine zq_aload (pc' := 68) rfl rfl rfl rfl ?_
        refine zq_ipush (pc' := 69) rfl rfl rfl ?_
        refine zq_iload (pc' := 70) rfl rfl rfl rfl ?_
        refine zq_aload (pc' := 71) rfl rfl rfl rfl ?_
        refine hq_calli (pc' := 74) rfl rfl rfl rfl rfl rfl h_Xi ?_
        refine hmonoi H ?_
        intro x9 g7 e8 H
        refine hq_callv (pc' := 77) rfl rfl rfl rfl rfl rfl h_Xi ?_
        refine hmonov H ?_
        intro g10 e11 H
        refine zq_aload (pc' := 78) rfl rfl rfl rfl ?_
        refine hq_callv (pc' := 81) rfl rfl rfl rfl rfl rfl h_Xi ?_
        refine hmonov H ?_
        intro g12 e13 H
        refine zq_iinc (pc' := 84) rfl rfl rfl rfl ?_
        refine zq_goto_c (pc' := 2) rfl rfl ?_
        exact H
      · have H := H.2 c
        refine zq_aload (pc' := 62) rfl rfl rfl rfl ?_
        refine zq_ipush (pc' := 63) rfl rfl rfl ?_
        refine hq_calli (pc' := 66) rfl rfl rfl rfl rfl rfl h_Xi ?_
        refine hmonoi H ?_
        intro x16 g14 e15 H
        exact zq_iret rfl H.1 (Exists.intro _ (Exists.intro _ (And.intro rfl H.2)))
  · have H := H.2 c
    refine zq_aload (pc' := 41) rfl rfl rfl rfl ?_
    refine zq_ipush (pc' := 42) rfl rfl rfl ?_
    refine hq_calli (pc' := 45) rfl rfl rfl rfl rfl rfl h_Xi ?_
    refine hmonoi H ?_
    intro x19 g17 e18 H
    exact zq_iret rfl H.1 (Exists.intro _ (Exists.intro _ (And.intro rfl H.2)))
theorem zh_X3_rightTape {d : Nat} {k : Int32 → hG → hE → Prop} {X : Nat → hG → hE → Prop} {p1 : Nat} (hp1 : hT p1 = some hZ) {g : hG} {e : hE} (H :
    hwi d zm_X3_rightTape k X 2 [(0, .ref 1001), (1, .ref p1), (2, .int 0)] g e) : hci (d + 1) 79 [.ref 1001, .ref p1] g e k X := by
  refine hent (M := zm_X3_rightTape) (show hT 1001 = some (.inr _) from rfl) rfl rfl rfl rfl rfl ?_
  refine zq_ipush (pc' := 1) rfl rfl rfl ?_
  refine zq_istore_c (pc' := 2) rfl rfl ?_
  exact H
theorem zh_X3_rightTape_2 {d : Nat} {k : Int32 → hG → hE → Prop} {X : Nat → hG → hE → Prop} {l1 : Nat} (hl1 : hT l1 = some hZ) {l2 : Int32} {g : hG} {e : hE} (H :
    hci d 112 [.ref l1] g e (fun x3 g1 e2 =>
      zbr (x3 ≤ l2)
      (k 1 g1 e2)
      (zbr ((g1.1 1001 3) = 2)
        (hci d 71 [.ref 1001] g1 e2 (fun x6 g4 e5 =>
            zbr (x6 ≤ 9)
            (hci d 71 [.ref 1001] g4 e5 (fun x9 g7 e8 =>
                hcv d 119 [.ref l1, .int 1, .int l2, .int x9] g7 e8 (fun g10 e11 =>
                  hcv d 70 [.ref 1001] g10 e11 (fun g12 e13 =>
                    hwi d zm_X3_rightTape k X 2 [(0, .ref 1001), (1, .ref l1), (2, .int (l2 + 1))] g12 e13) X) X) X)
            (hci d 74 [.ref 1001, .int 2] g4 e5 (fun x16 g14 e15 =>
                (x16 = 0 ∨ x16 = 1) ∧ k x16 g14 e15) X)) X)
        (hci d 74 [.ref 1001, .int 1] g1 e2 (fun x19 g17 e18 =>
            (x19 = 0 ∨ x19 = 1) ∧ k x19 g17 e18) X))) X) : hwi d zm_X3_rightTape k X 2 [(0, .ref 1001), (1, .ref l1), (2, .int l2)] g e := by
  refine zq_iload (pc' := 3) rfl rfl rfl rfl ?_
  refine zq_aload (pc' := 4) rfl rfl rfl rfl ?_
  refine hq_calli (pc' := 7) rfl rfl rfl rfl rfl rfl h_Xi ?_
  refine hmonoi H ?_
  intro x3 g1 e2 H
  refine zq_icge (pc' := 10) rfl rfl rfl rfl (And.intro (fun c => ?_) (fun c => ?_))
  · have H := H.1 c
    refine zq_ipush (pc' := 60) rfl rfl rfl ?_
    exact zq_iret rfl (Or.inr rfl) (Exists.intro _ (Exists.intro _ (And.intro rfl H)))
  · have H := H.2 c
    refine zq_aload (pc' := 11) rfl rfl rfl rfl ?_
    refine zq_getI (pc' := 14) rfl rfl rfl (hp_gI rfl) ?_
    refine zq_ipush (pc' := 15) rfl rfl rfl ?_
    refine zq_iceq (pc' := 18) rfl rfl rfl rfl (And.intro (fun c => ?_) (fun c => ?_))
    · have H := H.1 c
      refine zq_aload (pc' := 25) rfl rfl rfl rfl ?_
      refine hq_calli (pc' := 28) rfl rfl rfl rfl rfl rfl h_Xi ?_
      refine hmonoi H ?_
      intro x6 g4 e5 H
      refine zq_ipush (pc' := 30) rfl rfl rfl ?_
      refine zq_icle (pc' := 33) rfl rfl rfl rfl (And.intro (fun c => ?_) (fun c => ?_))
      · have H := H.1 c
        refine zq_aload (pc' := 40) rfl rfl rfl rfl ?_
        refine zq_ipush (pc' := 41) rfl rfl rfl ?_
        refine zq_iload (pc' := 42) rfl rfl rfl rfl ?_
        refine zq_aload (pc' := 43) rfl rfl rfl rfl ?_
        refine hq_calli (pc' := 46) rfl rfl rfl rfl rfl rfl h_Xi ?_
        refine hmonoi H ?_
        intro x9 g7 e8 H
        refine hq_callv (pc' := 49) rfl rfl rfl rfl rfl rfl h_Xi ?_
        refine hmonov H ?_
        intro g10 e11 H
        refine zq_aload (pc' := 50) rfl rfl rfl rfl ?_
        refine hq_callv (pc' := 53) rfl rfl rfl rfl rfl rfl h_Xi ?_
        refine hmonov H ?_
        intro g12 e13 H
        refine zq_iinc (pc' := 56) rfl rfl rfl rfl ?_
        refine zq_goto_c (pc' := 2) rfl rfl ?_
        exact H
      · have H := H.2 c
        refine zq_aload (pc' := 34) rfl rfl rfl rfl ?_
        refine zq_ipush (pc' := 35) rfl rfl rfl ?_
        refine hq_calli (pc' := 38) rfl rfl rfl rfl rfl rfl h_Xi ?_
        refine hmonoi H ?_
        intro x16 g14 e15 H
        exact zq_iret rfl H.1 (Exists.intro _ (Exists.intro _ (And.intro rfl H.2)))
    · have H := H.2 c
      refine zq_aload (pc' := 19) rfl rfl rfl rfl ?_
      refine zq_ipush (pc' := 20) rfl rfl rfl ?_
      refine hq_calli (pc' := 23) rfl rfl rfl rfl rfl rfl h_Xi ?_
      refine hmonoi H ?_
      intro x19 g17 e18 H
      exact zq_iret rfl H.1 (Exists.intro _ (Exists.intro _ (And.intro rfl H.2)))
theorem zh_X3_strainLine {d : Nat} {k : Int32 → hG → hE → Prop} {X : Nat → hG → hE → Prop}  {g : hG} {e : hE} (H :
    hD (g.2.2 1001 7) ∧ 
    hci d 51 [.ref (g.2.2 1001 7)] g e (fun x4 g2 e3 =>
      zbr (x4 ≤ 0)
      (hcv d 70 [.ref 1001] g2 e3 (fun g5 e6 =>
          hwi d zm_X3_strainLine k X 22 [(0, .ref 1001), (1, .int 0)] g5 e6) X)
      (hci d 74 [.ref 1001, .int 5] g2 e3 (fun x9 g7 e8 =>
          (x9 = 0 ∨ x9 = 1) ∧ k x9 g7 e8) X)) X) : hci (d + 1) 80 [.ref 1001] g e k X := by
  refine hent (M := zm_X3_strainLine) (show hT 1001 = some (.inr _) from rfl) rfl rfl rfl rfl rfl ?_
  refine zq_aload (pc' := 1) rfl rfl rfl rfl ?_
  obtain ⟨hr1, H⟩ := H
  refine zq_getR (pc' := 4) rfl rfl rfl (hp_gR rfl) ?_
  refine hq_calli (pc' := 7) rfl rfl rfl rfl rfl rfl h_Xi ?_
  refine hmonoi H ?_
  intro x4 g2 e3 H
  refine zq_ifle (pc' := 10) rfl rfl rfl rfl (And.intro (fun c => ?_) (fun c => ?_))
  · have H := H.1 c
    refine zq_aload (pc' := 17) rfl rfl rfl rfl ?_
    refine hq_callv (pc' := 20) rfl rfl rfl rfl rfl rfl h_Xi ?_
    refine hmonov H ?_
    intro g5 e6 H
    refine zq_ipush (pc' := 21) rfl rfl rfl ?_
    refine zq_istore_c (pc' := 22) rfl rfl ?_
    exact H
  · have H := H.2 c
    refine zq_aload (pc' := 11) rfl rfl rfl rfl ?_
    refine zq_ipush (pc' := 12) rfl rfl rfl ?_
    refine hq_calli (pc' := 15) rfl rfl rfl rfl rfl rfl h_Xi ?_
    refine hmonoi H ?_
    intro x9 g7 e8 H
    exact zq_iret rfl H.1 (Exists.intro _ (Exists.intro _ (And.intro rfl H.2)))
theorem zh_X3_strainLine_22 {d : Nat} {k : Int32 → hG → hE → Prop} {X : Nat → hG → hE → Prop} {l1 : Int32} {g : hG} {e : hE} (H :
    zbr (8 < l1)
    (hci d 74 [.ref 1001, .int 1] g e (fun x3 g1 e2 =>
        (x3 = 0 ∨ x3 = 1) ∧ k x3 g1 e2) X)
    (zbr (l1 ≤ 0)
      (hwi d zm_X3_strainLine k X 47 [(0, .ref 1001), (1, .int l1)] g e)
      (hci d 73 [.ref 1001, .int 59] g e (fun x6 g4 e5 =>
          zbr (x6 = 0)
          (hwi d zm_X3_strainLine k X 47 [(0, .ref 1001), (1, .int l1)] g4 e5)
          (hcv d 70 [.ref 1001] g4 e5 (fun g7 e8 =>
              k 1 g7 e8) X)) X))) : hwi d zm_X3_strainLine k X 22 [(0, .ref 1001), (1, .int l1)] g e := by
  refine zq_iload (pc' := 23) rfl rfl rfl rfl ?_
  refine zq_ipush (pc' := 25) rfl rfl rfl ?_
  refine zq_icgt (pc' := 28) rfl rfl rfl rfl (And.intro (fun c => ?_) (fun c => ?_))
  · have H := H.1 c
    refine zq_aload (pc' := 101) rfl rfl rfl rfl ?_
    refine zq_ipush (pc' := 102) rfl rfl rfl ?_
    refine hq_calli (pc' := 105) rfl rfl rfl rfl rfl rfl h_Xi ?_
    refine hmonoi H ?_
    intro x3 g1 e2 H
    exact zq_iret rfl H.1 (Exists.intro _ (Exists.intro _ (And.intro rfl H.2)))
  · have H := H.2 c
    refine zq_iload (pc' := 29) rfl rfl rfl rfl ?_
    refine zq_ifle_c (pc' := 32) (lt := [(0, .ref 1001), (1, .int l1)]) (lf := [(0, .ref 1001), (1, .int l1)]) rfl rfl rfl rfl (And.intro (fun c => ?_) (fun c => ?_))
    · have H := H.1 c
      exact H
    · have H := H.2 c
      refine zq_aload (pc' := 33) rfl rfl rfl rfl ?_
      refine zq_ipush (pc' := 35) rfl rfl rfl ?_
      refine hq_calli (pc' := 38) rfl rfl rfl rfl rfl rfl h_Xi ?_
      refine hmonoi H ?_
      intro x6 g4 e5 H
      refine zq_ifeq_c (pc' := 41) (lt := [(0, .ref 1001), (1, .int l1)]) (lf := [(0, .ref 1001), (1, .int l1)]) rfl rfl rfl rfl (And.intro (fun c => ?_) (fun c => ?_))
      · have H := H.1 c
        exact H
      · have H := H.2 c
        refine zq_aload (pc' := 42) rfl rfl rfl rfl ?_
        refine hq_callv (pc' := 45) rfl rfl rfl rfl rfl rfl h_Xi ?_
        refine hmonov H ?_
        intro g7 e8 H
        refine zq_ipush (pc' := 46) rfl rfl rfl ?_
        exact zq_iret rfl (Or.inr rfl) (Exists.intro _ (Exists.intro _ (And.intro rfl H)))
theorem zh_X3_strainLine_47 {d : Nat} {k : Int32 → hG → hE → Prop} {X : Nat → hG → hE → Prop} {l1 : Int32} {g : hG} {e : hE} (H :
    zbr ((g.1 1001 3) = 2)
    (hci d 71 [.ref 1001] g e (fun x3 g1 e2 =>
        zbr (9 < x3)
        (hci d 74 [.ref 1001, .int 2] g1 e2 (fun x6 g4 e5 =>
            (x6 = 0 ∨ x6 = 1) ∧ k x6 g4 e5) X)
        (hD (g1.2.2 1001 7) ∧ 
          hci d 71 [.ref 1001] g1 e2 (fun x10 g8 e9 =>
            hci d 41 [.ref (g1.2.2 1001 7), .int x10] g8 e9 (fun x13 g11 e12 =>
              zbr (x13 = 0)
              (hci d 74 [.ref 1001, .int 2] g11 e12 (fun x16 g14 e15 =>
                  (x16 = 0 ∨ x16 = 1) ∧ k x16 g14 e15) X)
              (hcv d 70 [.ref 1001] g11 e12 (fun g17 e18 =>
                  hwi d zm_X3_strainLine k X 22 [(0, .ref 1001), (1, .int (l1 + 1))] g17 e18) X)) X) X)) X)
    (hci d 74 [.ref 1001, .int 1] g e (fun x21 g19 e20 =>
        (x21 = 0 ∨ x21 = 1) ∧ k x21 g19 e20) X)) : hwi d zm_X3_strainLine k X 47 [(0, .ref 1001), (1, .int l1)] g e := by
  refine zq_aload (pc' := 48) rfl rfl rfl rfl ?_
  refine zq_getI (pc' := 51) rfl rfl rfl (hp_gI rfl) ?_
  refine zq_ipush (pc' := 52) rfl rfl rfl ?_
  refine zq_iceq (pc' := 55) rfl rfl rfl rfl (And.intro (fun c => ?_) (fun c => ?_))
  · have H := H.1 c
    refine zq_aload (pc' := 62) rfl rfl rfl rfl ?_
    refine hq_calli (pc' := 65) rfl rfl rfl rfl rfl rfl h_Xi ?_
    refine hmonoi H ?_
    intro x3 g1 e2 H
    refine zq_ipush (pc' := 67) rfl rfl rfl ?_
    refine zq_icgt (pc' := 70) rfl rfl rfl rfl (And.intro (fun c => ?_) (fun c => ?_))
    · have H := H.1 c
      refine zq_aload (pc' := 85) rfl rfl rfl rfl ?_
      refine zq_ipush (pc' := 86) rfl rfl rfl ?_
      refine hq_calli (pc' := 89) rfl rfl rfl rfl rfl rfl h_Xi ?_
      refine hmonoi H ?_
      intro x6 g4 e5 H
      exact zq_iret rfl H.1 (Exists.intro _ (Exists.intro _ (And.intro rfl H.2)))
    · have H := H.2 c
      refine zq_aload (pc' := 71) rfl rfl rfl rfl ?_
      obtain ⟨hr7, H⟩ := H
      refine zq_getR (pc' := 74) rfl rfl rfl (hp_gR rfl) ?_
      refine zq_aload (pc' := 75) rfl rfl rfl rfl ?_
      refine hq_calli (pc' := 78) rfl rfl rfl rfl rfl rfl h_Xi ?_
      refine hmonoi H ?_
      intro x10 g8 e9 H
      refine hq_calli (pc' := 81) rfl rfl rfl rfl rfl rfl h_Xi ?_
      refine hmonoi H ?_
      intro x13 g11 e12 H
      refine zq_ifne (pc' := 84) rfl rfl rfl rfl (And.intro (fun c => ?_) (fun c => ?_))
      · have H := H.1 c
        refine zq_aload (pc' := 85) rfl rfl rfl rfl ?_
        refine zq_ipush (pc' := 86) rfl rfl rfl ?_
        refine hq_calli (pc' := 89) rfl rfl rfl rfl rfl rfl h_Xi ?_
        refine hmonoi H ?_
        intro x16 g14 e15 H
        exact zq_iret rfl H.1 (Exists.intro _ (Exists.intro _ (And.intro rfl H.2)))
      · have H := H.2 c
        refine zq_aload (pc' := 91) rfl rfl rfl rfl ?_
        refine hq_callv (pc' := 94) rfl rfl rfl rfl rfl rfl h_Xi ?_
        refine hmonov H ?_
        intro g17 e18 H
        refine zq_iinc (pc' := 97) rfl rfl rfl rfl ?_
        refine zq_goto_c (pc' := 22) rfl rfl ?_
        exact H
  · have H := H.2 c
    refine zq_aload (pc' := 56) rfl rfl rfl rfl ?_
    refine zq_ipush (pc' := 57) rfl rfl rfl ?_
    refine hq_calli (pc' := 60) rfl rfl rfl rfl rfl rfl h_Xi ?_
    refine hmonoi H ?_
    intro x21 g19 e20 H
    exact zq_iret rfl H.1 (Exists.intro _ (Exists.intro _ (And.intro rfl H.2)))
theorem zh_X3_ruleLine {d : Nat} {k : Int32 → hG → hE → Prop} {X : Nat → hG → hE → Prop} {p1 : Int32} {g : hG} {e : hE} (H :
    hD (g.2.2 1001 7) ∧ 
    hci d 44 [.ref (g.2.2 1001 7), .int p1] g e (fun x4 g2 e3 =>
      zbr (x4 = 0)
      ((p1 = 0 ∨ p1 = 1) ∧
        hcv d 70 [.ref 1001] (sI g2 1001 8 p1) e3 (fun g5 e6 =>
          hD (g5.2.2 1001 7) ∧ 
          hci d 43 [.ref (g5.2.2 1001 7)] g5 e6 (fun x10 g8 e9 =>
            hci d 82 [.ref 1001, .int 0] g8 e9 (fun x13 g11 e12 =>
              zbr (x13 = 0)
              (k 0 g11 e12)
              (hci d 75 [.ref 1001, .int 59] g11 e12 (fun x16 g14 e15 =>
                  zbr (x16 = 0)
                  (k 0 g14 e15)
                  (hD (g14.2.2 1001 7) ∧ 
                    hcv d 45 [.ref (g14.2.2 1001 7), .int p1, .int x10] g14 e15 (fun g18 e19 =>
                      k 1 g18 e19) X)) X)) X) X) X)
      (hci d 74 [.ref 1001, .int 5] g2 e3 (fun x22 g20 e21 =>
          (x22 = 0 ∨ x22 = 1) ∧ k x22 g20 e21) X)) X) : hci (d + 1) 81 [.ref 1001, .int p1] g e k X := by
  refine hent (M := zm_X3_ruleLine) (show hT 1001 = some (.inr _) from rfl) rfl rfl rfl rfl rfl ?_
  refine zq_aload (pc' := 1) rfl rfl rfl rfl ?_
  obtain ⟨hr1, H⟩ := H
  refine zq_getR (pc' := 4) rfl rfl rfl (hp_gR rfl) ?_
  refine zq_iload (pc' := 5) rfl rfl rfl rfl ?_
  refine hq_calli (pc' := 8) rfl rfl rfl rfl rfl rfl h_Xi ?_
  refine hmonoi H ?_
  intro x4 g2 e3 H
  refine zq_ifeq (pc' := 11) rfl rfl rfl rfl (And.intro (fun c => ?_) (fun c => ?_))
  · have H := H.1 c
    refine zq_aload (pc' := 18) rfl rfl rfl rfl ?_
    refine zq_iload (pc' := 19) rfl rfl rfl rfl ?_
    obtain ⟨e1, H⟩ := H
    refine zq_put (pc' := 22) rfl rfl rfl e1 (hp_sI rfl) ?_
    refine zq_aload (pc' := 23) rfl rfl rfl rfl ?_
    refine hq_callv (pc' := 26) rfl rfl rfl rfl rfl rfl h_Xi ?_
    refine hmonov H ?_
    intro g5 e6 H
    refine zq_aload (pc' := 27) rfl rfl rfl rfl ?_
    obtain ⟨hr7, H⟩ := H
    refine zq_getR (pc' := 30) rfl rfl rfl (hp_gR rfl) ?_
    refine hq_calli (pc' := 33) rfl rfl rfl rfl rfl rfl h_Xi ?_
    refine hmonoi H ?_
    intro x10 g8 e9 H
    refine zq_istore (pc' := 34) rfl rfl rfl ?_
    refine zq_aload (pc' := 35) rfl rfl rfl rfl ?_
    refine zq_ipush (pc' := 36) rfl rfl rfl ?_
    refine hq_calli (pc' := 39) rfl rfl rfl rfl rfl rfl h_Xi ?_
    refine hmonoi H ?_
    intro x13 g11 e12 H
    refine zq_ifeq (pc' := 42) rfl rfl rfl rfl (And.intro (fun c => ?_) (fun c => ?_))
    · have H := H.1 c
      refine zq_ipush (pc' := 52) rfl rfl rfl ?_
      exact zq_iret rfl (Or.inl rfl) (Exists.intro _ (Exists.intro _ (And.intro rfl H)))
    · have H := H.2 c
      refine zq_aload (pc' := 43) rfl rfl rfl rfl ?_
      refine zq_ipush (pc' := 45) rfl rfl rfl ?_
      refine hq_calli (pc' := 48) rfl rfl rfl rfl rfl rfl h_Xi ?_
      refine hmonoi H ?_
      intro x16 g14 e15 H
      refine zq_ifne (pc' := 51) rfl rfl rfl rfl (And.intro (fun c => ?_) (fun c => ?_))
      · have H := H.1 c
        refine zq_ipush (pc' := 52) rfl rfl rfl ?_
        exact zq_iret rfl (Or.inl rfl) (Exists.intro _ (Exists.intro _ (And.intro rfl H)))
      · have H := H.2 c
        refine zq_aload (pc' := 54) rfl rfl rfl rfl ?_
        obtain ⟨hr17, H⟩ := H
        refine zq_getR (pc' := 57) rfl rfl rfl (hp_gR rfl) ?_
        refine zq_iload (pc' := 58) rfl rfl rfl rfl ?_
        refine zq_iload (pc' := 59) rfl rfl rfl rfl ?_
        refine hq_callv (pc' := 62) rfl rfl rfl rfl rfl rfl h_Xi ?_
        refine hmonov H ?_
        intro g18 e19 H
        refine zq_ipush (pc' := 63) rfl rfl rfl ?_
        exact zq_iret rfl (Or.inr rfl) (Exists.intro _ (Exists.intro _ (And.intro rfl H)))
  · have H := H.2 c
    refine zq_aload (pc' := 12) rfl rfl rfl rfl ?_
    refine zq_ipush (pc' := 13) rfl rfl rfl ?_
    refine hq_calli (pc' := 16) rfl rfl rfl rfl rfl rfl h_Xi ?_
    refine hmonoi H ?_
    intro x22 g20 e21 H
    exact zq_iret rfl H.1 (Exists.intro _ (Exists.intro _ (And.intro rfl H.2)))
theorem zh_X3_anyOf {d : Nat} {k : Int32 → hG → hE → Prop} {X : Nat → hG → hE → Prop} {p1 : Int32} {g : hG} {e : hE} (H :
    zbr (p1 < 6)
    (hci d 84 [.ref 1001, .int p1] g e (fun x3 g1 e2 =>
        zbr (x3 = 0)
        (k 0 g1 e2)
        (hwi d zm_X3_anyOf k X 35 [(0, .ref 1001), (1, .int p1), (2, .int 0)] g1 e2)) X)
    (hci d 83 [.ref 1001] g e (fun x6 g4 e5 =>
        zbr (x6 = 0)
        (hci d 74 [.ref 1001, .int 1] g4 e5 (fun x9 g7 e8 =>
            (x9 = 0 ∨ x9 = 1) ∧ k x9 g7 e8) X)
        (hci d 74 [.ref 1001, .int 2] g4 e5 (fun x12 g10 e11 =>
            (x12 = 0 ∨ x12 = 1) ∧ k x12 g10 e11) X)) X)) : hci (d + 1) 82 [.ref 1001, .int p1] g e k X := by
  refine hent (M := zm_X3_anyOf) (show hT 1001 = some (.inr _) from rfl) rfl rfl rfl rfl rfl ?_
  refine zq_iload (pc' := 1) rfl rfl rfl rfl ?_
  refine zq_ipush (pc' := 3) rfl rfl rfl ?_
  refine zq_iclt (pc' := 6) rfl rfl rfl rfl (And.intro (fun c => ?_) (fun c => ?_))
  · have H := H.1 c
    refine zq_aload (pc' := 24) rfl rfl rfl rfl ?_
    refine zq_iload (pc' := 25) rfl rfl rfl rfl ?_
    refine hq_calli (pc' := 28) rfl rfl rfl rfl rfl rfl h_Xi ?_
    refine hmonoi H ?_
    intro x3 g1 e2 H
    refine zq_ifne (pc' := 31) rfl rfl rfl rfl (And.intro (fun c => ?_) (fun c => ?_))
    · have H := H.1 c
      refine zq_ipush (pc' := 32) rfl rfl rfl ?_
      exact zq_iret rfl (Or.inl rfl) (Exists.intro _ (Exists.intro _ (And.intro rfl H)))
    · have H := H.2 c
      refine zq_ipush (pc' := 34) rfl rfl rfl ?_
      refine zq_istore_c (pc' := 35) rfl rfl ?_
      exact H
  · have H := H.2 c
    refine zq_aload (pc' := 7) rfl rfl rfl rfl ?_
    refine zq_aload (pc' := 8) rfl rfl rfl rfl ?_
    refine hq_calli (pc' := 11) rfl rfl rfl rfl rfl rfl h_Xi ?_
    refine hmonoi H ?_
    intro x6 g4 e5 H
    refine zq_ifeq (pc' := 14) rfl rfl rfl rfl (And.intro (fun c => ?_) (fun c => ?_))
    · have H := H.1 c
      refine zq_ipush (pc' := 19) rfl rfl rfl ?_
      refine hq_calli (pc' := 22) rfl rfl rfl rfl rfl rfl h_Xi ?_
      refine hmonoi H ?_
      intro x9 g7 e8 H
      exact zq_iret rfl H.1 (Exists.intro _ (Exists.intro _ (And.intro rfl H.2)))
    · have H := H.2 c
      refine zq_ipush (pc' := 15) rfl rfl rfl ?_
      refine zq_goto (pc' := 19) rfl rfl rfl ?_
      refine hq_calli (pc' := 22) rfl rfl rfl rfl rfl rfl h_Xi ?_
      refine hmonoi H ?_
      intro x12 g10 e11 H
      exact zq_iret rfl H.1 (Exists.intro _ (Exists.intro _ (And.intro rfl H.2)))
theorem zh_X3_anyOf_35 {d : Nat} {k : Int32 → hG → hE → Prop} {X : Nat → hG → hE → Prop} {l1 : Int32} {l2 : Int32} {g : hG} {e : hE} (H :
    zbr (700 ≤ l2)
    (k 1 g e)
    (hci d 72 [.ref 1001, .ref 14] g e (fun x3 g1 e2 =>
        zbr (x3 = 0)
        (k 1 g1 e2)
        (hcv d 70 [.ref 1001] g1 e2 (fun g4 e5 =>
            hci d 84 [.ref 1001, .int l1] g4 e5 (fun x8 g6 e7 =>
              zbr (x8 = 0)
              (k 0 g6 e7)
              (hD (g6.2.2 1001 7) ∧ 
                hcv d 42 [.ref (g6.2.2 1001 7), .int (-7)] g6 e7 (fun g10 e11 =>
                  hwi d zm_X3_anyOf k X 35 [(0, .ref 1001), (1, .int l1), (2, .int (l2 + 1))] g10 e11) X)) X) X)) X)) : hwi d zm_X3_anyOf k X 35 [(0, .ref 1001), (1, .int l1), (2, .int l2)] g e := by
  refine zq_iload (pc' := 36) rfl rfl rfl rfl ?_
  refine zq_ipush (pc' := 39) rfl rfl rfl ?_
  refine zq_icge (pc' := 42) rfl rfl rfl rfl (And.intro (fun c => ?_) (fun c => ?_))
  · have H := H.1 c
    refine zq_ipush (pc' := 81) rfl rfl rfl ?_
    exact zq_iret rfl (Or.inr rfl) (Exists.intro _ (Exists.intro _ (And.intro rfl H)))
  · have H := H.2 c
    refine zq_aload (pc' := 43) rfl rfl rfl rfl ?_
    refine zq_rpush (pc' := 45) rfl rfl rfl ?_
    refine hq_calli (pc' := 48) rfl rfl rfl rfl rfl rfl h_Xi ?_
    refine hmonoi H ?_
    intro x3 g1 e2 H
    refine zq_ifeq (pc' := 51) rfl rfl rfl rfl (And.intro (fun c => ?_) (fun c => ?_))
    · have H := H.1 c
      refine zq_ipush (pc' := 81) rfl rfl rfl ?_
      exact zq_iret rfl (Or.inr rfl) (Exists.intro _ (Exists.intro _ (And.intro rfl H)))
    · have H := H.2 c
      refine zq_aload (pc' := 52) rfl rfl rfl rfl ?_
      refine hq_callv (pc' := 55) rfl rfl rfl rfl rfl rfl h_Xi ?_
      refine hmonov H ?_
      intro g4 e5 H
      refine zq_aload (pc' := 56) rfl rfl rfl rfl ?_
      refine zq_iload (pc' := 57) rfl rfl rfl rfl ?_
      refine hq_calli (pc' := 60) rfl rfl rfl rfl rfl rfl h_Xi ?_
      refine hmonoi H ?_
      intro x8 g6 e7 H
      refine zq_ifne (pc' := 63) rfl rfl rfl rfl (And.intro (fun c => ?_) (fun c => ?_))
      · have H := H.1 c
        refine zq_ipush (pc' := 64) rfl rfl rfl ?_
        exact zq_iret rfl (Or.inl rfl) (Exists.intro _ (Exists.intro _ (And.intro rfl H)))
      · have H := H.2 c
        refine zq_aload (pc' := 66) rfl rfl rfl rfl ?_
        obtain ⟨hr9, H⟩ := H
        refine zq_getR (pc' := 69) rfl rfl rfl (hp_gR rfl) ?_
        refine zq_ipushn (pc' := 71) rfl rfl rfl ?_
        refine hq_callv (pc' := 74) rfl rfl rfl rfl rfl rfl h_Xi ?_
        refine hmonov H ?_
        intro g10 e11 H
        refine zq_iinc (pc' := 77) rfl rfl rfl rfl ?_
        refine zq_goto_c (pc' := 35) rfl rfl ?_
        exact H
theorem zh_X3_mayBegin {d : Nat} {k : Int32 → hG → hE → Prop} {X : Nat → hG → hE → Prop}  {g : hG} {e : hE} (H :
    zbr ((g.1 1001 3) = 2)
    (k 1 g e)
    (zbr ((g.1 1001 3) = 1)
      (k 1 g e)
      (hci d 73 [.ref 1001, .int 40] g e (fun x3 g1 e2 =>
          zbr (x3 = 0)
          (k 0 g1 e2)
          (k 1 g1 e2)) X))) : hci (d + 1) 83 [.ref 1001] g e k X := by
  refine hent (M := zm_X3_mayBegin) (show hT 1001 = some (.inr _) from rfl) rfl rfl rfl rfl rfl ?_
  refine zq_aload (pc' := 1) rfl rfl rfl rfl ?_
  refine zq_getI (pc' := 4) rfl rfl rfl (hp_gI rfl) ?_
  refine zq_ipush (pc' := 5) rfl rfl rfl ?_
  refine zq_iceq (pc' := 8) rfl rfl rfl rfl (And.intro (fun c => ?_) (fun c => ?_))
  · have H := H.1 c
    refine zq_ipush (pc' := 26) rfl rfl rfl ?_
    refine zq_goto (pc' := 30) rfl rfl rfl ?_
    exact zq_iret rfl (Or.inr rfl) (Exists.intro _ (Exists.intro _ (And.intro rfl H)))
  · have H := H.2 c
    refine zq_aload (pc' := 9) rfl rfl rfl rfl ?_
    refine zq_getI (pc' := 12) rfl rfl rfl (hp_gI rfl) ?_
    refine zq_ipush (pc' := 13) rfl rfl rfl ?_
    refine zq_iceq (pc' := 16) rfl rfl rfl rfl (And.intro (fun c => ?_) (fun c => ?_))
    · have H := H.1 c
      refine zq_ipush (pc' := 26) rfl rfl rfl ?_
      refine zq_goto (pc' := 30) rfl rfl rfl ?_
      exact zq_iret rfl (Or.inr rfl) (Exists.intro _ (Exists.intro _ (And.intro rfl H)))
    · have H := H.2 c
      refine zq_aload (pc' := 17) rfl rfl rfl rfl ?_
      refine zq_ipush (pc' := 19) rfl rfl rfl ?_
      refine hq_calli (pc' := 22) rfl rfl rfl rfl rfl rfl h_Xi ?_
      refine hmonoi H ?_
      intro x3 g1 e2 H
      refine zq_ifeq (pc' := 25) rfl rfl rfl rfl (And.intro (fun c => ?_) (fun c => ?_))
      · have H := H.1 c
        refine zq_ipush (pc' := 30) rfl rfl rfl ?_
        exact zq_iret rfl (Or.inl rfl) (Exists.intro _ (Exists.intro _ (And.intro rfl H)))
      · have H := H.2 c
        refine zq_ipush (pc' := 26) rfl rfl rfl ?_
        refine zq_goto (pc' := 30) rfl rfl rfl ?_
        exact zq_iret rfl (Or.inr rfl) (Exists.intro _ (Exists.intro _ (And.intro rfl H)))
theorem zh_X3_allOf {d : Nat} {k : Int32 → hG → hE → Prop} {X : Nat → hG → hE → Prop} {p1 : Int32} {g : hG} {e : hE} (H :
    hci d 85 [.ref 1001, .int p1] g e (fun x3 g1 e2 =>
      zbr (x3 = 0)
      (k 0 g1 e2)
      (hwi d zm_X3_allOf k X 12 [(0, .ref 1001), (1, .int p1), (2, .int 0)] g1 e2)) X) : hci (d + 1) 84 [.ref 1001, .int p1] g e k X := by
  refine hent (M := zm_X3_allOf) (show hT 1001 = some (.inr _) from rfl) rfl rfl rfl rfl rfl ?_
  refine zq_aload (pc' := 1) rfl rfl rfl rfl ?_
  refine zq_iload (pc' := 2) rfl rfl rfl rfl ?_
  refine hq_calli (pc' := 5) rfl rfl rfl rfl rfl rfl h_Xi ?_
  refine hmonoi H ?_
  intro x3 g1 e2 H
  refine zq_ifne (pc' := 8) rfl rfl rfl rfl (And.intro (fun c => ?_) (fun c => ?_))
  · have H := H.1 c
    refine zq_ipush (pc' := 9) rfl rfl rfl ?_
    exact zq_iret rfl (Or.inl rfl) (Exists.intro _ (Exists.intro _ (And.intro rfl H)))
  · have H := H.2 c
    refine zq_ipush (pc' := 11) rfl rfl rfl ?_
    refine zq_istore_c (pc' := 12) rfl rfl ?_
    exact H
theorem zh_X3_allOf_12 {d : Nat} {k : Int32 → hG → hE → Prop} {X : Nat → hG → hE → Prop} {l1 : Int32} {l2 : Int32} {g : hG} {e : hE} (H :
    zbr (700 ≤ l2)
    (k 1 g e)
    (hci d 72 [.ref 1001, .ref 16] g e (fun x3 g1 e2 =>
        zbr (x3 = 0)
        (k 1 g1 e2)
        (hcv d 70 [.ref 1001] g1 e2 (fun g4 e5 =>
            hci d 85 [.ref 1001, .int l1] g4 e5 (fun x8 g6 e7 =>
              zbr (x8 = 0)
              (k 0 g6 e7)
              (hD (g6.2.2 1001 7) ∧ 
                hcv d 42 [.ref (g6.2.2 1001 7), .int (-8)] g6 e7 (fun g10 e11 =>
                  hwi d zm_X3_allOf k X 12 [(0, .ref 1001), (1, .int l1), (2, .int (l2 + 1))] g10 e11) X)) X) X)) X)) : hwi d zm_X3_allOf k X 12 [(0, .ref 1001), (1, .int l1), (2, .int l2)] g e := by
  refine zq_iload (pc' := 13) rfl rfl rfl rfl ?_
  refine zq_ipush (pc' := 16) rfl rfl rfl ?_
  refine zq_icge (pc' := 19) rfl rfl rfl rfl (And.intro (fun c => ?_) (fun c => ?_))
  · have H := H.1 c
    refine zq_ipush (pc' := 58) rfl rfl rfl ?_
    exact zq_iret rfl (Or.inr rfl) (Exists.intro _ (Exists.intro _ (And.intro rfl H)))
  · have H := H.2 c
    refine zq_aload (pc' := 20) rfl rfl rfl rfl ?_
    refine zq_rpush (pc' := 22) rfl rfl rfl ?_
    refine hq_calli (pc' := 25) rfl rfl rfl rfl rfl rfl h_Xi ?_
    refine hmonoi H ?_
    intro x3 g1 e2 H
    refine zq_ifeq (pc' := 28) rfl rfl rfl rfl (And.intro (fun c => ?_) (fun c => ?_))
    · have H := H.1 c
      refine zq_ipush (pc' := 58) rfl rfl rfl ?_
      exact zq_iret rfl (Or.inr rfl) (Exists.intro _ (Exists.intro _ (And.intro rfl H)))
    · have H := H.2 c
      refine zq_aload (pc' := 29) rfl rfl rfl rfl ?_
      refine hq_callv (pc' := 32) rfl rfl rfl rfl rfl rfl h_Xi ?_
      refine hmonov H ?_
      intro g4 e5 H
      refine zq_aload (pc' := 33) rfl rfl rfl rfl ?_
      refine zq_iload (pc' := 34) rfl rfl rfl rfl ?_
      refine hq_calli (pc' := 37) rfl rfl rfl rfl rfl rfl h_Xi ?_
      refine hmonoi H ?_
      intro x8 g6 e7 H
      refine zq_ifne (pc' := 40) rfl rfl rfl rfl (And.intro (fun c => ?_) (fun c => ?_))
      · have H := H.1 c
        refine zq_ipush (pc' := 41) rfl rfl rfl ?_
        exact zq_iret rfl (Or.inl rfl) (Exists.intro _ (Exists.intro _ (And.intro rfl H)))
      · have H := H.2 c
        refine zq_aload (pc' := 43) rfl rfl rfl rfl ?_
        obtain ⟨hr9, H⟩ := H
        refine zq_getR (pc' := 46) rfl rfl rfl (hp_gR rfl) ?_
        refine zq_ipushn (pc' := 48) rfl rfl rfl ?_
        refine hq_callv (pc' := 51) rfl rfl rfl rfl rfl rfl h_Xi ?_
        refine hmonov H ?_
        intro g10 e11 H
        refine zq_iinc (pc' := 54) rfl rfl rfl rfl ?_
        refine zq_goto_c (pc' := 12) rfl rfl ?_
        exact H
theorem zh_X3_negation {d : Nat} {k : Int32 → hG → hE → Prop} {X : Nat → hG → hE → Prop} {p1 : Int32} {g : hG} {e : hE} (H :
    hwi d zm_X3_negation k X 2 [(0, .ref 1001), (1, .int p1), (2, .int 0)] g e) : hci (d + 1) 85 [.ref 1001, .int p1] g e k X := by
  refine hent (M := zm_X3_negation) (show hT 1001 = some (.inr _) from rfl) rfl rfl rfl rfl rfl ?_
  refine zq_ipush (pc' := 1) rfl rfl rfl ?_
  refine zq_istore_c (pc' := 2) rfl rfl ?_
  exact H
theorem zh_X3_negation_2 {d : Nat} {k : Int32 → hG → hE → Prop} {X : Nat → hG → hE → Prop} {l1 : Int32} {l2 : Int32} {g : hG} {e : hE} (H :
    zbr (6 ≤ l2)
    (hwi d zm_X3_negation k X 27 [(0, .ref 1001), (1, .int l1), (2, .int l2)] g e)
    (hci d 72 [.ref 1001, .ref 18] g e (fun x3 g1 e2 =>
        zbr (x3 = 0)
        (hwi d zm_X3_negation k X 27 [(0, .ref 1001), (1, .int l1), (2, .int l2)] g1 e2)
        (hcv d 70 [.ref 1001] g1 e2 (fun g4 e5 =>
            hwi d zm_X3_negation k X 2 [(0, .ref 1001), (1, .int l1), (2, .int (l2 + 1))] g4 e5) X)) X)) : hwi d zm_X3_negation k X 2 [(0, .ref 1001), (1, .int l1), (2, .int l2)] g e := by
  refine zq_iload (pc' := 3) rfl rfl rfl rfl ?_
  refine zq_ipush (pc' := 5) rfl rfl rfl ?_
  refine zq_icge_c (pc' := 8) (lt := [(0, .ref 1001), (1, .int l1), (2, .int l2)]) (lf := [(0, .ref 1001), (1, .int l1), (2, .int l2)]) rfl rfl rfl rfl (And.intro (fun c => ?_) (fun c => ?_))
  · have H := H.1 c
    exact H
  · have H := H.2 c
    refine zq_aload (pc' := 9) rfl rfl rfl rfl ?_
    refine zq_rpush (pc' := 11) rfl rfl rfl ?_
    refine hq_calli (pc' := 14) rfl rfl rfl rfl rfl rfl h_Xi ?_
    refine hmonoi H ?_
    intro x3 g1 e2 H
    refine zq_ifeq_c (pc' := 17) (lt := [(0, .ref 1001), (1, .int l1), (2, .int l2)]) (lf := [(0, .ref 1001), (1, .int l1), (2, .int l2)]) rfl rfl rfl rfl (And.intro (fun c => ?_) (fun c => ?_))
    · have H := H.1 c
      exact H
    · have H := H.2 c
      refine zq_iinc (pc' := 20) rfl rfl rfl rfl ?_
      refine zq_aload (pc' := 21) rfl rfl rfl rfl ?_
      refine hq_callv (pc' := 24) rfl rfl rfl rfl rfl rfl h_Xi ?_
      refine hmonov H ?_
      intro g4 e5 H
      refine zq_goto_c (pc' := 2) rfl rfl ?_
      exact H
theorem zh_X3_negation_27 {d : Nat} {k : Int32 → hG → hE → Prop} {X : Nat → hG → hE → Prop} {l1 : Int32} {l2 : Int32} {g : hG} {e : hE} (H :
    hci d 72 [.ref 1001, .ref 18] g e (fun x3 g1 e2 =>
      zbr (x3 = 0)
      (hci d 86 [.ref 1001, .int l1] g1 e2 (fun x6 g4 e5 =>
          zbr (x6 = 0)
          (k 0 g4 e5)
          (hwi d zm_X3_negation k X 54 [(0, .ref 1001), (2, .int l2), (3, .int 0)] g4 e5)) X)
      (hci d 74 [.ref 1001, .int 2] g1 e2 (fun x9 g7 e8 =>
          (x9 = 0 ∨ x9 = 1) ∧ k x9 g7 e8) X)) X) : hwi d zm_X3_negation k X 27 [(0, .ref 1001), (1, .int l1), (2, .int l2)] g e := by
  refine zq_aload (pc' := 28) rfl rfl rfl rfl ?_
  refine zq_rpush (pc' := 30) rfl rfl rfl ?_
  refine hq_calli (pc' := 33) rfl rfl rfl rfl rfl rfl h_Xi ?_
  refine hmonoi H ?_
  intro x3 g1 e2 H
  refine zq_ifeq (pc' := 36) rfl rfl rfl rfl (And.intro (fun c => ?_) (fun c => ?_))
  · have H := H.1 c
    refine zq_aload (pc' := 43) rfl rfl rfl rfl ?_
    refine zq_iload (pc' := 44) rfl rfl rfl rfl ?_
    refine hq_calli (pc' := 47) rfl rfl rfl rfl rfl rfl h_Xi ?_
    refine hmonoi H ?_
    intro x6 g4 e5 H
    refine zq_ifne (pc' := 50) rfl rfl rfl rfl (And.intro (fun c => ?_) (fun c => ?_))
    · have H := H.1 c
      refine zq_ipush (pc' := 51) rfl rfl rfl ?_
      exact zq_iret rfl (Or.inl rfl) (Exists.intro _ (Exists.intro _ (And.intro rfl H)))
    · have H := H.2 c
      refine zq_ipush (pc' := 53) rfl rfl rfl ?_
      refine zq_istore_c (pc' := 54) rfl rfl ?_
      exact H
  · have H := H.2 c
    refine zq_aload (pc' := 37) rfl rfl rfl rfl ?_
    refine zq_ipush (pc' := 38) rfl rfl rfl ?_
    refine hq_calli (pc' := 41) rfl rfl rfl rfl rfl rfl h_Xi ?_
    refine hmonoi H ?_
    intro x9 g7 e8 H
    exact zq_iret rfl H.1 (Exists.intro _ (Exists.intro _ (And.intro rfl H.2)))
theorem zh_X3_negation_54 {d : Nat} {k : Int32 → hG → hE → Prop} {X : Nat → hG → hE → Prop} {l2 : Int32} {l3 : Int32} {g : hG} {e : hE} (H :
    zbr (l2 ≤ l3)
    (k 1 g e)
    (hD (g.2.2 1001 7) ∧ 
      hcv d 42 [.ref (g.2.2 1001 7), .int (-6)] g e (fun g2 e3 =>
        hwi d zm_X3_negation k X 54 [(0, .ref 1001), (2, .int l2), (3, .int (l3 + 1))] g2 e3) X)) : hwi d zm_X3_negation k X 54 [(0, .ref 1001), (2, .int l2), (3, .int l3)] g e := by
  refine zq_iload (pc' := 55) rfl rfl rfl rfl ?_
  refine zq_iload (pc' := 56) rfl rfl rfl rfl ?_
  refine zq_icge (pc' := 59) rfl rfl rfl rfl (And.intro (fun c => ?_) (fun c => ?_))
  · have H := H.1 c
    refine zq_ipush (pc' := 75) rfl rfl rfl ?_
    exact zq_iret rfl (Or.inr rfl) (Exists.intro _ (Exists.intro _ (And.intro rfl H)))
  · have H := H.2 c
    refine zq_aload (pc' := 60) rfl rfl rfl rfl ?_
    obtain ⟨hr1, H⟩ := H
    refine zq_getR (pc' := 63) rfl rfl rfl (hp_gR rfl) ?_
    refine zq_ipushn (pc' := 65) rfl rfl rfl ?_
    refine hq_callv (pc' := 68) rfl rfl rfl rfl rfl rfl h_Xi ?_
    refine hmonov H ?_
    intro g2 e3 H
    refine zq_iinc (pc' := 71) rfl rfl rfl rfl ?_
    refine zq_goto_c (pc' := 54) rfl rfl ?_
    exact H
theorem zh_X3_comparison {d : Nat} {k : Int32 → hG → hE → Prop} {X : Nat → hG → hE → Prop} {p1 : Int32} {g : hG} {e : hE} (H :
    hci d 87 [.ref 1001, .int p1] g e (fun x3 g1 e2 =>
      zbr (x3 = 0)
      (k 0 g1 e2)
      (hci d 73 [.ref 1001, .int 60] g1 e2 (fun x6 g4 e5 =>
          zbr (x6 = 0)
          (hci d 73 [.ref 1001, .int 61] g4 e5 (fun x9 g7 e8 =>
              zbr (x9 = 0)
              (k 1 g7 e8)
              (hwi d zm_X3_comparison k X 30 [(0, .ref 1001), (1, .int p1)] g7 e8)) X)
          (hwi d zm_X3_comparison k X 30 [(0, .ref 1001), (1, .int p1)] g4 e5)) X)) X) : hci (d + 1) 86 [.ref 1001, .int p1] g e k X := by
  refine hent (M := zm_X3_comparison) (show hT 1001 = some (.inr _) from rfl) rfl rfl rfl rfl rfl ?_
  refine zq_aload (pc' := 1) rfl rfl rfl rfl ?_
  refine zq_iload (pc' := 2) rfl rfl rfl rfl ?_
  refine hq_calli (pc' := 5) rfl rfl rfl rfl rfl rfl h_Xi ?_
  refine hmonoi H ?_
  intro x3 g1 e2 H
  refine zq_ifne (pc' := 8) rfl rfl rfl rfl (And.intro (fun c => ?_) (fun c => ?_))
  · have H := H.1 c
    refine zq_ipush (pc' := 9) rfl rfl rfl ?_
    exact zq_iret rfl (Or.inl rfl) (Exists.intro _ (Exists.intro _ (And.intro rfl H)))
  · have H := H.2 c
    refine zq_aload (pc' := 11) rfl rfl rfl rfl ?_
    refine zq_ipush (pc' := 13) rfl rfl rfl ?_
    refine hq_calli (pc' := 16) rfl rfl rfl rfl rfl rfl h_Xi ?_
    refine hmonoi H ?_
    intro x6 g4 e5 H
    refine zq_ifne_c (pc' := 19) (lt := [(0, .ref 1001), (1, .int p1)]) (lf := [(0, .ref 1001), (1, .int p1)]) rfl rfl rfl rfl (And.intro (fun c => ?_) (fun c => ?_))
    · have H := H.1 c
      refine zq_aload (pc' := 20) rfl rfl rfl rfl ?_
      refine zq_ipush (pc' := 22) rfl rfl rfl ?_
      refine hq_calli (pc' := 25) rfl rfl rfl rfl rfl rfl h_Xi ?_
      refine hmonoi H ?_
      intro x9 g7 e8 H
      refine zq_ifne_c (pc' := 28) (lt := [(0, .ref 1001), (1, .int p1)]) (lf := [(0, .ref 1001), (1, .int p1)]) rfl rfl rfl rfl (And.intro (fun c => ?_) (fun c => ?_))
      · have H := H.1 c
        refine zq_ipush (pc' := 29) rfl rfl rfl ?_
        exact zq_iret rfl (Or.inr rfl) (Exists.intro _ (Exists.intro _ (And.intro rfl H)))
      · have H := H.2 c
        exact H
    · have H := H.2 c
      exact H
theorem zh_X3_comparison_30 {d : Nat} {k : Int32 → hG → hE → Prop} {X : Nat → hG → hE → Prop} {l1 : Int32} {g : hG} {e : hE} (H :
    hci d 73 [.ref 1001, .int 60] g e (fun x3 g1 e2 =>
      zbr (x3 = 0)
      (hcv d 70 [.ref 1001] g1 e2 (fun g4 e5 =>
          hci d 87 [.ref 1001, .int l1] g4 e5 (fun x8 g6 e7 =>
            zbr (x8 = 0)
            (k 0 g6 e7)
            (hD (g6.2.2 1001 7) ∧ 
              hcv d 42 [.ref (g6.2.2 1001 7), .int (-10)] g6 e7 (fun g10 e11 =>
                k 1 g10 e11) X)) X) X)
      (hcv d 70 [.ref 1001] g1 e2 (fun g12 e13 =>
          hci d 87 [.ref 1001, .int l1] g12 e13 (fun x16 g14 e15 =>
            zbr (x16 = 0)
            (k 0 g14 e15)
            (hD (g14.2.2 1001 7) ∧ 
              hcv d 42 [.ref (g14.2.2 1001 7), .int (-9)] g14 e15 (fun g18 e19 =>
                k 1 g18 e19) X)) X) X)) X) : hwi d zm_X3_comparison k X 30 [(0, .ref 1001), (1, .int l1)] g e := by
  refine zq_aload (pc' := 31) rfl rfl rfl rfl ?_
  refine zq_ipush (pc' := 33) rfl rfl rfl ?_
  refine hq_calli (pc' := 36) rfl rfl rfl rfl rfl rfl h_Xi ?_
  refine hmonoi H ?_
  intro x3 g1 e2 H
  refine zq_ifeq (pc' := 39) rfl rfl rfl rfl (And.intro (fun c => ?_) (fun c => ?_))
  · have H := H.1 c
    refine zq_ipushn (pc' := 46) rfl rfl rfl ?_
    refine zq_istore (pc' := 47) rfl rfl rfl ?_
    refine zq_aload (pc' := 48) rfl rfl rfl rfl ?_
    refine hq_callv (pc' := 51) rfl rfl rfl rfl rfl rfl h_Xi ?_
    refine hmonov H ?_
    intro g4 e5 H
    refine zq_aload (pc' := 52) rfl rfl rfl rfl ?_
    refine zq_iload (pc' := 53) rfl rfl rfl rfl ?_
    refine hq_calli (pc' := 56) rfl rfl rfl rfl rfl rfl h_Xi ?_
    refine hmonoi H ?_
    intro x8 g6 e7 H
    refine zq_ifne (pc' := 59) rfl rfl rfl rfl (And.intro (fun c => ?_) (fun c => ?_))
    · have H := H.1 c
      refine zq_ipush (pc' := 60) rfl rfl rfl ?_
      exact zq_iret rfl (Or.inl rfl) (Exists.intro _ (Exists.intro _ (And.intro rfl H)))
    · have H := H.2 c
      refine zq_aload (pc' := 62) rfl rfl rfl rfl ?_
      obtain ⟨hr9, H⟩ := H
      refine zq_getR (pc' := 65) rfl rfl rfl (hp_gR rfl) ?_
      refine zq_iload (pc' := 66) rfl rfl rfl rfl ?_
      refine hq_callv (pc' := 69) rfl rfl rfl rfl rfl rfl h_Xi ?_
      refine hmonov H ?_
      intro g10 e11 H
      refine zq_ipush (pc' := 70) rfl rfl rfl ?_
      exact zq_iret rfl (Or.inr rfl) (Exists.intro _ (Exists.intro _ (And.intro rfl H)))
  · have H := H.2 c
    refine zq_ipushn (pc' := 41) rfl rfl rfl ?_
    refine zq_goto (pc' := 46) rfl rfl rfl ?_
    refine zq_istore (pc' := 47) rfl rfl rfl ?_
    refine zq_aload (pc' := 48) rfl rfl rfl rfl ?_
    refine hq_callv (pc' := 51) rfl rfl rfl rfl rfl rfl h_Xi ?_
    refine hmonov H ?_
    intro g12 e13 H
    refine zq_aload (pc' := 52) rfl rfl rfl rfl ?_
    refine zq_iload (pc' := 53) rfl rfl rfl rfl ?_
    refine hq_calli (pc' := 56) rfl rfl rfl rfl rfl rfl h_Xi ?_
    refine hmonoi H ?_
    intro x16 g14 e15 H
    refine zq_ifne (pc' := 59) rfl rfl rfl rfl (And.intro (fun c => ?_) (fun c => ?_))
    · have H := H.1 c
      refine zq_ipush (pc' := 60) rfl rfl rfl ?_
      exact zq_iret rfl (Or.inl rfl) (Exists.intro _ (Exists.intro _ (And.intro rfl H)))
    · have H := H.2 c
      refine zq_aload (pc' := 62) rfl rfl rfl rfl ?_
      obtain ⟨hr17, H⟩ := H
      refine zq_getR (pc' := 65) rfl rfl rfl (hp_gR rfl) ?_
      refine zq_iload (pc' := 66) rfl rfl rfl rfl ?_
      refine hq_callv (pc' := 69) rfl rfl rfl rfl rfl rfl h_Xi ?_
      refine hmonov H ?_
      intro g18 e19 H
      refine zq_ipush (pc' := 70) rfl rfl rfl ?_
      exact zq_iret rfl (Or.inr rfl) (Exists.intro _ (Exists.intro _ (And.intro rfl H)))
theorem zh_X3_sum {d : Nat} {k : Int32 → hG → hE → Prop} {X : Nat → hG → hE → Prop} {p1 : Int32} {g : hG} {e : hE} (H :
    hci d 88 [.ref 1001, .int p1] g e (fun x3 g1 e2 =>
      zbr (x3 = 0)
      (k 0 g1 e2)
      (hwi d zm_X3_sum k X 12 [(0, .ref 1001), (1, .int p1), (2, .int 0)] g1 e2)) X) : hci (d + 1) 87 [.ref 1001, .int p1] g e k X := by
  refine hent (M := zm_X3_sum) (show hT 1001 = some (.inr _) from rfl) rfl rfl rfl rfl rfl ?_
  refine zq_aload (pc' := 1) rfl rfl rfl rfl ?_
  refine zq_iload (pc' := 2) rfl rfl rfl rfl ?_
  refine hq_calli (pc' := 5) rfl rfl rfl rfl rfl rfl h_Xi ?_
  refine hmonoi H ?_
  intro x3 g1 e2 H
  refine zq_ifne (pc' := 8) rfl rfl rfl rfl (And.intro (fun c => ?_) (fun c => ?_))
  · have H := H.1 c
    refine zq_ipush (pc' := 9) rfl rfl rfl ?_
    exact zq_iret rfl (Or.inl rfl) (Exists.intro _ (Exists.intro _ (And.intro rfl H)))
  · have H := H.2 c
    refine zq_ipush (pc' := 11) rfl rfl rfl ?_
    refine zq_istore_c (pc' := 12) rfl rfl ?_
    exact H
theorem zh_X3_sum_12 {d : Nat} {k : Int32 → hG → hE → Prop} {X : Nat → hG → hE → Prop} {l1 : Int32} {l2 : Int32} {g : hG} {e : hE} (H :
    zbr (700 ≤ l2)
    (k 1 g e)
    (hci d 73 [.ref 1001, .int 43] g e (fun x3 g1 e2 =>
        zbr (x3 = 0)
        (hci d 73 [.ref 1001, .int 45] g1 e2 (fun x6 g4 e5 =>
            zbr (x6 = 0)
            (k 1 g4 e5)
            (hwi d zm_X3_sum k X 37 [(0, .ref 1001), (1, .int l1), (2, .int l2)] g4 e5)) X)
        (hwi d zm_X3_sum k X 37 [(0, .ref 1001), (1, .int l1), (2, .int l2)] g1 e2)) X)) : hwi d zm_X3_sum k X 12 [(0, .ref 1001), (1, .int l1), (2, .int l2)] g e := by
  refine zq_iload (pc' := 13) rfl rfl rfl rfl ?_
  refine zq_ipush (pc' := 16) rfl rfl rfl ?_
  refine zq_icge (pc' := 19) rfl rfl rfl rfl (And.intro (fun c => ?_) (fun c => ?_))
  · have H := H.1 c
    refine zq_ipush (pc' := 83) rfl rfl rfl ?_
    exact zq_iret rfl (Or.inr rfl) (Exists.intro _ (Exists.intro _ (And.intro rfl H)))
  · have H := H.2 c
    refine zq_aload (pc' := 20) rfl rfl rfl rfl ?_
    refine zq_ipush (pc' := 22) rfl rfl rfl ?_
    refine hq_calli (pc' := 25) rfl rfl rfl rfl rfl rfl h_Xi ?_
    refine hmonoi H ?_
    intro x3 g1 e2 H
    refine zq_ifne_c (pc' := 28) (lt := [(0, .ref 1001), (1, .int l1), (2, .int l2)]) (lf := [(0, .ref 1001), (1, .int l1), (2, .int l2)]) rfl rfl rfl rfl (And.intro (fun c => ?_) (fun c => ?_))
    · have H := H.1 c
      refine zq_aload (pc' := 29) rfl rfl rfl rfl ?_
      refine zq_ipush (pc' := 31) rfl rfl rfl ?_
      refine hq_calli (pc' := 34) rfl rfl rfl rfl rfl rfl h_Xi ?_
      refine hmonoi H ?_
      intro x6 g4 e5 H
      refine zq_ifeq_c (pc' := 37) (lt := [(0, .ref 1001), (1, .int l1), (2, .int l2)]) (lf := [(0, .ref 1001), (1, .int l1), (2, .int l2)]) rfl rfl rfl rfl (And.intro (fun c => ?_) (fun c => ?_))
      · have H := H.1 c
        refine zq_ipush (pc' := 83) rfl rfl rfl ?_
        exact zq_iret rfl (Or.inr rfl) (Exists.intro _ (Exists.intro _ (And.intro rfl H)))
      · have H := H.2 c
        exact H
    · have H := H.2 c
      exact H
theorem zh_X3_sum_37 {d : Nat} {k : Int32 → hG → hE → Prop} {X : Nat → hG → hE → Prop} {l1 : Int32} {l2 : Int32} {g : hG} {e : hE} (H :
    hci d 73 [.ref 1001, .int 43] g e (fun x3 g1 e2 =>
      zbr (x3 = 0)
      (hcv d 70 [.ref 1001] g1 e2 (fun g4 e5 =>
          hci d 88 [.ref 1001, .int l1] g4 e5 (fun x8 g6 e7 =>
            zbr (x8 = 0)
            (k 0 g6 e7)
            (hD (g6.2.2 1001 7) ∧ 
              hcv d 42 [.ref (g6.2.2 1001 7), .int (-12)] g6 e7 (fun g10 e11 =>
                hwi d zm_X3_sum k X 12 [(0, .ref 1001), (1, .int l1), (2, .int (l2 + 1))] g10 e11) X)) X) X)
      (hcv d 70 [.ref 1001] g1 e2 (fun g12 e13 =>
          hci d 88 [.ref 1001, .int l1] g12 e13 (fun x16 g14 e15 =>
            zbr (x16 = 0)
            (k 0 g14 e15)
            (hD (g14.2.2 1001 7) ∧ 
              hcv d 42 [.ref (g14.2.2 1001 7), .int (-11)] g14 e15 (fun g18 e19 =>
                hwi d zm_X3_sum k X 12 [(0, .ref 1001), (1, .int l1), (2, .int (l2 + 1))] g18 e19) X)) X) X)) X) : hwi d zm_X3_sum k X 37 [(0, .ref 1001), (1, .int l1), (2, .int l2)] g e := by
  refine zq_aload (pc' := 38) rfl rfl rfl rfl ?_
  refine zq_ipush (pc' := 40) rfl rfl rfl ?_
  refine hq_calli (pc' := 43) rfl rfl rfl rfl rfl rfl h_Xi ?_
  refine hmonoi H ?_
  intro x3 g1 e2 H
  refine zq_ifeq (pc' := 46) rfl rfl rfl rfl (And.intro (fun c => ?_) (fun c => ?_))
  · have H := H.1 c
    refine zq_ipushn (pc' := 53) rfl rfl rfl ?_
    refine zq_istore (pc' := 54) rfl rfl rfl ?_
    refine zq_aload (pc' := 55) rfl rfl rfl rfl ?_
    refine hq_callv (pc' := 58) rfl rfl rfl rfl rfl rfl h_Xi ?_
    refine hmonov H ?_
    intro g4 e5 H
    refine zq_aload (pc' := 59) rfl rfl rfl rfl ?_
    refine zq_iload (pc' := 60) rfl rfl rfl rfl ?_
    refine hq_calli (pc' := 63) rfl rfl rfl rfl rfl rfl h_Xi ?_
    refine hmonoi H ?_
    intro x8 g6 e7 H
    refine zq_ifne (pc' := 66) rfl rfl rfl rfl (And.intro (fun c => ?_) (fun c => ?_))
    · have H := H.1 c
      refine zq_ipush (pc' := 67) rfl rfl rfl ?_
      exact zq_iret rfl (Or.inl rfl) (Exists.intro _ (Exists.intro _ (And.intro rfl H)))
    · have H := H.2 c
      refine zq_aload (pc' := 69) rfl rfl rfl rfl ?_
      obtain ⟨hr9, H⟩ := H
      refine zq_getR (pc' := 72) rfl rfl rfl (hp_gR rfl) ?_
      refine zq_iload (pc' := 73) rfl rfl rfl rfl ?_
      refine hq_callv (pc' := 76) rfl rfl rfl rfl rfl rfl h_Xi ?_
      refine hmonov H ?_
      intro g10 e11 H
      refine zq_iinc (pc' := 79) rfl rfl rfl rfl ?_
      refine zq_goto_c (pc' := 12) rfl rfl ?_
      exact H
  · have H := H.2 c
    refine zq_ipushn (pc' := 48) rfl rfl rfl ?_
    refine zq_goto (pc' := 53) rfl rfl rfl ?_
    refine zq_istore (pc' := 54) rfl rfl rfl ?_
    refine zq_aload (pc' := 55) rfl rfl rfl rfl ?_
    refine hq_callv (pc' := 58) rfl rfl rfl rfl rfl rfl h_Xi ?_
    refine hmonov H ?_
    intro g12 e13 H
    refine zq_aload (pc' := 59) rfl rfl rfl rfl ?_
    refine zq_iload (pc' := 60) rfl rfl rfl rfl ?_
    refine hq_calli (pc' := 63) rfl rfl rfl rfl rfl rfl h_Xi ?_
    refine hmonoi H ?_
    intro x16 g14 e15 H
    refine zq_ifne (pc' := 66) rfl rfl rfl rfl (And.intro (fun c => ?_) (fun c => ?_))
    · have H := H.1 c
      refine zq_ipush (pc' := 67) rfl rfl rfl ?_
      exact zq_iret rfl (Or.inl rfl) (Exists.intro _ (Exists.intro _ (And.intro rfl H)))
    · have H := H.2 c
      refine zq_aload (pc' := 69) rfl rfl rfl rfl ?_
      obtain ⟨hr17, H⟩ := H
      refine zq_getR (pc' := 72) rfl rfl rfl (hp_gR rfl) ?_
      refine zq_iload (pc' := 73) rfl rfl rfl rfl ?_
      refine hq_callv (pc' := 76) rfl rfl rfl rfl rfl rfl h_Xi ?_
      refine hmonov H ?_
      intro g18 e19 H
      refine zq_iinc (pc' := 79) rfl rfl rfl rfl ?_
      refine zq_goto_c (pc' := 12) rfl rfl ?_
      exact H
theorem zh_X3_product {d : Nat} {k : Int32 → hG → hE → Prop} {X : Nat → hG → hE → Prop} {p1 : Int32} {g : hG} {e : hE} (H :
    hci d 89 [.ref 1001, .int p1] g e (fun x3 g1 e2 =>
      zbr (x3 = 0)
      (k 0 g1 e2)
      (hwi d zm_X3_product k X 12 [(0, .ref 1001), (1, .int p1), (2, .int 0)] g1 e2)) X) : hci (d + 1) 88 [.ref 1001, .int p1] g e k X := by
  refine hent (M := zm_X3_product) (show hT 1001 = some (.inr _) from rfl) rfl rfl rfl rfl rfl ?_
  refine zq_aload (pc' := 1) rfl rfl rfl rfl ?_
  refine zq_iload (pc' := 2) rfl rfl rfl rfl ?_
  refine hq_calli (pc' := 5) rfl rfl rfl rfl rfl rfl h_Xi ?_
  refine hmonoi H ?_
  intro x3 g1 e2 H
  refine zq_ifne (pc' := 8) rfl rfl rfl rfl (And.intro (fun c => ?_) (fun c => ?_))
  · have H := H.1 c
    refine zq_ipush (pc' := 9) rfl rfl rfl ?_
    exact zq_iret rfl (Or.inl rfl) (Exists.intro _ (Exists.intro _ (And.intro rfl H)))
  · have H := H.2 c
    refine zq_ipush (pc' := 11) rfl rfl rfl ?_
    refine zq_istore_c (pc' := 12) rfl rfl ?_
    exact H
theorem zh_X3_product_12 {d : Nat} {k : Int32 → hG → hE → Prop} {X : Nat → hG → hE → Prop} {l1 : Int32} {l2 : Int32} {g : hG} {e : hE} (H :
    zbr (700 ≤ l2)
    (k 1 g e)
    (hci d 73 [.ref 1001, .int 42] g e (fun x3 g1 e2 =>
        zbr (x3 = 0)
        (hci d 73 [.ref 1001, .int 47] g1 e2 (fun x6 g4 e5 =>
            zbr (x6 = 0)
            (k 1 g4 e5)
            (hwi d zm_X3_product k X 37 [(0, .ref 1001), (1, .int l1), (2, .int l2)] g4 e5)) X)
        (hwi d zm_X3_product k X 37 [(0, .ref 1001), (1, .int l1), (2, .int l2)] g1 e2)) X)) : hwi d zm_X3_product k X 12 [(0, .ref 1001), (1, .int l1), (2, .int l2)] g e := by
  refine zq_iload (pc' := 13) rfl rfl rfl rfl ?_
  refine zq_ipush (pc' := 16) rfl rfl rfl ?_
  refine zq_icge (pc' := 19) rfl rfl rfl rfl (And.intro (fun c => ?_) (fun c => ?_))
  · have H := H.1 c
    refine zq_ipush (pc' := 83) rfl rfl rfl ?_
    exact zq_iret rfl (Or.inr rfl) (Exists.intro _ (Exists.intro _ (And.intro rfl H)))
  · have H := H.2 c
    refine zq_aload (pc' := 20) rfl rfl rfl rfl ?_
    refine zq_ipush (pc' := 22) rfl rfl rfl ?_
    refine hq_calli (pc' := 25) rfl rfl rfl rfl rfl rfl h_Xi ?_
    refine hmonoi H ?_
    intro x3 g1 e2 H
    refine zq_ifne_c (pc' := 28) (lt := [(0, .ref 1001), (1, .int l1), (2, .int l2)]) (lf := [(0, .ref 1001), (1, .int l1), (2, .int l2)]) rfl rfl rfl rfl (And.intro (fun c => ?_) (fun c => ?_))
    · have H := H.1 c
      refine zq_aload (pc' := 29) rfl rfl rfl rfl ?_
      refine zq_ipush (pc' := 31) rfl rfl rfl ?_
      refine hq_calli (pc' := 34) rfl rfl rfl rfl rfl rfl h_Xi ?_
      refine hmonoi H ?_
      intro x6 g4 e5 H
      refine zq_ifeq_c (pc' := 37) (lt := [(0, .ref 1001), (1, .int l1), (2, .int l2)]) (lf := [(0, .ref 1001), (1, .int l1), (2, .int l2)]) rfl rfl rfl rfl (And.intro (fun c => ?_) (fun c => ?_))
      · have H := H.1 c
        refine zq_ipush (pc' := 83) rfl rfl rfl ?_
        exact zq_iret rfl (Or.inr rfl) (Exists.intro _ (Exists.intro _ (And.intro rfl H)))
      · have H := H.2 c
        exact H
    · have H := H.2 c
      exact H
theorem zh_X3_product_37 {d : Nat} {k : Int32 → hG → hE → Prop} {X : Nat → hG → hE → Prop} {l1 : Int32} {l2 : Int32} {g : hG} {e : hE} (H :
    hci d 73 [.ref 1001, .int 42] g e (fun x3 g1 e2 =>
      zbr (x3 = 0)
      (hcv d 70 [.ref 1001] g1 e2 (fun g4 e5 =>
          hci d 89 [.ref 1001, .int l1] g4 e5 (fun x8 g6 e7 =>
            zbr (x8 = 0)
            (k 0 g6 e7)
            (hD (g6.2.2 1001 7) ∧ 
              hcv d 42 [.ref (g6.2.2 1001 7), .int (-14)] g6 e7 (fun g10 e11 =>
                hwi d zm_X3_product k X 12 [(0, .ref 1001), (1, .int l1), (2, .int (l2 + 1))] g10 e11) X)) X) X)
      (hcv d 70 [.ref 1001] g1 e2 (fun g12 e13 =>
          hci d 89 [.ref 1001, .int l1] g12 e13 (fun x16 g14 e15 =>
            zbr (x16 = 0)
            (k 0 g14 e15)
            (hD (g14.2.2 1001 7) ∧ 
              hcv d 42 [.ref (g14.2.2 1001 7), .int (-13)] g14 e15 (fun g18 e19 =>
                hwi d zm_X3_product k X 12 [(0, .ref 1001), (1, .int l1), (2, .int (l2 + 1))] g18 e19) X)) X) X)) X) : hwi d zm_X3_product k X 37 [(0, .ref 1001), (1, .int l1), (2, .int l2)] g e := by
  refine zq_aload (pc' := 38) rfl rfl rfl rfl ?_
  refine zq_ipush (pc' := 40) rfl rfl rfl ?_
  refine hq_calli (pc' := 43) rfl rfl rfl rfl rfl rfl h_Xi ?_
  refine hmonoi H ?_
  intro x3 g1 e2 H
  refine zq_ifeq (pc' := 46) rfl rfl rfl rfl (And.intro (fun c => ?_) (fun c => ?_))
  · have H := H.1 c
    refine zq_ipushn (pc' := 53) rfl rfl rfl ?_
    refine zq_istore (pc' := 54) rfl rfl rfl ?_
    refine zq_aload (pc' := 55) rfl rfl rfl rfl ?_
    refine hq_callv (pc' := 58) rfl rfl rfl rfl rfl rfl h_Xi ?_
    refine hmonov H ?_
    intro g4 e5 H
    refine zq_aload (pc' := 59) rfl rfl rfl rfl ?_
    refine zq_iload (pc' := 60) rfl rfl rfl rfl ?_
    refine hq_calli (pc' := 63) rfl rfl rfl rfl rfl rfl h_Xi ?_
    refine hmonoi H ?_
    intro x8 g6 e7 H
    refine zq_ifne (pc' := 66) rfl rfl rfl rfl (And.intro (fun c => ?_) (fun c => ?_))
    · have H := H.1 c
      refine zq_ipush (pc' := 67) rfl rfl rfl ?_
      exact zq_iret rfl (Or.inl rfl) (Exists.intro _ (Exists.intro _ (And.intro rfl H)))
    · have H := H.2 c
      refine zq_aload (pc' := 69) rfl rfl rfl rfl ?_
      obtain ⟨hr9, H⟩ := H
      refine zq_getR (pc' := 72) rfl rfl rfl (hp_gR rfl) ?_
      refine zq_iload (pc' := 73) rfl rfl rfl rfl ?_
      refine hq_callv (pc' := 76) rfl rfl rfl rfl rfl rfl h_Xi ?_
      refine hmonov H ?_
      intro g10 e11 H
      refine zq_iinc (pc' := 79) rfl rfl rfl rfl ?_
      refine zq_goto_c (pc' := 12) rfl rfl ?_
      exact H
  · have H := H.2 c
    refine zq_ipushn (pc' := 48) rfl rfl rfl ?_
    refine zq_goto (pc' := 53) rfl rfl rfl ?_
    refine zq_istore (pc' := 54) rfl rfl rfl ?_
    refine zq_aload (pc' := 55) rfl rfl rfl rfl ?_
    refine hq_callv (pc' := 58) rfl rfl rfl rfl rfl rfl h_Xi ?_
    refine hmonov H ?_
    intro g12 e13 H
    refine zq_aload (pc' := 59) rfl rfl rfl rfl ?_
    refine zq_iload (pc' := 60) rfl rfl rfl rfl ?_
    refine hq_calli (pc' := 63) rfl rfl rfl rfl rfl rfl h_Xi ?_
    refine hmonoi H ?_
    intro x16 g14 e15 H
    refine zq_ifne (pc' := 66) rfl rfl rfl rfl (And.intro (fun c => ?_) (fun c => ?_))
    · have H := H.1 c
      refine zq_ipush (pc' := 67) rfl rfl rfl ?_
      exact zq_iret rfl (Or.inl rfl) (Exists.intro _ (Exists.intro _ (And.intro rfl H)))
    · have H := H.2 c
      refine zq_aload (pc' := 69) rfl rfl rfl rfl ?_
      obtain ⟨hr17, H⟩ := H
      refine zq_getR (pc' := 72) rfl rfl rfl (hp_gR rfl) ?_
      refine zq_iload (pc' := 73) rfl rfl rfl rfl ?_
      refine hq_callv (pc' := 76) rfl rfl rfl rfl rfl rfl h_Xi ?_
      refine hmonov H ?_
      intro g18 e19 H
      refine zq_iinc (pc' := 79) rfl rfl rfl rfl ?_
      refine zq_goto_c (pc' := 12) rfl rfl ?_
      exact H
theorem zh_X3_part {d : Nat} {k : Int32 → hG → hE → Prop} {X : Nat → hG → hE → Prop} {p1 : Int32} {g : hG} {e : hE} (H :
    hci d 73 [.ref 1001, .int 40] g e (fun x3 g1 e2 =>
      zbr (x3 = 0)
      (zbr ((g1.1 1001 3) = 2)
        (hwi d zm_X3_part k X 60 [(0, .ref 1001)] g1 e2)
        (zbr ((g1.1 1001 3) = 1)
          (hwi d zm_X3_part k X 60 [(0, .ref 1001)] g1 e2)
          (hci d 74 [.ref 1001, .int 1] g1 e2 (fun x6 g4 e5 =>
              (x6 = 0 ∨ x6 = 1) ∧ k x6 g4 e5) X)))
      (hcv d 70 [.ref 1001] g1 e2 (fun g7 e8 =>
          hci d 82 [.ref 1001, .int (p1 + 1)] g7 e8 (fun x11 g9 e10 =>
            zbr (x11 = 0)
            (k 0 g9 e10)
            (hci d 75 [.ref 1001, .int 41] g9 e10 (fun x14 g12 e13 =>
                zbr (x14 = 0)
                (k 0 g12 e13)
                (k 1 g12 e13)) X)) X) X)) X) : hci (d + 1) 89 [.ref 1001, .int p1] g e k X := by
  refine hent (M := zm_X3_part) (show hT 1001 = some (.inr _) from rfl) rfl rfl rfl rfl rfl ?_
  refine zq_aload (pc' := 1) rfl rfl rfl rfl ?_
  refine zq_ipush (pc' := 3) rfl rfl rfl ?_
  refine hq_calli (pc' := 6) rfl rfl rfl rfl rfl rfl h_Xi ?_
  refine hmonoi H ?_
  intro x3 g1 e2 H
  refine zq_ifeq (pc' := 9) rfl rfl rfl rfl (And.intro (fun c => ?_) (fun c => ?_))
  · have H := H.1 c
    refine zq_aload (pc' := 39) rfl rfl rfl rfl ?_
    refine zq_getI (pc' := 42) rfl rfl rfl (hp_gI rfl) ?_
    refine zq_ipush (pc' := 43) rfl rfl rfl ?_
    refine zq_iceq_c (pc' := 46) (lt := [(0, .ref 1001)]) (lf := [(0, .ref 1001), (1, .int p1)]) rfl rfl rfl rfl (And.intro (fun c => ?_) (fun c => ?_))
    · have H := H.1 c
      exact H
    · have H := H.2 c
      refine zq_aload (pc' := 47) rfl rfl rfl rfl ?_
      refine zq_getI (pc' := 50) rfl rfl rfl (hp_gI rfl) ?_
      refine zq_ipush (pc' := 51) rfl rfl rfl ?_
      refine zq_iceq_c (pc' := 54) (lt := [(0, .ref 1001)]) (lf := [(0, .ref 1001), (1, .int p1)]) rfl rfl rfl rfl (And.intro (fun c => ?_) (fun c => ?_))
      · have H := H.1 c
        exact H
      · have H := H.2 c
        refine zq_aload (pc' := 55) rfl rfl rfl rfl ?_
        refine zq_ipush (pc' := 56) rfl rfl rfl ?_
        refine hq_calli (pc' := 59) rfl rfl rfl rfl rfl rfl h_Xi ?_
        refine hmonoi H ?_
        intro x6 g4 e5 H
        exact zq_iret rfl H.1 (Exists.intro _ (Exists.intro _ (And.intro rfl H.2)))
  · have H := H.2 c
    refine zq_aload (pc' := 10) rfl rfl rfl rfl ?_
    refine hq_callv (pc' := 13) rfl rfl rfl rfl rfl rfl h_Xi ?_
    refine hmonov H ?_
    intro g7 e8 H
    refine zq_aload (pc' := 14) rfl rfl rfl rfl ?_
    refine zq_iload (pc' := 15) rfl rfl rfl rfl ?_
    refine zq_ipush (pc' := 16) rfl rfl rfl ?_
    refine zq_iadd (pc' := 17) rfl rfl rfl ?_
    refine hq_calli (pc' := 20) rfl rfl rfl rfl rfl rfl h_Xi ?_
    refine hmonoi H ?_
    intro x11 g9 e10 H
    refine zq_ifeq (pc' := 23) rfl rfl rfl rfl (And.intro (fun c => ?_) (fun c => ?_))
    · have H := H.1 c
      refine zq_ipush (pc' := 37) rfl rfl rfl ?_
      exact zq_iret rfl (Or.inl rfl) (Exists.intro _ (Exists.intro _ (And.intro rfl H)))
    · have H := H.2 c
      refine zq_aload (pc' := 24) rfl rfl rfl rfl ?_
      refine zq_ipush (pc' := 26) rfl rfl rfl ?_
      refine hq_calli (pc' := 29) rfl rfl rfl rfl rfl rfl h_Xi ?_
      refine hmonoi H ?_
      intro x14 g12 e13 H
      refine zq_ifeq (pc' := 32) rfl rfl rfl rfl (And.intro (fun c => ?_) (fun c => ?_))
      · have H := H.1 c
        refine zq_ipush (pc' := 37) rfl rfl rfl ?_
        exact zq_iret rfl (Or.inl rfl) (Exists.intro _ (Exists.intro _ (And.intro rfl H)))
      · have H := H.2 c
        refine zq_ipush (pc' := 33) rfl rfl rfl ?_
        refine zq_goto (pc' := 37) rfl rfl rfl ?_
        exact zq_iret rfl (Or.inr rfl) (Exists.intro _ (Exists.intro _ (And.intro rfl H)))
theorem zh_X3_part_60 {d : Nat} {k : Int32 → hG → hE → Prop} {X : Nat → hG → hE → Prop}  {g : hG} {e : hE} (H :
    zbr ((g.1 1001 3) = 2)
    (hci d 71 [.ref 1001] g e (fun x3 g1 e2 =>
        zbr (x3 < 10000)
        (zbr (x3 = (-99))
          (hci d 74 [.ref 1001, .int 3] g1 e2 (fun x6 g4 e5 =>
              (x6 = 0 ∨ x6 = 1) ∧ k x6 g4 e5) X)
          (hD (g1.2.2 1001 7) ∧ 
            hcv d 42 [.ref (g1.2.2 1001 7), .int x3] g1 e2 (fun g8 e9 =>
              hcv d 70 [.ref 1001] g8 e9 (fun g10 e11 =>
                k 1 g10 e11) X) X))
        (hci d 74 [.ref 1001, .int 2] g1 e2 (fun x14 g12 e13 =>
            (x14 = 0 ∨ x14 = 1) ∧ k x14 g12 e13) X)) X)
    (hci d 90 [.ref 1001] g e (fun x17 g15 e16 =>
        zbr (x17 < 10000)
        (zbr (x17 = (-99))
          (hci d 74 [.ref 1001, .int 3] g15 e16 (fun x20 g18 e19 =>
              (x20 = 0 ∨ x20 = 1) ∧ k x20 g18 e19) X)
          (hD (g15.2.2 1001 7) ∧ 
            hcv d 42 [.ref (g15.2.2 1001 7), .int x17] g15 e16 (fun g22 e23 =>
              hcv d 70 [.ref 1001] g22 e23 (fun g24 e25 =>
                k 1 g24 e25) X) X))
        (hci d 74 [.ref 1001, .int 2] g15 e16 (fun x28 g26 e27 =>
            (x28 = 0 ∨ x28 = 1) ∧ k x28 g26 e27) X)) X)) : hwi d zm_X3_part k X 60 [(0, .ref 1001)] g e := by
  refine zq_aload (pc' := 61) rfl rfl rfl rfl ?_
  refine zq_getI (pc' := 64) rfl rfl rfl (hp_gI rfl) ?_
  refine zq_ipush (pc' := 65) rfl rfl rfl ?_
  refine zq_icne (pc' := 68) rfl rfl rfl rfl (And.intro (fun c => ?_) (fun c => ?_))
  · have H := H.1 c
    refine zq_aload (pc' := 69) rfl rfl rfl rfl ?_
    refine hq_calli (pc' := 72) rfl rfl rfl rfl rfl rfl h_Xi ?_
    refine hmonoi H ?_
    intro x3 g1 e2 H
    refine zq_goto (pc' := 79) rfl rfl rfl ?_
    refine zq_istore (pc' := 80) rfl rfl rfl ?_
    refine zq_iload (pc' := 81) rfl rfl rfl rfl ?_
    refine zq_ipush (pc' := 84) rfl rfl rfl ?_
    refine zq_iclt (pc' := 87) rfl rfl rfl rfl (And.intro (fun c => ?_) (fun c => ?_))
    · have H := H.1 c
      refine zq_iload (pc' := 94) rfl rfl rfl rfl ?_
      refine zq_ipushn (pc' := 96) rfl rfl rfl ?_
      refine zq_icne (pc' := 99) rfl rfl rfl rfl (And.intro (fun c => ?_) (fun c => ?_))
      · have H := H.1 c
        refine zq_aload (pc' := 100) rfl rfl rfl rfl ?_
        refine zq_ipush (pc' := 101) rfl rfl rfl ?_
        refine hq_calli (pc' := 104) rfl rfl rfl rfl rfl rfl h_Xi ?_
        refine hmonoi H ?_
        intro x6 g4 e5 H
        exact zq_iret rfl H.1 (Exists.intro _ (Exists.intro _ (And.intro rfl H.2)))
      · have H := H.2 c
        refine zq_aload (pc' := 106) rfl rfl rfl rfl ?_
        obtain ⟨hr7, H⟩ := H
        refine zq_getR (pc' := 109) rfl rfl rfl (hp_gR rfl) ?_
        refine zq_iload (pc' := 110) rfl rfl rfl rfl ?_
        refine hq_callv (pc' := 113) rfl rfl rfl rfl rfl rfl h_Xi ?_
        refine hmonov H ?_
        intro g8 e9 H
        refine zq_aload (pc' := 114) rfl rfl rfl rfl ?_
        refine hq_callv (pc' := 117) rfl rfl rfl rfl rfl rfl h_Xi ?_
        refine hmonov H ?_
        intro g10 e11 H
        refine zq_ipush (pc' := 118) rfl rfl rfl ?_
        exact zq_iret rfl (Or.inr rfl) (Exists.intro _ (Exists.intro _ (And.intro rfl H)))
    · have H := H.2 c
      refine zq_aload (pc' := 88) rfl rfl rfl rfl ?_
      refine zq_ipush (pc' := 89) rfl rfl rfl ?_
      refine hq_calli (pc' := 92) rfl rfl rfl rfl rfl rfl h_Xi ?_
      refine hmonoi H ?_
      intro x14 g12 e13 H
      exact zq_iret rfl H.1 (Exists.intro _ (Exists.intro _ (And.intro rfl H.2)))
  · have H := H.2 c
    refine zq_aload (pc' := 76) rfl rfl rfl rfl ?_
    refine hq_calli (pc' := 79) rfl rfl rfl rfl rfl rfl h_Xi ?_
    refine hmonoi H ?_
    intro x17 g15 e16 H
    refine zq_istore (pc' := 80) rfl rfl rfl ?_
    refine zq_iload (pc' := 81) rfl rfl rfl rfl ?_
    refine zq_ipush (pc' := 84) rfl rfl rfl ?_
    refine zq_iclt (pc' := 87) rfl rfl rfl rfl (And.intro (fun c => ?_) (fun c => ?_))
    · have H := H.1 c
      refine zq_iload (pc' := 94) rfl rfl rfl rfl ?_
      refine zq_ipushn (pc' := 96) rfl rfl rfl ?_
      refine zq_icne (pc' := 99) rfl rfl rfl rfl (And.intro (fun c => ?_) (fun c => ?_))
      · have H := H.1 c
        refine zq_aload (pc' := 100) rfl rfl rfl rfl ?_
        refine zq_ipush (pc' := 101) rfl rfl rfl ?_
        refine hq_calli (pc' := 104) rfl rfl rfl rfl rfl rfl h_Xi ?_
        refine hmonoi H ?_
        intro x20 g18 e19 H
        exact zq_iret rfl H.1 (Exists.intro _ (Exists.intro _ (And.intro rfl H.2)))
      · have H := H.2 c
        refine zq_aload (pc' := 106) rfl rfl rfl rfl ?_
        obtain ⟨hr21, H⟩ := H
        refine zq_getR (pc' := 109) rfl rfl rfl (hp_gR rfl) ?_
        refine zq_iload (pc' := 110) rfl rfl rfl rfl ?_
        refine hq_callv (pc' := 113) rfl rfl rfl rfl rfl rfl h_Xi ?_
        refine hmonov H ?_
        intro g22 e23 H
        refine zq_aload (pc' := 114) rfl rfl rfl rfl ?_
        refine hq_callv (pc' := 117) rfl rfl rfl rfl rfl rfl h_Xi ?_
        refine hmonov H ?_
        intro g24 e25 H
        refine zq_ipush (pc' := 118) rfl rfl rfl ?_
        exact zq_iret rfl (Or.inr rfl) (Exists.intro _ (Exists.intro _ (And.intro rfl H)))
    · have H := H.2 c
      refine zq_aload (pc' := 88) rfl rfl rfl rfl ?_
      refine zq_ipush (pc' := 89) rfl rfl rfl ?_
      refine hq_calli (pc' := 92) rfl rfl rfl rfl rfl rfl h_Xi ?_
      refine hmonoi H ?_
      intro x28 g26 e27 H
      exact zq_iret rfl H.1 (Exists.intro _ (Exists.intro _ (And.intro rfl H.2)))
theorem zh_X3_valueStep {d : Nat} {k : Int32 → hG → hE → Prop} {X : Nat → hG → hE → Prop}  {g : hG} {e : hE} (H :
    hci d 72 [.ref 1001, .ref 6] g e (fun x3 g1 e2 =>
      zbr (x3 = 0)
      (hci d 72 [.ref 1001, .ref 20] g1 e2 (fun x6 g4 e5 =>
          zbr (x6 = 0)
          (hci d 72 [.ref 1001, .ref 22] g4 e5 (fun x9 g7 e8 =>
              zbr (x9 = 0)
              (hci d 72 [.ref 1001, .ref 24] g7 e8 (fun x12 g10 e11 =>
                  zbr (x12 = 0)
                  (zbr ((g10.1 1001 8) = 0)
                    (hci d 72 [.ref 1001, .ref 28] g10 e11 (fun x15 g13 e14 =>
                        zbr (x15 = 0)
                        (k (-99) g13 e14)
                        (k (-5) g13 e14)) X)
                    (hci d 72 [.ref 1001, .ref 26] g10 e11 (fun x18 g16 e17 =>
                        zbr (x18 = 0)
                        (k (-99) g16 e17)
                        (k (-5) g16 e17)) X))
                  (k (-4) g10 e11)) X)
              (k (-3) g7 e8)) X)
          (k (-2) g4 e5)) X)
      (k (-1) g1 e2)) X) : hci (d + 1) 90 [.ref 1001] g e k X := by
  refine hent (M := zm_X3_valueStep) (show hT 1001 = some (.inr _) from rfl) rfl rfl rfl rfl rfl ?_
  refine zq_aload (pc' := 1) rfl rfl rfl rfl ?_
  refine zq_rpush (pc' := 3) rfl rfl rfl ?_
  refine hq_calli (pc' := 6) rfl rfl rfl rfl rfl rfl h_Xi ?_
  refine hmonoi H ?_
  intro x3 g1 e2 H
  refine zq_ifeq (pc' := 9) rfl rfl rfl rfl (And.intro (fun c => ?_) (fun c => ?_))
  · have H := H.1 c
    refine zq_aload (pc' := 12) rfl rfl rfl rfl ?_
    refine zq_rpush (pc' := 14) rfl rfl rfl ?_
    refine hq_calli (pc' := 17) rfl rfl rfl rfl rfl rfl h_Xi ?_
    refine hmonoi H ?_
    intro x6 g4 e5 H
    refine zq_ifeq (pc' := 20) rfl rfl rfl rfl (And.intro (fun c => ?_) (fun c => ?_))
    · have H := H.1 c
      refine zq_aload (pc' := 24) rfl rfl rfl rfl ?_
      refine zq_rpush (pc' := 26) rfl rfl rfl ?_
      refine hq_calli (pc' := 29) rfl rfl rfl rfl rfl rfl h_Xi ?_
      refine hmonoi H ?_
      intro x9 g7 e8 H
      refine zq_ifeq (pc' := 32) rfl rfl rfl rfl (And.intro (fun c => ?_) (fun c => ?_))
      · have H := H.1 c
        refine zq_aload (pc' := 36) rfl rfl rfl rfl ?_
        refine zq_rpush (pc' := 38) rfl rfl rfl ?_
        refine hq_calli (pc' := 41) rfl rfl rfl rfl rfl rfl h_Xi ?_
        refine hmonoi H ?_
        intro x12 g10 e11 H
        refine zq_ifeq (pc' := 44) rfl rfl rfl rfl (And.intro (fun c => ?_) (fun c => ?_))
        · have H := H.1 c
          refine zq_aload (pc' := 48) rfl rfl rfl rfl ?_
          refine zq_aload (pc' := 49) rfl rfl rfl rfl ?_
          refine zq_getI (pc' := 52) rfl rfl rfl (hp_gI rfl) ?_
          refine zq_ifeq (pc' := 55) rfl rfl rfl rfl (And.intro (fun c => ?_) (fun c => ?_))
          · have H := H.1 c
            refine zq_rpush (pc' := 62) rfl rfl rfl ?_
            refine hq_calli (pc' := 65) rfl rfl rfl rfl rfl rfl h_Xi ?_
            refine hmonoi H ?_
            intro x15 g13 e14 H
            refine zq_ifeq (pc' := 68) rfl rfl rfl rfl (And.intro (fun c => ?_) (fun c => ?_))
            · have H := H.1 c
              refine zq_ipushn (pc' := 75) rfl rfl rfl ?_
              exact zq_iret rfl trivial (Exists.intro _ (Exists.intro _ (And.intro rfl H)))
            · have H := H.2 c
              refine zq_ipushn (pc' := 70) rfl rfl rfl ?_
              refine zq_goto (pc' := 75) rfl rfl rfl ?_
              exact zq_iret rfl trivial (Exists.intro _ (Exists.intro _ (And.intro rfl H)))
          · have H := H.2 c
            refine zq_rpush (pc' := 57) rfl rfl rfl ?_
            refine zq_goto (pc' := 62) rfl rfl rfl ?_
            refine hq_calli (pc' := 65) rfl rfl rfl rfl rfl rfl h_Xi ?_
            refine hmonoi H ?_
            intro x18 g16 e17 H
            refine zq_ifeq (pc' := 68) rfl rfl rfl rfl (And.intro (fun c => ?_) (fun c => ?_))
            · have H := H.1 c
              refine zq_ipushn (pc' := 75) rfl rfl rfl ?_
              exact zq_iret rfl trivial (Exists.intro _ (Exists.intro _ (And.intro rfl H)))
            · have H := H.2 c
              refine zq_ipushn (pc' := 70) rfl rfl rfl ?_
              refine zq_goto (pc' := 75) rfl rfl rfl ?_
              exact zq_iret rfl trivial (Exists.intro _ (Exists.intro _ (And.intro rfl H)))
        · have H := H.2 c
          refine zq_ipushn (pc' := 46) rfl rfl rfl ?_
          exact zq_iret rfl trivial (Exists.intro _ (Exists.intro _ (And.intro rfl H)))
      · have H := H.2 c
        refine zq_ipushn (pc' := 34) rfl rfl rfl ?_
        exact zq_iret rfl trivial (Exists.intro _ (Exists.intro _ (And.intro rfl H)))
    · have H := H.2 c
      refine zq_ipushn (pc' := 22) rfl rfl rfl ?_
      exact zq_iret rfl trivial (Exists.intro _ (Exists.intro _ (And.intro rfl H)))
  · have H := H.2 c
    refine zq_ipushn (pc' := 10) rfl rfl rfl ?_
    exact zq_iret rfl trivial (Exists.intro _ (Exists.intro _ (And.intro rfl H)))
theorem zh_X3_putBytes {d : Nat} {k : hG → hE → Prop} {X : Nat → hG → hE → Prop} {p1 : Int32} {g : hG} {e : hE} (H :
    hwv d zm_X3_putBytes k X 3 [(0, .ref 1001), (1, .int p1), (2, .int 24)] g e) : hcv (d + 1) 145 [.ref 1001, .int p1] g e k X := by
  refine hent (M := zm_X3_putBytes) (show hT 1001 = some (.inr _) from rfl) rfl rfl rfl rfl rfl ?_
  refine zq_ipush (pc' := 2) rfl rfl rfl ?_
  refine zq_istore_c (pc' := 3) rfl rfl ?_
  exact H
theorem zh_X3_putBytes_3 {d : Nat} {k : hG → hE → Prop} {X : Nat → hG → hE → Prop} {l1 : Int32} {l2 : Int32} {g : hG} {e : hE} (H :
    zbr (l2 < 0)
    (k g e)
    (zbr ((g.1 1001 1) < 0)
      (hwv d zm_X3_putBytes k X 3 [(0, .ref 1001), (1, .int l1), (2, .int (l2 + (-8)))] g e)
      (zbr ((nI 700) ≤ (g.1 1001 1))
        (hwv d zm_X3_putBytes k X 3 [(0, .ref 1001), (1, .int l1), (2, .int (l2 + (-8)))] g e)
        (hin (g.1 1001 1) 700 ∧
          ∀ g2, g2 = sI (sI g 1002 (g.1 1001 1).toNatClampNeg (vp_nar .byte ((l1 >>> (l2 &&& 31) : Int32).toInt8.toInt32))) 1001 1 (((sI g 1002 (g.1 1001 1).toNatClampNeg (vp_nar .byte ((l1 >>> (l2 &&& 31) : Int32).toInt8.toInt32))).1 1001 1) + 1) →
          hwv d zm_X3_putBytes k X 3 [(0, .ref 1001), (1, .int l1), (2, .int (l2 + (-8)))] g2 e)))) : hwv d zm_X3_putBytes k X 3 [(0, .ref 1001), (1, .int l1), (2, .int l2)] g e := by
  refine zq_iload (pc' := 4) rfl rfl rfl rfl ?_
  refine zq_iflt (pc' := 7) rfl rfl rfl rfl (And.intro (fun c => ?_) (fun c => ?_))
  · have H := H.1 c
    exact zq_vret rfl (Exists.intro _ (Exists.intro _ (And.intro rfl H)))
  · have H := H.2 c
    refine zq_aload (pc' := 8) rfl rfl rfl rfl ?_
    refine zq_getI (pc' := 11) rfl rfl rfl (hp_gI rfl) ?_
    refine zq_iflt (pc' := 14) rfl rfl rfl rfl (And.intro (fun c => ?_) (fun c => ?_))
    · have H := H.1 c
      refine zq_iincn (pc' := 52) rfl rfl rfl rfl ?_
      refine zq_goto_c (pc' := 3) rfl rfl ?_
      exact H
    · have H := H.2 c
      refine zq_aload (pc' := 15) rfl rfl rfl rfl ?_
      refine zq_getI (pc' := 18) rfl rfl rfl (hp_gI rfl) ?_
      refine zq_aload (pc' := 19) rfl rfl rfl rfl ?_
      refine zq_getR (pc' := 22) rfl rfl rfl (hp_gC rfl) ?_
      refine zq_alen (pc' := 23) rfl rfl rfl (hp_al rfl rfl) ?_
      refine zq_icge (pc' := 26) rfl rfl rfl rfl (And.intro (fun c => ?_) (fun c => ?_))
      · have H := H.1 c
        refine zq_iincn (pc' := 52) rfl rfl rfl rfl ?_
        refine zq_goto_c (pc' := 3) rfl rfl ?_
        exact H
      · have H := H.2 c
        refine zq_aload (pc' := 27) rfl rfl rfl rfl ?_
        refine zq_getR (pc' := 30) rfl rfl rfl (hp_gC rfl) ?_
        refine zq_aload (pc' := 31) rfl rfl rfl rfl ?_
        refine zq_getI (pc' := 34) rfl rfl rfl (hp_gI rfl) ?_
        refine zq_iload (pc' := 35) rfl rfl rfl rfl ?_
        refine zq_iload (pc' := 36) rfl rfl rfl rfl ?_
        refine zq_ishr (pc' := 37) rfl rfl rfl ?_
        refine zq_i2b (pc' := 38) rfl rfl rfl ?_
        obtain ⟨hi1, H⟩ := H
        refine zq_bast (pc' := 39) rfl rfl rfl (hp_bs rfl hi1) ?_
        refine zq_aload (pc' := 40) rfl rfl rfl rfl ?_
        refine zq_dup (pc' := 41) rfl rfl rfl rfl ?_
        refine zq_getI (pc' := 44) rfl rfl rfl (hp_gI rfl) ?_
        refine zq_ipush (pc' := 45) rfl rfl rfl ?_
        refine zq_iadd (pc' := 46) rfl rfl rfl ?_
        refine zq_put (pc' := 49) rfl rfl rfl trivial (hp_sI rfl) ?_
        have H := H _ rfl
        refine zq_iincn (pc' := 52) rfl rfl rfl rfl ?_
        refine zq_goto_c (pc' := 3) rfl rfl ?_
        exact H
theorem zh_X3_tapeLength {d : Nat} {k : Int32 → hG → hE → Prop} {X : Nat → hG → hE → Prop}  {g : hG} {e : hE} (H :
    k (g.1 1001 1) g e) : hci (d + 1) 365 [.ref 1001] g e k X := by
  refine hent (M := zm_X3_tapeLength) (show hT 1001 = some (.inr _) from rfl) rfl rfl rfl rfl rfl ?_
  refine zq_aload (pc' := 1) rfl rfl rfl rfl ?_
  refine zq_getI (pc' := 4) rfl rfl rfl (hp_gI rfl) ?_
  exact zq_iret rfl trivial (Exists.intro _ (Exists.intro _ (And.intro rfl H)))
theorem zh_X3_exchange {d : Nat} {k : Nat → hG → hE → Prop} {X : Nat → hG → hE → Prop} {p1 : Nat} (hp1 : hD p1) {g : hG} {e : hE} (H :
    hD (g.2.2 1001 7) ∧ 
    k (g.2.2 1001 7) (sR g 1001 7 p1) e) : hcr (d + 1) 366 [.ref 1001, .ref p1] g e k X := by
  refine hent (M := zm_X3_exchange) (show hT 1001 = some (.inr _) from rfl) rfl rfl rfl rfl rfl ?_
  refine zq_aload (pc' := 1) rfl rfl rfl rfl ?_
  obtain ⟨hr1, H⟩ := H
  refine zq_getR (pc' := 4) rfl rfl rfl (hp_gR rfl) ?_
  refine zq_astore (pc' := 5) rfl rfl rfl ?_
  refine zq_aload (pc' := 6) rfl rfl rfl rfl ?_
  refine zq_aload (pc' := 7) rfl rfl rfl rfl ?_
  refine zq_put (pc' := 10) rfl rfl rfl trivial (hp_sR rfl) ?_
  refine zq_aload (pc' := 11) rfl rfl rfl rfl ?_
  exact zq_aret rfl (Exists.intro _ (Exists.intro _ (And.intro rfl H)))
