theorem zh_L_drawer {d : Nat} {k : Int32 → hG → hE → Prop} {X : Nat → hG → hE → Prop} {p1 : Int32} {g : hG} {e : hE} (H :
    hci d 146 [.ref 1000, .int p1] g e (fun x3 g1 e2 =>
      k 0 (sJ g1 1088 0 ((x3 : Int32).toInt64)) e2) (fun y g9 e9 => zbr (y = 0) (k 1 g9 e9) (X y g9 e9))) : hci (d + 1) 332 [.ref 1000, .int p1, .ref 1088] g e k X := by
  refine hentS (M := zm_L_drawer) rfl rfl rfl rfl ?_
  refine zq_aload (pc' := 1) rfl rfl rfl rfl ?_
  refine zq_ipush (pc' := 2) rfl rfl rfl ?_
  refine zq_aload (pc' := 3) rfl rfl rfl rfl ?_
  refine zq_iload (pc' := 4) rfl rfl rfl rfl ?_
  refine hq_callix (pc' := 7) (X' := fun y g9 e9 => zbr (y = 0) (k 1 g9 e9) (X y g9 e9)) rfl rfl rfl rfl rfl (fun y g9 e9 H => ?_) ?_
  · skip
    refine And.intro (fun c => ?_) (fun c => ?_)
    · have H := H.1 c.1
      show zW (zE d) zm_L_drawer (hqi k X) (13, [(0, .ref 1000), (1, .int p1), (2, .ref 1088)], [], hp g9 e9)
      refine zq_ipush (pc' := 14) rfl rfl rfl ?_
      exact zq_iret rfl trivial (Exists.intro _ (Exists.intro _ (And.intro rfl H)))
    · have H := H.2 (fun z => c (And.intro z (by decide)))
      exact h_Xi y g9 e9 H
  · skip
    refine hmonoi H ?_
    intro x3 g1 e2 H
    refine zq_i2l (pc' := 8) rfl rfl rfl ?_
    refine zq_last (pc' := 9) rfl rfl rfl (hp_js rfl (by unfold hin; decide)) ?_
    refine zq_goto (pc' := 15) rfl rfl rfl ?_
    refine zq_ipush (pc' := 16) rfl rfl rfl ?_
    exact zq_iret rfl trivial (Exists.intro _ (Exists.intro _ (And.intro rfl H)))
theorem zh_L_count {d : Nat} {k : Int32 → hG → hE → Prop} {X : Nat → hG → hE → Prop} {p1 : Int32} {g : hG} {e : hE} (H :
    hci d 148 [.ref 1000, .int p1] g e (fun x3 g1 e2 =>
      k 0 (sJ g1 1088 0 ((x3 : Int32).toInt64)) e2) (fun y g9 e9 => zbr (y = 1) (k 1 g9 e9) (X y g9 e9))) : hci (d + 1) 333 [.ref 1000, .int p1, .ref 1088] g e k X := by
  refine hentS (M := zm_L_count) rfl rfl rfl rfl ?_
  refine zq_aload (pc' := 1) rfl rfl rfl rfl ?_
  refine zq_ipush (pc' := 2) rfl rfl rfl ?_
  refine zq_aload (pc' := 3) rfl rfl rfl rfl ?_
  refine zq_iload (pc' := 4) rfl rfl rfl rfl ?_
  refine hq_callix (pc' := 7) (X' := fun y g9 e9 => zbr (y = 1) (k 1 g9 e9) (X y g9 e9)) rfl rfl rfl rfl rfl (fun y g9 e9 H => ?_) ?_
  · skip
    refine And.intro (fun c => ?_) (fun c => ?_)
    · have H := H.1 c.1
      show zW (zE d) zm_L_count (hqi k X) (13, [(0, .ref 1000), (1, .int p1), (2, .ref 1088)], [], hp g9 e9)
      refine zq_ipush (pc' := 14) rfl rfl rfl ?_
      exact zq_iret rfl trivial (Exists.intro _ (Exists.intro _ (And.intro rfl H)))
    · have H := H.2 (fun z => c (And.intro z (by decide)))
      exact h_Xi y g9 e9 H
  · skip
    refine hmonoi H ?_
    intro x3 g1 e2 H
    refine zq_i2l (pc' := 8) rfl rfl rfl ?_
    refine zq_last (pc' := 9) rfl rfl rfl (hp_js rfl (by unfold hin; decide)) ?_
    refine zq_goto (pc' := 15) rfl rfl rfl ?_
    refine zq_ipush (pc' := 16) rfl rfl rfl ?_
    exact zq_iret rfl trivial (Exists.intro _ (Exists.intro _ (And.intro rfl H)))
theorem zh_L_zip {d : Nat} {k : Int32 → hG → hE → Prop} {X : Nat → hG → hE → Prop} {p1 : Int32} {p2 : Int32} {g : hG} {e : hE} (H :
    hci d 150 [.ref 1000, .int p1, .int p2] g e (fun x3 g1 e2 =>
      k 0 (sJ g1 1088 0 ((x3 : Int32).toInt64)) e2) (fun y g9 e9 => zbr (y = 1) (k 1 g9 e9) (X y g9 e9))) : hci (d + 1) 334 [.ref 1000, .int p1, .int p2, .ref 1088] g e k X := by
  refine hentS (M := zm_L_zip) rfl rfl rfl rfl ?_
  refine zq_aload (pc' := 1) rfl rfl rfl rfl ?_
  refine zq_ipush (pc' := 2) rfl rfl rfl ?_
  refine zq_aload (pc' := 3) rfl rfl rfl rfl ?_
  refine zq_iload (pc' := 4) rfl rfl rfl rfl ?_
  refine zq_iload (pc' := 5) rfl rfl rfl rfl ?_
  refine hq_callix (pc' := 8) (X' := fun y g9 e9 => zbr (y = 1) (k 1 g9 e9) (X y g9 e9)) rfl rfl rfl rfl rfl (fun y g9 e9 H => ?_) ?_
  · skip
    refine And.intro (fun c => ?_) (fun c => ?_)
    · have H := H.1 c.1
      show zW (zE d) zm_L_zip (hqi k X) (15, [(0, .ref 1000), (1, .int p1), (2, .int p2), (3, .ref 1088)], [], hp g9 e9)
      refine zq_ipush (pc' := 16) rfl rfl rfl ?_
      exact zq_iret rfl trivial (Exists.intro _ (Exists.intro _ (And.intro rfl H)))
    · have H := H.2 (fun z => c (And.intro z (by decide)))
      exact h_Xi y g9 e9 H
  · skip
    refine hmonoi H ?_
    intro x3 g1 e2 H
    refine zq_i2l (pc' := 9) rfl rfl rfl ?_
    refine zq_last (pc' := 10) rfl rfl rfl (hp_js rfl (by unfold hin; decide)) ?_
    refine zq_goto (pc' := 17) rfl rfl rfl ?_
    refine zq_ipush (pc' := 18) rfl rfl rfl ?_
    exact zq_iret rfl trivial (Exists.intro _ (Exists.intro _ (And.intro rfl H)))
theorem zh_L_place {d : Nat} {k : Int32 → hG → hE → Prop} {X : Nat → hG → hE → Prop} {p1 : Int32} {p2 : Int32} {p3 : Int32} {g : hG} {e : hE} (H :
    hci d 152 [.ref 1000, .int p1, .int p2, .int p3] g e (fun x3 g1 e2 =>
      k 0 (sJ g1 1088 0 ((x3 : Int32).toInt64)) e2) (fun y g9 e9 => zbr (y = 1) (k 1 g9 e9) (X y g9 e9))) : hci (d + 1) 335 [.ref 1000, .int p1, .int p2, .int p3, .ref 1088] g e k X := by
  refine hentS (M := zm_L_place) rfl rfl rfl rfl ?_
  refine zq_aload (pc' := 2) rfl rfl rfl rfl ?_
  refine zq_ipush (pc' := 3) rfl rfl rfl ?_
  refine zq_aload (pc' := 4) rfl rfl rfl rfl ?_
  refine zq_iload (pc' := 5) rfl rfl rfl rfl ?_
  refine zq_iload (pc' := 6) rfl rfl rfl rfl ?_
  refine zq_iload (pc' := 7) rfl rfl rfl rfl ?_
  refine hq_callix (pc' := 10) (X' := fun y g9 e9 => zbr (y = 1) (k 1 g9 e9) (X y g9 e9)) rfl rfl rfl rfl rfl (fun y g9 e9 H => ?_) ?_
  · skip
    refine And.intro (fun c => ?_) (fun c => ?_)
    · have H := H.1 c.1
      show zW (zE d) zm_L_place (hqi k X) (17, [(0, .ref 1000), (1, .int p1), (2, .int p2), (3, .int p3), (4, .ref 1088)], [], hp g9 e9)
      refine zq_ipush (pc' := 18) rfl rfl rfl ?_
      exact zq_iret rfl trivial (Exists.intro _ (Exists.intro _ (And.intro rfl H)))
    · have H := H.2 (fun z => c (And.intro z (by decide)))
      exact h_Xi y g9 e9 H
  · skip
    refine hmonoi H ?_
    intro x3 g1 e2 H
    refine zq_i2l (pc' := 11) rfl rfl rfl ?_
    refine zq_last (pc' := 12) rfl rfl rfl (hp_js rfl (by unfold hin; decide)) ?_
    refine zq_goto (pc' := 19) rfl rfl rfl ?_
    refine zq_ipush (pc' := 20) rfl rfl rfl ?_
    exact zq_iret rfl trivial (Exists.intro _ (Exists.intro _ (And.intro rfl H)))
theorem zh_L_slide {d : Nat} {k : Int32 → hG → hE → Prop} {X : Nat → hG → hE → Prop} {p1 : Int32} {p2 : Int32} {g : hG} {e : hE} (H :
    hci d 156 [.ref 1000, .int p1, .int p2] g e (fun x3 g1 e2 =>
      k 0 (sJ g1 1088 0 ((x3 : Int32).toInt64)) e2) (fun y g9 e9 => zbr (y = 1) (k 1 g9 e9) (X y g9 e9))) : hci (d + 1) 336 [.ref 1000, .int p1, .int p2, .ref 1088] g e k X := by
  refine hentS (M := zm_L_slide) rfl rfl rfl rfl ?_
  refine zq_aload (pc' := 1) rfl rfl rfl rfl ?_
  refine zq_ipush (pc' := 2) rfl rfl rfl ?_
  refine zq_aload (pc' := 3) rfl rfl rfl rfl ?_
  refine zq_iload (pc' := 4) rfl rfl rfl rfl ?_
  refine zq_iload (pc' := 5) rfl rfl rfl rfl ?_
  refine hq_callix (pc' := 8) (X' := fun y g9 e9 => zbr (y = 1) (k 1 g9 e9) (X y g9 e9)) rfl rfl rfl rfl rfl (fun y g9 e9 H => ?_) ?_
  · skip
    refine And.intro (fun c => ?_) (fun c => ?_)
    · have H := H.1 c.1
      show zW (zE d) zm_L_slide (hqi k X) (15, [(0, .ref 1000), (1, .int p1), (2, .int p2), (3, .ref 1088)], [], hp g9 e9)
      refine zq_ipush (pc' := 16) rfl rfl rfl ?_
      exact zq_iret rfl trivial (Exists.intro _ (Exists.intro _ (And.intro rfl H)))
    · have H := H.2 (fun z => c (And.intro z (by decide)))
      exact h_Xi y g9 e9 H
  · skip
    refine hmonoi H ?_
    intro x3 g1 e2 H
    refine zq_i2l (pc' := 9) rfl rfl rfl ?_
    refine zq_last (pc' := 10) rfl rfl rfl (hp_js rfl (by unfold hin; decide)) ?_
    refine zq_goto (pc' := 17) rfl rfl rfl ?_
    refine zq_ipush (pc' := 18) rfl rfl rfl ?_
    exact zq_iret rfl trivial (Exists.intro _ (Exists.intro _ (And.intro rfl H)))
theorem zh_L_pinch {d : Nat} {k : Int32 → hG → hE → Prop} {X : Nat → hG → hE → Prop} {p1 : Int32} {p2 : Int32} {p3 : Int32} {g : hG} {e : hE} (H :
    hci d 157 [.ref 1000, .int p1, .int p2, .int p3] g e (fun x3 g1 e2 =>
      k 0 (sJ g1 1088 0 ((x3 : Int32).toInt64)) e2) (fun y g9 e9 => zbr (y = 1) (k 1 g9 e9) (X y g9 e9))) : hci (d + 1) 337 [.ref 1000, .int p1, .int p2, .int p3, .ref 1088] g e k X := by
  refine hentS (M := zm_L_pinch) rfl rfl rfl rfl ?_
  refine zq_aload (pc' := 2) rfl rfl rfl rfl ?_
  refine zq_ipush (pc' := 3) rfl rfl rfl ?_
  refine zq_aload (pc' := 4) rfl rfl rfl rfl ?_
  refine zq_iload (pc' := 5) rfl rfl rfl rfl ?_
  refine zq_iload (pc' := 6) rfl rfl rfl rfl ?_
  refine zq_iload (pc' := 7) rfl rfl rfl rfl ?_
  refine hq_callix (pc' := 10) (X' := fun y g9 e9 => zbr (y = 1) (k 1 g9 e9) (X y g9 e9)) rfl rfl rfl rfl rfl (fun y g9 e9 H => ?_) ?_
  · skip
    refine And.intro (fun c => ?_) (fun c => ?_)
    · have H := H.1 c.1
      show zW (zE d) zm_L_pinch (hqi k X) (17, [(0, .ref 1000), (1, .int p1), (2, .int p2), (3, .int p3), (4, .ref 1088)], [], hp g9 e9)
      refine zq_ipush (pc' := 18) rfl rfl rfl ?_
      exact zq_iret rfl trivial (Exists.intro _ (Exists.intro _ (And.intro rfl H)))
    · have H := H.2 (fun z => c (And.intro z (by decide)))
      exact h_Xi y g9 e9 H
  · skip
    refine hmonoi H ?_
    intro x3 g1 e2 H
    refine zq_i2l (pc' := 11) rfl rfl rfl ?_
    refine zq_last (pc' := 12) rfl rfl rfl (hp_js rfl (by unfold hin; decide)) ?_
    refine zq_goto (pc' := 19) rfl rfl rfl ?_
    refine zq_ipush (pc' := 20) rfl rfl rfl ?_
    exact zq_iret rfl trivial (Exists.intro _ (Exists.intro _ (And.intro rfl H)))
theorem zh_L_set {d : Nat} {k : Int32 → hG → hE → Prop} {X : Nat → hG → hE → Prop} {p1 : Int32} {p2 : Int32} {p3 : Int32} {p4 : Int32} {g : hG} {e : hE} (H :
    hci d 158 [.ref 1000, .int p1, .int p2, .int p3, .int p4] g e (fun x3 g1 e2 =>
      zbr (x3 = 0)
      (k 0 (sJ g1 1088 0 0) e2)
      (k 0 (sJ g1 1088 0 1) e2)) (fun y g9 e9 => zbr (y = 1) (k 1 g9 e9) (X y g9 e9))) : hci (d + 1) 338 [.ref 1000, .int p1, .int p2, .int p3, .int p4, .ref 1088] g e k X := by
  refine hentS (M := zm_L_set) rfl rfl rfl rfl ?_
  refine zq_aload (pc' := 2) rfl rfl rfl rfl ?_
  refine zq_ipush (pc' := 3) rfl rfl rfl ?_
  refine zq_aload (pc' := 4) rfl rfl rfl rfl ?_
  refine zq_iload (pc' := 5) rfl rfl rfl rfl ?_
  refine zq_iload (pc' := 6) rfl rfl rfl rfl ?_
  refine zq_iload (pc' := 7) rfl rfl rfl rfl ?_
  refine zq_iload (pc' := 9) rfl rfl rfl rfl ?_
  refine hq_callix (pc' := 12) (X' := fun y g9 e9 => zbr (y = 1) (k 1 g9 e9) (X y g9 e9)) rfl rfl rfl rfl rfl (fun y g9 e9 H => ?_) ?_
  · skip
    refine And.intro (fun c => ?_) (fun c => ?_)
    · have H := H.1 c.1
      show zW (zE d) zm_L_set (hqi k X) (26, [(0, .ref 1000), (1, .int p1), (2, .int p2), (3, .int p3), (4, .int p4), (5, .ref 1088)], [], hp g9 e9)
      refine zq_ipush (pc' := 27) rfl rfl rfl ?_
      exact zq_iret rfl trivial (Exists.intro _ (Exists.intro _ (And.intro rfl H)))
    · have H := H.2 (fun z => c (And.intro z (by decide)))
      exact h_Xi y g9 e9 H
  · skip
    refine hmonoi H ?_
    intro x3 g1 e2 H
    refine zq_ifeq (pc' := 15) rfl rfl rfl rfl (And.intro (fun c => ?_) (fun c => ?_))
    · have H := H.1 c
      refine zq_lpush (pc' := 20) rfl rfl rfl ?_
      refine zq_last (pc' := 21) rfl rfl rfl (hp_js rfl (by unfold hin; decide)) ?_
      refine zq_goto (pc' := 28) rfl rfl rfl ?_
      refine zq_ipush (pc' := 29) rfl rfl rfl ?_
      exact zq_iret rfl trivial (Exists.intro _ (Exists.intro _ (And.intro rfl H)))
    · have H := H.2 c
      refine zq_lpush (pc' := 16) rfl rfl rfl ?_
      refine zq_goto (pc' := 20) rfl rfl rfl ?_
      refine zq_last (pc' := 21) rfl rfl rfl (hp_js rfl (by unfold hin; decide)) ?_
      refine zq_goto (pc' := 28) rfl rfl rfl ?_
      refine zq_ipush (pc' := 29) rfl rfl rfl ?_
      exact zq_iret rfl trivial (Exists.intro _ (Exists.intro _ (And.intro rfl H)))
theorem zh_L_swap {d : Nat} {k : Int32 → hG → hE → Prop} {X : Nat → hG → hE → Prop} {p1 : Int32} {p2 : Int32} {g : hG} {e : hE} (H :
    hci d 159 [.ref 1000, .int p1, .int p2] g e (fun x3 g1 e2 =>
      zbr (x3 = 0)
      (k 0 (sJ g1 1088 0 0) e2)
      (k 0 (sJ g1 1088 0 1) e2)) (fun y g9 e9 => zbr (y = 1) (k 1 g9 e9) (X y g9 e9))) : hci (d + 1) 339 [.ref 1000, .int p1, .int p2, .ref 1088] g e k X := by
  refine hentS (M := zm_L_swap) rfl rfl rfl rfl ?_
  refine zq_aload (pc' := 1) rfl rfl rfl rfl ?_
  refine zq_ipush (pc' := 2) rfl rfl rfl ?_
  refine zq_aload (pc' := 3) rfl rfl rfl rfl ?_
  refine zq_iload (pc' := 4) rfl rfl rfl rfl ?_
  refine zq_iload (pc' := 5) rfl rfl rfl rfl ?_
  refine hq_callix (pc' := 8) (X' := fun y g9 e9 => zbr (y = 1) (k 1 g9 e9) (X y g9 e9)) rfl rfl rfl rfl rfl (fun y g9 e9 H => ?_) ?_
  · skip
    refine And.intro (fun c => ?_) (fun c => ?_)
    · have H := H.1 c.1
      show zW (zE d) zm_L_swap (hqi k X) (22, [(0, .ref 1000), (1, .int p1), (2, .int p2), (3, .ref 1088)], [], hp g9 e9)
      refine zq_ipush (pc' := 23) rfl rfl rfl ?_
      exact zq_iret rfl trivial (Exists.intro _ (Exists.intro _ (And.intro rfl H)))
    · have H := H.2 (fun z => c (And.intro z (by decide)))
      exact h_Xi y g9 e9 H
  · skip
    refine hmonoi H ?_
    intro x3 g1 e2 H
    refine zq_ifeq (pc' := 11) rfl rfl rfl rfl (And.intro (fun c => ?_) (fun c => ?_))
    · have H := H.1 c
      refine zq_lpush (pc' := 16) rfl rfl rfl ?_
      refine zq_last (pc' := 17) rfl rfl rfl (hp_js rfl (by unfold hin; decide)) ?_
      refine zq_goto (pc' := 24) rfl rfl rfl ?_
      refine zq_ipush (pc' := 25) rfl rfl rfl ?_
      exact zq_iret rfl trivial (Exists.intro _ (Exists.intro _ (And.intro rfl H)))
    · have H := H.2 c
      refine zq_lpush (pc' := 12) rfl rfl rfl ?_
      refine zq_goto (pc' := 16) rfl rfl rfl ?_
      refine zq_last (pc' := 17) rfl rfl rfl (hp_js rfl (by unfold hin; decide)) ?_
      refine zq_goto (pc' := 24) rfl rfl rfl ?_
      refine zq_ipush (pc' := 25) rfl rfl rfl ?_
      exact zq_iret rfl trivial (Exists.intro _ (Exists.intro _ (And.intro rfl H)))
theorem zh_L_then {d : Nat} {k : Int32 → hG → hE → Prop} {X : Nat → hG → hE → Prop} {p1 : Int32} {p2 : Int32} {p3 : Int32} {g : hG} {e : hE} (H :
    hci d 161 [.ref 1000, .int p1, .int p2, .int p3] g e (fun x3 g1 e2 =>
      k 0 (sJ g1 1088 0 ((x3 : Int32).toInt64)) e2) (fun y g9 e9 => zbr (y = 1) (k 1 g9 e9) (zbr (y = 0) (k 2 g9 e9) (X y g9 e9)))) : hci (d + 1) 340 [.ref 1000, .int p1, .int p2, .int p3, .ref 1088] g e k X := by
  refine hentS (M := zm_L_then) rfl rfl rfl rfl ?_
  refine zq_aload (pc' := 2) rfl rfl rfl rfl ?_
  refine zq_ipush (pc' := 3) rfl rfl rfl ?_
  refine zq_aload (pc' := 4) rfl rfl rfl rfl ?_
  refine zq_iload (pc' := 5) rfl rfl rfl rfl ?_
  refine zq_iload (pc' := 6) rfl rfl rfl rfl ?_
  refine zq_iload (pc' := 7) rfl rfl rfl rfl ?_
  refine hq_callix (pc' := 10) (X' := fun y g9 e9 => zbr (y = 1) (k 1 g9 e9) (zbr (y = 0) (k 2 g9 e9) (X y g9 e9))) rfl rfl rfl rfl rfl (fun y g9 e9 H => ?_) ?_
  · skip
    refine And.intro (fun c => ?_) (fun c => ?_)
    · have H := H.1 c.1
      show zW (zE d) zm_L_then (hqi k X) (17, [(0, .ref 1000), (1, .int p1), (2, .int p2), (3, .int p3), (4, .ref 1088)], [], hp g9 e9)
      refine zq_ipush (pc' := 18) rfl rfl rfl ?_
      exact zq_iret rfl trivial (Exists.intro _ (Exists.intro _ (And.intro rfl H)))
    · have H := H.2 (fun z => c (And.intro z (by decide)))
      refine And.intro (fun c => ?_) (fun c => ?_)
      · have H := H.1 c.1
        show zW (zE d) zm_L_then (hqi k X) (21, [(0, .ref 1000), (1, .int p1), (2, .int p2), (3, .int p3), (4, .ref 1088)], [], hp g9 e9)
        refine zq_ipush (pc' := 22) rfl rfl rfl ?_
        exact zq_iret rfl trivial (Exists.intro _ (Exists.intro _ (And.intro rfl H)))
      · have H := H.2 (fun z => c (And.intro z (by decide)))
        exact h_Xi y g9 e9 H
  · skip
    refine hmonoi H ?_
    intro x3 g1 e2 H
    refine zq_i2l (pc' := 11) rfl rfl rfl ?_
    refine zq_last (pc' := 12) rfl rfl rfl (hp_js rfl (by unfold hin; decide)) ?_
    refine zq_goto (pc' := 23) rfl rfl rfl ?_
    refine zq_ipush (pc' := 24) rfl rfl rfl ?_
    exact zq_iret rfl trivial (Exists.intro _ (Exists.intro _ (And.intro rfl H)))
theorem zh_L_when {d : Nat} {k : Int32 → hG → hE → Prop} {X : Nat → hG → hE → Prop} {p1 : Int32} {p2 : Int32} {g : hG} {e : hE} (H :
    hci d 162 [.ref 1000, .int p1, .int p2] g e (fun x3 g1 e2 =>
      k 0 (sJ g1 1088 0 ((x3 : Int32).toInt64)) e2) (fun y g9 e9 => zbr (y = 1) (k 1 g9 e9) (X y g9 e9))) : hci (d + 1) 341 [.ref 1000, .int p1, .int p2, .ref 1088] g e k X := by
  refine hentS (M := zm_L_when) rfl rfl rfl rfl ?_
  refine zq_aload (pc' := 1) rfl rfl rfl rfl ?_
  refine zq_ipush (pc' := 2) rfl rfl rfl ?_
  refine zq_aload (pc' := 3) rfl rfl rfl rfl ?_
  refine zq_iload (pc' := 4) rfl rfl rfl rfl ?_
  refine zq_iload (pc' := 5) rfl rfl rfl rfl ?_
  refine hq_callix (pc' := 8) (X' := fun y g9 e9 => zbr (y = 1) (k 1 g9 e9) (X y g9 e9)) rfl rfl rfl rfl rfl (fun y g9 e9 H => ?_) ?_
  · skip
    refine And.intro (fun c => ?_) (fun c => ?_)
    · have H := H.1 c.1
      show zW (zE d) zm_L_when (hqi k X) (15, [(0, .ref 1000), (1, .int p1), (2, .int p2), (3, .ref 1088)], [], hp g9 e9)
      refine zq_ipush (pc' := 16) rfl rfl rfl ?_
      exact zq_iret rfl trivial (Exists.intro _ (Exists.intro _ (And.intro rfl H)))
    · have H := H.2 (fun z => c (And.intro z (by decide)))
      exact h_Xi y g9 e9 H
  · skip
    refine hmonoi H ?_
    intro x3 g1 e2 H
    refine zq_i2l (pc' := 9) rfl rfl rfl ?_
    refine zq_last (pc' := 10) rfl rfl rfl (hp_js rfl (by unfold hin; decide)) ?_
    refine zq_goto (pc' := 17) rfl rfl rfl ?_
    refine zq_ipush (pc' := 18) rfl rfl rfl ?_
    exact zq_iret rfl trivial (Exists.intro _ (Exists.intro _ (And.intro rfl H)))
theorem zh_L_bursts {d : Nat} {k : Int32 → hG → hE → Prop} {X : Nat → hG → hE → Prop} {p1 : Int32} {p2 : Int32} {g : hG} {e : hE} (H :
    hci d 165 [.ref 1000, .int p1, .int p2] g e (fun x3 g1 e2 =>
      k 0 (sJ g1 1088 0 ((x3 : Int32).toInt64)) e2) (fun y g9 e9 => zbr (y = 1) (k 1 g9 e9) (X y g9 e9))) : hci (d + 1) 342 [.ref 1000, .int p1, .int p2, .ref 1088] g e k X := by
  refine hentS (M := zm_L_bursts) rfl rfl rfl rfl ?_
  refine zq_aload (pc' := 1) rfl rfl rfl rfl ?_
  refine zq_ipush (pc' := 2) rfl rfl rfl ?_
  refine zq_aload (pc' := 3) rfl rfl rfl rfl ?_
  refine zq_iload (pc' := 4) rfl rfl rfl rfl ?_
  refine zq_iload (pc' := 5) rfl rfl rfl rfl ?_
  refine hq_callix (pc' := 8) (X' := fun y g9 e9 => zbr (y = 1) (k 1 g9 e9) (X y g9 e9)) rfl rfl rfl rfl rfl (fun y g9 e9 H => ?_) ?_
  · skip
    refine And.intro (fun c => ?_) (fun c => ?_)
    · have H := H.1 c.1
      show zW (zE d) zm_L_bursts (hqi k X) (15, [(0, .ref 1000), (1, .int p1), (2, .int p2), (3, .ref 1088)], [], hp g9 e9)
      refine zq_ipush (pc' := 16) rfl rfl rfl ?_
      exact zq_iret rfl trivial (Exists.intro _ (Exists.intro _ (And.intro rfl H)))
    · have H := H.2 (fun z => c (And.intro z (by decide)))
      exact h_Xi y g9 e9 H
  · skip
    refine hmonoi H ?_
    intro x3 g1 e2 H
    refine zq_i2l (pc' := 9) rfl rfl rfl ?_
    refine zq_last (pc' := 10) rfl rfl rfl (hp_js rfl (by unfold hin; decide)) ?_
    refine zq_goto (pc' := 17) rfl rfl rfl ?_
    refine zq_ipush (pc' := 18) rfl rfl rfl ?_
    exact zq_iret rfl trivial (Exists.intro _ (Exists.intro _ (And.intro rfl H)))
theorem zh_L_later {d : Nat} {k : Int32 → hG → hE → Prop} {X : Nat → hG → hE → Prop} {p1 : Int32} {p2 : Int32} {g : hG} {e : hE} (H :
    hci d 166 [.ref 1000, .int p1, .int p2] g e (fun x3 g1 e2 =>
      k 0 (sJ g1 1088 0 ((x3 : Int32).toInt64)) e2) (fun y g9 e9 => zbr (y = 1) (k 1 g9 e9) (zbr (y = 0) (k 2 g9 e9) (X y g9 e9)))) : hci (d + 1) 343 [.ref 1000, .int p1, .int p2, .ref 1088] g e k X := by
  refine hentS (M := zm_L_later) rfl rfl rfl rfl ?_
  refine zq_aload (pc' := 1) rfl rfl rfl rfl ?_
  refine zq_ipush (pc' := 2) rfl rfl rfl ?_
  refine zq_aload (pc' := 3) rfl rfl rfl rfl ?_
  refine zq_iload (pc' := 4) rfl rfl rfl rfl ?_
  refine zq_iload (pc' := 5) rfl rfl rfl rfl ?_
  refine hq_callix (pc' := 8) (X' := fun y g9 e9 => zbr (y = 1) (k 1 g9 e9) (zbr (y = 0) (k 2 g9 e9) (X y g9 e9))) rfl rfl rfl rfl rfl (fun y g9 e9 H => ?_) ?_
  · skip
    refine And.intro (fun c => ?_) (fun c => ?_)
    · have H := H.1 c.1
      show zW (zE d) zm_L_later (hqi k X) (15, [(0, .ref 1000), (1, .int p1), (2, .int p2), (3, .ref 1088)], [], hp g9 e9)
      refine zq_ipush (pc' := 16) rfl rfl rfl ?_
      exact zq_iret rfl trivial (Exists.intro _ (Exists.intro _ (And.intro rfl H)))
    · have H := H.2 (fun z => c (And.intro z (by decide)))
      refine And.intro (fun c => ?_) (fun c => ?_)
      · have H := H.1 c.1
        show zW (zE d) zm_L_later (hqi k X) (19, [(0, .ref 1000), (1, .int p1), (2, .int p2), (3, .ref 1088)], [], hp g9 e9)
        refine zq_ipush (pc' := 20) rfl rfl rfl ?_
        exact zq_iret rfl trivial (Exists.intro _ (Exists.intro _ (And.intro rfl H)))
      · have H := H.2 (fun z => c (And.intro z (by decide)))
        exact h_Xi y g9 e9 H
  · skip
    refine hmonoi H ?_
    intro x3 g1 e2 H
    refine zq_i2l (pc' := 9) rfl rfl rfl ?_
    refine zq_last (pc' := 10) rfl rfl rfl (hp_js rfl (by unfold hin; decide)) ?_
    refine zq_goto (pc' := 21) rfl rfl rfl ?_
    refine zq_ipush (pc' := 22) rfl rfl rfl ?_
    exact zq_iret rfl trivial (Exists.intro _ (Exists.intro _ (And.intro rfl H)))
theorem zh_L_daily {d : Nat} {k : Int32 → hG → hE → Prop} {X : Nat → hG → hE → Prop} {p1 : Int32} {p2 : Int32} {g : hG} {e : hE} (H :
    hci d 170 [.ref 1000, .int p1, .int p2] g e (fun x3 g1 e2 =>
      k 0 (sJ g1 1088 0 ((x3 : Int32).toInt64)) e2) (fun y g9 e9 => zbr (y = 1) (k 1 g9 e9) (zbr (y = 0) (k 2 g9 e9) (X y g9 e9)))) : hci (d + 1) 344 [.ref 1000, .int p1, .int p2, .ref 1088] g e k X := by
  refine hentS (M := zm_L_daily) rfl rfl rfl rfl ?_
  refine zq_aload (pc' := 1) rfl rfl rfl rfl ?_
  refine zq_ipush (pc' := 2) rfl rfl rfl ?_
  refine zq_aload (pc' := 3) rfl rfl rfl rfl ?_
  refine zq_iload (pc' := 4) rfl rfl rfl rfl ?_
  refine zq_iload (pc' := 5) rfl rfl rfl rfl ?_
  refine hq_callix (pc' := 8) (X' := fun y g9 e9 => zbr (y = 1) (k 1 g9 e9) (zbr (y = 0) (k 2 g9 e9) (X y g9 e9))) rfl rfl rfl rfl rfl (fun y g9 e9 H => ?_) ?_
  · skip
    refine And.intro (fun c => ?_) (fun c => ?_)
    · have H := H.1 c.1
      show zW (zE d) zm_L_daily (hqi k X) (15, [(0, .ref 1000), (1, .int p1), (2, .int p2), (3, .ref 1088)], [], hp g9 e9)
      refine zq_ipush (pc' := 16) rfl rfl rfl ?_
      exact zq_iret rfl trivial (Exists.intro _ (Exists.intro _ (And.intro rfl H)))
    · have H := H.2 (fun z => c (And.intro z (by decide)))
      refine And.intro (fun c => ?_) (fun c => ?_)
      · have H := H.1 c.1
        show zW (zE d) zm_L_daily (hqi k X) (19, [(0, .ref 1000), (1, .int p1), (2, .int p2), (3, .ref 1088)], [], hp g9 e9)
        refine zq_ipush (pc' := 20) rfl rfl rfl ?_
        exact zq_iret rfl trivial (Exists.intro _ (Exists.intro _ (And.intro rfl H)))
      · have H := H.2 (fun z => c (And.intro z (by decide)))
        exact h_Xi y g9 e9 H
  · skip
    refine hmonoi H ?_
    intro x3 g1 e2 H
    refine zq_i2l (pc' := 9) rfl rfl rfl ?_
    refine zq_last (pc' := 10) rfl rfl rfl (hp_js rfl (by unfold hin; decide)) ?_
    refine zq_goto (pc' := 21) rfl rfl rfl ?_
    refine zq_ipush (pc' := 22) rfl rfl rfl ?_
    exact zq_iret rfl trivial (Exists.intro _ (Exists.intro _ (And.intro rfl H)))
theorem zh_L_lasts {d : Nat} {k : Int32 → hG → hE → Prop} {X : Nat → hG → hE → Prop} {p1 : Int32} {g : hG} {e : hE} (H :
    hci d 171 [.ref 1000, .int p1] g e (fun x3 g1 e2 =>
      k 0 (sJ g1 1088 0 ((x3 : Int32).toInt64)) e2) (fun y g9 e9 => zbr (y = 1) (k 1 g9 e9) (X y g9 e9))) : hci (d + 1) 345 [.ref 1000, .int p1, .ref 1088] g e k X := by
  refine hentS (M := zm_L_lasts) rfl rfl rfl rfl ?_
  refine zq_aload (pc' := 1) rfl rfl rfl rfl ?_
  refine zq_ipush (pc' := 2) rfl rfl rfl ?_
  refine zq_aload (pc' := 3) rfl rfl rfl rfl ?_
  refine zq_iload (pc' := 4) rfl rfl rfl rfl ?_
  refine hq_callix (pc' := 7) (X' := fun y g9 e9 => zbr (y = 1) (k 1 g9 e9) (X y g9 e9)) rfl rfl rfl rfl rfl (fun y g9 e9 H => ?_) ?_
  · skip
    refine And.intro (fun c => ?_) (fun c => ?_)
    · have H := H.1 c.1
      show zW (zE d) zm_L_lasts (hqi k X) (13, [(0, .ref 1000), (1, .int p1), (2, .ref 1088)], [], hp g9 e9)
      refine zq_ipush (pc' := 14) rfl rfl rfl ?_
      exact zq_iret rfl trivial (Exists.intro _ (Exists.intro _ (And.intro rfl H)))
    · have H := H.2 (fun z => c (And.intro z (by decide)))
      exact h_Xi y g9 e9 H
  · skip
    refine hmonoi H ?_
    intro x3 g1 e2 H
    refine zq_i2l (pc' := 8) rfl rfl rfl ?_
    refine zq_last (pc' := 9) rfl rfl rfl (hp_js rfl (by unfold hin; decide)) ?_
    refine zq_goto (pc' := 15) rfl rfl rfl ?_
    refine zq_ipush (pc' := 16) rfl rfl rfl ?_
    exact zq_iret rfl trivial (Exists.intro _ (Exists.intro _ (And.intro rfl H)))
theorem zh_L_tear {d : Nat} {k : Int32 → hG → hE → Prop} {X : Nat → hG → hE → Prop} {p1 : Int32} {p2 : Int32} {p3 : Int32} {g : hG} {e : hE} (H :
    hci d 172 [.ref 1000, .int p1, .int p2, .int p3] g e (fun x3 g1 e2 =>
      k 0 (sJ g1 1088 0 ((x3 : Int32).toInt64)) e2) (fun y g9 e9 => zbr (y = 1) (k 1 g9 e9) (zbr (y = 0) (k 2 g9 e9) (X y g9 e9)))) : hci (d + 1) 346 [.ref 1000, .int p1, .int p2, .int p3, .ref 1088] g e k X := by
  refine hentS (M := zm_L_tear) rfl rfl rfl rfl ?_
  refine zq_aload (pc' := 2) rfl rfl rfl rfl ?_
  refine zq_ipush (pc' := 3) rfl rfl rfl ?_
  refine zq_aload (pc' := 4) rfl rfl rfl rfl ?_
  refine zq_iload (pc' := 5) rfl rfl rfl rfl ?_
  refine zq_iload (pc' := 6) rfl rfl rfl rfl ?_
  refine zq_iload (pc' := 7) rfl rfl rfl rfl ?_
  refine hq_callix (pc' := 10) (X' := fun y g9 e9 => zbr (y = 1) (k 1 g9 e9) (zbr (y = 0) (k 2 g9 e9) (X y g9 e9))) rfl rfl rfl rfl rfl (fun y g9 e9 H => ?_) ?_
  · skip
    refine And.intro (fun c => ?_) (fun c => ?_)
    · have H := H.1 c.1
      show zW (zE d) zm_L_tear (hqi k X) (17, [(0, .ref 1000), (1, .int p1), (2, .int p2), (3, .int p3), (4, .ref 1088)], [], hp g9 e9)
      refine zq_ipush (pc' := 18) rfl rfl rfl ?_
      exact zq_iret rfl trivial (Exists.intro _ (Exists.intro _ (And.intro rfl H)))
    · have H := H.2 (fun z => c (And.intro z (by decide)))
      refine And.intro (fun c => ?_) (fun c => ?_)
      · have H := H.1 c.1
        show zW (zE d) zm_L_tear (hqi k X) (21, [(0, .ref 1000), (1, .int p1), (2, .int p2), (3, .int p3), (4, .ref 1088)], [], hp g9 e9)
        refine zq_ipush (pc' := 22) rfl rfl rfl ?_
        exact zq_iret rfl trivial (Exists.intro _ (Exists.intro _ (And.intro rfl H)))
      · have H := H.2 (fun z => c (And.intro z (by decide)))
        exact h_Xi y g9 e9 H
  · skip
    refine hmonoi H ?_
    intro x3 g1 e2 H
    refine zq_i2l (pc' := 11) rfl rfl rfl ?_
    refine zq_last (pc' := 12) rfl rfl rfl (hp_js rfl (by unfold hin; decide)) ?_
    refine zq_goto (pc' := 23) rfl rfl rfl ?_
    refine zq_ipush (pc' := 24) rfl rfl rfl ?_
    exact zq_iret rfl trivial (Exists.intro _ (Exists.intro _ (And.intro rfl H)))
theorem zh_L_offset {d : Nat} {k : Int32 → hG → hE → Prop} {X : Nat → hG → hE → Prop} {p1 : Int32} {p2 : Int32} {p3 : Int32} {g : hG} {e : hE} (H :
    hci d 173 [.ref 1000, .int p1, .int p2, .int p3] g e (fun x3 g1 e2 =>
      k 0 (sJ g1 1088 0 ((x3 : Int32).toInt64)) e2) (fun y g9 e9 => zbr (y = 1) (k 1 g9 e9) (X y g9 e9))) : hci (d + 1) 347 [.ref 1000, .int p1, .int p2, .int p3, .ref 1088] g e k X := by
  refine hentS (M := zm_L_offset) rfl rfl rfl rfl ?_
  refine zq_aload (pc' := 2) rfl rfl rfl rfl ?_
  refine zq_ipush (pc' := 3) rfl rfl rfl ?_
  refine zq_aload (pc' := 4) rfl rfl rfl rfl ?_
  refine zq_iload (pc' := 5) rfl rfl rfl rfl ?_
  refine zq_iload (pc' := 6) rfl rfl rfl rfl ?_
  refine zq_iload (pc' := 7) rfl rfl rfl rfl ?_
  refine hq_callix (pc' := 10) (X' := fun y g9 e9 => zbr (y = 1) (k 1 g9 e9) (X y g9 e9)) rfl rfl rfl rfl rfl (fun y g9 e9 H => ?_) ?_
  · skip
    refine And.intro (fun c => ?_) (fun c => ?_)
    · have H := H.1 c.1
      show zW (zE d) zm_L_offset (hqi k X) (17, [(0, .ref 1000), (1, .int p1), (2, .int p2), (3, .int p3), (4, .ref 1088)], [], hp g9 e9)
      refine zq_ipush (pc' := 18) rfl rfl rfl ?_
      exact zq_iret rfl trivial (Exists.intro _ (Exists.intro _ (And.intro rfl H)))
    · have H := H.2 (fun z => c (And.intro z (by decide)))
      exact h_Xi y g9 e9 H
  · skip
    refine hmonoi H ?_
    intro x3 g1 e2 H
    refine zq_i2l (pc' := 11) rfl rfl rfl ?_
    refine zq_last (pc' := 12) rfl rfl rfl (hp_js rfl (by unfold hin; decide)) ?_
    refine zq_goto (pc' := 19) rfl rfl rfl ?_
    refine zq_ipush (pc' := 20) rfl rfl rfl ?_
    exact zq_iret rfl trivial (Exists.intro _ (Exists.intro _ (And.intro rfl H)))
theorem zh_L_mesh {d : Nat} {k : Int32 → hG → hE → Prop} {X : Nat → hG → hE → Prop} {p1 : Int32} {p2 : Int32} {p3 : Int32} {g : hG} {e : hE} (H :
    hci d 174 [.ref 1000, .int p1, .int p2, .int p3] g e (fun x3 g1 e2 =>
      k 0 (sJ g1 1088 0 ((x3 : Int32).toInt64)) e2) (fun y g9 e9 => zbr (y = 1) (k 1 g9 e9) (X y g9 e9))) : hci (d + 1) 348 [.ref 1000, .int p1, .int p2, .int p3, .ref 1088] g e k X := by
  refine hentS (M := zm_L_mesh) rfl rfl rfl rfl ?_
  refine zq_aload (pc' := 2) rfl rfl rfl rfl ?_
  refine zq_ipush (pc' := 3) rfl rfl rfl ?_
  refine zq_aload (pc' := 4) rfl rfl rfl rfl ?_
  refine zq_iload (pc' := 5) rfl rfl rfl rfl ?_
  refine zq_iload (pc' := 6) rfl rfl rfl rfl ?_
  refine zq_iload (pc' := 7) rfl rfl rfl rfl ?_
  refine hq_callix (pc' := 10) (X' := fun y g9 e9 => zbr (y = 1) (k 1 g9 e9) (X y g9 e9)) rfl rfl rfl rfl rfl (fun y g9 e9 H => ?_) ?_
  · skip
    refine And.intro (fun c => ?_) (fun c => ?_)
    · have H := H.1 c.1
      show zW (zE d) zm_L_mesh (hqi k X) (17, [(0, .ref 1000), (1, .int p1), (2, .int p2), (3, .int p3), (4, .ref 1088)], [], hp g9 e9)
      refine zq_ipush (pc' := 18) rfl rfl rfl ?_
      exact zq_iret rfl trivial (Exists.intro _ (Exists.intro _ (And.intro rfl H)))
    · have H := H.2 (fun z => c (And.intro z (by decide)))
      exact h_Xi y g9 e9 H
  · skip
    refine hmonoi H ?_
    intro x3 g1 e2 H
    refine zq_i2l (pc' := 11) rfl rfl rfl ?_
    refine zq_last (pc' := 12) rfl rfl rfl (hp_js rfl (by unfold hin; decide)) ?_
    refine zq_goto (pc' := 19) rfl rfl rfl ?_
    refine zq_ipush (pc' := 20) rfl rfl rfl ?_
    exact zq_iret rfl trivial (Exists.intro _ (Exists.intro _ (And.intro rfl H)))
theorem zh_L_cut {d : Nat} {k : Int32 → hG → hE → Prop} {X : Nat → hG → hE → Prop} {p1 : Int32} {p2 : Int32} {g : hG} {e : hE} (H :
    hci d 175 [.ref 1000, .int p1, .int p2] g e (fun x3 g1 e2 =>
      k 0 (sJ g1 1088 0 ((x3 : Int32).toInt64)) e2) (fun y g9 e9 => zbr (y = 1) (k 1 g9 e9) (X y g9 e9))) : hci (d + 1) 349 [.ref 1000, .int p1, .int p2, .ref 1088] g e k X := by
  refine hentS (M := zm_L_cut) rfl rfl rfl rfl ?_
  refine zq_aload (pc' := 1) rfl rfl rfl rfl ?_
  refine zq_ipush (pc' := 2) rfl rfl rfl ?_
  refine zq_aload (pc' := 3) rfl rfl rfl rfl ?_
  refine zq_iload (pc' := 4) rfl rfl rfl rfl ?_
  refine zq_iload (pc' := 5) rfl rfl rfl rfl ?_
  refine hq_callix (pc' := 8) (X' := fun y g9 e9 => zbr (y = 1) (k 1 g9 e9) (X y g9 e9)) rfl rfl rfl rfl rfl (fun y g9 e9 H => ?_) ?_
  · skip
    refine And.intro (fun c => ?_) (fun c => ?_)
    · have H := H.1 c.1
      show zW (zE d) zm_L_cut (hqi k X) (15, [(0, .ref 1000), (1, .int p1), (2, .int p2), (3, .ref 1088)], [], hp g9 e9)
      refine zq_ipush (pc' := 16) rfl rfl rfl ?_
      exact zq_iret rfl trivial (Exists.intro _ (Exists.intro _ (And.intro rfl H)))
    · have H := H.2 (fun z => c (And.intro z (by decide)))
      exact h_Xi y g9 e9 H
  · skip
    refine hmonoi H ?_
    intro x3 g1 e2 H
    refine zq_i2l (pc' := 9) rfl rfl rfl ?_
    refine zq_last (pc' := 10) rfl rfl rfl (hp_js rfl (by unfold hin; decide)) ?_
    refine zq_goto (pc' := 17) rfl rfl rfl ?_
    refine zq_ipush (pc' := 18) rfl rfl rfl ?_
    exact zq_iret rfl trivial (Exists.intro _ (Exists.intro _ (And.intro rfl H)))
theorem zh_L_mates {d : Nat} {k : Int32 → hG → hE → Prop} {X : Nat → hG → hE → Prop} {p1 : Int32} {g : hG} {e : hE} (H :
    hci d 176 [.ref 1000, .int p1] g e (fun x3 g1 e2 =>
      k 0 (sJ g1 1088 0 ((x3 : Int32).toInt64)) e2) (fun y g9 e9 => zbr (y = 1) (k 1 g9 e9) (X y g9 e9))) : hci (d + 1) 350 [.ref 1000, .int p1, .ref 1088] g e k X := by
  refine hentS (M := zm_L_mates) rfl rfl rfl rfl ?_
  refine zq_aload (pc' := 1) rfl rfl rfl rfl ?_
  refine zq_ipush (pc' := 2) rfl rfl rfl ?_
  refine zq_aload (pc' := 3) rfl rfl rfl rfl ?_
  refine zq_iload (pc' := 4) rfl rfl rfl rfl ?_
  refine hq_callix (pc' := 7) (X' := fun y g9 e9 => zbr (y = 1) (k 1 g9 e9) (X y g9 e9)) rfl rfl rfl rfl rfl (fun y g9 e9 H => ?_) ?_
  · skip
    refine And.intro (fun c => ?_) (fun c => ?_)
    · have H := H.1 c.1
      show zW (zE d) zm_L_mates (hqi k X) (13, [(0, .ref 1000), (1, .int p1), (2, .ref 1088)], [], hp g9 e9)
      refine zq_ipush (pc' := 14) rfl rfl rfl ?_
      exact zq_iret rfl trivial (Exists.intro _ (Exists.intro _ (And.intro rfl H)))
    · have H := H.2 (fun z => c (And.intro z (by decide)))
      exact h_Xi y g9 e9 H
  · skip
    refine hmonoi H ?_
    intro x3 g1 e2 H
    refine zq_i2l (pc' := 8) rfl rfl rfl ?_
    refine zq_last (pc' := 9) rfl rfl rfl (hp_js rfl (by unfold hin; decide)) ?_
    refine zq_goto (pc' := 15) rfl rfl rfl ?_
    refine zq_ipush (pc' := 16) rfl rfl rfl ?_
    exact zq_iret rfl trivial (Exists.intro _ (Exists.intro _ (And.intro rfl H)))
theorem zh_L_toPinch {d : Nat} {k : Int32 → hG → hE → Prop} {X : Nat → hG → hE → Prop} {p1 : Int32} {p2 : Int32} {g : hG} {e : hE} (H :
    hci d 179 [.ref 1000, .int p1, .int p2] g e (fun x3 g1 e2 =>
      k 0 (sJ g1 1088 0 ((x3 : Int32).toInt64)) e2) (fun y g9 e9 => zbr (y = 1) (k 1 g9 e9) (zbr (y = 0) (k 2 g9 e9) (X y g9 e9)))) : hci (d + 1) 351 [.ref 1000, .int p1, .int p2, .ref 1088] g e k X := by
  refine hentS (M := zm_L_toPinch) rfl rfl rfl rfl ?_
  refine zq_aload (pc' := 1) rfl rfl rfl rfl ?_
  refine zq_ipush (pc' := 2) rfl rfl rfl ?_
  refine zq_aload (pc' := 3) rfl rfl rfl rfl ?_
  refine zq_iload (pc' := 4) rfl rfl rfl rfl ?_
  refine zq_iload (pc' := 5) rfl rfl rfl rfl ?_
  refine hq_callix (pc' := 8) (X' := fun y g9 e9 => zbr (y = 1) (k 1 g9 e9) (zbr (y = 0) (k 2 g9 e9) (X y g9 e9))) rfl rfl rfl rfl rfl (fun y g9 e9 H => ?_) ?_
  · skip
    refine And.intro (fun c => ?_) (fun c => ?_)
    · have H := H.1 c.1
      show zW (zE d) zm_L_toPinch (hqi k X) (15, [(0, .ref 1000), (1, .int p1), (2, .int p2), (3, .ref 1088)], [], hp g9 e9)
      refine zq_ipush (pc' := 16) rfl rfl rfl ?_
      exact zq_iret rfl trivial (Exists.intro _ (Exists.intro _ (And.intro rfl H)))
    · have H := H.2 (fun z => c (And.intro z (by decide)))
      refine And.intro (fun c => ?_) (fun c => ?_)
      · have H := H.1 c.1
        show zW (zE d) zm_L_toPinch (hqi k X) (19, [(0, .ref 1000), (1, .int p1), (2, .int p2), (3, .ref 1088)], [], hp g9 e9)
        refine zq_ipush (pc' := 20) rfl rfl rfl ?_
        exact zq_iret rfl trivial (Exists.intro _ (Exists.intro _ (And.intro rfl H)))
      · have H := H.2 (fun z => c (And.intro z (by decide)))
        exact h_Xi y g9 e9 H
  · skip
    refine hmonoi H ?_
    intro x3 g1 e2 H
    refine zq_i2l (pc' := 9) rfl rfl rfl ?_
    refine zq_last (pc' := 10) rfl rfl rfl (hp_js rfl (by unfold hin; decide)) ?_
    refine zq_goto (pc' := 21) rfl rfl rfl ?_
    refine zq_ipush (pc' := 22) rfl rfl rfl ?_
    exact zq_iret rfl trivial (Exists.intro _ (Exists.intro _ (And.intro rfl H)))
theorem zh_L_toSlide {d : Nat} {k : Int32 → hG → hE → Prop} {X : Nat → hG → hE → Prop} {p1 : Int32} {p2 : Int32} {p3 : Int32} {g : hG} {e : hE} (H :
    hci d 180 [.ref 1000, .int p1, .int p2, .int p3] g e (fun x3 g1 e2 =>
      k 0 (sJ g1 1088 0 ((x3 : Int32).toInt64)) e2) (fun y g9 e9 => zbr (y = 1) (k 1 g9 e9) (zbr (y = 0) (k 2 g9 e9) (X y g9 e9)))) : hci (d + 1) 352 [.ref 1000, .int p1, .int p2, .int p3, .ref 1088] g e k X := by
  refine hentS (M := zm_L_toSlide) rfl rfl rfl rfl ?_
  refine zq_aload (pc' := 2) rfl rfl rfl rfl ?_
  refine zq_ipush (pc' := 3) rfl rfl rfl ?_
  refine zq_aload (pc' := 4) rfl rfl rfl rfl ?_
  refine zq_iload (pc' := 5) rfl rfl rfl rfl ?_
  refine zq_iload (pc' := 6) rfl rfl rfl rfl ?_
  refine zq_iload (pc' := 7) rfl rfl rfl rfl ?_
  refine hq_callix (pc' := 10) (X' := fun y g9 e9 => zbr (y = 1) (k 1 g9 e9) (zbr (y = 0) (k 2 g9 e9) (X y g9 e9))) rfl rfl rfl rfl rfl (fun y g9 e9 H => ?_) ?_
  · skip
    refine And.intro (fun c => ?_) (fun c => ?_)
    · have H := H.1 c.1
      show zW (zE d) zm_L_toSlide (hqi k X) (17, [(0, .ref 1000), (1, .int p1), (2, .int p2), (3, .int p3), (4, .ref 1088)], [], hp g9 e9)
      refine zq_ipush (pc' := 18) rfl rfl rfl ?_
      exact zq_iret rfl trivial (Exists.intro _ (Exists.intro _ (And.intro rfl H)))
    · have H := H.2 (fun z => c (And.intro z (by decide)))
      refine And.intro (fun c => ?_) (fun c => ?_)
      · have H := H.1 c.1
        show zW (zE d) zm_L_toSlide (hqi k X) (21, [(0, .ref 1000), (1, .int p1), (2, .int p2), (3, .int p3), (4, .ref 1088)], [], hp g9 e9)
        refine zq_ipush (pc' := 22) rfl rfl rfl ?_
        exact zq_iret rfl trivial (Exists.intro _ (Exists.intro _ (And.intro rfl H)))
      · have H := H.2 (fun z => c (And.intro z (by decide)))
        exact h_Xi y g9 e9 H
  · skip
    refine hmonoi H ?_
    intro x3 g1 e2 H
    refine zq_i2l (pc' := 11) rfl rfl rfl ?_
    refine zq_last (pc' := 12) rfl rfl rfl (hp_js rfl (by unfold hin; decide)) ?_
    refine zq_goto (pc' := 23) rfl rfl rfl ?_
    refine zq_ipush (pc' := 24) rfl rfl rfl ?_
    exact zq_iret rfl trivial (Exists.intro _ (Exists.intro _ (And.intro rfl H)))
theorem zh_L_toSet {d : Nat} {k : Int32 → hG → hE → Prop} {X : Nat → hG → hE → Prop} {p1 : Int32} {p2 : Int32} {g : hG} {e : hE} (H :
    hci d 181 [.ref 1000, .int p1, .int p2] g e (fun x3 g1 e2 =>
      k 0 (sJ g1 1088 0 ((x3 : Int32).toInt64)) e2) (fun y g9 e9 => zbr (y = 1) (k 1 g9 e9) (zbr (y = 0) (k 2 g9 e9) (X y g9 e9)))) : hci (d + 1) 353 [.ref 1000, .int p1, .int p2, .ref 1088] g e k X := by
  refine hentS (M := zm_L_toSet) rfl rfl rfl rfl ?_
  refine zq_aload (pc' := 1) rfl rfl rfl rfl ?_
  refine zq_ipush (pc' := 2) rfl rfl rfl ?_
  refine zq_aload (pc' := 3) rfl rfl rfl rfl ?_
  refine zq_iload (pc' := 4) rfl rfl rfl rfl ?_
  refine zq_iload (pc' := 5) rfl rfl rfl rfl ?_
  refine hq_callix (pc' := 8) (X' := fun y g9 e9 => zbr (y = 1) (k 1 g9 e9) (zbr (y = 0) (k 2 g9 e9) (X y g9 e9))) rfl rfl rfl rfl rfl (fun y g9 e9 H => ?_) ?_
  · skip
    refine And.intro (fun c => ?_) (fun c => ?_)
    · have H := H.1 c.1
      show zW (zE d) zm_L_toSet (hqi k X) (15, [(0, .ref 1000), (1, .int p1), (2, .int p2), (3, .ref 1088)], [], hp g9 e9)
      refine zq_ipush (pc' := 16) rfl rfl rfl ?_
      exact zq_iret rfl trivial (Exists.intro _ (Exists.intro _ (And.intro rfl H)))
    · have H := H.2 (fun z => c (And.intro z (by decide)))
      refine And.intro (fun c => ?_) (fun c => ?_)
      · have H := H.1 c.1
        show zW (zE d) zm_L_toSet (hqi k X) (19, [(0, .ref 1000), (1, .int p1), (2, .int p2), (3, .ref 1088)], [], hp g9 e9)
        refine zq_ipush (pc' := 20) rfl rfl rfl ?_
        exact zq_iret rfl trivial (Exists.intro _ (Exists.intro _ (And.intro rfl H)))
      · have H := H.2 (fun z => c (And.intro z (by decide)))
        exact h_Xi y g9 e9 H
  · skip
    refine hmonoi H ?_
    intro x3 g1 e2 H
    refine zq_i2l (pc' := 9) rfl rfl rfl ?_
    refine zq_last (pc' := 10) rfl rfl rfl (hp_js rfl (by unfold hin; decide)) ?_
    refine zq_goto (pc' := 21) rfl rfl rfl ?_
    refine zq_ipush (pc' := 22) rfl rfl rfl ?_
    exact zq_iret rfl trivial (Exists.intro _ (Exists.intro _ (And.intro rfl H)))
theorem zh_L_note {d : Nat} {k : Int32 → hG → hE → Prop} {X : Nat → hG → hE → Prop} {p1 : Int32} {p2 : Int32} {p3 : Int32} {p4 : Int32} {g : hG} {e : hE} (H :
    hci d 182 [.ref 1000, .int p1, .int p2, .int p3, .int p4] g e (fun x3 g1 e2 =>
      k 0 (sJ g1 1088 0 ((x3 : Int32).toInt64)) e2) (fun y g9 e9 => zbr (y = 1) (k 1 g9 e9) (X y g9 e9))) : hci (d + 1) 354 [.ref 1000, .int p1, .int p2, .int p3, .int p4, .ref 1088] g e k X := by
  refine hentS (M := zm_L_note) rfl rfl rfl rfl ?_
  refine zq_aload (pc' := 2) rfl rfl rfl rfl ?_
  refine zq_ipush (pc' := 3) rfl rfl rfl ?_
  refine zq_aload (pc' := 4) rfl rfl rfl rfl ?_
  refine zq_iload (pc' := 5) rfl rfl rfl rfl ?_
  refine zq_iload (pc' := 6) rfl rfl rfl rfl ?_
  refine zq_iload (pc' := 7) rfl rfl rfl rfl ?_
  refine zq_iload (pc' := 9) rfl rfl rfl rfl ?_
  refine hq_callix (pc' := 12) (X' := fun y g9 e9 => zbr (y = 1) (k 1 g9 e9) (X y g9 e9)) rfl rfl rfl rfl rfl (fun y g9 e9 H => ?_) ?_
  · skip
    refine And.intro (fun c => ?_) (fun c => ?_)
    · have H := H.1 c.1
      show zW (zE d) zm_L_note (hqi k X) (19, [(0, .ref 1000), (1, .int p1), (2, .int p2), (3, .int p3), (4, .int p4), (5, .ref 1088)], [], hp g9 e9)
      refine zq_ipush (pc' := 20) rfl rfl rfl ?_
      exact zq_iret rfl trivial (Exists.intro _ (Exists.intro _ (And.intro rfl H)))
    · have H := H.2 (fun z => c (And.intro z (by decide)))
      exact h_Xi y g9 e9 H
  · skip
    refine hmonoi H ?_
    intro x3 g1 e2 H
    refine zq_i2l (pc' := 13) rfl rfl rfl ?_
    refine zq_last (pc' := 14) rfl rfl rfl (hp_js rfl (by unfold hin; decide)) ?_
    refine zq_goto (pc' := 21) rfl rfl rfl ?_
    refine zq_ipush (pc' := 22) rfl rfl rfl ?_
    exact zq_iret rfl trivial (Exists.intro _ (Exists.intro _ (And.intro rfl H)))
theorem zh_L_forced {d : Nat} {k : Int32 → hG → hE → Prop} {X : Nat → hG → hE → Prop} {p1 : Int32} {g : hG} {e : hE} (H :
    hci d 183 [.ref 1000, .int p1] g e (fun x3 g1 e2 =>
      k 0 (sJ g1 1088 0 ((x3 : Int32).toInt64)) e2) (fun y g9 e9 => zbr (y = 1) (k 1 g9 e9) (X y g9 e9))) : hci (d + 1) 355 [.ref 1000, .int p1, .ref 1088] g e k X := by
  refine hentS (M := zm_L_forced) rfl rfl rfl rfl ?_
  refine zq_aload (pc' := 1) rfl rfl rfl rfl ?_
  refine zq_ipush (pc' := 2) rfl rfl rfl ?_
  refine zq_aload (pc' := 3) rfl rfl rfl rfl ?_
  refine zq_iload (pc' := 4) rfl rfl rfl rfl ?_
  refine hq_callix (pc' := 7) (X' := fun y g9 e9 => zbr (y = 1) (k 1 g9 e9) (X y g9 e9)) rfl rfl rfl rfl rfl (fun y g9 e9 H => ?_) ?_
  · skip
    refine And.intro (fun c => ?_) (fun c => ?_)
    · have H := H.1 c.1
      show zW (zE d) zm_L_forced (hqi k X) (13, [(0, .ref 1000), (1, .int p1), (2, .ref 1088)], [], hp g9 e9)
      refine zq_ipush (pc' := 14) rfl rfl rfl ?_
      exact zq_iret rfl trivial (Exists.intro _ (Exists.intro _ (And.intro rfl H)))
    · have H := H.2 (fun z => c (And.intro z (by decide)))
      exact h_Xi y g9 e9 H
  · skip
    refine hmonoi H ?_
    intro x3 g1 e2 H
    refine zq_i2l (pc' := 8) rfl rfl rfl ?_
    refine zq_last (pc' := 9) rfl rfl rfl (hp_js rfl (by unfold hin; decide)) ?_
    refine zq_goto (pc' := 15) rfl rfl rfl ?_
    refine zq_ipush (pc' := 16) rfl rfl rfl ?_
    exact zq_iret rfl trivial (Exists.intro _ (Exists.intro _ (And.intro rfl H)))
theorem zh_L_look {d : Nat} {k : Int32 → hG → hE → Prop} {X : Nat → hG → hE → Prop} {p1 : Int32} {g : hG} {e : hE} (H :
    hci d 187 [.ref 1000, .int p1] g e (fun x3 g1 e2 =>
      k 0 (sJ g1 1088 0 ((x3 : Int32).toInt64)) e2) (fun y g9 e9 => zbr (y = 1) (k 1 g9 e9) (X y g9 e9))) : hci (d + 1) 356 [.ref 1000, .int p1, .ref 1088] g e k X := by
  refine hentS (M := zm_L_look) rfl rfl rfl rfl ?_
  refine zq_aload (pc' := 1) rfl rfl rfl rfl ?_
  refine zq_ipush (pc' := 2) rfl rfl rfl ?_
  refine zq_aload (pc' := 3) rfl rfl rfl rfl ?_
  refine zq_iload (pc' := 4) rfl rfl rfl rfl ?_
  refine hq_callix (pc' := 7) (X' := fun y g9 e9 => zbr (y = 1) (k 1 g9 e9) (X y g9 e9)) rfl rfl rfl rfl rfl (fun y g9 e9 H => ?_) ?_
  · skip
    refine And.intro (fun c => ?_) (fun c => ?_)
    · have H := H.1 c.1
      show zW (zE d) zm_L_look (hqi k X) (13, [(0, .ref 1000), (1, .int p1), (2, .ref 1088)], [], hp g9 e9)
      refine zq_ipush (pc' := 14) rfl rfl rfl ?_
      exact zq_iret rfl trivial (Exists.intro _ (Exists.intro _ (And.intro rfl H)))
    · have H := H.2 (fun z => c (And.intro z (by decide)))
      exact h_Xi y g9 e9 H
  · skip
    refine hmonoi H ?_
    intro x3 g1 e2 H
    refine zq_i2l (pc' := 8) rfl rfl rfl ?_
    refine zq_last (pc' := 9) rfl rfl rfl (hp_js rfl (by unfold hin; decide)) ?_
    refine zq_goto (pc' := 15) rfl rfl rfl ?_
    refine zq_ipush (pc' := 16) rfl rfl rfl ?_
    exact zq_iret rfl trivial (Exists.intro _ (Exists.intro _ (And.intro rfl H)))
theorem zh_L_wind {d : Nat} {k : Int32 → hG → hE → Prop} {X : Nat → hG → hE → Prop} {p1 : Int32} {p2 : Int32} {p3 : Int32} {p4 : Int32} {g : hG} {e : hE} (H :
    hci d 191 [.ref 1000, .int p1, .int p2, .int p3, .int p4] g e (fun x3 g1 e2 =>
      k 0 (sJ g1 1088 0 ((x3 : Int32).toInt64)) e2) (fun y g9 e9 => zbr (y = 1) (k 1 g9 e9) (zbr (y = 0) (k 2 g9 e9) (X y g9 e9)))) : hci (d + 1) 357 [.ref 1000, .int p1, .int p2, .int p3, .int p4, .ref 1088] g e k X := by
  refine hentS (M := zm_L_wind) rfl rfl rfl rfl ?_
  refine zq_aload (pc' := 2) rfl rfl rfl rfl ?_
  refine zq_ipush (pc' := 3) rfl rfl rfl ?_
  refine zq_aload (pc' := 4) rfl rfl rfl rfl ?_
  refine zq_iload (pc' := 5) rfl rfl rfl rfl ?_
  refine zq_iload (pc' := 6) rfl rfl rfl rfl ?_
  refine zq_iload (pc' := 7) rfl rfl rfl rfl ?_
  refine zq_iload (pc' := 9) rfl rfl rfl rfl ?_
  refine hq_callix (pc' := 12) (X' := fun y g9 e9 => zbr (y = 1) (k 1 g9 e9) (zbr (y = 0) (k 2 g9 e9) (X y g9 e9))) rfl rfl rfl rfl rfl (fun y g9 e9 H => ?_) ?_
  · skip
    refine And.intro (fun c => ?_) (fun c => ?_)
    · have H := H.1 c.1
      show zW (zE d) zm_L_wind (hqi k X) (19, [(0, .ref 1000), (1, .int p1), (2, .int p2), (3, .int p3), (4, .int p4), (5, .ref 1088)], [], hp g9 e9)
      refine zq_ipush (pc' := 20) rfl rfl rfl ?_
      exact zq_iret rfl trivial (Exists.intro _ (Exists.intro _ (And.intro rfl H)))
    · have H := H.2 (fun z => c (And.intro z (by decide)))
      refine And.intro (fun c => ?_) (fun c => ?_)
      · have H := H.1 c.1
        show zW (zE d) zm_L_wind (hqi k X) (23, [(0, .ref 1000), (1, .int p1), (2, .int p2), (3, .int p3), (4, .int p4), (5, .ref 1088)], [], hp g9 e9)
        refine zq_ipush (pc' := 24) rfl rfl rfl ?_
        exact zq_iret rfl trivial (Exists.intro _ (Exists.intro _ (And.intro rfl H)))
      · have H := H.2 (fun z => c (And.intro z (by decide)))
        exact h_Xi y g9 e9 H
  · skip
    refine hmonoi H ?_
    intro x3 g1 e2 H
    refine zq_i2l (pc' := 13) rfl rfl rfl ?_
    refine zq_last (pc' := 14) rfl rfl rfl (hp_js rfl (by unfold hin; decide)) ?_
    refine zq_goto (pc' := 25) rfl rfl rfl ?_
    refine zq_ipush (pc' := 26) rfl rfl rfl ?_
    exact zq_iret rfl trivial (Exists.intro _ (Exists.intro _ (And.intro rfl H)))
theorem zh_L_game {d : Nat} {k : Int32 → hG → hE → Prop} {X : Nat → hG → hE → Prop} {p1 : Int32} {p2 : Int32} {p3 : Int32} {g : hG} {e : hE} (H :
    hci d 194 [.ref 1000, .int p1, .int p2, .int p3] g e (fun x3 g1 e2 =>
      k 0 (sJ g1 1088 0 ((x3 : Int32).toInt64)) e2) (fun y g9 e9 => zbr (y = 1) (k 1 g9 e9) (zbr (y = 0) (k 2 g9 e9) (X y g9 e9)))) : hci (d + 1) 358 [.ref 1000, .int p1, .int p2, .int p3, .ref 1088] g e k X := by
  refine hentS (M := zm_L_game) rfl rfl rfl rfl ?_
  refine zq_aload (pc' := 2) rfl rfl rfl rfl ?_
  refine zq_ipush (pc' := 3) rfl rfl rfl ?_
  refine zq_aload (pc' := 4) rfl rfl rfl rfl ?_
  refine zq_iload (pc' := 5) rfl rfl rfl rfl ?_
  refine zq_iload (pc' := 6) rfl rfl rfl rfl ?_
  refine zq_iload (pc' := 7) rfl rfl rfl rfl ?_
  refine hq_callix (pc' := 10) (X' := fun y g9 e9 => zbr (y = 1) (k 1 g9 e9) (zbr (y = 0) (k 2 g9 e9) (X y g9 e9))) rfl rfl rfl rfl rfl (fun y g9 e9 H => ?_) ?_
  · skip
    refine And.intro (fun c => ?_) (fun c => ?_)
    · have H := H.1 c.1
      show zW (zE d) zm_L_game (hqi k X) (17, [(0, .ref 1000), (1, .int p1), (2, .int p2), (3, .int p3), (4, .ref 1088)], [], hp g9 e9)
      refine zq_ipush (pc' := 18) rfl rfl rfl ?_
      exact zq_iret rfl trivial (Exists.intro _ (Exists.intro _ (And.intro rfl H)))
    · have H := H.2 (fun z => c (And.intro z (by decide)))
      refine And.intro (fun c => ?_) (fun c => ?_)
      · have H := H.1 c.1
        show zW (zE d) zm_L_game (hqi k X) (21, [(0, .ref 1000), (1, .int p1), (2, .int p2), (3, .int p3), (4, .ref 1088)], [], hp g9 e9)
        refine zq_ipush (pc' := 22) rfl rfl rfl ?_
        exact zq_iret rfl trivial (Exists.intro _ (Exists.intro _ (And.intro rfl H)))
      · have H := H.2 (fun z => c (And.intro z (by decide)))
        exact h_Xi y g9 e9 H
  · skip
    refine hmonoi H ?_
    intro x3 g1 e2 H
    refine zq_i2l (pc' := 11) rfl rfl rfl ?_
    refine zq_last (pc' := 12) rfl rfl rfl (hp_js rfl (by unfold hin; decide)) ?_
    refine zq_goto (pc' := 23) rfl rfl rfl ?_
    refine zq_ipush (pc' := 24) rfl rfl rfl ?_
    exact zq_iret rfl trivial (Exists.intro _ (Exists.intro _ (And.intro rfl H)))
theorem zh_L_years {d : Nat} {k : Int32 → hG → hE → Prop} {X : Nat → hG → hE → Prop} {p1 : Int32} {p2 : Int32} {p3 : Int32} {g : hG} {e : hE} (H :
    hci d 197 [.ref 1000, .int p1, .int p2, .int p3] g e (fun x3 g1 e2 =>
      k 0 (sJ g1 1088 0 ((x3 : Int32).toInt64)) e2) (fun y g9 e9 => zbr (y = 1) (k 1 g9 e9) (zbr (y = 0) (k 2 g9 e9) (X y g9 e9)))) : hci (d + 1) 359 [.ref 1000, .int p1, .int p2, .int p3, .ref 1088] g e k X := by
  refine hentS (M := zm_L_years) rfl rfl rfl rfl ?_
  refine zq_aload (pc' := 2) rfl rfl rfl rfl ?_
  refine zq_ipush (pc' := 3) rfl rfl rfl ?_
  refine zq_aload (pc' := 4) rfl rfl rfl rfl ?_
  refine zq_iload (pc' := 5) rfl rfl rfl rfl ?_
  refine zq_iload (pc' := 6) rfl rfl rfl rfl ?_
  refine zq_iload (pc' := 7) rfl rfl rfl rfl ?_
  refine hq_callix (pc' := 10) (X' := fun y g9 e9 => zbr (y = 1) (k 1 g9 e9) (zbr (y = 0) (k 2 g9 e9) (X y g9 e9))) rfl rfl rfl rfl rfl (fun y g9 e9 H => ?_) ?_
  · skip
    refine And.intro (fun c => ?_) (fun c => ?_)
    · have H := H.1 c.1
      show zW (zE d) zm_L_years (hqi k X) (17, [(0, .ref 1000), (1, .int p1), (2, .int p2), (3, .int p3), (4, .ref 1088)], [], hp g9 e9)
      refine zq_ipush (pc' := 18) rfl rfl rfl ?_
      exact zq_iret rfl trivial (Exists.intro _ (Exists.intro _ (And.intro rfl H)))
    · have H := H.2 (fun z => c (And.intro z (by decide)))
      refine And.intro (fun c => ?_) (fun c => ?_)
      · have H := H.1 c.1
        show zW (zE d) zm_L_years (hqi k X) (21, [(0, .ref 1000), (1, .int p1), (2, .int p2), (3, .int p3), (4, .ref 1088)], [], hp g9 e9)
        refine zq_ipush (pc' := 22) rfl rfl rfl ?_
        exact zq_iret rfl trivial (Exists.intro _ (Exists.intro _ (And.intro rfl H)))
      · have H := H.2 (fun z => c (And.intro z (by decide)))
        exact h_Xi y g9 e9 H
  · skip
    refine hmonoi H ?_
    intro x3 g1 e2 H
    refine zq_i2l (pc' := 11) rfl rfl rfl ?_
    refine zq_last (pc' := 12) rfl rfl rfl (hp_js rfl (by unfold hin; decide)) ?_
    refine zq_goto (pc' := 23) rfl rfl rfl ?_
    refine zq_ipush (pc' := 24) rfl rfl rfl ?_
    exact zq_iret rfl trivial (Exists.intro _ (Exists.intro _ (And.intro rfl H)))
theorem zh_L_calm {d : Nat} {k : Int32 → hG → hE → Prop} {X : Nat → hG → hE → Prop} {p1 : Int32} {g : hG} {e : hE} (H :
    hci d 167 [.ref 1000, .int p1] g e (fun x3 g1 e2 =>
      k 0 (sJ g1 1088 0 ((x3 : Int32).toInt64)) e2) (fun y g9 e9 => zbr (y = 0) (k 1 g9 e9) (X y g9 e9))) : hci (d + 1) 360 [.ref 1000, .int p1, .ref 1088] g e k X := by
  refine hentS (M := zm_L_calm) rfl rfl rfl rfl ?_
  refine zq_aload (pc' := 1) rfl rfl rfl rfl ?_
  refine zq_ipush (pc' := 2) rfl rfl rfl ?_
  refine zq_aload (pc' := 3) rfl rfl rfl rfl ?_
  refine zq_iload (pc' := 4) rfl rfl rfl rfl ?_
  refine hq_callix (pc' := 7) (X' := fun y g9 e9 => zbr (y = 0) (k 1 g9 e9) (X y g9 e9)) rfl rfl rfl rfl rfl (fun y g9 e9 H => ?_) ?_
  · skip
    refine And.intro (fun c => ?_) (fun c => ?_)
    · have H := H.1 c.1
      show zW (zE d) zm_L_calm (hqi k X) (13, [(0, .ref 1000), (1, .int p1), (2, .ref 1088)], [], hp g9 e9)
      refine zq_ipush (pc' := 14) rfl rfl rfl ?_
      exact zq_iret rfl trivial (Exists.intro _ (Exists.intro _ (And.intro rfl H)))
    · have H := H.2 (fun z => c (And.intro z (by decide)))
      exact h_Xi y g9 e9 H
  · skip
    refine hmonoi H ?_
    intro x3 g1 e2 H
    refine zq_i2l (pc' := 8) rfl rfl rfl ?_
    refine zq_last (pc' := 9) rfl rfl rfl (hp_js rfl (by unfold hin; decide)) ?_
    refine zq_goto (pc' := 15) rfl rfl rfl ?_
    refine zq_ipush (pc' := 16) rfl rfl rfl ?_
    exact zq_iret rfl trivial (Exists.intro _ (Exists.intro _ (And.intro rfl H)))
theorem zh_L_worst {d : Nat} {k : Int32 → hG → hE → Prop} {X : Nat → hG → hE → Prop} {p1 : Int32} {p2 : Int32} {g : hG} {e : hE} (H :
    hci d 168 [.ref 1000, .int p1, .int p2] g e (fun x3 g1 e2 =>
      k 0 (sJ g1 1088 0 ((x3 : Int32).toInt64)) e2) (fun y g9 e9 => zbr (y = 1) (k 1 g9 e9) (zbr (y = 0) (k 2 g9 e9) (X y g9 e9)))) : hci (d + 1) 361 [.ref 1000, .int p1, .int p2, .ref 1088] g e k X := by
  refine hentS (M := zm_L_worst) rfl rfl rfl rfl ?_
  refine zq_aload (pc' := 1) rfl rfl rfl rfl ?_
  refine zq_ipush (pc' := 2) rfl rfl rfl ?_
  refine zq_aload (pc' := 3) rfl rfl rfl rfl ?_
  refine zq_iload (pc' := 4) rfl rfl rfl rfl ?_
  refine zq_iload (pc' := 5) rfl rfl rfl rfl ?_
  refine hq_callix (pc' := 8) (X' := fun y g9 e9 => zbr (y = 1) (k 1 g9 e9) (zbr (y = 0) (k 2 g9 e9) (X y g9 e9))) rfl rfl rfl rfl rfl (fun y g9 e9 H => ?_) ?_
  · skip
    refine And.intro (fun c => ?_) (fun c => ?_)
    · have H := H.1 c.1
      show zW (zE d) zm_L_worst (hqi k X) (15, [(0, .ref 1000), (1, .int p1), (2, .int p2), (3, .ref 1088)], [], hp g9 e9)
      refine zq_ipush (pc' := 16) rfl rfl rfl ?_
      exact zq_iret rfl trivial (Exists.intro _ (Exists.intro _ (And.intro rfl H)))
    · have H := H.2 (fun z => c (And.intro z (by decide)))
      refine And.intro (fun c => ?_) (fun c => ?_)
      · have H := H.1 c.1
        show zW (zE d) zm_L_worst (hqi k X) (19, [(0, .ref 1000), (1, .int p1), (2, .int p2), (3, .ref 1088)], [], hp g9 e9)
        refine zq_ipush (pc' := 20) rfl rfl rfl ?_
        exact zq_iret rfl trivial (Exists.intro _ (Exists.intro _ (And.intro rfl H)))
      · have H := H.2 (fun z => c (And.intro z (by decide)))
        exact h_Xi y g9 e9 H
  · skip
    refine hmonoi H ?_
    intro x3 g1 e2 H
    refine zq_i2l (pc' := 9) rfl rfl rfl ?_
    refine zq_last (pc' := 10) rfl rfl rfl (hp_js rfl (by unfold hin; decide)) ?_
    refine zq_goto (pc' := 21) rfl rfl rfl ?_
    refine zq_ipush (pc' := 22) rfl rfl rfl ?_
    exact zq_iret rfl trivial (Exists.intro _ (Exists.intro _ (And.intro rfl H)))
theorem zh_L_most {d : Nat} {k : Int32 → hG → hE → Prop} {X : Nat → hG → hE → Prop} {p1 : Int32} {p2 : Int32} {g : hG} {e : hE} (H :
    hci d 169 [.ref 1000, .int p1, .int p2] g e (fun x3 g1 e2 =>
      k 0 (sJ g1 1088 0 ((x3 : Int32).toInt64)) e2) (fun y g9 e9 => zbr (y = 1) (k 1 g9 e9) (zbr (y = 0) (k 2 g9 e9) (X y g9 e9)))) : hci (d + 1) 362 [.ref 1000, .int p1, .int p2, .ref 1088] g e k X := by
  refine hentS (M := zm_L_most) rfl rfl rfl rfl ?_
  refine zq_aload (pc' := 1) rfl rfl rfl rfl ?_
  refine zq_ipush (pc' := 2) rfl rfl rfl ?_
  refine zq_aload (pc' := 3) rfl rfl rfl rfl ?_
  refine zq_iload (pc' := 4) rfl rfl rfl rfl ?_
  refine zq_iload (pc' := 5) rfl rfl rfl rfl ?_
  refine hq_callix (pc' := 8) (X' := fun y g9 e9 => zbr (y = 1) (k 1 g9 e9) (zbr (y = 0) (k 2 g9 e9) (X y g9 e9))) rfl rfl rfl rfl rfl (fun y g9 e9 H => ?_) ?_
  · skip
    refine And.intro (fun c => ?_) (fun c => ?_)
    · have H := H.1 c.1
      show zW (zE d) zm_L_most (hqi k X) (15, [(0, .ref 1000), (1, .int p1), (2, .int p2), (3, .ref 1088)], [], hp g9 e9)
      refine zq_ipush (pc' := 16) rfl rfl rfl ?_
      exact zq_iret rfl trivial (Exists.intro _ (Exists.intro _ (And.intro rfl H)))
    · have H := H.2 (fun z => c (And.intro z (by decide)))
      refine And.intro (fun c => ?_) (fun c => ?_)
      · have H := H.1 c.1
        show zW (zE d) zm_L_most (hqi k X) (19, [(0, .ref 1000), (1, .int p1), (2, .int p2), (3, .ref 1088)], [], hp g9 e9)
        refine zq_ipush (pc' := 20) rfl rfl rfl ?_
        exact zq_iret rfl trivial (Exists.intro _ (Exists.intro _ (And.intro rfl H)))
      · have H := H.2 (fun z => c (And.intro z (by decide)))
        exact h_Xi y g9 e9 H
  · skip
    refine hmonoi H ?_
    intro x3 g1 e2 H
    refine zq_i2l (pc' := 9) rfl rfl rfl ?_
    refine zq_last (pc' := 10) rfl rfl rfl (hp_js rfl (by unfold hin; decide)) ?_
    refine zq_goto (pc' := 21) rfl rfl rfl ?_
    refine zq_ipush (pc' := 22) rfl rfl rfl ?_
    exact zq_iret rfl trivial (Exists.intro _ (Exists.intro _ (And.intro rfl H)))
theorem zh_L_gap {d : Nat} {k : Int32 → hG → hE → Prop} {X : Nat → hG → hE → Prop} {p1 : Int32} {g : hG} {e : hE} (H :
    hci d 153 [.ref 1000, .int p1] g e (fun x3 g1 e2 =>
      k 0 (sJ g1 1088 0 ((x3 : Int32).toInt64)) e2) (fun y g9 e9 => zbr (y = 1) (k 1 g9 e9) (X y g9 e9))) : hci (d + 1) 363 [.ref 1000, .int p1, .ref 1088] g e k X := by
  refine hentS (M := zm_L_gap) rfl rfl rfl rfl ?_
  refine zq_aload (pc' := 1) rfl rfl rfl rfl ?_
  refine zq_ipush (pc' := 2) rfl rfl rfl ?_
  refine zq_aload (pc' := 3) rfl rfl rfl rfl ?_
  refine zq_iload (pc' := 4) rfl rfl rfl rfl ?_
  refine hq_callix (pc' := 7) (X' := fun y g9 e9 => zbr (y = 1) (k 1 g9 e9) (X y g9 e9)) rfl rfl rfl rfl rfl (fun y g9 e9 H => ?_) ?_
  · skip
    refine And.intro (fun c => ?_) (fun c => ?_)
    · have H := H.1 c.1
      show zW (zE d) zm_L_gap (hqi k X) (13, [(0, .ref 1000), (1, .int p1), (2, .ref 1088)], [], hp g9 e9)
      refine zq_ipush (pc' := 14) rfl rfl rfl ?_
      exact zq_iret rfl trivial (Exists.intro _ (Exists.intro _ (And.intro rfl H)))
    · have H := H.2 (fun z => c (And.intro z (by decide)))
      exact h_Xi y g9 e9 H
  · skip
    refine hmonoi H ?_
    intro x3 g1 e2 H
    refine zq_i2l (pc' := 8) rfl rfl rfl ?_
    refine zq_last (pc' := 9) rfl rfl rfl (hp_js rfl (by unfold hin; decide)) ?_
    refine zq_goto (pc' := 15) rfl rfl rfl ?_
    refine zq_ipush (pc' := 16) rfl rfl rfl ?_
    exact zq_iret rfl trivial (Exists.intro _ (Exists.intro _ (And.intro rfl H)))
theorem zh_L_unlike {d : Nat} {k : Int32 → hG → hE → Prop} {X : Nat → hG → hE → Prop} {p1 : Int32} {p2 : Int32} {g : hG} {e : hE} (H :
    hci d 154 [.ref 1000, .int p1, .int p2] g e (fun x3 g1 e2 =>
      k 0 (sJ g1 1088 0 ((x3 : Int32).toInt64)) e2) (fun y g9 e9 => zbr (y = 1) (k 1 g9 e9) (X y g9 e9))) : hci (d + 1) 364 [.ref 1000, .int p1, .int p2, .ref 1088] g e k X := by
  refine hentS (M := zm_L_unlike) rfl rfl rfl rfl ?_
  refine zq_aload (pc' := 1) rfl rfl rfl rfl ?_
  refine zq_ipush (pc' := 2) rfl rfl rfl ?_
  refine zq_aload (pc' := 3) rfl rfl rfl rfl ?_
  refine zq_iload (pc' := 4) rfl rfl rfl rfl ?_
  refine zq_iload (pc' := 5) rfl rfl rfl rfl ?_
  refine hq_callix (pc' := 8) (X' := fun y g9 e9 => zbr (y = 1) (k 1 g9 e9) (X y g9 e9)) rfl rfl rfl rfl rfl (fun y g9 e9 H => ?_) ?_
  · skip
    refine And.intro (fun c => ?_) (fun c => ?_)
    · have H := H.1 c.1
      show zW (zE d) zm_L_unlike (hqi k X) (15, [(0, .ref 1000), (1, .int p1), (2, .int p2), (3, .ref 1088)], [], hp g9 e9)
      refine zq_ipush (pc' := 16) rfl rfl rfl ?_
      exact zq_iret rfl trivial (Exists.intro _ (Exists.intro _ (And.intro rfl H)))
    · have H := H.2 (fun z => c (And.intro z (by decide)))
      exact h_Xi y g9 e9 H
  · skip
    refine hmonoi H ?_
    intro x3 g1 e2 H
    refine zq_i2l (pc' := 9) rfl rfl rfl ?_
    refine zq_last (pc' := 10) rfl rfl rfl (hp_js rfl (by unfold hin; decide)) ?_
    refine zq_goto (pc' := 17) rfl rfl rfl ?_
    refine zq_ipush (pc' := 18) rfl rfl rfl ?_
    exact zq_iret rfl trivial (Exists.intro _ (Exists.intro _ (And.intro rfl H)))
theorem zh_L_law_23 {d : Nat} {k : Int32 → hG → hE → Prop} {X : Nat → hG → hE → Prop} {l4 : Int32} {g : hG} {e : hE} (H :
    zbr (((nI e.2.2.2) - 6) < l4)
    (k 1 g e)
    (hin l4 e.2.2.2 ∧
      zbr (((g.1 997 l4.toNatClampNeg) &&& 63) = nI 0)
      (hwi d zm_L_law k X 216 [(0, .ref 997), (1, .ref 1000), (2, .ref 1046), (3, .ref 1088), (4, .int l4)] g e)
      (zbr (((g.1 997 l4.toNatClampNeg) &&& 63) = nI 1)
      (hwi d zm_L_law k X 289 [(0, .ref 997), (1, .ref 1000), (2, .ref 1046), (3, .ref 1088), (4, .int l4)] g e)
      (zbr (((g.1 997 l4.toNatClampNeg) &&& 63) = nI 2)
      (hwi d zm_L_law k X 345 [(0, .ref 997), (1, .ref 1000), (2, .ref 1046), (3, .ref 1088), (4, .int l4)] g e)
      (zbr (((g.1 997 l4.toNatClampNeg) &&& 63) = nI 3)
      (hwi d zm_L_law k X 358 [(0, .ref 997), (1, .ref 1000), (2, .ref 1046), (3, .ref 1088), (4, .int l4)] g e)
      (zbr (((g.1 997 l4.toNatClampNeg) &&& 63) = nI 4)
      (hwi d zm_L_law k X 414 [(0, .ref 997), (1, .ref 1000), (2, .ref 1046), (3, .ref 1088), (4, .int l4)] g e)
      (zbr (((g.1 997 l4.toNatClampNeg) &&& 63) = nI 5)
      (hwi d zm_L_law k X 482 [(0, .ref 997), (1, .ref 1000), (2, .ref 1046), (3, .ref 1088), (4, .int l4)] g e)
      (zbr (((g.1 997 l4.toNatClampNeg) &&& 63) = nI 6)
      (hwi d zm_L_law k X 562 [(0, .ref 997), (1, .ref 1000), (2, .ref 1046), (3, .ref 1088), (4, .int l4)] g e)
      (zbr (((g.1 997 l4.toNatClampNeg) &&& 63) = nI 7)
      (hwi d zm_L_law k X 587 [(0, .ref 997), (1, .ref 1000), (2, .ref 1046), (3, .ref 1088), (4, .int l4)] g e)
      (zbr (((g.1 997 l4.toNatClampNeg) &&& 63) = nI 8)
      (hwi d zm_L_law k X 655 [(0, .ref 997), (1, .ref 1000), (2, .ref 1046), (3, .ref 1088), (4, .int l4)] g e)
      (zbr (((g.1 997 l4.toNatClampNeg) &&& 63) = nI 9)
      (hwi d zm_L_law k X 735 [(0, .ref 997), (1, .ref 1000), (2, .ref 1046), (3, .ref 1088), (4, .int l4)] g e)
      (zbr (((g.1 997 l4.toNatClampNeg) &&& 63) = nI 10)
      (hwi d zm_L_law k X 834 [(0, .ref 997), (1, .ref 1000), (2, .ref 1046), (3, .ref 1088), (4, .int l4)] g e)
      (zbr (((g.1 997 l4.toNatClampNeg) &&& 63) = nI 11)
      (hwi d zm_L_law k X 909 [(0, .ref 997), (1, .ref 1000), (2, .ref 1046), (3, .ref 1088), (4, .int l4)] g e)
      (zbr (((g.1 997 l4.toNatClampNeg) &&& 63) = nI 12)
      (hwi d zm_L_law k X 922 [(0, .ref 997), (1, .ref 1000), (2, .ref 1046), (3, .ref 1088), (4, .int l4)] g e)
      (zbr (((g.1 997 l4.toNatClampNeg) &&& 63) = nI 13)
      (hwi d zm_L_law k X 1002 [(0, .ref 997), (1, .ref 1000), (2, .ref 1046), (3, .ref 1088), (4, .int l4)] g e)
      (zbr (((g.1 997 l4.toNatClampNeg) &&& 63) = nI 14)
      (hwi d zm_L_law k X 1070 [(0, .ref 997), (1, .ref 1000), (2, .ref 1046), (3, .ref 1088), (4, .int l4)] g e)
      (zbr (((g.1 997 l4.toNatClampNeg) &&& 63) = nI 15)
      (hwi d zm_L_law k X 1138 [(0, .ref 997), (1, .ref 1000), (2, .ref 1046), (3, .ref 1088), (4, .int l4)] g e)
      (zbr (((g.1 997 l4.toNatClampNeg) &&& 63) = nI 16)
      (hwi d zm_L_law k X 1206 [(0, .ref 997), (1, .ref 1000), (2, .ref 1046), (3, .ref 1088), (4, .int l4)] g e)
      (zbr (((g.1 997 l4.toNatClampNeg) &&& 63) = nI 17)
      (hwi d zm_L_law k X 1274 [(0, .ref 997), (1, .ref 1000), (2, .ref 1046), (3, .ref 1088), (4, .int l4)] g e)
      (zbr (((g.1 997 l4.toNatClampNeg) &&& 63) = nI 18)
      (hwi d zm_L_law k X 1330 [(0, .ref 997), (1, .ref 1000), (2, .ref 1046), (3, .ref 1088), (4, .int l4)] g e)
      (zbr (((g.1 997 l4.toNatClampNeg) &&& 63) = nI 19)
      (hwi d zm_L_law k X 1410 [(0, .ref 997), (1, .ref 1000), (2, .ref 1046), (3, .ref 1088), (4, .int l4)] g e)
      (zbr (((g.1 997 l4.toNatClampNeg) &&& 63) = nI 20)
      (hwi d zm_L_law k X 1490 [(0, .ref 997), (1, .ref 1000), (2, .ref 1046), (3, .ref 1088), (4, .int l4)] g e)
      (zbr (((g.1 997 l4.toNatClampNeg) &&& 63) = nI 21)
      (hwi d zm_L_law k X 1570 [(0, .ref 997), (1, .ref 1000), (2, .ref 1046), (3, .ref 1088), (4, .int l4)] g e)
      (zbr (((g.1 997 l4.toNatClampNeg) &&& 63) = nI 22)
      (hwi d zm_L_law k X 1638 [(0, .ref 997), (1, .ref 1000), (2, .ref 1046), (3, .ref 1088), (4, .int l4)] g e)
      (zbr (((g.1 997 l4.toNatClampNeg) &&& 63) = nI 23)
      (hwi d zm_L_law k X 1694 [(0, .ref 997), (1, .ref 1000), (2, .ref 1046), (3, .ref 1088), (4, .int l4)] g e)
      (zbr (((g.1 997 l4.toNatClampNeg) &&& 63) = nI 24)
      (hwi d zm_L_law k X 1762 [(0, .ref 997), (1, .ref 1000), (2, .ref 1046), (3, .ref 1088), (4, .int l4)] g e)
      (zbr (((g.1 997 l4.toNatClampNeg) &&& 63) = nI 25)
      (hwi d zm_L_law k X 1842 [(0, .ref 997), (1, .ref 1000), (2, .ref 1046), (3, .ref 1088), (4, .int l4)] g e)
      (zbr (((g.1 997 l4.toNatClampNeg) &&& 63) = nI 26)
      (hwi d zm_L_law k X 1910 [(0, .ref 997), (1, .ref 1000), (2, .ref 1046), (3, .ref 1088), (4, .int l4)] g e)
      (zbr (((g.1 997 l4.toNatClampNeg) &&& 63) = nI 27)
      (hwi d zm_L_law k X 2018 [(0, .ref 997), (1, .ref 1000), (2, .ref 1046), (3, .ref 1088), (4, .int l4)] g e)
      (zbr (((g.1 997 l4.toNatClampNeg) &&& 63) = nI 28)
      (hwi d zm_L_law k X 2074 [(0, .ref 997), (1, .ref 1000), (2, .ref 1046), (3, .ref 1088), (4, .int l4)] g e)
      (zbr (((g.1 997 l4.toNatClampNeg) &&& 63) = nI 29)
      (hwi d zm_L_law k X 2130 [(0, .ref 997), (1, .ref 1000), (2, .ref 1046), (3, .ref 1088), (4, .int l4)] g e)
      (zbr (((g.1 997 l4.toNatClampNeg) &&& 63) = nI 30)
      (hwi d zm_L_law k X 2141 [(0, .ref 997), (1, .ref 1000), (2, .ref 1046), (3, .ref 1088), (4, .int l4)] g e)
      (zbr (((g.1 997 l4.toNatClampNeg) &&& 63) = nI 31)
      (hwi d zm_L_law k X 2233 [(0, .ref 997), (1, .ref 1000), (2, .ref 1046), (3, .ref 1088), (4, .int l4)] g e)
      (zbr (((g.1 997 l4.toNatClampNeg) &&& 63) = nI 32)
      (hwi d zm_L_law k X 2313 [(0, .ref 997), (1, .ref 1000), (2, .ref 1046), (3, .ref 1088), (4, .int l4)] g e)
      (zbr (((g.1 997 l4.toNatClampNeg) &&& 63) = nI 33)
      (hwi d zm_L_law k X 2393 [(0, .ref 997), (1, .ref 1000), (2, .ref 1046), (3, .ref 1088), (4, .int l4)] g e)
      (zbr (((g.1 997 l4.toNatClampNeg) &&& 63) = nI 34)
      (hwi d zm_L_law k X 2449 [(0, .ref 997), (1, .ref 1000), (2, .ref 1046), (3, .ref 1088), (4, .int l4)] g e)
      (zbr (((g.1 997 l4.toNatClampNeg) &&& 63) = nI 35)
      (hwi d zm_L_law k X 2517 [(0, .ref 997), (1, .ref 1000), (2, .ref 1046), (3, .ref 1088), (4, .int l4)] g e)
      (zbr (((g.1 997 l4.toNatClampNeg) &&& 63) = nI 36)
      (hwi d zm_L_law k X 2585 [(0, .ref 997), (1, .ref 1000), (2, .ref 1046), (3, .ref 1088), (4, .int l4)] g e)
      (zbr (((g.1 997 l4.toNatClampNeg) &&& 63) = nI 37)
      (hwi d zm_L_law k X 2641 [(0, .ref 997), (1, .ref 1000), (2, .ref 1046), (3, .ref 1088), (4, .int l4)] g e)
      (zbr (((g.1 997 l4.toNatClampNeg) &&& 63) = nI 38)
      (hwi d zm_L_law k X 2709 [(0, .ref 997), (1, .ref 1000), (2, .ref 1046), (3, .ref 1088), (4, .int l4)] g e)
      (zbr (((g.1 997 l4.toNatClampNeg) &&& 63) = nI 39)
      (hwi d zm_L_law k X 2720 [(0, .ref 997), (1, .ref 1000), (2, .ref 1046), (3, .ref 1088), (4, .int l4)] g e)
      (hwi d zm_L_law k X 2733 [(0, .ref 997), (1, .ref 1000), (2, .ref 1046), (3, .ref 1088), (4, .int l4)] g e)))))))))))))))))))))))))))))))))))))))))) : hwi d zm_L_law k X 23 [(0, .ref 997), (1, .ref 1000), (2, .ref 1046), (3, .ref 1088), (4, .int l4)] g e := by
  refine zq_iload (pc' := 25) rfl rfl rfl rfl ?_
  refine zq_aload (pc' := 26) rfl rfl rfl rfl ?_
  refine zq_alen (pc' := 27) rfl rfl rfl hscL ?_
  refine zq_ipush (pc' := 29) rfl rfl rfl ?_
  refine zq_isub (pc' := 30) rfl rfl rfl ?_
  refine zq_icgt (pc' := 33) rfl rfl rfl rfl (And.intro (fun c => ?_) (fun c => ?_))
  · have H := H.1 c
    refine zq_ipush (pc' := 2740) rfl rfl rfl ?_
    exact zq_iret rfl (Or.inr rfl) (Exists.intro _ (Exists.intro _ (And.intro rfl H)))
  · have H := H.2 c
    refine zq_aload (pc' := 34) rfl rfl rfl rfl ?_
    refine zq_iload (pc' := 36) rfl rfl rfl rfl ?_
    obtain ⟨hi1, H⟩ := H
    refine zq_iald (pc' := 37) rfl rfl rfl (hscB hi1) ?_
    refine zq_ipush (pc' := 39) rfl rfl rfl ?_
    refine zq_iand (pc' := 40) rfl rfl rfl ?_
    refine zq_switch rfl ?_
    refine And.intro (fun c => ?_) (fun c => ?_)
    · have H := H.1 c
      show zW (zE d) zm_L_law (hqi k X) (216, [(0, .ref 997), (1, .ref 1000), (2, .ref 1046), (3, .ref 1088), (4, .int l4)], [], hp g e)
      exact H
    · have H := H.2 c
      refine And.intro (fun c => ?_) (fun c => ?_)
      · have H := H.1 c
        show zW (zE d) zm_L_law (hqi k X) (289, [(0, .ref 997), (1, .ref 1000), (2, .ref 1046), (3, .ref 1088), (4, .int l4)], [], hp g e)
        exact H
      · have H := H.2 c
        refine And.intro (fun c => ?_) (fun c => ?_)
        · have H := H.1 c
          show zW (zE d) zm_L_law (hqi k X) (345, [(0, .ref 997), (1, .ref 1000), (2, .ref 1046), (3, .ref 1088), (4, .int l4)], [], hp g e)
          exact H
        · have H := H.2 c
          refine And.intro (fun c => ?_) (fun c => ?_)
          · have H := H.1 c
            show zW (zE d) zm_L_law (hqi k X) (358, [(0, .ref 997), (1, .ref 1000), (2, .ref 1046), (3, .ref 1088), (4, .int l4)], [], hp g e)
            exact H
          · have H := H.2 c
            refine And.intro (fun c => ?_) (fun c => ?_)
            · have H := H.1 c
              show zW (zE d) zm_L_law (hqi k X) (414, [(0, .ref 997), (1, .ref 1000), (2, .ref 1046), (3, .ref 1088), (4, .int l4)], [], hp g e)
              exact H
            · have H := H.2 c
              refine And.intro (fun c => ?_) (fun c => ?_)
              · have H := H.1 c
                show zW (zE d) zm_L_law (hqi k X) (482, [(0, .ref 997), (1, .ref 1000), (2, .ref 1046), (3, .ref 1088), (4, .int l4)], [], hp g e)
                exact H
              · have H := H.2 c
                refine And.intro (fun c => ?_) (fun c => ?_)
                · have H := H.1 c
                  show zW (zE d) zm_L_law (hqi k X) (562, [(0, .ref 997), (1, .ref 1000), (2, .ref 1046), (3, .ref 1088), (4, .int l4)], [], hp g e)
                  exact H
                · have H := H.2 c
                  refine And.intro (fun c => ?_) (fun c => ?_)
                  · have H := H.1 c
                    show zW (zE d) zm_L_law (hqi k X) (587, [(0, .ref 997), (1, .ref 1000), (2, .ref 1046), (3, .ref 1088), (4, .int l4)], [], hp g e)
                    exact H
                  · have H := H.2 c
                    refine And.intro (fun c => ?_) (fun c => ?_)
                    · have H := H.1 c
                      show zW (zE d) zm_L_law (hqi k X) (655, [(0, .ref 997), (1, .ref 1000), (2, .ref 1046), (3, .ref 1088), (4, .int l4)], [], hp g e)
                      exact H
                    · have H := H.2 c
                      refine And.intro (fun c => ?_) (fun c => ?_)
                      · have H := H.1 c
                        show zW (zE d) zm_L_law (hqi k X) (735, [(0, .ref 997), (1, .ref 1000), (2, .ref 1046), (3, .ref 1088), (4, .int l4)], [], hp g e)
                        exact H
                      · have H := H.2 c
                        refine And.intro (fun c => ?_) (fun c => ?_)
                        · have H := H.1 c
                          show zW (zE d) zm_L_law (hqi k X) (834, [(0, .ref 997), (1, .ref 1000), (2, .ref 1046), (3, .ref 1088), (4, .int l4)], [], hp g e)
                          exact H
                        · have H := H.2 c
                          refine And.intro (fun c => ?_) (fun c => ?_)
                          · have H := H.1 c
                            show zW (zE d) zm_L_law (hqi k X) (909, [(0, .ref 997), (1, .ref 1000), (2, .ref 1046), (3, .ref 1088), (4, .int l4)], [], hp g e)
                            exact H
                          · have H := H.2 c
                            refine And.intro (fun c => ?_) (fun c => ?_)
                            · have H := H.1 c
                              show zW (zE d) zm_L_law (hqi k X) (922, [(0, .ref 997), (1, .ref 1000), (2, .ref 1046), (3, .ref 1088), (4, .int l4)], [], hp g e)
                              exact H
                            · have H := H.2 c
                              refine And.intro (fun c => ?_) (fun c => ?_)
                              · have H := H.1 c
                                show zW (zE d) zm_L_law (hqi k X) (1002, [(0, .ref 997), (1, .ref 1000), (2, .ref 1046), (3, .ref 1088), (4, .int l4)], [], hp g e)
                                exact H
                              · have H := H.2 c
                                refine And.intro (fun c => ?_) (fun c => ?_)
                                · have H := H.1 c
                                  show zW (zE d) zm_L_law (hqi k X) (1070, [(0, .ref 997), (1, .ref 1000), (2, .ref 1046), (3, .ref 1088), (4, .int l4)], [], hp g e)
                                  exact H
                                · have H := H.2 c
                                  refine And.intro (fun c => ?_) (fun c => ?_)
                                  · have H := H.1 c
                                    show zW (zE d) zm_L_law (hqi k X) (1138, [(0, .ref 997), (1, .ref 1000), (2, .ref 1046), (3, .ref 1088), (4, .int l4)], [], hp g e)
                                    exact H
                                  · have H := H.2 c
                                    refine And.intro (fun c => ?_) (fun c => ?_)
                                    · have H := H.1 c
                                      show zW (zE d) zm_L_law (hqi k X) (1206, [(0, .ref 997), (1, .ref 1000), (2, .ref 1046), (3, .ref 1088), (4, .int l4)], [], hp g e)
                                      exact H
                                    · have H := H.2 c
                                      refine And.intro (fun c => ?_) (fun c => ?_)
                                      · have H := H.1 c
                                        show zW (zE d) zm_L_law (hqi k X) (1274, [(0, .ref 997), (1, .ref 1000), (2, .ref 1046), (3, .ref 1088), (4, .int l4)], [], hp g e)
                                        exact H
                                      · have H := H.2 c
                                        refine And.intro (fun c => ?_) (fun c => ?_)
                                        · have H := H.1 c
                                          show zW (zE d) zm_L_law (hqi k X) (1330, [(0, .ref 997), (1, .ref 1000), (2, .ref 1046), (3, .ref 1088), (4, .int l4)], [], hp g e)
                                          exact H
                                        · have H := H.2 c
                                          refine And.intro (fun c => ?_) (fun c => ?_)
                                          · have H := H.1 c
                                            show zW (zE d) zm_L_law (hqi k X) (1410, [(0, .ref 997), (1, .ref 1000), (2, .ref 1046), (3, .ref 1088), (4, .int l4)], [], hp g e)
                                            exact H
                                          · have H := H.2 c
                                            refine And.intro (fun c => ?_) (fun c => ?_)
                                            · have H := H.1 c
                                              show zW (zE d) zm_L_law (hqi k X) (1490, [(0, .ref 997), (1, .ref 1000), (2, .ref 1046), (3, .ref 1088), (4, .int l4)], [], hp g e)
                                              exact H
                                            · have H := H.2 c
                                              refine And.intro (fun c => ?_) (fun c => ?_)
                                              · have H := H.1 c
                                                show zW (zE d) zm_L_law (hqi k X) (1570, [(0, .ref 997), (1, .ref 1000), (2, .ref 1046), (3, .ref 1088), (4, .int l4)], [], hp g e)
                                                exact H
                                              · have H := H.2 c
                                                refine And.intro (fun c => ?_) (fun c => ?_)
                                                · have H := H.1 c
                                                  show zW (zE d) zm_L_law (hqi k X) (1638, [(0, .ref 997), (1, .ref 1000), (2, .ref 1046), (3, .ref 1088), (4, .int l4)], [], hp g e)
                                                  exact H
                                                · have H := H.2 c
                                                  refine And.intro (fun c => ?_) (fun c => ?_)
                                                  · have H := H.1 c
                                                    show zW (zE d) zm_L_law (hqi k X) (1694, [(0, .ref 997), (1, .ref 1000), (2, .ref 1046), (3, .ref 1088), (4, .int l4)], [], hp g e)
                                                    exact H
                                                  · have H := H.2 c
                                                    refine And.intro (fun c => ?_) (fun c => ?_)
                                                    · have H := H.1 c
                                                      show zW (zE d) zm_L_law (hqi k X) (1762, [(0, .ref 997), (1, .ref 1000), (2, .ref 1046), (3, .ref 1088), (4, .int l4)], [], hp g e)
                                                      exact H
                                                    · have H := H.2 c
                                                      refine And.intro (fun c => ?_) (fun c => ?_)
                                                      · have H := H.1 c
                                                        show zW (zE d) zm_L_law (hqi k X) (1842, [(0, .ref 997), (1, .ref 1000), (2, .ref 1046), (3, .ref 1088), (4, .int l4)], [], hp g e)
                                                        exact H
                                                      · have H := H.2 c
                                                        refine And.intro (fun c => ?_) (fun c => ?_)
                                                        · have H := H.1 c
                                                          show zW (zE d) zm_L_law (hqi k X) (1910, [(0, .ref 997), (1, .ref 1000), (2, .ref 1046), (3, .ref 1088), (4, .int l4)], [], hp g e)
                                                          exact H
                                                        · have H := H.2 c
                                                          refine And.intro (fun c => ?_) (fun c => ?_)
                                                          · have H := H.1 c
                                                            show zW (zE d) zm_L_law (hqi k X) (2018, [(0, .ref 997), (1, .ref 1000), (2, .ref 1046), (3, .ref 1088), (4, .int l4)], [], hp g e)
                                                            exact H
                                                          · have H := H.2 c
                                                            refine And.intro (fun c => ?_) (fun c => ?_)
                                                            · have H := H.1 c
                                                              show zW (zE d) zm_L_law (hqi k X) (2074, [(0, .ref 997), (1, .ref 1000), (2, .ref 1046), (3, .ref 1088), (4, .int l4)], [], hp g e)
                                                              exact H
                                                            · have H := H.2 c
                                                              refine And.intro (fun c => ?_) (fun c => ?_)
                                                              · have H := H.1 c
                                                                show zW (zE d) zm_L_law (hqi k X) (2130, [(0, .ref 997), (1, .ref 1000), (2, .ref 1046), (3, .ref 1088), (4, .int l4)], [], hp g e)
                                                                exact H
                                                              · have H := H.2 c
                                                                refine And.intro (fun c => ?_) (fun c => ?_)
                                                                · have H := H.1 c
                                                                  show zW (zE d) zm_L_law (hqi k X) (2141, [(0, .ref 997), (1, .ref 1000), (2, .ref 1046), (3, .ref 1088), (4, .int l4)], [], hp g e)
                                                                  exact H
                                                                · have H := H.2 c
                                                                  refine And.intro (fun c => ?_) (fun c => ?_)
                                                                  · have H := H.1 c
                                                                    show zW (zE d) zm_L_law (hqi k X) (2233, [(0, .ref 997), (1, .ref 1000), (2, .ref 1046), (3, .ref 1088), (4, .int l4)], [], hp g e)
                                                                    exact H
                                                                  · have H := H.2 c
                                                                    refine And.intro (fun c => ?_) (fun c => ?_)
                                                                    · have H := H.1 c
                                                                      show zW (zE d) zm_L_law (hqi k X) (2313, [(0, .ref 997), (1, .ref 1000), (2, .ref 1046), (3, .ref 1088), (4, .int l4)], [], hp g e)
                                                                      exact H
                                                                    · have H := H.2 c
                                                                      refine And.intro (fun c => ?_) (fun c => ?_)
                                                                      · have H := H.1 c
                                                                        show zW (zE d) zm_L_law (hqi k X) (2393, [(0, .ref 997), (1, .ref 1000), (2, .ref 1046), (3, .ref 1088), (4, .int l4)], [], hp g e)
                                                                        exact H
                                                                      · have H := H.2 c
                                                                        refine And.intro (fun c => ?_) (fun c => ?_)
                                                                        · have H := H.1 c
                                                                          show zW (zE d) zm_L_law (hqi k X) (2449, [(0, .ref 997), (1, .ref 1000), (2, .ref 1046), (3, .ref 1088), (4, .int l4)], [], hp g e)
                                                                          exact H
                                                                        · have H := H.2 c
                                                                          refine And.intro (fun c => ?_) (fun c => ?_)
                                                                          · have H := H.1 c
                                                                            show zW (zE d) zm_L_law (hqi k X) (2517, [(0, .ref 997), (1, .ref 1000), (2, .ref 1046), (3, .ref 1088), (4, .int l4)], [], hp g e)
                                                                            exact H
                                                                          · have H := H.2 c
                                                                            refine And.intro (fun c => ?_) (fun c => ?_)
                                                                            · have H := H.1 c
                                                                              show zW (zE d) zm_L_law (hqi k X) (2585, [(0, .ref 997), (1, .ref 1000), (2, .ref 1046), (3, .ref 1088), (4, .int l4)], [], hp g e)
                                                                              exact H
                                                                            · have H := H.2 c
                                                                              refine And.intro (fun c => ?_) (fun c => ?_)
                                                                              · have H := H.1 c
                                                                                show zW (zE d) zm_L_law (hqi k X) (2641, [(0, .ref 997), (1, .ref 1000), (2, .ref 1046), (3, .ref 1088), (4, .int l4)], [], hp g e)
                                                                                exact H
                                                                              · have H := H.2 c
                                                                                refine And.intro (fun c => ?_) (fun c => ?_)
                                                                                · have H := H.1 c
                                                                                  show zW (zE d) zm_L_law (hqi k X) (2709, [(0, .ref 997), (1, .ref 1000), (2, .ref 1046), (3, .ref 1088), (4, .int l4)], [], hp g e)
                                                                                  exact H
                                                                                · have H := H.2 c
                                                                                  refine And.intro (fun c => ?_) (fun c => ?_)
                                                                                  · have H := H.1 c
                                                                                    show zW (zE d) zm_L_law (hqi k X) (2720, [(0, .ref 997), (1, .ref 1000), (2, .ref 1046), (3, .ref 1088), (4, .int l4)], [], hp g e)
                                                                                    exact H
                                                                                  · have H := H.2 c
                                                                                    show zW (zE d) zm_L_law (hqi k X) (2733, [(0, .ref 997), (1, .ref 1000), (2, .ref 1046), (3, .ref 1088), (4, .int l4)], [], hp g e)
                                                                                    exact H
theorem zh_L_law_216 {d : Nat} {k : Int32 → hG → hE → Prop} {X : Nat → hG → hE → Prop} {l4 : Int32} {g : hG} {e : hE} (H :
    hin (l4 + 1) e.2.2.2 ∧
    hin (l4 + 2) e.2.2.2 ∧
    hin (l4 + 3) e.2.2.2 ∧
    hin (l4 + 4) e.2.2.2 ∧
    hin (l4 + 5) e.2.2.2 ∧
    hci d 144 [.ref 1000, .int (g.1 997 (l4 + 1).toNatClampNeg), .int (g.1 997 (l4 + 2).toNatClampNeg), .int (g.1 997 (l4 + 3).toNatClampNeg), .int (g.1 997 (l4 + 4).toNatClampNeg), .int (g.1 997 (l4 + 5).toNatClampNeg)] g e (fun x8 g6 e7 =>
      hin (l4 + 1) e7.2.2.2 ∧
      hin (l4 + 2) e7.2.2.2 ∧
      hin (l4 + 3) e7.2.2.2 ∧
      hin (l4 + 4) e7.2.2.2 ∧
      hin (l4 + 5) e7.2.2.2 ∧
      hci d 222 [.ref 1046, .int (g6.1 997 (l4 + 1).toNatClampNeg), .int (g6.1 997 (l4 + 2).toNatClampNeg), .int (g6.1 997 (l4 + 3).toNatClampNeg), .int (g6.1 997 (l4 + 4).toNatClampNeg), .int (g6.1 997 (l4 + 5).toNatClampNeg)] g6 e7 (fun x16 g14 e15 =>
        zbr (x8 = x16)
        (hwi d zm_L_law k X 2733 [(0, .ref 997), (1, .ref 1000), (2, .ref 1046), (3, .ref 1088), (4, .int l4)] g14 e15)
        (k 0 g14 e15)) X) X) : hwi d zm_L_law k X 216 [(0, .ref 997), (1, .ref 1000), (2, .ref 1046), (3, .ref 1088), (4, .int l4)] g e := by
  refine zq_aload (pc' := 217) rfl rfl rfl rfl ?_
  refine zq_aload (pc' := 218) rfl rfl rfl rfl ?_
  refine zq_iload (pc' := 220) rfl rfl rfl rfl ?_
  refine zq_ipush (pc' := 221) rfl rfl rfl ?_
  refine zq_iadd (pc' := 222) rfl rfl rfl ?_
  obtain ⟨hi1, H⟩ := H
  refine zq_iald (pc' := 223) rfl rfl rfl (hscB hi1) ?_
  refine zq_aload (pc' := 224) rfl rfl rfl rfl ?_
  refine zq_iload (pc' := 226) rfl rfl rfl rfl ?_
  refine zq_ipush (pc' := 227) rfl rfl rfl ?_
  refine zq_iadd (pc' := 228) rfl rfl rfl ?_
  obtain ⟨hi2, H⟩ := H
  refine zq_iald (pc' := 229) rfl rfl rfl (hscB hi2) ?_
  refine zq_aload (pc' := 230) rfl rfl rfl rfl ?_
  refine zq_iload (pc' := 232) rfl rfl rfl rfl ?_
  refine zq_ipush (pc' := 233) rfl rfl rfl ?_
  refine zq_iadd (pc' := 234) rfl rfl rfl ?_
  obtain ⟨hi3, H⟩ := H
  refine zq_iald (pc' := 235) rfl rfl rfl (hscB hi3) ?_
  refine zq_aload (pc' := 236) rfl rfl rfl rfl ?_
  refine zq_iload (pc' := 238) rfl rfl rfl rfl ?_
  refine zq_ipush (pc' := 239) rfl rfl rfl ?_
  refine zq_iadd (pc' := 240) rfl rfl rfl ?_
  obtain ⟨hi4, H⟩ := H
  refine zq_iald (pc' := 241) rfl rfl rfl (hscB hi4) ?_
  refine zq_aload (pc' := 242) rfl rfl rfl rfl ?_
  refine zq_iload (pc' := 244) rfl rfl rfl rfl ?_
  refine zq_ipush (pc' := 245) rfl rfl rfl ?_
  refine zq_iadd (pc' := 246) rfl rfl rfl ?_
  obtain ⟨hi5, H⟩ := H
  refine zq_iald (pc' := 247) rfl rfl rfl (hscB hi5) ?_
  refine hq_calli (pc' := 250) rfl rfl rfl rfl rfl rfl h_Xi ?_
  refine hmonoi H ?_
  intro x8 g6 e7 H
  refine zq_aload (pc' := 251) rfl rfl rfl rfl ?_
  refine zq_aload (pc' := 252) rfl rfl rfl rfl ?_
  refine zq_iload (pc' := 254) rfl rfl rfl rfl ?_
  refine zq_ipush (pc' := 255) rfl rfl rfl ?_
  refine zq_iadd (pc' := 256) rfl rfl rfl ?_
  obtain ⟨hi9, H⟩ := H
  refine zq_iald (pc' := 257) rfl rfl rfl (hscB hi9) ?_
  refine zq_aload (pc' := 258) rfl rfl rfl rfl ?_
  refine zq_iload (pc' := 260) rfl rfl rfl rfl ?_
  refine zq_ipush (pc' := 261) rfl rfl rfl ?_
  refine zq_iadd (pc' := 262) rfl rfl rfl ?_
  obtain ⟨hi10, H⟩ := H
  refine zq_iald (pc' := 263) rfl rfl rfl (hscB hi10) ?_
  refine zq_aload (pc' := 264) rfl rfl rfl rfl ?_
  refine zq_iload (pc' := 266) rfl rfl rfl rfl ?_
  refine zq_ipush (pc' := 267) rfl rfl rfl ?_
  refine zq_iadd (pc' := 268) rfl rfl rfl ?_
  obtain ⟨hi11, H⟩ := H
  refine zq_iald (pc' := 269) rfl rfl rfl (hscB hi11) ?_
  refine zq_aload (pc' := 270) rfl rfl rfl rfl ?_
  refine zq_iload (pc' := 272) rfl rfl rfl rfl ?_
  refine zq_ipush (pc' := 273) rfl rfl rfl ?_
  refine zq_iadd (pc' := 274) rfl rfl rfl ?_
  obtain ⟨hi12, H⟩ := H
  refine zq_iald (pc' := 275) rfl rfl rfl (hscB hi12) ?_
  refine zq_aload (pc' := 276) rfl rfl rfl rfl ?_
  refine zq_iload (pc' := 278) rfl rfl rfl rfl ?_
  refine zq_ipush (pc' := 279) rfl rfl rfl ?_
  refine zq_iadd (pc' := 280) rfl rfl rfl ?_
  obtain ⟨hi13, H⟩ := H
  refine zq_iald (pc' := 281) rfl rfl rfl (hscB hi13) ?_
  refine hq_calli (pc' := 284) rfl rfl rfl rfl rfl rfl h_Xi ?_
  refine hmonoi H ?_
  intro x16 g14 e15 H
  refine zq_iceq_c (pc' := 287) (lt := [(0, .ref 997), (1, .ref 1000), (2, .ref 1046), (3, .ref 1088), (4, .int l4)]) (lf := [(0, .ref 997), (1, .ref 1000), (2, .ref 1046), (3, .ref 1088), (4, .int l4)]) rfl rfl rfl rfl (And.intro (fun c => ?_) (fun c => ?_))
  · have H := H.1 c
    exact H
  · have H := H.2 c
    refine zq_ipush (pc' := 288) rfl rfl rfl ?_
    exact zq_iret rfl (Or.inl rfl) (Exists.intro _ (Exists.intro _ (And.intro rfl H)))
theorem zh_L_law_289 {d : Nat} {k : Int32 → hG → hE → Prop} {X : Nat → hG → hE → Prop} {l4 : Int32} {g : hG} {e : hE} (H :
    hin (l4 + 1) e.2.2.2 ∧
    hci d 332 [.ref 1000, .int (g.1 997 (l4 + 1).toNatClampNeg), .ref 1088] g e (fun x4 g2 e3 =>
      hin (l4 + 1) e3.2.2.2 ∧
      hci d 245 [.ref 1046, .int (g2.1 997 (l4 + 1).toNatClampNeg)] g2 e3 (fun x8 g6 e7 =>
        hci d 214 [.ref 1046] g6 e7 (fun x11 g9 e10 =>
          zbr (x11 = x4)
          (zbr (x4 = 0)
            (zbr ((lg_cmp (g9.2.1 1088 0) ((x8 : Int32).toInt64)) = 0)
              (hwi d zm_L_law k X 2733 [(0, .ref 997), (1, .ref 1000), (2, .ref 1046), (3, .ref 1088), (4, .int l4)] g9 e10)
              (k 0 g9 e10))
            (hwi d zm_L_law k X 2733 [(0, .ref 997), (1, .ref 1000), (2, .ref 1046), (3, .ref 1088), (4, .int l4)] g9 e10))
          (k 0 g9 e10)) X) X) X) : hwi d zm_L_law k X 289 [(0, .ref 997), (1, .ref 1000), (2, .ref 1046), (3, .ref 1088), (4, .int l4)] g e := by
  refine zq_aload (pc' := 290) rfl rfl rfl rfl ?_
  refine zq_aload (pc' := 291) rfl rfl rfl rfl ?_
  refine zq_iload (pc' := 293) rfl rfl rfl rfl ?_
  refine zq_ipush (pc' := 294) rfl rfl rfl ?_
  refine zq_iadd (pc' := 295) rfl rfl rfl ?_
  obtain ⟨hi1, H⟩ := H
  refine zq_iald (pc' := 296) rfl rfl rfl (hscB hi1) ?_
  refine zq_aload (pc' := 297) rfl rfl rfl rfl ?_
  refine hq_calli (pc' := 300) rfl rfl rfl rfl rfl rfl h_Xi ?_
  refine hmonoi H ?_
  intro x4 g2 e3 H
  refine zq_istore (pc' := 302) rfl rfl rfl ?_
  refine zq_aload (pc' := 303) rfl rfl rfl rfl ?_
  refine zq_aload (pc' := 304) rfl rfl rfl rfl ?_
  refine zq_iload (pc' := 306) rfl rfl rfl rfl ?_
  refine zq_ipush (pc' := 307) rfl rfl rfl ?_
  refine zq_iadd (pc' := 308) rfl rfl rfl ?_
  obtain ⟨hi5, H⟩ := H
  refine zq_iald (pc' := 309) rfl rfl rfl (hscB hi5) ?_
  refine hq_calli (pc' := 312) rfl rfl rfl rfl rfl rfl h_Xi ?_
  refine hmonoi H ?_
  intro x8 g6 e7 H
  refine zq_istore (pc' := 314) rfl rfl rfl ?_
  refine zq_aload (pc' := 315) rfl rfl rfl rfl ?_
  refine hq_calli (pc' := 318) rfl rfl rfl rfl rfl rfl h_Xi ?_
  refine hmonoi H ?_
  intro x11 g9 e10 H
  refine zq_iload (pc' := 320) rfl rfl rfl rfl ?_
  refine zq_iceq (pc' := 323) rfl rfl rfl rfl (And.intro (fun c => ?_) (fun c => ?_))
  · have H := H.1 c
    refine zq_iload (pc' := 327) rfl rfl rfl rfl ?_
    refine zq_ifne (pc' := 330) rfl rfl rfl rfl (And.intro (fun c => ?_) (fun c => ?_))
    · have H := H.1 c
      refine zq_aload (pc' := 331) rfl rfl rfl rfl ?_
      refine zq_ipush (pc' := 332) rfl rfl rfl ?_
      refine zq_lald (pc' := 333) rfl rfl rfl (hp_la rfl (by unfold hin; decide)) ?_
      refine zq_iload (pc' := 335) rfl rfl rfl rfl ?_
      refine zq_i2l (pc' := 336) rfl rfl rfl ?_
      refine zq_lcmp (pc' := 337) rfl rfl rfl ?_
      refine zq_ifeq (pc' := 340) rfl rfl rfl rfl (And.intro (fun c => ?_) (fun c => ?_))
      · have H := H.1 c
        refine zq_goto_c (pc' := 2733) rfl rfl ?_
        exact H
      · have H := H.2 c
        refine zq_ipush (pc' := 341) rfl rfl rfl ?_
        exact zq_iret rfl (Or.inl rfl) (Exists.intro _ (Exists.intro _ (And.intro rfl H)))
    · have H := H.2 c
      refine zq_goto_c (pc' := 2733) rfl rfl ?_
      exact H
  · have H := H.2 c
    refine zq_ipush (pc' := 324) rfl rfl rfl ?_
    exact zq_iret rfl (Or.inl rfl) (Exists.intro _ (Exists.intro _ (And.intro rfl H)))
theorem zh_L_law_345 {d : Nat} {k : Int32 → hG → hE → Prop} {X : Nat → hG → hE → Prop} {l4 : Int32} {g : hG} {e : hE} (H :
    hci d 147 [.ref 1000] g e (fun x3 g1 e2 =>
      hci d 248 [.ref 1046] g1 e2 (fun x6 g4 e5 =>
        zbr (x3 = x6)
        (hwi d zm_L_law k X 2733 [(0, .ref 997), (1, .ref 1000), (2, .ref 1046), (3, .ref 1088), (4, .int l4)] g4 e5)
        (k 0 g4 e5)) X) X) : hwi d zm_L_law k X 345 [(0, .ref 997), (1, .ref 1000), (2, .ref 1046), (3, .ref 1088), (4, .int l4)] g e := by
  refine zq_aload (pc' := 346) rfl rfl rfl rfl ?_
  refine hq_calli (pc' := 349) rfl rfl rfl rfl rfl rfl h_Xi ?_
  refine hmonoi H ?_
  intro x3 g1 e2 H
  refine zq_aload (pc' := 350) rfl rfl rfl rfl ?_
  refine hq_calli (pc' := 353) rfl rfl rfl rfl rfl rfl h_Xi ?_
  refine hmonoi H ?_
  intro x6 g4 e5 H
  refine zq_iceq_c (pc' := 356) (lt := [(0, .ref 997), (1, .ref 1000), (2, .ref 1046), (3, .ref 1088), (4, .int l4)]) (lf := [(0, .ref 997), (1, .ref 1000), (2, .ref 1046), (3, .ref 1088), (4, .int l4)]) rfl rfl rfl rfl (And.intro (fun c => ?_) (fun c => ?_))
  · have H := H.1 c
    exact H
  · have H := H.2 c
    refine zq_ipush (pc' := 357) rfl rfl rfl ?_
    exact zq_iret rfl (Or.inl rfl) (Exists.intro _ (Exists.intro _ (And.intro rfl H)))
theorem zh_L_law_358 {d : Nat} {k : Int32 → hG → hE → Prop} {X : Nat → hG → hE → Prop} {l4 : Int32} {g : hG} {e : hE} (H :
    hin (l4 + 1) e.2.2.2 ∧
    hci d 333 [.ref 1000, .int (g.1 997 (l4 + 1).toNatClampNeg), .ref 1088] g e (fun x4 g2 e3 =>
      hin (l4 + 1) e3.2.2.2 ∧
      hci d 274 [.ref 1046, .int (g2.1 997 (l4 + 1).toNatClampNeg)] g2 e3 (fun x8 g6 e7 =>
        hci d 214 [.ref 1046] g6 e7 (fun x11 g9 e10 =>
          zbr (x11 = x4)
          (zbr (x4 = 0)
            (zbr ((lg_cmp (g9.2.1 1088 0) ((x8 : Int32).toInt64)) = 0)
              (hwi d zm_L_law k X 2733 [(0, .ref 997), (1, .ref 1000), (2, .ref 1046), (3, .ref 1088), (4, .int l4)] g9 e10)
              (k 0 g9 e10))
            (hwi d zm_L_law k X 2733 [(0, .ref 997), (1, .ref 1000), (2, .ref 1046), (3, .ref 1088), (4, .int l4)] g9 e10))
          (k 0 g9 e10)) X) X) X) : hwi d zm_L_law k X 358 [(0, .ref 997), (1, .ref 1000), (2, .ref 1046), (3, .ref 1088), (4, .int l4)] g e := by
  refine zq_aload (pc' := 359) rfl rfl rfl rfl ?_
  refine zq_aload (pc' := 360) rfl rfl rfl rfl ?_
  refine zq_iload (pc' := 362) rfl rfl rfl rfl ?_
  refine zq_ipush (pc' := 363) rfl rfl rfl ?_
  refine zq_iadd (pc' := 364) rfl rfl rfl ?_
  obtain ⟨hi1, H⟩ := H
  refine zq_iald (pc' := 365) rfl rfl rfl (hscB hi1) ?_
  refine zq_aload (pc' := 366) rfl rfl rfl rfl ?_
  refine hq_calli (pc' := 369) rfl rfl rfl rfl rfl rfl h_Xi ?_
  refine hmonoi H ?_
  intro x4 g2 e3 H
  refine zq_istore (pc' := 371) rfl rfl rfl ?_
  refine zq_aload (pc' := 372) rfl rfl rfl rfl ?_
  refine zq_aload (pc' := 373) rfl rfl rfl rfl ?_
  refine zq_iload (pc' := 375) rfl rfl rfl rfl ?_
  refine zq_ipush (pc' := 376) rfl rfl rfl ?_
  refine zq_iadd (pc' := 377) rfl rfl rfl ?_
  obtain ⟨hi5, H⟩ := H
  refine zq_iald (pc' := 378) rfl rfl rfl (hscB hi5) ?_
  refine hq_calli (pc' := 381) rfl rfl rfl rfl rfl rfl h_Xi ?_
  refine hmonoi H ?_
  intro x8 g6 e7 H
  refine zq_istore (pc' := 383) rfl rfl rfl ?_
  refine zq_aload (pc' := 384) rfl rfl rfl rfl ?_
  refine hq_calli (pc' := 387) rfl rfl rfl rfl rfl rfl h_Xi ?_
  refine hmonoi H ?_
  intro x11 g9 e10 H
  refine zq_iload (pc' := 389) rfl rfl rfl rfl ?_
  refine zq_iceq (pc' := 392) rfl rfl rfl rfl (And.intro (fun c => ?_) (fun c => ?_))
  · have H := H.1 c
    refine zq_iload (pc' := 396) rfl rfl rfl rfl ?_
    refine zq_ifne (pc' := 399) rfl rfl rfl rfl (And.intro (fun c => ?_) (fun c => ?_))
    · have H := H.1 c
      refine zq_aload (pc' := 400) rfl rfl rfl rfl ?_
      refine zq_ipush (pc' := 401) rfl rfl rfl ?_
      refine zq_lald (pc' := 402) rfl rfl rfl (hp_la rfl (by unfold hin; decide)) ?_
      refine zq_iload (pc' := 404) rfl rfl rfl rfl ?_
      refine zq_i2l (pc' := 405) rfl rfl rfl ?_
      refine zq_lcmp (pc' := 406) rfl rfl rfl ?_
      refine zq_ifeq (pc' := 409) rfl rfl rfl rfl (And.intro (fun c => ?_) (fun c => ?_))
      · have H := H.1 c
        refine zq_goto_c (pc' := 2733) rfl rfl ?_
        exact H
      · have H := H.2 c
        refine zq_ipush (pc' := 410) rfl rfl rfl ?_
        exact zq_iret rfl (Or.inl rfl) (Exists.intro _ (Exists.intro _ (And.intro rfl H)))
    · have H := H.2 c
      refine zq_goto_c (pc' := 2733) rfl rfl ?_
      exact H
  · have H := H.2 c
    refine zq_ipush (pc' := 393) rfl rfl rfl ?_
    exact zq_iret rfl (Or.inl rfl) (Exists.intro _ (Exists.intro _ (And.intro rfl H)))
theorem zh_L_law_414 {d : Nat} {k : Int32 → hG → hE → Prop} {X : Nat → hG → hE → Prop} {l4 : Int32} {g : hG} {e : hE} (H :
    hin (l4 + 1) e.2.2.2 ∧
    hin (l4 + 2) e.2.2.2 ∧
    hci d 334 [.ref 1000, .int (g.1 997 (l4 + 1).toNatClampNeg), .int (g.1 997 (l4 + 2).toNatClampNeg), .ref 1088] g e (fun x5 g3 e4 =>
      hin (l4 + 1) e4.2.2.2 ∧
      hin (l4 + 2) e4.2.2.2 ∧
      hci d 275 [.ref 1046, .int (g3.1 997 (l4 + 1).toNatClampNeg), .int (g3.1 997 (l4 + 2).toNatClampNeg)] g3 e4 (fun x10 g8 e9 =>
        hci d 214 [.ref 1046] g8 e9 (fun x13 g11 e12 =>
          zbr (x13 = x5)
          (zbr (x5 = 0)
            (zbr ((lg_cmp (g11.2.1 1088 0) ((x10 : Int32).toInt64)) = 0)
              (hwi d zm_L_law k X 2733 [(0, .ref 997), (1, .ref 1000), (2, .ref 1046), (3, .ref 1088), (4, .int l4)] g11 e12)
              (k 0 g11 e12))
            (hwi d zm_L_law k X 2733 [(0, .ref 997), (1, .ref 1000), (2, .ref 1046), (3, .ref 1088), (4, .int l4)] g11 e12))
          (k 0 g11 e12)) X) X) X) : hwi d zm_L_law k X 414 [(0, .ref 997), (1, .ref 1000), (2, .ref 1046), (3, .ref 1088), (4, .int l4)] g e := by
  refine zq_aload (pc' := 415) rfl rfl rfl rfl ?_
  refine zq_aload (pc' := 416) rfl rfl rfl rfl ?_
  refine zq_iload (pc' := 418) rfl rfl rfl rfl ?_
  refine zq_ipush (pc' := 419) rfl rfl rfl ?_
  refine zq_iadd (pc' := 420) rfl rfl rfl ?_
  obtain ⟨hi1, H⟩ := H
  refine zq_iald (pc' := 421) rfl rfl rfl (hscB hi1) ?_
  refine zq_aload (pc' := 422) rfl rfl rfl rfl ?_
  refine zq_iload (pc' := 424) rfl rfl rfl rfl ?_
  refine zq_ipush (pc' := 425) rfl rfl rfl ?_
  refine zq_iadd (pc' := 426) rfl rfl rfl ?_
  obtain ⟨hi2, H⟩ := H
  refine zq_iald (pc' := 427) rfl rfl rfl (hscB hi2) ?_
  refine zq_aload (pc' := 428) rfl rfl rfl rfl ?_
  refine hq_calli (pc' := 431) rfl rfl rfl rfl rfl rfl h_Xi ?_
  refine hmonoi H ?_
  intro x5 g3 e4 H
  refine zq_istore (pc' := 433) rfl rfl rfl ?_
  refine zq_aload (pc' := 434) rfl rfl rfl rfl ?_
  refine zq_aload (pc' := 435) rfl rfl rfl rfl ?_
  refine zq_iload (pc' := 437) rfl rfl rfl rfl ?_
  refine zq_ipush (pc' := 438) rfl rfl rfl ?_
  refine zq_iadd (pc' := 439) rfl rfl rfl ?_
  obtain ⟨hi6, H⟩ := H
  refine zq_iald (pc' := 440) rfl rfl rfl (hscB hi6) ?_
  refine zq_aload (pc' := 441) rfl rfl rfl rfl ?_
  refine zq_iload (pc' := 443) rfl rfl rfl rfl ?_
  refine zq_ipush (pc' := 444) rfl rfl rfl ?_
  refine zq_iadd (pc' := 445) rfl rfl rfl ?_
  obtain ⟨hi7, H⟩ := H
  refine zq_iald (pc' := 446) rfl rfl rfl (hscB hi7) ?_
  refine hq_calli (pc' := 449) rfl rfl rfl rfl rfl rfl h_Xi ?_
  refine hmonoi H ?_
  intro x10 g8 e9 H
  refine zq_istore (pc' := 451) rfl rfl rfl ?_
  refine zq_aload (pc' := 452) rfl rfl rfl rfl ?_
  refine hq_calli (pc' := 455) rfl rfl rfl rfl rfl rfl h_Xi ?_
  refine hmonoi H ?_
  intro x13 g11 e12 H
  refine zq_iload (pc' := 457) rfl rfl rfl rfl ?_
  refine zq_iceq (pc' := 460) rfl rfl rfl rfl (And.intro (fun c => ?_) (fun c => ?_))
  · have H := H.1 c
    refine zq_iload (pc' := 464) rfl rfl rfl rfl ?_
    refine zq_ifne (pc' := 467) rfl rfl rfl rfl (And.intro (fun c => ?_) (fun c => ?_))
    · have H := H.1 c
      refine zq_aload (pc' := 468) rfl rfl rfl rfl ?_
      refine zq_ipush (pc' := 469) rfl rfl rfl ?_
      refine zq_lald (pc' := 470) rfl rfl rfl (hp_la rfl (by unfold hin; decide)) ?_
      refine zq_iload (pc' := 472) rfl rfl rfl rfl ?_
      refine zq_i2l (pc' := 473) rfl rfl rfl ?_
      refine zq_lcmp (pc' := 474) rfl rfl rfl ?_
      refine zq_ifeq (pc' := 477) rfl rfl rfl rfl (And.intro (fun c => ?_) (fun c => ?_))
      · have H := H.1 c
        refine zq_goto_c (pc' := 2733) rfl rfl ?_
        exact H
      · have H := H.2 c
        refine zq_ipush (pc' := 478) rfl rfl rfl ?_
        exact zq_iret rfl (Or.inl rfl) (Exists.intro _ (Exists.intro _ (And.intro rfl H)))
    · have H := H.2 c
      refine zq_goto_c (pc' := 2733) rfl rfl ?_
      exact H
  · have H := H.2 c
    refine zq_ipush (pc' := 461) rfl rfl rfl ?_
    exact zq_iret rfl (Or.inl rfl) (Exists.intro _ (Exists.intro _ (And.intro rfl H)))
theorem zh_L_law_482 {d : Nat} {k : Int32 → hG → hE → Prop} {X : Nat → hG → hE → Prop} {l4 : Int32} {g : hG} {e : hE} (H :
    hin (l4 + 1) e.2.2.2 ∧
    hin (l4 + 2) e.2.2.2 ∧
    hin (l4 + 3) e.2.2.2 ∧
    hci d 335 [.ref 1000, .int (g.1 997 (l4 + 1).toNatClampNeg), .int (g.1 997 (l4 + 2).toNatClampNeg), .int (g.1 997 (l4 + 3).toNatClampNeg), .ref 1088] g e (fun x6 g4 e5 =>
      hin (l4 + 1) e5.2.2.2 ∧
      hin (l4 + 2) e5.2.2.2 ∧
      hin (l4 + 3) e5.2.2.2 ∧
      hci d 276 [.ref 1046, .int (g4.1 997 (l4 + 1).toNatClampNeg), .int (g4.1 997 (l4 + 2).toNatClampNeg), .int (g4.1 997 (l4 + 3).toNatClampNeg)] g4 e5 (fun x12 g10 e11 =>
        hci d 214 [.ref 1046] g10 e11 (fun x15 g13 e14 =>
          zbr (x15 = x6)
          (zbr (x6 = 0)
            (zbr ((lg_cmp (g13.2.1 1088 0) ((x12 : Int32).toInt64)) = 0)
              (hwi d zm_L_law k X 2733 [(0, .ref 997), (1, .ref 1000), (2, .ref 1046), (3, .ref 1088), (4, .int l4)] g13 e14)
              (k 0 g13 e14))
            (hwi d zm_L_law k X 2733 [(0, .ref 997), (1, .ref 1000), (2, .ref 1046), (3, .ref 1088), (4, .int l4)] g13 e14))
          (k 0 g13 e14)) X) X) X) : hwi d zm_L_law k X 482 [(0, .ref 997), (1, .ref 1000), (2, .ref 1046), (3, .ref 1088), (4, .int l4)] g e := by
  refine zq_aload (pc' := 483) rfl rfl rfl rfl ?_
  refine zq_aload (pc' := 484) rfl rfl rfl rfl ?_
  refine zq_iload (pc' := 486) rfl rfl rfl rfl ?_
  refine zq_ipush (pc' := 487) rfl rfl rfl ?_
  refine zq_iadd (pc' := 488) rfl rfl rfl ?_
  obtain ⟨hi1, H⟩ := H
  refine zq_iald (pc' := 489) rfl rfl rfl (hscB hi1) ?_
  refine zq_aload (pc' := 490) rfl rfl rfl rfl ?_
  refine zq_iload (pc' := 492) rfl rfl rfl rfl ?_
  refine zq_ipush (pc' := 493) rfl rfl rfl ?_
  refine zq_iadd (pc' := 494) rfl rfl rfl ?_
  obtain ⟨hi2, H⟩ := H
  refine zq_iald (pc' := 495) rfl rfl rfl (hscB hi2) ?_
  refine zq_aload (pc' := 496) rfl rfl rfl rfl ?_
  refine zq_iload (pc' := 498) rfl rfl rfl rfl ?_
  refine zq_ipush (pc' := 499) rfl rfl rfl ?_
  refine zq_iadd (pc' := 500) rfl rfl rfl ?_
  obtain ⟨hi3, H⟩ := H
  refine zq_iald (pc' := 501) rfl rfl rfl (hscB hi3) ?_
  refine zq_aload (pc' := 502) rfl rfl rfl rfl ?_
  refine hq_calli (pc' := 505) rfl rfl rfl rfl rfl rfl h_Xi ?_
  refine hmonoi H ?_
  intro x6 g4 e5 H
  refine zq_istore (pc' := 507) rfl rfl rfl ?_
  refine zq_aload (pc' := 508) rfl rfl rfl rfl ?_
  refine zq_aload (pc' := 509) rfl rfl rfl rfl ?_
  refine zq_iload (pc' := 511) rfl rfl rfl rfl ?_
  refine zq_ipush (pc' := 512) rfl rfl rfl ?_
  refine zq_iadd (pc' := 513) rfl rfl rfl ?_
  obtain ⟨hi7, H⟩ := H
  refine zq_iald (pc' := 514) rfl rfl rfl (hscB hi7) ?_
  refine zq_aload (pc' := 515) rfl rfl rfl rfl ?_
  refine zq_iload (pc' := 517) rfl rfl rfl rfl ?_
  refine zq_ipush (pc' := 518) rfl rfl rfl ?_
  refine zq_iadd (pc' := 519) rfl rfl rfl ?_
  obtain ⟨hi8, H⟩ := H
  refine zq_iald (pc' := 520) rfl rfl rfl (hscB hi8) ?_
  refine zq_aload (pc' := 521) rfl rfl rfl rfl ?_
  refine zq_iload (pc' := 523) rfl rfl rfl rfl ?_
  refine zq_ipush (pc' := 524) rfl rfl rfl ?_
  refine zq_iadd (pc' := 525) rfl rfl rfl ?_
  obtain ⟨hi9, H⟩ := H
  refine zq_iald (pc' := 526) rfl rfl rfl (hscB hi9) ?_
  refine hq_calli (pc' := 529) rfl rfl rfl rfl rfl rfl h_Xi ?_
  refine hmonoi H ?_
  intro x12 g10 e11 H
  refine zq_istore (pc' := 531) rfl rfl rfl ?_
  refine zq_aload (pc' := 532) rfl rfl rfl rfl ?_
  refine hq_calli (pc' := 535) rfl rfl rfl rfl rfl rfl h_Xi ?_
  refine hmonoi H ?_
  intro x15 g13 e14 H
  refine zq_iload (pc' := 537) rfl rfl rfl rfl ?_
  refine zq_iceq (pc' := 540) rfl rfl rfl rfl (And.intro (fun c => ?_) (fun c => ?_))
  · have H := H.1 c
    refine zq_iload (pc' := 544) rfl rfl rfl rfl ?_
    refine zq_ifne (pc' := 547) rfl rfl rfl rfl (And.intro (fun c => ?_) (fun c => ?_))
    · have H := H.1 c
      refine zq_aload (pc' := 548) rfl rfl rfl rfl ?_
      refine zq_ipush (pc' := 549) rfl rfl rfl ?_
      refine zq_lald (pc' := 550) rfl rfl rfl (hp_la rfl (by unfold hin; decide)) ?_
      refine zq_iload (pc' := 552) rfl rfl rfl rfl ?_
      refine zq_i2l (pc' := 553) rfl rfl rfl ?_
      refine zq_lcmp (pc' := 554) rfl rfl rfl ?_
      refine zq_ifeq (pc' := 557) rfl rfl rfl rfl (And.intro (fun c => ?_) (fun c => ?_))
      · have H := H.1 c
        refine zq_goto_c (pc' := 2733) rfl rfl ?_
        exact H
      · have H := H.2 c
        refine zq_ipush (pc' := 558) rfl rfl rfl ?_
        exact zq_iret rfl (Or.inl rfl) (Exists.intro _ (Exists.intro _ (And.intro rfl H)))
    · have H := H.2 c
      refine zq_goto_c (pc' := 2733) rfl rfl ?_
      exact H
  · have H := H.2 c
    refine zq_ipush (pc' := 541) rfl rfl rfl ?_
    exact zq_iret rfl (Or.inl rfl) (Exists.intro _ (Exists.intro _ (And.intro rfl H)))
theorem zh_L_law_562 {d : Nat} {k : Int32 → hG → hE → Prop} {X : Nat → hG → hE → Prop} {l4 : Int32} {g : hG} {e : hE} (H :
    hin (l4 + 1) e.2.2.2 ∧
    hci d 155 [.ref 1000, .int (g.1 997 (l4 + 1).toNatClampNeg)] g e (fun x4 g2 e3 =>
      hin (l4 + 1) e3.2.2.2 ∧
      hci d 279 [.ref 1046, .int (g2.1 997 (l4 + 1).toNatClampNeg)] g2 e3 (fun x8 g6 e7 =>
        zbr (x4 = x8)
        (hwi d zm_L_law k X 2733 [(0, .ref 997), (1, .ref 1000), (2, .ref 1046), (3, .ref 1088), (4, .int l4)] g6 e7)
        (k 0 g6 e7)) X) X) : hwi d zm_L_law k X 562 [(0, .ref 997), (1, .ref 1000), (2, .ref 1046), (3, .ref 1088), (4, .int l4)] g e := by
  refine zq_aload (pc' := 563) rfl rfl rfl rfl ?_
  refine zq_aload (pc' := 564) rfl rfl rfl rfl ?_
  refine zq_iload (pc' := 566) rfl rfl rfl rfl ?_
  refine zq_ipush (pc' := 567) rfl rfl rfl ?_
  refine zq_iadd (pc' := 568) rfl rfl rfl ?_
  obtain ⟨hi1, H⟩ := H
  refine zq_iald (pc' := 569) rfl rfl rfl (hscB hi1) ?_
  refine hq_calli (pc' := 572) rfl rfl rfl rfl rfl rfl h_Xi ?_
  refine hmonoi H ?_
  intro x4 g2 e3 H
  refine zq_aload (pc' := 573) rfl rfl rfl rfl ?_
  refine zq_aload (pc' := 574) rfl rfl rfl rfl ?_
  refine zq_iload (pc' := 576) rfl rfl rfl rfl ?_
  refine zq_ipush (pc' := 577) rfl rfl rfl ?_
  refine zq_iadd (pc' := 578) rfl rfl rfl ?_
  obtain ⟨hi5, H⟩ := H
  refine zq_iald (pc' := 579) rfl rfl rfl (hscB hi5) ?_
  refine hq_calli (pc' := 582) rfl rfl rfl rfl rfl rfl h_Xi ?_
  refine hmonoi H ?_
  intro x8 g6 e7 H
  refine zq_iceq_c (pc' := 585) (lt := [(0, .ref 997), (1, .ref 1000), (2, .ref 1046), (3, .ref 1088), (4, .int l4)]) (lf := [(0, .ref 997), (1, .ref 1000), (2, .ref 1046), (3, .ref 1088), (4, .int l4)]) rfl rfl rfl rfl (And.intro (fun c => ?_) (fun c => ?_))
  · have H := H.1 c
    exact H
  · have H := H.2 c
    refine zq_ipush (pc' := 586) rfl rfl rfl ?_
    exact zq_iret rfl (Or.inl rfl) (Exists.intro _ (Exists.intro _ (And.intro rfl H)))
theorem zh_L_law_587 {d : Nat} {k : Int32 → hG → hE → Prop} {X : Nat → hG → hE → Prop} {l4 : Int32} {g : hG} {e : hE} (H :
    hin (l4 + 1) e.2.2.2 ∧
    hin (l4 + 2) e.2.2.2 ∧
    hci d 336 [.ref 1000, .int (g.1 997 (l4 + 1).toNatClampNeg), .int (g.1 997 (l4 + 2).toNatClampNeg), .ref 1088] g e (fun x5 g3 e4 =>
      hin (l4 + 1) e4.2.2.2 ∧
      hin (l4 + 2) e4.2.2.2 ∧
      hci d 280 [.ref 1046, .int (g3.1 997 (l4 + 1).toNatClampNeg), .int (g3.1 997 (l4 + 2).toNatClampNeg)] g3 e4 (fun x10 g8 e9 =>
        hci d 214 [.ref 1046] g8 e9 (fun x13 g11 e12 =>
          zbr (x13 = x5)
          (zbr (x5 = 0)
            (zbr ((lg_cmp (g11.2.1 1088 0) ((x10 : Int32).toInt64)) = 0)
              (hwi d zm_L_law k X 2733 [(0, .ref 997), (1, .ref 1000), (2, .ref 1046), (3, .ref 1088), (4, .int l4)] g11 e12)
              (k 0 g11 e12))
            (hwi d zm_L_law k X 2733 [(0, .ref 997), (1, .ref 1000), (2, .ref 1046), (3, .ref 1088), (4, .int l4)] g11 e12))
          (k 0 g11 e12)) X) X) X) : hwi d zm_L_law k X 587 [(0, .ref 997), (1, .ref 1000), (2, .ref 1046), (3, .ref 1088), (4, .int l4)] g e := by
  refine zq_aload (pc' := 588) rfl rfl rfl rfl ?_
  refine zq_aload (pc' := 589) rfl rfl rfl rfl ?_
  refine zq_iload (pc' := 591) rfl rfl rfl rfl ?_
  refine zq_ipush (pc' := 592) rfl rfl rfl ?_
  refine zq_iadd (pc' := 593) rfl rfl rfl ?_
  obtain ⟨hi1, H⟩ := H
  refine zq_iald (pc' := 594) rfl rfl rfl (hscB hi1) ?_
  refine zq_aload (pc' := 595) rfl rfl rfl rfl ?_
  refine zq_iload (pc' := 597) rfl rfl rfl rfl ?_
  refine zq_ipush (pc' := 598) rfl rfl rfl ?_
  refine zq_iadd (pc' := 599) rfl rfl rfl ?_
  obtain ⟨hi2, H⟩ := H
  refine zq_iald (pc' := 600) rfl rfl rfl (hscB hi2) ?_
  refine zq_aload (pc' := 601) rfl rfl rfl rfl ?_
  refine hq_calli (pc' := 604) rfl rfl rfl rfl rfl rfl h_Xi ?_
  refine hmonoi H ?_
  intro x5 g3 e4 H
  refine zq_istore (pc' := 606) rfl rfl rfl ?_
  refine zq_aload (pc' := 607) rfl rfl rfl rfl ?_
  refine zq_aload (pc' := 608) rfl rfl rfl rfl ?_
  refine zq_iload (pc' := 610) rfl rfl rfl rfl ?_
  refine zq_ipush (pc' := 611) rfl rfl rfl ?_
  refine zq_iadd (pc' := 612) rfl rfl rfl ?_
  obtain ⟨hi6, H⟩ := H
  refine zq_iald (pc' := 613) rfl rfl rfl (hscB hi6) ?_
  refine zq_aload (pc' := 614) rfl rfl rfl rfl ?_
  refine zq_iload (pc' := 616) rfl rfl rfl rfl ?_
  refine zq_ipush (pc' := 617) rfl rfl rfl ?_
  refine zq_iadd (pc' := 618) rfl rfl rfl ?_
  obtain ⟨hi7, H⟩ := H
  refine zq_iald (pc' := 619) rfl rfl rfl (hscB hi7) ?_
  refine hq_calli (pc' := 622) rfl rfl rfl rfl rfl rfl h_Xi ?_
  refine hmonoi H ?_
  intro x10 g8 e9 H
  refine zq_istore (pc' := 624) rfl rfl rfl ?_
  refine zq_aload (pc' := 625) rfl rfl rfl rfl ?_
  refine hq_calli (pc' := 628) rfl rfl rfl rfl rfl rfl h_Xi ?_
  refine hmonoi H ?_
  intro x13 g11 e12 H
  refine zq_iload (pc' := 630) rfl rfl rfl rfl ?_
  refine zq_iceq (pc' := 633) rfl rfl rfl rfl (And.intro (fun c => ?_) (fun c => ?_))
  · have H := H.1 c
    refine zq_iload (pc' := 637) rfl rfl rfl rfl ?_
    refine zq_ifne (pc' := 640) rfl rfl rfl rfl (And.intro (fun c => ?_) (fun c => ?_))
    · have H := H.1 c
      refine zq_aload (pc' := 641) rfl rfl rfl rfl ?_
      refine zq_ipush (pc' := 642) rfl rfl rfl ?_
      refine zq_lald (pc' := 643) rfl rfl rfl (hp_la rfl (by unfold hin; decide)) ?_
      refine zq_iload (pc' := 645) rfl rfl rfl rfl ?_
      refine zq_i2l (pc' := 646) rfl rfl rfl ?_
      refine zq_lcmp (pc' := 647) rfl rfl rfl ?_
      refine zq_ifeq (pc' := 650) rfl rfl rfl rfl (And.intro (fun c => ?_) (fun c => ?_))
      · have H := H.1 c
        refine zq_goto_c (pc' := 2733) rfl rfl ?_
        exact H
      · have H := H.2 c
        refine zq_ipush (pc' := 651) rfl rfl rfl ?_
        exact zq_iret rfl (Or.inl rfl) (Exists.intro _ (Exists.intro _ (And.intro rfl H)))
    · have H := H.2 c
      refine zq_goto_c (pc' := 2733) rfl rfl ?_
      exact H
  · have H := H.2 c
    refine zq_ipush (pc' := 634) rfl rfl rfl ?_
    exact zq_iret rfl (Or.inl rfl) (Exists.intro _ (Exists.intro _ (And.intro rfl H)))
theorem zh_L_law_655 {d : Nat} {k : Int32 → hG → hE → Prop} {X : Nat → hG → hE → Prop} {l4 : Int32} {g : hG} {e : hE} (H :
    hin (l4 + 1) e.2.2.2 ∧
    hin (l4 + 2) e.2.2.2 ∧
    hin (l4 + 3) e.2.2.2 ∧
    hci d 337 [.ref 1000, .int (g.1 997 (l4 + 1).toNatClampNeg), .int (g.1 997 (l4 + 2).toNatClampNeg), .int (g.1 997 (l4 + 3).toNatClampNeg), .ref 1088] g e (fun x6 g4 e5 =>
      hin (l4 + 1) e5.2.2.2 ∧
      hin (l4 + 2) e5.2.2.2 ∧
      hin (l4 + 3) e5.2.2.2 ∧
      hci d 282 [.ref 1046, .int (g4.1 997 (l4 + 1).toNatClampNeg), .int (g4.1 997 (l4 + 2).toNatClampNeg), .int (g4.1 997 (l4 + 3).toNatClampNeg)] g4 e5 (fun x12 g10 e11 =>
        hci d 214 [.ref 1046] g10 e11 (fun x15 g13 e14 =>
          zbr (x15 = x6)
          (zbr (x6 = 0)
            (zbr ((lg_cmp (g13.2.1 1088 0) ((x12 : Int32).toInt64)) = 0)
              (hwi d zm_L_law k X 2733 [(0, .ref 997), (1, .ref 1000), (2, .ref 1046), (3, .ref 1088), (4, .int l4)] g13 e14)
              (k 0 g13 e14))
            (hwi d zm_L_law k X 2733 [(0, .ref 997), (1, .ref 1000), (2, .ref 1046), (3, .ref 1088), (4, .int l4)] g13 e14))
          (k 0 g13 e14)) X) X) X) : hwi d zm_L_law k X 655 [(0, .ref 997), (1, .ref 1000), (2, .ref 1046), (3, .ref 1088), (4, .int l4)] g e := by
  refine zq_aload (pc' := 656) rfl rfl rfl rfl ?_
  refine zq_aload (pc' := 657) rfl rfl rfl rfl ?_
  refine zq_iload (pc' := 659) rfl rfl rfl rfl ?_
  refine zq_ipush (pc' := 660) rfl rfl rfl ?_
  refine zq_iadd (pc' := 661) rfl rfl rfl ?_
  obtain ⟨hi1, H⟩ := H
  refine zq_iald (pc' := 662) rfl rfl rfl (hscB hi1) ?_
  refine zq_aload (pc' := 663) rfl rfl rfl rfl ?_
  refine zq_iload (pc' := 665) rfl rfl rfl rfl ?_
  refine zq_ipush (pc' := 666) rfl rfl rfl ?_
  refine zq_iadd (pc' := 667) rfl rfl rfl ?_
  obtain ⟨hi2, H⟩ := H
  refine zq_iald (pc' := 668) rfl rfl rfl (hscB hi2) ?_
  refine zq_aload (pc' := 669) rfl rfl rfl rfl ?_
  refine zq_iload (pc' := 671) rfl rfl rfl rfl ?_
  refine zq_ipush (pc' := 672) rfl rfl rfl ?_
  refine zq_iadd (pc' := 673) rfl rfl rfl ?_
  obtain ⟨hi3, H⟩ := H
  refine zq_iald (pc' := 674) rfl rfl rfl (hscB hi3) ?_
  refine zq_aload (pc' := 675) rfl rfl rfl rfl ?_
  refine hq_calli (pc' := 678) rfl rfl rfl rfl rfl rfl h_Xi ?_
  refine hmonoi H ?_
  intro x6 g4 e5 H
  refine zq_istore (pc' := 680) rfl rfl rfl ?_
  refine zq_aload (pc' := 681) rfl rfl rfl rfl ?_
  refine zq_aload (pc' := 682) rfl rfl rfl rfl ?_
  refine zq_iload (pc' := 684) rfl rfl rfl rfl ?_
  refine zq_ipush (pc' := 685) rfl rfl rfl ?_
  refine zq_iadd (pc' := 686) rfl rfl rfl ?_
  obtain ⟨hi7, H⟩ := H
  refine zq_iald (pc' := 687) rfl rfl rfl (hscB hi7) ?_
  refine zq_aload (pc' := 688) rfl rfl rfl rfl ?_
  refine zq_iload (pc' := 690) rfl rfl rfl rfl ?_
  refine zq_ipush (pc' := 691) rfl rfl rfl ?_
  refine zq_iadd (pc' := 692) rfl rfl rfl ?_
  obtain ⟨hi8, H⟩ := H
  refine zq_iald (pc' := 693) rfl rfl rfl (hscB hi8) ?_
  refine zq_aload (pc' := 694) rfl rfl rfl rfl ?_
  refine zq_iload (pc' := 696) rfl rfl rfl rfl ?_
  refine zq_ipush (pc' := 697) rfl rfl rfl ?_
  refine zq_iadd (pc' := 698) rfl rfl rfl ?_
  obtain ⟨hi9, H⟩ := H
  refine zq_iald (pc' := 699) rfl rfl rfl (hscB hi9) ?_
  refine hq_calli (pc' := 702) rfl rfl rfl rfl rfl rfl h_Xi ?_
  refine hmonoi H ?_
  intro x12 g10 e11 H
  refine zq_istore (pc' := 704) rfl rfl rfl ?_
  refine zq_aload (pc' := 705) rfl rfl rfl rfl ?_
  refine hq_calli (pc' := 708) rfl rfl rfl rfl rfl rfl h_Xi ?_
  refine hmonoi H ?_
  intro x15 g13 e14 H
  refine zq_iload (pc' := 710) rfl rfl rfl rfl ?_
  refine zq_iceq (pc' := 713) rfl rfl rfl rfl (And.intro (fun c => ?_) (fun c => ?_))
  · have H := H.1 c
    refine zq_iload (pc' := 717) rfl rfl rfl rfl ?_
    refine zq_ifne (pc' := 720) rfl rfl rfl rfl (And.intro (fun c => ?_) (fun c => ?_))
    · have H := H.1 c
      refine zq_aload (pc' := 721) rfl rfl rfl rfl ?_
      refine zq_ipush (pc' := 722) rfl rfl rfl ?_
      refine zq_lald (pc' := 723) rfl rfl rfl (hp_la rfl (by unfold hin; decide)) ?_
      refine zq_iload (pc' := 725) rfl rfl rfl rfl ?_
      refine zq_i2l (pc' := 726) rfl rfl rfl ?_
      refine zq_lcmp (pc' := 727) rfl rfl rfl ?_
      refine zq_ifeq (pc' := 730) rfl rfl rfl rfl (And.intro (fun c => ?_) (fun c => ?_))
      · have H := H.1 c
        refine zq_goto_c (pc' := 2733) rfl rfl ?_
        exact H
      · have H := H.2 c
        refine zq_ipush (pc' := 731) rfl rfl rfl ?_
        exact zq_iret rfl (Or.inl rfl) (Exists.intro _ (Exists.intro _ (And.intro rfl H)))
    · have H := H.2 c
      refine zq_goto_c (pc' := 2733) rfl rfl ?_
      exact H
  · have H := H.2 c
    refine zq_ipush (pc' := 714) rfl rfl rfl ?_
    exact zq_iret rfl (Or.inl rfl) (Exists.intro _ (Exists.intro _ (And.intro rfl H)))
theorem zh_L_law_735 {d : Nat} {k : Int32 → hG → hE → Prop} {X : Nat → hG → hE → Prop} {l4 : Int32} {g : hG} {e : hE} (H :
    hin (l4 + 1) e.2.2.2 ∧
    hin (l4 + 2) e.2.2.2 ∧
    hin (l4 + 3) e.2.2.2 ∧
    hin (l4 + 4) e.2.2.2 ∧
    hci d 338 [.ref 1000, .int (g.1 997 (l4 + 1).toNatClampNeg), .int (g.1 997 (l4 + 2).toNatClampNeg), .int (g.1 997 (l4 + 3).toNatClampNeg), .int (g.1 997 (l4 + 4).toNatClampNeg), .ref 1088] g e (fun x7 g5 e6 =>
      hin (l4 + 1) e6.2.2.2 ∧
      hin (l4 + 2) e6.2.2.2 ∧
      hin (l4 + 3) e6.2.2.2 ∧
      hin (l4 + 4) e6.2.2.2 ∧
      hci d 283 [.ref 1046, .int (g5.1 997 (l4 + 1).toNatClampNeg), .int (g5.1 997 (l4 + 2).toNatClampNeg), .int (g5.1 997 (l4 + 3).toNatClampNeg), .int (g5.1 997 (l4 + 4).toNatClampNeg)] g5 e6 (fun x14 g12 e13 =>
        hci d 214 [.ref 1046] g12 e13 (fun x17 g15 e16 =>
          zbr (x17 = x7)
          (zbr (x7 = 0)
            (zbr (x14 = 0)
              (zbr ((lg_cmp (g15.2.1 1088 0) 0) = 0)
                (hwi d zm_L_law k X 2733 [(0, .ref 997), (1, .ref 1000), (2, .ref 1046), (3, .ref 1088), (4, .int l4)] g15 e16)
                (k 0 g15 e16))
              (zbr ((lg_cmp (g15.2.1 1088 0) 1) = 0)
                (hwi d zm_L_law k X 2733 [(0, .ref 997), (1, .ref 1000), (2, .ref 1046), (3, .ref 1088), (4, .int l4)] g15 e16)
                (k 0 g15 e16)))
            (hwi d zm_L_law k X 2733 [(0, .ref 997), (1, .ref 1000), (2, .ref 1046), (3, .ref 1088), (4, .int l4)] g15 e16))
          (k 0 g15 e16)) X) X) X) : hwi d zm_L_law k X 735 [(0, .ref 997), (1, .ref 1000), (2, .ref 1046), (3, .ref 1088), (4, .int l4)] g e := by
  refine zq_aload (pc' := 736) rfl rfl rfl rfl ?_
  refine zq_aload (pc' := 737) rfl rfl rfl rfl ?_
  refine zq_iload (pc' := 739) rfl rfl rfl rfl ?_
  refine zq_ipush (pc' := 740) rfl rfl rfl ?_
  refine zq_iadd (pc' := 741) rfl rfl rfl ?_
  obtain ⟨hi1, H⟩ := H
  refine zq_iald (pc' := 742) rfl rfl rfl (hscB hi1) ?_
  refine zq_aload (pc' := 743) rfl rfl rfl rfl ?_
  refine zq_iload (pc' := 745) rfl rfl rfl rfl ?_
  refine zq_ipush (pc' := 746) rfl rfl rfl ?_
  refine zq_iadd (pc' := 747) rfl rfl rfl ?_
  obtain ⟨hi2, H⟩ := H
  refine zq_iald (pc' := 748) rfl rfl rfl (hscB hi2) ?_
  refine zq_aload (pc' := 749) rfl rfl rfl rfl ?_
  refine zq_iload (pc' := 751) rfl rfl rfl rfl ?_
  refine zq_ipush (pc' := 752) rfl rfl rfl ?_
  refine zq_iadd (pc' := 753) rfl rfl rfl ?_
  obtain ⟨hi3, H⟩ := H
  refine zq_iald (pc' := 754) rfl rfl rfl (hscB hi3) ?_
  refine zq_aload (pc' := 755) rfl rfl rfl rfl ?_
  refine zq_iload (pc' := 757) rfl rfl rfl rfl ?_
  refine zq_ipush (pc' := 758) rfl rfl rfl ?_
  refine zq_iadd (pc' := 759) rfl rfl rfl ?_
  obtain ⟨hi4, H⟩ := H
  refine zq_iald (pc' := 760) rfl rfl rfl (hscB hi4) ?_
  refine zq_aload (pc' := 761) rfl rfl rfl rfl ?_
  refine hq_calli (pc' := 764) rfl rfl rfl rfl rfl rfl h_Xi ?_
  refine hmonoi H ?_
  intro x7 g5 e6 H
  refine zq_istore (pc' := 766) rfl rfl rfl ?_
  refine zq_aload (pc' := 767) rfl rfl rfl rfl ?_
  refine zq_aload (pc' := 768) rfl rfl rfl rfl ?_
  refine zq_iload (pc' := 770) rfl rfl rfl rfl ?_
  refine zq_ipush (pc' := 771) rfl rfl rfl ?_
  refine zq_iadd (pc' := 772) rfl rfl rfl ?_
  obtain ⟨hi8, H⟩ := H
  refine zq_iald (pc' := 773) rfl rfl rfl (hscB hi8) ?_
  refine zq_aload (pc' := 774) rfl rfl rfl rfl ?_
  refine zq_iload (pc' := 776) rfl rfl rfl rfl ?_
  refine zq_ipush (pc' := 777) rfl rfl rfl ?_
  refine zq_iadd (pc' := 778) rfl rfl rfl ?_
  obtain ⟨hi9, H⟩ := H
  refine zq_iald (pc' := 779) rfl rfl rfl (hscB hi9) ?_
  refine zq_aload (pc' := 780) rfl rfl rfl rfl ?_
  refine zq_iload (pc' := 782) rfl rfl rfl rfl ?_
  refine zq_ipush (pc' := 783) rfl rfl rfl ?_
  refine zq_iadd (pc' := 784) rfl rfl rfl ?_
  obtain ⟨hi10, H⟩ := H
  refine zq_iald (pc' := 785) rfl rfl rfl (hscB hi10) ?_
  refine zq_aload (pc' := 786) rfl rfl rfl rfl ?_
  refine zq_iload (pc' := 788) rfl rfl rfl rfl ?_
  refine zq_ipush (pc' := 789) rfl rfl rfl ?_
  refine zq_iadd (pc' := 790) rfl rfl rfl ?_
  obtain ⟨hi11, H⟩ := H
  refine zq_iald (pc' := 791) rfl rfl rfl (hscB hi11) ?_
  refine hq_calli (pc' := 794) rfl rfl rfl rfl rfl rfl h_Xi ?_
  refine hmonoi H ?_
  intro x14 g12 e13 H
  refine zq_istore (pc' := 796) rfl rfl rfl ?_
  refine zq_aload (pc' := 797) rfl rfl rfl rfl ?_
  refine hq_calli (pc' := 800) rfl rfl rfl rfl rfl rfl h_Xi ?_
  refine hmonoi H ?_
  intro x17 g15 e16 H
  refine zq_iload (pc' := 802) rfl rfl rfl rfl ?_
  refine zq_iceq (pc' := 805) rfl rfl rfl rfl (And.intro (fun c => ?_) (fun c => ?_))
  · have H := H.1 c
    refine zq_iload (pc' := 809) rfl rfl rfl rfl ?_
    refine zq_ifne (pc' := 812) rfl rfl rfl rfl (And.intro (fun c => ?_) (fun c => ?_))
    · have H := H.1 c
      refine zq_aload (pc' := 813) rfl rfl rfl rfl ?_
      refine zq_ipush (pc' := 814) rfl rfl rfl ?_
      refine zq_lald (pc' := 815) rfl rfl rfl (hp_la rfl (by unfold hin; decide)) ?_
      refine zq_iload (pc' := 817) rfl rfl rfl rfl ?_
      refine zq_ifeq (pc' := 820) rfl rfl rfl rfl (And.intro (fun c => ?_) (fun c => ?_))
      · have H := H.1 c
        refine zq_lpush (pc' := 825) rfl rfl rfl ?_
        refine zq_lcmp (pc' := 826) rfl rfl rfl ?_
        refine zq_ifeq (pc' := 829) rfl rfl rfl rfl (And.intro (fun c => ?_) (fun c => ?_))
        · have H := H.1 c
          refine zq_goto_c (pc' := 2733) rfl rfl ?_
          exact H
        · have H := H.2 c
          refine zq_ipush (pc' := 830) rfl rfl rfl ?_
          exact zq_iret rfl (Or.inl rfl) (Exists.intro _ (Exists.intro _ (And.intro rfl H)))
      · have H := H.2 c
        refine zq_lpush (pc' := 821) rfl rfl rfl ?_
        refine zq_goto (pc' := 825) rfl rfl rfl ?_
        refine zq_lcmp (pc' := 826) rfl rfl rfl ?_
        refine zq_ifeq (pc' := 829) rfl rfl rfl rfl (And.intro (fun c => ?_) (fun c => ?_))
        · have H := H.1 c
          refine zq_goto_c (pc' := 2733) rfl rfl ?_
          exact H
        · have H := H.2 c
          refine zq_ipush (pc' := 830) rfl rfl rfl ?_
          exact zq_iret rfl (Or.inl rfl) (Exists.intro _ (Exists.intro _ (And.intro rfl H)))
    · have H := H.2 c
      refine zq_goto_c (pc' := 2733) rfl rfl ?_
      exact H
  · have H := H.2 c
    refine zq_ipush (pc' := 806) rfl rfl rfl ?_
    exact zq_iret rfl (Or.inl rfl) (Exists.intro _ (Exists.intro _ (And.intro rfl H)))
theorem zh_L_law_834 {d : Nat} {k : Int32 → hG → hE → Prop} {X : Nat → hG → hE → Prop} {l4 : Int32} {g : hG} {e : hE} (H :
    hin (l4 + 1) e.2.2.2 ∧
    hin (l4 + 2) e.2.2.2 ∧
    hci d 339 [.ref 1000, .int (g.1 997 (l4 + 1).toNatClampNeg), .int (g.1 997 (l4 + 2).toNatClampNeg), .ref 1088] g e (fun x5 g3 e4 =>
      hin (l4 + 1) e4.2.2.2 ∧
      hin (l4 + 2) e4.2.2.2 ∧
      hci d 284 [.ref 1046, .int (g3.1 997 (l4 + 1).toNatClampNeg), .int (g3.1 997 (l4 + 2).toNatClampNeg)] g3 e4 (fun x10 g8 e9 =>
        hci d 214 [.ref 1046] g8 e9 (fun x13 g11 e12 =>
          zbr (x13 = x5)
          (zbr (x5 = 0)
            (zbr (x10 = 0)
              (zbr ((lg_cmp (g11.2.1 1088 0) 0) = 0)
                (hwi d zm_L_law k X 2733 [(0, .ref 997), (1, .ref 1000), (2, .ref 1046), (3, .ref 1088), (4, .int l4)] g11 e12)
                (k 0 g11 e12))
              (zbr ((lg_cmp (g11.2.1 1088 0) 1) = 0)
                (hwi d zm_L_law k X 2733 [(0, .ref 997), (1, .ref 1000), (2, .ref 1046), (3, .ref 1088), (4, .int l4)] g11 e12)
                (k 0 g11 e12)))
            (hwi d zm_L_law k X 2733 [(0, .ref 997), (1, .ref 1000), (2, .ref 1046), (3, .ref 1088), (4, .int l4)] g11 e12))
          (k 0 g11 e12)) X) X) X) : hwi d zm_L_law k X 834 [(0, .ref 997), (1, .ref 1000), (2, .ref 1046), (3, .ref 1088), (4, .int l4)] g e := by
  refine zq_aload (pc' := 835) rfl rfl rfl rfl ?_
  refine zq_aload (pc' := 836) rfl rfl rfl rfl ?_
  refine zq_iload (pc' := 838) rfl rfl rfl rfl ?_
  refine zq_ipush (pc' := 839) rfl rfl rfl ?_
  refine zq_iadd (pc' := 840) rfl rfl rfl ?_
  obtain ⟨hi1, H⟩ := H
  refine zq_iald (pc' := 841) rfl rfl rfl (hscB hi1) ?_
  refine zq_aload (pc' := 842) rfl rfl rfl rfl ?_
  refine zq_iload (pc' := 844) rfl rfl rfl rfl ?_
  refine zq_ipush (pc' := 845) rfl rfl rfl ?_
  refine zq_iadd (pc' := 846) rfl rfl rfl ?_
  obtain ⟨hi2, H⟩ := H
  refine zq_iald (pc' := 847) rfl rfl rfl (hscB hi2) ?_
  refine zq_aload (pc' := 848) rfl rfl rfl rfl ?_
  refine hq_calli (pc' := 851) rfl rfl rfl rfl rfl rfl h_Xi ?_
  refine hmonoi H ?_
  intro x5 g3 e4 H
  refine zq_istore (pc' := 853) rfl rfl rfl ?_
  refine zq_aload (pc' := 854) rfl rfl rfl rfl ?_
  refine zq_aload (pc' := 855) rfl rfl rfl rfl ?_
  refine zq_iload (pc' := 857) rfl rfl rfl rfl ?_
  refine zq_ipush (pc' := 858) rfl rfl rfl ?_
  refine zq_iadd (pc' := 859) rfl rfl rfl ?_
  obtain ⟨hi6, H⟩ := H
  refine zq_iald (pc' := 860) rfl rfl rfl (hscB hi6) ?_
  refine zq_aload (pc' := 861) rfl rfl rfl rfl ?_
  refine zq_iload (pc' := 863) rfl rfl rfl rfl ?_
  refine zq_ipush (pc' := 864) rfl rfl rfl ?_
  refine zq_iadd (pc' := 865) rfl rfl rfl ?_
  obtain ⟨hi7, H⟩ := H
  refine zq_iald (pc' := 866) rfl rfl rfl (hscB hi7) ?_
  refine hq_calli (pc' := 869) rfl rfl rfl rfl rfl rfl h_Xi ?_
  refine hmonoi H ?_
  intro x10 g8 e9 H
  refine zq_istore (pc' := 871) rfl rfl rfl ?_
  refine zq_aload (pc' := 872) rfl rfl rfl rfl ?_
  refine hq_calli (pc' := 875) rfl rfl rfl rfl rfl rfl h_Xi ?_
  refine hmonoi H ?_
  intro x13 g11 e12 H
  refine zq_iload (pc' := 877) rfl rfl rfl rfl ?_
  refine zq_iceq (pc' := 880) rfl rfl rfl rfl (And.intro (fun c => ?_) (fun c => ?_))
  · have H := H.1 c
    refine zq_iload (pc' := 884) rfl rfl rfl rfl ?_
    refine zq_ifne (pc' := 887) rfl rfl rfl rfl (And.intro (fun c => ?_) (fun c => ?_))
    · have H := H.1 c
      refine zq_aload (pc' := 888) rfl rfl rfl rfl ?_
      refine zq_ipush (pc' := 889) rfl rfl rfl ?_
      refine zq_lald (pc' := 890) rfl rfl rfl (hp_la rfl (by unfold hin; decide)) ?_
      refine zq_iload (pc' := 892) rfl rfl rfl rfl ?_
      refine zq_ifeq (pc' := 895) rfl rfl rfl rfl (And.intro (fun c => ?_) (fun c => ?_))
      · have H := H.1 c
        refine zq_lpush (pc' := 900) rfl rfl rfl ?_
        refine zq_lcmp (pc' := 901) rfl rfl rfl ?_
        refine zq_ifeq (pc' := 904) rfl rfl rfl rfl (And.intro (fun c => ?_) (fun c => ?_))
        · have H := H.1 c
          refine zq_goto_c (pc' := 2733) rfl rfl ?_
          exact H
        · have H := H.2 c
          refine zq_ipush (pc' := 905) rfl rfl rfl ?_
          exact zq_iret rfl (Or.inl rfl) (Exists.intro _ (Exists.intro _ (And.intro rfl H)))
      · have H := H.2 c
        refine zq_lpush (pc' := 896) rfl rfl rfl ?_
        refine zq_goto (pc' := 900) rfl rfl rfl ?_
        refine zq_lcmp (pc' := 901) rfl rfl rfl ?_
        refine zq_ifeq (pc' := 904) rfl rfl rfl rfl (And.intro (fun c => ?_) (fun c => ?_))
        · have H := H.1 c
          refine zq_goto_c (pc' := 2733) rfl rfl ?_
          exact H
        · have H := H.2 c
          refine zq_ipush (pc' := 905) rfl rfl rfl ?_
          exact zq_iret rfl (Or.inl rfl) (Exists.intro _ (Exists.intro _ (And.intro rfl H)))
    · have H := H.2 c
      refine zq_goto_c (pc' := 2733) rfl rfl ?_
      exact H
  · have H := H.2 c
    refine zq_ipush (pc' := 881) rfl rfl rfl ?_
    exact zq_iret rfl (Or.inl rfl) (Exists.intro _ (Exists.intro _ (And.intro rfl H)))
theorem zh_L_law_909 {d : Nat} {k : Int32 → hG → hE → Prop} {X : Nat → hG → hE → Prop} {l4 : Int32} {g : hG} {e : hE} (H :
    hci d 160 [.ref 1000] g e (fun x3 g1 e2 =>
      hci d 285 [.ref 1046] g1 e2 (fun x6 g4 e5 =>
        zbr (x3 = x6)
        (hwi d zm_L_law k X 2733 [(0, .ref 997), (1, .ref 1000), (2, .ref 1046), (3, .ref 1088), (4, .int l4)] g4 e5)
        (k 0 g4 e5)) X) X) : hwi d zm_L_law k X 909 [(0, .ref 997), (1, .ref 1000), (2, .ref 1046), (3, .ref 1088), (4, .int l4)] g e := by
  refine zq_aload (pc' := 910) rfl rfl rfl rfl ?_
  refine hq_calli (pc' := 913) rfl rfl rfl rfl rfl rfl h_Xi ?_
  refine hmonoi H ?_
  intro x3 g1 e2 H
  refine zq_aload (pc' := 914) rfl rfl rfl rfl ?_
  refine hq_calli (pc' := 917) rfl rfl rfl rfl rfl rfl h_Xi ?_
  refine hmonoi H ?_
  intro x6 g4 e5 H
  refine zq_iceq_c (pc' := 920) (lt := [(0, .ref 997), (1, .ref 1000), (2, .ref 1046), (3, .ref 1088), (4, .int l4)]) (lf := [(0, .ref 997), (1, .ref 1000), (2, .ref 1046), (3, .ref 1088), (4, .int l4)]) rfl rfl rfl rfl (And.intro (fun c => ?_) (fun c => ?_))
  · have H := H.1 c
    exact H
  · have H := H.2 c
    refine zq_ipush (pc' := 921) rfl rfl rfl ?_
    exact zq_iret rfl (Or.inl rfl) (Exists.intro _ (Exists.intro _ (And.intro rfl H)))
theorem zh_L_law_922 {d : Nat} {k : Int32 → hG → hE → Prop} {X : Nat → hG → hE → Prop} {l4 : Int32} {g : hG} {e : hE} (H :
    hin (l4 + 1) e.2.2.2 ∧
    hin (l4 + 2) e.2.2.2 ∧
    hin (l4 + 3) e.2.2.2 ∧
    hci d 340 [.ref 1000, .int (g.1 997 (l4 + 1).toNatClampNeg), .int (g.1 997 (l4 + 2).toNatClampNeg), .int (g.1 997 (l4 + 3).toNatClampNeg), .ref 1088] g e (fun x6 g4 e5 =>
      hin (l4 + 1) e5.2.2.2 ∧
      hin (l4 + 2) e5.2.2.2 ∧
      hin (l4 + 3) e5.2.2.2 ∧
      hci d 286 [.ref 1046, .int (g4.1 997 (l4 + 1).toNatClampNeg), .int (g4.1 997 (l4 + 2).toNatClampNeg), .int (g4.1 997 (l4 + 3).toNatClampNeg)] g4 e5 (fun x12 g10 e11 =>
        hci d 214 [.ref 1046] g10 e11 (fun x15 g13 e14 =>
          zbr (x15 = x6)
          (zbr (x6 = 0)
            (zbr ((lg_cmp (g13.2.1 1088 0) ((x12 : Int32).toInt64)) = 0)
              (hwi d zm_L_law k X 2733 [(0, .ref 997), (1, .ref 1000), (2, .ref 1046), (3, .ref 1088), (4, .int l4)] g13 e14)
              (k 0 g13 e14))
            (hwi d zm_L_law k X 2733 [(0, .ref 997), (1, .ref 1000), (2, .ref 1046), (3, .ref 1088), (4, .int l4)] g13 e14))
          (k 0 g13 e14)) X) X) X) : hwi d zm_L_law k X 922 [(0, .ref 997), (1, .ref 1000), (2, .ref 1046), (3, .ref 1088), (4, .int l4)] g e := by
  refine zq_aload (pc' := 923) rfl rfl rfl rfl ?_
  refine zq_aload (pc' := 924) rfl rfl rfl rfl ?_
  refine zq_iload (pc' := 926) rfl rfl rfl rfl ?_
  refine zq_ipush (pc' := 927) rfl rfl rfl ?_
  refine zq_iadd (pc' := 928) rfl rfl rfl ?_
  obtain ⟨hi1, H⟩ := H
  refine zq_iald (pc' := 929) rfl rfl rfl (hscB hi1) ?_
  refine zq_aload (pc' := 930) rfl rfl rfl rfl ?_
  refine zq_iload (pc' := 932) rfl rfl rfl rfl ?_
  refine zq_ipush (pc' := 933) rfl rfl rfl ?_
  refine zq_iadd (pc' := 934) rfl rfl rfl ?_
  obtain ⟨hi2, H⟩ := H
  refine zq_iald (pc' := 935) rfl rfl rfl (hscB hi2) ?_
  refine zq_aload (pc' := 936) rfl rfl rfl rfl ?_
  refine zq_iload (pc' := 938) rfl rfl rfl rfl ?_
  refine zq_ipush (pc' := 939) rfl rfl rfl ?_
  refine zq_iadd (pc' := 940) rfl rfl rfl ?_
  obtain ⟨hi3, H⟩ := H
  refine zq_iald (pc' := 941) rfl rfl rfl (hscB hi3) ?_
  refine zq_aload (pc' := 942) rfl rfl rfl rfl ?_
  refine hq_calli (pc' := 945) rfl rfl rfl rfl rfl rfl h_Xi ?_
  refine hmonoi H ?_
  intro x6 g4 e5 H
  refine zq_istore (pc' := 947) rfl rfl rfl ?_
  refine zq_aload (pc' := 948) rfl rfl rfl rfl ?_
  refine zq_aload (pc' := 949) rfl rfl rfl rfl ?_
  refine zq_iload (pc' := 951) rfl rfl rfl rfl ?_
  refine zq_ipush (pc' := 952) rfl rfl rfl ?_
  refine zq_iadd (pc' := 953) rfl rfl rfl ?_
  obtain ⟨hi7, H⟩ := H
  refine zq_iald (pc' := 954) rfl rfl rfl (hscB hi7) ?_
  refine zq_aload (pc' := 955) rfl rfl rfl rfl ?_
  refine zq_iload (pc' := 957) rfl rfl rfl rfl ?_
  refine zq_ipush (pc' := 958) rfl rfl rfl ?_
  refine zq_iadd (pc' := 959) rfl rfl rfl ?_
  obtain ⟨hi8, H⟩ := H
  refine zq_iald (pc' := 960) rfl rfl rfl (hscB hi8) ?_
  refine zq_aload (pc' := 961) rfl rfl rfl rfl ?_
  refine zq_iload (pc' := 963) rfl rfl rfl rfl ?_
  refine zq_ipush (pc' := 964) rfl rfl rfl ?_
  refine zq_iadd (pc' := 965) rfl rfl rfl ?_
  obtain ⟨hi9, H⟩ := H
  refine zq_iald (pc' := 966) rfl rfl rfl (hscB hi9) ?_
  refine hq_calli (pc' := 969) rfl rfl rfl rfl rfl rfl h_Xi ?_
  refine hmonoi H ?_
  intro x12 g10 e11 H
  refine zq_istore (pc' := 971) rfl rfl rfl ?_
  refine zq_aload (pc' := 972) rfl rfl rfl rfl ?_
  refine hq_calli (pc' := 975) rfl rfl rfl rfl rfl rfl h_Xi ?_
  refine hmonoi H ?_
  intro x15 g13 e14 H
  refine zq_iload (pc' := 977) rfl rfl rfl rfl ?_
  refine zq_iceq (pc' := 980) rfl rfl rfl rfl (And.intro (fun c => ?_) (fun c => ?_))
  · have H := H.1 c
    refine zq_iload (pc' := 984) rfl rfl rfl rfl ?_
    refine zq_ifne (pc' := 987) rfl rfl rfl rfl (And.intro (fun c => ?_) (fun c => ?_))
    · have H := H.1 c
      refine zq_aload (pc' := 988) rfl rfl rfl rfl ?_
      refine zq_ipush (pc' := 989) rfl rfl rfl ?_
      refine zq_lald (pc' := 990) rfl rfl rfl (hp_la rfl (by unfold hin; decide)) ?_
      refine zq_iload (pc' := 992) rfl rfl rfl rfl ?_
      refine zq_i2l (pc' := 993) rfl rfl rfl ?_
      refine zq_lcmp (pc' := 994) rfl rfl rfl ?_
      refine zq_ifeq (pc' := 997) rfl rfl rfl rfl (And.intro (fun c => ?_) (fun c => ?_))
      · have H := H.1 c
        refine zq_goto_c (pc' := 2733) rfl rfl ?_
        exact H
      · have H := H.2 c
        refine zq_ipush (pc' := 998) rfl rfl rfl ?_
        exact zq_iret rfl (Or.inl rfl) (Exists.intro _ (Exists.intro _ (And.intro rfl H)))
    · have H := H.2 c
      refine zq_goto_c (pc' := 2733) rfl rfl ?_
      exact H
  · have H := H.2 c
    refine zq_ipush (pc' := 981) rfl rfl rfl ?_
    exact zq_iret rfl (Or.inl rfl) (Exists.intro _ (Exists.intro _ (And.intro rfl H)))
theorem zh_L_law_1002 {d : Nat} {k : Int32 → hG → hE → Prop} {X : Nat → hG → hE → Prop} {l4 : Int32} {g : hG} {e : hE} (H :
    hin (l4 + 1) e.2.2.2 ∧
    hin (l4 + 2) e.2.2.2 ∧
    hci d 341 [.ref 1000, .int (g.1 997 (l4 + 1).toNatClampNeg), .int (g.1 997 (l4 + 2).toNatClampNeg), .ref 1088] g e (fun x5 g3 e4 =>
      hin (l4 + 1) e4.2.2.2 ∧
      hin (l4 + 2) e4.2.2.2 ∧
      hci d 289 [.ref 1046, .int (g3.1 997 (l4 + 1).toNatClampNeg), .int (g3.1 997 (l4 + 2).toNatClampNeg)] g3 e4 (fun x10 g8 e9 =>
        hci d 214 [.ref 1046] g8 e9 (fun x13 g11 e12 =>
          zbr (x13 = x5)
          (zbr (x5 = 0)
            (zbr ((lg_cmp (g11.2.1 1088 0) ((x10 : Int32).toInt64)) = 0)
              (hwi d zm_L_law k X 2733 [(0, .ref 997), (1, .ref 1000), (2, .ref 1046), (3, .ref 1088), (4, .int l4)] g11 e12)
              (k 0 g11 e12))
            (hwi d zm_L_law k X 2733 [(0, .ref 997), (1, .ref 1000), (2, .ref 1046), (3, .ref 1088), (4, .int l4)] g11 e12))
          (k 0 g11 e12)) X) X) X) : hwi d zm_L_law k X 1002 [(0, .ref 997), (1, .ref 1000), (2, .ref 1046), (3, .ref 1088), (4, .int l4)] g e := by
  refine zq_aload (pc' := 1003) rfl rfl rfl rfl ?_
  refine zq_aload (pc' := 1004) rfl rfl rfl rfl ?_
  refine zq_iload (pc' := 1006) rfl rfl rfl rfl ?_
  refine zq_ipush (pc' := 1007) rfl rfl rfl ?_
  refine zq_iadd (pc' := 1008) rfl rfl rfl ?_
  obtain ⟨hi1, H⟩ := H
  refine zq_iald (pc' := 1009) rfl rfl rfl (hscB hi1) ?_
  refine zq_aload (pc' := 1010) rfl rfl rfl rfl ?_
  refine zq_iload (pc' := 1012) rfl rfl rfl rfl ?_
  refine zq_ipush (pc' := 1013) rfl rfl rfl ?_
  refine zq_iadd (pc' := 1014) rfl rfl rfl ?_
  obtain ⟨hi2, H⟩ := H
  refine zq_iald (pc' := 1015) rfl rfl rfl (hscB hi2) ?_
  refine zq_aload (pc' := 1016) rfl rfl rfl rfl ?_
  refine hq_calli (pc' := 1019) rfl rfl rfl rfl rfl rfl h_Xi ?_
  refine hmonoi H ?_
  intro x5 g3 e4 H
  refine zq_istore (pc' := 1021) rfl rfl rfl ?_
  refine zq_aload (pc' := 1022) rfl rfl rfl rfl ?_
  refine zq_aload (pc' := 1023) rfl rfl rfl rfl ?_
  refine zq_iload (pc' := 1025) rfl rfl rfl rfl ?_
  refine zq_ipush (pc' := 1026) rfl rfl rfl ?_
  refine zq_iadd (pc' := 1027) rfl rfl rfl ?_
  obtain ⟨hi6, H⟩ := H
  refine zq_iald (pc' := 1028) rfl rfl rfl (hscB hi6) ?_
  refine zq_aload (pc' := 1029) rfl rfl rfl rfl ?_
  refine zq_iload (pc' := 1031) rfl rfl rfl rfl ?_
  refine zq_ipush (pc' := 1032) rfl rfl rfl ?_
  refine zq_iadd (pc' := 1033) rfl rfl rfl ?_
  obtain ⟨hi7, H⟩ := H
  refine zq_iald (pc' := 1034) rfl rfl rfl (hscB hi7) ?_
  refine hq_calli (pc' := 1037) rfl rfl rfl rfl rfl rfl h_Xi ?_
  refine hmonoi H ?_
  intro x10 g8 e9 H
  refine zq_istore (pc' := 1039) rfl rfl rfl ?_
  refine zq_aload (pc' := 1040) rfl rfl rfl rfl ?_
  refine hq_calli (pc' := 1043) rfl rfl rfl rfl rfl rfl h_Xi ?_
  refine hmonoi H ?_
  intro x13 g11 e12 H
  refine zq_iload (pc' := 1045) rfl rfl rfl rfl ?_
  refine zq_iceq (pc' := 1048) rfl rfl rfl rfl (And.intro (fun c => ?_) (fun c => ?_))
  · have H := H.1 c
    refine zq_iload (pc' := 1052) rfl rfl rfl rfl ?_
    refine zq_ifne (pc' := 1055) rfl rfl rfl rfl (And.intro (fun c => ?_) (fun c => ?_))
    · have H := H.1 c
      refine zq_aload (pc' := 1056) rfl rfl rfl rfl ?_
      refine zq_ipush (pc' := 1057) rfl rfl rfl ?_
      refine zq_lald (pc' := 1058) rfl rfl rfl (hp_la rfl (by unfold hin; decide)) ?_
      refine zq_iload (pc' := 1060) rfl rfl rfl rfl ?_
      refine zq_i2l (pc' := 1061) rfl rfl rfl ?_
      refine zq_lcmp (pc' := 1062) rfl rfl rfl ?_
      refine zq_ifeq (pc' := 1065) rfl rfl rfl rfl (And.intro (fun c => ?_) (fun c => ?_))
      · have H := H.1 c
        refine zq_goto_c (pc' := 2733) rfl rfl ?_
        exact H
      · have H := H.2 c
        refine zq_ipush (pc' := 1066) rfl rfl rfl ?_
        exact zq_iret rfl (Or.inl rfl) (Exists.intro _ (Exists.intro _ (And.intro rfl H)))
    · have H := H.2 c
      refine zq_goto_c (pc' := 2733) rfl rfl ?_
      exact H
  · have H := H.2 c
    refine zq_ipush (pc' := 1049) rfl rfl rfl ?_
    exact zq_iret rfl (Or.inl rfl) (Exists.intro _ (Exists.intro _ (And.intro rfl H)))
theorem zh_L_law_1070 {d : Nat} {k : Int32 → hG → hE → Prop} {X : Nat → hG → hE → Prop} {l4 : Int32} {g : hG} {e : hE} (H :
    hin (l4 + 1) e.2.2.2 ∧
    hin (l4 + 2) e.2.2.2 ∧
    hci d 342 [.ref 1000, .int (g.1 997 (l4 + 1).toNatClampNeg), .int (g.1 997 (l4 + 2).toNatClampNeg), .ref 1088] g e (fun x5 g3 e4 =>
      hin (l4 + 1) e4.2.2.2 ∧
      hin (l4 + 2) e4.2.2.2 ∧
      hci d 290 [.ref 1046, .int (g3.1 997 (l4 + 1).toNatClampNeg), .int (g3.1 997 (l4 + 2).toNatClampNeg)] g3 e4 (fun x10 g8 e9 =>
        hci d 214 [.ref 1046] g8 e9 (fun x13 g11 e12 =>
          zbr (x13 = x5)
          (zbr (x5 = 0)
            (zbr ((lg_cmp (g11.2.1 1088 0) ((x10 : Int32).toInt64)) = 0)
              (hwi d zm_L_law k X 2733 [(0, .ref 997), (1, .ref 1000), (2, .ref 1046), (3, .ref 1088), (4, .int l4)] g11 e12)
              (k 0 g11 e12))
            (hwi d zm_L_law k X 2733 [(0, .ref 997), (1, .ref 1000), (2, .ref 1046), (3, .ref 1088), (4, .int l4)] g11 e12))
          (k 0 g11 e12)) X) X) X) : hwi d zm_L_law k X 1070 [(0, .ref 997), (1, .ref 1000), (2, .ref 1046), (3, .ref 1088), (4, .int l4)] g e := by
  refine zq_aload (pc' := 1071) rfl rfl rfl rfl ?_
  refine zq_aload (pc' := 1072) rfl rfl rfl rfl ?_
  refine zq_iload (pc' := 1074) rfl rfl rfl rfl ?_
  refine zq_ipush (pc' := 1075) rfl rfl rfl ?_
  refine zq_iadd (pc' := 1076) rfl rfl rfl ?_
  obtain ⟨hi1, H⟩ := H
  refine zq_iald (pc' := 1077) rfl rfl rfl (hscB hi1) ?_
  refine zq_aload (pc' := 1078) rfl rfl rfl rfl ?_
  refine zq_iload (pc' := 1080) rfl rfl rfl rfl ?_
  refine zq_ipush (pc' := 1081) rfl rfl rfl ?_
  refine zq_iadd (pc' := 1082) rfl rfl rfl ?_
  obtain ⟨hi2, H⟩ := H
  refine zq_iald (pc' := 1083) rfl rfl rfl (hscB hi2) ?_
  refine zq_aload (pc' := 1084) rfl rfl rfl rfl ?_
  refine hq_calli (pc' := 1087) rfl rfl rfl rfl rfl rfl h_Xi ?_
  refine hmonoi H ?_
  intro x5 g3 e4 H
  refine zq_istore (pc' := 1089) rfl rfl rfl ?_
  refine zq_aload (pc' := 1090) rfl rfl rfl rfl ?_
  refine zq_aload (pc' := 1091) rfl rfl rfl rfl ?_
  refine zq_iload (pc' := 1093) rfl rfl rfl rfl ?_
  refine zq_ipush (pc' := 1094) rfl rfl rfl ?_
  refine zq_iadd (pc' := 1095) rfl rfl rfl ?_
  obtain ⟨hi6, H⟩ := H
  refine zq_iald (pc' := 1096) rfl rfl rfl (hscB hi6) ?_
  refine zq_aload (pc' := 1097) rfl rfl rfl rfl ?_
  refine zq_iload (pc' := 1099) rfl rfl rfl rfl ?_
  refine zq_ipush (pc' := 1100) rfl rfl rfl ?_
  refine zq_iadd (pc' := 1101) rfl rfl rfl ?_
  obtain ⟨hi7, H⟩ := H
  refine zq_iald (pc' := 1102) rfl rfl rfl (hscB hi7) ?_
  refine hq_calli (pc' := 1105) rfl rfl rfl rfl rfl rfl h_Xi ?_
  refine hmonoi H ?_
  intro x10 g8 e9 H
  refine zq_istore (pc' := 1107) rfl rfl rfl ?_
  refine zq_aload (pc' := 1108) rfl rfl rfl rfl ?_
  refine hq_calli (pc' := 1111) rfl rfl rfl rfl rfl rfl h_Xi ?_
  refine hmonoi H ?_
  intro x13 g11 e12 H
  refine zq_iload (pc' := 1113) rfl rfl rfl rfl ?_
  refine zq_iceq (pc' := 1116) rfl rfl rfl rfl (And.intro (fun c => ?_) (fun c => ?_))
  · have H := H.1 c
    refine zq_iload (pc' := 1120) rfl rfl rfl rfl ?_
    refine zq_ifne (pc' := 1123) rfl rfl rfl rfl (And.intro (fun c => ?_) (fun c => ?_))
    · have H := H.1 c
      refine zq_aload (pc' := 1124) rfl rfl rfl rfl ?_
      refine zq_ipush (pc' := 1125) rfl rfl rfl ?_
      refine zq_lald (pc' := 1126) rfl rfl rfl (hp_la rfl (by unfold hin; decide)) ?_
      refine zq_iload (pc' := 1128) rfl rfl rfl rfl ?_
      refine zq_i2l (pc' := 1129) rfl rfl rfl ?_
      refine zq_lcmp (pc' := 1130) rfl rfl rfl ?_
      refine zq_ifeq (pc' := 1133) rfl rfl rfl rfl (And.intro (fun c => ?_) (fun c => ?_))
      · have H := H.1 c
        refine zq_goto_c (pc' := 2733) rfl rfl ?_
        exact H
      · have H := H.2 c
        refine zq_ipush (pc' := 1134) rfl rfl rfl ?_
        exact zq_iret rfl (Or.inl rfl) (Exists.intro _ (Exists.intro _ (And.intro rfl H)))
    · have H := H.2 c
      refine zq_goto_c (pc' := 2733) rfl rfl ?_
      exact H
  · have H := H.2 c
    refine zq_ipush (pc' := 1117) rfl rfl rfl ?_
    exact zq_iret rfl (Or.inl rfl) (Exists.intro _ (Exists.intro _ (And.intro rfl H)))
theorem zh_L_law_1138 {d : Nat} {k : Int32 → hG → hE → Prop} {X : Nat → hG → hE → Prop} {l4 : Int32} {g : hG} {e : hE} (H :
    hin (l4 + 1) e.2.2.2 ∧
    hin (l4 + 2) e.2.2.2 ∧
    hci d 343 [.ref 1000, .int (g.1 997 (l4 + 1).toNatClampNeg), .int (g.1 997 (l4 + 2).toNatClampNeg), .ref 1088] g e (fun x5 g3 e4 =>
      hin (l4 + 1) e4.2.2.2 ∧
      hin (l4 + 2) e4.2.2.2 ∧
      hci d 292 [.ref 1046, .int (g3.1 997 (l4 + 1).toNatClampNeg), .int (g3.1 997 (l4 + 2).toNatClampNeg)] g3 e4 (fun x10 g8 e9 =>
        hci d 214 [.ref 1046] g8 e9 (fun x13 g11 e12 =>
          zbr (x13 = x5)
          (zbr (x5 = 0)
            (zbr ((lg_cmp (g11.2.1 1088 0) ((x10 : Int32).toInt64)) = 0)
              (hwi d zm_L_law k X 2733 [(0, .ref 997), (1, .ref 1000), (2, .ref 1046), (3, .ref 1088), (4, .int l4)] g11 e12)
              (k 0 g11 e12))
            (hwi d zm_L_law k X 2733 [(0, .ref 997), (1, .ref 1000), (2, .ref 1046), (3, .ref 1088), (4, .int l4)] g11 e12))
          (k 0 g11 e12)) X) X) X) : hwi d zm_L_law k X 1138 [(0, .ref 997), (1, .ref 1000), (2, .ref 1046), (3, .ref 1088), (4, .int l4)] g e := by
  refine zq_aload (pc' := 1139) rfl rfl rfl rfl ?_
  refine zq_aload (pc' := 1140) rfl rfl rfl rfl ?_
  refine zq_iload (pc' := 1142) rfl rfl rfl rfl ?_
  refine zq_ipush (pc' := 1143) rfl rfl rfl ?_
  refine zq_iadd (pc' := 1144) rfl rfl rfl ?_
  obtain ⟨hi1, H⟩ := H
  refine zq_iald (pc' := 1145) rfl rfl rfl (hscB hi1) ?_
  refine zq_aload (pc' := 1146) rfl rfl rfl rfl ?_
  refine zq_iload (pc' := 1148) rfl rfl rfl rfl ?_
  refine zq_ipush (pc' := 1149) rfl rfl rfl ?_
  refine zq_iadd (pc' := 1150) rfl rfl rfl ?_
  obtain ⟨hi2, H⟩ := H
  refine zq_iald (pc' := 1151) rfl rfl rfl (hscB hi2) ?_
  refine zq_aload (pc' := 1152) rfl rfl rfl rfl ?_
  refine hq_calli (pc' := 1155) rfl rfl rfl rfl rfl rfl h_Xi ?_
  refine hmonoi H ?_
  intro x5 g3 e4 H
  refine zq_istore (pc' := 1157) rfl rfl rfl ?_
  refine zq_aload (pc' := 1158) rfl rfl rfl rfl ?_
  refine zq_aload (pc' := 1159) rfl rfl rfl rfl ?_
  refine zq_iload (pc' := 1161) rfl rfl rfl rfl ?_
  refine zq_ipush (pc' := 1162) rfl rfl rfl ?_
  refine zq_iadd (pc' := 1163) rfl rfl rfl ?_
  obtain ⟨hi6, H⟩ := H
  refine zq_iald (pc' := 1164) rfl rfl rfl (hscB hi6) ?_
  refine zq_aload (pc' := 1165) rfl rfl rfl rfl ?_
  refine zq_iload (pc' := 1167) rfl rfl rfl rfl ?_
  refine zq_ipush (pc' := 1168) rfl rfl rfl ?_
  refine zq_iadd (pc' := 1169) rfl rfl rfl ?_
  obtain ⟨hi7, H⟩ := H
  refine zq_iald (pc' := 1170) rfl rfl rfl (hscB hi7) ?_
  refine hq_calli (pc' := 1173) rfl rfl rfl rfl rfl rfl h_Xi ?_
  refine hmonoi H ?_
  intro x10 g8 e9 H
  refine zq_istore (pc' := 1175) rfl rfl rfl ?_
  refine zq_aload (pc' := 1176) rfl rfl rfl rfl ?_
  refine hq_calli (pc' := 1179) rfl rfl rfl rfl rfl rfl h_Xi ?_
  refine hmonoi H ?_
  intro x13 g11 e12 H
  refine zq_iload (pc' := 1181) rfl rfl rfl rfl ?_
  refine zq_iceq (pc' := 1184) rfl rfl rfl rfl (And.intro (fun c => ?_) (fun c => ?_))
  · have H := H.1 c
    refine zq_iload (pc' := 1188) rfl rfl rfl rfl ?_
    refine zq_ifne (pc' := 1191) rfl rfl rfl rfl (And.intro (fun c => ?_) (fun c => ?_))
    · have H := H.1 c
      refine zq_aload (pc' := 1192) rfl rfl rfl rfl ?_
      refine zq_ipush (pc' := 1193) rfl rfl rfl ?_
      refine zq_lald (pc' := 1194) rfl rfl rfl (hp_la rfl (by unfold hin; decide)) ?_
      refine zq_iload (pc' := 1196) rfl rfl rfl rfl ?_
      refine zq_i2l (pc' := 1197) rfl rfl rfl ?_
      refine zq_lcmp (pc' := 1198) rfl rfl rfl ?_
      refine zq_ifeq (pc' := 1201) rfl rfl rfl rfl (And.intro (fun c => ?_) (fun c => ?_))
      · have H := H.1 c
        refine zq_goto_c (pc' := 2733) rfl rfl ?_
        exact H
      · have H := H.2 c
        refine zq_ipush (pc' := 1202) rfl rfl rfl ?_
        exact zq_iret rfl (Or.inl rfl) (Exists.intro _ (Exists.intro _ (And.intro rfl H)))
    · have H := H.2 c
      refine zq_goto_c (pc' := 2733) rfl rfl ?_
      exact H
  · have H := H.2 c
    refine zq_ipush (pc' := 1185) rfl rfl rfl ?_
    exact zq_iret rfl (Or.inl rfl) (Exists.intro _ (Exists.intro _ (And.intro rfl H)))
theorem zh_L_law_1206 {d : Nat} {k : Int32 → hG → hE → Prop} {X : Nat → hG → hE → Prop} {l4 : Int32} {g : hG} {e : hE} (H :
    hin (l4 + 1) e.2.2.2 ∧
    hin (l4 + 2) e.2.2.2 ∧
    hci d 344 [.ref 1000, .int (g.1 997 (l4 + 1).toNatClampNeg), .int (g.1 997 (l4 + 2).toNatClampNeg), .ref 1088] g e (fun x5 g3 e4 =>
      hin (l4 + 1) e4.2.2.2 ∧
      hin (l4 + 2) e4.2.2.2 ∧
      hci d 294 [.ref 1046, .int (g3.1 997 (l4 + 1).toNatClampNeg), .int (g3.1 997 (l4 + 2).toNatClampNeg)] g3 e4 (fun x10 g8 e9 =>
        hci d 214 [.ref 1046] g8 e9 (fun x13 g11 e12 =>
          zbr (x13 = x5)
          (zbr (x5 = 0)
            (zbr ((lg_cmp (g11.2.1 1088 0) ((x10 : Int32).toInt64)) = 0)
              (hwi d zm_L_law k X 2733 [(0, .ref 997), (1, .ref 1000), (2, .ref 1046), (3, .ref 1088), (4, .int l4)] g11 e12)
              (k 0 g11 e12))
            (hwi d zm_L_law k X 2733 [(0, .ref 997), (1, .ref 1000), (2, .ref 1046), (3, .ref 1088), (4, .int l4)] g11 e12))
          (k 0 g11 e12)) X) X) X) : hwi d zm_L_law k X 1206 [(0, .ref 997), (1, .ref 1000), (2, .ref 1046), (3, .ref 1088), (4, .int l4)] g e := by
  refine zq_aload (pc' := 1207) rfl rfl rfl rfl ?_
  refine zq_aload (pc' := 1208) rfl rfl rfl rfl ?_
  refine zq_iload (pc' := 1210) rfl rfl rfl rfl ?_
  refine zq_ipush (pc' := 1211) rfl rfl rfl ?_
  refine zq_iadd (pc' := 1212) rfl rfl rfl ?_
  obtain ⟨hi1, H⟩ := H
  refine zq_iald (pc' := 1213) rfl rfl rfl (hscB hi1) ?_
  refine zq_aload (pc' := 1214) rfl rfl rfl rfl ?_
  refine zq_iload (pc' := 1216) rfl rfl rfl rfl ?_
  refine zq_ipush (pc' := 1217) rfl rfl rfl ?_
  refine zq_iadd (pc' := 1218) rfl rfl rfl ?_
  obtain ⟨hi2, H⟩ := H
  refine zq_iald (pc' := 1219) rfl rfl rfl (hscB hi2) ?_
  refine zq_aload (pc' := 1220) rfl rfl rfl rfl ?_
  refine hq_calli (pc' := 1223) rfl rfl rfl rfl rfl rfl h_Xi ?_
  refine hmonoi H ?_
  intro x5 g3 e4 H
  refine zq_istore (pc' := 1225) rfl rfl rfl ?_
  refine zq_aload (pc' := 1226) rfl rfl rfl rfl ?_
  refine zq_aload (pc' := 1227) rfl rfl rfl rfl ?_
  refine zq_iload (pc' := 1229) rfl rfl rfl rfl ?_
  refine zq_ipush (pc' := 1230) rfl rfl rfl ?_
  refine zq_iadd (pc' := 1231) rfl rfl rfl ?_
  obtain ⟨hi6, H⟩ := H
  refine zq_iald (pc' := 1232) rfl rfl rfl (hscB hi6) ?_
  refine zq_aload (pc' := 1233) rfl rfl rfl rfl ?_
  refine zq_iload (pc' := 1235) rfl rfl rfl rfl ?_
  refine zq_ipush (pc' := 1236) rfl rfl rfl ?_
  refine zq_iadd (pc' := 1237) rfl rfl rfl ?_
  obtain ⟨hi7, H⟩ := H
  refine zq_iald (pc' := 1238) rfl rfl rfl (hscB hi7) ?_
  refine hq_calli (pc' := 1241) rfl rfl rfl rfl rfl rfl h_Xi ?_
  refine hmonoi H ?_
  intro x10 g8 e9 H
  refine zq_istore (pc' := 1243) rfl rfl rfl ?_
  refine zq_aload (pc' := 1244) rfl rfl rfl rfl ?_
  refine hq_calli (pc' := 1247) rfl rfl rfl rfl rfl rfl h_Xi ?_
  refine hmonoi H ?_
  intro x13 g11 e12 H
  refine zq_iload (pc' := 1249) rfl rfl rfl rfl ?_
  refine zq_iceq (pc' := 1252) rfl rfl rfl rfl (And.intro (fun c => ?_) (fun c => ?_))
  · have H := H.1 c
    refine zq_iload (pc' := 1256) rfl rfl rfl rfl ?_
    refine zq_ifne (pc' := 1259) rfl rfl rfl rfl (And.intro (fun c => ?_) (fun c => ?_))
    · have H := H.1 c
      refine zq_aload (pc' := 1260) rfl rfl rfl rfl ?_
      refine zq_ipush (pc' := 1261) rfl rfl rfl ?_
      refine zq_lald (pc' := 1262) rfl rfl rfl (hp_la rfl (by unfold hin; decide)) ?_
      refine zq_iload (pc' := 1264) rfl rfl rfl rfl ?_
      refine zq_i2l (pc' := 1265) rfl rfl rfl ?_
      refine zq_lcmp (pc' := 1266) rfl rfl rfl ?_
      refine zq_ifeq (pc' := 1269) rfl rfl rfl rfl (And.intro (fun c => ?_) (fun c => ?_))
      · have H := H.1 c
        refine zq_goto_c (pc' := 2733) rfl rfl ?_
        exact H
      · have H := H.2 c
        refine zq_ipush (pc' := 1270) rfl rfl rfl ?_
        exact zq_iret rfl (Or.inl rfl) (Exists.intro _ (Exists.intro _ (And.intro rfl H)))
    · have H := H.2 c
      refine zq_goto_c (pc' := 2733) rfl rfl ?_
      exact H
  · have H := H.2 c
    refine zq_ipush (pc' := 1253) rfl rfl rfl ?_
    exact zq_iret rfl (Or.inl rfl) (Exists.intro _ (Exists.intro _ (And.intro rfl H)))
theorem zh_L_law_1274 {d : Nat} {k : Int32 → hG → hE → Prop} {X : Nat → hG → hE → Prop} {l4 : Int32} {g : hG} {e : hE} (H :
    hin (l4 + 1) e.2.2.2 ∧
    hci d 345 [.ref 1000, .int (g.1 997 (l4 + 1).toNatClampNeg), .ref 1088] g e (fun x4 g2 e3 =>
      hin (l4 + 1) e3.2.2.2 ∧
      hci d 295 [.ref 1046, .int (g2.1 997 (l4 + 1).toNatClampNeg)] g2 e3 (fun x8 g6 e7 =>
        hci d 214 [.ref 1046] g6 e7 (fun x11 g9 e10 =>
          zbr (x11 = x4)
          (zbr (x4 = 0)
            (zbr ((lg_cmp (g9.2.1 1088 0) ((x8 : Int32).toInt64)) = 0)
              (hwi d zm_L_law k X 2733 [(0, .ref 997), (1, .ref 1000), (2, .ref 1046), (3, .ref 1088), (4, .int l4)] g9 e10)
              (k 0 g9 e10))
            (hwi d zm_L_law k X 2733 [(0, .ref 997), (1, .ref 1000), (2, .ref 1046), (3, .ref 1088), (4, .int l4)] g9 e10))
          (k 0 g9 e10)) X) X) X) : hwi d zm_L_law k X 1274 [(0, .ref 997), (1, .ref 1000), (2, .ref 1046), (3, .ref 1088), (4, .int l4)] g e := by
  refine zq_aload (pc' := 1275) rfl rfl rfl rfl ?_
  refine zq_aload (pc' := 1276) rfl rfl rfl rfl ?_
  refine zq_iload (pc' := 1278) rfl rfl rfl rfl ?_
  refine zq_ipush (pc' := 1279) rfl rfl rfl ?_
  refine zq_iadd (pc' := 1280) rfl rfl rfl ?_
  obtain ⟨hi1, H⟩ := H
  refine zq_iald (pc' := 1281) rfl rfl rfl (hscB hi1) ?_
  refine zq_aload (pc' := 1282) rfl rfl rfl rfl ?_
  refine hq_calli (pc' := 1285) rfl rfl rfl rfl rfl rfl h_Xi ?_
  refine hmonoi H ?_
  intro x4 g2 e3 H
  refine zq_istore (pc' := 1287) rfl rfl rfl ?_
  refine zq_aload (pc' := 1288) rfl rfl rfl rfl ?_
  refine zq_aload (pc' := 1289) rfl rfl rfl rfl ?_
  refine zq_iload (pc' := 1291) rfl rfl rfl rfl ?_
  refine zq_ipush (pc' := 1292) rfl rfl rfl ?_
  refine zq_iadd (pc' := 1293) rfl rfl rfl ?_
  obtain ⟨hi5, H⟩ := H
  refine zq_iald (pc' := 1294) rfl rfl rfl (hscB hi5) ?_
  refine hq_calli (pc' := 1297) rfl rfl rfl rfl rfl rfl h_Xi ?_
  refine hmonoi H ?_
  intro x8 g6 e7 H
  refine zq_istore (pc' := 1299) rfl rfl rfl ?_
  refine zq_aload (pc' := 1300) rfl rfl rfl rfl ?_
  refine hq_calli (pc' := 1303) rfl rfl rfl rfl rfl rfl h_Xi ?_
  refine hmonoi H ?_
  intro x11 g9 e10 H
  refine zq_iload (pc' := 1305) rfl rfl rfl rfl ?_
  refine zq_iceq (pc' := 1308) rfl rfl rfl rfl (And.intro (fun c => ?_) (fun c => ?_))
  · have H := H.1 c
    refine zq_iload (pc' := 1312) rfl rfl rfl rfl ?_
    refine zq_ifne (pc' := 1315) rfl rfl rfl rfl (And.intro (fun c => ?_) (fun c => ?_))
    · have H := H.1 c
      refine zq_aload (pc' := 1316) rfl rfl rfl rfl ?_
      refine zq_ipush (pc' := 1317) rfl rfl rfl ?_
      refine zq_lald (pc' := 1318) rfl rfl rfl (hp_la rfl (by unfold hin; decide)) ?_
      refine zq_iload (pc' := 1320) rfl rfl rfl rfl ?_
      refine zq_i2l (pc' := 1321) rfl rfl rfl ?_
      refine zq_lcmp (pc' := 1322) rfl rfl rfl ?_
      refine zq_ifeq (pc' := 1325) rfl rfl rfl rfl (And.intro (fun c => ?_) (fun c => ?_))
      · have H := H.1 c
        refine zq_goto_c (pc' := 2733) rfl rfl ?_
        exact H
      · have H := H.2 c
        refine zq_ipush (pc' := 1326) rfl rfl rfl ?_
        exact zq_iret rfl (Or.inl rfl) (Exists.intro _ (Exists.intro _ (And.intro rfl H)))
    · have H := H.2 c
      refine zq_goto_c (pc' := 2733) rfl rfl ?_
      exact H
  · have H := H.2 c
    refine zq_ipush (pc' := 1309) rfl rfl rfl ?_
    exact zq_iret rfl (Or.inl rfl) (Exists.intro _ (Exists.intro _ (And.intro rfl H)))
theorem zh_L_law_1330 {d : Nat} {k : Int32 → hG → hE → Prop} {X : Nat → hG → hE → Prop} {l4 : Int32} {g : hG} {e : hE} (H :
    hin (l4 + 1) e.2.2.2 ∧
    hin (l4 + 2) e.2.2.2 ∧
    hin (l4 + 3) e.2.2.2 ∧
    hci d 346 [.ref 1000, .int (g.1 997 (l4 + 1).toNatClampNeg), .int (g.1 997 (l4 + 2).toNatClampNeg), .int (g.1 997 (l4 + 3).toNatClampNeg), .ref 1088] g e (fun x6 g4 e5 =>
      hin (l4 + 1) e5.2.2.2 ∧
      hin (l4 + 2) e5.2.2.2 ∧
      hin (l4 + 3) e5.2.2.2 ∧
      hci d 299 [.ref 1046, .int (g4.1 997 (l4 + 1).toNatClampNeg), .int (g4.1 997 (l4 + 2).toNatClampNeg), .int (g4.1 997 (l4 + 3).toNatClampNeg)] g4 e5 (fun x12 g10 e11 =>
        hci d 214 [.ref 1046] g10 e11 (fun x15 g13 e14 =>
          zbr (x15 = x6)
          (zbr (x6 = 0)
            (zbr ((lg_cmp (g13.2.1 1088 0) ((x12 : Int32).toInt64)) = 0)
              (hwi d zm_L_law k X 2733 [(0, .ref 997), (1, .ref 1000), (2, .ref 1046), (3, .ref 1088), (4, .int l4)] g13 e14)
              (k 0 g13 e14))
            (hwi d zm_L_law k X 2733 [(0, .ref 997), (1, .ref 1000), (2, .ref 1046), (3, .ref 1088), (4, .int l4)] g13 e14))
          (k 0 g13 e14)) X) X) X) : hwi d zm_L_law k X 1330 [(0, .ref 997), (1, .ref 1000), (2, .ref 1046), (3, .ref 1088), (4, .int l4)] g e := by
  refine zq_aload (pc' := 1331) rfl rfl rfl rfl ?_
  refine zq_aload (pc' := 1332) rfl rfl rfl rfl ?_
  refine zq_iload (pc' := 1334) rfl rfl rfl rfl ?_
  refine zq_ipush (pc' := 1335) rfl rfl rfl ?_
  refine zq_iadd (pc' := 1336) rfl rfl rfl ?_
  obtain ⟨hi1, H⟩ := H
  refine zq_iald (pc' := 1337) rfl rfl rfl (hscB hi1) ?_
  refine zq_aload (pc' := 1338) rfl rfl rfl rfl ?_
  refine zq_iload (pc' := 1340) rfl rfl rfl rfl ?_
  refine zq_ipush (pc' := 1341) rfl rfl rfl ?_
  refine zq_iadd (pc' := 1342) rfl rfl rfl ?_
  obtain ⟨hi2, H⟩ := H
  refine zq_iald (pc' := 1343) rfl rfl rfl (hscB hi2) ?_
  refine zq_aload (pc' := 1344) rfl rfl rfl rfl ?_
  refine zq_iload (pc' := 1346) rfl rfl rfl rfl ?_
  refine zq_ipush (pc' := 1347) rfl rfl rfl ?_
  refine zq_iadd (pc' := 1348) rfl rfl rfl ?_
  obtain ⟨hi3, H⟩ := H
  refine zq_iald (pc' := 1349) rfl rfl rfl (hscB hi3) ?_
  refine zq_aload (pc' := 1350) rfl rfl rfl rfl ?_
  refine hq_calli (pc' := 1353) rfl rfl rfl rfl rfl rfl h_Xi ?_
  refine hmonoi H ?_
  intro x6 g4 e5 H
  refine zq_istore (pc' := 1355) rfl rfl rfl ?_
  refine zq_aload (pc' := 1356) rfl rfl rfl rfl ?_
  refine zq_aload (pc' := 1357) rfl rfl rfl rfl ?_
  refine zq_iload (pc' := 1359) rfl rfl rfl rfl ?_
  refine zq_ipush (pc' := 1360) rfl rfl rfl ?_
  refine zq_iadd (pc' := 1361) rfl rfl rfl ?_
  obtain ⟨hi7, H⟩ := H
  refine zq_iald (pc' := 1362) rfl rfl rfl (hscB hi7) ?_
  refine zq_aload (pc' := 1363) rfl rfl rfl rfl ?_
  refine zq_iload (pc' := 1365) rfl rfl rfl rfl ?_
  refine zq_ipush (pc' := 1366) rfl rfl rfl ?_
  refine zq_iadd (pc' := 1367) rfl rfl rfl ?_
  obtain ⟨hi8, H⟩ := H
  refine zq_iald (pc' := 1368) rfl rfl rfl (hscB hi8) ?_
  refine zq_aload (pc' := 1369) rfl rfl rfl rfl ?_
  refine zq_iload (pc' := 1371) rfl rfl rfl rfl ?_
  refine zq_ipush (pc' := 1372) rfl rfl rfl ?_
  refine zq_iadd (pc' := 1373) rfl rfl rfl ?_
  obtain ⟨hi9, H⟩ := H
  refine zq_iald (pc' := 1374) rfl rfl rfl (hscB hi9) ?_
  refine hq_calli (pc' := 1377) rfl rfl rfl rfl rfl rfl h_Xi ?_
  refine hmonoi H ?_
  intro x12 g10 e11 H
  refine zq_istore (pc' := 1379) rfl rfl rfl ?_
  refine zq_aload (pc' := 1380) rfl rfl rfl rfl ?_
  refine hq_calli (pc' := 1383) rfl rfl rfl rfl rfl rfl h_Xi ?_
  refine hmonoi H ?_
  intro x15 g13 e14 H
  refine zq_iload (pc' := 1385) rfl rfl rfl rfl ?_
  refine zq_iceq (pc' := 1388) rfl rfl rfl rfl (And.intro (fun c => ?_) (fun c => ?_))
  · have H := H.1 c
    refine zq_iload (pc' := 1392) rfl rfl rfl rfl ?_
    refine zq_ifne (pc' := 1395) rfl rfl rfl rfl (And.intro (fun c => ?_) (fun c => ?_))
    · have H := H.1 c
      refine zq_aload (pc' := 1396) rfl rfl rfl rfl ?_
      refine zq_ipush (pc' := 1397) rfl rfl rfl ?_
      refine zq_lald (pc' := 1398) rfl rfl rfl (hp_la rfl (by unfold hin; decide)) ?_
      refine zq_iload (pc' := 1400) rfl rfl rfl rfl ?_
      refine zq_i2l (pc' := 1401) rfl rfl rfl ?_
      refine zq_lcmp (pc' := 1402) rfl rfl rfl ?_
      refine zq_ifeq (pc' := 1405) rfl rfl rfl rfl (And.intro (fun c => ?_) (fun c => ?_))
      · have H := H.1 c
        refine zq_goto_c (pc' := 2733) rfl rfl ?_
        exact H
      · have H := H.2 c
        refine zq_ipush (pc' := 1406) rfl rfl rfl ?_
        exact zq_iret rfl (Or.inl rfl) (Exists.intro _ (Exists.intro _ (And.intro rfl H)))
    · have H := H.2 c
      refine zq_goto_c (pc' := 2733) rfl rfl ?_
      exact H
  · have H := H.2 c
    refine zq_ipush (pc' := 1389) rfl rfl rfl ?_
    exact zq_iret rfl (Or.inl rfl) (Exists.intro _ (Exists.intro _ (And.intro rfl H)))
theorem zh_L_law_1410 {d : Nat} {k : Int32 → hG → hE → Prop} {X : Nat → hG → hE → Prop} {l4 : Int32} {g : hG} {e : hE} (H :
    hin (l4 + 1) e.2.2.2 ∧
    hin (l4 + 2) e.2.2.2 ∧
    hin (l4 + 3) e.2.2.2 ∧
    hci d 347 [.ref 1000, .int (g.1 997 (l4 + 1).toNatClampNeg), .int (g.1 997 (l4 + 2).toNatClampNeg), .int (g.1 997 (l4 + 3).toNatClampNeg), .ref 1088] g e (fun x6 g4 e5 =>
      hin (l4 + 1) e5.2.2.2 ∧
      hin (l4 + 2) e5.2.2.2 ∧
      hin (l4 + 3) e5.2.2.2 ∧
      hci d 302 [.ref 1046, .int (g4.1 997 (l4 + 1).toNatClampNeg), .int (g4.1 997 (l4 + 2).toNatClampNeg), .int (g4.1 997 (l4 + 3).toNatClampNeg)] g4 e5 (fun x12 g10 e11 =>
        hci d 214 [.ref 1046] g10 e11 (fun x15 g13 e14 =>
          zbr (x15 = x6)
          (zbr (x6 = 0)
            (zbr ((lg_cmp (g13.2.1 1088 0) ((x12 : Int32).toInt64)) = 0)
              (hwi d zm_L_law k X 2733 [(0, .ref 997), (1, .ref 1000), (2, .ref 1046), (3, .ref 1088), (4, .int l4)] g13 e14)
              (k 0 g13 e14))
            (hwi d zm_L_law k X 2733 [(0, .ref 997), (1, .ref 1000), (2, .ref 1046), (3, .ref 1088), (4, .int l4)] g13 e14))
          (k 0 g13 e14)) X) X) X) : hwi d zm_L_law k X 1410 [(0, .ref 997), (1, .ref 1000), (2, .ref 1046), (3, .ref 1088), (4, .int l4)] g e := by
  refine zq_aload (pc' := 1411) rfl rfl rfl rfl ?_
  refine zq_aload (pc' := 1412) rfl rfl rfl rfl ?_
  refine zq_iload (pc' := 1414) rfl rfl rfl rfl ?_
  refine zq_ipush (pc' := 1415) rfl rfl rfl ?_
  refine zq_iadd (pc' := 1416) rfl rfl rfl ?_
  obtain ⟨hi1, H⟩ := H
  refine zq_iald (pc' := 1417) rfl rfl rfl (hscB hi1) ?_
  refine zq_aload (pc' := 1418) rfl rfl rfl rfl ?_
  refine zq_iload (pc' := 1420) rfl rfl rfl rfl ?_
  refine zq_ipush (pc' := 1421) rfl rfl rfl ?_
  refine zq_iadd (pc' := 1422) rfl rfl rfl ?_
  obtain ⟨hi2, H⟩ := H
  refine zq_iald (pc' := 1423) rfl rfl rfl (hscB hi2) ?_
  refine zq_aload (pc' := 1424) rfl rfl rfl rfl ?_
  refine zq_iload (pc' := 1426) rfl rfl rfl rfl ?_
  refine zq_ipush (pc' := 1427) rfl rfl rfl ?_
  refine zq_iadd (pc' := 1428) rfl rfl rfl ?_
  obtain ⟨hi3, H⟩ := H
  refine zq_iald (pc' := 1429) rfl rfl rfl (hscB hi3) ?_
  refine zq_aload (pc' := 1430) rfl rfl rfl rfl ?_
  refine hq_calli (pc' := 1433) rfl rfl rfl rfl rfl rfl h_Xi ?_
  refine hmonoi H ?_
  intro x6 g4 e5 H
  refine zq_istore (pc' := 1435) rfl rfl rfl ?_
  refine zq_aload (pc' := 1436) rfl rfl rfl rfl ?_
  refine zq_aload (pc' := 1437) rfl rfl rfl rfl ?_
  refine zq_iload (pc' := 1439) rfl rfl rfl rfl ?_
  refine zq_ipush (pc' := 1440) rfl rfl rfl ?_
  refine zq_iadd (pc' := 1441) rfl rfl rfl ?_
  obtain ⟨hi7, H⟩ := H
  refine zq_iald (pc' := 1442) rfl rfl rfl (hscB hi7) ?_
  refine zq_aload (pc' := 1443) rfl rfl rfl rfl ?_
  refine zq_iload (pc' := 1445) rfl rfl rfl rfl ?_
  refine zq_ipush (pc' := 1446) rfl rfl rfl ?_
  refine zq_iadd (pc' := 1447) rfl rfl rfl ?_
  obtain ⟨hi8, H⟩ := H
  refine zq_iald (pc' := 1448) rfl rfl rfl (hscB hi8) ?_
  refine zq_aload (pc' := 1449) rfl rfl rfl rfl ?_
  refine zq_iload (pc' := 1451) rfl rfl rfl rfl ?_
  refine zq_ipush (pc' := 1452) rfl rfl rfl ?_
  refine zq_iadd (pc' := 1453) rfl rfl rfl ?_
  obtain ⟨hi9, H⟩ := H
  refine zq_iald (pc' := 1454) rfl rfl rfl (hscB hi9) ?_
  refine hq_calli (pc' := 1457) rfl rfl rfl rfl rfl rfl h_Xi ?_
  refine hmonoi H ?_
  intro x12 g10 e11 H
  refine zq_istore (pc' := 1459) rfl rfl rfl ?_
  refine zq_aload (pc' := 1460) rfl rfl rfl rfl ?_
  refine hq_calli (pc' := 1463) rfl rfl rfl rfl rfl rfl h_Xi ?_
  refine hmonoi H ?_
  intro x15 g13 e14 H
  refine zq_iload (pc' := 1465) rfl rfl rfl rfl ?_
  refine zq_iceq (pc' := 1468) rfl rfl rfl rfl (And.intro (fun c => ?_) (fun c => ?_))
  · have H := H.1 c
    refine zq_iload (pc' := 1472) rfl rfl rfl rfl ?_
    refine zq_ifne (pc' := 1475) rfl rfl rfl rfl (And.intro (fun c => ?_) (fun c => ?_))
    · have H := H.1 c
      refine zq_aload (pc' := 1476) rfl rfl rfl rfl ?_
      refine zq_ipush (pc' := 1477) rfl rfl rfl ?_
      refine zq_lald (pc' := 1478) rfl rfl rfl (hp_la rfl (by unfold hin; decide)) ?_
      refine zq_iload (pc' := 1480) rfl rfl rfl rfl ?_
      refine zq_i2l (pc' := 1481) rfl rfl rfl ?_
      refine zq_lcmp (pc' := 1482) rfl rfl rfl ?_
      refine zq_ifeq (pc' := 1485) rfl rfl rfl rfl (And.intro (fun c => ?_) (fun c => ?_))
      · have H := H.1 c
        refine zq_goto_c (pc' := 2733) rfl rfl ?_
        exact H
      · have H := H.2 c
        refine zq_ipush (pc' := 1486) rfl rfl rfl ?_
        exact zq_iret rfl (Or.inl rfl) (Exists.intro _ (Exists.intro _ (And.intro rfl H)))
    · have H := H.2 c
      refine zq_goto_c (pc' := 2733) rfl rfl ?_
      exact H
  · have H := H.2 c
    refine zq_ipush (pc' := 1469) rfl rfl rfl ?_
    exact zq_iret rfl (Or.inl rfl) (Exists.intro _ (Exists.intro _ (And.intro rfl H)))
theorem zh_L_law_1490 {d : Nat} {k : Int32 → hG → hE → Prop} {X : Nat → hG → hE → Prop} {l4 : Int32} {g : hG} {e : hE} (H :
    hin (l4 + 1) e.2.2.2 ∧
    hin (l4 + 2) e.2.2.2 ∧
    hin (l4 + 3) e.2.2.2 ∧
    hci d 348 [.ref 1000, .int (g.1 997 (l4 + 1).toNatClampNeg), .int (g.1 997 (l4 + 2).toNatClampNeg), .int (g.1 997 (l4 + 3).toNatClampNeg), .ref 1088] g e (fun x6 g4 e5 =>
      hin (l4 + 1) e5.2.2.2 ∧
      hin (l4 + 2) e5.2.2.2 ∧
      hin (l4 + 3) e5.2.2.2 ∧
      hci d 305 [.ref 1046, .int (g4.1 997 (l4 + 1).toNatClampNeg), .int (g4.1 997 (l4 + 2).toNatClampNeg), .int (g4.1 997 (l4 + 3).toNatClampNeg)] g4 e5 (fun x12 g10 e11 =>
        hci d 214 [.ref 1046] g10 e11 (fun x15 g13 e14 =>
          zbr (x15 = x6)
          (zbr (x6 = 0)
            (zbr ((lg_cmp (g13.2.1 1088 0) ((x12 : Int32).toInt64)) = 0)
              (hwi d zm_L_law k X 2733 [(0, .ref 997), (1, .ref 1000), (2, .ref 1046), (3, .ref 1088), (4, .int l4)] g13 e14)
              (k 0 g13 e14))
            (hwi d zm_L_law k X 2733 [(0, .ref 997), (1, .ref 1000), (2, .ref 1046), (3, .ref 1088), (4, .int l4)] g13 e14))
          (k 0 g13 e14)) X) X) X) : hwi d zm_L_law k X 1490 [(0, .ref 997), (1, .ref 1000), (2, .ref 1046), (3, .ref 1088), (4, .int l4)] g e := by
  refine zq_aload (pc' := 1491) rfl rfl rfl rfl ?_
  refine zq_aload (pc' := 1492) rfl rfl rfl rfl ?_
  refine zq_iload (pc' := 1494) rfl rfl rfl rfl ?_
  refine zq_ipush (pc' := 1495) rfl rfl rfl ?_
  refine zq_iadd (pc' := 1496) rfl rfl rfl ?_
  obtain ⟨hi1, H⟩ := H
  refine zq_iald (pc' := 1497) rfl rfl rfl (hscB hi1) ?_
  refine zq_aload (pc' := 1498) rfl rfl rfl rfl ?_
  refine zq_iload (pc' := 1500) rfl rfl rfl rfl ?_
  refine zq_ipush (pc' := 1501) rfl rfl rfl ?_
  refine zq_iadd (pc' := 1502) rfl rfl rfl ?_
  obtain ⟨hi2, H⟩ := H
  refine zq_iald (pc' := 1503) rfl rfl rfl (hscB hi2) ?_
  refine zq_aload (pc' := 1504) rfl rfl rfl rfl ?_
  refine zq_iload (pc' := 1506) rfl rfl rfl rfl ?_
  refine zq_ipush (pc' := 1507) rfl rfl rfl ?_
  refine zq_iadd (pc' := 1508) rfl rfl rfl ?_
  obtain ⟨hi3, H⟩ := H
  refine zq_iald (pc' := 1509) rfl rfl rfl (hscB hi3) ?_
  refine zq_aload (pc' := 1510) rfl rfl rfl rfl ?_
  refine hq_calli (pc' := 1513) rfl rfl rfl rfl rfl rfl h_Xi ?_
  refine hmonoi H ?_
  intro x6 g4 e5 H
  refine zq_istore (pc' := 1515) rfl rfl rfl ?_
  refine zq_aload (pc' := 1516) rfl rfl rfl rfl ?_
  refine zq_aload (pc' := 1517) rfl rfl rfl rfl ?_
  refine zq_iload (pc' := 1519) rfl rfl rfl rfl ?_
  refine zq_ipush (pc' := 1520) rfl rfl rfl ?_
  refine zq_iadd (pc' := 1521) rfl rfl rfl ?_
  obtain ⟨hi7, H⟩ := H
  refine zq_iald (pc' := 1522) rfl rfl rfl (hscB hi7) ?_
  refine zq_aload (pc' := 1523) rfl rfl rfl rfl ?_
  refine zq_iload (pc' := 1525) rfl rfl rfl rfl ?_
  refine zq_ipush (pc' := 1526) rfl rfl rfl ?_
  refine zq_iadd (pc' := 1527) rfl rfl rfl ?_
  obtain ⟨hi8, H⟩ := H
  refine zq_iald (pc' := 1528) rfl rfl rfl (hscB hi8) ?_
  refine zq_aload (pc' := 1529) rfl rfl rfl rfl ?_
  refine zq_iload (pc' := 1531) rfl rfl rfl rfl ?_
  refine zq_ipush (pc' := 1532) rfl rfl rfl ?_
  refine zq_iadd (pc' := 1533) rfl rfl rfl ?_
  obtain ⟨hi9, H⟩ := H
  refine zq_iald (pc' := 1534) rfl rfl rfl (hscB hi9) ?_
  refine hq_calli (pc' := 1537) rfl rfl rfl rfl rfl rfl h_Xi ?_
  refine hmonoi H ?_
  intro x12 g10 e11 H
  refine zq_istore (pc' := 1539) rfl rfl rfl ?_
  refine zq_aload (pc' := 1540) rfl rfl rfl rfl ?_
  refine hq_calli (pc' := 1543) rfl rfl rfl rfl rfl rfl h_Xi ?_
  refine hmonoi H ?_
  intro x15 g13 e14 H
  refine zq_iload (pc' := 1545) rfl rfl rfl rfl ?_
  refine zq_iceq (pc' := 1548) rfl rfl rfl rfl (And.intro (fun c => ?_) (fun c => ?_))
  · have H := H.1 c
    refine zq_iload (pc' := 1552) rfl rfl rfl rfl ?_
    refine zq_ifne (pc' := 1555) rfl rfl rfl rfl (And.intro (fun c => ?_) (fun c => ?_))
    · have H := H.1 c
      refine zq_aload (pc' := 1556) rfl rfl rfl rfl ?_
      refine zq_ipush (pc' := 1557) rfl rfl rfl ?_
      refine zq_lald (pc' := 1558) rfl rfl rfl (hp_la rfl (by unfold hin; decide)) ?_
      refine zq_iload (pc' := 1560) rfl rfl rfl rfl ?_
      refine zq_i2l (pc' := 1561) rfl rfl rfl ?_
      refine zq_lcmp (pc' := 1562) rfl rfl rfl ?_
      refine zq_ifeq (pc' := 1565) rfl rfl rfl rfl (And.intro (fun c => ?_) (fun c => ?_))
      · have H := H.1 c
        refine zq_goto_c (pc' := 2733) rfl rfl ?_
        exact H
      · have H := H.2 c
        refine zq_ipush (pc' := 1566) rfl rfl rfl ?_
        exact zq_iret rfl (Or.inl rfl) (Exists.intro _ (Exists.intro _ (And.intro rfl H)))
    · have H := H.2 c
      refine zq_goto_c (pc' := 2733) rfl rfl ?_
      exact H
  · have H := H.2 c
    refine zq_ipush (pc' := 1549) rfl rfl rfl ?_
    exact zq_iret rfl (Or.inl rfl) (Exists.intro _ (Exists.intro _ (And.intro rfl H)))
theorem zh_L_law_1570 {d : Nat} {k : Int32 → hG → hE → Prop} {X : Nat → hG → hE → Prop} {l4 : Int32} {g : hG} {e : hE} (H :
    hin (l4 + 1) e.2.2.2 ∧
    hin (l4 + 2) e.2.2.2 ∧
    hci d 349 [.ref 1000, .int (g.1 997 (l4 + 1).toNatClampNeg), .int (g.1 997 (l4 + 2).toNatClampNeg), .ref 1088] g e (fun x5 g3 e4 =>
      hin (l4 + 1) e4.2.2.2 ∧
      hin (l4 + 2) e4.2.2.2 ∧
      hci d 306 [.ref 1046, .int (g3.1 997 (l4 + 1).toNatClampNeg), .int (g3.1 997 (l4 + 2).toNatClampNeg)] g3 e4 (fun x10 g8 e9 =>
        hci d 214 [.ref 1046] g8 e9 (fun x13 g11 e12 =>
          zbr (x13 = x5)
          (zbr (x5 = 0)
            (zbr ((lg_cmp (g11.2.1 1088 0) ((x10 : Int32).toInt64)) = 0)
              (hwi d zm_L_law k X 2733 [(0, .ref 997), (1, .ref 1000), (2, .ref 1046), (3, .ref 1088), (4, .int l4)] g11 e12)
              (k 0 g11 e12))
            (hwi d zm_L_law k X 2733 [(0, .ref 997), (1, .ref 1000), (2, .ref 1046), (3, .ref 1088), (4, .int l4)] g11 e12))
          (k 0 g11 e12)) X) X) X) : hwi d zm_L_law k X 1570 [(0, .ref 997), (1, .ref 1000), (2, .ref 1046), (3, .ref 1088), (4, .int l4)] g e := by
  refine zq_aload (pc' := 1571) rfl rfl rfl rfl ?_
  refine zq_aload (pc' := 1572) rfl rfl rfl rfl ?_
  refine zq_iload (pc' := 1574) rfl rfl rfl rfl ?_
  refine zq_ipush (pc' := 1575) rfl rfl rfl ?_
  refine zq_iadd (pc' := 1576) rfl rfl rfl ?_
  obtain ⟨hi1, H⟩ := H
  refine zq_iald (pc' := 1577) rfl rfl rfl (hscB hi1) ?_
  refine zq_aload (pc' := 1578) rfl rfl rfl rfl ?_
  refine zq_iload (pc' := 1580) rfl rfl rfl rfl ?_
  refine zq_ipush (pc' := 1581) rfl rfl rfl ?_
  refine zq_iadd (pc' := 1582) rfl rfl rfl ?_
  obtain ⟨hi2, H⟩ := H
  refine zq_iald (pc' := 1583) rfl rfl rfl (hscB hi2) ?_
  refine zq_aload (pc' := 1584) rfl rfl rfl rfl ?_
  refine hq_calli (pc' := 1587) rfl rfl rfl rfl rfl rfl h_Xi ?_
  refine hmonoi H ?_
  intro x5 g3 e4 H
  refine zq_istore (pc' := 1589) rfl rfl rfl ?_
  refine zq_aload (pc' := 1590) rfl rfl rfl rfl ?_
  refine zq_aload (pc' := 1591) rfl rfl rfl rfl ?_
  refine zq_iload (pc' := 1593) rfl rfl rfl rfl ?_
  refine zq_ipush (pc' := 1594) rfl rfl rfl ?_
  refine zq_iadd (pc' := 1595) rfl rfl rfl ?_
  obtain ⟨hi6, H⟩ := H
  refine zq_iald (pc' := 1596) rfl rfl rfl (hscB hi6) ?_
  refine zq_aload (pc' := 1597) rfl rfl rfl rfl ?_
  refine zq_iload (pc' := 1599) rfl rfl rfl rfl ?_
  refine zq_ipush (pc' := 1600) rfl rfl rfl ?_
  refine zq_iadd (pc' := 1601) rfl rfl rfl ?_
  obtain ⟨hi7, H⟩ := H
  refine zq_iald (pc' := 1602) rfl rfl rfl (hscB hi7) ?_
  refine hq_calli (pc' := 1605) rfl rfl rfl rfl rfl rfl h_Xi ?_
  refine hmonoi H ?_
  intro x10 g8 e9 H
  refine zq_istore (pc' := 1607) rfl rfl rfl ?_
  refine zq_aload (pc' := 1608) rfl rfl rfl rfl ?_
  refine hq_calli (pc' := 1611) rfl rfl rfl rfl rfl rfl h_Xi ?_
  refine hmonoi H ?_
  intro x13 g11 e12 H
  refine zq_iload (pc' := 1613) rfl rfl rfl rfl ?_
  refine zq_iceq (pc' := 1616) rfl rfl rfl rfl (And.intro (fun c => ?_) (fun c => ?_))
  · have H := H.1 c
    refine zq_iload (pc' := 1620) rfl rfl rfl rfl ?_
    refine zq_ifne (pc' := 1623) rfl rfl rfl rfl (And.intro (fun c => ?_) (fun c => ?_))
    · have H := H.1 c
      refine zq_aload (pc' := 1624) rfl rfl rfl rfl ?_
      refine zq_ipush (pc' := 1625) rfl rfl rfl ?_
      refine zq_lald (pc' := 1626) rfl rfl rfl (hp_la rfl (by unfold hin; decide)) ?_
      refine zq_iload (pc' := 1628) rfl rfl rfl rfl ?_
      refine zq_i2l (pc' := 1629) rfl rfl rfl ?_
      refine zq_lcmp (pc' := 1630) rfl rfl rfl ?_
      refine zq_ifeq (pc' := 1633) rfl rfl rfl rfl (And.intro (fun c => ?_) (fun c => ?_))
      · have H := H.1 c
        refine zq_goto_c (pc' := 2733) rfl rfl ?_
        exact H
      · have H := H.2 c
        refine zq_ipush (pc' := 1634) rfl rfl rfl ?_
        exact zq_iret rfl (Or.inl rfl) (Exists.intro _ (Exists.intro _ (And.intro rfl H)))
    · have H := H.2 c
      refine zq_goto_c (pc' := 2733) rfl rfl ?_
      exact H
  · have H := H.2 c
    refine zq_ipush (pc' := 1617) rfl rfl rfl ?_
    exact zq_iret rfl (Or.inl rfl) (Exists.intro _ (Exists.intro _ (And.intro rfl H)))
theorem zh_L_law_1638 {d : Nat} {k : Int32 → hG → hE → Prop} {X : Nat → hG → hE → Prop} {l4 : Int32} {g : hG} {e : hE} (H :
    hin (l4 + 1) e.2.2.2 ∧
    hci d 350 [.ref 1000, .int (g.1 997 (l4 + 1).toNatClampNeg), .ref 1088] g e (fun x4 g2 e3 =>
      hin (l4 + 1) e3.2.2.2 ∧
      hci d 309 [.ref 1046, .int (g2.1 997 (l4 + 1).toNatClampNeg)] g2 e3 (fun x8 g6 e7 =>
        hci d 214 [.ref 1046] g6 e7 (fun x11 g9 e10 =>
          zbr (x11 = x4)
          (zbr (x4 = 0)
            (zbr ((lg_cmp (g9.2.1 1088 0) ((x8 : Int32).toInt64)) = 0)
              (hwi d zm_L_law k X 2733 [(0, .ref 997), (1, .ref 1000), (2, .ref 1046), (3, .ref 1088), (4, .int l4)] g9 e10)
              (k 0 g9 e10))
            (hwi d zm_L_law k X 2733 [(0, .ref 997), (1, .ref 1000), (2, .ref 1046), (3, .ref 1088), (4, .int l4)] g9 e10))
          (k 0 g9 e10)) X) X) X) : hwi d zm_L_law k X 1638 [(0, .ref 997), (1, .ref 1000), (2, .ref 1046), (3, .ref 1088), (4, .int l4)] g e := by
  refine zq_aload (pc' := 1639) rfl rfl rfl rfl ?_
  refine zq_aload (pc' := 1640) rfl rfl rfl rfl ?_
  refine zq_iload (pc' := 1642) rfl rfl rfl rfl ?_
  refine zq_ipush (pc' := 1643) rfl rfl rfl ?_
  refine zq_iadd (pc' := 1644) rfl rfl rfl ?_
  obtain ⟨hi1, H⟩ := H
  refine zq_iald (pc' := 1645) rfl rfl rfl (hscB hi1) ?_
  refine zq_aload (pc' := 1646) rfl rfl rfl rfl ?_
  refine hq_calli (pc' := 1649) rfl rfl rfl rfl rfl rfl h_Xi ?_
  refine hmonoi H ?_
  intro x4 g2 e3 H
  refine zq_istore (pc' := 1651) rfl rfl rfl ?_
  refine zq_aload (pc' := 1652) rfl rfl rfl rfl ?_
  refine zq_aload (pc' := 1653) rfl rfl rfl rfl ?_
  refine zq_iload (pc' := 1655) rfl rfl rfl rfl ?_
  refine zq_ipush (pc' := 1656) rfl rfl rfl ?_
  refine zq_iadd (pc' := 1657) rfl rfl rfl ?_
  obtain ⟨hi5, H⟩ := H
  refine zq_iald (pc' := 1658) rfl rfl rfl (hscB hi5) ?_
  refine hq_calli (pc' := 1661) rfl rfl rfl rfl rfl rfl h_Xi ?_
  refine hmonoi H ?_
  intro x8 g6 e7 H
  refine zq_istore (pc' := 1663) rfl rfl rfl ?_
  refine zq_aload (pc' := 1664) rfl rfl rfl rfl ?_
  refine hq_calli (pc' := 1667) rfl rfl rfl rfl rfl rfl h_Xi ?_
  refine hmonoi H ?_
  intro x11 g9 e10 H
  refine zq_iload (pc' := 1669) rfl rfl rfl rfl ?_
  refine zq_iceq (pc' := 1672) rfl rfl rfl rfl (And.intro (fun c => ?_) (fun c => ?_))
  · have H := H.1 c
    refine zq_iload (pc' := 1676) rfl rfl rfl rfl ?_
    refine zq_ifne (pc' := 1679) rfl rfl rfl rfl (And.intro (fun c => ?_) (fun c => ?_))
    · have H := H.1 c
      refine zq_aload (pc' := 1680) rfl rfl rfl rfl ?_
      refine zq_ipush (pc' := 1681) rfl rfl rfl ?_
      refine zq_lald (pc' := 1682) rfl rfl rfl (hp_la rfl (by unfold hin; decide)) ?_
      refine zq_iload (pc' := 1684) rfl rfl rfl rfl ?_
      refine zq_i2l (pc' := 1685) rfl rfl rfl ?_
      refine zq_lcmp (pc' := 1686) rfl rfl rfl ?_
      refine zq_ifeq (pc' := 1689) rfl rfl rfl rfl (And.intro (fun c => ?_) (fun c => ?_))
      · have H := H.1 c
        refine zq_goto_c (pc' := 2733) rfl rfl ?_
        exact H
      · have H := H.2 c
        refine zq_ipush (pc' := 1690) rfl rfl rfl ?_
        exact zq_iret rfl (Or.inl rfl) (Exists.intro _ (Exists.intro _ (And.intro rfl H)))
    · have H := H.2 c
      refine zq_goto_c (pc' := 2733) rfl rfl ?_
      exact H
  · have H := H.2 c
    refine zq_ipush (pc' := 1673) rfl rfl rfl ?_
    exact zq_iret rfl (Or.inl rfl) (Exists.intro _ (Exists.intro _ (And.intro rfl H)))
theorem zh_L_law_1694 {d : Nat} {k : Int32 → hG → hE → Prop} {X : Nat → hG → hE → Prop} {l4 : Int32} {g : hG} {e : hE} (H :
    hin (l4 + 1) e.2.2.2 ∧
    hin (l4 + 2) e.2.2.2 ∧
    hci d 351 [.ref 1000, .int (g.1 997 (l4 + 1).toNatClampNeg), .int (g.1 997 (l4 + 2).toNatClampNeg), .ref 1088] g e (fun x5 g3 e4 =>
      hin (l4 + 1) e4.2.2.2 ∧
      hin (l4 + 2) e4.2.2.2 ∧
      hci d 314 [.ref 1046, .int (g3.1 997 (l4 + 1).toNatClampNeg), .int (g3.1 997 (l4 + 2).toNatClampNeg)] g3 e4 (fun x10 g8 e9 =>
        hci d 214 [.ref 1046] g8 e9 (fun x13 g11 e12 =>
          zbr (x13 = x5)
          (zbr (x5 = 0)
            (zbr ((lg_cmp (g11.2.1 1088 0) ((x10 : Int32).toInt64)) = 0)
              (hwi d zm_L_law k X 2733 [(0, .ref 997), (1, .ref 1000), (2, .ref 1046), (3, .ref 1088), (4, .int l4)] g11 e12)
              (k 0 g11 e12))
            (hwi d zm_L_law k X 2733 [(0, .ref 997), (1, .ref 1000), (2, .ref 1046), (3, .ref 1088), (4, .int l4)] g11 e12))
          (k 0 g11 e12)) X) X) X) : hwi d zm_L_law k X 1694 [(0, .ref 997), (1, .ref 1000), (2, .ref 1046), (3, .ref 1088), (4, .int l4)] g e := by
  refine zq_aload (pc' := 1695) rfl rfl rfl rfl ?_
  refine zq_aload (pc' := 1696) rfl rfl rfl rfl ?_
  refine zq_iload (pc' := 1698) rfl rfl rfl rfl ?_
  refine zq_ipush (pc' := 1699) rfl rfl rfl ?_
  refine zq_iadd (pc' := 1700) rfl rfl rfl ?_
  obtain ⟨hi1, H⟩ := H
  refine zq_iald (pc' := 1701) rfl rfl rfl (hscB hi1) ?_
  refine zq_aload (pc' := 1702) rfl rfl rfl rfl ?_
  refine zq_iload (pc' := 1704) rfl rfl rfl rfl ?_
  refine zq_ipush (pc' := 1705) rfl rfl rfl ?_
  refine zq_iadd (pc' := 1706) rfl rfl rfl ?_
  obtain ⟨hi2, H⟩ := H
  refine zq_iald (pc' := 1707) rfl rfl rfl (hscB hi2) ?_
  refine zq_aload (pc' := 1708) rfl rfl rfl rfl ?_
  refine hq_calli (pc' := 1711) rfl rfl rfl rfl rfl rfl h_Xi ?_
  refine hmonoi H ?_
  intro x5 g3 e4 H
  refine zq_istore (pc' := 1713) rfl rfl rfl ?_
  refine zq_aload (pc' := 1714) rfl rfl rfl rfl ?_
  refine zq_aload (pc' := 1715) rfl rfl rfl rfl ?_
  refine zq_iload (pc' := 1717) rfl rfl rfl rfl ?_
  refine zq_ipush (pc' := 1718) rfl rfl rfl ?_
  refine zq_iadd (pc' := 1719) rfl rfl rfl ?_
  obtain ⟨hi6, H⟩ := H
  refine zq_iald (pc' := 1720) rfl rfl rfl (hscB hi6) ?_
  refine zq_aload (pc' := 1721) rfl rfl rfl rfl ?_
  refine zq_iload (pc' := 1723) rfl rfl rfl rfl ?_
  refine zq_ipush (pc' := 1724) rfl rfl rfl ?_
  refine zq_iadd (pc' := 1725) rfl rfl rfl ?_
  obtain ⟨hi7, H⟩ := H
  refine zq_iald (pc' := 1726) rfl rfl rfl (hscB hi7) ?_
  refine hq_calli (pc' := 1729) rfl rfl rfl rfl rfl rfl h_Xi ?_
  refine hmonoi H ?_
  intro x10 g8 e9 H
  refine zq_istore (pc' := 1731) rfl rfl rfl ?_
  refine zq_aload (pc' := 1732) rfl rfl rfl rfl ?_
  refine hq_calli (pc' := 1735) rfl rfl rfl rfl rfl rfl h_Xi ?_
  refine hmonoi H ?_
  intro x13 g11 e12 H
  refine zq_iload (pc' := 1737) rfl rfl rfl rfl ?_
  refine zq_iceq (pc' := 1740) rfl rfl rfl rfl (And.intro (fun c => ?_) (fun c => ?_))
  · have H := H.1 c
    refine zq_iload (pc' := 1744) rfl rfl rfl rfl ?_
    refine zq_ifne (pc' := 1747) rfl rfl rfl rfl (And.intro (fun c => ?_) (fun c => ?_))
    · have H := H.1 c
      refine zq_aload (pc' := 1748) rfl rfl rfl rfl ?_
      refine zq_ipush (pc' := 1749) rfl rfl rfl ?_
      refine zq_lald (pc' := 1750) rfl rfl rfl (hp_la rfl (by unfold hin; decide)) ?_
      refine zq_iload (pc' := 1752) rfl rfl rfl rfl ?_
      refine zq_i2l (pc' := 1753) rfl rfl rfl ?_
      refine zq_lcmp (pc' := 1754) rfl rfl rfl ?_
      refine zq_ifeq (pc' := 1757) rfl rfl rfl rfl (And.intro (fun c => ?_) (fun c => ?_))
      · have H := H.1 c
        refine zq_goto_c (pc' := 2733) rfl rfl ?_
        exact H
      · have H := H.2 c
        refine zq_ipush (pc' := 1758) rfl rfl rfl ?_
        exact zq_iret rfl (Or.inl rfl) (Exists.intro _ (Exists.intro _ (And.intro rfl H)))
    · have H := H.2 c
      refine zq_goto_c (pc' := 2733) rfl rfl ?_
      exact H
  · have H := H.2 c
    refine zq_ipush (pc' := 1741) rfl rfl rfl ?_
    exact zq_iret rfl (Or.inl rfl) (Exists.intro _ (Exists.intro _ (And.intro rfl H)))
theorem zh_L_law_1762 {d : Nat} {k : Int32 → hG → hE → Prop} {X : Nat → hG → hE → Prop} {l4 : Int32} {g : hG} {e : hE} (H :
    hin (l4 + 1) e.2.2.2 ∧
    hin (l4 + 2) e.2.2.2 ∧
    hin (l4 + 3) e.2.2.2 ∧
    hci d 352 [.ref 1000, .int (g.1 997 (l4 + 1).toNatClampNeg), .int (g.1 997 (l4 + 2).toNatClampNeg), .int (g.1 997 (l4 + 3).toNatClampNeg), .ref 1088] g e (fun x6 g4 e5 =>
      hin (l4 + 1) e5.2.2.2 ∧
      hin (l4 + 2) e5.2.2.2 ∧
      hin (l4 + 3) e5.2.2.2 ∧
      hci d 315 [.ref 1046, .int (g4.1 997 (l4 + 1).toNatClampNeg), .int (g4.1 997 (l4 + 2).toNatClampNeg), .int (g4.1 997 (l4 + 3).toNatClampNeg)] g4 e5 (fun x12 g10 e11 =>
        hci d 214 [.ref 1046] g10 e11 (fun x15 g13 e14 =>
          zbr (x15 = x6)
          (zbr (x6 = 0)
            (zbr ((lg_cmp (g13.2.1 1088 0) ((x12 : Int32).toInt64)) = 0)
              (hwi d zm_L_law k X 2733 [(0, .ref 997), (1, .ref 1000), (2, .ref 1046), (3, .ref 1088), (4, .int l4)] g13 e14)
              (k 0 g13 e14))
            (hwi d zm_L_law k X 2733 [(0, .ref 997), (1, .ref 1000), (2, .ref 1046), (3, .ref 1088), (4, .int l4)] g13 e14))
          (k 0 g13 e14)) X) X) X) : hwi d zm_L_law k X 1762 [(0, .ref 997), (1, .ref 1000), (2, .ref 1046), (3, .ref 1088), (4, .int l4)] g e := by
  refine zq_aload (pc' := 1763) rfl rfl rfl rfl ?_
  refine zq_aload (pc' := 1764) rfl rfl rfl rfl ?_
  refine zq_iload (pc' := 1766) rfl rfl rfl rfl ?_
  refine zq_ipush (pc' := 1767) rfl rfl rfl ?_
  refine zq_iadd (pc' := 1768) rfl rfl rfl ?_
  obtain ⟨hi1, H⟩ := H
  refine zq_iald (pc' := 1769) rfl rfl rfl (hscB hi1) ?_
  refine zq_aload (pc' := 1770) rfl rfl rfl rfl ?_
  refine zq_iload (pc' := 1772) rfl rfl rfl rfl ?_
  refine zq_ipush (pc' := 1773) rfl rfl rfl ?_
  refine zq_iadd (pc' := 1774) rfl rfl rfl ?_
  obtain ⟨hi2, H⟩ := H
  refine zq_iald (pc' := 1775) rfl rfl rfl (hscB hi2) ?_
  refine zq_aload (pc' := 1776) rfl rfl rfl rfl ?_
  refine zq_iload (pc' := 1778) rfl rfl rfl rfl ?_
  refine zq_ipush (pc' := 1779) rfl rfl rfl ?_
  refine zq_iadd (pc' := 1780) rfl rfl rfl ?_
  obtain ⟨hi3, H⟩ := H
  refine zq_iald (pc' := 1781) rfl rfl rfl (hscB hi3) ?_
  refine zq_aload (pc' := 1782) rfl rfl rfl rfl ?_
  refine hq_calli (pc' := 1785) rfl rfl rfl rfl rfl rfl h_Xi ?_
  refine hmonoi H ?_
  intro x6 g4 e5 H
  refine zq_istore (pc' := 1787) rfl rfl rfl ?_
  refine zq_aload (pc' := 1788) rfl rfl rfl rfl ?_
  refine zq_aload (pc' := 1789) rfl rfl rfl rfl ?_
  refine zq_iload (pc' := 1791) rfl rfl rfl rfl ?_
  refine zq_ipush (pc' := 1792) rfl rfl rfl ?_
  refine zq_iadd (pc' := 1793) rfl rfl rfl ?_
  obtain ⟨hi7, H⟩ := H
  refine zq_iald (pc' := 1794) rfl rfl rfl (hscB hi7) ?_
  refine zq_aload (pc' := 1795) rfl rfl rfl rfl ?_
  refine zq_iload (pc' := 1797) rfl rfl rfl rfl ?_
  refine zq_ipush (pc' := 1798) rfl rfl rfl ?_
  refine zq_iadd (pc' := 1799) rfl rfl rfl ?_
  obtain ⟨hi8, H⟩ := H
  refine zq_iald (pc' := 1800) rfl rfl rfl (hscB hi8) ?_
  refine zq_aload (pc' := 1801) rfl rfl rfl rfl ?_
  refine zq_iload (pc' := 1803) rfl rfl rfl rfl ?_
  refine zq_ipush (pc' := 1804) rfl rfl rfl ?_
  refine zq_iadd (pc' := 1805) rfl rfl rfl ?_
  obtain ⟨hi9, H⟩ := H
  refine zq_iald (pc' := 1806) rfl rfl rfl (hscB hi9) ?_
  refine hq_calli (pc' := 1809) rfl rfl rfl rfl rfl rfl h_Xi ?_
  refine hmonoi H ?_
  intro x12 g10 e11 H
  refine zq_istore (pc' := 1811) rfl rfl rfl ?_
  refine zq_aload (pc' := 1812) rfl rfl rfl rfl ?_
  refine hq_calli (pc' := 1815) rfl rfl rfl rfl rfl rfl h_Xi ?_
  refine hmonoi H ?_
  intro x15 g13 e14 H
  refine zq_iload (pc' := 1817) rfl rfl rfl rfl ?_
  refine zq_iceq (pc' := 1820) rfl rfl rfl rfl (And.intro (fun c => ?_) (fun c => ?_))
  · have H := H.1 c
    refine zq_iload (pc' := 1824) rfl rfl rfl rfl ?_
    refine zq_ifne (pc' := 1827) rfl rfl rfl rfl (And.intro (fun c => ?_) (fun c => ?_))
    · have H := H.1 c
      refine zq_aload (pc' := 1828) rfl rfl rfl rfl ?_
      refine zq_ipush (pc' := 1829) rfl rfl rfl ?_
      refine zq_lald (pc' := 1830) rfl rfl rfl (hp_la rfl (by unfold hin; decide)) ?_
      refine zq_iload (pc' := 1832) rfl rfl rfl rfl ?_
      refine zq_i2l (pc' := 1833) rfl rfl rfl ?_
      refine zq_lcmp (pc' := 1834) rfl rfl rfl ?_
      refine zq_ifeq (pc' := 1837) rfl rfl rfl rfl (And.intro (fun c => ?_) (fun c => ?_))
      · have H := H.1 c
        refine zq_goto_c (pc' := 2733) rfl rfl ?_
        exact H
      · have H := H.2 c
        refine zq_ipush (pc' := 1838) rfl rfl rfl ?_
        exact zq_iret rfl (Or.inl rfl) (Exists.intro _ (Exists.intro _ (And.intro rfl H)))
    · have H := H.2 c
      refine zq_goto_c (pc' := 2733) rfl rfl ?_
      exact H
  · have H := H.2 c
    refine zq_ipush (pc' := 1821) rfl rfl rfl ?_
    exact zq_iret rfl (Or.inl rfl) (Exists.intro _ (Exists.intro _ (And.intro rfl H)))
theorem zh_L_law_1842 {d : Nat} {k : Int32 → hG → hE → Prop} {X : Nat → hG → hE → Prop} {l4 : Int32} {g : hG} {e : hE} (H :
    hin (l4 + 1) e.2.2.2 ∧
    hin (l4 + 2) e.2.2.2 ∧
    hci d 353 [.ref 1000, .int (g.1 997 (l4 + 1).toNatClampNeg), .int (g.1 997 (l4 + 2).toNatClampNeg), .ref 1088] g e (fun x5 g3 e4 =>
      hin (l4 + 1) e4.2.2.2 ∧
      hin (l4 + 2) e4.2.2.2 ∧
      hci d 316 [.ref 1046, .int (g3.1 997 (l4 + 1).toNatClampNeg), .int (g3.1 997 (l4 + 2).toNatClampNeg)] g3 e4 (fun x10 g8 e9 =>
        hci d 214 [.ref 1046] g8 e9 (fun x13 g11 e12 =>
          zbr (x13 = x5)
          (zbr (x5 = 0)
            (zbr ((lg_cmp (g11.2.1 1088 0) ((x10 : Int32).toInt64)) = 0)
              (hwi d zm_L_law k X 2733 [(0, .ref 997), (1, .ref 1000), (2, .ref 1046), (3, .ref 1088), (4, .int l4)] g11 e12)
              (k 0 g11 e12))
            (hwi d zm_L_law k X 2733 [(0, .ref 997), (1, .ref 1000), (2, .ref 1046), (3, .ref 1088), (4, .int l4)] g11 e12))
          (k 0 g11 e12)) X) X) X) : hwi d zm_L_law k X 1842 [(0, .ref 997), (1, .ref 1000), (2, .ref 1046), (3, .ref 1088), (4, .int l4)] g e := by
  refine zq_aload (pc' := 1843) rfl rfl rfl rfl ?_
  refine zq_aload (pc' := 1844) rfl rfl rfl rfl ?_
  refine zq_iload (pc' := 1846) rfl rfl rfl rfl ?_
  refine zq_ipush (pc' := 1847) rfl rfl rfl ?_
  refine zq_iadd (pc' := 1848) rfl rfl rfl ?_
  obtain ⟨hi1, H⟩ := H
  refine zq_iald (pc' := 1849) rfl rfl rfl (hscB hi1) ?_
  refine zq_aload (pc' := 1850) rfl rfl rfl rfl ?_
  refine zq_iload (pc' := 1852) rfl rfl rfl rfl ?_
  refine zq_ipush (pc' := 1853) rfl rfl rfl ?_
  refine zq_iadd (pc' := 1854) rfl rfl rfl ?_
  obtain ⟨hi2, H⟩ := H
  refine zq_iald (pc' := 1855) rfl rfl rfl (hscB hi2) ?_
  refine zq_aload (pc' := 1856) rfl rfl rfl rfl ?_
  refine hq_calli (pc' := 1859) rfl rfl rfl rfl rfl rfl h_Xi ?_
  refine hmonoi H ?_
  intro x5 g3 e4 H
  refine zq_istore (pc' := 1861) rfl rfl rfl ?_
  refine zq_aload (pc' := 1862) rfl rfl rfl rfl ?_
  refine zq_aload (pc' := 1863) rfl rfl rfl rfl ?_
  refine zq_iload (pc' := 1865) rfl rfl rfl rfl ?_
  refine zq_ipush (pc' := 1866) rfl rfl rfl ?_
  refine zq_iadd (pc' := 1867) rfl rfl rfl ?_
  obtain ⟨hi6, H⟩ := H
  refine zq_iald (pc' := 1868) rfl rfl rfl (hscB hi6) ?_
  refine zq_aload (pc' := 1869) rfl rfl rfl rfl ?_
  refine zq_iload (pc' := 1871) rfl rfl rfl rfl ?_
  refine zq_ipush (pc' := 1872) rfl rfl rfl ?_
  refine zq_iadd (pc' := 1873) rfl rfl rfl ?_
  obtain ⟨hi7, H⟩ := H
  refine zq_iald (pc' := 1874) rfl rfl rfl (hscB hi7) ?_
  refine hq_calli (pc' := 1877) rfl rfl rfl rfl rfl rfl h_Xi ?_
  refine hmonoi H ?_
  intro x10 g8 e9 H
  refine zq_istore (pc' := 1879) rfl rfl rfl ?_
  refine zq_aload (pc' := 1880) rfl rfl rfl rfl ?_
  refine hq_calli (pc' := 1883) rfl rfl rfl rfl rfl rfl h_Xi ?_
  refine hmonoi H ?_
  intro x13 g11 e12 H
  refine zq_iload (pc' := 1885) rfl rfl rfl rfl ?_
  refine zq_iceq (pc' := 1888) rfl rfl rfl rfl (And.intro (fun c => ?_) (fun c => ?_))
  · have H := H.1 c
    refine zq_iload (pc' := 1892) rfl rfl rfl rfl ?_
    refine zq_ifne (pc' := 1895) rfl rfl rfl rfl (And.intro (fun c => ?_) (fun c => ?_))
    · have H := H.1 c
      refine zq_aload (pc' := 1896) rfl rfl rfl rfl ?_
      refine zq_ipush (pc' := 1897) rfl rfl rfl ?_
      refine zq_lald (pc' := 1898) rfl rfl rfl (hp_la rfl (by unfold hin; decide)) ?_
      refine zq_iload (pc' := 1900) rfl rfl rfl rfl ?_
      refine zq_i2l (pc' := 1901) rfl rfl rfl ?_
      refine zq_lcmp (pc' := 1902) rfl rfl rfl ?_
      refine zq_ifeq (pc' := 1905) rfl rfl rfl rfl (And.intro (fun c => ?_) (fun c => ?_))
      · have H := H.1 c
        refine zq_goto_c (pc' := 2733) rfl rfl ?_
        exact H
      · have H := H.2 c
        refine zq_ipush (pc' := 1906) rfl rfl rfl ?_
        exact zq_iret rfl (Or.inl rfl) (Exists.intro _ (Exists.intro _ (And.intro rfl H)))
    · have H := H.2 c
      refine zq_goto_c (pc' := 2733) rfl rfl ?_
      exact H
  · have H := H.2 c
    refine zq_ipush (pc' := 1889) rfl rfl rfl ?_
    exact zq_iret rfl (Or.inl rfl) (Exists.intro _ (Exists.intro _ (And.intro rfl H)))
theorem zh_L_law_1910 {d : Nat} {k : Int32 → hG → hE → Prop} {X : Nat → hG → hE → Prop} {l4 : Int32} {g : hG} {e : hE} (H :
    hin (l4 + 1) e.2.2.2 ∧
    hin (l4 + 2) e.2.2.2 ∧
    hin (l4 + 3) e.2.2.2 ∧
    hin (l4 + 4) e.2.2.2 ∧
    zbr ((g.1 997 (l4 + 4).toNatClampNeg) = 0)
    (hci d 354 [.ref 1000, .int (g.1 997 (l4 + 1).toNatClampNeg), .int (g.1 997 (l4 + 2).toNatClampNeg), .int (g.1 997 (l4 + 3).toNatClampNeg), .int 0, .ref 1088] g e (fun x7 g5 e6 =>
        hin (l4 + 1) e6.2.2.2 ∧
        hin (l4 + 2) e6.2.2.2 ∧
        hin (l4 + 3) e6.2.2.2 ∧
        hin (l4 + 4) e6.2.2.2 ∧
        zbr ((g5.1 997 (l4 + 4).toNatClampNeg) = 0)
        (hci d 317 [.ref 1046, .int (g5.1 997 (l4 + 1).toNatClampNeg), .int (g5.1 997 (l4 + 2).toNatClampNeg), .int (g5.1 997 (l4 + 3).toNatClampNeg), .int 0] g5 e6 (fun x14 g12 e13 =>
            hci d 214 [.ref 1046] g12 e13 (fun x17 g15 e16 =>
              zbr (x17 = x7)
              (zbr (x7 = 0)
                (zbr ((lg_cmp (g15.2.1 1088 0) ((x14 : Int32).toInt64)) = 0)
                  (hwi d zm_L_law k X 2733 [(0, .ref 997), (1, .ref 1000), (2, .ref 1046), (3, .ref 1088), (4, .int l4)] g15 e16)
                  (k 0 g15 e16))
                (hwi d zm_L_law k X 2733 [(0, .ref 997), (1, .ref 1000), (2, .ref 1046), (3, .ref 1088), (4, .int l4)] g15 e16))
              (k 0 g15 e16)) X) X)
        (hci d 317 [.ref 1046, .int (g5.1 997 (l4 + 1).toNatClampNeg), .int (g5.1 997 (l4 + 2).toNatClampNeg), .int (g5.1 997 (l4 + 3).toNatClampNeg), .int 1] g5 e6 (fun x21 g19 e20 =>
            hci d 214 [.ref 1046] g19 e20 (fun x24 g22 e23 =>
              zbr (x24 = x7)
              (zbr (x7 = 0)
                (zbr ((lg_cmp (g22.2.1 1088 0) ((x21 : Int32).toInt64)) = 0)
                  (hwi d zm_L_law k X 2733 [(0, .ref 997), (1, .ref 1000), (2, .ref 1046), (3, .ref 1088), (4, .int l4)] g22 e23)
                  (k 0 g22 e23))
                (hwi d zm_L_law k X 2733 [(0, .ref 997), (1, .ref 1000), (2, .ref 1046), (3, .ref 1088), (4, .int l4)] g22 e23))
              (k 0 g22 e23)) X) X)) X)
    (hci d 354 [.ref 1000, .int (g.1 997 (l4 + 1).toNatClampNeg), .int (g.1 997 (l4 + 2).toNatClampNeg), .int (g.1 997 (l4 + 3).toNatClampNeg), .int 1, .ref 1088] g e (fun x28 g26 e27 =>
        hin (l4 + 1) e27.2.2.2 ∧
        hin (l4 + 2) e27.2.2.2 ∧
        hin (l4 + 3) e27.2.2.2 ∧
        hin (l4 + 4) e27.2.2.2 ∧
        zbr ((g26.1 997 (l4 + 4).toNatClampNeg) = 0)
        (hci d 317 [.ref 1046, .int (g26.1 997 (l4 + 1).toNatClampNeg), .int (g26.1 997 (l4 + 2).toNatClampNeg), .int (g26.1 997 (l4 + 3).toNatClampNeg), .int 0] g26 e27 (fun x35 g33 e34 =>
            hci d 214 [.ref 1046] g33 e34 (fun x38 g36 e37 =>
              zbr (x38 = x28)
              (zbr (x28 = 0)
                (zbr ((lg_cmp (g36.2.1 1088 0) ((x35 : Int32).toInt64)) = 0)
                  (hwi d zm_L_law k X 2733 [(0, .ref 997), (1, .ref 1000), (2, .ref 1046), (3, .ref 1088), (4, .int l4)] g36 e37)
                  (k 0 g36 e37))
                (hwi d zm_L_law k X 2733 [(0, .ref 997), (1, .ref 1000), (2, .ref 1046), (3, .ref 1088), (4, .int l4)] g36 e37))
              (k 0 g36 e37)) X) X)
        (hci d 317 [.ref 1046, .int (g26.1 997 (l4 + 1).toNatClampNeg), .int (g26.1 997 (l4 + 2).toNatClampNeg), .int (g26.1 997 (l4 + 3).toNatClampNeg), .int 1] g26 e27 (fun x42 g40 e41 =>
            hci d 214 [.ref 1046] g40 e41 (fun x45 g43 e44 =>
              zbr (x45 = x28)
              (zbr (x28 = 0)
                (zbr ((lg_cmp (g43.2.1 1088 0) ((x42 : Int32).toInt64)) = 0)
                  (hwi d zm_L_law k X 2733 [(0, .ref 997), (1, .ref 1000), (2, .ref 1046), (3, .ref 1088), (4, .int l4)] g43 e44)
                  (k 0 g43 e44))
                (hwi d zm_L_law k X 2733 [(0, .ref 997), (1, .ref 1000), (2, .ref 1046), (3, .ref 1088), (4, .int l4)] g43 e44))
              (k 0 g43 e44)) X) X)) X)) : hwi d zm_L_law k X 1910 [(0, .ref 997), (1, .ref 1000), (2, .ref 1046), (3, .ref 1088), (4, .int l4)] g e := by
  refine zq_aload (pc' := 1911) rfl rfl rfl rfl ?_
  refine zq_aload (pc' := 1912) rfl rfl rfl rfl ?_
  refine zq_iload (pc' := 1914) rfl rfl rfl rfl ?_
  refine zq_ipush (pc' := 1915) rfl rfl rfl ?_
  refine zq_iadd (pc' := 1916) rfl rfl rfl ?_
  obtain ⟨hi1, H⟩ := H
  refine zq_iald (pc' := 1917) rfl rfl rfl (hscB hi1) ?_
  refine zq_aload (pc' := 1918) rfl rfl rfl rfl ?_
  refine zq_iload (pc' := 1920) rfl rfl rfl rfl ?_
  refine zq_ipush (pc' := 1921) rfl rfl rfl ?_
  refine zq_iadd (pc' := 1922) rfl rfl rfl ?_
  obtain ⟨hi2, H⟩ := H
  refine zq_iald (pc' := 1923) rfl rfl rfl (hscB hi2) ?_
  refine zq_aload (pc' := 1924) rfl rfl rfl rfl ?_
  refine zq_iload (pc' := 1926) rfl rfl rfl rfl ?_
  refine zq_ipush (pc' := 1927) rfl rfl rfl ?_
  refine zq_iadd (pc' := 1928) rfl rfl rfl ?_
  obtain ⟨hi3, H⟩ := H
  refine zq_iald (pc' := 1929) rfl rfl rfl (hscB hi3) ?_
  refine zq_aload (pc' := 1930) rfl rfl rfl rfl ?_
  refine zq_iload (pc' := 1932) rfl rfl rfl rfl ?_
  refine zq_ipush (pc' := 1933) rfl rfl rfl ?_
  refine zq_iadd (pc' := 1934) rfl rfl rfl ?_
  obtain ⟨hi4, H⟩ := H
  refine zq_iald (pc' := 1935) rfl rfl rfl (hscB hi4) ?_
  refine zq_ifeq (pc' := 1938) rfl rfl rfl rfl (And.intro (fun c => ?_) (fun c => ?_))
  · have H := H.1 c
    refine zq_ipush (pc' := 1943) rfl rfl rfl ?_
    refine zq_aload (pc' := 1944) rfl rfl rfl rfl ?_
    refine hq_calli (pc' := 1947) rfl rfl rfl rfl rfl rfl h_Xi ?_
    refine hmonoi H ?_
    intro x7 g5 e6 H
    refine zq_istore (pc' := 1949) rfl rfl rfl ?_
    refine zq_aload (pc' := 1950) rfl rfl rfl rfl ?_
    refine zq_aload (pc' := 1951) rfl rfl rfl rfl ?_
    refine zq_iload (pc' := 1953) rfl rfl rfl rfl ?_
    refine zq_ipush (pc' := 1954) rfl rfl rfl ?_
    refine zq_iadd (pc' := 1955) rfl rfl rfl ?_
    obtain ⟨hi8, H⟩ := H
    refine zq_iald (pc' := 1956) rfl rfl rfl (hscB hi8) ?_
    refine zq_aload (pc' := 1957) rfl rfl rfl rfl ?_
    refine zq_iload (pc' := 1959) rfl rfl rfl rfl ?_
    refine zq_ipush (pc' := 1960) rfl rfl rfl ?_
    refine zq_iadd (pc' := 1961) rfl rfl rfl ?_
    obtain ⟨hi9, H⟩ := H
    refine zq_iald (pc' := 1962) rfl rfl rfl (hscB hi9) ?_
    refine zq_aload (pc' := 1963) rfl rfl rfl rfl ?_
    refine zq_iload (pc' := 1965) rfl rfl rfl rfl ?_
    refine zq_ipush (pc' := 1966) rfl rfl rfl ?_
    refine zq_iadd (pc' := 1967) rfl rfl rfl ?_
    obtain ⟨hi10, H⟩ := H
    refine zq_iald (pc' := 1968) rfl rfl rfl (hscB hi10) ?_
    refine zq_aload (pc' := 1969) rfl rfl rfl rfl ?_
    refine zq_iload (pc' := 1971) rfl rfl rfl rfl ?_
    refine zq_ipush (pc' := 1972) rfl rfl rfl ?_
    refine zq_iadd (pc' := 1973) rfl rfl rfl ?_
    obtain ⟨hi11, H⟩ := H
    refine zq_iald (pc' := 1974) rfl rfl rfl (hscB hi11) ?_
    refine zq_ifeq (pc' := 1977) rfl rfl rfl rfl (And.intro (fun c => ?_) (fun c => ?_))
    · have H := H.1 c
      refine zq_ipush (pc' := 1982) rfl rfl rfl ?_
      refine hq_calli (pc' := 1985) rfl rfl rfl rfl rfl rfl h_Xi ?_
      refine hmonoi H ?_
      intro x14 g12 e13 H
      refine zq_istore (pc' := 1987) rfl rfl rfl ?_
      refine zq_aload (pc' := 1988) rfl rfl rfl rfl ?_
      refine hq_calli (pc' := 1991) rfl rfl rfl rfl rfl rfl h_Xi ?_
      refine hmonoi H ?_
      intro x17 g15 e16 H
      refine zq_iload (pc' := 1993) rfl rfl rfl rfl ?_
      refine zq_iceq (pc' := 1996) rfl rfl rfl rfl (And.intro (fun c => ?_) (fun c => ?_))
      · have H := H.1 c
        refine zq_iload (pc' := 2000) rfl rfl rfl rfl ?_
        refine zq_ifne (pc' := 2003) rfl rfl rfl rfl (And.intro (fun c => ?_) (fun c => ?_))
        · have H := H.1 c
          refine zq_aload (pc' := 2004) rfl rfl rfl rfl ?_
          refine zq_ipush (pc' := 2005) rfl rfl rfl ?_
          refine zq_lald (pc' := 2006) rfl rfl rfl (hp_la rfl (by unfold hin; decide)) ?_
          refine zq_iload (pc' := 2008) rfl rfl rfl rfl ?_
          refine zq_i2l (pc' := 2009) rfl rfl rfl ?_
          refine zq_lcmp (pc' := 2010) rfl rfl rfl ?_
          refine zq_ifeq (pc' := 2013) rfl rfl rfl rfl (And.intro (fun c => ?_) (fun c => ?_))
          · have H := H.1 c
            refine zq_goto_c (pc' := 2733) rfl rfl ?_
            exact H
          · have H := H.2 c
            refine zq_ipush (pc' := 2014) rfl rfl rfl ?_
            exact zq_iret rfl (Or.inl rfl) (Exists.intro _ (Exists.intro _ (And.intro rfl H)))
        · have H := H.2 c
          refine zq_goto_c (pc' := 2733) rfl rfl ?_
          exact H
      · have H := H.2 c
        refine zq_ipush (pc' := 1997) rfl rfl rfl ?_
        exact zq_iret rfl (Or.inl rfl) (Exists.intro _ (Exists.intro _ (And.intro rfl H)))
    · have H := H.2 c
      refine zq_ipush (pc' := 1978) rfl rfl rfl ?_
      refine zq_goto (pc' := 1982) rfl rfl rfl ?_
      refine hq_calli (pc' := 1985) rfl rfl rfl rfl rfl rfl h_Xi ?_
      refine hmonoi H ?_
      intro x21 g19 e20 H
      refine zq_istore (pc' := 1987) rfl rfl rfl ?_
      refine zq_aload (pc' := 1988) rfl rfl rfl rfl ?_
      refine hq_calli (pc' := 1991) rfl rfl rfl rfl rfl rfl h_Xi ?_
      refine hmonoi H ?_
      intro x24 g22 e23 H
      refine zq_iload (pc' := 1993) rfl rfl rfl rfl ?_
      refine zq_iceq (pc' := 1996) rfl rfl rfl rfl (And.intro (fun c => ?_) (fun c => ?_))
      · have H := H.1 c
        refine zq_iload (pc' := 2000) rfl rfl rfl rfl ?_
        refine zq_ifne (pc' := 2003) rfl rfl rfl rfl (And.intro (fun c => ?_) (fun c => ?_))
        · have H := H.1 c
          refine zq_aload (pc' := 2004) rfl rfl rfl rfl ?_
          refine zq_ipush (pc' := 2005) rfl rfl rfl ?_
          refine zq_lald (pc' := 2006) rfl rfl rfl (hp_la rfl (by unfold hin; decide)) ?_
          refine zq_iload (pc' := 2008) rfl rfl rfl rfl ?_
          refine zq_i2l (pc' := 2009) rfl rfl rfl ?_
          refine zq_lcmp (pc' := 2010) rfl rfl rfl ?_
          refine zq_ifeq (pc' := 2013) rfl rfl rfl rfl (And.intro (fun c => ?_) (fun c => ?_))
          · have H := H.1 c
            refine zq_goto_c (pc' := 2733) rfl rfl ?_
            exact H
          · have H := H.2 c
            refine zq_ipush (pc' := 2014) rfl rfl rfl ?_
            exact zq_iret rfl (Or.inl rfl) (Exists.intro _ (Exists.intro _ (And.intro rfl H)))
        · have H := H.2 c
          refine zq_goto_c (pc' := 2733) rfl rfl ?_
          exact H
      · have H := H.2 c
        refine zq_ipush (pc' := 1997) rfl rfl rfl ?_
        exact zq_iret rfl (Or.inl rfl) (Exists.intro _ (Exists.intro _ (And.intro rfl H)))
  · have H := H.2 c
    refine zq_ipush (pc' := 1939) rfl rfl rfl ?_
    refine zq_goto (pc' := 1943) rfl rfl rfl ?_
    refine zq_aload (pc' := 1944) rfl rfl rfl rfl ?_
    refine hq_calli (pc' := 1947) rfl rfl rfl rfl rfl rfl h_Xi ?_
    refine hmonoi H ?_
    intro x28 g26 e27 H
    refine zq_istore (pc' := 1949) rfl rfl rfl ?_
    refine zq_aload (pc' := 1950) rfl rfl rfl rfl ?_
    refine zq_aload (pc' := 1951) rfl rfl rfl rfl ?_
    refine zq_iload (pc' := 1953) rfl rfl rfl rfl ?_
    refine zq_ipush (pc' := 1954) rfl rfl rfl ?_
    refine zq_iadd (pc' := 1955) rfl rfl rfl ?_
    obtain ⟨hi29, H⟩ := H
    refine zq_iald (pc' := 1956) rfl rfl rfl (hscB hi29) ?_
    refine zq_aload (pc' := 1957) rfl rfl rfl rfl ?_
    refine zq_iload (pc' := 1959) rfl rfl rfl rfl ?_
    refine zq_ipush (pc' := 1960) rfl rfl rfl ?_
    refine zq_iadd (pc' := 1961) rfl rfl rfl ?_
    obtain ⟨hi30, H⟩ := H
    refine zq_iald (pc' := 1962) rfl rfl rfl (hscB hi30) ?_
    refine zq_aload (pc' := 1963) rfl rfl rfl rfl ?_
    refine zq_iload (pc' := 1965) rfl rfl rfl rfl ?_
    refine zq_ipush (pc' := 1966) rfl rfl rfl ?_
    refine zq_iadd (pc' := 1967) rfl rfl rfl ?_
    obtain ⟨hi31, H⟩ := H
    refine zq_iald (pc' := 1968) rfl rfl rfl (hscB hi31) ?_
    refine zq_aload (pc' := 1969) rfl rfl rfl rfl ?_
    refine zq_iload (pc' := 1971) rfl rfl rfl rfl ?_
    refine zq_ipush (pc' := 1972) rfl rfl rfl ?_
    refine zq_iadd (pc' := 1973) rfl rfl rfl ?_
    obtain ⟨hi32, H⟩ := H
    refine zq_iald (pc' := 1974) rfl rfl rfl (hscB hi32) ?_
    refine zq_ifeq (pc' := 1977) rfl rfl rfl rfl (And.intro (fun c => ?_) (fun c => ?_))
    · have H := H.1 c
      refine zq_ipush (pc' := 1982) rfl rfl rfl ?_
      refine hq_calli (pc' := 1985) rfl rfl rfl rfl rfl rfl h_Xi ?_
      refine hmonoi H ?_
      intro x35 g33 e34 H
      refine zq_istore (pc' := 1987) rfl rfl rfl ?_
      refine zq_aload (pc' := 1988) rfl rfl rfl rfl ?_
      refine hq_calli (pc' := 1991) rfl rfl rfl rfl rfl rfl h_Xi ?_
      refine hmonoi H ?_
      intro x38 g36 e37 H
      refine zq_iload (pc' := 1993) rfl rfl rfl rfl ?_
      refine zq_iceq (pc' := 1996) rfl rfl rfl rfl (And.intro (fun c => ?_) (fun c => ?_))
      · have H := H.1 c
        refine zq_iload (pc' := 2000) rfl rfl rfl rfl ?_
        refine zq_ifne (pc' := 2003) rfl rfl rfl rfl (And.intro (fun c => ?_) (fun c => ?_))
        · have H := H.1 c
          refine zq_aload (pc' := 2004) rfl rfl rfl rfl ?_
          refine zq_ipush (pc' := 2005) rfl rfl rfl ?_
          refine zq_lald (pc' := 2006) rfl rfl rfl (hp_la rfl (by unfold hin; decide)) ?_
          refine zq_iload (pc' := 2008) rfl rfl rfl rfl ?_
          refine zq_i2l (pc' := 2009) rfl rfl rfl ?_
          refine zq_lcmp (pc' := 2010) rfl rfl rfl ?_
          refine zq_ifeq (pc' := 2013) rfl rfl rfl rfl (And.intro (fun c => ?_) (fun c => ?_))
          · have H := H.1 c
            refine zq_goto_c (pc' := 2733) rfl rfl ?_
            exact H
          · have H := H.2 c
            refine zq_ipush (pc' := 2014) rfl rfl rfl ?_
            exact zq_iret rfl (Or.inl rfl) (Exists.intro _ (Exists.intro _ (And.intro rfl H)))
        · have H := H.2 c
          refine zq_goto_c (pc' := 2733) rfl rfl ?_
          exact H
      · have H := H.2 c
        refine zq_ipush (pc' := 1997) rfl rfl rfl ?_
        exact zq_iret rfl (Or.inl rfl) (Exists.intro _ (Exists.intro _ (And.intro rfl H)))
    · have H := H.2 c
      refine zq_ipush (pc' := 1978) rfl rfl rfl ?_
      refine zq_goto (pc' := 1982) rfl rfl rfl ?_
      refine hq_calli (pc' := 1985) rfl rfl rfl rfl rfl rfl h_Xi ?_
      refine hmonoi H ?_
      intro x42 g40 e41 H
      refine zq_istore (pc' := 1987) rfl rfl rfl ?_
      refine zq_aload (pc' := 1988) rfl rfl rfl rfl ?_
      refine hq_calli (pc' := 1991) rfl rfl rfl rfl rfl rfl h_Xi ?_
      refine hmonoi H ?_
      intro x45 g43 e44 H
      refine zq_iload (pc' := 1993) rfl rfl rfl rfl ?_
      refine zq_iceq (pc' := 1996) rfl rfl rfl rfl (And.intro (fun c => ?_) (fun c => ?_))
      · have H := H.1 c
        refine zq_iload (pc' := 2000) rfl rfl rfl rfl ?_
        refine zq_ifne (pc' := 2003) rfl rfl rfl rfl (And.intro (fun c => ?_) (fun c => ?_))
        · have H := H.1 c
          refine zq_aload (pc' := 2004) rfl rfl rfl rfl ?_
          refine zq_ipush (pc' := 2005) rfl rfl rfl ?_
          refine zq_lald (pc' := 2006) rfl rfl rfl (hp_la rfl (by unfold hin; decide)) ?_
          refine zq_iload (pc' := 2008) rfl rfl rfl rfl ?_
          refine zq_i2l (pc' := 2009) rfl rfl rfl ?_
          refine zq_lcmp (pc' := 2010) rfl rfl rfl ?_
          refine zq_ifeq (pc' := 2013) rfl rfl rfl rfl (And.intro (fun c => ?_) (fun c => ?_))
          · have H := H.1 c
            refine zq_goto_c (pc' := 2733) rfl rfl ?_
            exact H
          · have H := H.2 c
            refine zq_ipush (pc' := 2014) rfl rfl rfl ?_
            exact zq_iret rfl (Or.inl rfl) (Exists.intro _ (Exists.intro _ (And.intro rfl H)))
        · have H := H.2 c
          refine zq_goto_c (pc' := 2733) rfl rfl ?_
          exact H
      · have H := H.2 c
        refine zq_ipush (pc' := 1997) rfl rfl rfl ?_
        exact zq_iret rfl (Or.inl rfl) (Exists.intro _ (Exists.intro _ (And.intro rfl H)))
theorem zh_L_law_2018 {d : Nat} {k : Int32 → hG → hE → Prop} {X : Nat → hG → hE → Prop} {l4 : Int32} {g : hG} {e : hE} (H :
    hin (l4 + 1) e.2.2.2 ∧
    hci d 355 [.ref 1000, .int (g.1 997 (l4 + 1).toNatClampNeg), .ref 1088] g e (fun x4 g2 e3 =>
      hin (l4 + 1) e3.2.2.2 ∧
      hci d 320 [.ref 1046, .int (g2.1 997 (l4 + 1).toNatClampNeg)] g2 e3 (fun x8 g6 e7 =>
        hci d 214 [.ref 1046] g6 e7 (fun x11 g9 e10 =>
          zbr (x11 = x4)
          (zbr (x4 = 0)
            (zbr ((lg_cmp (g9.2.1 1088 0) ((x8 : Int32).toInt64)) = 0)
              (hwi d zm_L_law k X 2733 [(0, .ref 997), (1, .ref 1000), (2, .ref 1046), (3, .ref 1088), (4, .int l4)] g9 e10)
              (k 0 g9 e10))
            (hwi d zm_L_law k X 2733 [(0, .ref 997), (1, .ref 1000), (2, .ref 1046), (3, .ref 1088), (4, .int l4)] g9 e10))
          (k 0 g9 e10)) X) X) X) : hwi d zm_L_law k X 2018 [(0, .ref 997), (1, .ref 1000), (2, .ref 1046), (3, .ref 1088), (4, .int l4)] g e := by
  refine zq_aload (pc' := 2019) rfl rfl rfl rfl ?_
  refine zq_aload (pc' := 2020) rfl rfl rfl rfl ?_
  refine zq_iload (pc' := 2022) rfl rfl rfl rfl ?_
  refine zq_ipush (pc' := 2023) rfl rfl rfl ?_
  refine zq_iadd (pc' := 2024) rfl rfl rfl ?_
  obtain ⟨hi1, H⟩ := H
  refine zq_iald (pc' := 2025) rfl rfl rfl (hscB hi1) ?_
  refine zq_aload (pc' := 2026) rfl rfl rfl rfl ?_
  refine hq_calli (pc' := 2029) rfl rfl rfl rfl rfl rfl h_Xi ?_
  refine hmonoi H ?_
  intro x4 g2 e3 H
  refine zq_istore (pc' := 2031) rfl rfl rfl ?_
  refine zq_aload (pc' := 2032) rfl rfl rfl rfl ?_
  refine zq_aload (pc' := 2033) rfl rfl rfl rfl ?_
  refine zq_iload (pc' := 2035) rfl rfl rfl rfl ?_
  refine zq_ipush (pc' := 2036) rfl rfl rfl ?_
  refine zq_iadd (pc' := 2037) rfl rfl rfl ?_
  obtain ⟨hi5, H⟩ := H
  refine zq_iald (pc' := 2038) rfl rfl rfl (hscB hi5) ?_
  refine hq_calli (pc' := 2041) rfl rfl rfl rfl rfl rfl h_Xi ?_
  refine hmonoi H ?_
  intro x8 g6 e7 H
  refine zq_istore (pc' := 2043) rfl rfl rfl ?_
  refine zq_aload (pc' := 2044) rfl rfl rfl rfl ?_
  refine hq_calli (pc' := 2047) rfl rfl rfl rfl rfl rfl h_Xi ?_
  refine hmonoi H ?_
  intro x11 g9 e10 H
  refine zq_iload (pc' := 2049) rfl rfl rfl rfl ?_
  refine zq_iceq (pc' := 2052) rfl rfl rfl rfl (And.intro (fun c => ?_) (fun c => ?_))
  · have H := H.1 c
    refine zq_iload (pc' := 2056) rfl rfl rfl rfl ?_
    refine zq_ifne (pc' := 2059) rfl rfl rfl rfl (And.intro (fun c => ?_) (fun c => ?_))
    · have H := H.1 c
      refine zq_aload (pc' := 2060) rfl rfl rfl rfl ?_
      refine zq_ipush (pc' := 2061) rfl rfl rfl ?_
      refine zq_lald (pc' := 2062) rfl rfl rfl (hp_la rfl (by unfold hin; decide)) ?_
      refine zq_iload (pc' := 2064) rfl rfl rfl rfl ?_
      refine zq_i2l (pc' := 2065) rfl rfl rfl ?_
      refine zq_lcmp (pc' := 2066) rfl rfl rfl ?_
      refine zq_ifeq (pc' := 2069) rfl rfl rfl rfl (And.intro (fun c => ?_) (fun c => ?_))
      · have H := H.1 c
        refine zq_goto_c (pc' := 2733) rfl rfl ?_
        exact H
      · have H := H.2 c
        refine zq_ipush (pc' := 2070) rfl rfl rfl ?_
        exact zq_iret rfl (Or.inl rfl) (Exists.intro _ (Exists.intro _ (And.intro rfl H)))
    · have H := H.2 c
      refine zq_goto_c (pc' := 2733) rfl rfl ?_
      exact H
  · have H := H.2 c
    refine zq_ipush (pc' := 2053) rfl rfl rfl ?_
    exact zq_iret rfl (Or.inl rfl) (Exists.intro _ (Exists.intro _ (And.intro rfl H)))
theorem zh_L_law_2074 {d : Nat} {k : Int32 → hG → hE → Prop} {X : Nat → hG → hE → Prop} {l4 : Int32} {g : hG} {e : hE} (H :
    hin (l4 + 1) e.2.2.2 ∧
    hci d 356 [.ref 1000, .int (g.1 997 (l4 + 1).toNatClampNeg), .ref 1088] g e (fun x4 g2 e3 =>
      hin (l4 + 1) e3.2.2.2 ∧
      hci d 321 [.ref 1046, .int (g2.1 997 (l4 + 1).toNatClampNeg)] g2 e3 (fun x8 g6 e7 =>
        hci d 214 [.ref 1046] g6 e7 (fun x11 g9 e10 =>
          zbr (x11 = x4)
          (zbr (x4 = 0)
            (zbr ((lg_cmp (g9.2.1 1088 0) ((x8 : Int32).toInt64)) = 0)
              (hwi d zm_L_law k X 2733 [(0, .ref 997), (1, .ref 1000), (2, .ref 1046), (3, .ref 1088), (4, .int l4)] g9 e10)
              (k 0 g9 e10))
            (hwi d zm_L_law k X 2733 [(0, .ref 997), (1, .ref 1000), (2, .ref 1046), (3, .ref 1088), (4, .int l4)] g9 e10))
          (k 0 g9 e10)) X) X) X) : hwi d zm_L_law k X 2074 [(0, .ref 997), (1, .ref 1000), (2, .ref 1046), (3, .ref 1088), (4, .int l4)] g e := by
  refine zq_aload (pc' := 2075) rfl rfl rfl rfl ?_
  refine zq_aload (pc' := 2076) rfl rfl rfl rfl ?_
  refine zq_iload (pc' := 2078) rfl rfl rfl rfl ?_
  refine zq_ipush (pc' := 2079) rfl rfl rfl ?_
  refine zq_iadd (pc' := 2080) rfl rfl rfl ?_
  obtain ⟨hi1, H⟩ := H
  refine zq_iald (pc' := 2081) rfl rfl rfl (hscB hi1) ?_
  refine zq_aload (pc' := 2082) rfl rfl rfl rfl ?_
  refine hq_calli (pc' := 2085) rfl rfl rfl rfl rfl rfl h_Xi ?_
  refine hmonoi H ?_
  intro x4 g2 e3 H
  refine zq_istore (pc' := 2087) rfl rfl rfl ?_
  refine zq_aload (pc' := 2088) rfl rfl rfl rfl ?_
  refine zq_aload (pc' := 2089) rfl rfl rfl rfl ?_
  refine zq_iload (pc' := 2091) rfl rfl rfl rfl ?_
  refine zq_ipush (pc' := 2092) rfl rfl rfl ?_
  refine zq_iadd (pc' := 2093) rfl rfl rfl ?_
  obtain ⟨hi5, H⟩ := H
  refine zq_iald (pc' := 2094) rfl rfl rfl (hscB hi5) ?_
  refine hq_calli (pc' := 2097) rfl rfl rfl rfl rfl rfl h_Xi ?_
  refine hmonoi H ?_
  intro x8 g6 e7 H
  refine zq_istore (pc' := 2099) rfl rfl rfl ?_
  refine zq_aload (pc' := 2100) rfl rfl rfl rfl ?_
  refine hq_calli (pc' := 2103) rfl rfl rfl rfl rfl rfl h_Xi ?_
  refine hmonoi H ?_
  intro x11 g9 e10 H
  refine zq_iload (pc' := 2105) rfl rfl rfl rfl ?_
  refine zq_iceq (pc' := 2108) rfl rfl rfl rfl (And.intro (fun c => ?_) (fun c => ?_))
  · have H := H.1 c
    refine zq_iload (pc' := 2112) rfl rfl rfl rfl ?_
    refine zq_ifne (pc' := 2115) rfl rfl rfl rfl (And.intro (fun c => ?_) (fun c => ?_))
    · have H := H.1 c
      refine zq_aload (pc' := 2116) rfl rfl rfl rfl ?_
      refine zq_ipush (pc' := 2117) rfl rfl rfl ?_
      refine zq_lald (pc' := 2118) rfl rfl rfl (hp_la rfl (by unfold hin; decide)) ?_
      refine zq_iload (pc' := 2120) rfl rfl rfl rfl ?_
      refine zq_i2l (pc' := 2121) rfl rfl rfl ?_
      refine zq_lcmp (pc' := 2122) rfl rfl rfl ?_
      refine zq_ifeq (pc' := 2125) rfl rfl rfl rfl (And.intro (fun c => ?_) (fun c => ?_))
      · have H := H.1 c
        refine zq_goto_c (pc' := 2733) rfl rfl ?_
        exact H
      · have H := H.2 c
        refine zq_ipush (pc' := 2126) rfl rfl rfl ?_
        exact zq_iret rfl (Or.inl rfl) (Exists.intro _ (Exists.intro _ (And.intro rfl H)))
    · have H := H.2 c
      refine zq_goto_c (pc' := 2733) rfl rfl ?_
      exact H
  · have H := H.2 c
    refine zq_ipush (pc' := 2109) rfl rfl rfl ?_
    exact zq_iret rfl (Or.inl rfl) (Exists.intro _ (Exists.intro _ (And.intro rfl H)))
theorem zh_L_law_2130 {d : Nat} {k : Int32 → hG → hE → Prop} {X : Nat → hG → hE → Prop} {l4 : Int32} {g : hG} {e : hE} (H :
    hcv d 190 [.ref 1000] g e (fun g1 e2 =>
      hcv d 322 [.ref 1046] g1 e2 (fun g3 e4 =>
        hwi d zm_L_law k X 2733 [(0, .ref 997), (1, .ref 1000), (2, .ref 1046), (3, .ref 1088), (4, .int l4)] g3 e4) X) X) : hwi d zm_L_law k X 2130 [(0, .ref 997), (1, .ref 1000), (2, .ref 1046), (3, .ref 1088), (4, .int l4)] g e := by
  refine zq_aload (pc' := 2131) rfl rfl rfl rfl ?_
  refine hq_callv (pc' := 2134) rfl rfl rfl rfl rfl rfl h_Xi ?_
  refine hmonov H ?_
  intro g1 e2 H
  refine zq_aload (pc' := 2135) rfl rfl rfl rfl ?_
  refine hq_callv (pc' := 2138) rfl rfl rfl rfl rfl rfl h_Xi ?_
  refine hmonov H ?_
  intro g3 e4 H
  refine zq_goto_c (pc' := 2733) rfl rfl ?_
  exact H
theorem zh_L_law_2141 {d : Nat} {k : Int32 → hG → hE → Prop} {X : Nat → hG → hE → Prop} {l4 : Int32} {g : hG} {e : hE} (H :
    hin (l4 + 1) e.2.2.2 ∧
    hin (l4 + 2) e.2.2.2 ∧
    hin (l4 + 3) e.2.2.2 ∧
    hin (l4 + 4) e.2.2.2 ∧
    hci d 357 [.ref 1000, .int (g.1 997 (l4 + 1).toNatClampNeg), .int (g.1 997 (l4 + 2).toNatClampNeg), .int (g.1 997 (l4 + 3).toNatClampNeg), .int (g.1 997 (l4 + 4).toNatClampNeg), .ref 1088] g e (fun x7 g5 e6 =>
      hin (l4 + 1) e6.2.2.2 ∧
      hin (l4 + 2) e6.2.2.2 ∧
      hin (l4 + 3) e6.2.2.2 ∧
      hin (l4 + 4) e6.2.2.2 ∧
      hci d 323 [.ref 1046, .int (g5.1 997 (l4 + 1).toNatClampNeg), .int (g5.1 997 (l4 + 2).toNatClampNeg), .int (g5.1 997 (l4 + 3).toNatClampNeg), .int (g5.1 997 (l4 + 4).toNatClampNeg)] g5 e6 (fun x14 g12 e13 =>
        hci d 214 [.ref 1046] g12 e13 (fun x17 g15 e16 =>
          zbr (x17 = x7)
          (zbr (x7 = 0)
            (zbr ((lg_cmp (g15.2.1 1088 0) ((x14 : Int32).toInt64)) = 0)
              (hwi d zm_L_law k X 2733 [(0, .ref 997), (1, .ref 1000), (2, .ref 1046), (3, .ref 1088), (4, .int l4)] g15 e16)
              (k 0 g15 e16))
            (hwi d zm_L_law k X 2733 [(0, .ref 997), (1, .ref 1000), (2, .ref 1046), (3, .ref 1088), (4, .int l4)] g15 e16))
          (k 0 g15 e16)) X) X) X) : hwi d zm_L_law k X 2141 [(0, .ref 997), (1, .ref 1000), (2, .ref 1046), (3, .ref 1088), (4, .int l4)] g e := by
  refine zq_aload (pc' := 2142) rfl rfl rfl rfl ?_
  refine zq_aload (pc' := 2143) rfl rfl rfl rfl ?_
  refine zq_iload (pc' := 2145) rfl rfl rfl rfl ?_
  refine zq_ipush (pc' := 2146) rfl rfl rfl ?_
  refine zq_iadd (pc' := 2147) rfl rfl rfl ?_
  obtain ⟨hi1, H⟩ := H
  refine zq_iald (pc' := 2148) rfl rfl rfl (hscB hi1) ?_
  refine zq_aload (pc' := 2149) rfl rfl rfl rfl ?_
  refine zq_iload (pc' := 2151) rfl rfl rfl rfl ?_
  refine zq_ipush (pc' := 2152) rfl rfl rfl ?_
  refine zq_iadd (pc' := 2153) rfl rfl rfl ?_
  obtain ⟨hi2, H⟩ := H
  refine zq_iald (pc' := 2154) rfl rfl rfl (hscB hi2) ?_
  refine zq_aload (pc' := 2155) rfl rfl rfl rfl ?_
  refine zq_iload (pc' := 2157) rfl rfl rfl rfl ?_
  refine zq_ipush (pc' := 2158) rfl rfl rfl ?_
  refine zq_iadd (pc' := 2159) rfl rfl rfl ?_
  obtain ⟨hi3, H⟩ := H
  refine zq_iald (pc' := 2160) rfl rfl rfl (hscB hi3) ?_
  refine zq_aload (pc' := 2161) rfl rfl rfl rfl ?_
  refine zq_iload (pc' := 2163) rfl rfl rfl rfl ?_
  refine zq_ipush (pc' := 2164) rfl rfl rfl ?_
  refine zq_iadd (pc' := 2165) rfl rfl rfl ?_
  obtain ⟨hi4, H⟩ := H
  refine zq_iald (pc' := 2166) rfl rfl rfl (hscB hi4) ?_
  refine zq_aload (pc' := 2167) rfl rfl rfl rfl ?_
  refine hq_calli (pc' := 2170) rfl rfl rfl rfl rfl rfl h_Xi ?_
  refine hmonoi H ?_
  intro x7 g5 e6 H
  refine zq_istore (pc' := 2172) rfl rfl rfl ?_
  refine zq_aload (pc' := 2173) rfl rfl rfl rfl ?_
  refine zq_aload (pc' := 2174) rfl rfl rfl rfl ?_
  refine zq_iload (pc' := 2176) rfl rfl rfl rfl ?_
  refine zq_ipush (pc' := 2177) rfl rfl rfl ?_
  refine zq_iadd (pc' := 2178) rfl rfl rfl ?_
  obtain ⟨hi8, H⟩ := H
  refine zq_iald (pc' := 2179) rfl rfl rfl (hscB hi8) ?_
  refine zq_aload (pc' := 2180) rfl rfl rfl rfl ?_
  refine zq_iload (pc' := 2182) rfl rfl rfl rfl ?_
  refine zq_ipush (pc' := 2183) rfl rfl rfl ?_
  refine zq_iadd (pc' := 2184) rfl rfl rfl ?_
  obtain ⟨hi9, H⟩ := H
  refine zq_iald (pc' := 2185) rfl rfl rfl (hscB hi9) ?_
  refine zq_aload (pc' := 2186) rfl rfl rfl rfl ?_
  refine zq_iload (pc' := 2188) rfl rfl rfl rfl ?_
  refine zq_ipush (pc' := 2189) rfl rfl rfl ?_
  refine zq_iadd (pc' := 2190) rfl rfl rfl ?_
  obtain ⟨hi10, H⟩ := H
  refine zq_iald (pc' := 2191) rfl rfl rfl (hscB hi10) ?_
  refine zq_aload (pc' := 2192) rfl rfl rfl rfl ?_
  refine zq_iload (pc' := 2194) rfl rfl rfl rfl ?_
  refine zq_ipush (pc' := 2195) rfl rfl rfl ?_
  refine zq_iadd (pc' := 2196) rfl rfl rfl ?_
  obtain ⟨hi11, H⟩ := H
  refine zq_iald (pc' := 2197) rfl rfl rfl (hscB hi11) ?_
  refine hq_calli (pc' := 2200) rfl rfl rfl rfl rfl rfl h_Xi ?_
  refine hmonoi H ?_
  intro x14 g12 e13 H
  refine zq_istore (pc' := 2202) rfl rfl rfl ?_
  refine zq_aload (pc' := 2203) rfl rfl rfl rfl ?_
  refine hq_calli (pc' := 2206) rfl rfl rfl rfl rfl rfl h_Xi ?_
  refine hmonoi H ?_
  intro x17 g15 e16 H
  refine zq_iload (pc' := 2208) rfl rfl rfl rfl ?_
  refine zq_iceq (pc' := 2211) rfl rfl rfl rfl (And.intro (fun c => ?_) (fun c => ?_))
  · have H := H.1 c
    refine zq_iload (pc' := 2215) rfl rfl rfl rfl ?_
    refine zq_ifne (pc' := 2218) rfl rfl rfl rfl (And.intro (fun c => ?_) (fun c => ?_))
    · have H := H.1 c
      refine zq_aload (pc' := 2219) rfl rfl rfl rfl ?_
      refine zq_ipush (pc' := 2220) rfl rfl rfl ?_
      refine zq_lald (pc' := 2221) rfl rfl rfl (hp_la rfl (by unfold hin; decide)) ?_
      refine zq_iload (pc' := 2223) rfl rfl rfl rfl ?_
      refine zq_i2l (pc' := 2224) rfl rfl rfl ?_
      refine zq_lcmp (pc' := 2225) rfl rfl rfl ?_
      refine zq_ifeq (pc' := 2228) rfl rfl rfl rfl (And.intro (fun c => ?_) (fun c => ?_))
      · have H := H.1 c
        refine zq_goto_c (pc' := 2733) rfl rfl ?_
        exact H
      · have H := H.2 c
        refine zq_ipush (pc' := 2229) rfl rfl rfl ?_
        exact zq_iret rfl (Or.inl rfl) (Exists.intro _ (Exists.intro _ (And.intro rfl H)))
    · have H := H.2 c
      refine zq_goto_c (pc' := 2733) rfl rfl ?_
      exact H
  · have H := H.2 c
    refine zq_ipush (pc' := 2212) rfl rfl rfl ?_
    exact zq_iret rfl (Or.inl rfl) (Exists.intro _ (Exists.intro _ (And.intro rfl H)))
theorem zh_L_law_2233 {d : Nat} {k : Int32 → hG → hE → Prop} {X : Nat → hG → hE → Prop} {l4 : Int32} {g : hG} {e : hE} (H :
    hin (l4 + 1) e.2.2.2 ∧
    hin (l4 + 2) e.2.2.2 ∧
    hin (l4 + 3) e.2.2.2 ∧
    hci d 358 [.ref 1000, .int (g.1 997 (l4 + 1).toNatClampNeg), .int (g.1 997 (l4 + 2).toNatClampNeg), .int (g.1 997 (l4 + 3).toNatClampNeg), .ref 1088] g e (fun x6 g4 e5 =>
      hin (l4 + 1) e5.2.2.2 ∧
      hin (l4 + 2) e5.2.2.2 ∧
      hin (l4 + 3) e5.2.2.2 ∧
      hci d 325 [.ref 1046, .int (g4.1 997 (l4 + 1).toNatClampNeg), .int (g4.1 997 (l4 + 2).toNatClampNeg), .int (g4.1 997 (l4 + 3).toNatClampNeg)] g4 e5 (fun x12 g10 e11 =>
        hci d 214 [.ref 1046] g10 e11 (fun x15 g13 e14 =>
          zbr (x15 = x6)
          (zbr (x6 = 0)
            (zbr ((lg_cmp (g13.2.1 1088 0) ((x12 : Int32).toInt64)) = 0)
              (hwi d zm_L_law k X 2733 [(0, .ref 997), (1, .ref 1000), (2, .ref 1046), (3, .ref 1088), (4, .int l4)] g13 e14)
              (k 0 g13 e14))
            (hwi d zm_L_law k X 2733 [(0, .ref 997), (1, .ref 1000), (2, .ref 1046), (3, .ref 1088), (4, .int l4)] g13 e14))
          (k 0 g13 e14)) X) X) X) : hwi d zm_L_law k X 2233 [(0, .ref 997), (1, .ref 1000), (2, .ref 1046), (3, .ref 1088), (4, .int l4)] g e := by
  refine zq_aload (pc' := 2234) rfl rfl rfl rfl ?_
  refine zq_aload (pc' := 2235) rfl rfl rfl rfl ?_
  refine zq_iload (pc' := 2237) rfl rfl rfl rfl ?_
  refine zq_ipush (pc' := 2238) rfl rfl rfl ?_
  refine zq_iadd (pc' := 2239) rfl rfl rfl ?_
  obtain ⟨hi1, H⟩ := H
  refine zq_iald (pc' := 2240) rfl rfl rfl (hscB hi1) ?_
  refine zq_aload (pc' := 2241) rfl rfl rfl rfl ?_
  refine zq_iload (pc' := 2243) rfl rfl rfl rfl ?_
  refine zq_ipush (pc' := 2244) rfl rfl rfl ?_
  refine zq_iadd (pc' := 2245) rfl rfl rfl ?_
  obtain ⟨hi2, H⟩ := H
  refine zq_iald (pc' := 2246) rfl rfl rfl (hscB hi2) ?_
  refine zq_aload (pc' := 2247) rfl rfl rfl rfl ?_
  refine zq_iload (pc' := 2249) rfl rfl rfl rfl ?_
  refine zq_ipush (pc' := 2250) rfl rfl rfl ?_
  refine zq_iadd (pc' := 2251) rfl rfl rfl ?_
  obtain ⟨hi3, H⟩ := H
  refine zq_iald (pc' := 2252) rfl rfl rfl (hscB hi3) ?_
  refine zq_aload (pc' := 2253) rfl rfl rfl rfl ?_
  refine hq_calli (pc' := 2256) rfl rfl rfl rfl rfl rfl h_Xi ?_
  refine hmonoi H ?_
  intro x6 g4 e5 H
  refine zq_istore (pc' := 2258) rfl rfl rfl ?_
  refine zq_aload (pc' := 2259) rfl rfl rfl rfl ?_
  refine zq_aload (pc' := 2260) rfl rfl rfl rfl ?_
  refine zq_iload (pc' := 2262) rfl rfl rfl rfl ?_
  refine zq_ipush (pc' := 2263) rfl rfl rfl ?_
  refine zq_iadd (pc' := 2264) rfl rfl rfl ?_
  obtain ⟨hi7, H⟩ := H
  refine zq_iald (pc' := 2265) rfl rfl rfl (hscB hi7) ?_
  refine zq_aload (pc' := 2266) rfl rfl rfl rfl ?_
  refine zq_iload (pc' := 2268) rfl rfl rfl rfl ?_
  refine zq_ipush (pc' := 2269) rfl rfl rfl ?_
  refine zq_iadd (pc' := 2270) rfl rfl rfl ?_
  obtain ⟨hi8, H⟩ := H
  refine zq_iald (pc' := 2271) rfl rfl rfl (hscB hi8) ?_
  refine zq_aload (pc' := 2272) rfl rfl rfl rfl ?_
  refine zq_iload (pc' := 2274) rfl rfl rfl rfl ?_
  refine zq_ipush (pc' := 2275) rfl rfl rfl ?_
  refine zq_iadd (pc' := 2276) rfl rfl rfl ?_
  obtain ⟨hi9, H⟩ := H
  refine zq_iald (pc' := 2277) rfl rfl rfl (hscB hi9) ?_
  refine hq_calli (pc' := 2280) rfl rfl rfl rfl rfl rfl h_Xi ?_
  refine hmonoi H ?_
  intro x12 g10 e11 H
  refine zq_istore (pc' := 2282) rfl rfl rfl ?_
  refine zq_aload (pc' := 2283) rfl rfl rfl rfl ?_
  refine hq_calli (pc' := 2286) rfl rfl rfl rfl rfl rfl h_Xi ?_
  refine hmonoi H ?_
  intro x15 g13 e14 H
  refine zq_iload (pc' := 2288) rfl rfl rfl rfl ?_
  refine zq_iceq (pc' := 2291) rfl rfl rfl rfl (And.intro (fun c => ?_) (fun c => ?_))
  · have H := H.1 c
    refine zq_iload (pc' := 2295) rfl rfl rfl rfl ?_
    refine zq_ifne (pc' := 2298) rfl rfl rfl rfl (And.intro (fun c => ?_) (fun c => ?_))
    · have H := H.1 c
      refine zq_aload (pc' := 2299) rfl rfl rfl rfl ?_
      refine zq_ipush (pc' := 2300) rfl rfl rfl ?_
      refine zq_lald (pc' := 2301) rfl rfl rfl (hp_la rfl (by unfold hin; decide)) ?_
      refine zq_iload (pc' := 2303) rfl rfl rfl rfl ?_
      refine zq_i2l (pc' := 2304) rfl rfl rfl ?_
      refine zq_lcmp (pc' := 2305) rfl rfl rfl ?_
      refine zq_ifeq (pc' := 2308) rfl rfl rfl rfl (And.intro (fun c => ?_) (fun c => ?_))
      · have H := H.1 c
        refine zq_goto_c (pc' := 2733) rfl rfl ?_
        exact H
      · have H := H.2 c
        refine zq_ipush (pc' := 2309) rfl rfl rfl ?_
        exact zq_iret rfl (Or.inl rfl) (Exists.intro _ (Exists.intro _ (And.intro rfl H)))
    · have H := H.2 c
      refine zq_goto_c (pc' := 2733) rfl rfl ?_
      exact H
  · have H := H.2 c
    refine zq_ipush (pc' := 2292) rfl rfl rfl ?_
    exact zq_iret rfl (Or.inl rfl) (Exists.intro _ (Exists.intro _ (And.intro rfl H)))
theorem zh_L_law_2313 {d : Nat} {k : Int32 → hG → hE → Prop} {X : Nat → hG → hE → Prop} {l4 : Int32} {g : hG} {e : hE} (H :
    hin (l4 + 1) e.2.2.2 ∧
    hin (l4 + 2) e.2.2.2 ∧
    hin (l4 + 3) e.2.2.2 ∧
    hci d 359 [.ref 1000, .int (g.1 997 (l4 + 1).toNatClampNeg), .int (g.1 997 (l4 + 2).toNatClampNeg), .int (g.1 997 (l4 + 3).toNatClampNeg), .ref 1088] g e (fun x6 g4 e5 =>
      hin (l4 + 1) e5.2.2.2 ∧
      hin (l4 + 2) e5.2.2.2 ∧
      hin (l4 + 3) e5.2.2.2 ∧
      hci d 328 [.ref 1046, .int (g4.1 997 (l4 + 1).toNatClampNeg), .int (g4.1 997 (l4 + 2).toNatClampNeg), .int (g4.1 997 (l4 + 3).toNatClampNeg)] g4 e5 (fun x12 g10 e11 =>
        hci d 214 [.ref 1046] g10 e11 (fun x15 g13 e14 =>
          zbr (x15 = x6)
          (zbr (x6 = 0)
            (zbr ((lg_cmp (g13.2.1 1088 0) ((x12 : Int32).toInt64)) = 0)
              (hwi d zm_L_law k X 2733 [(0, .ref 997), (1, .ref 1000), (2, .ref 1046), (3, .ref 1088), (4, .int l4)] g13 e14)
              (k 0 g13 e14))
            (hwi d zm_L_law k X 2733 [(0, .ref 997), (1, .ref 1000), (2, .ref 1046), (3, .ref 1088), (4, .int l4)] g13 e14))
          (k 0 g13 e14)) X) X) X) : hwi d zm_L_law k X 2313 [(0, .ref 997), (1, .ref 1000), (2, .ref 1046), (3, .ref 1088), (4, .int l4)] g e := by
  refine zq_aload (pc' := 2314) rfl rfl rfl rfl ?_
  refine zq_aload (pc' := 2315) rfl rfl rfl rfl ?_
  refine zq_iload (pc' := 2317) rfl rfl rfl rfl ?_
  refine zq_ipush (pc' := 2318) rfl rfl rfl ?_
  refine zq_iadd (pc' := 2319) rfl rfl rfl ?_
  obtain ⟨hi1, H⟩ := H
  refine zq_iald (pc' := 2320) rfl rfl rfl (hscB hi1) ?_
  refine zq_aload (pc' := 2321) rfl rfl rfl rfl ?_
  refine zq_iload (pc' := 2323) rfl rfl rfl rfl ?_
  refine zq_ipush (pc' := 2324) rfl rfl rfl ?_
  refine zq_iadd (pc' := 2325) rfl rfl rfl ?_
  obtain ⟨hi2, H⟩ := H
  refine zq_iald (pc' := 2326) rfl rfl rfl (hscB hi2) ?_
  refine zq_aload (pc' := 2327) rfl rfl rfl rfl ?_
  refine zq_iload (pc' := 2329) rfl rfl rfl rfl ?_
  refine zq_ipush (pc' := 2330) rfl rfl rfl ?_
  refine zq_iadd (pc' := 2331) rfl rfl rfl ?_
  obtain ⟨hi3, H⟩ := H
  refine zq_iald (pc' := 2332) rfl rfl rfl (hscB hi3) ?_
  refine zq_aload (pc' := 2333) rfl rfl rfl rfl ?_
  refine hq_calli (pc' := 2336) rfl rfl rfl rfl rfl rfl h_Xi ?_
  refine hmonoi H ?_
  intro x6 g4 e5 H
  refine zq_istore (pc' := 2338) rfl rfl rfl ?_
  refine zq_aload (pc' := 2339) rfl rfl rfl rfl ?_
  refine zq_aload (pc' := 2340) rfl rfl rfl rfl ?_
  refine zq_iload (pc' := 2342) rfl rfl rfl rfl ?_
  refine zq_ipush (pc' := 2343) rfl rfl rfl ?_
  refine zq_iadd (pc' := 2344) rfl rfl rfl ?_
  obtain ⟨hi7, H⟩ := H
  refine zq_iald (pc' := 2345) rfl rfl rfl (hscB hi7) ?_
  refine zq_aload (pc' := 2346) rfl rfl rfl rfl ?_
  refine zq_iload (pc' := 2348) rfl rfl rfl rfl ?_
  refine zq_ipush (pc' := 2349) rfl rfl rfl ?_
  refine zq_iadd (pc' := 2350) rfl rfl rfl ?_
  obtain ⟨hi8, H⟩ := H
  refine zq_iald (pc' := 2351) rfl rfl rfl (hscB hi8) ?_
  refine zq_aload (pc' := 2352) rfl rfl rfl rfl ?_
  refine zq_iload (pc' := 2354) rfl rfl rfl rfl ?_
  refine zq_ipush (pc' := 2355) rfl rfl rfl ?_
  refine zq_iadd (pc' := 2356) rfl rfl rfl ?_
  obtain ⟨hi9, H⟩ := H
  refine zq_iald (pc' := 2357) rfl rfl rfl (hscB hi9) ?_
  refine hq_calli (pc' := 2360) rfl rfl rfl rfl rfl rfl h_Xi ?_
  refine hmonoi H ?_
  intro x12 g10 e11 H
  refine zq_istore (pc' := 2362) rfl rfl rfl ?_
  refine zq_aload (pc' := 2363) rfl rfl rfl rfl ?_
  refine hq_calli (pc' := 2366) rfl rfl rfl rfl rfl rfl h_Xi ?_
  refine hmonoi H ?_
  intro x15 g13 e14 H
  refine zq_iload (pc' := 2368) rfl rfl rfl rfl ?_
  refine zq_iceq (pc' := 2371) rfl rfl rfl rfl (And.intro (fun c => ?_) (fun c => ?_))
  · have H := H.1 c
    refine zq_iload (pc' := 2375) rfl rfl rfl rfl ?_
    refine zq_ifne (pc' := 2378) rfl rfl rfl rfl (And.intro (fun c => ?_) (fun c => ?_))
    · have H := H.1 c
      refine zq_aload (pc' := 2379) rfl rfl rfl rfl ?_
      refine zq_ipush (pc' := 2380) rfl rfl rfl ?_
      refine zq_lald (pc' := 2381) rfl rfl rfl (hp_la rfl (by unfold hin; decide)) ?_
      refine zq_iload (pc' := 2383) rfl rfl rfl rfl ?_
      refine zq_i2l (pc' := 2384) rfl rfl rfl ?_
      refine zq_lcmp (pc' := 2385) rfl rfl rfl ?_
      refine zq_ifeq (pc' := 2388) rfl rfl rfl rfl (And.intro (fun c => ?_) (fun c => ?_))
      · have H := H.1 c
        refine zq_goto_c (pc' := 2733) rfl rfl ?_
        exact H
      · have H := H.2 c
        refine zq_ipush (pc' := 2389) rfl rfl rfl ?_
        exact zq_iret rfl (Or.inl rfl) (Exists.intro _ (Exists.intro _ (And.intro rfl H)))
    · have H := H.2 c
      refine zq_goto_c (pc' := 2733) rfl rfl ?_
      exact H
  · have H := H.2 c
    refine zq_ipush (pc' := 2372) rfl rfl rfl ?_
    exact zq_iret rfl (Or.inl rfl) (Exists.intro _ (Exists.intro _ (And.intro rfl H)))
theorem zh_L_law_2393 {d : Nat} {k : Int32 → hG → hE → Prop} {X : Nat → hG → hE → Prop} {l4 : Int32} {g : hG} {e : hE} (H :
    hin (l4 + 1) e.2.2.2 ∧
    hci d 360 [.ref 1000, .int (g.1 997 (l4 + 1).toNatClampNeg), .ref 1088] g e (fun x4 g2 e3 =>
      hin (l4 + 1) e3.2.2.2 ∧
      hci d 296 [.ref 1046, .int (g2.1 997 (l4 + 1).toNatClampNeg)] g2 e3 (fun x8 g6 e7 =>
        hci d 214 [.ref 1046] g6 e7 (fun x11 g9 e10 =>
          zbr (x11 = x4)
          (zbr (x4 = 0)
            (zbr ((lg_cmp (g9.2.1 1088 0) ((x8 : Int32).toInt64)) = 0)
              (hwi d zm_L_law k X 2733 [(0, .ref 997), (1, .ref 1000), (2, .ref 1046), (3, .ref 1088), (4, .int l4)] g9 e10)
              (k 0 g9 e10))
            (hwi d zm_L_law k X 2733 [(0, .ref 997), (1, .ref 1000), (2, .ref 1046), (3, .ref 1088), (4, .int l4)] g9 e10))
          (k 0 g9 e10)) X) X) X) : hwi d zm_L_law k X 2393 [(0, .ref 997), (1, .ref 1000), (2, .ref 1046), (3, .ref 1088), (4, .int l4)] g e := by
  refine zq_aload (pc' := 2394) rfl rfl rfl rfl ?_
  refine zq_aload (pc' := 2395) rfl rfl rfl rfl ?_
  refine zq_iload (pc' := 2397) rfl rfl rfl rfl ?_
  refine zq_ipush (pc' := 2398) rfl rfl rfl ?_
  refine zq_iadd (pc' := 2399) rfl rfl rfl ?_
  obtain ⟨hi1, H⟩ := H
  refine zq_iald (pc' := 2400) rfl rfl rfl (hscB hi1) ?_
  refine zq_aload (pc' := 2401) rfl rfl rfl rfl ?_
  refine hq_calli (pc' := 2404) rfl rfl rfl rfl rfl rfl h_Xi ?_
  refine hmonoi H ?_
  intro x4 g2 e3 H
  refine zq_istore (pc' := 2406) rfl rfl rfl ?_
  refine zq_aload (pc' := 2407) rfl rfl rfl rfl ?_
  refine zq_aload (pc' := 2408) rfl rfl rfl rfl ?_
  refine zq_iload (pc' := 2410) rfl rfl rfl rfl ?_
  refine zq_ipush (pc' := 2411) rfl rfl rfl ?_
  refine zq_iadd (pc' := 2412) rfl rfl rfl ?_
  obtain ⟨hi5, H⟩ := H
  refine zq_iald (pc' := 2413) rfl rfl rfl (hscB hi5) ?_
  refine hq_calli (pc' := 2416) rfl rfl rfl rfl rfl rfl h_Xi ?_
  refine hmonoi H ?_
  intro x8 g6 e7 H
  refine zq_istore (pc' := 2418) rfl rfl rfl ?_
  refine zq_aload (pc' := 2419) rfl rfl rfl rfl ?_
  refine hq_calli (pc' := 2422) rfl rfl rfl rfl rfl rfl h_Xi ?_
  refine hmonoi H ?_
  intro x11 g9 e10 H
  refine zq_iload (pc' := 2424) rfl rfl rfl rfl ?_
  refine zq_iceq (pc' := 2427) rfl rfl rfl rfl (And.intro (fun c => ?_) (fun c => ?_))
  · have H := H.1 c
    refine zq_iload (pc' := 2431) rfl rfl rfl rfl ?_
    refine zq_ifne (pc' := 2434) rfl rfl rfl rfl (And.intro (fun c => ?_) (fun c => ?_))
    · have H := H.1 c
      refine zq_aload (pc' := 2435) rfl rfl rfl rfl ?_
      refine zq_ipush (pc' := 2436) rfl rfl rfl ?_
      refine zq_lald (pc' := 2437) rfl rfl rfl (hp_la rfl (by unfold hin; decide)) ?_
      refine zq_iload (pc' := 2439) rfl rfl rfl rfl ?_
      refine zq_i2l (pc' := 2440) rfl rfl rfl ?_
      refine zq_lcmp (pc' := 2441) rfl rfl rfl ?_
      refine zq_ifeq (pc' := 2444) rfl rfl rfl rfl (And.intro (fun c => ?_) (fun c => ?_))
      · have H := H.1 c
        refine zq_goto_c (pc' := 2733) rfl rfl ?_
        exact H
      · have H := H.2 c
        refine zq_ipush (pc' := 2445) rfl rfl rfl ?_
        exact zq_iret rfl (Or.inl rfl) (Exists.intro _ (Exists.intro _ (And.intro rfl H)))
    · have H := H.2 c
      refine zq_goto_c (pc' := 2733) rfl rfl ?_
      exact H
  · have H := H.2 c
    refine zq_ipush (pc' := 2428) rfl rfl rfl ?_
    exact zq_iret rfl (Or.inl rfl) (Exists.intro _ (Exists.intro _ (And.intro rfl H)))
theorem zh_L_law_2449 {d : Nat} {k : Int32 → hG → hE → Prop} {X : Nat → hG → hE → Prop} {l4 : Int32} {g : hG} {e : hE} (H :
    hin (l4 + 1) e.2.2.2 ∧
    hin (l4 + 2) e.2.2.2 ∧
    hci d 361 [.ref 1000, .int (g.1 997 (l4 + 1).toNatClampNeg), .int (g.1 997 (l4 + 2).toNatClampNeg), .ref 1088] g e (fun x5 g3 e4 =>
      hin (l4 + 1) e4.2.2.2 ∧
      hin (l4 + 2) e4.2.2.2 ∧
      hci d 297 [.ref 1046, .int (g3.1 997 (l4 + 1).toNatClampNeg), .int (g3.1 997 (l4 + 2).toNatClampNeg)] g3 e4 (fun x10 g8 e9 =>
        hci d 214 [.ref 1046] g8 e9 (fun x13 g11 e12 =>
          zbr (x13 = x5)
          (zbr (x5 = 0)
            (zbr ((lg_cmp (g11.2.1 1088 0) ((x10 : Int32).toInt64)) = 0)
              (hwi d zm_L_law k X 2733 [(0, .ref 997), (1, .ref 1000), (2, .ref 1046), (3, .ref 1088), (4, .int l4)] g11 e12)
              (k 0 g11 e12))
            (hwi d zm_L_law k X 2733 [(0, .ref 997), (1, .ref 1000), (2, .ref 1046), (3, .ref 1088), (4, .int l4)] g11 e12))
          (k 0 g11 e12)) X) X) X) : hwi d zm_L_law k X 2449 [(0, .ref 997), (1, .ref 1000), (2, .ref 1046), (3, .ref 1088), (4, .int l4)] g e := by
  refine zq_aload (pc' := 2450) rfl rfl rfl rfl ?_
  refine zq_aload (pc' := 2451) rfl rfl rfl rfl ?_
  refine zq_iload (pc' := 2453) rfl rfl rfl rfl ?_
  refine zq_ipush (pc' := 2454) rfl rfl rfl ?_
  refine zq_iadd (pc' := 2455) rfl rfl rfl ?_
  obtain ⟨hi1, H⟩ := H
  refine zq_iald (pc' := 2456) rfl rfl rfl (hscB hi1) ?_
  refine zq_aload (pc' := 2457) rfl rfl rfl rfl ?_
  refine zq_iload (pc' := 2459) rfl rfl rfl rfl ?_
  refine zq_ipush (pc' := 2460) rfl rfl rfl ?_
  refine zq_iadd (pc' := 2461) rfl rfl rfl ?_
  obtain ⟨hi2, H⟩ := H
  refine zq_iald (pc' := 2462) rfl rfl rfl (hscB hi2) ?_
  refine zq_aload (pc' := 2463) rfl rfl rfl rfl ?_
  refine hq_calli (pc' := 2466) rfl rfl rfl rfl rfl rfl h_Xi ?_
  refine hmonoi H ?_
  intro x5 g3 e4 H
  refine zq_istore (pc' := 2468) rfl rfl rfl ?_
  refine zq_aload (pc' := 2469) rfl rfl rfl rfl ?_
  refine zq_aload (pc' := 2470) rfl rfl rfl rfl ?_
  refine zq_iload (pc' := 2472) rfl rfl rfl rfl ?_
  refine zq_ipush (pc' := 2473) rfl rfl rfl ?_
  refine zq_iadd (pc' := 2474) rfl rfl rfl ?_
  obtain ⟨hi6, H⟩ := H
  refine zq_iald (pc' := 2475) rfl rfl rfl (hscB hi6) ?_
  refine zq_aload (pc' := 2476) rfl rfl rfl rfl ?_
  refine zq_iload (pc' := 2478) rfl rfl rfl rfl ?_
  refine zq_ipush (pc' := 2479) rfl rfl rfl ?_
  refine zq_iadd (pc' := 2480) rfl rfl rfl ?_
  obtain ⟨hi7, H⟩ := H
  refine zq_iald (pc' := 2481) rfl rfl rfl (hscB hi7) ?_
  refine hq_calli (pc' := 2484) rfl rfl rfl rfl rfl rfl h_Xi ?_
  refine hmonoi H ?_
  intro x10 g8 e9 H
  refine zq_istore (pc' := 2486) rfl rfl rfl ?_
  refine zq_aload (pc' := 2487) rfl rfl rfl rfl ?_
  refine hq_calli (pc' := 2490) rfl rfl rfl rfl rfl rfl h_Xi ?_
  refine hmonoi H ?_
  intro x13 g11 e12 H
  refine zq_iload (pc' := 2492) rfl rfl rfl rfl ?_
  refine zq_iceq (pc' := 2495) rfl rfl rfl rfl (And.intro (fun c => ?_) (fun c => ?_))
  · have H := H.1 c
    refine zq_iload (pc' := 2499) rfl rfl rfl rfl ?_
    refine zq_ifne (pc' := 2502) rfl rfl rfl rfl (And.intro (fun c => ?_) (fun c => ?_))
    · have H := H.1 c
      refine zq_aload (pc' := 2503) rfl rfl rfl rfl ?_
      refine zq_ipush (pc' := 2504) rfl rfl rfl ?_
      refine zq_lald (pc' := 2505) rfl rfl rfl (hp_la rfl (by unfold hin; decide)) ?_
      refine zq_iload (pc' := 2507) rfl rfl rfl rfl ?_
      refine zq_i2l (pc' := 2508) rfl rfl rfl ?_
      refine zq_lcmp (pc' := 2509) rfl rfl rfl ?_
      refine zq_ifeq (pc' := 2512) rfl rfl rfl rfl (And.intro (fun c => ?_) (fun c => ?_))
      · have H := H.1 c
        refine zq_goto_c (pc' := 2733) rfl rfl ?_
        exact H
      · have H := H.2 c
        refine zq_ipush (pc' := 2513) rfl rfl rfl ?_
        exact zq_iret rfl (Or.inl rfl) (Exists.intro _ (Exists.intro _ (And.intro rfl H)))
    · have H := H.2 c
      refine zq_goto_c (pc' := 2733) rfl rfl ?_
      exact H
  · have H := H.2 c
    refine zq_ipush (pc' := 2496) rfl rfl rfl ?_
    exact zq_iret rfl (Or.inl rfl) (Exists.intro _ (Exists.intro _ (And.intro rfl H)))
theorem zh_L_law_2517 {d : Nat} {k : Int32 → hG → hE → Prop} {X : Nat → hG → hE → Prop} {l4 : Int32} {g : hG} {e : hE} (H :
    hin (l4 + 1) e.2.2.2 ∧
    hin (l4 + 2) e.2.2.2 ∧
    hci d 362 [.ref 1000, .int (g.1 997 (l4 + 1).toNatClampNeg), .int (g.1 997 (l4 + 2).toNatClampNeg), .ref 1088] g e (fun x5 g3 e4 =>
      hin (l4 + 1) e4.2.2.2 ∧
      hin (l4 + 2) e4.2.2.2 ∧
      hci d 298 [.ref 1046, .int (g3.1 997 (l4 + 1).toNatClampNeg), .int (g3.1 997 (l4 + 2).toNatClampNeg)] g3 e4 (fun x10 g8 e9 =>
        hci d 214 [.ref 1046] g8 e9 (fun x13 g11 e12 =>
          zbr (x13 = x5)
          (zbr (x5 = 0)
            (zbr ((lg_cmp (g11.2.1 1088 0) ((x10 : Int32).toInt64)) = 0)
              (hwi d zm_L_law k X 2733 [(0, .ref 997), (1, .ref 1000), (2, .ref 1046), (3, .ref 1088), (4, .int l4)] g11 e12)
              (k 0 g11 e12))
            (hwi d zm_L_law k X 2733 [(0, .ref 997), (1, .ref 1000), (2, .ref 1046), (3, .ref 1088), (4, .int l4)] g11 e12))
          (k 0 g11 e12)) X) X) X) : hwi d zm_L_law k X 2517 [(0, .ref 997), (1, .ref 1000), (2, .ref 1046), (3, .ref 1088), (4, .int l4)] g e := by
  refine zq_aload (pc' := 2518) rfl rfl rfl rfl ?_
  refine zq_aload (pc' := 2519) rfl rfl rfl rfl ?_
  refine zq_iload (pc' := 2521) rfl rfl rfl rfl ?_
  refine zq_ipush (pc' := 2522) rfl rfl rfl ?_
  refine zq_iadd (pc' := 2523) rfl rfl rfl ?_
  obtain ⟨hi1, H⟩ := H
  refine zq_iald (pc' := 2524) rfl rfl rfl (hscB hi1) ?_
  refine zq_aload (pc' := 2525) rfl rfl rfl rfl ?_
  refine zq_iload (pc' := 2527) rfl rfl rfl rfl ?_
  refine zq_ipush (pc' := 2528) rfl rfl rfl ?_
  refine zq_iadd (pc' := 2529) rfl rfl rfl ?_
  obtain ⟨hi2, H⟩ := H
  refine zq_iald (pc' := 2530) rfl rfl rfl (hscB hi2) ?_
  refine zq_aload (pc' := 2531) rfl rfl rfl rfl ?_
  refine hq_calli (pc' := 2534) rfl rfl rfl rfl rfl rfl h_Xi ?_
  refine hmonoi H ?_
  intro x5 g3 e4 H
  refine zq_istore (pc' := 2536) rfl rfl rfl ?_
  refine zq_aload (pc' := 2537) rfl rfl rfl rfl ?_
  refine zq_aload (pc' := 2538) rfl rfl rfl rfl ?_
  refine zq_iload (pc' := 2540) rfl rfl rfl rfl ?_
  refine zq_ipush (pc' := 2541) rfl rfl rfl ?_
  refine zq_iadd (pc' := 2542) rfl rfl rfl ?_
  obtain ⟨hi6, H⟩ := H
  refine zq_iald (pc' := 2543) rfl rfl rfl (hscB hi6) ?_
  refine zq_aload (pc' := 2544) rfl rfl rfl rfl ?_
  refine zq_iload (pc' := 2546) rfl rfl rfl rfl ?_
  refine zq_ipush (pc' := 2547) rfl rfl rfl ?_
  refine zq_iadd (pc' := 2548) rfl rfl rfl ?_
  obtain ⟨hi7, H⟩ := H
  refine zq_iald (pc' := 2549) rfl rfl rfl (hscB hi7) ?_
  refine hq_calli (pc' := 2552) rfl rfl rfl rfl rfl rfl h_Xi ?_
  refine hmonoi H ?_
  intro x10 g8 e9 H
  refine zq_istore (pc' := 2554) rfl rfl rfl ?_
  refine zq_aload (pc' := 2555) rfl rfl rfl rfl ?_
  refine hq_calli (pc' := 2558) rfl rfl rfl rfl rfl rfl h_Xi ?_
  refine hmonoi H ?_
  intro x13 g11 e12 H
  refine zq_iload (pc' := 2560) rfl rfl rfl rfl ?_
  refine zq_iceq (pc' := 2563) rfl rfl rfl rfl (And.intro (fun c => ?_) (fun c => ?_))
  · have H := H.1 c
    refine zq_iload (pc' := 2567) rfl rfl rfl rfl ?_
    refine zq_ifne (pc' := 2570) rfl rfl rfl rfl (And.intro (fun c => ?_) (fun c => ?_))
    · have H := H.1 c
      refine zq_aload (pc' := 2571) rfl rfl rfl rfl ?_
      refine zq_ipush (pc' := 2572) rfl rfl rfl ?_
      refine zq_lald (pc' := 2573) rfl rfl rfl (hp_la rfl (by unfold hin; decide)) ?_
      refine zq_iload (pc' := 2575) rfl rfl rfl rfl ?_
      refine zq_i2l (pc' := 2576) rfl rfl rfl ?_
      refine zq_lcmp (pc' := 2577) rfl rfl rfl ?_
      refine zq_ifeq (pc' := 2580) rfl rfl rfl rfl (And.intro (fun c => ?_) (fun c => ?_))
      · have H := H.1 c
        refine zq_goto_c (pc' := 2733) rfl rfl ?_
        exact H
      · have H := H.2 c
        refine zq_ipush (pc' := 2581) rfl rfl rfl ?_
        exact zq_iret rfl (Or.inl rfl) (Exists.intro _ (Exists.intro _ (And.intro rfl H)))
    · have H := H.2 c
      refine zq_goto_c (pc' := 2733) rfl rfl ?_
      exact H
  · have H := H.2 c
    refine zq_ipush (pc' := 2564) rfl rfl rfl ?_
    exact zq_iret rfl (Or.inl rfl) (Exists.intro _ (Exists.intro _ (And.intro rfl H)))
theorem zh_L_law_2585 {d : Nat} {k : Int32 → hG → hE → Prop} {X : Nat → hG → hE → Prop} {l4 : Int32} {g : hG} {e : hE} (H :
    hin (l4 + 1) e.2.2.2 ∧
    hci d 363 [.ref 1000, .int (g.1 997 (l4 + 1).toNatClampNeg), .ref 1088] g e (fun x4 g2 e3 =>
      hin (l4 + 1) e3.2.2.2 ∧
      hci d 310 [.ref 1046, .int (g2.1 997 (l4 + 1).toNatClampNeg)] g2 e3 (fun x8 g6 e7 =>
        hci d 214 [.ref 1046] g6 e7 (fun x11 g9 e10 =>
          zbr (x11 = x4)
          (zbr (x4 = 0)
            (zbr ((lg_cmp (g9.2.1 1088 0) ((x8 : Int32).toInt64)) = 0)
              (hwi d zm_L_law k X 2733 [(0, .ref 997), (1, .ref 1000), (2, .ref 1046), (3, .ref 1088), (4, .int l4)] g9 e10)
              (k 0 g9 e10))
            (hwi d zm_L_law k X 2733 [(0, .ref 997), (1, .ref 1000), (2, .ref 1046), (3, .ref 1088), (4, .int l4)] g9 e10))
          (k 0 g9 e10)) X) X) X) : hwi d zm_L_law k X 2585 [(0, .ref 997), (1, .ref 1000), (2, .ref 1046), (3, .ref 1088), (4, .int l4)] g e := by
  refine zq_aload (pc' := 2586) rfl rfl rfl rfl ?_
  refine zq_aload (pc' := 2587) rfl rfl rfl rfl ?_
  refine zq_iload (pc' := 2589) rfl rfl rfl rfl ?_
  refine zq_ipush (pc' := 2590) rfl rfl rfl ?_
  refine zq_iadd (pc' := 2591) rfl rfl rfl ?_
  obtain ⟨hi1, H⟩ := H
  refine zq_iald (pc' := 2592) rfl rfl rfl (hscB hi1) ?_
  refine zq_aload (pc' := 2593) rfl rfl rfl rfl ?_
  refine hq_calli (pc' := 2596) rfl rfl rfl rfl rfl rfl h_Xi ?_
  refine hmonoi H ?_
  intro x4 g2 e3 H
  refine zq_istore (pc' := 2598) rfl rfl rfl ?_
  refine zq_aload (pc' := 2599) rfl rfl rfl rfl ?_
  refine zq_aload (pc' := 2600) rfl rfl rfl rfl ?_
  refine zq_iload (pc' := 2602) rfl rfl rfl rfl ?_
  refine zq_ipush (pc' := 2603) rfl rfl rfl ?_
  refine zq_iadd (pc' := 2604) rfl rfl rfl ?_
  obtain ⟨hi5, H⟩ := H
  refine zq_iald (pc' := 2605) rfl rfl rfl (hscB hi5) ?_
  refine hq_calli (pc' := 2608) rfl rfl rfl rfl rfl rfl h_Xi ?_
  refine hmonoi H ?_
  intro x8 g6 e7 H
  refine zq_istore (pc' := 2610) rfl rfl rfl ?_
  refine zq_aload (pc' := 2611) rfl rfl rfl rfl ?_
  refine hq_calli (pc' := 2614) rfl rfl rfl rfl rfl rfl h_Xi ?_
  refine hmonoi H ?_
  intro x11 g9 e10 H
  refine zq_iload (pc' := 2616) rfl rfl rfl rfl ?_
  refine zq_iceq (pc' := 2619) rfl rfl rfl rfl (And.intro (fun c => ?_) (fun c => ?_))
  · have H := H.1 c
    refine zq_iload (pc' := 2623) rfl rfl rfl rfl ?_
    refine zq_ifne (pc' := 2626) rfl rfl rfl rfl (And.intro (fun c => ?_) (fun c => ?_))
    · have H := H.1 c
      refine zq_aload (pc' := 2627) rfl rfl rfl rfl ?_
      refine zq_ipush (pc' := 2628) rfl rfl rfl ?_
      refine zq_lald (pc' := 2629) rfl rfl rfl (hp_la rfl (by unfold hin; decide)) ?_
      refine zq_iload (pc' := 2631) rfl rfl rfl rfl ?_
      refine zq_i2l (pc' := 2632) rfl rfl rfl ?_
      refine zq_lcmp (pc' := 2633) rfl rfl rfl ?_
      refine zq_ifeq (pc' := 2636) rfl rfl rfl rfl (And.intro (fun c => ?_) (fun c => ?_))
      · have H := H.1 c
        refine zq_goto_c (pc' := 2733) rfl rfl ?_
        exact H
      · have H := H.2 c
        refine zq_ipush (pc' := 2637) rfl rfl rfl ?_
        exact zq_iret rfl (Or.inl rfl) (Exists.intro _ (Exists.intro _ (And.intro rfl H)))
    · have H := H.2 c
      refine zq_goto_c (pc' := 2733) rfl rfl ?_
      exact H
  · have H := H.2 c
    refine zq_ipush (pc' := 2620) rfl rfl rfl ?_
    exact zq_iret rfl (Or.inl rfl) (Exists.intro _ (Exists.intro _ (And.intro rfl H)))
theorem zh_L_law_2641 {d : Nat} {k : Int32 → hG → hE → Prop} {X : Nat → hG → hE → Prop} {l4 : Int32} {g : hG} {e : hE} (H :
    hin (l4 + 1) e.2.2.2 ∧
    hin (l4 + 2) e.2.2.2 ∧
    hci d 364 [.ref 1000, .int (g.1 997 (l4 + 1).toNatClampNeg), .int (g.1 997 (l4 + 2).toNatClampNeg), .ref 1088] g e (fun x5 g3 e4 =>
      hin (l4 + 1) e4.2.2.2 ∧
      hin (l4 + 2) e4.2.2.2 ∧
      hci d 311 [.ref 1046, .int (g3.1 997 (l4 + 1).toNatClampNeg), .int (g3.1 997 (l4 + 2).toNatClampNeg)] g3 e4 (fun x10 g8 e9 =>
        hci d 214 [.ref 1046] g8 e9 (fun x13 g11 e12 =>
          zbr (x13 = x5)
          (zbr (x5 = 0)
            (zbr ((lg_cmp (g11.2.1 1088 0) ((x10 : Int32).toInt64)) = 0)
              (hwi d zm_L_law k X 2733 [(0, .ref 997), (1, .ref 1000), (2, .ref 1046), (3, .ref 1088), (4, .int l4)] g11 e12)
              (k 0 g11 e12))
            (hwi d zm_L_law k X 2733 [(0, .ref 997), (1, .ref 1000), (2, .ref 1046), (3, .ref 1088), (4, .int l4)] g11 e12))
          (k 0 g11 e12)) X) X) X) : hwi d zm_L_law k X 2641 [(0, .ref 997), (1, .ref 1000), (2, .ref 1046), (3, .ref 1088), (4, .int l4)] g e := by
  refine zq_aload (pc' := 2642) rfl rfl rfl rfl ?_
  refine zq_aload (pc' := 2643) rfl rfl rfl rfl ?_
  refine zq_iload (pc' := 2645) rfl rfl rfl rfl ?_
  refine zq_ipush (pc' := 2646) rfl rfl rfl ?_
  refine zq_iadd (pc' := 2647) rfl rfl rfl ?_
  obtain ⟨hi1, H⟩ := H
  refine zq_iald (pc' := 2648) rfl rfl rfl (hscB hi1) ?_
  refine zq_aload (pc' := 2649) rfl rfl rfl rfl ?_
  refine zq_iload (pc' := 2651) rfl rfl rfl rfl ?_
  refine zq_ipush (pc' := 2652) rfl rfl rfl ?_
  refine zq_iadd (pc' := 2653) rfl rfl rfl ?_
  obtain ⟨hi2, H⟩ := H
  refine zq_iald (pc' := 2654) rfl rfl rfl (hscB hi2) ?_
  refine zq_aload (pc' := 2655) rfl rfl rfl rfl ?_
  refine hq_calli (pc' := 2658) rfl rfl rfl rfl rfl rfl h_Xi ?_
  refine hmonoi H ?_
  intro x5 g3 e4 H
  refine zq_istore (pc' := 2660) rfl rfl rfl ?_
  refine zq_aload (pc' := 2661) rfl rfl rfl rfl ?_
  refine zq_aload (pc' := 2662) rfl rfl rfl rfl ?_
  refine zq_iload (pc' := 2664) rfl rfl rfl rfl ?_
  refine zq_ipush (pc' := 2665) rfl rfl rfl ?_
  refine zq_iadd (pc' := 2666) rfl rfl rfl ?_
  obtain ⟨hi6, H⟩ := H
  refine zq_iald (pc' := 2667) rfl rfl rfl (hscB hi6) ?_
  refine zq_aload (pc' := 2668) rfl rfl rfl rfl ?_
  refine zq_iload (pc' := 2670) rfl rfl rfl rfl ?_
  refine zq_ipush (pc' := 2671) rfl rfl rfl ?_
  refine zq_iadd (pc' := 2672) rfl rfl rfl ?_
  obtain ⟨hi7, H⟩ := H
  refine zq_iald (pc' := 2673) rfl rfl rfl (hscB hi7) ?_
  refine hq_calli (pc' := 2676) rfl rfl rfl rfl rfl rfl h_Xi ?_
  refine hmonoi H ?_
  intro x10 g8 e9 H
  refine zq_istore (pc' := 2678) rfl rfl rfl ?_
  refine zq_aload (pc' := 2679) rfl rfl rfl rfl ?_
  refine hq_calli (pc' := 2682) rfl rfl rfl rfl rfl rfl h_Xi ?_
  refine hmonoi H ?_
  intro x13 g11 e12 H
  refine zq_iload (pc' := 2684) rfl rfl rfl rfl ?_
  refine zq_iceq (pc' := 2687) rfl rfl rfl rfl (And.intro (fun c => ?_) (fun c => ?_))
  · have H := H.1 c
    refine zq_iload (pc' := 2691) rfl rfl rfl rfl ?_
    refine zq_ifne (pc' := 2694) rfl rfl rfl rfl (And.intro (fun c => ?_) (fun c => ?_))
    · have H := H.1 c
      refine zq_aload (pc' := 2695) rfl rfl rfl rfl ?_
      refine zq_ipush (pc' := 2696) rfl rfl rfl ?_
      refine zq_lald (pc' := 2697) rfl rfl rfl (hp_la rfl (by unfold hin; decide)) ?_
      refine zq_iload (pc' := 2699) rfl rfl rfl rfl ?_
      refine zq_i2l (pc' := 2700) rfl rfl rfl ?_
      refine zq_lcmp (pc' := 2701) rfl rfl rfl ?_
      refine zq_ifeq (pc' := 2704) rfl rfl rfl rfl (And.intro (fun c => ?_) (fun c => ?_))
      · have H := H.1 c
        refine zq_goto_c (pc' := 2733) rfl rfl ?_
        exact H
      · have H := H.2 c
        refine zq_ipush (pc' := 2705) rfl rfl rfl ?_
        exact zq_iret rfl (Or.inl rfl) (Exists.intro _ (Exists.intro _ (And.intro rfl H)))
    · have H := H.2 c
      refine zq_goto_c (pc' := 2733) rfl rfl ?_
      exact H
  · have H := H.2 c
    refine zq_ipush (pc' := 2688) rfl rfl rfl ?_
    exact zq_iret rfl (Or.inl rfl) (Exists.intro _ (Exists.intro _ (And.intro rfl H)))
theorem zh_L_law_2709 {d : Nat} {k : Int32 → hG → hE → Prop} {X : Nat → hG → hE → Prop} {l4 : Int32} {g : hG} {e : hE} (H :
    hcv d 199 [.ref 1000] g e (fun g1 e2 =>
      hcv d 330 [.ref 1046] g1 e2 (fun g3 e4 =>
        hwi d zm_L_law k X 2733 [(0, .ref 997), (1, .ref 1000), (2, .ref 1046), (3, .ref 1088), (4, .int l4)] g3 e4) X) X) : hwi d zm_L_law k X 2709 [(0, .ref 997), (1, .ref 1000), (2, .ref 1046), (3, .ref 1088), (4, .int l4)] g e := by
  refine zq_aload (pc' := 2710) rfl rfl rfl rfl ?_
  refine hq_callv (pc' := 2713) rfl rfl rfl rfl rfl rfl h_Xi ?_
  refine hmonov H ?_
  intro g1 e2 H
  refine zq_aload (pc' := 2714) rfl rfl rfl rfl ?_
  refine hq_callv (pc' := 2717) rfl rfl rfl rfl rfl rfl h_Xi ?_
  refine hmonov H ?_
  intro g3 e4 H
  refine zq_goto_c (pc' := 2733) rfl rfl ?_
  exact H
theorem zh_L_law_2720 {d : Nat} {k : Int32 → hG → hE → Prop} {X : Nat → hG → hE → Prop} {l4 : Int32} {g : hG} {e : hE} (H :
    hci d 200 [.ref 1000] g e (fun x3 g1 e2 =>
      hci d 331 [.ref 1046] g1 e2 (fun x6 g4 e5 =>
        zbr (x3 = x6)
        (hwi d zm_L_law k X 2733 [(0, .ref 997), (1, .ref 1000), (2, .ref 1046), (3, .ref 1088), (4, .int l4)] g4 e5)
        (k 0 g4 e5)) X) X) : hwi d zm_L_law k X 2720 [(0, .ref 997), (1, .ref 1000), (2, .ref 1046), (3, .ref 1088), (4, .int l4)] g e := by
  refine zq_aload (pc' := 2721) rfl rfl rfl rfl ?_
  refine hq_calli (pc' := 2724) rfl rfl rfl rfl rfl rfl h_Xi ?_
  refine hmonoi H ?_
  intro x3 g1 e2 H
  refine zq_aload (pc' := 2725) rfl rfl rfl rfl ?_
  refine hq_calli (pc' := 2728) rfl rfl rfl rfl rfl rfl h_Xi ?_
  refine hmonoi H ?_
  intro x6 g4 e5 H
  refine zq_iceq_c (pc' := 2731) (lt := [(0, .ref 997), (1, .ref 1000), (2, .ref 1046), (3, .ref 1088), (4, .int l4)]) (lf := [(0, .ref 997), (1, .ref 1000), (2, .ref 1046), (3, .ref 1088), (4, .int l4)]) rfl rfl rfl rfl (And.intro (fun c => ?_) (fun c => ?_))
  · have H := H.1 c
    exact H
  · have H := H.2 c
    refine zq_ipush (pc' := 2732) rfl rfl rfl ?_
    exact zq_iret rfl (Or.inl rfl) (Exists.intro _ (Exists.intro _ (And.intro rfl H)))
theorem zh_L_law_2733 {d : Nat} {k : Int32 → hG → hE → Prop} {X : Nat → hG → hE → Prop} {l4 : Int32} {g : hG} {e : hE} (H :
    hwi d zm_L_law k X 23 [(0, .ref 997), (1, .ref 1000), (2, .ref 1046), (3, .ref 1088), (4, .int (l4 + 6))] g e) : hwi d zm_L_law k X 2733 [(0, .ref 997), (1, .ref 1000), (2, .ref 1046), (3, .ref 1088), (4, .int l4)] g e := by
  refine zq_iinc (pc' := 2736) rfl rfl rfl rfl ?_
  refine zq_goto_c (pc' := 23) rfl rfl ?_
  exact H
