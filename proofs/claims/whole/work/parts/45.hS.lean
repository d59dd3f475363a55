theorem zh_X7_feed {d : Nat} {k : Int32 → hG → hE → Prop} {X : Nat → hG → hE → Prop} {p1 : Int32} {p2 : Int32} {p3 : Int32} {p4 : Int32} {p5 : Int32} {g : hG} {e : hE} (H :
    hci d 365 [.ref 1001] g e (fun x3 g1 e2 =>
      zbr ((x3 + 20) ≤ 700)
      (hcv d 145 [.ref 1001, .int p1] g1 e2 (fun g4 e5 =>
          hcv d 145 [.ref 1001, .int p2] g4 e5 (fun g6 e7 =>
            hcv d 145 [.ref 1001, .int p3] g6 e7 (fun g8 e9 =>
              hcv d 145 [.ref 1001, .int p4] g8 e9 (fun g10 e11 =>
                hcv d 145 [.ref 1001, .int p5] g10 e11 (fun g12 e13 =>
                  hci d 365 [.ref 1001] g12 e13 (fun x16 g14 e15 =>
                    k x16 g14 e15) X) X) X) X) X) X)
      (k (-1) g1 e2)) X) : hci (d + 1) 144 [.ref 1000, .int p1, .int p2, .int p3, .int p4, .int p5] g e k X := by
  refine hent (M := zm_X7_feed) (show hT 1000 = some (.inr _) from rfl) rfl rfl rfl rfl rfl ?_
  refine zq_aload (pc' := 1) rfl rfl rfl rfl ?_
  refine zq_getR (pc' := 4) rfl rfl rfl (hp_gC rfl) ?_
  refine hq_calli (pc' := 7) rfl rfl rfl rfl rfl rfl h_Xi ?_
  refine hmonoi H ?_
  intro x3 g1 e2 H
  refine zq_ipush (pc' := 9) rfl rfl rfl ?_
  refine zq_iadd (pc' := 10) rfl rfl rfl ?_
  refine zq_ipush (pc' := 13) rfl rfl rfl ?_
  refine zq_icle (pc' := 16) rfl rfl rfl rfl (And.intro (fun c => ?_) (fun c => ?_))
  · have H := H.1 c
    refine zq_aload (pc' := 19) rfl rfl rfl rfl ?_
    refine zq_getR (pc' := 22) rfl rfl rfl (hp_gC rfl) ?_
    refine zq_iload (pc' := 23) rfl rfl rfl rfl ?_
    refine hq_callv (pc' := 26) rfl rfl rfl rfl rfl rfl h_Xi ?_
    refine hmonov H ?_
    intro g4 e5 H
    refine zq_aload (pc' := 27) rfl rfl rfl rfl ?_
    refine zq_getR (pc' := 30) rfl rfl rfl (hp_gC rfl) ?_
    refine zq_iload (pc' := 31) rfl rfl rfl rfl ?_
    refine hq_callv (pc' := 34) rfl rfl rfl rfl rfl rfl h_Xi ?_
    refine hmonov H ?_
    intro g6 e7 H
    refine zq_aload (pc' := 35) rfl rfl rfl rfl ?_
    refine zq_getR (pc' := 38) rfl rfl rfl (hp_gC rfl) ?_
    refine zq_iload (pc' := 39) rfl rfl rfl rfl ?_
    refine hq_callv (pc' := 42) rfl rfl rfl rfl rfl rfl h_Xi ?_
    refine hmonov H ?_
    intro g8 e9 H
    refine zq_aload (pc' := 43) rfl rfl rfl rfl ?_
    refine zq_getR (pc' := 46) rfl rfl rfl (hp_gC rfl) ?_
    refine zq_iload (pc' := 48) rfl rfl rfl rfl ?_
    refine hq_callv (pc' := 51) rfl rfl rfl rfl rfl rfl h_Xi ?_
    refine hmonov H ?_
    intro g10 e11 H
    refine zq_aload (pc' := 52) rfl rfl rfl rfl ?_
    refine zq_getR (pc' := 55) rfl rfl rfl (hp_gC rfl) ?_
    refine zq_iload (pc' := 57) rfl rfl rfl rfl ?_
    refine hq_callv (pc' := 60) rfl rfl rfl rfl rfl rfl h_Xi ?_
    refine hmonov H ?_
    intro g12 e13 H
    refine zq_aload (pc' := 61) rfl rfl rfl rfl ?_
    refine zq_getR (pc' := 64) rfl rfl rfl (hp_gC rfl) ?_
    refine hq_calli (pc' := 67) rfl rfl rfl rfl rfl rfl h_Xi ?_
    refine hmonoi H ?_
    intro x16 g14 e15 H
    exact zq_iret rfl trivial (Exists.intro _ (Exists.intro _ (And.intro rfl H)))
  · have H := H.2 c
    refine zq_ipushn (pc' := 17) rfl rfl rfl ?_
    exact zq_iret rfl trivial (Exists.intro _ (Exists.intro _ (And.intro rfl H)))
theorem zh_X7_drawer {d : Nat} {k : Int32 → hG → hE → Prop} {X : Nat → hG → hE → Prop} {p1 : Int32} {g : hG} {e : hE} (H :
    zbr (p1 < 0)
    (hrm e ∧ X 0 g (hth e))
    (hci d 365 [.ref 1001] g e (fun x3 g1 e2 =>
        zbr (p1 ≤ x3)
        (hci d 65 [.ref 1001, .int p1] g1 e2 (fun x6 g4 e5 =>
            zbr (x6 = 0)
            (hD ((sI g4 1000 1 (-1)).2.2 1000 2) ∧ 
              hcr d 366 [.ref 1001, .ref ((sI g4 1000 1 (-1)).2.2 1000 2)] (sI g4 1000 1 (-1)) e5 (fun a10 g8 e9 =>
                hD a10 ∧ hcv d 21 [.ref 1027] (sR g8 1000 2 a10) e9 (fun g12 e13 =>
                  hcv d 22 [.ref 1027] g12 e13 (fun g14 e15 =>
                    k 0 (sI g14 1000 5 0) e15) X) X) X)
            (hci d 64 [.ref 1001] g4 e5 (fun x18 g16 e17 =>
                hcv d 20 [.ref 1027, .int 0] (sI g16 1000 1 x18) e17 (fun g19 e20 =>
                  k x6 g19 e20) X) X)) X)
        (hrm e2 ∧ X 0 g1 (hth e2))) X)) : hci (d + 1) 146 [.ref 1000, .int p1] g e k X := by
  refine hent (M := zm_X7_drawer) (show hT 1000 = some (.inr _) from rfl) rfl rfl rfl rfl rfl ?_
  refine zq_iload (pc' := 1) rfl rfl rfl rfl ?_
  refine zq_iflt (pc' := 4) rfl rfl rfl rfl (And.intro (fun c => ?_) (fun c => ?_))
  · have H := H.1 c
    obtain ⟨e0, H⟩ := H
    exact zq_throw rfl rfl (hp_nx e0) (Exists.intro _ (Exists.intro _ (And.intro rfl H)))
  · have H := H.2 c
    refine zq_iload (pc' := 5) rfl rfl rfl rfl ?_
    refine zq_aload (pc' := 6) rfl rfl rfl rfl ?_
    refine zq_getR (pc' := 9) rfl rfl rfl (hp_gC rfl) ?_
    refine hq_calli (pc' := 12) rfl rfl rfl rfl rfl rfl h_Xi ?_
    refine hmonoi H ?_
    intro x3 g1 e2 H
    refine zq_icle (pc' := 15) rfl rfl rfl rfl (And.intro (fun c => ?_) (fun c => ?_))
    · have H := H.1 c
      refine zq_aload (pc' := 26) rfl rfl rfl rfl ?_
      refine zq_getR (pc' := 29) rfl rfl rfl (hp_gC rfl) ?_
      refine zq_iload (pc' := 30) rfl rfl rfl rfl ?_
      refine hq_calli (pc' := 33) rfl rfl rfl rfl rfl rfl h_Xi ?_
      refine hmonoi H ?_
      intro x6 g4 e5 H
      refine zq_istore (pc' := 34) rfl rfl rfl ?_
      refine zq_iload (pc' := 35) rfl rfl rfl rfl ?_
      refine zq_ifeq (pc' := 38) rfl rfl rfl rfl (And.intro (fun c => ?_) (fun c => ?_))
      · have H := H.1 c
        refine zq_aload (pc' := 60) rfl rfl rfl rfl ?_
        refine zq_ipushn (pc' := 61) rfl rfl rfl ?_
        refine zq_put (pc' := 64) rfl rfl rfl trivial (hp_sI rfl) ?_
        refine zq_aload (pc' := 65) rfl rfl rfl rfl ?_
        refine zq_aload (pc' := 66) rfl rfl rfl rfl ?_
        refine zq_getR (pc' := 69) rfl rfl rfl (hp_gC rfl) ?_
        refine zq_aload (pc' := 70) rfl rfl rfl rfl ?_
        obtain ⟨hr7, H⟩ := H
        refine zq_getR (pc' := 73) rfl rfl rfl (hp_gR rfl) ?_
        refine hq_callr (pc' := 76) rfl rfl rfl rfl rfl rfl h_Xi ?_
        refine hmonor H ?_
        intro a10 g8 e9 H
        obtain ⟨hx11, H⟩ := H
        refine zq_put (pc' := 79) rfl rfl rfl trivial (hp_sR rfl) ?_
        refine zq_aload (pc' := 80) rfl rfl rfl rfl ?_
        refine zq_getR (pc' := 83) rfl rfl rfl (hp_gC rfl) ?_
        refine hq_callv (pc' := 86) rfl rfl rfl rfl rfl rfl h_Xi ?_
        refine hmonov H ?_
        intro g12 e13 H
        refine zq_aload (pc' := 87) rfl rfl rfl rfl ?_
        refine zq_getR (pc' := 90) rfl rfl rfl (hp_gC rfl) ?_
        refine hq_callv (pc' := 93) rfl rfl rfl rfl rfl rfl h_Xi ?_
        refine hmonov H ?_
        intro g14 e15 H
        refine zq_aload (pc' := 94) rfl rfl rfl rfl ?_
        refine zq_ipush (pc' := 95) rfl rfl rfl ?_
        refine zq_put (pc' := 98) rfl rfl rfl (Or.inl rfl) (hp_sI rfl) ?_
        refine zq_ipush (pc' := 99) rfl rfl rfl ?_
        exact zq_iret rfl trivial (Exists.intro _ (Exists.intro _ (And.intro rfl H)))
      · have H := H.2 c
        refine zq_aload (pc' := 39) rfl rfl rfl rfl ?_
        refine zq_aload (pc' := 40) rfl rfl rfl rfl ?_
        refine zq_getR (pc' := 43) rfl rfl rfl (hp_gC rfl) ?_
        refine hq_calli (pc' := 46) rfl rfl rfl rfl rfl rfl h_Xi ?_
        refine hmonoi H ?_
        intro x18 g16 e17 H
        refine zq_put (pc' := 49) rfl rfl rfl trivial (hp_sI rfl) ?_
        refine zq_aload (pc' := 50) rfl rfl rfl rfl ?_
        refine zq_getR (pc' := 53) rfl rfl rfl (hp_gC rfl) ?_
        refine zq_ipush (pc' := 54) rfl rfl rfl ?_
        refine hq_callv (pc' := 57) rfl rfl rfl rfl rfl rfl h_Xi ?_
        refine hmonov H ?_
        intro g19 e20 H
        refine zq_iload (pc' := 58) rfl rfl rfl rfl ?_
        exact zq_iret rfl trivial (Exists.intro _ (Exists.intro _ (And.intro rfl H)))
    · have H := H.2 c
      obtain ⟨e0, H⟩ := H
      exact zq_throw rfl rfl (hp_nx e0) (Exists.intro _ (Exists.intro _ (And.intro rfl H)))
theorem zh_X7_fault {d : Nat} {k : Int32 → hG → hE → Prop} {X : Nat → hG → hE → Prop}  {g : hG} {e : hE} (H :
    k (g.1 1000 1) g e) : hci (d + 1) 147 [.ref 1000] g e k X := by
  refine hent (M := zm_X7_fault) (show hT 1000 = some (.inr _) from rfl) rfl rfl rfl rfl rfl ?_
  refine zq_aload (pc' := 1) rfl rfl rfl rfl ?_
  refine zq_getI (pc' := 4) rfl rfl rfl (hp_gI rfl) ?_
  exact zq_iret rfl trivial (Exists.intro _ (Exists.intro _ (And.intro rfl H)))
theorem zh_X7_count {d : Nat} {k : Int32 → hG → hE → Prop} {X : Nat → hG → hE → Prop} {p1 : Int32} {g : hG} {e : hE} (H :
    zbr (p1 = nI 0)
    (hD (g.2.2 1000 2) ∧ 
      hci d 46 [.ref (g.2.2 1000 2)] g e (fun x4 g2 e3 =>
        k x4 g2 e3) X)
    (zbr (p1 = nI 1)
    (hD (g.2.2 1000 2) ∧ 
      hci d 49 [.ref (g.2.2 1000 2)] g e (fun x8 g6 e7 =>
        k x8 g6 e7) X)
    (zbr (p1 = nI 2)
    (hD (g.2.2 1000 2) ∧ 
      hD (g.2.2 1000 2) ∧ 
      hci d 49 [.ref (g.2.2 1000 2)] g e (fun x13 g11 e12 =>
        hci d 53 [.ref (g.2.2 1000 2), .int x13] g11 e12 (fun x16 g14 e15 =>
          k x16 g14 e15) X) X)
    (zbr (p1 = nI 3)
    (hD (g.2.2 1000 2) ∧ 
      hci d 55 [.ref (g.2.2 1000 2)] g e (fun x20 g18 e19 =>
        k x20 g18 e19) X)
    (zbr (p1 = nI 4)
    (hD (g.2.2 1000 2) ∧ 
      hci d 56 [.ref (g.2.2 1000 2)] g e (fun x24 g22 e23 =>
        k x24 g22 e23) X)
    (zbr (p1 = nI 5)
    (hci d 149 [.ref 1000] g e (fun x27 g25 e26 =>
        k x27 g25 e26) X)
    (zbr (p1 = nI 6)
    (hci d 17 [.ref 1027] g e (fun x30 g28 e29 =>
        k x30 g28 e29) X)
    (zbr (p1 = nI 7)
    (hci d 18 [.ref 1027] g e (fun x33 g31 e32 =>
        k x33 g31 e32) X)
    (zbr (p1 = nI 8)
    (hci d 365 [.ref 1001] g e (fun x36 g34 e35 =>
        k x36 g34 e35) X)
    (zbr (p1 = nI 9)
    (hci d 19 [.ref 1027, .int 0] g e (fun x39 g37 e38 =>
        k x39 g37 e38) X)
    (zbr (p1 = nI 10)
    (hci d 19 [.ref 1027, .int 1] g e (fun x42 g40 e41 =>
        k x42 g40 e41) X)
    (zbr (p1 = nI 11)
    (hci d 19 [.ref 1027, .int 2] g e (fun x45 g43 e44 =>
        k x45 g43 e44) X)
    (hrm e ∧ X 1 g (hth e)))))))))))))) : hci (d + 1) 148 [.ref 1000, .int p1] g e k X := by
  refine hent (M := zm_X7_count) (show hT 1000 = some (.inr _) from rfl) rfl rfl rfl rfl rfl ?_
  refine zq_iload (pc' := 1) rfl rfl rfl rfl ?_
  refine zq_switch rfl ?_
  refine And.intro (fun c => ?_) (fun c => ?_)
  · have H := H.1 c
    show zW (zE d) zm_X7_count (hqi k X) (64, [(0, .ref 1000), (1, .int p1)], [], hp g e)
    refine zq_aload (pc' := 65) rfl rfl rfl rfl ?_
    obtain ⟨hr1, H⟩ := H
    refine zq_getR (pc' := 68) rfl rfl rfl (hp_gR rfl) ?_
    refine hq_calli (pc' := 71) rfl rfl rfl rfl rfl rfl h_Xi ?_
    refine hmonoi H ?_
    intro x4 g2 e3 H
    exact zq_iret rfl trivial (Exists.intro _ (Exists.intro _ (And.intro rfl H)))
  · have H := H.2 c
    refine And.intro (fun c => ?_) (fun c => ?_)
    · have H := H.1 c
      show zW (zE d) zm_X7_count (hqi k X) (72, [(0, .ref 1000), (1, .int p1)], [], hp g e)
      refine zq_aload (pc' := 73) rfl rfl rfl rfl ?_
      obtain ⟨hr5, H⟩ := H
      refine zq_getR (pc' := 76) rfl rfl rfl (hp_gR rfl) ?_
      refine hq_calli (pc' := 79) rfl rfl rfl rfl rfl rfl h_Xi ?_
      refine hmonoi H ?_
      intro x8 g6 e7 H
      exact zq_iret rfl trivial (Exists.intro _ (Exists.intro _ (And.intro rfl H)))
    · have H := H.2 c
      refine And.intro (fun c => ?_) (fun c => ?_)
      · have H := H.1 c
        show zW (zE d) zm_X7_count (hqi k X) (80, [(0, .ref 1000), (1, .int p1)], [], hp g e)
        refine zq_aload (pc' := 81) rfl rfl rfl rfl ?_
        obtain ⟨hr9, H⟩ := H
        refine zq_getR (pc' := 84) rfl rfl rfl (hp_gR rfl) ?_
        refine zq_aload (pc' := 85) rfl rfl rfl rfl ?_
        obtain ⟨hr10, H⟩ := H
        refine zq_getR (pc' := 88) rfl rfl rfl (hp_gR rfl) ?_
        refine hq_calli (pc' := 91) rfl rfl rfl rfl rfl rfl h_Xi ?_
        refine hmonoi H ?_
        intro x13 g11 e12 H
        refine hq_calli (pc' := 94) rfl rfl rfl rfl rfl rfl h_Xi ?_
        refine hmonoi H ?_
        intro x16 g14 e15 H
        exact zq_iret rfl trivial (Exists.intro _ (Exists.intro _ (And.intro rfl H)))
      · have H := H.2 c
        refine And.intro (fun c => ?_) (fun c => ?_)
        · have H := H.1 c
          show zW (zE d) zm_X7_count (hqi k X) (95, [(0, .ref 1000), (1, .int p1)], [], hp g e)
          refine zq_aload (pc' := 96) rfl rfl rfl rfl ?_
          obtain ⟨hr17, H⟩ := H
          refine zq_getR (pc' := 99) rfl rfl rfl (hp_gR rfl) ?_
          refine hq_calli (pc' := 102) rfl rfl rfl rfl rfl rfl h_Xi ?_
          refine hmonoi H ?_
          intro x20 g18 e19 H
          exact zq_iret rfl trivial (Exists.intro _ (Exists.intro _ (And.intro rfl H)))
        · have H := H.2 c
          refine And.intro (fun c => ?_) (fun c => ?_)
          · have H := H.1 c
            show zW (zE d) zm_X7_count (hqi k X) (103, [(0, .ref 1000), (1, .int p1)], [], hp g e)
            refine zq_aload (pc' := 104) rfl rfl rfl rfl ?_
            obtain ⟨hr21, H⟩ := H
            refine zq_getR (pc' := 107) rfl rfl rfl (hp_gR rfl) ?_
            refine hq_calli (pc' := 110) rfl rfl rfl rfl rfl rfl h_Xi ?_
            refine hmonoi H ?_
            intro x24 g22 e23 H
            exact zq_iret rfl trivial (Exists.intro _ (Exists.intro _ (And.intro rfl H)))
          · have H := H.2 c
            refine And.intro (fun c => ?_) (fun c => ?_)
            · have H := H.1 c
              show zW (zE d) zm_X7_count (hqi k X) (111, [(0, .ref 1000), (1, .int p1)], [], hp g e)
              refine zq_aload (pc' := 112) rfl rfl rfl rfl ?_
              refine hq_calli (pc' := 115) rfl rfl rfl rfl rfl rfl h_Xi ?_
              refine hmonoi H ?_
              intro x27 g25 e26 H
              exact zq_iret rfl trivial (Exists.intro _ (Exists.intro _ (And.intro rfl H)))
            · have H := H.2 c
              refine And.intro (fun c => ?_) (fun c => ?_)
              · have H := H.1 c
                show zW (zE d) zm_X7_count (hqi k X) (116, [(0, .ref 1000), (1, .int p1)], [], hp g e)
                refine zq_aload (pc' := 117) rfl rfl rfl rfl ?_
                refine zq_getR (pc' := 120) rfl rfl rfl (hp_gC rfl) ?_
                refine hq_calli (pc' := 123) rfl rfl rfl rfl rfl rfl h_Xi ?_
                refine hmonoi H ?_
                intro x30 g28 e29 H
                exact zq_iret rfl trivial (Exists.intro _ (Exists.intro _ (And.intro rfl H)))
              · have H := H.2 c
                refine And.intro (fun c => ?_) (fun c => ?_)
                · have H := H.1 c
                  show zW (zE d) zm_X7_count (hqi k X) (124, [(0, .ref 1000), (1, .int p1)], [], hp g e)
                  refine zq_aload (pc' := 125) rfl rfl rfl rfl ?_
                  refine zq_getR (pc' := 128) rfl rfl rfl (hp_gC rfl) ?_
                  refine hq_calli (pc' := 131) rfl rfl rfl rfl rfl rfl h_Xi ?_
                  refine hmonoi H ?_
                  intro x33 g31 e32 H
                  exact zq_iret rfl trivial (Exists.intro _ (Exists.intro _ (And.intro rfl H)))
                · have H := H.2 c
                  refine And.intro (fun c => ?_) (fun c => ?_)
                  · have H := H.1 c
                    show zW (zE d) zm_X7_count (hqi k X) (132, [(0, .ref 1000), (1, .int p1)], [], hp g e)
                    refine zq_aload (pc' := 133) rfl rfl rfl rfl ?_
                    refine zq_getR (pc' := 136) rfl rfl rfl (hp_gC rfl) ?_
                    refine hq_calli (pc' := 139) rfl rfl rfl rfl rfl rfl h_Xi ?_
                    refine hmonoi H ?_
                    intro x36 g34 e35 H
                    exact zq_iret rfl trivial (Exists.intro _ (Exists.intro _ (And.intro rfl H)))
                  · have H := H.2 c
                    refine And.intro (fun c => ?_) (fun c => ?_)
                    · have H := H.1 c
                      show zW (zE d) zm_X7_count (hqi k X) (140, [(0, .ref 1000), (1, .int p1)], [], hp g e)
                      refine zq_aload (pc' := 141) rfl rfl rfl rfl ?_
                      refine zq_getR (pc' := 144) rfl rfl rfl (hp_gC rfl) ?_
                      refine zq_ipush (pc' := 145) rfl rfl rfl ?_
                      refine hq_calli (pc' := 148) rfl rfl rfl rfl rfl rfl h_Xi ?_
                      refine hmonoi H ?_
                      intro x39 g37 e38 H
                      exact zq_iret rfl trivial (Exists.intro _ (Exists.intro _ (And.intro rfl H)))
                    · have H := H.2 c
                      refine And.intro (fun c => ?_) (fun c => ?_)
                      · have H := H.1 c
                        show zW (zE d) zm_X7_count (hqi k X) (149, [(0, .ref 1000), (1, .int p1)], [], hp g e)
                        refine zq_aload (pc' := 150) rfl rfl rfl rfl ?_
                        refine zq_getR (pc' := 153) rfl rfl rfl (hp_gC rfl) ?_
                        refine zq_ipush (pc' := 154) rfl rfl rfl ?_
                        refine hq_calli (pc' := 157) rfl rfl rfl rfl rfl rfl h_Xi ?_
                        refine hmonoi H ?_
                        intro x42 g40 e41 H
                        exact zq_iret rfl trivial (Exists.intro _ (Exists.intro _ (And.intro rfl H)))
                      · have H := H.2 c
                        refine And.intro (fun c => ?_) (fun c => ?_)
                        · have H := H.1 c
                          show zW (zE d) zm_X7_count (hqi k X) (158, [(0, .ref 1000), (1, .int p1)], [], hp g e)
                          refine zq_aload (pc' := 159) rfl rfl rfl rfl ?_
                          refine zq_getR (pc' := 162) rfl rfl rfl (hp_gC rfl) ?_
                          refine zq_ipush (pc' := 163) rfl rfl rfl ?_
                          refine hq_calli (pc' := 166) rfl rfl rfl rfl rfl rfl h_Xi ?_
                          refine hmonoi H ?_
                          intro x45 g43 e44 H
                          exact zq_iret rfl trivial (Exists.intro _ (Exists.intro _ (And.intro rfl H)))
                        · have H := H.2 c
                          show zW (zE d) zm_X7_count (hqi k X) (167, [(0, .ref 1000), (1, .int p1)], [], hp g e)
                          obtain ⟨e0, H⟩ := H
                          exact zq_throw rfl rfl (hp_nx e0) (Exists.intro _ (Exists.intro _ (And.intro rfl H)))
theorem zh_X7_twins {d : Nat} {k : Int32 → hG → hE → Prop} {X : Nat → hG → hE → Prop}  {g : hG} {e : hE} (H :
    hwi d zm_X7_twins k X 4 [(0, .ref 1000), (1, .int 0), (2, .int 0)] g e) : hci (d + 1) 149 [.ref 1000] g e k X := by
  refine hent (M := zm_X7_twins) (show hT 1000 = some (.inr _) from rfl) rfl rfl rfl rfl rfl ?_
  refine zq_ipush (pc' := 1) rfl rfl rfl ?_
  refine zq_istore (pc' := 2) rfl rfl rfl ?_
  refine zq_ipush (pc' := 3) rfl rfl rfl ?_
  refine zq_istore_c (pc' := 4) rfl rfl ?_
  exact H
theorem zh_X7_twins_4 {d : Nat} {k : Int32 → hG → hE → Prop} {X : Nat → hG → hE → Prop} {l1 : Int32} {l2 : Int32} {g : hG} {e : hE} (H :
    hD (g.2.2 1000 2) ∧ 
    hci d 46 [.ref (g.2.2 1000 2)] g e (fun x4 g2 e3 =>
      zbr (x4 ≤ l2)
      (k l1 g2 e3)
      (hwi d zm_X7_twins k X 19 [(0, .ref 1000), (1, .int l1), (2, .int l2), (3, .int (l2 + 1))] g2 e3)) X) : hwi d zm_X7_twins k X 4 [(0, .ref 1000), (1, .int l1), (2, .int l2)] g e := by
  refine zq_iload (pc' := 5) rfl rfl rfl rfl ?_
  refine zq_aload (pc' := 6) rfl rfl rfl rfl ?_
  obtain ⟨hr1, H⟩ := H
  refine zq_getR (pc' := 9) rfl rfl rfl (hp_gR rfl) ?_
  refine hq_calli (pc' := 12) rfl rfl rfl rfl rfl rfl h_Xi ?_
  refine hmonoi H ?_
  intro x4 g2 e3 H
  refine zq_icge (pc' := 15) rfl rfl rfl rfl (And.intro (fun c => ?_) (fun c => ?_))
  · have H := H.1 c
    refine zq_iload (pc' := 62) rfl rfl rfl rfl ?_
    exact zq_iret rfl trivial (Exists.intro _ (Exists.intro _ (And.intro rfl H)))
  · have H := H.2 c
    refine zq_iload (pc' := 16) rfl rfl rfl rfl ?_
    refine zq_ipush (pc' := 17) rfl rfl rfl ?_
    refine zq_iadd (pc' := 18) rfl rfl rfl ?_
    refine zq_istore_c (pc' := 19) rfl rfl ?_
    exact H
theorem zh_X7_twins_19 {d : Nat} {k : Int32 → hG → hE → Prop} {X : Nat → hG → hE → Prop} {l1 : Int32} {l2 : Int32} {l3 : Int32} {g : hG} {e : hE} (H :
    hD (g.2.2 1000 2) ∧ 
    hci d 46 [.ref (g.2.2 1000 2)] g e (fun x4 g2 e3 =>
      zbr (x4 ≤ l3)
      (hwi d zm_X7_twins k X 4 [(0, .ref 1000), (1, .int l1), (2, .int (l2 + 1))] g2 e3)
      (hcr d 201 [.ref 1000, .int l2] g2 e3 (fun a7 g5 e6 =>
          hT a7 = some hZ ∧ hcr d 201 [.ref 1000, .int l3] g5 e6 (fun a11 g9 e10 =>
            hT a11 = some hZ ∧ hci d 124 [.ref a7, .ref a11] g9 e10 (fun x15 g13 e14 =>
              zbr (x15 = 0)
              (hwi d zm_X7_twins k X 19 [(0, .ref 1000), (1, .int l1), (2, .int l2), (3, .int (l3 + 1))] g13 e14)
              (hwi d zm_X7_twins k X 19 [(0, .ref 1000), (1, .int (l1 + 1)), (2, .int l2), (3, .int (l3 + 1))] g13 e14)) X) X) X)) X) : hwi d zm_X7_twins k X 19 [(0, .ref 1000), (1, .int l1), (2, .int l2), (3, .int l3)] g e := by
  refine zq_iload (pc' := 20) rfl rfl rfl rfl ?_
  refine zq_aload (pc' := 21) rfl rfl rfl rfl ?_
  obtain ⟨hr1, H⟩ := H
  refine zq_getR (pc' := 24) rfl rfl rfl (hp_gR rfl) ?_
  refine hq_calli (pc' := 27) rfl rfl rfl rfl rfl rfl h_Xi ?_
  refine hmonoi H ?_
  intro x4 g2 e3 H
  refine zq_icge (pc' := 30) rfl rfl rfl rfl (And.intro (fun c => ?_) (fun c => ?_))
  · have H := H.1 c
    refine zq_iinc (pc' := 58) rfl rfl rfl rfl ?_
    refine zq_goto_c (pc' := 4) rfl rfl ?_
    exact H
  · have H := H.2 c
    refine zq_aload (pc' := 31) rfl rfl rfl rfl ?_
    refine zq_iload (pc' := 32) rfl rfl rfl rfl ?_
    refine hq_callr (pc' := 35) rfl rfl rfl rfl rfl rfl h_Xi ?_
    refine hmonor H ?_
    intro a7 g5 e6 H
    obtain ⟨hx8, H⟩ := H
    refine zq_aload (pc' := 36) rfl rfl rfl rfl ?_
    refine zq_iload (pc' := 37) rfl rfl rfl rfl ?_
    refine hq_callr (pc' := 40) rfl rfl rfl rfl rfl rfl h_Xi ?_
    refine hmonor H ?_
    intro a11 g9 e10 H
    obtain ⟨hx12, H⟩ := H
    refine hq_calli (pc' := 43) rfl rfl rfl rfl rfl rfl h_Xi ?_
    refine hmonoi H ?_
    intro x15 g13 e14 H
    refine zq_ifeq (pc' := 46) rfl rfl rfl rfl (And.intro (fun c => ?_) (fun c => ?_))
    · have H := H.1 c
      refine zq_iinc (pc' := 52) rfl rfl rfl rfl ?_
      refine zq_goto_c (pc' := 19) rfl rfl ?_
      exact H
    · have H := H.2 c
      refine zq_iinc (pc' := 49) rfl rfl rfl rfl ?_
      refine zq_iinc (pc' := 52) rfl rfl rfl rfl ?_
      refine zq_goto_c (pc' := 19) rfl rfl ?_
      exact H
theorem zh_X7_zip {d : Nat} {k : Int32 → hG → hE → Prop} {X : Nat → hG → hE → Prop} {p1 : Int32} {p2 : Int32} {g : hG} {e : hE} (H :
    hcr d 201 [.ref 1000, .int p1] g e (fun a3 g1 e2 =>
      hT a3 = some hZ ∧ zbr (p2 = nI 0)
      (hci d 112 [.ref a3] g1 e2 (fun x7 g5 e6 =>
          k x7 g5 e6) X)
      (zbr (p2 = nI 1)
      (hci d 114 [.ref a3] g1 e2 (fun x10 g8 e9 =>
          k x10 g8 e9) X)
      (zbr (p2 = nI 2)
      (hci d 115 [.ref a3] g1 e2 (fun x13 g11 e12 =>
          k x13 g11 e12) X)
      (zbr (p2 = nI 3)
      (hci d 121 [.ref a3] g1 e2 (fun x16 g14 e15 =>
          k x16 g14 e15) X)
      (zbr (p2 = nI 4)
      (hci d 113 [.ref a3] g1 e2 (fun x19 g17 e18 =>
          zbr (x19 = 0)
          (k 0 g17 e18)
          (k 1 g17 e18)) X)
      (zbr (p2 = nI 5)
      (hci d 135 [.ref a3] g1 e2 (fun x22 g20 e21 =>
          k x22 g20 e21) X)
      (zbr (p2 = nI 6)
      (hci d 136 [.ref a3] g1 e2 (fun x25 g23 e24 =>
          k x25 g23 e24) X)
      (zbr (p2 = nI 7)
      (hci d 137 [.ref a3] g1 e2 (fun x28 g26 e27 =>
          k x28 g26 e27) X)
      (zbr (p2 = nI 8)
      (hci d 138 [.ref a3] g1 e2 (fun x31 g29 e30 =>
          k x31 g29 e30) X)
      (zbr (p2 = nI 9)
      (hci d 151 [.ref 1000, .ref a3] g1 e2 (fun x34 g32 e33 =>
          k x34 g32 e33) X)
      (hrm e2 ∧ X 1 g1 (hth e2)))))))))))) X) : hci (d + 1) 150 [.ref 1000, .int p1, .int p2] g e k X := by
  refine hent (M := zm_X7_zip) (show hT 1000 = some (.inr _) from rfl) rfl rfl rfl rfl rfl ?_
  refine zq_aload (pc' := 1) rfl rfl rfl rfl ?_
  refine zq_iload (pc' := 2) rfl rfl rfl rfl ?_
  refine hq_callr (pc' := 5) rfl rfl rfl rfl rfl rfl h_Xi ?_
  refine hmonor H ?_
  intro a3 g1 e2 H
  obtain ⟨hx4, H⟩ := H
  refine zq_astore (pc' := 6) rfl rfl rfl ?_
  refine zq_iload (pc' := 7) rfl rfl rfl rfl ?_
  refine zq_switch rfl ?_
  refine And.intro (fun c => ?_) (fun c => ?_)
  · have H := H.1 c
    show zW (zE d) zm_X7_zip (hqi k X) (60, [(3, .ref a3), (0, .ref 1000), (1, .int p1), (2, .int p2)], [], hp g1 e2)
    refine zq_aload (pc' := 61) rfl rfl rfl rfl ?_
    refine hq_calli (pc' := 64) rfl rfl rfl rfl rfl rfl h_Xi ?_
    refine hmonoi H ?_
    intro x7 g5 e6 H
    exact zq_iret rfl trivial (Exists.intro _ (Exists.intro _ (And.intro rfl H)))
  · have H := H.2 c
    refine And.intro (fun c => ?_) (fun c => ?_)
    · have H := H.1 c
      show zW (zE d) zm_X7_zip (hqi k X) (65, [(3, .ref a3), (0, .ref 1000), (1, .int p1), (2, .int p2)], [], hp g1 e2)
      refine zq_aload (pc' := 66) rfl rfl rfl rfl ?_
      refine hq_calli (pc' := 69) rfl rfl rfl rfl rfl rfl h_Xi ?_
      refine hmonoi H ?_
      intro x10 g8 e9 H
      exact zq_iret rfl trivial (Exists.intro _ (Exists.intro _ (And.intro rfl H)))
    · have H := H.2 c
      refine And.intro (fun c => ?_) (fun c => ?_)
      · have H := H.1 c
        show zW (zE d) zm_X7_zip (hqi k X) (70, [(3, .ref a3), (0, .ref 1000), (1, .int p1), (2, .int p2)], [], hp g1 e2)
        refine zq_aload (pc' := 71) rfl rfl rfl rfl ?_
        refine hq_calli (pc' := 74) rfl rfl rfl rfl rfl rfl h_Xi ?_
        refine hmonoi H ?_
        intro x13 g11 e12 H
        exact zq_iret rfl trivial (Exists.intro _ (Exists.intro _ (And.intro rfl H)))
      · have H := H.2 c
        refine And.intro (fun c => ?_) (fun c => ?_)
        · have H := H.1 c
          show zW (zE d) zm_X7_zip (hqi k X) (75, [(3, .ref a3), (0, .ref 1000), (1, .int p1), (2, .int p2)], [], hp g1 e2)
          refine zq_aload (pc' := 76) rfl rfl rfl rfl ?_
          refine hq_calli (pc' := 79) rfl rfl rfl rfl rfl rfl h_Xi ?_
          refine hmonoi H ?_
          intro x16 g14 e15 H
          exact zq_iret rfl trivial (Exists.intro _ (Exists.intro _ (And.intro rfl H)))
        · have H := H.2 c
          refine And.intro (fun c => ?_) (fun c => ?_)
          · have H := H.1 c
            show zW (zE d) zm_X7_zip (hqi k X) (80, [(3, .ref a3), (0, .ref 1000), (1, .int p1), (2, .int p2)], [], hp g1 e2)
            refine zq_aload (pc' := 81) rfl rfl rfl rfl ?_
            refine hq_calli (pc' := 84) rfl rfl rfl rfl rfl rfl h_Xi ?_
            refine hmonoi H ?_
            intro x19 g17 e18 H
            refine zq_ifeq (pc' := 87) rfl rfl rfl rfl (And.intro (fun c => ?_) (fun c => ?_))
            · have H := H.1 c
              refine zq_ipush (pc' := 92) rfl rfl rfl ?_
              exact zq_iret rfl trivial (Exists.intro _ (Exists.intro _ (And.intro rfl H)))
            · have H := H.2 c
              refine zq_ipush (pc' := 88) rfl rfl rfl ?_
              refine zq_goto (pc' := 92) rfl rfl rfl ?_
              exact zq_iret rfl trivial (Exists.intro _ (Exists.intro _ (And.intro rfl H)))
          · have H := H.2 c
            refine And.intro (fun c => ?_) (fun c => ?_)
            · have H := H.1 c
              show zW (zE d) zm_X7_zip (hqi k X) (93, [(3, .ref a3), (0, .ref 1000), (1, .int p1), (2, .int p2)], [], hp g1 e2)
              refine zq_aload (pc' := 94) rfl rfl rfl rfl ?_
              refine hq_calli (pc' := 97) rfl rfl rfl rfl rfl rfl h_Xi ?_
              refine hmonoi H ?_
              intro x22 g20 e21 H
              exact zq_iret rfl trivial (Exists.intro _ (Exists.intro _ (And.intro rfl H)))
            · have H := H.2 c
              refine And.intro (fun c => ?_) (fun c => ?_)
              · have H := H.1 c
                show zW (zE d) zm_X7_zip (hqi k X) (98, [(3, .ref a3), (0, .ref 1000), (1, .int p1), (2, .int p2)], [], hp g1 e2)
                refine zq_aload (pc' := 99) rfl rfl rfl rfl ?_
                refine hq_calli (pc' := 102) rfl rfl rfl rfl rfl rfl h_Xi ?_
                refine hmonoi H ?_
                intro x25 g23 e24 H
                exact zq_iret rfl trivial (Exists.intro _ (Exists.intro _ (And.intro rfl H)))
              · have H := H.2 c
                refine And.intro (fun c => ?_) (fun c => ?_)
                · have H := H.1 c
                  show zW (zE d) zm_X7_zip (hqi k X) (103, [(3, .ref a3), (0, .ref 1000), (1, .int p1), (2, .int p2)], [], hp g1 e2)
                  refine zq_aload (pc' := 104) rfl rfl rfl rfl ?_
                  refine hq_calli (pc' := 107) rfl rfl rfl rfl rfl rfl h_Xi ?_
                  refine hmonoi H ?_
                  intro x28 g26 e27 H
                  exact zq_iret rfl trivial (Exists.intro _ (Exists.intro _ (And.intro rfl H)))
                · have H := H.2 c
                  refine And.intro (fun c => ?_) (fun c => ?_)
                  · have H := H.1 c
                    show zW (zE d) zm_X7_zip (hqi k X) (108, [(3, .ref a3), (0, .ref 1000), (1, .int p1), (2, .int p2)], [], hp g1 e2)
                    refine zq_aload (pc' := 109) rfl rfl rfl rfl ?_
                    refine hq_calli (pc' := 112) rfl rfl rfl rfl rfl rfl h_Xi ?_
                    refine hmonoi H ?_
                    intro x31 g29 e30 H
                    exact zq_iret rfl trivial (Exists.intro _ (Exists.intro _ (And.intro rfl H)))
                  · have H := H.2 c
                    refine And.intro (fun c => ?_) (fun c => ?_)
                    · have H := H.1 c
                      show zW (zE d) zm_X7_zip (hqi k X) (113, [(3, .ref a3), (0, .ref 1000), (1, .int p1), (2, .int p2)], [], hp g1 e2)
                      refine zq_aload (pc' := 114) rfl rfl rfl rfl ?_
                      refine zq_aload (pc' := 115) rfl rfl rfl rfl ?_
                      refine hq_calli (pc' := 118) rfl rfl rfl rfl rfl rfl h_Xi ?_
                      refine hmonoi H ?_
                      intro x34 g32 e33 H
                      exact zq_iret rfl trivial (Exists.intro _ (Exists.intro _ (And.intro rfl H)))
                    · have H := H.2 c
                      show zW (zE d) zm_X7_zip (hqi k X) (119, [(3, .ref a3), (0, .ref 1000), (1, .int p1), (2, .int p2)], [], hp g1 e2)
                      obtain ⟨e0, H⟩ := H
                      exact zq_throw rfl rfl (hp_nx e0) (Exists.intro _ (Exists.intro _ (And.intro rfl H)))
theorem zh_X7_bears {d : Nat} {k : Int32 → hG → hE → Prop} {X : Nat → hG → hE → Prop} {p1 : Nat} (hp1 : hT p1 = some hZ) {g : hG} {e : hE} (H :
    hwi d zm_X7_bears k X 2 [(0, .ref 1000), (1, .ref p1), (2, .int 0)] g e) : hci (d + 1) 151 [.ref 1000, .ref p1] g e k X := by
  refine hent (M := zm_X7_bears) (show hT 1000 = some (.inr _) from rfl) rfl rfl rfl rfl rfl ?_
  refine zq_ipush (pc' := 1) rfl rfl rfl ?_
  refine zq_istore_c (pc' := 2) rfl rfl ?_
  exact H
theorem zh_X7_bears_2 {d : Nat} {k : Int32 → hG → hE → Prop} {X : Nat → hG → hE → Prop} {l1 : Nat} (hl1 : hT l1 = some hZ) {l2 : Int32} {g : hG} {e : hE} (H :
    zbr (99 < l2)
    (k 99 g e)
    (hD (g.2.2 1000 2) ∧ 
      hci d 60 [.ref (g.2.2 1000 2), .ref l1, .int l2] g e (fun x4 g2 e3 =>
        zbr (x4 = 0)
        (hwi d zm_X7_bears k X 2 [(0, .ref 1000), (1, .ref l1), (2, .int (l2 + 1))] g2 e3)
        (zbr (l2 = 0)
          (k (-1) g2 e3)
          (k (l2 - 1) g2 e3))) X)) : hwi d zm_X7_bears k X 2 [(0, .ref 1000), (1, .ref l1), (2, .int l2)] g e := by
  refine zq_iload (pc' := 3) rfl rfl rfl rfl ?_
  refine zq_ipush (pc' := 5) rfl rfl rfl ?_
  refine zq_icgt (pc' := 8) rfl rfl rfl rfl (And.intro (fun c => ?_) (fun c => ?_))
  · have H := H.1 c
    refine zq_ipush (pc' := 40) rfl rfl rfl ?_
    exact zq_iret rfl trivial (Exists.intro _ (Exists.intro _ (And.intro rfl H)))
  · have H := H.2 c
    refine zq_aload (pc' := 9) rfl rfl rfl rfl ?_
    obtain ⟨hr1, H⟩ := H
    refine zq_getR (pc' := 12) rfl rfl rfl (hp_gR rfl) ?_
    refine zq_aload (pc' := 13) rfl rfl rfl rfl ?_
    refine zq_iload (pc' := 14) rfl rfl rfl rfl ?_
    refine hq_calli (pc' := 17) rfl rfl rfl rfl rfl rfl h_Xi ?_
    refine hmonoi H ?_
    intro x4 g2 e3 H
    refine zq_ifeq (pc' := 20) rfl rfl rfl rfl (And.intro (fun c => ?_) (fun c => ?_))
    · have H := H.1 c
      refine zq_iinc (pc' := 35) rfl rfl rfl rfl ?_
      refine zq_goto_c (pc' := 2) rfl rfl ?_
      exact H
    · have H := H.2 c
      refine zq_iload (pc' := 21) rfl rfl rfl rfl ?_
      refine zq_ifne (pc' := 24) rfl rfl rfl rfl (And.intro (fun c => ?_) (fun c => ?_))
      · have H := H.1 c
        refine zq_ipushn (pc' := 25) rfl rfl rfl ?_
        refine zq_goto (pc' := 31) rfl rfl rfl ?_
        exact zq_iret rfl trivial (Exists.intro _ (Exists.intro _ (And.intro rfl H)))
      · have H := H.2 c
        refine zq_iload (pc' := 29) rfl rfl rfl rfl ?_
        refine zq_ipush (pc' := 30) rfl rfl rfl ?_
        refine zq_isub (pc' := 31) rfl rfl rfl ?_
        exact zq_iret rfl trivial (Exists.intro _ (Exists.intro _ (And.intro rfl H)))
theorem zh_X7_place {d : Nat} {k : Int32 → hG → hE → Prop} {X : Nat → hG → hE → Prop} {p1 : Int32} {p2 : Int32} {p3 : Int32} {g : hG} {e : hE} (H :
    hcr d 201 [.ref 1000, .int p1] g e (fun a3 g1 e2 =>
      hT a3 = some hZ ∧ hcv d 202 [.ref a3, .int p2] g1 e2 (fun g5 e6 =>
        zbr (p3 = nI 0)
        (hci d 118 [.ref a3, .int 0, .int p2] g5 e6 (fun x9 g7 e8 =>
            k x9 g7 e8) X)
        (zbr (p3 = nI 1)
        (hci d 118 [.ref a3, .int 1, .int p2] g5 e6 (fun x12 g10 e11 =>
            k x12 g10 e11) X)
        (zbr (p3 = nI 2)
        (hci d 120 [.ref a3, .int p2] g5 e6 (fun x15 g13 e14 =>
            k x15 g13 e14) X)
        (zbr (p3 = nI 3)
        (hci d 117 [.ref a3, .int p2] g5 e6 (fun x18 g16 e17 =>
            zbr (x18 = 0)
            (k 0 g16 e17)
            (k 1 g16 e17)) X)
        (zbr (p3 = nI 4)
        (hci d 125 [.ref a3, .int p2] g5 e6 (fun x21 g19 e20 =>
            k x21 g19 e20) X)
        (hrm e6 ∧ X 1 g5 (hth e6))))))) X) X) : hci (d + 1) 152 [.ref 1000, .int p1, .int p2, .int p3] g e k X := by
  refine hent (M := zm_X7_place) (show hT 1000 = some (.inr _) from rfl) rfl rfl rfl rfl rfl ?_
  refine zq_aload (pc' := 1) rfl rfl rfl rfl ?_
  refine zq_iload (pc' := 2) rfl rfl rfl rfl ?_
  refine hq_callr (pc' := 5) rfl rfl rfl rfl rfl rfl h_Xi ?_
  refine hmonor H ?_
  intro a3 g1 e2 H
  obtain ⟨hx4, H⟩ := H
  refine zq_astore (pc' := 7) rfl rfl rfl ?_
  refine zq_aload (pc' := 9) rfl rfl rfl rfl ?_
  refine zq_iload (pc' := 10) rfl rfl rfl rfl ?_
  refine hq_callv (pc' := 13) rfl rfl rfl rfl rfl rfl h_Xi ?_
  refine hmonov H ?_
  intro g5 e6 H
  refine zq_iload (pc' := 14) rfl rfl rfl rfl ?_
  refine zq_switch rfl ?_
  refine And.intro (fun c => ?_) (fun c => ?_)
  · have H := H.1 c
    show zW (zE d) zm_X7_place (hqi k X) (48, [(4, .ref a3), (0, .ref 1000), (1, .int p1), (2, .int p2), (3, .int p3)], [], hp g5 e6)
    refine zq_aload (pc' := 50) rfl rfl rfl rfl ?_
    refine zq_ipush (pc' := 51) rfl rfl rfl ?_
    refine zq_iload (pc' := 52) rfl rfl rfl rfl ?_
    refine hq_calli (pc' := 55) rfl rfl rfl rfl rfl rfl h_Xi ?_
    refine hmonoi H ?_
    intro x9 g7 e8 H
    exact zq_iret rfl trivial (Exists.intro _ (Exists.intro _ (And.intro rfl H)))
  · have H := H.2 c
    refine And.intro (fun c => ?_) (fun c => ?_)
    · have H := H.1 c
      show zW (zE d) zm_X7_place (hqi k X) (56, [(4, .ref a3), (0, .ref 1000), (1, .int p1), (2, .int p2), (3, .int p3)], [], hp g5 e6)
      refine zq_aload (pc' := 58) rfl rfl rfl rfl ?_
      refine zq_ipush (pc' := 59) rfl rfl rfl ?_
      refine zq_iload (pc' := 60) rfl rfl rfl rfl ?_
      refine hq_calli (pc' := 63) rfl rfl rfl rfl rfl rfl h_Xi ?_
      refine hmonoi H ?_
      intro x12 g10 e11 H
      exact zq_iret rfl trivial (Exists.intro _ (Exists.intro _ (And.intro rfl H)))
    · have H := H.2 c
      refine And.intro (fun c => ?_) (fun c => ?_)
      · have H := H.1 c
        show zW (zE d) zm_X7_place (hqi k X) (64, [(4, .ref a3), (0, .ref 1000), (1, .int p1), (2, .int p2), (3, .int p3)], [], hp g5 e6)
        refine zq_aload (pc' := 66) rfl rfl rfl rfl ?_
        refine zq_iload (pc' := 67) rfl rfl rfl rfl ?_
        refine hq_calli (pc' := 70) rfl rfl rfl rfl rfl rfl h_Xi ?_
        refine hmonoi H ?_
        intro x15 g13 e14 H
        exact zq_iret rfl trivial (Exists.intro _ (Exists.intro _ (And.intro rfl H)))
      · have H := H.2 c
        refine And.intro (fun c => ?_) (fun c => ?_)
        · have H := H.1 c
          show zW (zE d) zm_X7_place (hqi k X) (71, [(4, .ref a3), (0, .ref 1000), (1, .int p1), (2, .int p2), (3, .int p3)], [], hp g5 e6)
          refine zq_aload (pc' := 73) rfl rfl rfl rfl ?_
          refine zq_iload (pc' := 74) rfl rfl rfl rfl ?_
          refine hq_calli (pc' := 77) rfl rfl rfl rfl rfl rfl h_Xi ?_
          refine hmonoi H ?_
          intro x18 g16 e17 H
          refine zq_ifeq (pc' := 80) rfl rfl rfl rfl (And.intro (fun c => ?_) (fun c => ?_))
          · have H := H.1 c
            refine zq_ipush (pc' := 85) rfl rfl rfl ?_
            exact zq_iret rfl trivial (Exists.intro _ (Exists.intro _ (And.intro rfl H)))
          · have H := H.2 c
            refine zq_ipush (pc' := 81) rfl rfl rfl ?_
            refine zq_goto (pc' := 85) rfl rfl rfl ?_
            exact zq_iret rfl trivial (Exists.intro _ (Exists.intro _ (And.intro rfl H)))
        · have H := H.2 c
          refine And.intro (fun c => ?_) (fun c => ?_)
          · have H := H.1 c
            show zW (zE d) zm_X7_place (hqi k X) (86, [(4, .ref a3), (0, .ref 1000), (1, .int p1), (2, .int p2), (3, .int p3)], [], hp g5 e6)
            refine zq_aload (pc' := 88) rfl rfl rfl rfl ?_
            refine zq_iload (pc' := 89) rfl rfl rfl rfl ?_
            refine hq_calli (pc' := 92) rfl rfl rfl rfl rfl rfl h_Xi ?_
            refine hmonoi H ?_
            intro x21 g19 e20 H
            exact zq_iret rfl trivial (Exists.intro _ (Exists.intro _ (And.intro rfl H)))
          · have H := H.2 c
            show zW (zE d) zm_X7_place (hqi k X) (93, [(4, .ref a3), (0, .ref 1000), (1, .int p1), (2, .int p2), (3, .int p3)], [], hp g5 e6)
            obtain ⟨e0, H⟩ := H
            exact zq_throw rfl rfl (hp_nx e0) (Exists.intro _ (Exists.intro _ (And.intro rfl H)))
theorem zh_X7_gap {d : Nat} {k : Int32 → hG → hE → Prop} {X : Nat → hG → hE → Prop} {p1 : Int32} {g : hG} {e : hE} (H :
    hcr d 201 [.ref 1000, .int p1] g e (fun a3 g1 e2 =>
      hT a3 = some hZ ∧ hci d 121 [.ref a3] g1 e2 (fun x7 g5 e6 =>
        hci d 0 [.int x7] g5 e6 (fun x10 g8 e9 =>
          hci d 116 [.ref a3] g8 e9 (fun x13 g11 e12 =>
            k (x10 - x13) g11 e12) X) X) X) X) : hci (d + 1) 153 [.ref 1000, .int p1] g e k X := by
  refine hent (M := zm_X7_gap) (show hT 1000 = some (.inr _) from rfl) rfl rfl rfl rfl rfl ?_
  refine zq_aload (pc' := 1) rfl rfl rfl rfl ?_
  refine zq_iload (pc' := 2) rfl rfl rfl rfl ?_
  refine hq_callr (pc' := 5) rfl rfl rfl rfl rfl rfl h_Xi ?_
  refine hmonor H ?_
  intro a3 g1 e2 H
  obtain ⟨hx4, H⟩ := H
  refine zq_astore (pc' := 6) rfl rfl rfl ?_
  refine zq_aload (pc' := 7) rfl rfl rfl rfl ?_
  refine hq_calli (pc' := 10) rfl rfl rfl rfl rfl rfl h_Xi ?_
  refine hmonoi H ?_
  intro x7 g5 e6 H
  refine hq_calli (pc' := 13) rfl rfl rfl rfl rfl rfl h_Xi ?_
  refine hmonoi H ?_
  intro x10 g8 e9 H
  refine zq_aload (pc' := 14) rfl rfl rfl rfl ?_
  refine hq_calli (pc' := 17) rfl rfl rfl rfl rfl rfl h_Xi ?_
  refine hmonoi H ?_
  intro x13 g11 e12 H
  refine zq_isub (pc' := 18) rfl rfl rfl ?_
  exact zq_iret rfl trivial (Exists.intro _ (Exists.intro _ (And.intro rfl H)))
theorem zh_X7_unlike {d : Nat} {k : Int32 → hG → hE → Prop} {X : Nat → hG → hE → Prop} {p1 : Int32} {p2 : Int32} {g : hG} {e : hE} (H :
    hcr d 201 [.ref 1000, .int p1] g e (fun a3 g1 e2 =>
      hT a3 = some hZ ∧ hcr d 201 [.ref 1000, .int p2] g1 e2 (fun a7 g5 e6 =>
        hT a7 = some hZ ∧ hci d 112 [.ref a3] g5 e6 (fun x11 g9 e10 =>
          hci d 112 [.ref a7] g9 e10 (fun x14 g12 e13 =>
            zbr (x11 = x14)
            (hwi d zm_X7_unlike k X 33 [(3, .ref a3), (4, .ref a7), (5, .int 0), (6, .int 0)] g12 e13)
            (k (-1) g12 e13)) X) X) X) X) : hci (d + 1) 154 [.ref 1000, .int p1, .int p2] g e k X := by
  refine hent (M := zm_X7_unlike) (show hT 1000 = some (.inr _) from rfl) rfl rfl rfl rfl rfl ?_
  refine zq_aload (pc' := 1) rfl rfl rfl rfl ?_
  refine zq_iload (pc' := 2) rfl rfl rfl rfl ?_
  refine hq_callr (pc' := 5) rfl rfl rfl rfl rfl rfl h_Xi ?_
  refine hmonor H ?_
  intro a3 g1 e2 H
  obtain ⟨hx4, H⟩ := H
  refine zq_astore (pc' := 6) rfl rfl rfl ?_
  refine zq_aload (pc' := 7) rfl rfl rfl rfl ?_
  refine zq_iload (pc' := 8) rfl rfl rfl rfl ?_
  refine hq_callr (pc' := 11) rfl rfl rfl rfl rfl rfl h_Xi ?_
  refine hmonor H ?_
  intro a7 g5 e6 H
  obtain ⟨hx8, H⟩ := H
  refine zq_astore (pc' := 13) rfl rfl rfl ?_
  refine zq_aload (pc' := 14) rfl rfl rfl rfl ?_
  refine hq_calli (pc' := 17) rfl rfl rfl rfl rfl rfl h_Xi ?_
  refine hmonoi H ?_
  intro x11 g9 e10 H
  refine zq_aload (pc' := 19) rfl rfl rfl rfl ?_
  refine hq_calli (pc' := 22) rfl rfl rfl rfl rfl rfl h_Xi ?_
  refine hmonoi H ?_
  intro x14 g12 e13 H
  refine zq_iceq (pc' := 25) rfl rfl rfl rfl (And.intro (fun c => ?_) (fun c => ?_))
  · have H := H.1 c
    refine zq_ipush (pc' := 28) rfl rfl rfl ?_
    refine zq_istore (pc' := 30) rfl rfl rfl ?_
    refine zq_ipush (pc' := 31) rfl rfl rfl ?_
    refine zq_istore_c (pc' := 33) rfl rfl ?_
    exact H
  · have H := H.2 c
    refine zq_ipushn (pc' := 26) rfl rfl rfl ?_
    exact zq_iret rfl trivial (Exists.intro _ (Exists.intro _ (And.intro rfl H)))
theorem zh_X7_unlike_33 {d : Nat} {k : Int32 → hG → hE → Prop} {X : Nat → hG → hE → Prop} {l3 : Nat} (hl3 : hT l3 = some hZ) {l4 : Nat} (hl4 : hT l4 = some hZ) {l5 : Int32} {l6 : Int32} {g : hG} {e : hE} (H :
    hci d 112 [.ref l3] g e (fun x3 g1 e2 =>
      zbr (x3 ≤ l6)
      (k l5 g1 e2)
      (hci d 118 [.ref l3, .int 0, .int l6] g1 e2 (fun x6 g4 e5 =>
          hci d 118 [.ref l4, .int 0, .int l6] g4 e5 (fun x9 g7 e8 =>
            hci d 1 [.int (x6 - x9)] g7 e8 (fun x12 g10 e11 =>
              hci d 118 [.ref l3, .int 1, .int l6] g10 e11 (fun x15 g13 e14 =>
                hci d 118 [.ref l4, .int 1, .int l6] g13 e14 (fun x18 g16 e17 =>
                  hci d 1 [.int (x15 - x18)] g16 e17 (fun x21 g19 e20 =>
                    hwi d zm_X7_unlike k X 33 [(3, .ref l3), (4, .ref l4), (5, .int ((l5 + x12) + x21)), (6, .int (l6 + 1))] g19 e20) X) X) X) X) X) X)) X) : hwi d zm_X7_unlike k X 33 [(3, .ref l3), (4, .ref l4), (5, .int l5), (6, .int l6)] g e := by
  refine zq_iload (pc' := 35) rfl rfl rfl rfl ?_
  refine zq_aload (pc' := 36) rfl rfl rfl rfl ?_
  refine hq_calli (pc' := 39) rfl rfl rfl rfl rfl rfl h_Xi ?_
  refine hmonoi H ?_
  intro x3 g1 e2 H
  refine zq_icge (pc' := 42) rfl rfl rfl rfl (And.intro (fun c => ?_) (fun c => ?_))
  · have H := H.1 c
    refine zq_iload (pc' := 98) rfl rfl rfl rfl ?_
    exact zq_iret rfl trivial (Exists.intro _ (Exists.intro _ (And.intro rfl H)))
  · have H := H.2 c
    refine zq_iload (pc' := 44) rfl rfl rfl rfl ?_
    refine zq_aload (pc' := 45) rfl rfl rfl rfl ?_
    refine zq_ipush (pc' := 46) rfl rfl rfl ?_
    refine zq_iload (pc' := 48) rfl rfl rfl rfl ?_
    refine hq_calli (pc' := 51) rfl rfl rfl rfl rfl rfl h_Xi ?_
    refine hmonoi H ?_
    intro x6 g4 e5 H
    refine zq_aload (pc' := 53) rfl rfl rfl rfl ?_
    refine zq_ipush (pc' := 54) rfl rfl rfl ?_
    refine zq_iload (pc' := 56) rfl rfl rfl rfl ?_
    refine hq_calli (pc' := 59) rfl rfl rfl rfl rfl rfl h_Xi ?_
    refine hmonoi H ?_
    intro x9 g7 e8 H
    refine zq_isub (pc' := 60) rfl rfl rfl ?_
    refine hq_calli (pc' := 63) rfl rfl rfl rfl rfl rfl h_Xi ?_
    refine hmonoi H ?_
    intro x12 g10 e11 H
    refine zq_iadd (pc' := 64) rfl rfl rfl ?_
    refine zq_istore (pc' := 66) rfl rfl rfl ?_
    refine zq_iload (pc' := 68) rfl rfl rfl rfl ?_
    refine zq_aload (pc' := 69) rfl rfl rfl rfl ?_
    refine zq_ipush (pc' := 70) rfl rfl rfl ?_
    refine zq_iload (pc' := 72) rfl rfl rfl rfl ?_
    refine hq_calli (pc' := 75) rfl rfl rfl rfl rfl rfl h_Xi ?_
    refine hmonoi H ?_
    intro x15 g13 e14 H
    refine zq_aload (pc' := 77) rfl rfl rfl rfl ?_
    refine zq_ipush (pc' := 78) rfl rfl rfl ?_
    refine zq_iload (pc' := 80) rfl rfl rfl rfl ?_
    refine hq_calli (pc' := 83) rfl rfl rfl rfl rfl rfl h_Xi ?_
    refine hmonoi H ?_
    intro x18 g16 e17 H
    refine zq_isub (pc' := 84) rfl rfl rfl ?_
    refine hq_calli (pc' := 87) rfl rfl rfl rfl rfl rfl h_Xi ?_
    refine hmonoi H ?_
    intro x21 g19 e20 H
    refine zq_iadd (pc' := 88) rfl rfl rfl ?_
    refine zq_istore (pc' := 90) rfl rfl rfl ?_
    refine zq_iinc (pc' := 93) rfl rfl rfl rfl ?_
    refine zq_goto_c (pc' := 33) rfl rfl ?_
    exact H
theorem zh_X7_days {d : Nat} {k : Int32 → hG → hE → Prop} {X : Nat → hG → hE → Prop} {p1 : Int32} {g : hG} {e : hE} (H :
    zbr (p1 < 1)
    (hcv d 20 [.ref 1027, .int 1] g e (fun g1 e2 =>
        k (-1) g1 e2) X)
    (zbr (20 < p1)
      (hcv d 20 [.ref 1027, .int 1] g e (fun g3 e4 =>
          k (-1) g3 e4) X)
      (hD (g.2.2 1000 2) ∧ 
        hci d 49 [.ref (g.2.2 1000 2)] g e (fun x8 g6 e7 =>
          zbr ((x8 + p1) ≤ 999)
          (hD (g6.2.2 1000 2) ∧ 
            hcv d 23 [.ref 1027, .ref (g6.2.2 1000 2)] g6 e7 (fun g10 e11 =>
              hwi d zm_X7_days k X 49 [(0, .ref 1000), (1, .int p1), (2, .int 0)] g10 e11) X)
          (hcv d 20 [.ref 1027, .int 1] g6 e7 (fun g12 e13 =>
              k (-1) g12 e13) X)) X))) : hci (d + 1) 155 [.ref 1000, .int p1] g e k X := by
  refine hent (M := zm_X7_days) (show hT 1000 = some (.inr _) from rfl) rfl rfl rfl rfl rfl ?_
  refine zq_iload (pc' := 1) rfl rfl rfl rfl ?_
  refine zq_ipush (pc' := 2) rfl rfl rfl ?_
  refine zq_iclt (pc' := 5) rfl rfl rfl rfl (And.intro (fun c => ?_) (fun c => ?_))
  · have H := H.1 c
    refine zq_aload (pc' := 27) rfl rfl rfl rfl ?_
    refine zq_getR (pc' := 30) rfl rfl rfl (hp_gC rfl) ?_
    refine zq_ipush (pc' := 31) rfl rfl rfl ?_
    refine hq_callv (pc' := 34) rfl rfl rfl rfl rfl rfl h_Xi ?_
    refine hmonov H ?_
    intro g1 e2 H
    refine zq_ipushn (pc' := 35) rfl rfl rfl ?_
    exact zq_iret rfl trivial (Exists.intro _ (Exists.intro _ (And.intro rfl H)))
  · have H := H.2 c
    refine zq_iload (pc' := 6) rfl rfl rfl rfl ?_
    refine zq_ipush (pc' := 8) rfl rfl rfl ?_
    refine zq_icgt (pc' := 11) rfl rfl rfl rfl (And.intro (fun c => ?_) (fun c => ?_))
    · have H := H.1 c
      refine zq_aload (pc' := 27) rfl rfl rfl rfl ?_
      refine zq_getR (pc' := 30) rfl rfl rfl (hp_gC rfl) ?_
      refine zq_ipush (pc' := 31) rfl rfl rfl ?_
      refine hq_callv (pc' := 34) rfl rfl rfl rfl rfl rfl h_Xi ?_
      refine hmonov H ?_
      intro g3 e4 H
      refine zq_ipushn (pc' := 35) rfl rfl rfl ?_
      exact zq_iret rfl trivial (Exists.intro _ (Exists.intro _ (And.intro rfl H)))
    · have H := H.2 c
      refine zq_aload (pc' := 12) rfl rfl rfl rfl ?_
      obtain ⟨hr5, H⟩ := H
      refine zq_getR (pc' := 15) rfl rfl rfl (hp_gR rfl) ?_
      refine hq_calli (pc' := 18) rfl rfl rfl rfl rfl rfl h_Xi ?_
      refine hmonoi H ?_
      intro x8 g6 e7 H
      refine zq_iload (pc' := 19) rfl rfl rfl rfl ?_
      refine zq_iadd (pc' := 20) rfl rfl rfl ?_
      refine zq_ipush (pc' := 23) rfl rfl rfl ?_
      refine zq_icle (pc' := 26) rfl rfl rfl rfl (And.intro (fun c => ?_) (fun c => ?_))
      · have H := H.1 c
        refine zq_aload (pc' := 37) rfl rfl rfl rfl ?_
        refine zq_getR (pc' := 40) rfl rfl rfl (hp_gC rfl) ?_
        refine zq_aload (pc' := 41) rfl rfl rfl rfl ?_
        obtain ⟨hr9, H⟩ := H
        refine zq_getR (pc' := 44) rfl rfl rfl (hp_gR rfl) ?_
        refine hq_callv (pc' := 47) rfl rfl rfl rfl rfl rfl h_Xi ?_
        refine hmonov H ?_
        intro g10 e11 H
        refine zq_ipush (pc' := 48) rfl rfl rfl ?_
        refine zq_istore_c (pc' := 49) rfl rfl ?_
        exact H
      · have H := H.2 c
        refine zq_aload (pc' := 27) rfl rfl rfl rfl ?_
        refine zq_getR (pc' := 30) rfl rfl rfl (hp_gC rfl) ?_
        refine zq_ipush (pc' := 31) rfl rfl rfl ?_
        refine hq_callv (pc' := 34) rfl rfl rfl rfl rfl rfl h_Xi ?_
        refine hmonov H ?_
        intro g12 e13 H
        refine zq_ipushn (pc' := 35) rfl rfl rfl ?_
        exact zq_iret rfl trivial (Exists.intro _ (Exists.intro _ (And.intro rfl H)))
theorem zh_X7_days_49 {d : Nat} {k : Int32 → hG → hE → Prop} {X : Nat → hG → hE → Prop} {l1 : Int32} {l2 : Int32} {g : hG} {e : hE} (H :
    zbr (l1 ≤ l2)
    (hD (g.2.2 1000 2) ∧ 
      hci d 49 [.ref (g.2.2 1000 2)] g e (fun x4 g2 e3 =>
        k x4 g2 e3) X)
    (hD (g.2.2 1000 2) ∧ 
      hcv d 57 [.ref (g.2.2 1000 2)] g e (fun g6 e7 =>
        hwi d zm_X7_days k X 49 [(0, .ref 1000), (1, .int l1), (2, .int (l2 + 1))] g6 e7) X)) : hwi d zm_X7_days k X 49 [(0, .ref 1000), (1, .int l1), (2, .int l2)] g e := by
  refine zq_iload (pc' := 50) rfl rfl rfl rfl ?_
  refine zq_iload (pc' := 51) rfl rfl rfl rfl ?_
  refine zq_icge (pc' := 54) rfl rfl rfl rfl (And.intro (fun c => ?_) (fun c => ?_))
  · have H := H.1 c
    refine zq_aload (pc' := 68) rfl rfl rfl rfl ?_
    obtain ⟨hr1, H⟩ := H
    refine zq_getR (pc' := 71) rfl rfl rfl (hp_gR rfl) ?_
    refine hq_calli (pc' := 74) rfl rfl rfl rfl rfl rfl h_Xi ?_
    refine hmonoi H ?_
    intro x4 g2 e3 H
    exact zq_iret rfl trivial (Exists.intro _ (Exists.intro _ (And.intro rfl H)))
  · have H := H.2 c
    refine zq_aload (pc' := 55) rfl rfl rfl rfl ?_
    obtain ⟨hr5, H⟩ := H
    refine zq_getR (pc' := 58) rfl rfl rfl (hp_gR rfl) ?_
    refine hq_callv (pc' := 61) rfl rfl rfl rfl rfl rfl h_Xi ?_
    refine hmonov H ?_
    intro g6 e7 H
    refine zq_iinc (pc' := 64) rfl rfl rfl rfl ?_
    refine zq_goto_c (pc' := 49) rfl rfl ?_
    exact H
theorem zh_X7_slide {d : Nat} {k : Int32 → hG → hE → Prop} {X : Nat → hG → hE → Prop} {p1 : Int32} {p2 : Int32} {g : hG} {e : hE} (H :
    hcr d 201 [.ref 1000, .int p1] g e (fun a3 g1 e2 =>
      hT a3 = some hZ ∧ zbr (p2 < 0)
      (hcv d 20 [.ref 1027, .int 1] g1 e2 (fun g5 e6 =>
          k (-1) g5 e6) X)
      (hci d 112 [.ref a3] g1 e2 (fun x9 g7 e8 =>
          zbr (p2 ≤ x9)
          (hD (g7.2.2 1000 2) ∧ 
            hcv d 23 [.ref 1027, .ref (g7.2.2 1000 2)] g7 e8 (fun g11 e12 =>
              hcv d 126 [.ref a3, .int p2] g11 e12 (fun g13 e14 =>
                hci d 116 [.ref a3] g13 e14 (fun x17 g15 e16 =>
                  k x17 g15 e16) X) X) X)
          (hcv d 20 [.ref 1027, .int 1] g7 e8 (fun g18 e19 =>
              k (-1) g18 e19) X)) X)) X) : hci (d + 1) 156 [.ref 1000, .int p1, .int p2] g e k X := by
  refine hent (M := zm_X7_slide) (show hT 1000 = some (.inr _) from rfl) rfl rfl rfl rfl rfl ?_
  refine zq_aload (pc' := 1) rfl rfl rfl rfl ?_
  refine zq_iload (pc' := 2) rfl rfl rfl rfl ?_
  refine hq_callr (pc' := 5) rfl rfl rfl rfl rfl rfl h_Xi ?_
  refine hmonor H ?_
  intro a3 g1 e2 H
  obtain ⟨hx4, H⟩ := H
  refine zq_astore (pc' := 6) rfl rfl rfl ?_
  refine zq_iload (pc' := 7) rfl rfl rfl rfl ?_
  refine zq_iflt (pc' := 10) rfl rfl rfl rfl (And.intro (fun c => ?_) (fun c => ?_))
  · have H := H.1 c
    refine zq_aload (pc' := 19) rfl rfl rfl rfl ?_
    refine zq_getR (pc' := 22) rfl rfl rfl (hp_gC rfl) ?_
    refine zq_ipush (pc' := 23) rfl rfl rfl ?_
    refine hq_callv (pc' := 26) rfl rfl rfl rfl rfl rfl h_Xi ?_
    refine hmonov H ?_
    intro g5 e6 H
    refine zq_ipushn (pc' := 27) rfl rfl rfl ?_
    exact zq_iret rfl trivial (Exists.intro _ (Exists.intro _ (And.intro rfl H)))
  · have H := H.2 c
    refine zq_iload (pc' := 11) rfl rfl rfl rfl ?_
    refine zq_aload (pc' := 12) rfl rfl rfl rfl ?_
    refine hq_calli (pc' := 15) rfl rfl rfl rfl rfl rfl h_Xi ?_
    refine hmonoi H ?_
    intro x9 g7 e8 H
    refine zq_icle (pc' := 18) rfl rfl rfl rfl (And.intro (fun c => ?_) (fun c => ?_))
    · have H := H.1 c
      refine zq_aload (pc' := 29) rfl rfl rfl rfl ?_
      refine zq_getR (pc' := 32) rfl rfl rfl (hp_gC rfl) ?_
      refine zq_aload (pc' := 33) rfl rfl rfl rfl ?_
      obtain ⟨hr10, H⟩ := H
      refine zq_getR (pc' := 36) rfl rfl rfl (hp_gR rfl) ?_
      refine hq_callv (pc' := 39) rfl rfl rfl rfl rfl rfl h_Xi ?_
      refine hmonov H ?_
      intro g11 e12 H
      refine zq_aload (pc' := 40) rfl rfl rfl rfl ?_
      refine zq_iload (pc' := 41) rfl rfl rfl rfl ?_
      refine hq_callv (pc' := 44) rfl rfl rfl rfl rfl rfl h_Xi ?_
      refine hmonov H ?_
      intro g13 e14 H
      refine zq_aload (pc' := 45) rfl rfl rfl rfl ?_
      refine hq_calli (pc' := 48) rfl rfl rfl rfl rfl rfl h_Xi ?_
      refine hmonoi H ?_
      intro x17 g15 e16 H
      exact zq_iret rfl trivial (Exists.intro _ (Exists.intro _ (And.intro rfl H)))
    · have H := H.2 c
      refine zq_aload (pc' := 19) rfl rfl rfl rfl ?_
      refine zq_getR (pc' := 22) rfl rfl rfl (hp_gC rfl) ?_
      refine zq_ipush (pc' := 23) rfl rfl rfl ?_
      refine hq_callv (pc' := 26) rfl rfl rfl rfl rfl rfl h_Xi ?_
      refine hmonov H ?_
      intro g18 e19 H
      refine zq_ipushn (pc' := 27) rfl rfl rfl ?_
      exact zq_iret rfl trivial (Exists.intro _ (Exists.intro _ (And.intro rfl H)))
theorem zh_X7_pinch {d : Nat} {k : Int32 → hG → hE → Prop} {X : Nat → hG → hE → Prop} {p1 : Int32} {p2 : Int32} {p3 : Int32} {g : hG} {e : hE} (H :
    hcr d 201 [.ref 1000, .int p1] g e (fun a3 g1 e2 =>
      hT a3 = some hZ ∧ hcv d 202 [.ref a3, .int p3] g1 e2 (fun g5 e6 =>
        hcv d 203 [.int p2] g5 e6 (fun g7 e8 =>
          hci d 129 [.ref a3, .int p2, .int p3] g7 e8 (fun x11 g9 e10 =>
            zbr (x11 = 0)
            (hcv d 20 [.ref 1027, .int 1] g9 e10 (fun g12 e13 =>
                k (-1) g12 e13) X)
            (hD (g9.2.2 1000 2) ∧ 
              hcv d 23 [.ref 1027, .ref (g9.2.2 1000 2)] g9 e10 (fun g15 e16 =>
                hcv d 130 [.ref a3, .int p2, .int p3] g15 e16 (fun g17 e18 =>
                  hci d 118 [.ref a3, .int p2, .int p3] g17 e18 (fun x21 g19 e20 =>
                    k x21 g19 e20) X) X) X)) X) X) X) X) : hci (d + 1) 157 [.ref 1000, .int p1, .int p2, .int p3] g e k X := by
  refine hent (M := zm_X7_pinch) (show hT 1000 = some (.inr _) from rfl) rfl rfl rfl rfl rfl ?_
  refine zq_aload (pc' := 1) rfl rfl rfl rfl ?_
  refine zq_iload (pc' := 2) rfl rfl rfl rfl ?_
  refine hq_callr (pc' := 5) rfl rfl rfl rfl rfl rfl h_Xi ?_
  refine hmonor H ?_
  intro a3 g1 e2 H
  obtain ⟨hx4, H⟩ := H
  refine zq_astore (pc' := 7) rfl rfl rfl ?_
  refine zq_aload (pc' := 9) rfl rfl rfl rfl ?_
  refine zq_iload (pc' := 10) rfl rfl rfl rfl ?_
  refine hq_callv (pc' := 13) rfl rfl rfl rfl rfl rfl h_Xi ?_
  refine hmonov H ?_
  intro g5 e6 H
  refine zq_iload (pc' := 14) rfl rfl rfl rfl ?_
  refine hq_callv (pc' := 17) rfl rfl rfl rfl rfl rfl h_Xi ?_
  refine hmonov H ?_
  intro g7 e8 H
  refine zq_aload (pc' := 19) rfl rfl rfl rfl ?_
  refine zq_iload (pc' := 20) rfl rfl rfl rfl ?_
  refine zq_iload (pc' := 21) rfl rfl rfl rfl ?_
  refine hq_calli (pc' := 24) rfl rfl rfl rfl rfl rfl h_Xi ?_
  refine hmonoi H ?_
  intro x11 g9 e10 H
  refine zq_ifne (pc' := 27) rfl rfl rfl rfl (And.intro (fun c => ?_) (fun c => ?_))
  · have H := H.1 c
    refine zq_aload (pc' := 28) rfl rfl rfl rfl ?_
    refine zq_getR (pc' := 31) rfl rfl rfl (hp_gC rfl) ?_
    refine zq_ipush (pc' := 32) rfl rfl rfl ?_
    refine hq_callv (pc' := 35) rfl rfl rfl rfl rfl rfl h_Xi ?_
    refine hmonov H ?_
    intro g12 e13 H
    refine zq_ipushn (pc' := 36) rfl rfl rfl ?_
    exact zq_iret rfl trivial (Exists.intro _ (Exists.intro _ (And.intro rfl H)))
  · have H := H.2 c
    refine zq_aload (pc' := 38) rfl rfl rfl rfl ?_
    refine zq_getR (pc' := 41) rfl rfl rfl (hp_gC rfl) ?_
    refine zq_aload (pc' := 42) rfl rfl rfl rfl ?_
    obtain ⟨hr14, H⟩ := H
    refine zq_getR (pc' := 45) rfl rfl rfl (hp_gR rfl) ?_
    refine hq_callv (pc' := 48) rfl rfl rfl rfl rfl rfl h_Xi ?_
    refine hmonov H ?_
    intro g15 e16 H
    refine zq_aload (pc' := 50) rfl rfl rfl rfl ?_
    refine zq_iload (pc' := 51) rfl rfl rfl rfl ?_
    refine zq_iload (pc' := 52) rfl rfl rfl rfl ?_
    refine hq_callv (pc' := 55) rfl rfl rfl rfl rfl rfl h_Xi ?_
    refine hmonov H ?_
    intro g17 e18 H
    refine zq_aload (pc' := 57) rfl rfl rfl rfl ?_
    refine zq_iload (pc' := 58) rfl rfl rfl rfl ?_
    refine zq_iload (pc' := 59) rfl rfl rfl rfl ?_
    refine hq_calli (pc' := 62) rfl rfl rfl rfl rfl rfl h_Xi ?_
    refine hmonoi H ?_
    intro x21 g19 e20 H
    exact zq_iret rfl trivial (Exists.intro _ (Exists.intro _ (And.intro rfl H)))
theorem zh_X7_set {d : Nat} {k : Int32 → hG → hE → Prop} {X : Nat → hG → hE → Prop} {p1 : Int32} {p2 : Int32} {p3 : Int32} {p4 : Int32} {g : hG} {e : hE} (H :
    hcr d 201 [.ref 1000, .int p1] g e (fun a3 g1 e2 =>
      hT a3 = some hZ ∧ hcv d 202 [.ref a3, .int p3] g1 e2 (fun g5 e6 =>
        hcv d 203 [.int p2] g5 e6 (fun g7 e8 =>
          hci d 118 [.ref a3, .int p2, .int p3] g7 e8 (fun x11 g9 e10 =>
            zbr (x11 = 0)
            (zbr (p4 < 1)
              (hcv d 20 [.ref 1027, .int 1] g9 e10 (fun g12 e13 =>
                  k 0 g12 e13) X)
              (zbr (p4 ≤ 9)
                (hD (g9.2.2 1000 2) ∧ 
                  hcv d 23 [.ref 1027, .ref (g9.2.2 1000 2)] g9 e10 (fun g15 e16 =>
                    hcv d 119 [.ref a3, .int p2, .int p3, .int p4] g15 e16 (fun g17 e18 =>
                      k 1 g17 e18) X) X)
                (hcv d 20 [.ref 1027, .int 1] g9 e10 (fun g19 e20 =>
                    k 0 g19 e20) X)))
            (hcv d 20 [.ref 1027, .int 1] g9 e10 (fun g21 e22 =>
                k 0 g21 e22) X)) X) X) X) X) : hci (d + 1) 158 [.ref 1000, .int p1, .int p2, .int p3, .int p4] g e k X := by
  refine hent (M := zm_X7_set) (show hT 1000 = some (.inr _) from rfl) rfl rfl rfl rfl rfl ?_
  refine zq_aload (pc' := 1) rfl rfl rfl rfl ?_
  refine zq_iload (pc' := 2) rfl rfl rfl rfl ?_
  refine hq_callr (pc' := 5) rfl rfl rfl rfl rfl rfl h_Xi ?_
  refine hmonor H ?_
  intro a3 g1 e2 H
  obtain ⟨hx4, H⟩ := H
  refine zq_astore (pc' := 7) rfl rfl rfl ?_
  refine zq_aload (pc' := 9) rfl rfl rfl rfl ?_
  refine zq_iload (pc' := 10) rfl rfl rfl rfl ?_
  refine hq_callv (pc' := 13) rfl rfl rfl rfl rfl rfl h_Xi ?_
  refine hmonov H ?_
  intro g5 e6 H
  refine zq_iload (pc' := 14) rfl rfl rfl rfl ?_
  refine hq_callv (pc' := 17) rfl rfl rfl rfl rfl rfl h_Xi ?_
  refine hmonov H ?_
  intro g7 e8 H
  refine zq_aload (pc' := 19) rfl rfl rfl rfl ?_
  refine zq_iload (pc' := 20) rfl rfl rfl rfl ?_
  refine zq_iload (pc' := 21) rfl rfl rfl rfl ?_
  refine hq_calli (pc' := 24) rfl rfl rfl rfl rfl rfl h_Xi ?_
  refine hmonoi H ?_
  intro x11 g9 e10 H
  refine zq_ifne (pc' := 27) rfl rfl rfl rfl (And.intro (fun c => ?_) (fun c => ?_))
  · have H := H.1 c
    refine zq_iload (pc' := 29) rfl rfl rfl rfl ?_
    refine zq_ipush (pc' := 30) rfl rfl rfl ?_
    refine zq_iclt (pc' := 33) rfl rfl rfl rfl (And.intro (fun c => ?_) (fun c => ?_))
    · have H := H.1 c
      refine zq_aload (pc' := 41) rfl rfl rfl rfl ?_
      refine zq_getR (pc' := 44) rfl rfl rfl (hp_gC rfl) ?_
      refine zq_ipush (pc' := 45) rfl rfl rfl ?_
      refine hq_callv (pc' := 48) rfl rfl rfl rfl rfl rfl h_Xi ?_
      refine hmonov H ?_
      intro g12 e13 H
      refine zq_ipush (pc' := 49) rfl rfl rfl ?_
      exact zq_iret rfl (Or.inl rfl) (Exists.intro _ (Exists.intro _ (And.intro rfl H)))
    · have H := H.2 c
      refine zq_iload (pc' := 35) rfl rfl rfl rfl ?_
      refine zq_ipush (pc' := 37) rfl rfl rfl ?_
      refine zq_icle (pc' := 40) rfl rfl rfl rfl (And.intro (fun c => ?_) (fun c => ?_))
      · have H := H.1 c
        refine zq_aload (pc' := 51) rfl rfl rfl rfl ?_
        refine zq_getR (pc' := 54) rfl rfl rfl (hp_gC rfl) ?_
        refine zq_aload (pc' := 55) rfl rfl rfl rfl ?_
        obtain ⟨hr14, H⟩ := H
        refine zq_getR (pc' := 58) rfl rfl rfl (hp_gR rfl) ?_
        refine hq_callv (pc' := 61) rfl rfl rfl rfl rfl rfl h_Xi ?_
        refine hmonov H ?_
        intro g15 e16 H
        refine zq_aload (pc' := 63) rfl rfl rfl rfl ?_
        refine zq_iload (pc' := 64) rfl rfl rfl rfl ?_
        refine zq_iload (pc' := 65) rfl rfl rfl rfl ?_
        refine zq_iload (pc' := 67) rfl rfl rfl rfl ?_
        refine hq_callv (pc' := 70) rfl rfl rfl rfl rfl rfl h_Xi ?_
        refine hmonov H ?_
        intro g17 e18 H
        refine zq_ipush (pc' := 71) rfl rfl rfl ?_
        exact zq_iret rfl (Or.inr rfl) (Exists.intro _ (Exists.intro _ (And.intro rfl H)))
      · have H := H.2 c
        refine zq_aload (pc' := 41) rfl rfl rfl rfl ?_
        refine zq_getR (pc' := 44) rfl rfl rfl (hp_gC rfl) ?_
        refine zq_ipush (pc' := 45) rfl rfl rfl ?_
        refine hq_callv (pc' := 48) rfl rfl rfl rfl rfl rfl h_Xi ?_
        refine hmonov H ?_
        intro g19 e20 H
        refine zq_ipush (pc' := 49) rfl rfl rfl ?_
        exact zq_iret rfl (Or.inl rfl) (Exists.intro _ (Exists.intro _ (And.intro rfl H)))
  · have H := H.2 c
    refine zq_aload (pc' := 41) rfl rfl rfl rfl ?_
    refine zq_getR (pc' := 44) rfl rfl rfl (hp_gC rfl) ?_
    refine zq_ipush (pc' := 45) rfl rfl rfl ?_
    refine hq_callv (pc' := 48) rfl rfl rfl rfl rfl rfl h_Xi ?_
    refine hmonov H ?_
    intro g21 e22 H
    refine zq_ipush (pc' := 49) rfl rfl rfl ?_
    exact zq_iret rfl (Or.inl rfl) (Exists.intro _ (Exists.intro _ (And.intro rfl H)))
theorem zh_X7_swap {d : Nat} {k : Int32 → hG → hE → Prop} {X : Nat → hG → hE → Prop} {p1 : Int32} {p2 : Int32} {g : hG} {e : hE} (H :
    hcr d 201 [.ref 1000, .int p1] g e (fun a3 g1 e2 =>
      hT a3 = some hZ ∧ hcr d 201 [.ref 1000, .int p2] g1 e2 (fun a7 g5 e6 =>
        hT a7 = some hZ ∧ zbr (p1 = p2)
        (hcv d 20 [.ref 1027, .int 1] g5 e6 (fun g9 e10 =>
            k 0 g9 e10) X)
        (hci d 112 [.ref a3] g5 e6 (fun x13 g11 e12 =>
            hci d 112 [.ref a7] g11 e12 (fun x16 g14 e15 =>
              zbr (x13 = x16)
              (hD (g14.2.2 1000 2) ∧ 
                hcv d 23 [.ref 1027, .ref (g14.2.2 1000 2)] g14 e15 (fun g18 e19 =>
                  hcv d 134 [.ref a3, .ref a7] g18 e19 (fun g20 e21 =>
                    k 1 g20 e21) X) X)
              (hcv d 20 [.ref 1027, .int 1] g14 e15 (fun g22 e23 =>
                  k 0 g22 e23) X)) X) X)) X) X) : hci (d + 1) 159 [.ref 1000, .int p1, .int p2] g e k X := by
  refine hent (M := zm_X7_swap) (show hT 1000 = some (.inr _) from rfl) rfl rfl rfl rfl rfl ?_
  refine zq_aload (pc' := 1) rfl rfl rfl rfl ?_
  refine zq_iload (pc' := 2) rfl rfl rfl rfl ?_
  refine hq_callr (pc' := 5) rfl rfl rfl rfl rfl rfl h_Xi ?_
  refine hmonor H ?_
  intro a3 g1 e2 H
  obtain ⟨hx4, H⟩ := H
  refine zq_astore (pc' := 6) rfl rfl rfl ?_
  refine zq_aload (pc' := 7) rfl rfl rfl rfl ?_
  refine zq_iload (pc' := 8) rfl rfl rfl rfl ?_
  refine hq_callr (pc' := 11) rfl rfl rfl rfl rfl rfl h_Xi ?_
  refine hmonor H ?_
  intro a7 g5 e6 H
  obtain ⟨hx8, H⟩ := H
  refine zq_astore (pc' := 13) rfl rfl rfl ?_
  refine zq_iload (pc' := 14) rfl rfl rfl rfl ?_
  refine zq_iload (pc' := 15) rfl rfl rfl rfl ?_
  refine zq_iceq (pc' := 18) rfl rfl rfl rfl (And.intro (fun c => ?_) (fun c => ?_))
  · have H := H.1 c
    refine zq_aload (pc' := 31) rfl rfl rfl rfl ?_
    refine zq_getR (pc' := 34) rfl rfl rfl (hp_gC rfl) ?_
    refine zq_ipush (pc' := 35) rfl rfl rfl ?_
    refine hq_callv (pc' := 38) rfl rfl rfl rfl rfl rfl h_Xi ?_
    refine hmonov H ?_
    intro g9 e10 H
    refine zq_ipush (pc' := 39) rfl rfl rfl ?_
    exact zq_iret rfl (Or.inl rfl) (Exists.intro _ (Exists.intro _ (And.intro rfl H)))
  · have H := H.2 c
    refine zq_aload (pc' := 19) rfl rfl rfl rfl ?_
    refine hq_calli (pc' := 22) rfl rfl rfl rfl rfl rfl h_Xi ?_
    refine hmonoi H ?_
    intro x13 g11 e12 H
    refine zq_aload (pc' := 24) rfl rfl rfl rfl ?_
    refine hq_calli (pc' := 27) rfl rfl rfl rfl rfl rfl h_Xi ?_
    refine hmonoi H ?_
    intro x16 g14 e15 H
    refine zq_iceq (pc' := 30) rfl rfl rfl rfl (And.intro (fun c => ?_) (fun c => ?_))
    · have H := H.1 c
      refine zq_aload (pc' := 41) rfl rfl rfl rfl ?_
      refine zq_getR (pc' := 44) rfl rfl rfl (hp_gC rfl) ?_
      refine zq_aload (pc' := 45) rfl rfl rfl rfl ?_
      obtain ⟨hr17, H⟩ := H
      refine zq_getR (pc' := 48) rfl rfl rfl (hp_gR rfl) ?_
      refine hq_callv (pc' := 51) rfl rfl rfl rfl rfl rfl h_Xi ?_
      refine hmonov H ?_
      intro g18 e19 H
      refine zq_aload (pc' := 52) rfl rfl rfl rfl ?_
      refine zq_aload (pc' := 54) rfl rfl rfl rfl ?_
      refine hq_callv (pc' := 57) rfl rfl rfl rfl rfl rfl h_Xi ?_
      refine hmonov H ?_
      intro g20 e21 H
      refine zq_ipush (pc' := 58) rfl rfl rfl ?_
      exact zq_iret rfl (Or.inr rfl) (Exists.intro _ (Exists.intro _ (And.intro rfl H)))
    · have H := H.2 c
      refine zq_aload (pc' := 31) rfl rfl rfl rfl ?_
      refine zq_getR (pc' := 34) rfl rfl rfl (hp_gC rfl) ?_
      refine zq_ipush (pc' := 35) rfl rfl rfl ?_
      refine hq_callv (pc' := 38) rfl rfl rfl rfl rfl rfl h_Xi ?_
      refine hmonov H ?_
      intro g22 e23 H
      refine zq_ipush (pc' := 39) rfl rfl rfl ?_
      exact zq_iret rfl (Or.inl rfl) (Exists.intro _ (Exists.intro _ (And.intro rfl H)))
theorem zh_X7_undo {d : Nat} {k : Int32 → hG → hE → Prop} {X : Nat → hG → hE → Prop}  {g : hG} {e : hE} (H :
    hD (g.2.2 1000 2) ∧ 
    hci d 24 [.ref 1027, .ref (g.2.2 1000 2)] g e (fun x4 g2 e3 =>
      zbr (x4 = 0)
      (k (-1) g2 e3)
      (hci d 17 [.ref 1027] g2 e3 (fun x7 g5 e6 =>
          k x7 g5 e6) X)) X) : hci (d + 1) 160 [.ref 1000] g e k X := by
  refine hent (M := zm_X7_undo) (show hT 1000 = some (.inr _) from rfl) rfl rfl rfl rfl rfl ?_
  refine zq_aload (pc' := 1) rfl rfl rfl rfl ?_
  refine zq_getR (pc' := 4) rfl rfl rfl (hp_gC rfl) ?_
  refine zq_aload (pc' := 5) rfl rfl rfl rfl ?_
  obtain ⟨hr1, H⟩ := H
  refine zq_getR (pc' := 8) rfl rfl rfl (hp_gR rfl) ?_
  refine hq_calli (pc' := 11) rfl rfl rfl rfl rfl rfl h_Xi ?_
  refine hmonoi H ?_
  intro x4 g2 e3 H
  refine zq_ifeq (pc' := 14) rfl rfl rfl rfl (And.intro (fun c => ?_) (fun c => ?_))
  · have H := H.1 c
    refine zq_ipushn (pc' := 25) rfl rfl rfl ?_
    exact zq_iret rfl trivial (Exists.intro _ (Exists.intro _ (And.intro rfl H)))
  · have H := H.2 c
    refine zq_aload (pc' := 15) rfl rfl rfl rfl ?_
    refine zq_getR (pc' := 18) rfl rfl rfl (hp_gC rfl) ?_
    refine hq_calli (pc' := 21) rfl rfl rfl rfl rfl rfl h_Xi ?_
    refine hmonoi H ?_
    intro x7 g5 e6 H
    refine zq_goto (pc' := 25) rfl rfl rfl ?_
    exact zq_iret rfl trivial (Exists.intro _ (Exists.intro _ (And.intro rfl H)))
theorem zh_X7_then {d : Nat} {k : Int32 → hG → hE → Prop} {X : Nat → hG → hE → Prop} {p1 : Int32} {p2 : Int32} {p3 : Int32} {g : hG} {e : hE} (H :
    hcr d 207 [.ref 1000, .int p1] g e (fun a3 g1 e2 =>
      hT a3 = some hZ ∧ hcv d 204 [.int p3, .int 5] g1 e2 (fun g5 e6 =>
        hcv d 205 [.int p2, .int 0, .int 60] g5 e6 (fun g7 e8 =>
          hci d 211 [.ref 1000, .ref a3, .int p2] g7 e8 (fun x11 g9 e10 =>
            zbr (p3 = nI 0)
            (hci d 115 [.ref a3] g9 e10 (fun x14 g12 e13 =>
                k x14 g12 e13) X)
            (zbr (p3 = nI 1)
            (hci d 116 [.ref a3] g9 e10 (fun x17 g15 e16 =>
                k x17 g15 e16) X)
            (zbr (p3 = nI 2)
            (hci d 123 [.ref a3] g9 e10 (fun x20 g18 e19 =>
                k x20 g18 e19) X)
            (zbr (p3 = nI 3)
            (hci d 136 [.ref a3] g9 e10 (fun x23 g21 e22 =>
                k x23 g21 e22) X)
            (k x11 g9 e10))))) X) X) X) X) : hci (d + 1) 161 [.ref 1000, .int p1, .int p2, .int p3] g e k X := by
  refine hent (M := zm_X7_then) (show hT 1000 = some (.inr _) from rfl) rfl rfl rfl rfl rfl ?_
  refine zq_aload (pc' := 1) rfl rfl rfl rfl ?_
  refine zq_iload (pc' := 2) rfl rfl rfl rfl ?_
  refine hq_callr (pc' := 5) rfl rfl rfl rfl rfl rfl h_Xi ?_
  refine hmonor H ?_
  intro a3 g1 e2 H
  obtain ⟨hx4, H⟩ := H
  refine zq_astore (pc' := 7) rfl rfl rfl ?_
  refine zq_iload (pc' := 8) rfl rfl rfl rfl ?_
  refine zq_ipush (pc' := 9) rfl rfl rfl ?_
  refine hq_callv (pc' := 12) rfl rfl rfl rfl rfl rfl h_Xi ?_
  refine hmonov H ?_
  intro g5 e6 H
  refine zq_iload (pc' := 13) rfl rfl rfl rfl ?_
  refine zq_ipush (pc' := 14) rfl rfl rfl ?_
  refine zq_ipush (pc' := 16) rfl rfl rfl ?_
  refine hq_callv (pc' := 19) rfl rfl rfl rfl rfl rfl h_Xi ?_
  refine hmonov H ?_
  intro g7 e8 H
  refine zq_aload (pc' := 20) rfl rfl rfl rfl ?_
  refine zq_aload (pc' := 22) rfl rfl rfl rfl ?_
  refine zq_iload (pc' := 23) rfl rfl rfl rfl ?_
  refine hq_calli (pc' := 26) rfl rfl rfl rfl rfl rfl h_Xi ?_
  refine hmonoi H ?_
  intro x11 g9 e10 H
  refine zq_istore (pc' := 28) rfl rfl rfl ?_
  refine zq_iload (pc' := 29) rfl rfl rfl rfl ?_
  refine zq_switch rfl ?_
  refine And.intro (fun c => ?_) (fun c => ?_)
  · have H := H.1 c
    show zW (zE d) zm_X7_then (hqi k X) (60, [(5, .int x11), (4, .ref a3), (0, .ref 1000), (1, .int p1), (2, .int p2), (3, .int p3)], [], hp g9 e10)
    refine zq_aload (pc' := 62) rfl rfl rfl rfl ?_
    refine hq_calli (pc' := 65) rfl rfl rfl rfl rfl rfl h_Xi ?_
    refine hmonoi H ?_
    intro x14 g12 e13 H
    exact zq_iret rfl trivial (Exists.intro _ (Exists.intro _ (And.intro rfl H)))
  · have H := H.2 c
    refine And.intro (fun c => ?_) (fun c => ?_)
    · have H := H.1 c
      show zW (zE d) zm_X7_then (hqi k X) (66, [(5, .int x11), (4, .ref a3), (0, .ref 1000), (1, .int p1), (2, .int p2), (3, .int p3)], [], hp g9 e10)
      refine zq_aload (pc' := 68) rfl rfl rfl rfl ?_
      refine hq_calli (pc' := 71) rfl rfl rfl rfl rfl rfl h_Xi ?_
      refine hmonoi H ?_
      intro x17 g15 e16 H
      exact zq_iret rfl trivial (Exists.intro _ (Exists.intro _ (And.intro rfl H)))
    · have H := H.2 c
      refine And.intro (fun c => ?_) (fun c => ?_)
      · have H := H.1 c
        show zW (zE d) zm_X7_then (hqi k X) (72, [(5, .int x11), (4, .ref a3), (0, .ref 1000), (1, .int p1), (2, .int p2), (3, .int p3)], [], hp g9 e10)
        refine zq_aload (pc' := 74) rfl rfl rfl rfl ?_
        refine hq_calli (pc' := 77) rfl rfl rfl rfl rfl rfl h_Xi ?_
        refine hmonoi H ?_
        intro x20 g18 e19 H
        exact zq_iret rfl trivial (Exists.intro _ (Exists.intro _ (And.intro rfl H)))
      · have H := H.2 c
        refine And.intro (fun c => ?_) (fun c => ?_)
        · have H := H.1 c
          show zW (zE d) zm_X7_then (hqi k X) (78, [(5, .int x11), (4, .ref a3), (0, .ref 1000), (1, .int p1), (2, .int p2), (3, .int p3)], [], hp g9 e10)
          refine zq_aload (pc' := 80) rfl rfl rfl rfl ?_
          refine hq_calli (pc' := 83) rfl rfl rfl rfl rfl rfl h_Xi ?_
          refine hmonoi H ?_
          intro x23 g21 e22 H
          exact zq_iret rfl trivial (Exists.intro _ (Exists.intro _ (And.intro rfl H)))
        · have H := H.2 c
          show zW (zE d) zm_X7_then (hqi k X) (84, [(5, .int x11), (4, .ref a3), (0, .ref 1000), (1, .int p1), (2, .int p2), (3, .int p3)], [], hp g9 e10)
          refine zq_iload (pc' := 86) rfl rfl rfl rfl ?_
          exact zq_iret rfl trivial (Exists.intro _ (Exists.intro _ (And.intro rfl H)))
theorem zh_X7_when {d : Nat} {k : Int32 → hG → hE → Prop} {X : Nat → hG → hE → Prop} {p1 : Int32} {p2 : Int32} {g : hG} {e : hE} (H :
    hcr d 207 [.ref 1000, .int p1] g e (fun a3 g1 e2 =>
      hT a3 = some hZ ∧ hcv d 204 [.int p2, .int 3] g1 e2 (fun g5 e6 =>
        zbr (p2 = 2)
        (hci d 163 [.ref 1000, .ref a3] g5 e6 (fun x9 g7 e8 =>
            k x9 g7 e8) X)
        (hci d 164 [.ref 1000, .ref a3, .int p2] g5 e6 (fun x12 g10 e11 =>
            k x12 g10 e11) X)) X) X) : hci (d + 1) 162 [.ref 1000, .int p1, .int p2] g e k X := by
  refine hent (M := zm_X7_when) (show hT 1000 = some (.inr _) from rfl) rfl rfl rfl rfl rfl ?_
  refine zq_aload (pc' := 1) rfl rfl rfl rfl ?_
  refine zq_iload (pc' := 2) rfl rfl rfl rfl ?_
  refine hq_callr (pc' := 5) rfl rfl rfl rfl rfl rfl h_Xi ?_
  refine hmonor H ?_
  intro a3 g1 e2 H
  obtain ⟨hx4, H⟩ := H
  refine zq_astore (pc' := 6) rfl rfl rfl ?_
  refine zq_iload (pc' := 7) rfl rfl rfl rfl ?_
  refine zq_ipush (pc' := 8) rfl rfl rfl ?_
  refine hq_callv (pc' := 11) rfl rfl rfl rfl rfl rfl h_Xi ?_
  refine hmonov H ?_
  intro g5 e6 H
  refine zq_iload (pc' := 12) rfl rfl rfl rfl ?_
  refine zq_ipush (pc' := 13) rfl rfl rfl ?_
  refine zq_icne (pc' := 16) rfl rfl rfl rfl (And.intro (fun c => ?_) (fun c => ?_))
  · have H := H.1 c
    refine zq_aload (pc' := 17) rfl rfl rfl rfl ?_
    refine zq_aload (pc' := 18) rfl rfl rfl rfl ?_
    refine hq_calli (pc' := 21) rfl rfl rfl rfl rfl rfl h_Xi ?_
    refine hmonoi H ?_
    intro x9 g7 e8 H
    refine zq_goto (pc' := 30) rfl rfl rfl ?_
    exact zq_iret rfl trivial (Exists.intro _ (Exists.intro _ (And.intro rfl H)))
  · have H := H.2 c
    refine zq_aload (pc' := 25) rfl rfl rfl rfl ?_
    refine zq_aload (pc' := 26) rfl rfl rfl rfl ?_
    refine zq_iload (pc' := 27) rfl rfl rfl rfl ?_
    refine hq_calli (pc' := 30) rfl rfl rfl rfl rfl rfl h_Xi ?_
    refine hmonoi H ?_
    intro x12 g10 e11 H
    exact zq_iret rfl trivial (Exists.intro _ (Exists.intro _ (And.intro rfl H)))
theorem zh_X7_daysTillGone {d : Nat} {k : Int32 → hG → hE → Prop} {X : Nat → hG → hE → Prop} {p1 : Nat} (hp1 : hT p1 = some hZ) {g : hG} {e : hE} (H :
    hwi d zm_X7_daysTillGone k X 2 [(0, .ref 1000), (1, .ref p1), (2, .int 0)] g e) : hci (d + 1) 163 [.ref 1000, .ref p1] g e k X := by
  refine hent (M := zm_X7_daysTillGone) (show hT 1000 = some (.inr _) from rfl) rfl rfl rfl rfl rfl ?_
  refine zq_ipush (pc' := 1) rfl rfl rfl ?_
  refine zq_istore_c (pc' := 2) rfl rfl ?_
  exact H
theorem zh_X7_daysTillGone_2 {d : Nat} {k : Int32 → hG → hE → Prop} {X : Nat → hG → hE → Prop} {l1 : Nat} (hl1 : hT l1 = some hZ) {l2 : Int32} {g : hG} {e : hE} (H :
    zbr (60 < l2)
    (k (-1) g e)
    (hci d 115 [.ref l1] g e (fun x3 g1 e2 =>
        zbr (x3 = 0)
        (k l2 g1 e2)
        (hci d 210 [.ref 1000, .ref l1, .int l2] g1 e2 (fun x6 g4 e5 =>
            hwi d zm_X7_daysTillGone k X 2 [(0, .ref 1000), (1, .ref l1), (2, .int (l2 + 1))] g4 e5) X)) X)) : hwi d zm_X7_daysTillGone k X 2 [(0, .ref 1000), (1, .ref l1), (2, .int l2)] g e := by
  refine zq_iload (pc' := 3) rfl rfl rfl rfl ?_
  refine zq_ipush (pc' := 5) rfl rfl rfl ?_
  refine zq_icgt (pc' := 8) rfl rfl rfl rfl (And.intro (fun c => ?_) (fun c => ?_))
  · have H := H.1 c
    refine zq_ipushn (pc' := 31) rfl rfl rfl ?_
    exact zq_iret rfl trivial (Exists.intro _ (Exists.intro _ (And.intro rfl H)))
  · have H := H.2 c
    refine zq_aload (pc' := 9) rfl rfl rfl rfl ?_
    refine hq_calli (pc' := 12) rfl rfl rfl rfl rfl rfl h_Xi ?_
    refine hmonoi H ?_
    intro x3 g1 e2 H
    refine zq_ifne (pc' := 15) rfl rfl rfl rfl (And.intro (fun c => ?_) (fun c => ?_))
    · have H := H.1 c
      refine zq_iload (pc' := 16) rfl rfl rfl rfl ?_
      exact zq_iret rfl trivial (Exists.intro _ (Exists.intro _ (And.intro rfl H)))
    · have H := H.2 c
      refine zq_aload (pc' := 18) rfl rfl rfl rfl ?_
      refine zq_aload (pc' := 19) rfl rfl rfl rfl ?_
      refine zq_iload (pc' := 20) rfl rfl rfl rfl ?_
      refine hq_calli (pc' := 23) rfl rfl rfl rfl rfl rfl h_Xi ?_
      refine hmonoi H ?_
      intro x6 g4 e5 H
      refine zq_pop (pc' := 24) rfl rfl rfl rfl ?_
      refine zq_iinc (pc' := 27) rfl rfl rfl rfl ?_
      refine zq_goto_c (pc' := 2) rfl rfl ?_
      exact H
theorem zh_X7_firstBurst {d : Nat} {k : Int32 → hG → hE → Prop} {X : Nat → hG → hE → Prop} {p1 : Nat} (hp1 : hT p1 = some hZ) {p2 : Int32} {g : hG} {e : hE} (H :
    hwi d zm_X7_firstBurst k X 2 [(0, .ref 1000), (1, .ref p1), (2, .int p2), (3, .int 0)] g e) : hci (d + 1) 164 [.ref 1000, .ref p1, .int p2] g e k X := by
  refine hent (M := zm_X7_firstBurst) (show hT 1000 = some (.inr _) from rfl) rfl rfl rfl rfl rfl ?_
  refine zq_ipush (pc' := 1) rfl rfl rfl ?_
  refine zq_istore_c (pc' := 2) rfl rfl ?_
  exact H
theorem zh_X7_firstBurst_2 {d : Nat} {k : Int32 → hG → hE → Prop} {X : Nat → hG → hE → Prop} {l1 : Nat} (hl1 : hT l1 = some hZ) {l2 : Int32} {l3 : Int32} {g : hG} {e : hE} (H :
    zbr (60 ≤ l3)
    (k (-1) g e)
    (hci d 210 [.ref 1000, .ref l1, .int l3] g e (fun x3 g1 e2 =>
        zbr (x3 = 0)
        (hwi d zm_X7_firstBurst k X 2 [(0, .ref 1000), (1, .ref l1), (2, .int l2), (3, .int (l3 + 1))] g1 e2)
        (zbr (l2 = 0)
          (k (l3 + 1) g1 e2)
          (hD (g1.2.2 1000 2) ∧ 
            hci d 59 [.ref (g1.2.2 1000 2)] g1 e2 (fun x7 g5 e6 =>
              k x7 g5 e6) X))) X)) : hwi d zm_X7_firstBurst k X 2 [(0, .ref 1000), (1, .ref l1), (2, .int l2), (3, .int l3)] g e := by
  refine zq_iload (pc' := 3) rfl rfl rfl rfl ?_
  refine zq_ipush (pc' := 5) rfl rfl rfl ?_
  refine zq_icge (pc' := 8) rfl rfl rfl rfl (And.intro (fun c => ?_) (fun c => ?_))
  · have H := H.1 c
    refine zq_ipushn (pc' := 42) rfl rfl rfl ?_
    exact zq_iret rfl trivial (Exists.intro _ (Exists.intro _ (And.intro rfl H)))
  · have H := H.2 c
    refine zq_aload (pc' := 9) rfl rfl rfl rfl ?_
    refine zq_aload (pc' := 10) rfl rfl rfl rfl ?_
    refine zq_iload (pc' := 11) rfl rfl rfl rfl ?_
    refine hq_calli (pc' := 14) rfl rfl rfl rfl rfl rfl h_Xi ?_
    refine hmonoi H ?_
    intro x3 g1 e2 H
    refine zq_ifeq (pc' := 17) rfl rfl rfl rfl (And.intro (fun c => ?_) (fun c => ?_))
    · have H := H.1 c
      refine zq_iinc (pc' := 38) rfl rfl rfl rfl ?_
      refine zq_goto_c (pc' := 2) rfl rfl ?_
      exact H
    · have H := H.2 c
      refine zq_iload (pc' := 18) rfl rfl rfl rfl ?_
      refine zq_ifne (pc' := 21) rfl rfl rfl rfl (And.intro (fun c => ?_) (fun c => ?_))
      · have H := H.1 c
        refine zq_iload (pc' := 22) rfl rfl rfl rfl ?_
        refine zq_ipush (pc' := 23) rfl rfl rfl ?_
        refine zq_iadd (pc' := 24) rfl rfl rfl ?_
        refine zq_goto (pc' := 34) rfl rfl rfl ?_
        exact zq_iret rfl trivial (Exists.intro _ (Exists.intro _ (And.intro rfl H)))
      · have H := H.2 c
        refine zq_aload (pc' := 28) rfl rfl rfl rfl ?_
        obtain ⟨hr4, H⟩ := H
        refine zq_getR (pc' := 31) rfl rfl rfl (hp_gR rfl) ?_
        refine hq_calli (pc' := 34) rfl rfl rfl rfl rfl rfl h_Xi ?_
        refine hmonoi H ?_
        intro x7 g5 e6 H
        exact zq_iret rfl trivial (Exists.intro _ (Exists.intro _ (And.intro rfl H)))
theorem zh_X7_bursts {d : Nat} {k : Int32 → hG → hE → Prop} {X : Nat → hG → hE → Prop} {p1 : Int32} {p2 : Int32} {g : hG} {e : hE} (H :
    hcr d 207 [.ref 1000, .int p1] g e (fun a3 g1 e2 =>
      hT a3 = some hZ ∧ hcv d 202 [.ref a3, .int p2] g1 e2 (fun g5 e6 =>
        hwi d zm_X7_bursts k X 14 [(0, .ref 1000), (2, .int p2), (3, .ref a3), (4, .int 0)] g5 e6) X) X) : hci (d + 1) 165 [.ref 1000, .int p1, .int p2] g e k X := by
  refine hent (M := zm_X7_bursts) (show hT 1000 = some (.inr _) from rfl) rfl rfl rfl rfl rfl ?_
  refine zq_aload (pc' := 1) rfl rfl rfl rfl ?_
  refine zq_iload (pc' := 2) rfl rfl rfl rfl ?_
  refine hq_callr (pc' := 5) rfl rfl rfl rfl rfl rfl h_Xi ?_
  refine hmonor H ?_
  intro a3 g1 e2 H
  obtain ⟨hx4, H⟩ := H
  refine zq_astore (pc' := 6) rfl rfl rfl ?_
  refine zq_aload (pc' := 7) rfl rfl rfl rfl ?_
  refine zq_iload (pc' := 8) rfl rfl rfl rfl ?_
  refine hq_callv (pc' := 11) rfl rfl rfl rfl rfl rfl h_Xi ?_
  refine hmonov H ?_
  intro g5 e6 H
  refine zq_ipush (pc' := 12) rfl rfl rfl ?_
  refine zq_istore_c (pc' := 14) rfl rfl ?_
  exact H
theorem zh_X7_bursts_14 {d : Nat} {k : Int32 → hG → hE → Prop} {X : Nat → hG → hE → Prop} {l2 : Int32} {l3 : Nat} (hl3 : hT l3 = some hZ) {l4 : Int32} {g : hG} {e : hE} (H :
    zbr (60 ≤ l4)
    (k (-1) g e)
    (hci d 210 [.ref 1000, .ref l3, .int l4] g e (fun x3 g1 e2 =>
        zbr (((x3 >>> (l2 &&& 31)) &&& 1) = 0)
        (hwi d zm_X7_bursts k X 14 [(0, .ref 1000), (2, .int l2), (3, .ref l3), (4, .int (l4 + 1))] g1 e2)
        (k (l4 + 1) g1 e2)) X)) : hwi d zm_X7_bursts k X 14 [(0, .ref 1000), (2, .int l2), (3, .ref l3), (4, .int l4)] g e := by
  refine zq_iload (pc' := 16) rfl rfl rfl rfl ?_
  refine zq_ipush (pc' := 18) rfl rfl rfl ?_
  refine zq_icge (pc' := 21) rfl rfl rfl rfl (And.intro (fun c => ?_) (fun c => ?_))
  · have H := H.1 c
    refine zq_ipushn (pc' := 47) rfl rfl rfl ?_
    exact zq_iret rfl trivial (Exists.intro _ (Exists.intro _ (And.intro rfl H)))
  · have H := H.2 c
    refine zq_aload (pc' := 22) rfl rfl rfl rfl ?_
    refine zq_aload (pc' := 23) rfl rfl rfl rfl ?_
    refine zq_iload (pc' := 25) rfl rfl rfl rfl ?_
    refine hq_calli (pc' := 28) rfl rfl rfl rfl rfl rfl h_Xi ?_
    refine hmonoi H ?_
    intro x3 g1 e2 H
    refine zq_iload (pc' := 29) rfl rfl rfl rfl ?_
    refine zq_ishr (pc' := 30) rfl rfl rfl ?_
    refine zq_ipush (pc' := 31) rfl rfl rfl ?_
    refine zq_iand (pc' := 32) rfl rfl rfl ?_
    refine zq_ifeq (pc' := 35) rfl rfl rfl rfl (And.intro (fun c => ?_) (fun c => ?_))
    · have H := H.1 c
      refine zq_iinc (pc' := 43) rfl rfl rfl rfl ?_
      refine zq_goto_c (pc' := 14) rfl rfl ?_
      exact H
    · have H := H.2 c
      refine zq_iload (pc' := 37) rfl rfl rfl rfl ?_
      refine zq_ipush (pc' := 38) rfl rfl rfl ?_
      refine zq_iadd (pc' := 39) rfl rfl rfl ?_
      exact zq_iret rfl trivial (Exists.intro _ (Exists.intro _ (And.intro rfl H)))
theorem zh_X7_later {d : Nat} {k : Int32 → hG → hE → Prop} {X : Nat → hG → hE → Prop} {p1 : Int32} {p2 : Int32} {g : hG} {e : hE} (H :
    hcv d 204 [.int p2, .int 2] g e (fun g1 e2 =>
      hcv d 205 [.int p1, .int 0, .int 60] g1 e2 (fun g3 e4 =>
        hwi d zm_X7_later k X 23 [(0, .ref 1000), (1, .int p1), (2, .int p2), (3, .int 0), (4, .int (-1)), (5, .int (-1)), (6, .int 0)] g3 e4) X) X) : hci (d + 1) 166 [.ref 1000, .int p1, .int p2] g e k X := by
  refine hent (M := zm_X7_later) (show hT 1000 = some (.inr _) from rfl) rfl rfl rfl rfl rfl ?_
  refine zq_iload (pc' := 1) rfl rfl rfl rfl ?_
  refine zq_ipush (pc' := 2) rfl rfl rfl ?_
  refine hq_callv (pc' := 5) rfl rfl rfl rfl rfl rfl h_Xi ?_
  refine hmonov H ?_
  intro g1 e2 H
  refine zq_iload (pc' := 6) rfl rfl rfl rfl ?_
  refine zq_ipush (pc' := 7) rfl rfl rfl ?_
  refine zq_ipush (pc' := 9) rfl rfl rfl ?_
  refine hq_callv (pc' := 12) rfl rfl rfl rfl rfl rfl h_Xi ?_
  refine hmonov H ?_
  intro g3 e4 H
  refine zq_ipush (pc' := 13) rfl rfl rfl ?_
  refine zq_istore (pc' := 14) rfl rfl rfl ?_
  refine zq_ipushn (pc' := 15) rfl rfl rfl ?_
  refine zq_istore (pc' := 17) rfl rfl rfl ?_
  refine zq_ipushn (pc' := 18) rfl rfl rfl ?_
  refine zq_istore (pc' := 20) rfl rfl rfl ?_
  refine zq_ipush (pc' := 21) rfl rfl rfl ?_
  refine zq_istore_c (pc' := 23) rfl rfl ?_
  exact H
theorem zh_X7_later_23 {d : Nat} {k : Int32 → hG → hE → Prop} {X : Nat → hG → hE → Prop} {l1 : Int32} {l2 : Int32} {l3 : Int32} {l4 : Int32} {l5 : Int32} {l6 : Int32} {g : hG} {e : hE} (H :
    hD (g.2.2 1000 2) ∧ 
    hci d 46 [.ref (g.2.2 1000 2)] g e (fun x4 g2 e3 =>
      zbr (x4 ≤ l6)
      (zbr (l2 = 0)
        (k l3 g2 e3)
        (k l4 g2 e3))
      (hcr d 207 [.ref 1000, .int l6] g2 e3 (fun a7 g5 e6 =>
          hT a7 = some hZ ∧ hci d 211 [.ref 1000, .ref a7, .int l1] g5 e6 (fun x11 g9 e10 =>
            hci d 116 [.ref a7] g9 e10 (fun x14 g12 e13 =>
              hci d 116 [.ref a7] g12 e13 (fun x17 g15 e16 =>
                zbr (x17 ≤ l5)
                (hwi d zm_X7_later k X 23 [(0, .ref 1000), (1, .int l1), (2, .int l2), (3, .int (l3 + x14)), (4, .int l4), (5, .int l5), (6, .int (l6 + 1))] g15 e16)
                (hci d 116 [.ref a7] g15 e16 (fun x20 g18 e19 =>
                    hwi d zm_X7_later k X 23 [(0, .ref 1000), (1, .int l1), (2, .int l2), (3, .int (l3 + x14)), (4, .int l6), (5, .int x20), (6, .int (l6 + 1))] g18 e19) X)) X) X) X) X)) X) : hwi d zm_X7_later k X 23 [(0, .ref 1000), (1, .int l1), (2, .int l2), (3, .int l3), (4, .int l4), (5, .int l5), (6, .int l6)] g e := by
  refine zq_iload (pc' := 25) rfl rfl rfl rfl ?_
  refine zq_aload (pc' := 26) rfl rfl rfl rfl ?_
  obtain ⟨hr1, H⟩ := H
  refine zq_getR (pc' := 29) rfl rfl rfl (hp_gR rfl) ?_
  refine hq_calli (pc' := 32) rfl rfl rfl rfl rfl rfl h_Xi ?_
  refine hmonoi H ?_
  intro x4 g2 e3 H
  refine zq_icge (pc' := 35) rfl rfl rfl rfl (And.intro (fun c => ?_) (fun c => ?_))
  · have H := H.1 c
    refine zq_iload (pc' := 87) rfl rfl rfl rfl ?_
    refine zq_ifne (pc' := 90) rfl rfl rfl rfl (And.intro (fun c => ?_) (fun c => ?_))
    · have H := H.1 c
      refine zq_iload (pc' := 91) rfl rfl rfl rfl ?_
      refine zq_goto (pc' := 96) rfl rfl rfl ?_
      exact zq_iret rfl trivial (Exists.intro _ (Exists.intro _ (And.intro rfl H)))
    · have H := H.2 c
      refine zq_iload (pc' := 96) rfl rfl rfl rfl ?_
      exact zq_iret rfl trivial (Exists.intro _ (Exists.intro _ (And.intro rfl H)))
  · have H := H.2 c
    refine zq_aload (pc' := 36) rfl rfl rfl rfl ?_
    refine zq_iload (pc' := 38) rfl rfl rfl rfl ?_
    refine hq_callr (pc' := 41) rfl rfl rfl rfl rfl rfl h_Xi ?_
    refine hmonor H ?_
    intro a7 g5 e6 H
    obtain ⟨hx8, H⟩ := H
    refine zq_astore (pc' := 43) rfl rfl rfl ?_
    refine zq_aload (pc' := 44) rfl rfl rfl rfl ?_
    refine zq_aload (pc' := 46) rfl rfl rfl rfl ?_
    refine zq_iload (pc' := 47) rfl rfl rfl rfl ?_
    refine hq_calli (pc' := 50) rfl rfl rfl rfl rfl rfl h_Xi ?_
    refine hmonoi H ?_
    intro x11 g9 e10 H
    refine zq_pop (pc' := 51) rfl rfl rfl rfl ?_
    refine zq_iload (pc' := 52) rfl rfl rfl rfl ?_
    refine zq_aload (pc' := 54) rfl rfl rfl rfl ?_
    refine hq_calli (pc' := 57) rfl rfl rfl rfl rfl rfl h_Xi ?_
    refine hmonoi H ?_
    intro x14 g12 e13 H
    refine zq_iadd (pc' := 58) rfl rfl rfl ?_
    refine zq_istore (pc' := 59) rfl rfl rfl ?_
    refine zq_aload (pc' := 61) rfl rfl rfl rfl ?_
    refine hq_calli (pc' := 64) rfl rfl rfl rfl rfl rfl h_Xi ?_
    refine hmonoi H ?_
    intro x17 g15 e16 H
    refine zq_iload (pc' := 66) rfl rfl rfl rfl ?_
    refine zq_icle (pc' := 69) rfl rfl rfl rfl (And.intro (fun c => ?_) (fun c => ?_))
    · have H := H.1 c
      refine zq_iinc (pc' := 83) rfl rfl rfl rfl ?_
      refine zq_goto_c (pc' := 23) rfl rfl ?_
      exact H
    · have H := H.2 c
      refine zq_aload (pc' := 71) rfl rfl rfl rfl ?_
      refine hq_calli (pc' := 74) rfl rfl rfl rfl rfl rfl h_Xi ?_
      refine hmonoi H ?_
      intro x20 g18 e19 H
      refine zq_istore (pc' := 76) rfl rfl rfl ?_
      refine zq_iload (pc' := 78) rfl rfl rfl rfl ?_
      refine zq_istore (pc' := 80) rfl rfl rfl ?_
      refine zq_iinc (pc' := 83) rfl rfl rfl rfl ?_
      refine zq_goto_c (pc' := 23) rfl rfl ?_
      exact H
theorem zh_X7_calm {d : Nat} {k : Int32 → hG → hE → Prop} {X : Nat → hG → hE → Prop} {p1 : Int32} {g : hG} {e : hE} (H :
    hcv d 205 [.int p1, .int 1, .int 60] g e (fun g1 e2 =>
      hcv d 208 [.ref 1000] g1 e2 (fun g3 e4 =>
        hwi d zm_X7_calm k X 15 [(0, .ref 1000), (1, .int p1), (2, .int 0), (3, .int 0)] g3 e4) X) X) : hci (d + 1) 167 [.ref 1000, .int p1] g e k X := by
  refine hent (M := zm_X7_calm) (show hT 1000 = some (.inr _) from rfl) rfl rfl rfl rfl rfl ?_
  refine zq_iload (pc' := 1) rfl rfl rfl rfl ?_
  refine zq_ipush (pc' := 2) rfl rfl rfl ?_
  refine zq_ipush (pc' := 4) rfl rfl rfl ?_
  refine hq_callv (pc' := 7) rfl rfl rfl rfl rfl rfl h_Xi ?_
  refine hmonov H ?_
  intro g1 e2 H
  refine zq_aload (pc' := 8) rfl rfl rfl rfl ?_
  refine hq_callv (pc' := 11) rfl rfl rfl rfl rfl rfl h_Xi ?_
  refine hmonov H ?_
  intro g3 e4 H
  refine zq_ipush (pc' := 12) rfl rfl rfl ?_
  refine zq_istore (pc' := 13) rfl rfl rfl ?_
  refine zq_ipush (pc' := 14) rfl rfl rfl ?_
  refine zq_istore_c (pc' := 15) rfl rfl ?_
  exact H
theorem zh_X7_calm_15 {d : Nat} {k : Int32 → hG → hE → Prop} {X : Nat → hG → hE → Prop} {l1 : Int32} {l2 : Int32} {l3 : Int32} {g : hG} {e : hE} (H :
    zbr (l1 ≤ l3)
    (k l2 g e)
    (hci d 209 [.ref 1000, .int l3] g e (fun x3 g1 e2 =>
        zbr (x3 = 0)
        (hwi d zm_X7_calm k X 15 [(0, .ref 1000), (1, .int l1), (2, .int (l2 + 1)), (3, .int (l3 + 1))] g1 e2)
        (hwi d zm_X7_calm k X 15 [(0, .ref 1000), (1, .int l1), (2, .int l2), (3, .int (l3 + 1))] g1 e2)) X)) : hwi d zm_X7_calm k X 15 [(0, .ref 1000), (1, .int l1), (2, .int l2), (3, .int l3)] g e := by
  refine zq_iload (pc' := 16) rfl rfl rfl rfl ?_
  refine zq_iload (pc' := 17) rfl rfl rfl rfl ?_
  refine zq_icge (pc' := 20) rfl rfl rfl rfl (And.intro (fun c => ?_) (fun c => ?_))
  · have H := H.1 c
    refine zq_iload (pc' := 38) rfl rfl rfl rfl ?_
    exact zq_iret rfl trivial (Exists.intro _ (Exists.intro _ (And.intro rfl H)))
  · have H := H.2 c
    refine zq_aload (pc' := 21) rfl rfl rfl rfl ?_
    refine zq_iload (pc' := 22) rfl rfl rfl rfl ?_
    refine hq_calli (pc' := 25) rfl rfl rfl rfl rfl rfl h_Xi ?_
    refine hmonoi H ?_
    intro x3 g1 e2 H
    refine zq_ifne (pc' := 28) rfl rfl rfl rfl (And.intro (fun c => ?_) (fun c => ?_))
    · have H := H.1 c
      refine zq_iinc (pc' := 31) rfl rfl rfl rfl ?_
      refine zq_iinc (pc' := 34) rfl rfl rfl rfl ?_
      refine zq_goto_c (pc' := 15) rfl rfl ?_
      exact H
    · have H := H.2 c
      refine zq_iinc (pc' := 34) rfl rfl rfl rfl ?_
      refine zq_goto_c (pc' := 15) rfl rfl ?_
      exact H
theorem zh_X7_worst {d : Nat} {k : Int32 → hG → hE → Prop} {X : Nat → hG → hE → Prop} {p1 : Int32} {p2 : Int32} {g : hG} {e : hE} (H :
    hcv d 204 [.int p2, .int 2] g e (fun g1 e2 =>
      hcv d 205 [.int p1, .int 1, .int 60] g1 e2 (fun g3 e4 =>
        hcv d 208 [.ref 1000] g3 e4 (fun g5 e6 =>
          hwi d zm_X7_worst k X 24 [(0, .ref 1000), (1, .int p1), (2, .int p2), (3, .int (-1)), (4, .int 0), (5, .int 0)] g5 e6) X) X) X) : hci (d + 1) 168 [.ref 1000, .int p1, .int p2] g e k X := by
  refine hent (M := zm_X7_worst) (show hT 1000 = some (.inr _) from rfl) rfl rfl rfl rfl rfl ?_
  refine zq_iload (pc' := 1) rfl rfl rfl rfl ?_
  refine zq_ipush (pc' := 2) rfl rfl rfl ?_
  refine hq_callv (pc' := 5) rfl rfl rfl rfl rfl rfl h_Xi ?_
  refine hmonov H ?_
  intro g1 e2 H
  refine zq_iload (pc' := 6) rfl rfl rfl rfl ?_
  refine zq_ipush (pc' := 7) rfl rfl rfl ?_
  refine zq_ipush (pc' := 9) rfl rfl rfl ?_
  refine hq_callv (pc' := 12) rfl rfl rfl rfl rfl rfl h_Xi ?_
  refine hmonov H ?_
  intro g3 e4 H
  refine zq_aload (pc' := 13) rfl rfl rfl rfl ?_
  refine hq_callv (pc' := 16) rfl rfl rfl rfl rfl rfl h_Xi ?_
  refine hmonov H ?_
  intro g5 e6 H
  refine zq_ipushn (pc' := 17) rfl rfl rfl ?_
  refine zq_istore (pc' := 18) rfl rfl rfl ?_
  refine zq_ipush (pc' := 19) rfl rfl rfl ?_
  refine zq_istore (pc' := 21) rfl rfl rfl ?_
  refine zq_ipush (pc' := 22) rfl rfl rfl ?_
  refine zq_istore_c (pc' := 24) rfl rfl ?_
  exact H
theorem zh_X7_worst_24 {d : Nat} {k : Int32 → hG → hE → Prop} {X : Nat → hG → hE → Prop} {l1 : Int32} {l2 : Int32} {l3 : Int32} {l4 : Int32} {l5 : Int32} {g : hG} {e : hE} (H :
    zbr (l1 ≤ l5)
    (zbr (l2 = 0)
      (k l4 g e)
      (k l3 g e))
    (hci d 209 [.ref 1000, .int l5] g e (fun x3 g1 e2 =>
        zbr (x3 ≤ l3)
        (hwi d zm_X7_worst k X 24 [(0, .ref 1000), (1, .int l1), (2, .int l2), (3, .int l3), (4, .int l4), (5, .int (l5 + 1))] g1 e2)
        (hwi d zm_X7_worst k X 24 [(0, .ref 1000), (1, .int l1), (2, .int l2), (3, .int x3), (4, .int (l5 + 1)), (5, .int (l5 + 1))] g1 e2)) X)) : hwi d zm_X7_worst k X 24 [(0, .ref 1000), (1, .int l1), (2, .int l2), (3, .int l3), (4, .int l4), (5, .int l5)] g e := by
  refine zq_iload (pc' := 26) rfl rfl rfl rfl ?_
  refine zq_iload (pc' := 27) rfl rfl rfl rfl ?_
  refine zq_icge (pc' := 30) rfl rfl rfl rfl (And.intro (fun c => ?_) (fun c => ?_))
  · have H := H.1 c
    refine zq_iload (pc' := 60) rfl rfl rfl rfl ?_
    refine zq_ifne (pc' := 63) rfl rfl rfl rfl (And.intro (fun c => ?_) (fun c => ?_))
    · have H := H.1 c
      refine zq_iload (pc' := 65) rfl rfl rfl rfl ?_
      refine zq_goto (pc' := 69) rfl rfl rfl ?_
      exact zq_iret rfl trivial (Exists.intro _ (Exists.intro _ (And.intro rfl H)))
    · have H := H.2 c
      refine zq_iload (pc' := 69) rfl rfl rfl rfl ?_
      exact zq_iret rfl trivial (Exists.intro _ (Exists.intro _ (And.intro rfl H)))
  · have H := H.2 c
    refine zq_aload (pc' := 31) rfl rfl rfl rfl ?_
    refine zq_iload (pc' := 33) rfl rfl rfl rfl ?_
    refine hq_calli (pc' := 36) rfl rfl rfl rfl rfl rfl h_Xi ?_
    refine hmonoi H ?_
    intro x3 g1 e2 H
    refine zq_istore (pc' := 38) rfl rfl rfl ?_
    refine zq_iload (pc' := 40) rfl rfl rfl rfl ?_
    refine zq_iload (pc' := 41) rfl rfl rfl rfl ?_
    refine zq_icle (pc' := 44) rfl rfl rfl rfl (And.intro (fun c => ?_) (fun c => ?_))
    · have H := H.1 c
      refine zq_iinc (pc' := 56) rfl rfl rfl rfl ?_
      refine zq_goto_c (pc' := 24) rfl rfl ?_
      exact H
    · have H := H.2 c
      refine zq_iload (pc' := 46) rfl rfl rfl rfl ?_
      refine zq_istore (pc' := 47) rfl rfl rfl ?_
      refine zq_iload (pc' := 49) rfl rfl rfl rfl ?_
      refine zq_ipush (pc' := 50) rfl rfl rfl ?_
      refine zq_iadd (pc' := 51) rfl rfl rfl ?_
      refine zq_istore (pc' := 53) rfl rfl rfl ?_
      refine zq_iinc (pc' := 56) rfl rfl rfl rfl ?_
      refine zq_goto_c (pc' := 24) rfl rfl ?_
      exact H
theorem zh_X7_most {d : Nat} {k : Int32 → hG → hE → Prop} {X : Nat → hG → hE → Prop} {p1 : Int32} {p2 : Int32} {g : hG} {e : hE} (H :
    hcr d 207 [.ref 1000, .int p1] g e (fun a3 g1 e2 =>
      hT a3 = some hZ ∧ hcv d 205 [.int p2, .int 0, .int 60] g1 e2 (fun g5 e6 =>
        hwi d zm_X7_most k X 19 [(0, .ref 1000), (2, .int p2), (3, .ref a3), (4, .int 0), (5, .int 0)] g5 e6) X) X) : hci (d + 1) 169 [.ref 1000, .int p1, .int p2] g e k X := by
  refine hent (M := zm_X7_most) (show hT 1000 = some (.inr _) from rfl) rfl rfl rfl rfl rfl ?_
  refine zq_aload (pc' := 1) rfl rfl rfl rfl ?_
  refine zq_iload (pc' := 2) rfl rfl rfl rfl ?_
  refine hq_callr (pc' := 5) rfl rfl rfl rfl rfl rfl h_Xi ?_
  refine hmonor H ?_
  intro a3 g1 e2 H
  obtain ⟨hx4, H⟩ := H
  refine zq_astore (pc' := 6) rfl rfl rfl ?_
  refine zq_iload (pc' := 7) rfl rfl rfl rfl ?_
  refine zq_ipush (pc' := 8) rfl rfl rfl ?_
  refine zq_ipush (pc' := 10) rfl rfl rfl ?_
  refine hq_callv (pc' := 13) rfl rfl rfl rfl rfl rfl h_Xi ?_
  refine hmonov H ?_
  intro g5 e6 H
  refine zq_ipush (pc' := 14) rfl rfl rfl ?_
  refine zq_istore (pc' := 16) rfl rfl rfl ?_
  refine zq_ipush (pc' := 17) rfl rfl rfl ?_
  refine zq_istore_c (pc' := 19) rfl rfl ?_
  exact H
theorem zh_X7_most_19 {d : Nat} {k : Int32 → hG → hE → Prop} {X : Nat → hG → hE → Prop} {l2 : Int32} {l3 : Nat} (hl3 : hT l3 = some hZ) {l4 : Int32} {l5 : Int32} {g : hG} {e : hE} (H :
    zbr (l2 ≤ l5)
    (k l4 g e)
    (hci d 210 [.ref 1000, .ref l3, .int l5] g e (fun x3 g1 e2 =>
        hci d 0 [.int x3] g1 e2 (fun x6 g4 e5 =>
          hci d 2 [.int l4, .int x6] g4 e5 (fun x9 g7 e8 =>
            hwi d zm_X7_most k X 19 [(0, .ref 1000), (2, .int l2), (3, .ref l3), (4, .int x9), (5, .int (l5 + 1))] g7 e8) X) X) X)) : hwi d zm_X7_most k X 19 [(0, .ref 1000), (2, .int l2), (3, .ref l3), (4, .int l4), (5, .int l5)] g e := by
  refine zq_iload (pc' := 21) rfl rfl rfl rfl ?_
  refine zq_iload (pc' := 22) rfl rfl rfl rfl ?_
  refine zq_icge (pc' := 25) rfl rfl rfl rfl (And.intro (fun c => ?_) (fun c => ?_))
  · have H := H.1 c
    refine zq_iload (pc' := 50) rfl rfl rfl rfl ?_
    exact zq_iret rfl trivial (Exists.intro _ (Exists.intro _ (And.intro rfl H)))
  · have H := H.2 c
    refine zq_iload (pc' := 27) rfl rfl rfl rfl ?_
    refine zq_aload (pc' := 28) rfl rfl rfl rfl ?_
    refine zq_aload (pc' := 29) rfl rfl rfl rfl ?_
    refine zq_iload (pc' := 31) rfl rfl rfl rfl ?_
    refine hq_calli (pc' := 34) rfl rfl rfl rfl rfl rfl h_Xi ?_
    refine hmonoi H ?_
    intro x3 g1 e2 H
    refine hq_calli (pc' := 37) rfl rfl rfl rfl rfl rfl h_Xi ?_
    refine hmonoi H ?_
    intro x6 g4 e5 H
    refine hq_calli (pc' := 40) rfl rfl rfl rfl rfl rfl h_Xi ?_
    refine hmonoi H ?_
    intro x9 g7 e8 H
    refine zq_istore (pc' := 42) rfl rfl rfl ?_
    refine zq_iinc (pc' := 45) rfl rfl rfl rfl ?_
    refine zq_goto_c (pc' := 19) rfl rfl ?_
    exact H
theorem zh_X7_daily {d : Nat} {k : Int32 → hG → hE → Prop} {X : Nat → hG → hE → Prop} {p1 : Int32} {p2 : Int32} {g : hG} {e : hE} (H :
    hcr d 207 [.ref 1000, .int p1] g e (fun a3 g1 e2 =>
      hT a3 = some hZ ∧ hcv d 205 [.int p2, .int 0, .int 60] g1 e2 (fun g5 e6 =>
        hwi d zm_X7_daily k X 19 [(0, .ref 1000), (2, .int p2), (3, .ref a3), (4, .int 0), (5, .int 0)] g5 e6) X) X) : hci (d + 1) 170 [.ref 1000, .int p1, .int p2] g e k X := by
  refine hent (M := zm_X7_daily) (show hT 1000 = some (.inr _) from rfl) rfl rfl rfl rfl rfl ?_
  refine zq_aload (pc' := 1) rfl rfl rfl rfl ?_
  refine zq_iload (pc' := 2) rfl rfl rfl rfl ?_
  refine hq_callr (pc' := 5) rfl rfl rfl rfl rfl rfl h_Xi ?_
  refine hmonor H ?_
  intro a3 g1 e2 H
  obtain ⟨hx4, H⟩ := H
  refine zq_astore (pc' := 6) rfl rfl rfl ?_
  refine zq_iload (pc' := 7) rfl rfl rfl rfl ?_
  refine zq_ipush (pc' := 8) rfl rfl rfl ?_
  refine zq_ipush (pc' := 10) rfl rfl rfl ?_
  refine hq_callv (pc' := 13) rfl rfl rfl rfl rfl rfl h_Xi ?_
  refine hmonov H ?_
  intro g5 e6 H
  refine zq_ipush (pc' := 14) rfl rfl rfl ?_
  refine zq_istore (pc' := 16) rfl rfl rfl ?_
  refine zq_ipush (pc' := 17) rfl rfl rfl ?_
  refine zq_istore_c (pc' := 19) rfl rfl ?_
  exact H
theorem zh_X7_daily_19 {d : Nat} {k : Int32 → hG → hE → Prop} {X : Nat → hG → hE → Prop} {l2 : Int32} {l3 : Nat} (hl3 : hT l3 = some hZ) {l4 : Int32} {l5 : Int32} {g : hG} {e : hE} (H :
    zbr (l2 ≤ l5)
    (k l4 g e)
    (hcv d 127 [.ref l3] g e (fun g1 e2 =>
        hci d 210 [.ref 1000, .ref l3, .int l5] g1 e2 (fun x5 g3 e4 =>
          hci d 0 [.int x5] g3 e4 (fun x8 g6 e7 =>
            hwi d zm_X7_daily k X 19 [(0, .ref 1000), (2, .int l2), (3, .ref l3), (4, .int (l4 + x8)), (5, .int (l5 + 1))] g6 e7) X) X) X)) : hwi d zm_X7_daily k X 19 [(0, .ref 1000), (2, .int l2), (3, .ref l3), (4, .int l4), (5, .int l5)] g e := by
  refine zq_iload (pc' := 21) rfl rfl rfl rfl ?_
  refine zq_iload (pc' := 22) rfl rfl rfl rfl ?_
  refine zq_icge (pc' := 25) rfl rfl rfl rfl (And.intro (fun c => ?_) (fun c => ?_))
  · have H := H.1 c
    refine zq_iload (pc' := 52) rfl rfl rfl rfl ?_
    exact zq_iret rfl trivial (Exists.intro _ (Exists.intro _ (And.intro rfl H)))
  · have H := H.2 c
    refine zq_aload (pc' := 26) rfl rfl rfl rfl ?_
    refine hq_callv (pc' := 29) rfl rfl rfl rfl rfl rfl h_Xi ?_
    refine hmonov H ?_
    intro g1 e2 H
    refine zq_iload (pc' := 31) rfl rfl rfl rfl ?_
    refine zq_aload (pc' := 32) rfl rfl rfl rfl ?_
    refine zq_aload (pc' := 33) rfl rfl rfl rfl ?_
    refine zq_iload (pc' := 35) rfl rfl rfl rfl ?_
    refine hq_calli (pc' := 38) rfl rfl rfl rfl rfl rfl h_Xi ?_
    refine hmonoi H ?_
    intro x5 g3 e4 H
    refine hq_calli (pc' := 41) rfl rfl rfl rfl rfl rfl h_Xi ?_
    refine hmonoi H ?_
    intro x8 g6 e7 H
    refine zq_iadd (pc' := 42) rfl rfl rfl ?_
    refine zq_istore (pc' := 44) rfl rfl rfl ?_
    refine zq_iinc (pc' := 47) rfl rfl rfl rfl ?_
    refine zq_goto_c (pc' := 19) rfl rfl ?_
    exact H
theorem zh_X7_lasts {d : Nat} {k : Int32 → hG → hE → Prop} {X : Nat → hG → hE → Prop} {p1 : Int32} {g : hG} {e : hE} (H :
    hcr d 207 [.ref 1000, .int p1] g e (fun a3 g1 e2 =>
      hT a3 = some hZ ∧ hci d 121 [.ref a3] g1 e2 (fun x7 g5 e6 =>
        hwi d zm_X7_lasts k X 14 [(0, .ref 1000), (2, .ref a3), (3, .int x7), (4, .int 0)] g5 e6) X) X) : hci (d + 1) 171 [.ref 1000, .int p1] g e k X := by
  refine hent (M := zm_X7_lasts) (show hT 1000 = some (.inr _) from rfl) rfl rfl rfl rfl rfl ?_
  refine zq_aload (pc' := 1) rfl rfl rfl rfl ?_
  refine zq_iload (pc' := 2) rfl rfl rfl rfl ?_
  refine hq_callr (pc' := 5) rfl rfl rfl rfl rfl rfl h_Xi ?_
  refine hmonor H ?_
  intro a3 g1 e2 H
  obtain ⟨hx4, H⟩ := H
  refine zq_astore (pc' := 6) rfl rfl rfl ?_
  refine zq_aload (pc' := 7) rfl rfl rfl rfl ?_
  refine hq_calli (pc' := 10) rfl rfl rfl rfl rfl rfl h_Xi ?_
  refine hmonoi H ?_
  intro x7 g5 e6 H
  refine zq_istore (pc' := 11) rfl rfl rfl ?_
  refine zq_ipush (pc' := 12) rfl rfl rfl ?_
  refine zq_istore_c (pc' := 14) rfl rfl ?_
  exact H
theorem zh_X7_lasts_14 {d : Nat} {k : Int32 → hG → hE → Prop} {X : Nat → hG → hE → Prop} {l2 : Nat} (hl2 : hT l2 = some hZ) {l3 : Int32} {l4 : Int32} {g : hG} {e : hE} (H :
    zbr (60 ≤ l4)
    (k (-1) g e)
    (hcv d 127 [.ref l2] g e (fun g1 e2 =>
        hci d 210 [.ref 1000, .ref l2, .int l4] g1 e2 (fun x5 g3 e4 =>
          hci d 121 [.ref l2] g3 e4 (fun x8 g6 e7 =>
            zbr ((l3 &&& (x8 ^^^ (-1))) = 0)
            (hwi d zm_X7_lasts k X 14 [(0, .ref 1000), (2, .ref l2), (3, .int l3), (4, .int (l4 + 1))] g6 e7)
            (k (l4 + 1) g6 e7)) X) X) X)) : hwi d zm_X7_lasts k X 14 [(0, .ref 1000), (2, .ref l2), (3, .int l3), (4, .int l4)] g e := by
  refine zq_iload (pc' := 16) rfl rfl rfl rfl ?_
  refine zq_ipush (pc' := 18) rfl rfl rfl ?_
  refine zq_icge (pc' := 21) rfl rfl rfl rfl (And.intro (fun c => ?_) (fun c => ?_))
  · have H := H.1 c
    refine zq_ipushn (pc' := 56) rfl rfl rfl ?_
    exact zq_iret rfl trivial (Exists.intro _ (Exists.intro _ (And.intro rfl H)))
  · have H := H.2 c
    refine zq_aload (pc' := 22) rfl rfl rfl rfl ?_
    refine hq_callv (pc' := 25) rfl rfl rfl rfl rfl rfl h_Xi ?_
    refine hmonov H ?_
    intro g1 e2 H
    refine zq_aload (pc' := 26) rfl rfl rfl rfl ?_
    refine zq_aload (pc' := 27) rfl rfl rfl rfl ?_
    refine zq_iload (pc' := 29) rfl rfl rfl rfl ?_
    refine hq_calli (pc' := 32) rfl rfl rfl rfl rfl rfl h_Xi ?_
    refine hmonoi H ?_
    intro x5 g3 e4 H
    refine zq_pop (pc' := 33) rfl rfl rfl rfl ?_
    refine zq_iload (pc' := 34) rfl rfl rfl rfl ?_
    refine zq_aload (pc' := 35) rfl rfl rfl rfl ?_
    refine hq_calli (pc' := 38) rfl rfl rfl rfl rfl rfl h_Xi ?_
    refine hmonoi H ?_
    intro x8 g6 e7 H
    refine zq_ipushn (pc' := 39) rfl rfl rfl ?_
    refine zq_ixor (pc' := 40) rfl rfl rfl ?_
    refine zq_iand (pc' := 41) rfl rfl rfl ?_
    refine zq_ifeq (pc' := 44) rfl rfl rfl rfl (And.intro (fun c => ?_) (fun c => ?_))
    · have H := H.1 c
      refine zq_iinc (pc' := 52) rfl rfl rfl rfl ?_
      refine zq_goto_c (pc' := 14) rfl rfl ?_
      exact H
    · have H := H.2 c
      refine zq_iload (pc' := 46) rfl rfl rfl rfl ?_
      refine zq_ipush (pc' := 47) rfl rfl rfl ?_
      refine zq_iadd (pc' := 48) rfl rfl rfl ?_
      exact zq_iret rfl trivial (Exists.intro _ (Exists.intro _ (And.intro rfl H)))
theorem zh_X7_tear {d : Nat} {k : Int32 → hG → hE → Prop} {X : Nat → hG → hE → Prop} {p1 : Int32} {p2 : Int32} {p3 : Int32} {g : hG} {e : hE} (H :
    hcr d 207 [.ref 1000, .int p1] g e (fun a3 g1 e2 =>
      hT a3 = some hZ ∧ hcv d 202 [.ref a3, .int p2] g1 e2 (fun g5 e6 =>
        hcv d 205 [.int p3, .int 0, .int 99] g5 e6 (fun g7 e8 =>
          hcv d 128 [.ref a3, .int p2] g7 e8 (fun g9 e10 =>
            hD (g9.2.2 1000 2) ∧ 
            hD (g9.2.2 1000 2) ∧ 
            hci d 49 [.ref (g9.2.2 1000 2)] g9 e10 (fun x15 g13 e14 =>
              hci d 58 [.ref (g9.2.2 1000 2), .ref a3, .int p3, .int x15] g13 e14 (fun x18 g16 e17 =>
                k x18 g16 e17) X) X) X) X) X) X) : hci (d + 1) 172 [.ref 1000, .int p1, .int p2, .int p3] g e k X := by
  refine hent (M := zm_X7_tear) (show hT 1000 = some (.inr _) from rfl) rfl rfl rfl rfl rfl ?_
  refine zq_aload (pc' := 1) rfl rfl rfl rfl ?_
  refine zq_iload (pc' := 2) rfl rfl rfl rfl ?_
  refine hq_callr (pc' := 5) rfl rfl rfl rfl rfl rfl h_Xi ?_
  refine hmonor H ?_
  intro a3 g1 e2 H
  obtain ⟨hx4, H⟩ := H
  refine zq_astore (pc' := 7) rfl rfl rfl ?_
  refine zq_aload (pc' := 9) rfl rfl rfl rfl ?_
  refine zq_iload (pc' := 10) rfl rfl rfl rfl ?_
  refine hq_callv (pc' := 13) rfl rfl rfl rfl rfl rfl h_Xi ?_
  refine hmonov H ?_
  intro g5 e6 H
  refine zq_iload (pc' := 14) rfl rfl rfl rfl ?_
  refine zq_ipush (pc' := 15) rfl rfl rfl ?_
  refine zq_ipush (pc' := 17) rfl rfl rfl ?_
  refine hq_callv (pc' := 20) rfl rfl rfl rfl rfl rfl h_Xi ?_
  refine hmonov H ?_
  intro g7 e8 H
  refine zq_aload (pc' := 22) rfl rfl rfl rfl ?_
  refine zq_iload (pc' := 23) rfl rfl rfl rfl ?_
  refine hq_callv (pc' := 26) rfl rfl rfl rfl rfl rfl h_Xi ?_
  refine hmonov H ?_
  intro g9 e10 H
  refine zq_aload (pc' := 27) rfl rfl rfl rfl ?_
  obtain ⟨hr11, H⟩ := H
  refine zq_getR (pc' := 30) rfl rfl rfl (hp_gR rfl) ?_
  refine zq_aload (pc' := 32) rfl rfl rfl rfl ?_
  refine zq_iload (pc' := 33) rfl rfl rfl rfl ?_
  refine zq_aload (pc' := 34) rfl rfl rfl rfl ?_
  obtain ⟨hr12, H⟩ := H
  refine zq_getR (pc' := 37) rfl rfl rfl (hp_gR rfl) ?_
  refine hq_calli (pc' := 40) rfl rfl rfl rfl rfl rfl h_Xi ?_
  refine hmonoi H ?_
  intro x15 g13 e14 H
  refine hq_calli (pc' := 43) rfl rfl rfl rfl rfl rfl h_Xi ?_
  refine hmonoi H ?_
  intro x18 g16 e17 H
  exact zq_iret rfl trivial (Exists.intro _ (Exists.intro _ (And.intro rfl H)))
theorem zh_X7_offset {d : Nat} {k : Int32 → hG → hE → Prop} {X : Nat → hG → hE → Prop} {p1 : Int32} {p2 : Int32} {p3 : Int32} {g : hG} {e : hE} (H :
    hcr d 201 [.ref 1000, .int p1] g e (fun a3 g1 e2 =>
      hT a3 = some hZ ∧ hcr d 201 [.ref 1000, .int p2] g1 e2 (fun a7 g5 e6 =>
        hT a7 = some hZ ∧ hcv d 204 [.int p3, .int 2] g5 e6 (fun g9 e10 =>
          hci d 112 [.ref a7] g9 e10 (fun x13 g11 e12 =>
            hwi d zm_X7_offset k X 34 [(0, .ref 1000), (3, .int p3), (4, .ref a3), (5, .ref a7), (6, .int (-1)), (7, .int 0), (8, .int (1 - x13))] g11 e12) X) X) X) X) : hci (d + 1) 173 [.ref 1000, .int p1, .int p2, .int p3] g e k X := by
  refine hent (M := zm_X7_offset) (show hT 1000 = some (.inr _) from rfl) rfl rfl rfl rfl rfl ?_
  refine zq_aload (pc' := 1) rfl rfl rfl rfl ?_
  refine zq_iload (pc' := 2) rfl rfl rfl rfl ?_
  refine hq_callr (pc' := 5) rfl rfl rfl rfl rfl rfl h_Xi ?_
  refine hmonor H ?_
  intro a3 g1 e2 H
  obtain ⟨hx4, H⟩ := H
  refine zq_astore (pc' := 7) rfl rfl rfl ?_
  refine zq_aload (pc' := 8) rfl rfl rfl rfl ?_
  refine zq_iload (pc' := 9) rfl rfl rfl rfl ?_
  refine hq_callr (pc' := 12) rfl rfl rfl rfl rfl rfl h_Xi ?_
  refine hmonor H ?_
  intro a7 g5 e6 H
  obtain ⟨hx8, H⟩ := H
  refine zq_astore (pc' := 14) rfl rfl rfl ?_
  refine zq_iload (pc' := 15) rfl rfl rfl rfl ?_
  refine zq_ipush (pc' := 16) rfl rfl rfl ?_
  refine hq_callv (pc' := 19) rfl rfl rfl rfl rfl rfl h_Xi ?_
  refine hmonov H ?_
  intro g9 e10 H
  refine zq_ipushn (pc' := 20) rfl rfl rfl ?_
  refine zq_istore (pc' := 22) rfl rfl rfl ?_
  refine zq_ipush (pc' := 23) rfl rfl rfl ?_
  refine zq_istore (pc' := 25) rfl rfl rfl ?_
  refine zq_ipush (pc' := 26) rfl rfl rfl ?_
  refine zq_aload (pc' := 28) rfl rfl rfl rfl ?_
  refine hq_calli (pc' := 31) rfl rfl rfl rfl rfl rfl h_Xi ?_
  refine hmonoi H ?_
  intro x13 g11 e12 H
  refine zq_isub (pc' := 32) rfl rfl rfl ?_
  refine zq_istore_c (pc' := 34) rfl rfl ?_
  exact H
theorem zh_X7_offset_34 {d : Nat} {k : Int32 → hG → hE → Prop} {X : Nat → hG → hE → Prop} {l3 : Int32} {l4 : Nat} (hl4 : hT l4 = some hZ) {l5 : Nat} (hl5 : hT l5 = some hZ) {l6 : Int32} {l7 : Int32} {l8 : Int32} {g : hG} {e : hE} (H :
    hci d 112 [.ref l4] g e (fun x3 g1 e2 =>
      zbr (x3 ≤ l8)
      (zbr (l3 = 0)
        (k l7 g1 e2)
        (k l6 g1 e2))
      (hci d 100 [.ref 1043, .ref l4, .ref l5, .int l8] g1 e2 (fun x6 g4 e5 =>
          zbr (x6 ≤ l6)
          (hwi d zm_X7_offset k X 34 [(0, .ref 1000), (3, .int l3), (4, .ref l4), (5, .ref l5), (6, .int l6), (7, .int l7), (8, .int (l8 + 1))] g4 e5)
          (hwi d zm_X7_offset k X 34 [(0, .ref 1000), (3, .int l3), (4, .ref l4), (5, .ref l5), (6, .int x6), (7, .int l8), (8, .int (l8 + 1))] g4 e5)) X)) X) : hwi d zm_X7_offset k X 34 [(0, .ref 1000), (3, .int l3), (4, .ref l4), (5, .ref l5), (6, .int l6), (7, .int l7), (8, .int l8)] g e := by
  refine zq_iload (pc' := 36) rfl rfl rfl rfl ?_
  refine zq_aload (pc' := 38) rfl rfl rfl rfl ?_
  refine hq_calli (pc' := 41) rfl rfl rfl rfl rfl rfl h_Xi ?_
  refine hmonoi H ?_
  intro x3 g1 e2 H
  refine zq_icge (pc' := 44) rfl rfl rfl rfl (And.intro (fun c => ?_) (fun c => ?_))
  · have H := H.1 c
    refine zq_iload (pc' := 81) rfl rfl rfl rfl ?_
    refine zq_ifne (pc' := 84) rfl rfl rfl rfl (And.intro (fun c => ?_) (fun c => ?_))
    · have H := H.1 c
      refine zq_iload (pc' := 86) rfl rfl rfl rfl ?_
      refine zq_goto (pc' := 91) rfl rfl rfl ?_
      exact zq_iret rfl trivial (Exists.intro _ (Exists.intro _ (And.intro rfl H)))
    · have H := H.2 c
      refine zq_iload (pc' := 91) rfl rfl rfl rfl ?_
      exact zq_iret rfl trivial (Exists.intro _ (Exists.intro _ (And.intro rfl H)))
  · have H := H.2 c
    refine zq_aload (pc' := 45) rfl rfl rfl rfl ?_
    refine zq_getR (pc' := 48) rfl rfl rfl (hp_gC rfl) ?_
    refine zq_aload (pc' := 50) rfl rfl rfl rfl ?_
    refine zq_aload (pc' := 52) rfl rfl rfl rfl ?_
    refine zq_iload (pc' := 54) rfl rfl rfl rfl ?_
    refine hq_calli (pc' := 57) rfl rfl rfl rfl rfl rfl h_Xi ?_
    refine hmonoi H ?_
    intro x6 g4 e5 H
    refine zq_istore (pc' := 59) rfl rfl rfl ?_
    refine zq_iload (pc' := 61) rfl rfl rfl rfl ?_
    refine zq_iload (pc' := 63) rfl rfl rfl rfl ?_
    refine zq_icle (pc' := 66) rfl rfl rfl rfl (And.intro (fun c => ?_) (fun c => ?_))
    · have H := H.1 c
      refine zq_iinc (pc' := 77) rfl rfl rfl rfl ?_
      refine zq_goto_c (pc' := 34) rfl rfl ?_
      exact H
    · have H := H.2 c
      refine zq_iload (pc' := 68) rfl rfl rfl rfl ?_
      refine zq_istore (pc' := 70) rfl rfl rfl ?_
      refine zq_iload (pc' := 72) rfl rfl rfl rfl ?_
      refine zq_istore (pc' := 74) rfl rfl rfl ?_
      refine zq_iinc (pc' := 77) rfl rfl rfl rfl ?_
      refine zq_goto_c (pc' := 34) rfl rfl ?_
      exact H
theorem zh_X7_mesh {d : Nat} {k : Int32 → hG → hE → Prop} {X : Nat → hG → hE → Prop} {p1 : Int32} {p2 : Int32} {p3 : Int32} {g : hG} {e : hE} (H :
    hcr d 201 [.ref 1000, .int p1] g e (fun a3 g1 e2 =>
      hT a3 = some hZ ∧ hcr d 201 [.ref 1000, .int p2] g1 e2 (fun a7 g5 e6 =>
        hT a7 = some hZ ∧ zbr (p3 = (-1))
        (hci d 103 [.ref 1043, .ref a3, .ref a7] g5 e6 (fun x11 g9 e10 =>
            k x11 g9 e10) X)
        (hcv d 202 [.ref a3, .int p3] g5 e6 (fun g12 e13 =>
            hci d 104 [.ref 1043, .ref a3, .ref a7, .int p3] g12 e13 (fun x16 g14 e15 =>
              k x16 g14 e15) X) X)) X) X) : hci (d + 1) 174 [.ref 1000, .int p1, .int p2, .int p3] g e k X := by
  refine hent (M := zm_X7_mesh) (show hT 1000 = some (.inr _) from rfl) rfl rfl rfl rfl rfl ?_
  refine zq_aload (pc' := 1) rfl rfl rfl rfl ?_
  refine zq_iload (pc' := 2) rfl rfl rfl rfl ?_
  refine hq_callr (pc' := 5) rfl rfl rfl rfl rfl rfl h_Xi ?_
  refine hmonor H ?_
  intro a3 g1 e2 H
  obtain ⟨hx4, H⟩ := H
  refine zq_astore (pc' := 7) rfl rfl rfl ?_
  refine zq_aload (pc' := 8) rfl rfl rfl rfl ?_
  refine zq_iload (pc' := 9) rfl rfl rfl rfl ?_
  refine hq_callr (pc' := 12) rfl rfl rfl rfl rfl rfl h_Xi ?_
  refine hmonor H ?_
  intro a7 g5 e6 H
  obtain ⟨hx8, H⟩ := H
  refine zq_astore (pc' := 14) rfl rfl rfl ?_
  refine zq_iload (pc' := 15) rfl rfl rfl rfl ?_
  refine zq_ipushn (pc' := 16) rfl rfl rfl ?_
  refine zq_icne (pc' := 19) rfl rfl rfl rfl (And.intro (fun c => ?_) (fun c => ?_))
  · have H := H.1 c
    refine zq_aload (pc' := 20) rfl rfl rfl rfl ?_
    refine zq_getR (pc' := 23) rfl rfl rfl (hp_gC rfl) ?_
    refine zq_aload (pc' := 25) rfl rfl rfl rfl ?_
    refine zq_aload (pc' := 27) rfl rfl rfl rfl ?_
    refine hq_calli (pc' := 30) rfl rfl rfl rfl rfl rfl h_Xi ?_
    refine hmonoi H ?_
    intro x11 g9 e10 H
    exact zq_iret rfl trivial (Exists.intro _ (Exists.intro _ (And.intro rfl H)))
  · have H := H.2 c
    refine zq_aload (pc' := 33) rfl rfl rfl rfl ?_
    refine zq_iload (pc' := 34) rfl rfl rfl rfl ?_
    refine hq_callv (pc' := 37) rfl rfl rfl rfl rfl rfl h_Xi ?_
    refine hmonov H ?_
    intro g12 e13 H
    refine zq_aload (pc' := 38) rfl rfl rfl rfl ?_
    refine zq_getR (pc' := 41) rfl rfl rfl (hp_gC rfl) ?_
    refine zq_aload (pc' := 43) rfl rfl rfl rfl ?_
    refine zq_aload (pc' := 45) rfl rfl rfl rfl ?_
    refine zq_iload (pc' := 46) rfl rfl rfl rfl ?_
    refine hq_calli (pc' := 49) rfl rfl rfl rfl rfl rfl h_Xi ?_
    refine hmonoi H ?_
    intro x16 g14 e15 H
    exact zq_iret rfl trivial (Exists.intro _ (Exists.intro _ (And.intro rfl H)))
theorem zh_X7_cut {d : Nat} {k : Int32 → hG → hE → Prop} {X : Nat → hG → hE → Prop} {p1 : Int32} {p2 : Int32} {g : hG} {e : hE} (H :
    hcr d 201 [.ref 1000, .int p1] g e (fun a3 g1 e2 =>
      hT a3 = some hZ ∧ hcv d 204 [.int p2, .int 2] g1 e2 (fun g5 e6 =>
        hwi d zm_X7_cut k X 20 [(2, .int p2), (3, .ref a3), (4, .int (-1)), (5, .int 0), (6, .int 1)] g5 e6) X) X) : hci (d + 1) 175 [.ref 1000, .int p1, .int p2] g e k X := by
  refine hent (M := zm_X7_cut) (show hT 1000 = some (.inr _) from rfl) rfl rfl rfl rfl rfl ?_
  refine zq_aload (pc' := 1) rfl rfl rfl rfl ?_
  refine zq_iload (pc' := 2) rfl rfl rfl rfl ?_
  refine hq_callr (pc' := 5) rfl rfl rfl rfl rfl rfl h_Xi ?_
  refine hmonor H ?_
  intro a3 g1 e2 H
  obtain ⟨hx4, H⟩ := H
  refine zq_astore (pc' := 6) rfl rfl rfl ?_
  refine zq_iload (pc' := 7) rfl rfl rfl rfl ?_
  refine zq_ipush (pc' := 8) rfl rfl rfl ?_
  refine hq_callv (pc' := 11) rfl rfl rfl rfl rfl rfl h_Xi ?_
  refine hmonov H ?_
  intro g5 e6 H
  refine zq_ipushn (pc' := 12) rfl rfl rfl ?_
  refine zq_istore (pc' := 14) rfl rfl rfl ?_
  refine zq_ipush (pc' := 15) rfl rfl rfl ?_
  refine zq_istore (pc' := 17) rfl rfl rfl ?_
  refine zq_ipush (pc' := 18) rfl rfl rfl ?_
  refine zq_istore_c (pc' := 20) rfl rfl ?_
  exact H
theorem zh_X7_cut_20 {d : Nat} {k : Int32 → hG → hE → Prop} {X : Nat → hG → hE → Prop} {l2 : Int32} {l3 : Nat} (hl3 : hT l3 = some hZ) {l4 : Int32} {l5 : Int32} {l6 : Int32} {g : hG} {e : hE} (H :
    hci d 112 [.ref l3] g e (fun x3 g1 e2 =>
      zbr (x3 ≤ l6)
      (zbr (l2 = 0)
        (k l4 g1 e2)
        (k l5 g1 e2))
      (hci d 122 [.ref l3, .int 0, .int l6] g1 e2 (fun x6 g4 e5 =>
          hci d 112 [.ref l3] g4 e5 (fun x9 g7 e8 =>
            hci d 122 [.ref l3, .int l6, .int x9] g7 e8 (fun x12 g10 e11 =>
              hci d 3 [.int x6, .int x12] g10 e11 (fun x15 g13 e14 =>
                zbr (l4 = (-1))
                (hwi d zm_X7_cut k X 20 [(2, .int l2), (3, .ref l3), (4, .int l6), (5, .int x15), (6, .int (l6 + 1))] g13 e14)
                (zbr (x15 ≤ l5)
                  (hwi d zm_X7_cut k X 20 [(2, .int l2), (3, .ref l3), (4, .int l4), (5, .int l5), (6, .int (l6 + 1))] g13 e14)
                  (hwi d zm_X7_cut k X 20 [(2, .int l2), (3, .ref l3), (4, .int l6), (5, .int x15), (6, .int (l6 + 1))] g13 e14))) X) X) X) X)) X) : hwi d zm_X7_cut k X 20 [(2, .int l2), (3, .ref l3), (4, .int l4), (5, .int l5), (6, .int l6)] g e := by
  refine zq_iload (pc' := 22) rfl rfl rfl rfl ?_
  refine zq_aload (pc' := 23) rfl rfl rfl rfl ?_
  refine hq_calli (pc' := 26) rfl rfl rfl rfl rfl rfl h_Xi ?_
  refine hmonoi H ?_
  intro x3 g1 e2 H
  refine zq_icge (pc' := 29) rfl rfl rfl rfl (And.intro (fun c => ?_) (fun c => ?_))
  · have H := H.1 c
    refine zq_iload (pc' := 79) rfl rfl rfl rfl ?_
    refine zq_ifne (pc' := 82) rfl rfl rfl rfl (And.intro (fun c => ?_) (fun c => ?_))
    · have H := H.1 c
      refine zq_iload (pc' := 84) rfl rfl rfl rfl ?_
      refine zq_goto (pc' := 89) rfl rfl rfl ?_
      exact zq_iret rfl trivial (Exists.intro _ (Exists.intro _ (And.intro rfl H)))
    · have H := H.2 c
      refine zq_iload (pc' := 89) rfl rfl rfl rfl ?_
      exact zq_iret rfl trivial (Exists.intro _ (Exists.intro _ (And.intro rfl H)))
  · have H := H.2 c
    refine zq_aload (pc' := 30) rfl rfl rfl rfl ?_
    refine zq_ipush (pc' := 31) rfl rfl rfl ?_
    refine zq_iload (pc' := 33) rfl rfl rfl rfl ?_
    refine hq_calli (pc' := 36) rfl rfl rfl rfl rfl rfl h_Xi ?_
    refine hmonoi H ?_
    intro x6 g4 e5 H
    refine zq_aload (pc' := 37) rfl rfl rfl rfl ?_
    refine zq_iload (pc' := 39) rfl rfl rfl rfl ?_
    refine zq_aload (pc' := 40) rfl rfl rfl rfl ?_
    refine hq_calli (pc' := 43) rfl rfl rfl rfl rfl rfl h_Xi ?_
    refine hmonoi H ?_
    intro x9 g7 e8 H
    refine hq_calli (pc' := 46) rfl rfl rfl rfl rfl rfl h_Xi ?_
    refine hmonoi H ?_
    intro x12 g10 e11 H
    refine hq_calli (pc' := 49) rfl rfl rfl rfl rfl rfl h_Xi ?_
    refine hmonoi H ?_
    intro x15 g13 e14 H
    refine zq_istore (pc' := 51) rfl rfl rfl ?_
    refine zq_iload (pc' := 53) rfl rfl rfl rfl ?_
    refine zq_ipushn (pc' := 54) rfl rfl rfl ?_
    refine zq_iceq (pc' := 57) rfl rfl rfl rfl (And.intro (fun c => ?_) (fun c => ?_))
    · have H := H.1 c
      refine zq_iload (pc' := 66) rfl rfl rfl rfl ?_
      refine zq_istore (pc' := 68) rfl rfl rfl ?_
      refine zq_iload (pc' := 70) rfl rfl rfl rfl ?_
      refine zq_istore (pc' := 72) rfl rfl rfl ?_
      refine zq_iinc (pc' := 75) rfl rfl rfl rfl ?_
      refine zq_goto_c (pc' := 20) rfl rfl ?_
      exact H
    · have H := H.2 c
      refine zq_iload (pc' := 59) rfl rfl rfl rfl ?_
      refine zq_iload (pc' := 61) rfl rfl rfl rfl ?_
      refine zq_icle (pc' := 64) rfl rfl rfl rfl (And.intro (fun c => ?_) (fun c => ?_))
      · have H := H.1 c
        refine zq_iinc (pc' := 75) rfl rfl rfl rfl ?_
        refine zq_goto_c (pc' := 20) rfl rfl ?_
        exact H
      · have H := H.2 c
        refine zq_iload (pc' := 66) rfl rfl rfl rfl ?_
        refine zq_istore (pc' := 68) rfl rfl rfl ?_
        refine zq_iload (pc' := 70) rfl rfl rfl rfl ?_
        refine zq_istore (pc' := 72) rfl rfl rfl ?_
        refine zq_iinc (pc' := 75) rfl rfl rfl rfl ?_
        refine zq_goto_c (pc' := 20) rfl rfl ?_
        exact H
theorem zh_X7_mates {d : Nat} {k : Int32 → hG → hE → Prop} {X : Nat → hG → hE → Prop} {p1 : Int32} {g : hG} {e : hE} (H :
    zbr (p1 = (-1))
    (hwi d zm_X7_mates k X 11 [(0, .ref 1000), (1, .int p1)] g e)
    (hcr d 201 [.ref 1000, .int p1] g e (fun a3 g1 e2 =>
        hT a3 = some hZ ∧ hwi d zm_X7_mates k X 11 [(0, .ref 1000), (1, .int p1)] g1 e2) X)) : hci (d + 1) 176 [.ref 1000, .int p1] g e k X := by
  refine hent (M := zm_X7_mates) (show hT 1000 = some (.inr _) from rfl) rfl rfl rfl rfl rfl ?_
  refine zq_iload (pc' := 1) rfl rfl rfl rfl ?_
  refine zq_ipushn (pc' := 2) rfl rfl rfl ?_
  refine zq_iceq_c (pc' := 5) (lt := [(0, .ref 1000), (1, .int p1)]) (lf := [(0, .ref 1000), (1, .int p1)]) rfl rfl rfl rfl (And.intro (fun c => ?_) (fun c => ?_))
  · have H := H.1 c
    exact H
  · have H := H.2 c
    refine zq_aload (pc' := 6) rfl rfl rfl rfl ?_
    refine zq_iload (pc' := 7) rfl rfl rfl rfl ?_
    refine hq_callr (pc' := 10) rfl rfl rfl rfl rfl rfl h_Xi ?_
    refine hmonor H ?_
    intro a3 g1 e2 H
    obtain ⟨hx4, H⟩ := H
    refine zq_pop_c (pc' := 11) rfl rfl rfl ?_
    exact H
theorem zh_X7_mates_11 {d : Nat} {k : Int32 → hG → hE → Prop} {X : Nat → hG → hE → Prop} {l1 : Int32} {g : hG} {e : hE} (H :
    hD (g.2.2 1000 2) ∧ 
    hci d 46 [.ref (g.2.2 1000 2)] g e (fun x4 g2 e3 =>
      hwi d zm_X7_mates k X 31 [(0, .ref 1000), (1, .int l1), (2, .int (-1)), (3, .int 0), (4, .int (1 <<< ((2 * x4) &&& 31))), (5, .int 0)] g2 e3) X) : hwi d zm_X7_mates k X 11 [(0, .ref 1000), (1, .int l1)] g e := by
  refine zq_ipushn (pc' := 12) rfl rfl rfl ?_
  refine zq_istore (pc' := 13) rfl rfl rfl ?_
  refine zq_ipush (pc' := 14) rfl rfl rfl ?_
  refine zq_istore (pc' := 15) rfl rfl rfl ?_
  refine zq_ipush (pc' := 16) rfl rfl rfl ?_
  refine zq_ipush (pc' := 17) rfl rfl rfl ?_
  refine zq_aload (pc' := 18) rfl rfl rfl rfl ?_
  obtain ⟨hr1, H⟩ := H
  refine zq_getR (pc' := 21) rfl rfl rfl (hp_gR rfl) ?_
  refine hq_calli (pc' := 24) rfl rfl rfl rfl rfl rfl h_Xi ?_
  refine hmonoi H ?_
  intro x4 g2 e3 H
  refine zq_imul (pc' := 25) rfl rfl rfl ?_
  refine zq_ishl (pc' := 26) rfl rfl rfl ?_
  refine zq_istore (pc' := 28) rfl rfl rfl ?_
  refine zq_ipush (pc' := 29) rfl rfl rfl ?_
  refine zq_istore_c (pc' := 31) rfl rfl ?_
  exact H
theorem zh_X7_mates_31 {d : Nat} {k : Int32 → hG → hE → Prop} {X : Nat → hG → hE → Prop} {l1 : Int32} {l2 : Int32} {l3 : Int32} {l4 : Int32} {l5 : Int32} {g : hG} {e : hE} (H :
    zbr (l4 ≤ l5)
    (zbr (l1 = (-1))
      (k l2 g e)
      (hci d 177 [.ref 1000, .int l3, .int l1] g e (fun x3 g1 e2 =>
          k x3 g1 e2) X))
    (hci d 178 [.ref 1000, .int l5] g e (fun x6 g4 e5 =>
        zbr (x6 ≤ l2)
        (hwi d zm_X7_mates k X 31 [(0, .ref 1000), (1, .int l1), (2, .int l2), (3, .int l3), (4, .int l4), (5, .int (l5 + 1))] g4 e5)
        (hwi d zm_X7_mates k X 31 [(0, .ref 1000), (1, .int l1), (2, .int x6), (3, .int l5), (4, .int l4), (5, .int (l5 + 1))] g4 e5)) X)) : hwi d zm_X7_mates k X 31 [(0, .ref 1000), (1, .int l1), (2, .int l2), (3, .int l3), (4, .int l4), (5, .int l5)] g e := by
  refine zq_iload (pc' := 33) rfl rfl rfl rfl ?_
  refine zq_iload (pc' := 35) rfl rfl rfl rfl ?_
  refine zq_icge (pc' := 38) rfl rfl rfl rfl (And.intro (fun c => ?_) (fun c => ?_))
  · have H := H.1 c
    refine zq_iload (pc' := 65) rfl rfl rfl rfl ?_
    refine zq_ipushn (pc' := 66) rfl rfl rfl ?_
    refine zq_icne (pc' := 69) rfl rfl rfl rfl (And.intro (fun c => ?_) (fun c => ?_))
    · have H := H.1 c
      refine zq_iload (pc' := 70) rfl rfl rfl rfl ?_
      refine zq_goto (pc' := 79) rfl rfl rfl ?_
      exact zq_iret rfl trivial (Exists.intro _ (Exists.intro _ (And.intro rfl H)))
    · have H := H.2 c
      refine zq_aload (pc' := 74) rfl rfl rfl rfl ?_
      refine zq_iload (pc' := 75) rfl rfl rfl rfl ?_
      refine zq_iload (pc' := 76) rfl rfl rfl rfl ?_
      refine hq_calli (pc' := 79) rfl rfl rfl rfl rfl rfl h_Xi ?_
      refine hmonoi H ?_
      intro x3 g1 e2 H
      exact zq_iret rfl trivial (Exists.intro _ (Exists.intro _ (And.intro rfl H)))
  · have H := H.2 c
    refine zq_aload (pc' := 39) rfl rfl rfl rfl ?_
    refine zq_iload (pc' := 41) rfl rfl rfl rfl ?_
    refine hq_calli (pc' := 44) rfl rfl rfl rfl rfl rfl h_Xi ?_
    refine hmonoi H ?_
    intro x6 g4 e5 H
    refine zq_istore (pc' := 46) rfl rfl rfl ?_
    refine zq_iload (pc' := 48) rfl rfl rfl rfl ?_
    refine zq_iload (pc' := 49) rfl rfl rfl rfl ?_
    refine zq_icle (pc' := 52) rfl rfl rfl rfl (And.intro (fun c => ?_) (fun c => ?_))
    · have H := H.1 c
      refine zq_iinc (pc' := 61) rfl rfl rfl rfl ?_
      refine zq_goto_c (pc' := 31) rfl rfl ?_
      exact H
    · have H := H.2 c
      refine zq_iload (pc' := 54) rfl rfl rfl rfl ?_
      refine zq_istore (pc' := 55) rfl rfl rfl ?_
      refine zq_iload (pc' := 57) rfl rfl rfl rfl ?_
      refine zq_istore (pc' := 58) rfl rfl rfl ?_
      refine zq_iinc (pc' := 61) rfl rfl rfl rfl ?_
      refine zq_goto_c (pc' := 31) rfl rfl ?_
      exact H
theorem zh_X7_rightOf {d : Nat} {k : Int32 → hG → hE → Prop} {X : Nat → hG → hE → Prop} {p1 : Int32} {p2 : Int32} {g : hG} {e : hE} (H :
    hD (g.2.2 1000 2) ∧ 
    hci d 46 [.ref (g.2.2 1000 2)] g e (fun x4 g2 e3 =>
      k ((p1 >>> ((2 * ((x4 - 1) - p2)) &&& 31)) &&& 3) g2 e3) X) : hci (d + 1) 177 [.ref 1000, .int p1, .int p2] g e k X := by
  refine hent (M := zm_X7_rightOf) (show hT 1000 = some (.inr _) from rfl) rfl rfl rfl rfl rfl ?_
  refine zq_iload (pc' := 1) rfl rfl rfl rfl ?_
  refine zq_ipush (pc' := 2) rfl rfl rfl ?_
  refine zq_aload (pc' := 3) rfl rfl rfl rfl ?_
  obtain ⟨hr1, H⟩ := H
  refine zq_getR (pc' := 6) rfl rfl rfl (hp_gR rfl) ?_
  refine hq_calli (pc' := 9) rfl rfl rfl rfl rfl rfl h_Xi ?_
  refine hmonoi H ?_
  intro x4 g2 e3 H
  refine zq_ipush (pc' := 10) rfl rfl rfl ?_
  refine zq_isub (pc' := 11) rfl rfl rfl ?_
  refine zq_iload (pc' := 12) rfl rfl rfl rfl ?_
  refine zq_isub (pc' := 13) rfl rfl rfl ?_
  refine zq_imul (pc' := 14) rfl rfl rfl ?_
  refine zq_ishr (pc' := 15) rfl rfl rfl ?_
  refine zq_ipush (pc' := 16) rfl rfl rfl ?_
  refine zq_iand (pc' := 17) rfl rfl rfl ?_
  exact zq_iret rfl trivial (Exists.intro _ (Exists.intro _ (And.intro rfl H)))
theorem zh_X7_heldByRow {d : Nat} {k : Int32 → hG → hE → Prop} {X : Nat → hG → hE → Prop} {p1 : Int32} {g : hG} {e : hE} (H :
    hwi d zm_X7_heldByRow k X 7 [(0, .ref 1000), (1, .int p1), (2, .int 0), (3, .int 0), (4, .int 0)] g e) : hci (d + 1) 178 [.ref 1000, .int p1] g e k X := by
  refine hent (M := zm_X7_heldByRow) (show hT 1000 = some (.inr _) from rfl) rfl rfl rfl rfl rfl ?_
  refine zq_ipush (pc' := 1) rfl rfl rfl ?_
  refine zq_istore (pc' := 2) rfl rfl rfl ?_
  refine zq_ipush (pc' := 3) rfl rfl rfl ?_
  refine zq_istore (pc' := 4) rfl rfl rfl ?_
  refine zq_ipush (pc' := 5) rfl rfl rfl ?_
  refine zq_istore_c (pc' := 7) rfl rfl ?_
  exact H
theorem zh_X7_heldByRow_7 {d : Nat} {k : Int32 → hG → hE → Prop} {X : Nat → hG → hE → Prop} {l1 : Int32} {l2 : Int32} {l3 : Int32} {l4 : Int32} {g : hG} {e : hE} (H :
    hD (g.2.2 1000 2) ∧ 
    hci d 46 [.ref (g.2.2 1000 2)] g e (fun x4 g2 e3 =>
      zbr (x4 ≤ l4)
      (k l3 g2 e3)
      (hci d 177 [.ref 1000, .int l1, .int l4] g2 e3 (fun x7 g5 e6 =>
          hD (g5.2.2 1000 2) ∧ 
          hci d 46 [.ref (g5.2.2 1000 2)] g5 e6 (fun x11 g9 e10 =>
            zbr (x11 ≤ x7)
            (k (-1) g9 e10)
            (zbr (((l2 >>> (x7 &&& 31)) &&& 1) = 0)
              (hcr d 201 [.ref 1000, .int l4] g9 e10 (fun a14 g12 e13 =>
                  hT a14 = some hZ ∧ hci d 112 [.ref a14] g12 e13 (fun x18 g16 e17 =>
                    hcr d 201 [.ref 1000, .int x7] g16 e17 (fun a21 g19 e20 =>
                      hT a21 = some hZ ∧ hci d 112 [.ref a21] g19 e20 (fun x25 g23 e24 =>
                        zbr (x18 = x25)
                        (hcr d 201 [.ref 1000, .int l4] g23 e24 (fun a28 g26 e27 =>
                            hT a28 = some hZ ∧ hcr d 201 [.ref 1000, .int x7] g26 e27 (fun a32 g30 e31 =>
                              hT a32 = some hZ ∧ hci d 100 [.ref 1043, .ref a28, .ref a32, .int 0] g30 e31 (fun x36 g34 e35 =>
                                hwi d zm_X7_heldByRow k X 7 [(0, .ref 1000), (1, .int l1), (2, .int (l2 ||| (1 <<< (x7 &&& 31)))), (3, .int (l3 + x36)), (4, .int (l4 + 1))] g34 e35) X) X) X)
                        (k (-1) g23 e24)) X) X) X) X)
              (k (-1) g9 e10))) X) X)) X) : hwi d zm_X7_heldByRow k X 7 [(0, .ref 1000), (1, .int l1), (2, .int l2), (3, .int l3), (4, .int l4)] g e := by
  refine zq_iload (pc' := 9) rfl rfl rfl rfl ?_
  refine zq_aload (pc' := 10) rfl rfl rfl rfl ?_
  obtain ⟨hr1, H⟩ := H
  refine zq_getR (pc' := 13) rfl rfl rfl (hp_gR rfl) ?_
  refine hq_calli (pc' := 16) rfl rfl rfl rfl rfl rfl h_Xi ?_
  refine hmonoi H ?_
  intro x4 g2 e3 H
  refine zq_icge (pc' := 19) rfl rfl rfl rfl (And.intro (fun c => ?_) (fun c => ?_))
  · have H := H.1 c
    refine zq_iload (pc' := 109) rfl rfl rfl rfl ?_
    exact zq_iret rfl trivial (Exists.intro _ (Exists.intro _ (And.intro rfl H)))
  · have H := H.2 c
    refine zq_aload (pc' := 20) rfl rfl rfl rfl ?_
    refine zq_iload (pc' := 21) rfl rfl rfl rfl ?_
    refine zq_iload (pc' := 23) rfl rfl rfl rfl ?_
    refine hq_calli (pc' := 26) rfl rfl rfl rfl rfl rfl h_Xi ?_
    refine hmonoi H ?_
    intro x7 g5 e6 H
    refine zq_istore (pc' := 28) rfl rfl rfl ?_
    refine zq_iload (pc' := 30) rfl rfl rfl rfl ?_
    refine zq_aload (pc' := 31) rfl rfl rfl rfl ?_
    obtain ⟨hr8, H⟩ := H
    refine zq_getR (pc' := 34) rfl rfl rfl (hp_gR rfl) ?_
    refine hq_calli (pc' := 37) rfl rfl rfl rfl rfl rfl h_Xi ?_
    refine hmonoi H ?_
    intro x11 g9 e10 H
    refine zq_icge (pc' := 40) rfl rfl rfl rfl (And.intro (fun c => ?_) (fun c => ?_))
    · have H := H.1 c
      refine zq_ipushn (pc' := 71) rfl rfl rfl ?_
      exact zq_iret rfl trivial (Exists.intro _ (Exists.intro _ (And.intro rfl H)))
    · have H := H.2 c
      refine zq_iload (pc' := 41) rfl rfl rfl rfl ?_
      refine zq_iload (pc' := 43) rfl rfl rfl rfl ?_
      refine zq_ishr (pc' := 44) rfl rfl rfl ?_
      refine zq_ipush (pc' := 45) rfl rfl rfl ?_
      refine zq_iand (pc' := 46) rfl rfl rfl ?_
      refine zq_ifne (pc' := 49) rfl rfl rfl rfl (And.intro (fun c => ?_) (fun c => ?_))
      · have H := H.1 c
        refine zq_aload (pc' := 50) rfl rfl rfl rfl ?_
        refine zq_iload (pc' := 52) rfl rfl rfl rfl ?_
        refine hq_callr (pc' := 55) rfl rfl rfl rfl rfl rfl h_Xi ?_
        refine hmonor H ?_
        intro a14 g12 e13 H
        obtain ⟨hx15, H⟩ := H
        refine hq_calli (pc' := 58) rfl rfl rfl rfl rfl rfl h_Xi ?_
        refine hmonoi H ?_
        intro x18 g16 e17 H
        refine zq_aload (pc' := 59) rfl rfl rfl rfl ?_
        refine zq_iload (pc' := 61) rfl rfl rfl rfl ?_
        refine hq_callr (pc' := 64) rfl rfl rfl rfl rfl rfl h_Xi ?_
        refine hmonor H ?_
        intro a21 g19 e20 H
        obtain ⟨hx22, H⟩ := H
        refine hq_calli (pc' := 67) rfl rfl rfl rfl rfl rfl h_Xi ?_
        refine hmonoi H ?_
        intro x25 g23 e24 H
        refine zq_iceq (pc' := 70) rfl rfl rfl rfl (And.intro (fun c => ?_) (fun c => ?_))
        · have H := H.1 c
          refine zq_iload (pc' := 73) rfl rfl rfl rfl ?_
          refine zq_ipush (pc' := 74) rfl rfl rfl ?_
          refine zq_iload (pc' := 76) rfl rfl rfl rfl ?_
          refine zq_ishl (pc' := 77) rfl rfl rfl ?_
          refine zq_ior (pc' := 78) rfl rfl rfl ?_
          refine zq_istore (pc' := 79) rfl rfl rfl ?_
          refine zq_iload (pc' := 80) rfl rfl rfl rfl ?_
          refine zq_aload (pc' := 81) rfl rfl rfl rfl ?_
          refine zq_getR (pc' := 84) rfl rfl rfl (hp_gC rfl) ?_
          refine zq_aload (pc' := 85) rfl rfl rfl rfl ?_
          refine zq_iload (pc' := 87) rfl rfl rfl rfl ?_
          refine hq_callr (pc' := 90) rfl rfl rfl rfl rfl rfl h_Xi ?_
          refine hmonor H ?_
          intro a28 g26 e27 H
          obtain ⟨hx29, H⟩ := H
          refine zq_aload (pc' := 91) rfl rfl rfl rfl ?_
          refine zq_iload (pc' := 93) rfl rfl rfl rfl ?_
          refine hq_callr (pc' := 96) rfl rfl rfl rfl rfl rfl h_Xi ?_
          refine hmonor H ?_
          intro a32 g30 e31 H
          obtain ⟨hx33, H⟩ := H
          refine zq_ipush (pc' := 97) rfl rfl rfl ?_
          refine hq_calli (pc' := 100) rfl rfl rfl rfl rfl rfl h_Xi ?_
          refine hmonoi H ?_
          intro x36 g34 e35 H
          refine zq_iadd (pc' := 101) rfl rfl rfl ?_
          refine zq_istore (pc' := 102) rfl rfl rfl ?_
          refine zq_iinc (pc' := 105) rfl rfl rfl rfl ?_
          refine zq_goto_c (pc' := 7) rfl rfl ?_
          exact H
        · have H := H.2 c
          refine zq_ipushn (pc' := 71) rfl rfl rfl ?_
          exact zq_iret rfl trivial (Exists.intro _ (Exists.intro _ (And.intro rfl H)))
      · have H := H.2 c
        refine zq_ipushn (pc' := 71) rfl rfl rfl ?_
        exact zq_iret rfl trivial (Exists.intro _ (Exists.intro _ (And.intro rfl H)))
theorem zh_X7_toPinch {d : Nat} {k : Int32 → hG → hE → Prop} {X : Nat → hG → hE → Prop} {p1 : Int32} {p2 : Int32} {g : hG} {e : hE} (H :
    hcr d 207 [.ref 1000, .int p1] g e (fun a3 g1 e2 =>
      hT a3 = some hZ ∧ hcv d 205 [.int p2, .int 1, .int 60] g1 e2 (fun g5 e6 =>
        hci d 212 [.ref 1000, .ref a3, .int p2] g5 e6 (fun x9 g7 e8 =>
          hwi d zm_X7_toPinch k X 27 [(0, .ref 1000), (1, .int p1), (2, .int p2), (4, .int x9), (5, .int (-1)), (6, .int 0)] g7 e8) X) X) X) : hci (d + 1) 179 [.ref 1000, .int p1, .int p2] g e k X := by
  refine hent (M := zm_X7_toPinch) (show hT 1000 = some (.inr _) from rfl) rfl rfl rfl rfl rfl ?_
  refine zq_aload (pc' := 1) rfl rfl rfl rfl ?_
  refine zq_iload (pc' := 2) rfl rfl rfl rfl ?_
  refine hq_callr (pc' := 5) rfl rfl rfl rfl rfl rfl h_Xi ?_
  refine hmonor H ?_
  intro a3 g1 e2 H
  obtain ⟨hx4, H⟩ := H
  refine zq_astore (pc' := 6) rfl rfl rfl ?_
  refine zq_iload (pc' := 7) rfl rfl rfl rfl ?_
  refine zq_ipush (pc' := 8) rfl rfl rfl ?_
  refine zq_ipush (pc' := 10) rfl rfl rfl ?_
  refine hq_callv (pc' := 13) rfl rfl rfl rfl rfl rfl h_Xi ?_
  refine hmonov H ?_
  intro g5 e6 H
  refine zq_aload (pc' := 14) rfl rfl rfl rfl ?_
  refine zq_aload (pc' := 15) rfl rfl rfl rfl ?_
  refine zq_iload (pc' := 16) rfl rfl rfl rfl ?_
  refine hq_calli (pc' := 19) rfl rfl rfl rfl rfl rfl h_Xi ?_
  refine hmonoi H ?_
  intro x9 g7 e8 H
  refine zq_istore (pc' := 21) rfl rfl rfl ?_
  refine zq_ipushn (pc' := 22) rfl rfl rfl ?_
  refine zq_istore (pc' := 24) rfl rfl rfl ?_
  refine zq_ipush (pc' := 25) rfl rfl rfl ?_
  refine zq_istore_c (pc' := 27) rfl rfl ?_
  exact H
theorem zh_X7_toPinch_27 {d : Nat} {k : Int32 → hG → hE → Prop} {X : Nat → hG → hE → Prop} {l1 : Int32} {l2 : Int32} {l4 : Int32} {l5 : Int32} {l6 : Int32} {g : hG} {e : hE} (H :
    hcr d 201 [.ref 1000, .int l1] g e (fun a3 g1 e2 =>
      hT a3 = some hZ ∧ hci d 112 [.ref a3] g1 e2 (fun x7 g5 e6 =>
        zbr (x7 ≤ l6)
        (k l5 g5 e6)
        (hcr d 207 [.ref 1000, .int l1] g5 e6 (fun a10 g8 e9 =>
            hT a10 = some hZ ∧ hcv d 130 [.ref a10, .int 0, .int l6] g8 e9 (fun g12 e13 =>
              hcv d 130 [.ref a10, .int 1, .int l6] g12 e13 (fun g14 e15 =>
                hci d 212 [.ref 1000, .ref a10, .int l2] g14 e15 (fun x18 g16 e17 =>
                  zbr (x18 ≤ l4)
                  (hwi d zm_X7_toPinch k X 27 [(0, .ref 1000), (1, .int l1), (2, .int l2), (4, .int l4), (5, .int l5), (6, .int (l6 + 1))] g16 e17)
                  (hwi d zm_X7_toPinch k X 27 [(0, .ref 1000), (1, .int l1), (2, .int l2), (4, .int x18), (5, .int l6), (6, .int (l6 + 1))] g16 e17)) X) X) X) X)) X) X) : hwi d zm_X7_toPinch k X 27 [(0, .ref 1000), (1, .int l1), (2, .int l2), (4, .int l4), (5, .int l5), (6, .int l6)] g e := by
  refine zq_iload (pc' := 29) rfl rfl rfl rfl ?_
  refine zq_aload (pc' := 30) rfl rfl rfl rfl ?_
  refine zq_iload (pc' := 31) rfl rfl rfl rfl ?_
  refine hq_callr (pc' := 34) rfl rfl rfl rfl rfl rfl h_Xi ?_
  refine hmonor H ?_
  intro a3 g1 e2 H
  obtain ⟨hx4, H⟩ := H
  refine hq_calli (pc' := 37) rfl rfl rfl rfl rfl rfl h_Xi ?_
  refine hmonoi H ?_
  intro x7 g5 e6 H
  refine zq_icge (pc' := 40) rfl rfl rfl rfl (And.intro (fun c => ?_) (fun c => ?_))
  · have H := H.1 c
    refine zq_iload (pc' := 95) rfl rfl rfl rfl ?_
    exact zq_iret rfl trivial (Exists.intro _ (Exists.intro _ (And.intro rfl H)))
  · have H := H.2 c
    refine zq_aload (pc' := 41) rfl rfl rfl rfl ?_
    refine zq_iload (pc' := 42) rfl rfl rfl rfl ?_
    refine hq_callr (pc' := 45) rfl rfl rfl rfl rfl rfl h_Xi ?_
    refine hmonor H ?_
    intro a10 g8 e9 H
    obtain ⟨hx11, H⟩ := H
    refine zq_astore (pc' := 47) rfl rfl rfl ?_
    refine zq_aload (pc' := 49) rfl rfl rfl rfl ?_
    refine zq_ipush (pc' := 50) rfl rfl rfl ?_
    refine zq_iload (pc' := 52) rfl rfl rfl rfl ?_
    refine hq_callv (pc' := 55) rfl rfl rfl rfl rfl rfl h_Xi ?_
    refine hmonov H ?_
    intro g12 e13 H
    refine zq_aload (pc' := 57) rfl rfl rfl rfl ?_
    refine zq_ipush (pc' := 58) rfl rfl rfl ?_
    refine zq_iload (pc' := 60) rfl rfl rfl rfl ?_
    refine hq_callv (pc' := 63) rfl rfl rfl rfl rfl rfl h_Xi ?_
    refine hmonov H ?_
    intro g14 e15 H
    refine zq_aload (pc' := 64) rfl rfl rfl rfl ?_
    refine zq_aload (pc' := 66) rfl rfl rfl rfl ?_
    refine zq_iload (pc' := 67) rfl rfl rfl rfl ?_
    refine hq_calli (pc' := 70) rfl rfl rfl rfl rfl rfl h_Xi ?_
    refine hmonoi H ?_
    intro x18 g16 e17 H
    refine zq_istore (pc' := 72) rfl rfl rfl ?_
    refine zq_iload (pc' := 74) rfl rfl rfl rfl ?_
    refine zq_iload (pc' := 76) rfl rfl rfl rfl ?_
    refine zq_icle (pc' := 79) rfl rfl rfl rfl (And.intro (fun c => ?_) (fun c => ?_))
    · have H := H.1 c
      refine zq_iinc (pc' := 90) rfl rfl rfl rfl ?_
      refine zq_goto_c (pc' := 27) rfl rfl ?_
      exact H
    · have H := H.2 c
      refine zq_iload (pc' := 81) rfl rfl rfl rfl ?_
      refine zq_istore (pc' := 83) rfl rfl rfl ?_
      refine zq_iload (pc' := 85) rfl rfl rfl rfl ?_
      refine zq_istore (pc' := 87) rfl rfl rfl ?_
      refine zq_iinc (pc' := 90) rfl rfl rfl rfl ?_
      refine zq_goto_c (pc' := 27) rfl rfl ?_
      exact H
theorem zh_X7_toSlide {d : Nat} {k : Int32 → hG → hE → Prop} {X : Nat → hG → hE → Prop} {p1 : Int32} {p2 : Int32} {p3 : Int32} {g : hG} {e : hE} (H :
    hcr d 201 [.ref 1000, .int p1] g e (fun a3 g1 e2 =>
      hT a3 = some hZ ∧ hcv d 204 [.int p3, .int 2] g1 e2 (fun g5 e6 =>
        hcv d 205 [.int p2, .int 1, .int 60] g5 e6 (fun g7 e8 =>
          hwi d zm_X7_toSlide k X 28 [(0, .ref 1000), (1, .int p1), (2, .int p2), (3, .int p3), (4, .ref a3), (5, .int (-1)), (6, .int 0), (7, .int 0)] g7 e8) X) X) X) : hci (d + 1) 180 [.ref 1000, .int p1, .int p2, .int p3] g e k X := by
  refine hent (M := zm_X7_toSlide) (show hT 1000 = some (.inr _) from rfl) rfl rfl rfl rfl rfl ?_
  refine zq_aload (pc' := 1) rfl rfl rfl rfl ?_
  refine zq_iload (pc' := 2) rfl rfl rfl rfl ?_
  refine hq_callr (pc' := 5) rfl rfl rfl rfl rfl rfl h_Xi ?_
  refine hmonor H ?_
  intro a3 g1 e2 H
  obtain ⟨hx4, H⟩ := H
  refine zq_astore (pc' := 7) rfl rfl rfl ?_
  refine zq_iload (pc' := 8) rfl rfl rfl rfl ?_
  refine zq_ipush (pc' := 9) rfl rfl rfl ?_
  refine hq_callv (pc' := 12) rfl rfl rfl rfl rfl rfl h_Xi ?_
  refine hmonov H ?_
  intro g5 e6 H
  refine zq_iload (pc' := 13) rfl rfl rfl rfl ?_
  refine zq_ipush (pc' := 14) rfl rfl rfl ?_
  refine zq_ipush (pc' := 16) rfl rfl rfl ?_
  refine hq_callv (pc' := 19) rfl rfl rfl rfl rfl rfl h_Xi ?_
  refine hmonov H ?_
  intro g7 e8 H
  refine zq_ipushn (pc' := 20) rfl rfl rfl ?_
  refine zq_istore (pc' := 22) rfl rfl rfl ?_
  refine zq_ipush (pc' := 23) rfl rfl rfl ?_
  refine zq_istore (pc' := 25) rfl rfl rfl ?_
  refine zq_ipush (pc' := 26) rfl rfl rfl ?_
  refine zq_istore_c (pc' := 28) rfl rfl ?_
  exact H
theorem zh_X7_toSlide_28 {d : Nat} {k : Int32 → hG → hE → Prop} {X : Nat → hG → hE → Prop} {l1 : Int32} {l2 : Int32} {l3 : Int32} {l4 : Nat} (hl4 : hT l4 = some hZ) {l5 : Int32} {l6 : Int32} {l7 : Int32} {g : hG} {e : hE} (H :
    hci d 112 [.ref l4] g e (fun x3 g1 e2 =>
      zbr (x3 < l7)
      (zbr (l3 = 0)
        (k l6 g1 e2)
        (k l5 g1 e2))
      (hcr d 207 [.ref 1000, .int l1] g1 e2 (fun a6 g4 e5 =>
          hT a6 = some hZ ∧ hcv d 126 [.ref a6, .int l7] g4 e5 (fun g8 e9 =>
            hci d 212 [.ref 1000, .ref a6, .int l2] g8 e9 (fun x12 g10 e11 =>
              zbr (x12 ≤ l5)
              (hwi d zm_X7_toSlide k X 28 [(0, .ref 1000), (1, .int l1), (2, .int l2), (3, .int l3), (4, .ref l4), (5, .int l5), (6, .int l6), (7, .int (l7 + 1))] g10 e11)
              (hwi d zm_X7_toSlide k X 28 [(0, .ref 1000), (1, .int l1), (2, .int l2), (3, .int l3), (4, .ref l4), (5, .int x12), (6, .int l7), (7, .int (l7 + 1))] g10 e11)) X) X) X)) X) : hwi d zm_X7_toSlide k X 28 [(0, .ref 1000), (1, .int l1), (2, .int l2), (3, .int l3), (4, .ref l4), (5, .int l5), (6, .int l6), (7, .int l7)] g e := by
  refine zq_iload (pc' := 30) rfl rfl rfl rfl ?_
  refine zq_aload (pc' := 32) rfl rfl rfl rfl ?_
  refine hq_calli (pc' := 35) rfl rfl rfl rfl rfl rfl h_Xi ?_
  refine hmonoi H ?_
  intro x3 g1 e2 H
  refine zq_icgt (pc' := 38) rfl rfl rfl rfl (And.intro (fun c => ?_) (fun c => ?_))
  · have H := H.1 c
    refine zq_iload (pc' := 83) rfl rfl rfl rfl ?_
    refine zq_ifne (pc' := 86) rfl rfl rfl rfl (And.intro (fun c => ?_) (fun c => ?_))
    · have H := H.1 c
      refine zq_iload (pc' := 88) rfl rfl rfl rfl ?_
      refine zq_goto (pc' := 93) rfl rfl rfl ?_
      exact zq_iret rfl trivial (Exists.intro _ (Exists.intro _ (And.intro rfl H)))
    · have H := H.2 c
      refine zq_iload (pc' := 93) rfl rfl rfl rfl ?_
      exact zq_iret rfl trivial (Exists.intro _ (Exists.intro _ (And.intro rfl H)))
  · have H := H.2 c
    refine zq_aload (pc' := 39) rfl rfl rfl rfl ?_
    refine zq_iload (pc' := 40) rfl rfl rfl rfl ?_
    refine hq_callr (pc' := 43) rfl rfl rfl rfl rfl rfl h_Xi ?_
    refine hmonor H ?_
    intro a6 g4 e5 H
    obtain ⟨hx7, H⟩ := H
    refine zq_astore (pc' := 45) rfl rfl rfl ?_
    refine zq_aload (pc' := 47) rfl rfl rfl rfl ?_
    refine zq_iload (pc' := 49) rfl rfl rfl rfl ?_
    refine hq_callv (pc' := 52) rfl rfl rfl rfl rfl rfl h_Xi ?_
    refine hmonov H ?_
    intro g8 e9 H
    refine zq_aload (pc' := 53) rfl rfl rfl rfl ?_
    refine zq_aload (pc' := 55) rfl rfl rfl rfl ?_
    refine zq_iload (pc' := 56) rfl rfl rfl rfl ?_
    refine hq_calli (pc' := 59) rfl rfl rfl rfl rfl rfl h_Xi ?_
    refine hmonoi H ?_
    intro x12 g10 e11 H
    refine zq_istore (pc' := 61) rfl rfl rfl ?_
    refine zq_iload (pc' := 63) rfl rfl rfl rfl ?_
    refine zq_iload (pc' := 65) rfl rfl rfl rfl ?_
    refine zq_icle (pc' := 68) rfl rfl rfl rfl (And.intro (fun c => ?_) (fun c => ?_))
    · have H := H.1 c
      refine zq_iinc (pc' := 79) rfl rfl rfl rfl ?_
      refine zq_goto_c (pc' := 28) rfl rfl ?_
      exact H
    · have H := H.2 c
      refine zq_iload (pc' := 70) rfl rfl rfl rfl ?_
      refine zq_istore (pc' := 72) rfl rfl rfl ?_
      refine zq_iload (pc' := 74) rfl rfl rfl rfl ?_
      refine zq_istore (pc' := 76) rfl rfl rfl ?_
      refine zq_iinc (pc' := 79) rfl rfl rfl rfl ?_
      refine zq_goto_c (pc' := 28) rfl rfl ?_
      exact H
theorem zh_X7_toSet {d : Nat} {k : Int32 → hG → hE → Prop} {X : Nat → hG → hE → Prop} {p1 : Int32} {p2 : Int32} {g : hG} {e : hE} (H :
    hcr d 201 [.ref 1000, .int p1] g e (fun a3 g1 e2 =>
      hT a3 = some hZ ∧ hcv d 205 [.int p2, .int 1, .int 60] g1 e2 (fun g5 e6 =>
        hwi d zm_X7_toSet k X 22 [(0, .ref 1000), (1, .int p1), (2, .int p2), (3, .ref a3), (4, .int (-1)), (5, .int (-1)), (6, .int 0)] g5 e6) X) X) : hci (d + 1) 181 [.ref 1000, .int p1, .int p2] g e k X := by
  refine hent (M := zm_X7_toSet) (show hT 1000 = some (.inr _) from rfl) rfl rfl rfl rfl rfl ?_
  refine zq_aload (pc' := 1) rfl rfl rfl rfl ?_
  refine zq_iload (pc' := 2) rfl rfl rfl rfl ?_
  refine hq_callr (pc' := 5) rfl rfl rfl rfl rfl rfl h_Xi ?_
  refine hmonor H ?_
  intro a3 g1 e2 H
  obtain ⟨hx4, H⟩ := H
  refine zq_astore (pc' := 6) rfl rfl rfl ?_
  refine zq_iload (pc' := 7) rfl rfl rfl rfl ?_
  refine zq_ipush (pc' := 8) rfl rfl rfl ?_
  refine zq_ipush (pc' := 10) rfl rfl rfl ?_
  refine hq_callv (pc' := 13) rfl rfl rfl rfl rfl rfl h_Xi ?_
  refine hmonov H ?_
  intro g5 e6 H
  refine zq_ipushn (pc' := 14) rfl rfl rfl ?_
  refine zq_istore (pc' := 16) rfl rfl rfl ?_
  refine zq_ipushn (pc' := 17) rfl rfl rfl ?_
  refine zq_istore (pc' := 19) rfl rfl rfl ?_
  refine zq_ipush (pc' := 20) rfl rfl rfl ?_
  refine zq_istore_c (pc' := 22) rfl rfl ?_
  exact H
theorem zh_X7_toSet_22 {d : Nat} {k : Int32 → hG → hE → Prop} {X : Nat → hG → hE → Prop} {l1 : Int32} {l2 : Int32} {l3 : Nat} (hl3 : hT l3 = some hZ) {l4 : Int32} {l5 : Int32} {l6 : Int32} {g : hG} {e : hE} (H :
    hci d 112 [.ref l3] g e (fun x3 g1 e2 =>
      zbr (x3 ≤ l6)
      (k l5 g1 e2)
      (hci d 120 [.ref l3, .int l6] g1 e2 (fun x6 g4 e5 =>
          zbr (x6 = 0)
          (hcr d 207 [.ref 1000, .int l1] g4 e5 (fun a9 g7 e8 =>
              hT a9 = some hZ ∧ hcv d 133 [.ref a9, .int l6] g7 e8 (fun g11 e12 =>
                hcv d 127 [.ref a9] g11 e12 (fun g13 e14 =>
                  hci d 212 [.ref 1000, .ref a9, .int l2] g13 e14 (fun x17 g15 e16 =>
                    zbr (x17 ≤ l4)
                    (hwi d zm_X7_toSet k X 22 [(0, .ref 1000), (1, .int l1), (2, .int l2), (3, .ref l3), (4, .int l4), (5, .int l5), (6, .int (l6 + 1))] g15 e16)
                    (hwi d zm_X7_toSet k X 22 [(0, .ref 1000), (1, .int l1), (2, .int l2), (3, .ref l3), (4, .int x17), (5, .int l6), (6, .int (l6 + 1))] g15 e16)) X) X) X) X)
          (hwi d zm_X7_toSet k X 22 [(0, .ref 1000), (1, .int l1), (2, .int l2), (3, .ref l3), (4, .int l4), (5, .int l5), (6, .int (l6 + 1))] g4 e5)) X)) X) : hwi d zm_X7_toSet k X 22 [(0, .ref 1000), (1, .int l1), (2, .int l2), (3, .ref l3), (4, .int l4), (5, .int l5), (6, .int l6)] g e := by
  refine zq_iload (pc' := 24) rfl rfl rfl rfl ?_
  refine zq_aload (pc' := 25) rfl rfl rfl rfl ?_
  refine hq_calli (pc' := 28) rfl rfl rfl rfl rfl rfl h_Xi ?_
  refine hmonoi H ?_
  intro x3 g1 e2 H
  refine zq_icge (pc' := 31) rfl rfl rfl rfl (And.intro (fun c => ?_) (fun c => ?_))
  · have H := H.1 c
    refine zq_iload (pc' := 91) rfl rfl rfl rfl ?_
    exact zq_iret rfl trivial (Exists.intro _ (Exists.intro _ (And.intro rfl H)))
  · have H := H.2 c
    refine zq_aload (pc' := 32) rfl rfl rfl rfl ?_
    refine zq_iload (pc' := 34) rfl rfl rfl rfl ?_
    refine hq_calli (pc' := 37) rfl rfl rfl rfl rfl rfl h_Xi ?_
    refine hmonoi H ?_
    intro x6 g4 e5 H
    refine zq_ifne (pc' := 40) rfl rfl rfl rfl (And.intro (fun c => ?_) (fun c => ?_))
    · have H := H.1 c
      refine zq_aload (pc' := 41) rfl rfl rfl rfl ?_
      refine zq_iload (pc' := 42) rfl rfl rfl rfl ?_
      refine hq_callr (pc' := 45) rfl rfl rfl rfl rfl rfl h_Xi ?_
      refine hmonor H ?_
      intro a9 g7 e8 H
      obtain ⟨hx10, H⟩ := H
      refine zq_astore (pc' := 47) rfl rfl rfl ?_
      refine zq_aload (pc' := 49) rfl rfl rfl rfl ?_
      refine zq_iload (pc' := 51) rfl rfl rfl rfl ?_
      refine hq_callv (pc' := 54) rfl rfl rfl rfl rfl rfl h_Xi ?_
      refine hmonov H ?_
      intro g11 e12 H
      refine zq_aload (pc' := 56) rfl rfl rfl rfl ?_
      refine hq_callv (pc' := 59) rfl rfl rfl rfl rfl rfl h_Xi ?_
      refine hmonov H ?_
      intro g13 e14 H
      refine zq_aload (pc' := 60) rfl rfl rfl rfl ?_
      refine zq_aload (pc' := 62) rfl rfl rfl rfl ?_
      refine zq_iload (pc' := 63) rfl rfl rfl rfl ?_
      refine hq_calli (pc' := 66) rfl rfl rfl rfl rfl rfl h_Xi ?_
      refine hmonoi H ?_
      intro x17 g15 e16 H
      refine zq_istore (pc' := 68) rfl rfl rfl ?_
      refine zq_iload (pc' := 70) rfl rfl rfl rfl ?_
      refine zq_iload (pc' := 72) rfl rfl rfl rfl ?_
      refine zq_icle (pc' := 75) rfl rfl rfl rfl (And.intro (fun c => ?_) (fun c => ?_))
      · have H := H.1 c
        refine zq_iinc (pc' := 86) rfl rfl rfl rfl ?_
        refine zq_goto_c (pc' := 22) rfl rfl ?_
        exact H
      · have H := H.2 c
        refine zq_iload (pc' := 77) rfl rfl rfl rfl ?_
        refine zq_istore (pc' := 79) rfl rfl rfl ?_
        refine zq_iload (pc' := 81) rfl rfl rfl rfl ?_
        refine zq_istore (pc' := 83) rfl rfl rfl ?_
        refine zq_iinc (pc' := 86) rfl rfl rfl rfl ?_
        refine zq_goto_c (pc' := 22) rfl rfl ?_
        exact H
    · have H := H.2 c
      refine zq_iinc (pc' := 86) rfl rfl rfl rfl ?_
      refine zq_goto_c (pc' := 22) rfl rfl ?_
      exact H
theorem zh_X7_note {d : Nat} {k : Int32 → hG → hE → Prop} {X : Nat → hG → hE → Prop} {p1 : Int32} {p2 : Int32} {p3 : Int32} {p4 : Int32} {g : hG} {e : hE} (H :
    hcr d 201 [.ref 1000, .int p1] g e (fun a3 g1 e2 =>
      hT a3 = some hZ ∧ hcv d 202 [.ref a3, .int p2] g1 e2 (fun g5 e6 =>
        zbr (p3 < 0)
        (hcv d 20 [.ref 1027, .int 2] g5 e6 (fun g7 e8 =>
            k (-1) g7 e8) X)
        (zbr (20 < p3)
          (hcv d 20 [.ref 1027, .int 2] g5 e6 (fun g9 e10 =>
              k (-1) g9 e10) X)
          (hci d 30 [.ref 1027, .int p1, .int p2, .int p3, .int p4] g5 e6 (fun x13 g11 e12 =>
              zbr (x13 = 0)
              (hcv d 20 [.ref 1027, .int 2] g11 e12 (fun g14 e15 =>
                  k (-1) g14 e15) X)
              (hci d 18 [.ref 1027] g11 e12 (fun x18 g16 e17 =>
                  k x18 g16 e17) X)) X))) X) X) : hci (d + 1) 182 [.ref 1000, .int p1, .int p2, .int p3, .int p4] g e k X := by
  refine hent (M := zm_X7_note) (show hT 1000 = some (.inr _) from rfl) rfl rfl rfl rfl rfl ?_
  refine zq_aload (pc' := 1) rfl rfl rfl rfl ?_
  refine zq_iload (pc' := 2) rfl rfl rfl rfl ?_
  refine hq_callr (pc' := 5) rfl rfl rfl rfl rfl rfl h_Xi ?_
  refine hmonor H ?_
  intro a3 g1 e2 H
  obtain ⟨hx4, H⟩ := H
  refine zq_iload (pc' := 6) rfl rfl rfl rfl ?_
  refine hq_callv (pc' := 9) rfl rfl rfl rfl rfl rfl h_Xi ?_
  refine hmonov H ?_
  intro g5 e6 H
  refine zq_iload (pc' := 10) rfl rfl rfl rfl ?_
  refine zq_iflt (pc' := 13) rfl rfl rfl rfl (And.intro (fun c => ?_) (fun c => ?_))
  · have H := H.1 c
    refine zq_aload (pc' := 35) rfl rfl rfl rfl ?_
    refine zq_getR (pc' := 38) rfl rfl rfl (hp_gC rfl) ?_
    refine zq_ipush (pc' := 39) rfl rfl rfl ?_
    refine hq_callv (pc' := 42) rfl rfl rfl rfl rfl rfl h_Xi ?_
    refine hmonov H ?_
    intro g7 e8 H
    refine zq_ipushn (pc' := 43) rfl rfl rfl ?_
    exact zq_iret rfl trivial (Exists.intro _ (Exists.intro _ (And.intro rfl H)))
  · have H := H.2 c
    refine zq_iload (pc' := 14) rfl rfl rfl rfl ?_
    refine zq_ipush (pc' := 16) rfl rfl rfl ?_
    refine zq_icgt (pc' := 19) rfl rfl rfl rfl (And.intro (fun c => ?_) (fun c => ?_))
    · have H := H.1 c
      refine zq_aload (pc' := 35) rfl rfl rfl rfl ?_
      refine zq_getR (pc' := 38) rfl rfl rfl (hp_gC rfl) ?_
      refine zq_ipush (pc' := 39) rfl rfl rfl ?_
      refine hq_callv (pc' := 42) rfl rfl rfl rfl rfl rfl h_Xi ?_
      refine hmonov H ?_
      intro g9 e10 H
      refine zq_ipushn (pc' := 43) rfl rfl rfl ?_
      exact zq_iret rfl trivial (Exists.intro _ (Exists.intro _ (And.intro rfl H)))
    · have H := H.2 c
      refine zq_aload (pc' := 20) rfl rfl rfl rfl ?_
      refine zq_getR (pc' := 23) rfl rfl rfl (hp_gC rfl) ?_
      refine zq_iload (pc' := 24) rfl rfl rfl rfl ?_
      refine zq_iload (pc' := 25) rfl rfl rfl rfl ?_
      refine zq_iload (pc' := 26) rfl rfl rfl rfl ?_
      refine zq_iload (pc' := 28) rfl rfl rfl rfl ?_
      refine hq_calli (pc' := 31) rfl rfl rfl rfl rfl rfl h_Xi ?_
      refine hmonoi H ?_
      intro x13 g11 e12 H
      refine zq_ifne (pc' := 34) rfl rfl rfl rfl (And.intro (fun c => ?_) (fun c => ?_))
      · have H := H.1 c
        refine zq_aload (pc' := 35) rfl rfl rfl rfl ?_
        refine zq_getR (pc' := 38) rfl rfl rfl (hp_gC rfl) ?_
        refine zq_ipush (pc' := 39) rfl rfl rfl ?_
        refine hq_callv (pc' := 42) rfl rfl rfl rfl rfl rfl h_Xi ?_
        refine hmonov H ?_
        intro g14 e15 H
        refine zq_ipushn (pc' := 43) rfl rfl rfl ?_
        exact zq_iret rfl trivial (Exists.intro _ (Exists.intro _ (And.intro rfl H)))
      · have H := H.2 c
        refine zq_aload (pc' := 45) rfl rfl rfl rfl ?_
        refine zq_getR (pc' := 48) rfl rfl rfl (hp_gC rfl) ?_
        refine hq_calli (pc' := 51) rfl rfl rfl rfl rfl rfl h_Xi ?_
        refine hmonoi H ?_
        intro x18 g16 e17 H
        exact zq_iret rfl trivial (Exists.intro _ (Exists.intro _ (And.intro rfl H)))
theorem zh_X7_forced {d : Nat} {k : Int32 → hG → hE → Prop} {X : Nat → hG → hE → Prop} {p1 : Int32} {g : hG} {e : hE} (H :
    hcv d 204 [.int p1, .int 3] g e (fun g1 e2 =>
      zbr (p1 = 2)
      (hci d 185 [.ref 1000] g1 e2 (fun x5 g3 e4 =>
          zbr (x5 = 0)
          (k 0 g3 e4)
          (k 1 g3 e4)) X)
      (hwi d zm_X7_forced k X 27 [(0, .ref 1000), (1, .int p1), (2, .int 0), (3, .int 0)] g1 e2)) X) : hci (d + 1) 183 [.ref 1000, .int p1] g e k X := by
  refine hent (M := zm_X7_forced) (show hT 1000 = some (.inr _) from rfl) rfl rfl rfl rfl rfl ?_
  refine zq_iload (pc' := 1) rfl rfl rfl rfl ?_
  refine zq_ipush (pc' := 2) rfl rfl rfl ?_
  refine hq_callv (pc' := 5) rfl rfl rfl rfl rfl rfl h_Xi ?_
  refine hmonov H ?_
  intro g1 e2 H
  refine zq_iload (pc' := 6) rfl rfl rfl rfl ?_
  refine zq_ipush (pc' := 7) rfl rfl rfl ?_
  refine zq_icne (pc' := 10) rfl rfl rfl rfl (And.intro (fun c => ?_) (fun c => ?_))
  · have H := H.1 c
    refine zq_aload (pc' := 11) rfl rfl rfl rfl ?_
    refine hq_calli (pc' := 14) rfl rfl rfl rfl rfl rfl h_Xi ?_
    refine hmonoi H ?_
    intro x5 g3 e4 H
    refine zq_ifeq (pc' := 17) rfl rfl rfl rfl (And.intro (fun c => ?_) (fun c => ?_))
    · have H := H.1 c
      refine zq_ipush (pc' := 22) rfl rfl rfl ?_
      exact zq_iret rfl trivial (Exists.intro _ (Exists.intro _ (And.intro rfl H)))
    · have H := H.2 c
      refine zq_ipush (pc' := 18) rfl rfl rfl ?_
      refine zq_goto (pc' := 22) rfl rfl rfl ?_
      exact zq_iret rfl trivial (Exists.intro _ (Exists.intro _ (And.intro rfl H)))
  · have H := H.2 c
    refine zq_ipush (pc' := 24) rfl rfl rfl ?_
    refine zq_istore (pc' := 25) rfl rfl rfl ?_
    refine zq_ipush (pc' := 26) rfl rfl rfl ?_
    refine zq_istore_c (pc' := 27) rfl rfl ?_
    exact H
theorem zh_X7_forced_27 {d : Nat} {k : Int32 → hG → hE → Prop} {X : Nat → hG → hE → Prop} {l1 : Int32} {l2 : Int32} {l3 : Int32} {g : hG} {e : hE} (H :
    hD (g.2.2 1000 2) ∧ 
    hci d 51 [.ref (g.2.2 1000 2)] g e (fun x4 g2 e3 =>
      zbr ((10 * x4) ≤ l3)
      (zbr (l1 = 0)
        (k l2 g2 e3)
        (k (-1) g2 e3))
      (hci d 184 [.ref 1000, .int l3] g2 e3 (fun x7 g5 e6 =>
          zbr (x7 = 0)
          (hwi d zm_X7_forced k X 27 [(0, .ref 1000), (1, .int l1), (2, .int l2), (3, .int (l3 + 1))] g5 e6)
          (zbr (l1 = 1)
            (k l3 g5 e6)
            (hwi d zm_X7_forced k X 27 [(0, .ref 1000), (1, .int l1), (2, .int (l2 + 1)), (3, .int (l3 + 1))] g5 e6))) X)) X) : hwi d zm_X7_forced k X 27 [(0, .ref 1000), (1, .int l1), (2, .int l2), (3, .int l3)] g e := by
  refine zq_iload (pc' := 28) rfl rfl rfl rfl ?_
  refine zq_ipush (pc' := 30) rfl rfl rfl ?_
  refine zq_aload (pc' := 31) rfl rfl rfl rfl ?_
  obtain ⟨hr1, H⟩ := H
  refine zq_getR (pc' := 34) rfl rfl rfl (hp_gR rfl) ?_
  refine hq_calli (pc' := 37) rfl rfl rfl rfl rfl rfl h_Xi ?_
  refine hmonoi H ?_
  intro x4 g2 e3 H
  refine zq_imul (pc' := 38) rfl rfl rfl ?_
  refine zq_icge (pc' := 41) rfl rfl rfl rfl (And.intro (fun c => ?_) (fun c => ?_))
  · have H := H.1 c
    refine zq_iload (pc' := 66) rfl rfl rfl rfl ?_
    refine zq_ifne (pc' := 69) rfl rfl rfl rfl (And.intro (fun c => ?_) (fun c => ?_))
    · have H := H.1 c
      refine zq_iload (pc' := 70) rfl rfl rfl rfl ?_
      refine zq_goto (pc' := 74) rfl rfl rfl ?_
      exact zq_iret rfl trivial (Exists.intro _ (Exists.intro _ (And.intro rfl H)))
    · have H := H.2 c
      refine zq_ipushn (pc' := 74) rfl rfl rfl ?_
      exact zq_iret rfl trivial (Exists.intro _ (Exists.intro _ (And.intro rfl H)))
  · have H := H.2 c
    refine zq_aload (pc' := 42) rfl rfl rfl rfl ?_
    refine zq_iload (pc' := 43) rfl rfl rfl rfl ?_
    refine hq_calli (pc' := 46) rfl rfl rfl rfl rfl rfl h_Xi ?_
    refine hmonoi H ?_
    intro x7 g5 e6 H
    refine zq_ifeq (pc' := 49) rfl rfl rfl rfl (And.intro (fun c => ?_) (fun c => ?_))
    · have H := H.1 c
      refine zq_iinc (pc' := 62) rfl rfl rfl rfl ?_
      refine zq_goto_c (pc' := 27) rfl rfl ?_
      exact H
    · have H := H.2 c
      refine zq_iload (pc' := 50) rfl rfl rfl rfl ?_
      refine zq_ipush (pc' := 51) rfl rfl rfl ?_
      refine zq_icne (pc' := 54) rfl rfl rfl rfl (And.intro (fun c => ?_) (fun c => ?_))
      · have H := H.1 c
        refine zq_iload (pc' := 55) rfl rfl rfl rfl ?_
        exact zq_iret rfl trivial (Exists.intro _ (Exists.intro _ (And.intro rfl H)))
      · have H := H.2 c
        refine zq_iinc (pc' := 59) rfl rfl rfl rfl ?_
        refine zq_iinc (pc' := 62) rfl rfl rfl rfl ?_
        refine zq_goto_c (pc' := 27) rfl rfl ?_
        exact H
theorem zh_X7_isForced {d : Nat} {k : Int32 → hG → hE → Prop} {X : Nat → hG → hE → Prop} {p1 : Int32} {g : hG} {e : hE} (H :
    hD (g.2.2 1000 2) ∧ 
    hci d 52 [.ref (g.2.2 1000 2), .int (p1 / 10)] g e (fun x4 g2 e3 =>
      zbr (x4 = (p1 - p1 / 10 * 10))
      (k 0 g2 e3)
      (hwi d zm_X7_isForced k X 27 [(0, .ref 1000), (2, .int (p1 / 10)), (3, .int (p1 - p1 / 10 * 10)), (4, .int 0)] g2 e3)) X) : hci (d + 1) 184 [.ref 1000, .int p1] g e k X := by
  refine hent (M := zm_X7_isForced) (show hT 1000 = some (.inr _) from rfl) rfl rfl rfl rfl rfl ?_
  refine zq_iload (pc' := 1) rfl rfl rfl rfl ?_
  refine zq_ipush (pc' := 3) rfl rfl rfl ?_
  refine zq_idiv (pc' := 4) rfl rfl rfl (by decide) ?_
  refine zq_istore (pc' := 5) rfl rfl rfl ?_
  refine zq_iload (pc' := 6) rfl rfl rfl rfl ?_
  refine zq_ipush (pc' := 8) rfl rfl rfl ?_
  refine zq_irem (pc' := 9) rfl rfl rfl (by decide) ?_
  refine zq_istore (pc' := 10) rfl rfl rfl ?_
  refine zq_aload (pc' := 11) rfl rfl rfl rfl ?_
  obtain ⟨hr1, H⟩ := H
  refine zq_getR (pc' := 14) rfl rfl rfl (hp_gR rfl) ?_
  refine zq_iload (pc' := 15) rfl rfl rfl rfl ?_
  refine hq_calli (pc' := 18) rfl rfl rfl rfl rfl rfl h_Xi ?_
  refine hmonoi H ?_
  intro x4 g2 e3 H
  refine zq_iload (pc' := 19) rfl rfl rfl rfl ?_
  refine zq_icne (pc' := 22) rfl rfl rfl rfl (And.intro (fun c => ?_) (fun c => ?_))
  · have H := H.1 c
    refine zq_ipush (pc' := 23) rfl rfl rfl ?_
    exact zq_iret rfl (Or.inl rfl) (Exists.intro _ (Exists.intro _ (And.intro rfl H)))
  · have H := H.2 c
    refine zq_ipush (pc' := 25) rfl rfl rfl ?_
    refine zq_istore_c (pc' := 27) rfl rfl ?_
    exact H
theorem zh_X7_isForced_27 {d : Nat} {k : Int32 → hG → hE → Prop} {X : Nat → hG → hE → Prop} {l2 : Int32} {l3 : Int32} {l4 : Int32} {g : hG} {e : hE} (H :
    hD (g.2.2 1000 2) ∧ 
    hci d 46 [.ref (g.2.2 1000 2)] g e (fun x4 g2 e3 =>
      zbr (x4 ≤ l4)
      (k 1 g2 e3)
      (hci d 186 [.ref 1000, .int l4, .int l2, .int l3] g2 e3 (fun x7 g5 e6 =>
          zbr (x7 = 0)
          (k 0 g5 e6)
          (hwi d zm_X7_isForced k X 27 [(0, .ref 1000), (2, .int l2), (3, .int l3), (4, .int (l4 + 1))] g5 e6)) X)) X) : hwi d zm_X7_isForced k X 27 [(0, .ref 1000), (2, .int l2), (3, .int l3), (4, .int l4)] g e := by
  refine zq_iload (pc' := 29) rfl rfl rfl rfl ?_
  refine zq_aload (pc' := 30) rfl rfl rfl rfl ?_
  obtain ⟨hr1, H⟩ := H
  refine zq_getR (pc' := 33) rfl rfl rfl (hp_gR rfl) ?_
  refine hq_calli (pc' := 36) rfl rfl rfl rfl rfl rfl h_Xi ?_
  refine hmonoi H ?_
  intro x4 g2 e3 H
  refine zq_icge (pc' := 39) rfl rfl rfl rfl (And.intro (fun c => ?_) (fun c => ?_))
  · have H := H.1 c
    refine zq_ipush (pc' := 59) rfl rfl rfl ?_
    exact zq_iret rfl (Or.inr rfl) (Exists.intro _ (Exists.intro _ (And.intro rfl H)))
  · have H := H.2 c
    refine zq_aload (pc' := 40) rfl rfl rfl rfl ?_
    refine zq_iload (pc' := 42) rfl rfl rfl rfl ?_
    refine zq_iload (pc' := 43) rfl rfl rfl rfl ?_
    refine zq_iload (pc' := 44) rfl rfl rfl rfl ?_
    refine hq_calli (pc' := 47) rfl rfl rfl rfl rfl rfl h_Xi ?_
    refine hmonoi H ?_
    intro x7 g5 e6 H
    refine zq_ifne (pc' := 50) rfl rfl rfl rfl (And.intro (fun c => ?_) (fun c => ?_))
    · have H := H.1 c
      refine zq_ipush (pc' := 51) rfl rfl rfl ?_
      exact zq_iret rfl (Or.inl rfl) (Exists.intro _ (Exists.intro _ (And.intro rfl H)))
    · have H := H.2 c
      refine zq_iinc (pc' := 55) rfl rfl rfl rfl ?_
      refine zq_goto_c (pc' := 27) rfl rfl ?_
      exact H
theorem zh_X7_isSoWithout {d : Nat} {k : Int32 → hG → hE → Prop} {X : Nat → hG → hE → Prop}  {g : hG} {e : hE} (H :
    hwi d zm_X7_isSoWithout k X 2 [(0, .ref 1000), (1, .int 0)] g e) : hci (d + 1) 185 [.ref 1000] g e k X := by
  refine hent (M := zm_X7_isSoWithout) (show hT 1000 = some (.inr _) from rfl) rfl rfl rfl rfl rfl ?_
  refine zq_ipush (pc' := 1) rfl rfl rfl ?_
  refine zq_istore_c (pc' := 2) rfl rfl ?_
  exact H
theorem zh_X7_isSoWithout_2 {d : Nat} {k : Int32 → hG → hE → Prop} {X : Nat → hG → hE → Prop} {l1 : Int32} {g : hG} {e : hE} (H :
    hD (g.2.2 1000 2) ∧ 
    hci d 46 [.ref (g.2.2 1000 2)] g e (fun x4 g2 e3 =>
      zbr (x4 ≤ l1)
      (k 1 g2 e3)
      (hci d 186 [.ref 1000, .int l1, .int (-1), .int 0] g2 e3 (fun x7 g5 e6 =>
          zbr (x7 = 0)
          (k 0 g5 e6)
          (hwi d zm_X7_isSoWithout k X 2 [(0, .ref 1000), (1, .int (l1 + 1))] g5 e6)) X)) X) : hwi d zm_X7_isSoWithout k X 2 [(0, .ref 1000), (1, .int l1)] g e := by
  refine zq_iload (pc' := 3) rfl rfl rfl rfl ?_
  refine zq_aload (pc' := 4) rfl rfl rfl rfl ?_
  obtain ⟨hr1, H⟩ := H
  refine zq_getR (pc' := 7) rfl rfl rfl (hp_gR rfl) ?_
  refine hq_calli (pc' := 10) rfl rfl rfl rfl rfl rfl h_Xi ?_
  refine hmonoi H ?_
  intro x4 g2 e3 H
  refine zq_icge (pc' := 13) rfl rfl rfl rfl (And.intro (fun c => ?_) (fun c => ?_))
  · have H := H.1 c
    refine zq_ipush (pc' := 32) rfl rfl rfl ?_
    exact zq_iret rfl (Or.inr rfl) (Exists.intro _ (Exists.intro _ (And.intro rfl H)))
  · have H := H.2 c
    refine zq_aload (pc' := 14) rfl rfl rfl rfl ?_
    refine zq_iload (pc' := 15) rfl rfl rfl rfl ?_
    refine zq_ipushn (pc' := 16) rfl rfl rfl ?_
    refine zq_ipush (pc' := 17) rfl rfl rfl ?_
    refine hq_calli (pc' := 20) rfl rfl rfl rfl rfl rfl h_Xi ?_
    refine hmonoi H ?_
    intro x7 g5 e6 H
    refine zq_ifne (pc' := 23) rfl rfl rfl rfl (And.intro (fun c => ?_) (fun c => ?_))
    · have H := H.1 c
      refine zq_ipush (pc' := 24) rfl rfl rfl ?_
      exact zq_iret rfl (Or.inl rfl) (Exists.intro _ (Exists.intro _ (And.intro rfl H)))
    · have H := H.2 c
      refine zq_iinc (pc' := 28) rfl rfl rfl rfl ?_
      refine zq_goto_c (pc' := 2) rfl rfl ?_
      exact H
theorem zh_X7_notedSo {d : Nat} {k : Int32 → hG → hE → Prop} {X : Nat → hG → hE → Prop} {p1 : Int32} {p2 : Int32} {p3 : Int32} {g : hG} {e : hE} (H :
    hci d 31 [.ref 1027, .int p1] g e (fun x3 g1 e2 =>
      hcr d 207 [.ref 1000, .int p1] g1 e2 (fun a6 g4 e5 =>
        hT a6 = some hZ ∧ hwi d zm_X7_notedSo k X 20 [(0, .ref 1000), (1, .int p1), (2, .int p2), (3, .int p3), (4, .int x3), (5, .ref a6), (6, .int 0)] g4 e5) X) X) : hci (d + 1) 186 [.ref 1000, .int p1, .int p2, .int p3] g e k X := by
  refine hent (M := zm_X7_notedSo) (show hT 1000 = some (.inr _) from rfl) rfl rfl rfl rfl rfl ?_
  refine zq_aload (pc' := 1) rfl rfl rfl rfl ?_
  refine zq_getR (pc' := 4) rfl rfl rfl (hp_gC rfl) ?_
  refine zq_iload (pc' := 5) rfl rfl rfl rfl ?_
  refine hq_calli (pc' := 8) rfl rfl rfl rfl rfl rfl h_Xi ?_
  refine hmonoi H ?_
  intro x3 g1 e2 H
  refine zq_istore (pc' := 10) rfl rfl rfl ?_
  refine zq_aload (pc' := 11) rfl rfl rfl rfl ?_
  refine zq_iload (pc' := 12) rfl rfl rfl rfl ?_
  refine hq_callr (pc' := 15) rfl rfl rfl rfl rfl rfl h_Xi ?_
  refine hmonor H ?_
  intro a6 g4 e5 H
  obtain ⟨hx7, H⟩ := H
  refine zq_astore (pc' := 17) rfl rfl rfl ?_
  refine zq_ipush (pc' := 18) rfl rfl rfl ?_
  refine zq_istore_c (pc' := 20) rfl rfl ?_
  exact H
theorem zh_X7_notedSo_20 {d : Nat} {k : Int32 → hG → hE → Prop} {X : Nat → hG → hE → Prop} {l1 : Int32} {l2 : Int32} {l3 : Int32} {l4 : Int32} {l5 : Nat} (hl5 : hT l5 = some hZ) {l6 : Int32} {g : hG} {e : hE} (H :
    zbr (l4 < l6)
    (k 1 g e)
    (hci d 115 [.ref l5] g e (fun x3 g1 e2 =>
        hci d 32 [.ref 1027, .int l1, .int l6, .int x3] g1 e2 (fun x6 g4 e5 =>
          zbr (x6 = 0)
          (k 0 g4 e5)
          (hD (g4.2.2 1000 2) ∧ 
            hci d 49 [.ref (g4.2.2 1000 2)] g4 e5 (fun x10 g8 e9 =>
              zbr (l4 ≤ l6)
              (hwi d zm_X7_notedSo k X 20 [(0, .ref 1000), (1, .int l1), (2, .int l2), (3, .int l3), (4, .int l4), (5, .ref l5), (6, .int (l6 + 1))] g8 e9)
              (hD (g8.2.2 1000 2) ∧ 
                hD (g8.2.2 1000 2) ∧ 
                hci d 54 [.ref (g8.2.2 1000 2), .int (x10 + l6), .int l2, .int l3] g8 e9 (fun x15 g13 e14 =>
                  hci d 58 [.ref (g8.2.2 1000 2), .ref l5, .int x15, .int (x10 + l6)] g13 e14 (fun x18 g16 e17 =>
                    hwi d zm_X7_notedSo k X 20 [(0, .ref 1000), (1, .int l1), (2, .int l2), (3, .int l3), (4, .int l4), (5, .ref l5), (6, .int (l6 + 1))] g16 e17) X) X)) X)) X) X)) : hwi d zm_X7_notedSo k X 20 [(0, .ref 1000), (1, .int l1), (2, .int l2), (3, .int l3), (4, .int l4), (5, .ref l5), (6, .int l6)] g e := by
  refine zq_iload (pc' := 22) rfl rfl rfl rfl ?_
  refine zq_iload (pc' := 24) rfl rfl rfl rfl ?_
  refine zq_icgt (pc' := 27) rfl rfl rfl rfl (And.intro (fun c => ?_) (fun c => ?_))
  · have H := H.1 c
    refine zq_ipush (pc' := 96) rfl rfl rfl ?_
    exact zq_iret rfl (Or.inr rfl) (Exists.intro _ (Exists.intro _ (And.intro rfl H)))
  · have H := H.2 c
    refine zq_aload (pc' := 28) rfl rfl rfl rfl ?_
    refine zq_getR (pc' := 31) rfl rfl rfl (hp_gC rfl) ?_
    refine zq_iload (pc' := 32) rfl rfl rfl rfl ?_
    refine zq_iload (pc' := 34) rfl rfl rfl rfl ?_
    refine zq_aload (pc' := 36) rfl rfl rfl rfl ?_
    refine hq_calli (pc' := 39) rfl rfl rfl rfl rfl rfl h_Xi ?_
    refine hmonoi H ?_
    intro x3 g1 e2 H
    refine hq_calli (pc' := 42) rfl rfl rfl rfl rfl rfl h_Xi ?_
    refine hmonoi H ?_
    intro x6 g4 e5 H
    refine zq_ifne (pc' := 45) rfl rfl rfl rfl (And.intro (fun c => ?_) (fun c => ?_))
    · have H := H.1 c
      refine zq_ipush (pc' := 46) rfl rfl rfl ?_
      exact zq_iret rfl (Or.inl rfl) (Exists.intro _ (Exists.intro _ (And.intro rfl H)))
    · have H := H.2 c
      refine zq_aload (pc' := 48) rfl rfl rfl rfl ?_
      obtain ⟨hr7, H⟩ := H
      refine zq_getR (pc' := 51) rfl rfl rfl (hp_gR rfl) ?_
      refine hq_calli (pc' := 54) rfl rfl rfl rfl rfl rfl h_Xi ?_
      refine hmonoi H ?_
      intro x10 g8 e9 H
      refine zq_iload (pc' := 56) rfl rfl rfl rfl ?_
      refine zq_iadd (pc' := 57) rfl rfl rfl ?_
      refine zq_istore (pc' := 59) rfl rfl rfl ?_
      refine zq_iload (pc' := 61) rfl rfl rfl rfl ?_
      refine zq_iload (pc' := 63) rfl rfl rfl rfl ?_
      refine zq_icge (pc' := 66) rfl rfl rfl rfl (And.intro (fun c => ?_) (fun c => ?_))
      · have H := H.1 c
        refine zq_iinc (pc' := 92) rfl rfl rfl rfl ?_
        refine zq_goto_c (pc' := 20) rfl rfl ?_
        exact H
      · have H := H.2 c
        refine zq_aload (pc' := 67) rfl rfl rfl rfl ?_
        obtain ⟨hr11, H⟩ := H
        refine zq_getR (pc' := 70) rfl rfl rfl (hp_gR rfl) ?_
        refine zq_aload (pc' := 72) rfl rfl rfl rfl ?_
        refine zq_aload (pc' := 73) rfl rfl rfl rfl ?_
        obtain ⟨hr12, H⟩ := H
        refine zq_getR (pc' := 76) rfl rfl rfl (hp_gR rfl) ?_
        refine zq_iload (pc' := 78) rfl rfl rfl rfl ?_
        refine zq_iload (pc' := 79) rfl rfl rfl rfl ?_
        refine zq_iload (pc' := 80) rfl rfl rfl rfl ?_
        refine hq_calli (pc' := 83) rfl rfl rfl rfl rfl rfl h_Xi ?_
        refine hmonoi H ?_
        intro x15 g13 e14 H
        refine zq_iload (pc' := 85) rfl rfl rfl rfl ?_
        refine hq_calli (pc' := 88) rfl rfl rfl rfl rfl rfl h_Xi ?_
        refine hmonoi H ?_
        intro x18 g16 e17 H
        refine zq_pop (pc' := 89) rfl rfl rfl rfl ?_
        refine zq_iinc (pc' := 92) rfl rfl rfl rfl ?_
        refine zq_goto_c (pc' := 20) rfl rfl ?_
        exact H
theorem zh_X7_look {d : Nat} {k : Int32 → hG → hE → Prop} {X : Nat → hG → hE → Prop} {p1 : Int32} {g : hG} {e : hE} (H :
    hcv d 204 [.int p1, .int 2] g e (fun g1 e2 =>
      hcv d 188 [.ref 1000] g1 e2 (fun g3 e4 =>
        hwi d zm_X7_look k X 16 [(0, .ref 1000), (1, .int p1), (2, .int 0), (3, .int (-1)), (4, .int 0)] g3 e4) X) X) : hci (d + 1) 187 [.ref 1000, .int p1] g e k X := by
  refine hent (M := zm_X7_look) (show hT 1000 = some (.inr _) from rfl) rfl rfl rfl rfl rfl ?_
  refine zq_iload (pc' := 1) rfl rfl rfl rfl ?_
  refine zq_ipush (pc' := 2) rfl rfl rfl ?_
  refine hq_callv (pc' := 5) rfl rfl rfl rfl rfl rfl h_Xi ?_
  refine hmonov H ?_
  intro g1 e2 H
  refine zq_aload (pc' := 6) rfl rfl rfl rfl ?_
  refine hq_callv (pc' := 9) rfl rfl rfl rfl rfl rfl h_Xi ?_
  refine hmonov H ?_
  intro g3 e4 H
  refine zq_ipush (pc' := 10) rfl rfl rfl ?_
  refine zq_istore (pc' := 11) rfl rfl rfl ?_
  refine zq_ipushn (pc' := 12) rfl rfl rfl ?_
  refine zq_istore (pc' := 13) rfl rfl rfl ?_
  refine zq_ipush (pc' := 14) rfl rfl rfl ?_
  refine zq_istore_c (pc' := 16) rfl rfl ?_
  exact H
theorem zh_X7_look_16 {d : Nat} {k : Int32 → hG → hE → Prop} {X : Nat → hG → hE → Prop} {l1 : Int32} {l2 : Int32} {l3 : Int32} {l4 : Int32} {g : hG} {e : hE} (H :
    hD (g.2.2 1000 2) ∧ 
    hci d 46 [.ref (g.2.2 1000 2)] g e (fun x4 g2 e3 =>
      zbr (x4 ≤ l4)
      (zbr (l1 = 0)
        (k l3 g2 e3)
        (k l2 g2 e3))
      (zbr ((nI 4) ≤ l4)
        (zbr (l1 = 0)
          (k l3 g2 e3)
          (k l2 g2 e3))
        (hin l4 4 ∧
          hci d 0 [.int (g2.1 1042 l4.toNatClampNeg)] g2 e3 (fun x8 g6 e7 =>
            zbr (x8 ≤ l2)
            (hwi d zm_X7_look k X 16 [(0, .ref 1000), (1, .int l1), (2, .int l2), (3, .int l3), (4, .int (l4 + 1))] g6 e7)
            (hwi d zm_X7_look k X 16 [(0, .ref 1000), (1, .int l1), (2, .int x8), (3, .int l4), (4, .int (l4 + 1))] g6 e7)) X))) X) : hwi d zm_X7_look k X 16 [(0, .ref 1000), (1, .int l1), (2, .int l2), (3, .int l3), (4, .int l4)] g e := by
  refine zq_iload (pc' := 18) rfl rfl rfl rfl ?_
  refine zq_aload (pc' := 19) rfl rfl rfl rfl ?_
  obtain ⟨hr1, H⟩ := H
  refine zq_getR (pc' := 22) rfl rfl rfl (hp_gR rfl) ?_
  refine hq_calli (pc' := 25) rfl rfl rfl rfl rfl rfl h_Xi ?_
  refine hmonoi H ?_
  intro x4 g2 e3 H
  refine zq_icge (pc' := 28) rfl rfl rfl rfl (And.intro (fun c => ?_) (fun c => ?_))
  · have H := H.1 c
    refine zq_iload (pc' := 69) rfl rfl rfl rfl ?_
    refine zq_ifne (pc' := 72) rfl rfl rfl rfl (And.intro (fun c => ?_) (fun c => ?_))
    · have H := H.1 c
      refine zq_iload (pc' := 73) rfl rfl rfl rfl ?_
      refine zq_goto (pc' := 77) rfl rfl rfl ?_
      exact zq_iret rfl trivial (Exists.intro _ (Exists.intro _ (And.intro rfl H)))
    · have H := H.2 c
      refine zq_iload (pc' := 77) rfl rfl rfl rfl ?_
      exact zq_iret rfl trivial (Exists.intro _ (Exists.intro _ (And.intro rfl H)))
  · have H := H.2 c
    refine zq_iload (pc' := 30) rfl rfl rfl rfl ?_
    refine zq_aload (pc' := 31) rfl rfl rfl rfl ?_
    refine zq_getR (pc' := 34) rfl rfl rfl (hp_gC rfl) ?_
    refine zq_alen (pc' := 35) rfl rfl rfl (hp_al rfl rfl) ?_
    refine zq_icge (pc' := 38) rfl rfl rfl rfl (And.intro (fun c => ?_) (fun c => ?_))
    · have H := H.1 c
      refine zq_iload (pc' := 69) rfl rfl rfl rfl ?_
      refine zq_ifne (pc' := 72) rfl rfl rfl rfl (And.intro (fun c => ?_) (fun c => ?_))
      · have H := H.1 c
        refine zq_iload (pc' := 73) rfl rfl rfl rfl ?_
        refine zq_goto (pc' := 77) rfl rfl rfl ?_
        exact zq_iret rfl trivial (Exists.intro _ (Exists.intro _ (And.intro rfl H)))
      · have H := H.2 c
        refine zq_iload (pc' := 77) rfl rfl rfl rfl ?_
        exact zq_iret rfl trivial (Exists.intro _ (Exists.intro _ (And.intro rfl H)))
    · have H := H.2 c
      refine zq_aload (pc' := 39) rfl rfl rfl rfl ?_
      refine zq_getR (pc' := 42) rfl rfl rfl (hp_gC rfl) ?_
      refine zq_iload (pc' := 44) rfl rfl rfl rfl ?_
      obtain ⟨hi5, H⟩ := H
      refine zq_iald (pc' := 45) rfl rfl rfl (hp_ia rfl hi5) ?_
      refine hq_calli (pc' := 48) rfl rfl rfl rfl rfl rfl h_Xi ?_
      refine hmonoi H ?_
      intro x8 g6 e7 H
      refine zq_istore (pc' := 50) rfl rfl rfl ?_
      refine zq_iload (pc' := 52) rfl rfl rfl rfl ?_
      refine zq_iload (pc' := 53) rfl rfl rfl rfl ?_
      refine zq_icle (pc' := 56) rfl rfl rfl rfl (And.intro (fun c => ?_) (fun c => ?_))
      · have H := H.1 c
        refine zq_iinc (pc' := 65) rfl rfl rfl rfl ?_
        refine zq_goto_c (pc' := 16) rfl rfl ?_
        exact H
      · have H := H.2 c
        refine zq_iload (pc' := 58) rfl rfl rfl rfl ?_
        refine zq_istore (pc' := 59) rfl rfl rfl ?_
        refine zq_iload (pc' := 61) rfl rfl rfl rfl ?_
        refine zq_istore (pc' := 62) rfl rfl rfl ?_
        refine zq_iinc (pc' := 65) rfl rfl rfl rfl ?_
        refine zq_goto_c (pc' := 16) rfl rfl ?_
        exact H
theorem zh_X7_seeNumbers {d : Nat} {k : hG → hE → Prop} {X : Nat → hG → hE → Prop}  {g : hG} {e : hE} (H :
    hwv d zm_X7_seeNumbers k X 2 [(0, .ref 1000), (1, .int 0)] g e) : hcv (d + 1) 188 [.ref 1000] g e k X := by
  refine hent (M := zm_X7_seeNumbers) (show hT 1000 = some (.inr _) from rfl) rfl rfl rfl rfl rfl ?_
  refine zq_ipush (pc' := 1) rfl rfl rfl ?_
  refine zq_istore_c (pc' := 2) rfl rfl ?_
  exact H
theorem zh_X7_seeNumbers_2 {d : Nat} {k : hG → hE → Prop} {X : Nat → hG → hE → Prop} {l1 : Int32} {g : hG} {e : hE} (H :
    zbr ((nI 4) ≤ l1)
    (hwv d zm_X7_seeNumbers k X 26 [(0, .ref 1000), (1, .int 0)] g e)
    (hin l1 4 ∧
      hwv d zm_X7_seeNumbers k X 2 [(0, .ref 1000), (1, .int (l1 + 1))] (sI g 1042 l1.toNatClampNeg 0) e)) : hwv d zm_X7_seeNumbers k X 2 [(0, .ref 1000), (1, .int l1)] g e := by
  refine zq_iload (pc' := 3) rfl rfl rfl rfl ?_
  refine zq_aload (pc' := 4) rfl rfl rfl rfl ?_
  refine zq_getR (pc' := 7) rfl rfl rfl (hp_gC rfl) ?_
  refine zq_alen (pc' := 8) rfl rfl rfl (hp_al rfl rfl) ?_
  refine zq_icge (pc' := 11) rfl rfl rfl rfl (And.intro (fun c => ?_) (fun c => ?_))
  · have H := H.1 c
    refine zq_ipush (pc' := 25) rfl rfl rfl ?_
    refine zq_istore_c (pc' := 26) rfl rfl ?_
    exact H
  · have H := H.2 c
    refine zq_aload (pc' := 12) rfl rfl rfl rfl ?_
    refine zq_getR (pc' := 15) rfl rfl rfl (hp_gC rfl) ?_
    refine zq_iload (pc' := 16) rfl rfl rfl rfl ?_
    refine zq_ipush (pc' := 17) rfl rfl rfl ?_
    obtain ⟨hi1, H⟩ := H
    refine zq_iast (pc' := 18) rfl rfl rfl (hp_is rfl hi1) ?_
    refine zq_iinc (pc' := 21) rfl rfl rfl rfl ?_
    refine zq_goto_c (pc' := 2) rfl rfl ?_
    exact H
theorem zh_X7_seeNumbers_26 {d : Nat} {k : hG → hE → Prop} {X : Nat → hG → hE → Prop} {l1 : Int32} {g : hG} {e : hE} (H :
    hD (g.2.2 1000 2) ∧ 
    hci d 51 [.ref (g.2.2 1000 2)] g e (fun x4 g2 e3 =>
      zbr ((10 * x4) ≤ l1)
      (k g2 e3)
      (hci d 184 [.ref 1000, .int l1] g2 e3 (fun x7 g5 e6 =>
          zbr (x7 = 0)
          (hwv d zm_X7_seeNumbers k X 26 [(0, .ref 1000), (1, .int (l1 + 1))] g5 e6)
          (hwv d zm_X7_seeNumbers k X 50 [(0, .ref 1000), (1, .int l1), (2, .int 0)] g5 e6)) X)) X) : hwv d zm_X7_seeNumbers k X 26 [(0, .ref 1000), (1, .int l1)] g e := by
  refine zq_iload (pc' := 27) rfl rfl rfl rfl ?_
  refine zq_ipush (pc' := 29) rfl rfl rfl ?_
  refine zq_aload (pc' := 30) rfl rfl rfl rfl ?_
  obtain ⟨hr1, H⟩ := H
  refine zq_getR (pc' := 33) rfl rfl rfl (hp_gR rfl) ?_
  refine hq_calli (pc' := 36) rfl rfl rfl rfl rfl rfl h_Xv ?_
  refine hmonoi H ?_
  intro x4 g2 e3 H
  refine zq_imul (pc' := 37) rfl rfl rfl ?_
  refine zq_icge (pc' := 40) rfl rfl rfl rfl (And.intro (fun c => ?_) (fun c => ?_))
  · have H := H.1 c
    exact zq_vret rfl (Exists.intro _ (Exists.intro _ (And.intro rfl H)))
  · have H := H.2 c
    refine zq_aload (pc' := 41) rfl rfl rfl rfl ?_
    refine zq_iload (pc' := 42) rfl rfl rfl rfl ?_
    refine hq_calli (pc' := 45) rfl rfl rfl rfl rfl rfl h_Xv ?_
    refine hmonoi H ?_
    intro x7 g5 e6 H
    refine zq_ifeq (pc' := 48) rfl rfl rfl rfl (And.intro (fun c => ?_) (fun c => ?_))
    · have H := H.1 c
      refine zq_iinc (pc' := 103) rfl rfl rfl rfl ?_
      refine zq_goto_c (pc' := 26) rfl rfl ?_
      exact H
    · have H := H.2 c
      refine zq_ipush (pc' := 49) rfl rfl rfl ?_
      refine zq_istore_c (pc' := 50) rfl rfl ?_
      exact H
theorem zh_X7_seeNumbers_50 {d : Nat} {k : hG → hE → Prop} {X : Nat → hG → hE → Prop} {l1 : Int32} {l2 : Int32} {g : hG} {e : hE} (H :
    hD (g.2.2 1000 2) ∧ 
    hci d 46 [.ref (g.2.2 1000 2)] g e (fun x4 g2 e3 =>
      zbr (x4 ≤ l2)
      (hwv d zm_X7_seeNumbers k X 26 [(0, .ref 1000), (1, .int (l1 + 1))] g2 e3)
      (zbr ((nI 4) ≤ l2)
        (hwv d zm_X7_seeNumbers k X 26 [(0, .ref 1000), (1, .int (l1 + 1))] g2 e3)
        (hin l2 4 ∧
          hci d 189 [.ref 1000, .int l2, .int (l1 / 10), .int (l1 - l1 / 10 * 10)] g2 e3 (fun x8 g6 e7 =>
            hin l2 4 ∧
            hwv d zm_X7_seeNumbers k X 50 [(0, .ref 1000), (1, .int l1), (2, .int (l2 + 1))] (sI g6 1042 l2.toNatClampNeg ((g2.1 1042 l2.toNatClampNeg) ||| (1 <<< (x8 &&& 31)))) e7) X))) X) : hwv d zm_X7_seeNumbers k X 50 [(0, .ref 1000), (1, .int l1), (2, .int l2)] g e := by
  refine zq_iload (pc' := 51) rfl rfl rfl rfl ?_
  refine zq_aload (pc' := 52) rfl rfl rfl rfl ?_
  obtain ⟨hr1, H⟩ := H
  refine zq_getR (pc' := 55) rfl rfl rfl (hp_gR rfl) ?_
  refine hq_calli (pc' := 58) rfl rfl rfl rfl rfl rfl h_Xv ?_
  refine hmonoi H ?_
  intro x4 g2 e3 H
  refine zq_icge (pc' := 61) rfl rfl rfl rfl (And.intro (fun c => ?_) (fun c => ?_))
  · have H := H.1 c
    refine zq_iinc (pc' := 103) rfl rfl rfl rfl ?_
    refine zq_goto_c (pc' := 26) rfl rfl ?_
    exact H
  · have H := H.2 c
    refine zq_iload (pc' := 62) rfl rfl rfl rfl ?_
    refine zq_aload (pc' := 63) rfl rfl rfl rfl ?_
    refine zq_getR (pc' := 66) rfl rfl rfl (hp_gC rfl) ?_
    refine zq_alen (pc' := 67) rfl rfl rfl (hp_al rfl rfl) ?_
    refine zq_icge (pc' := 70) rfl rfl rfl rfl (And.intro (fun c => ?_) (fun c => ?_))
    · have H := H.1 c
      refine zq_iinc (pc' := 103) rfl rfl rfl rfl ?_
      refine zq_goto_c (pc' := 26) rfl rfl ?_
      exact H
    · have H := H.2 c
      refine zq_aload (pc' := 71) rfl rfl rfl rfl ?_
      refine zq_getR (pc' := 74) rfl rfl rfl (hp_gC rfl) ?_
      refine zq_iload (pc' := 75) rfl rfl rfl rfl ?_
      refine zq_dup2 (pc' := 76) rfl rfl rfl rfl rfl ?_
      obtain ⟨hi5, H⟩ := H
      refine zq_iald (pc' := 77) rfl rfl rfl (hp_ia rfl hi5) ?_
      refine zq_ipush (pc' := 78) rfl rfl rfl ?_
      refine zq_aload (pc' := 79) rfl rfl rfl rfl ?_
      refine zq_iload (pc' := 80) rfl rfl rfl rfl ?_
      refine zq_iload (pc' := 81) rfl rfl rfl rfl ?_
      refine zq_ipush (pc' := 83) rfl rfl rfl ?_
      refine zq_idiv (pc' := 84) rfl rfl rfl (by decide) ?_
      refine zq_iload (pc' := 85) rfl rfl rfl rfl ?_
      refine zq_ipush (pc' := 87) rfl rfl rfl ?_
      refine zq_irem (pc' := 88) rfl rfl rfl (by decide) ?_
      refine hq_calli (pc' := 91) rfl rfl rfl rfl rfl rfl h_Xv ?_
      refine hmonoi H ?_
      intro x8 g6 e7 H
      refine zq_ishl (pc' := 92) rfl rfl rfl ?_
      refine zq_ior (pc' := 93) rfl rfl rfl ?_
      obtain ⟨hi9, H⟩ := H
      refine zq_iast (pc' := 94) rfl rfl rfl (hp_is rfl hi9) ?_
      refine zq_iinc (pc' := 97) rfl rfl rfl rfl ?_
      refine zq_goto_c (pc' := 50) rfl rfl ?_
      exact H
theorem zh_X7_closedWith {d : Nat} {k : Int32 → hG → hE → Prop} {X : Nat → hG → hE → Prop} {p1 : Int32} {p2 : Int32} {p3 : Int32} {g : hG} {e : hE} (H :
    hcr d 207 [.ref 1000, .int p1] g e (fun a3 g1 e2 =>
      hT a3 = some hZ ∧ hwi d zm_X7_closedWith k X 10 [(0, .ref 1000), (2, .int p2), (3, .int p3), (4, .ref a3), (5, .int 0)] g1 e2) X) : hci (d + 1) 189 [.ref 1000, .int p1, .int p2, .int p3] g e k X := by
  refine hent (M := zm_X7_closedWith) (show hT 1000 = some (.inr _) from rfl) rfl rfl rfl rfl rfl ?_
  refine zq_aload (pc' := 1) rfl rfl rfl rfl ?_
  refine zq_iload (pc' := 2) rfl rfl rfl rfl ?_
  refine hq_callr (pc' := 5) rfl rfl rfl rfl rfl rfl h_Xi ?_
  refine hmonor H ?_
  intro a3 g1 e2 H
  obtain ⟨hx4, H⟩ := H
  refine zq_astore (pc' := 7) rfl rfl rfl ?_
  refine zq_ipush (pc' := 8) rfl rfl rfl ?_
  refine zq_istore_c (pc' := 10) rfl rfl ?_
  exact H
theorem zh_X7_closedWith_10 {d : Nat} {k : Int32 → hG → hE → Prop} {X : Nat → hG → hE → Prop} {l2 : Int32} {l3 : Int32} {l4 : Nat} (hl4 : hT l4 = some hZ) {l5 : Int32} {g : hG} {e : hE} (H :
    zbr (6 ≤ l5)
    (hci d 116 [.ref l4] g e (fun x3 g1 e2 =>
        k x3 g1 e2) X)
    (hD (g.2.2 1000 2) ∧ 
      hci d 49 [.ref (g.2.2 1000 2)] g e (fun x7 g5 e6 =>
        hD (g5.2.2 1000 2) ∧ 
        hD (g5.2.2 1000 2) ∧ 
        hci d 54 [.ref (g5.2.2 1000 2), .int (x7 + l5), .int l2, .int l3] g5 e6 (fun x12 g10 e11 =>
          hci d 58 [.ref (g5.2.2 1000 2), .ref l4, .int x12, .int (x7 + l5)] g10 e11 (fun x15 g13 e14 =>
            hwi d zm_X7_closedWith k X 10 [(0, .ref 1000), (2, .int l2), (3, .int l3), (4, .ref l4), (5, .int (l5 + 1))] g13 e14) X) X) X)) : hwi d zm_X7_closedWith k X 10 [(0, .ref 1000), (2, .int l2), (3, .int l3), (4, .ref l4), (5, .int l5)] g e := by
  refine zq_iload (pc' := 12) rfl rfl rfl rfl ?_
  refine zq_ipush (pc' := 14) rfl rfl rfl ?_
  refine zq_icge (pc' := 17) rfl rfl rfl rfl (And.intro (fun c => ?_) (fun c => ?_))
  · have H := H.1 c
    refine zq_aload (pc' := 60) rfl rfl rfl rfl ?_
    refine hq_calli (pc' := 63) rfl rfl rfl rfl rfl rfl h_Xi ?_
    refine hmonoi H ?_
    intro x3 g1 e2 H
    exact zq_iret rfl trivial (Exists.intro _ (Exists.intro _ (And.intro rfl H)))
  · have H := H.2 c
    refine zq_aload (pc' := 18) rfl rfl rfl rfl ?_
    obtain ⟨hr4, H⟩ := H
    refine zq_getR (pc' := 21) rfl rfl rfl (hp_gR rfl) ?_
    refine hq_calli (pc' := 24) rfl rfl rfl rfl rfl rfl h_Xi ?_
    refine hmonoi H ?_
    intro x7 g5 e6 H
    refine zq_iload (pc' := 26) rfl rfl rfl rfl ?_
    refine zq_iadd (pc' := 27) rfl rfl rfl ?_
    refine zq_istore (pc' := 29) rfl rfl rfl ?_
    refine zq_aload (pc' := 30) rfl rfl rfl rfl ?_
    obtain ⟨hr8, H⟩ := H
    refine zq_getR (pc' := 33) rfl rfl rfl (hp_gR rfl) ?_
    refine zq_aload (pc' := 35) rfl rfl rfl rfl ?_
    refine zq_aload (pc' := 36) rfl rfl rfl rfl ?_
    obtain ⟨hr9, H⟩ := H
    refine zq_getR (pc' := 39) rfl rfl rfl (hp_gR rfl) ?_
    refine zq_iload (pc' := 41) rfl rfl rfl rfl ?_
    refine zq_iload (pc' := 42) rfl rfl rfl rfl ?_
    refine zq_iload (pc' := 43) rfl rfl rfl rfl ?_
    refine hq_calli (pc' := 46) rfl rfl rfl rfl rfl rfl h_Xi ?_
    refine hmonoi H ?_
    intro x12 g10 e11 H
    refine zq_iload (pc' := 48) rfl rfl rfl rfl ?_
    refine hq_calli (pc' := 51) rfl rfl rfl rfl rfl rfl h_Xi ?_
    refine hmonoi H ?_
    intro x15 g13 e14 H
    refine zq_pop (pc' := 52) rfl rfl rfl rfl ?_
    refine zq_iinc (pc' := 55) rfl rfl rfl rfl ?_
    refine zq_goto_c (pc' := 10) rfl rfl ?_
    exact H
theorem zh_X7_forget {d : Nat} {k : hG → hE → Prop} {X : Nat → hG → hE → Prop}  {g : hG} {e : hE} (H :
    hcv d 22 [.ref 1027] g e (fun g1 e2 =>
      k g1 e2) X) : hcv (d + 1) 190 [.ref 1000] g e k X := by
  refine hent (M := zm_X7_forget) (show hT 1000 = some (.inr _) from rfl) rfl rfl rfl rfl rfl ?_
  refine zq_aload (pc' := 1) rfl rfl rfl rfl ?_
  refine zq_getR (pc' := 4) rfl rfl rfl (hp_gC rfl) ?_
  refine hq_callv (pc' := 7) rfl rfl rfl rfl rfl rfl h_Xv ?_
  refine hmonov H ?_
  intro g1 e2 H
  exact zq_vret rfl (Exists.intro _ (Exists.intro _ (And.intro rfl H)))
theorem zh_X7_wind {d : Nat} {k : Int32 → hG → hE → Prop} {X : Nat → hG → hE → Prop} {p1 : Int32} {p2 : Int32} {p3 : Int32} {p4 : Int32} {g : hG} {e : hE} (H :
    hcr d 201 [.ref 1000, .int p1] g e (fun a3 g1 e2 =>
      hT a3 = some hZ ∧ hcv d 202 [.ref a3, .int p2] g1 e2 (fun g5 e6 =>
        hcv d 205 [.int p3, .int 1, .int 5] g5 e6 (fun g7 e8 =>
          hcv d 205 [.int p4, .int 0, .int 10] g7 e8 (fun g9 e10 =>
            hwi d zm_X7_wind k X 29 [(0, .ref 1000), (1, .int p1), (2, .int p2), (3, .int p3), (4, .int p4), (5, .int 0), (6, .int 0)] g9 e10) X) X) X) X) : hci (d + 1) 191 [.ref 1000, .int p1, .int p2, .int p3, .int p4] g e k X := by
  refine hent (M := zm_X7_wind) (show hT 1000 = some (.inr _) from rfl) rfl rfl rfl rfl rfl ?_
  refine zq_aload (pc' := 1) rfl rfl rfl rfl ?_
  refine zq_iload (pc' := 2) rfl rfl rfl rfl ?_
  refine hq_callr (pc' := 5) rfl rfl rfl rfl rfl rfl h_Xi ?_
  refine hmonor H ?_
  intro a3 g1 e2 H
  obtain ⟨hx4, H⟩ := H
  refine zq_iload (pc' := 6) rfl rfl rfl rfl ?_
  refine hq_callv (pc' := 9) rfl rfl rfl rfl rfl rfl h_Xi ?_
  refine hmonov H ?_
  intro g5 e6 H
  refine zq_iload (pc' := 10) rfl rfl rfl rfl ?_
  refine zq_ipush (pc' := 11) rfl rfl rfl ?_
  refine zq_ipush (pc' := 12) rfl rfl rfl ?_
  refine hq_callv (pc' := 15) rfl rfl rfl rfl rfl rfl h_Xi ?_
  refine hmonov H ?_
  intro g7 e8 H
  refine zq_iload (pc' := 17) rfl rfl rfl rfl ?_
  refine zq_ipush (pc' := 18) rfl rfl rfl ?_
  refine zq_ipush (pc' := 20) rfl rfl rfl ?_
  refine hq_callv (pc' := 23) rfl rfl rfl rfl rfl rfl h_Xi ?_
  refine hmonov H ?_
  intro g9 e10 H
  refine zq_ipush (pc' := 24) rfl rfl rfl ?_
  refine zq_istore (pc' := 26) rfl rfl rfl ?_
  refine zq_ipush (pc' := 27) rfl rfl rfl ?_
  refine zq_istore_c (pc' := 29) rfl rfl ?_
  exact H
theorem zh_X7_wind_29 {d : Nat} {k : Int32 → hG → hE → Prop} {X : Nat → hG → hE → Prop} {l1 : Int32} {l2 : Int32} {l3 : Int32} {l4 : Int32} {l5 : Int32} {l6 : Int32} {g : hG} {e : hE} (H :
    zbr ((1 <<< (l3 &&& 31)) ≤ l6)
    (k l5 g e)
    (hci d 192 [.int l6, .int l3, .int l4] g e (fun x3 g1 e2 =>
        zbr (x3 ≤ 0)
        (hwi d zm_X7_wind k X 29 [(0, .ref 1000), (1, .int l1), (2, .int l2), (3, .int l3), (4, .int l4), (5, .int l5), (6, .int (l6 + 1))] g1 e2)
        (hci d 193 [.ref 1000, .int l1, .int l2, .int l6, .int l3] g1 e2 (fun x6 g4 e5 =>
            zbr (x6 = 0)
            (hwi d zm_X7_wind k X 29 [(0, .ref 1000), (1, .int l1), (2, .int l2), (3, .int l3), (4, .int l4), (5, .int l5), (6, .int (l6 + 1))] g4 e5)
            (hwi d zm_X7_wind k X 29 [(0, .ref 1000), (1, .int l1), (2, .int l2), (3, .int l3), (4, .int l4), (5, .int (l5 + x3)), (6, .int (l6 + 1))] g4 e5)) X)) X)) : hwi d zm_X7_wind k X 29 [(0, .ref 1000), (1, .int l1), (2, .int l2), (3, .int l3), (4, .int l4), (5, .int l5), (6, .int l6)] g e := by
  refine zq_iload (pc' := 31) rfl rfl rfl rfl ?_
  refine zq_ipush (pc' := 32) rfl rfl rfl ?_
  refine zq_iload (pc' := 33) rfl rfl rfl rfl ?_
  refine zq_ishl (pc' := 34) rfl rfl rfl ?_
  refine zq_icge (pc' := 37) rfl rfl rfl rfl (And.intro (fun c => ?_) (fun c => ?_))
  · have H := H.1 c
    refine zq_iload (pc' := 79) rfl rfl rfl rfl ?_
    exact zq_iret rfl trivial (Exists.intro _ (Exists.intro _ (And.intro rfl H)))
  · have H := H.2 c
    refine zq_iload (pc' := 39) rfl rfl rfl rfl ?_
    refine zq_iload (pc' := 40) rfl rfl rfl rfl ?_
    refine zq_iload (pc' := 42) rfl rfl rfl rfl ?_
    refine hq_calli (pc' := 45) rfl rfl rfl rfl rfl rfl h_Xi ?_
    refine hmonoi H ?_
    intro x3 g1 e2 H
    refine zq_istore (pc' := 47) rfl rfl rfl ?_
    refine zq_iload (pc' := 49) rfl rfl rfl rfl ?_
    refine zq_ifle (pc' := 52) rfl rfl rfl rfl (And.intro (fun c => ?_) (fun c => ?_))
    · have H := H.1 c
      refine zq_iinc (pc' := 74) rfl rfl rfl rfl ?_
      refine zq_goto_c (pc' := 29) rfl rfl ?_
      exact H
    · have H := H.2 c
      refine zq_aload (pc' := 53) rfl rfl rfl rfl ?_
      refine zq_iload (pc' := 54) rfl rfl rfl rfl ?_
      refine zq_iload (pc' := 55) rfl rfl rfl rfl ?_
      refine zq_iload (pc' := 57) rfl rfl rfl rfl ?_
      refine zq_iload (pc' := 58) rfl rfl rfl rfl ?_
      refine hq_calli (pc' := 61) rfl rfl rfl rfl rfl rfl h_Xi ?_
      refine hmonoi H ?_
      intro x6 g4 e5 H
      refine zq_ifeq (pc' := 64) rfl rfl rfl rfl (And.intro (fun c => ?_) (fun c => ?_))
      · have H := H.1 c
        refine zq_iinc (pc' := 74) rfl rfl rfl rfl ?_
        refine zq_goto_c (pc' := 29) rfl rfl ?_
        exact H
      · have H := H.2 c
        refine zq_iload (pc' := 66) rfl rfl rfl rfl ?_
        refine zq_iload (pc' := 68) rfl rfl rfl rfl ?_
        refine zq_iadd (pc' := 69) rfl rfl rfl ?_
        refine zq_istore (pc' := 71) rfl rfl rfl ?_
        refine zq_iinc (pc' := 74) rfl rfl rfl rfl ?_
        refine zq_goto_c (pc' := 29) rfl rfl ?_
        exact H
theorem zh_X7_weightOf {d : Nat} {k : Int32 → hG → hE → Prop} {X : Nat → hG → hE → Prop} {p0 : Int32} {p1 : Int32} {p2 : Int32} {g : hG} {e : hE} (H :
    hwi d zm_X7_weightOf k X 5 [(0, .int p0), (1, .int p1), (2, .int p2), (3, .int 1), (4, .int 0)] g e) : hci (d + 1) 192 [.int p0, .int p1, .int p2] g e k X := by
  refine hentS (M := zm_X7_weightOf) rfl rfl rfl rfl ?_
  refine zq_ipush (pc' := 1) rfl rfl rfl ?_
  refine zq_istore (pc' := 2) rfl rfl rfl ?_
  refine zq_ipush (pc' := 3) rfl rfl rfl ?_
  refine zq_istore_c (pc' := 5) rfl rfl ?_
  exact H
theorem zh_X7_weightOf_5 {d : Nat} {k : Int32 → hG → hE → Prop} {X : Nat → hG → hE → Prop} {l0 : Int32} {l1 : Int32} {l2 : Int32} {l3 : Int32} {l4 : Int32} {g : hG} {e : hE} (H :
    zbr (l1 ≤ l4)
    (k l3 g e)
    (zbr (((l0 >>> (l4 &&& 31)) &&& 1) = 0)
      (hwi d zm_X7_weightOf k X 5 [(0, .int l0), (1, .int l1), (2, .int l2), (3, .int (l3 * (10 - l2))), (4, .int (l4 + 1))] g e)
      (hwi d zm_X7_weightOf k X 5 [(0, .int l0), (1, .int l1), (2, .int l2), (3, .int (l3 * l2)), (4, .int (l4 + 1))] g e))) : hwi d zm_X7_weightOf k X 5 [(0, .int l0), (1, .int l1), (2, .int l2), (3, .int l3), (4, .int l4)] g e := by
  refine zq_iload (pc' := 7) rfl rfl rfl rfl ?_
  refine zq_iload (pc' := 8) rfl rfl rfl rfl ?_
  refine zq_icge (pc' := 11) rfl rfl rfl rfl (And.intro (fun c => ?_) (fun c => ?_))
  · have H := H.1 c
    refine zq_iload (pc' := 38) rfl rfl rfl rfl ?_
    exact zq_iret rfl trivial (Exists.intro _ (Exists.intro _ (And.intro rfl H)))
  · have H := H.2 c
    refine zq_iload (pc' := 12) rfl rfl rfl rfl ?_
    refine zq_iload (pc' := 13) rfl rfl rfl rfl ?_
    refine zq_iload (pc' := 15) rfl rfl rfl rfl ?_
    refine zq_ishr (pc' := 16) rfl rfl rfl ?_
    refine zq_ipush (pc' := 17) rfl rfl rfl ?_
    refine zq_iand (pc' := 18) rfl rfl rfl ?_
    refine zq_ifeq (pc' := 21) rfl rfl rfl rfl (And.intro (fun c => ?_) (fun c => ?_))
    · have H := H.1 c
      refine zq_ipush (pc' := 27) rfl rfl rfl ?_
      refine zq_iload (pc' := 28) rfl rfl rfl rfl ?_
      refine zq_isub (pc' := 29) rfl rfl rfl ?_
      refine zq_imul (pc' := 30) rfl rfl rfl ?_
      refine zq_istore (pc' := 31) rfl rfl rfl ?_
      refine zq_iinc (pc' := 34) rfl rfl rfl rfl ?_
      refine zq_goto_c (pc' := 5) rfl rfl ?_
      exact H
    · have H := H.2 c
      refine zq_iload (pc' := 22) rfl rfl rfl rfl ?_
      refine zq_goto (pc' := 29) rfl rfl rfl ?_
      refine zq_imul (pc' := 30) rfl rfl rfl ?_
      refine zq_istore (pc' := 31) rfl rfl rfl ?_
      refine zq_iinc (pc' := 34) rfl rfl rfl rfl ?_
      refine zq_goto_c (pc' := 5) rfl rfl ?_
      exact H
theorem zh_X7_closedInWind {d : Nat} {k : Int32 → hG → hE → Prop} {X : Nat → hG → hE → Prop} {p1 : Int32} {p2 : Int32} {p3 : Int32} {p4 : Int32} {g : hG} {e : hE} (H :
    hcr d 207 [.ref 1000, .int p1] g e (fun a3 g1 e2 =>
      hT a3 = some hZ ∧ hwi d zm_X7_closedInWind k X 10 [(0, .ref 1000), (2, .int p2), (3, .int p3), (4, .int p4), (5, .ref a3), (6, .int 0)] g1 e2) X) : hci (d + 1) 193 [.ref 1000, .int p1, .int p2, .int p3, .int p4] g e k X := by
  refine hent (M := zm_X7_closedInWind) (show hT 1000 = some (.inr _) from rfl) rfl rfl rfl rfl rfl ?_
  refine zq_aload (pc' := 1) rfl rfl rfl rfl ?_
  refine zq_iload (pc' := 2) rfl rfl rfl rfl ?_
  refine hq_callr (pc' := 5) rfl rfl rfl rfl rfl rfl h_Xi ?_
  refine hmonor H ?_
  intro a3 g1 e2 H
  obtain ⟨hx4, H⟩ := H
  refine zq_astore (pc' := 7) rfl rfl rfl ?_
  refine zq_ipush (pc' := 8) rfl rfl rfl ?_
  refine zq_istore_c (pc' := 10) rfl rfl ?_
  exact H
theorem zh_X7_closedInWind_10 {d : Nat} {k : Int32 → hG → hE → Prop} {X : Nat → hG → hE → Prop} {l2 : Int32} {l3 : Int32} {l4 : Int32} {l5 : Nat} (hl5 : hT l5 = some hZ) {l6 : Int32} {g : hG} {e : hE} (H :
    zbr (l4 ≤ l6)
    (hci d 117 [.ref l5, .int l2] g e (fun x3 g1 e2 =>
        (x3 = 0 ∨ x3 = 1) ∧ k x3 g1 e2) X)
    (hD (g.2.2 1000 2) ∧ 
      zbr (((l3 >>> (l6 &&& 31)) &&& 1) = 0)
      (hD (g.2.2 1000 2) ∧ 
        hci d 49 [.ref (g.2.2 1000 2)] g e (fun x8 g6 e7 =>
          hci d 58 [.ref (g.2.2 1000 2), .ref l5, .int 0, .int (x8 + l6)] g6 e7 (fun x11 g9 e10 =>
            hwi d zm_X7_closedInWind k X 10 [(0, .ref 1000), (2, .int l2), (3, .int l3), (4, .int l4), (5, .ref l5), (6, .int (l6 + 1))] g9 e10) X) X)
      (hD (g.2.2 1000 2) ∧ 
        hci d 49 [.ref (g.2.2 1000 2)] g e (fun x15 g13 e14 =>
          hci d 58 [.ref (g.2.2 1000 2), .ref l5, .int 9, .int (x15 + l6)] g13 e14 (fun x18 g16 e17 =>
            hwi d zm_X7_closedInWind k X 10 [(0, .ref 1000), (2, .int l2), (3, .int l3), (4, .int l4), (5, .ref l5), (6, .int (l6 + 1))] g16 e17) X) X))) : hwi d zm_X7_closedInWind k X 10 [(0, .ref 1000), (2, .int l2), (3, .int l3), (4, .int l4), (5, .ref l5), (6, .int l6)] g e := by
  refine zq_iload (pc' := 12) rfl rfl rfl rfl ?_
  refine zq_iload (pc' := 14) rfl rfl rfl rfl ?_
  refine zq_icge (pc' := 17) rfl rfl rfl rfl (And.intro (fun c => ?_) (fun c => ?_))
  · have H := H.1 c
    refine zq_aload (pc' := 60) rfl rfl rfl rfl ?_
    refine zq_iload (pc' := 61) rfl rfl rfl rfl ?_
    refine hq_calli (pc' := 64) rfl rfl rfl rfl rfl rfl h_Xi ?_
    refine hmonoi H ?_
    intro x3 g1 e2 H
    exact zq_iret rfl H.1 (Exists.intro _ (Exists.intro _ (And.intro rfl H.2)))
  · have H := H.2 c
    refine zq_aload (pc' := 18) rfl rfl rfl rfl ?_
    obtain ⟨hr4, H⟩ := H
    refine zq_getR (pc' := 21) rfl rfl rfl (hp_gR rfl) ?_
    refine zq_aload (pc' := 23) rfl rfl rfl rfl ?_
    refine zq_iload (pc' := 24) rfl rfl rfl rfl ?_
    refine zq_iload (pc' := 26) rfl rfl rfl rfl ?_
    refine zq_ishr (pc' := 27) rfl rfl rfl ?_
    refine zq_ipush (pc' := 28) rfl rfl rfl ?_
    refine zq_iand (pc' := 29) rfl rfl rfl ?_
    refine zq_ifeq (pc' := 32) rfl rfl rfl rfl (And.intro (fun c => ?_) (fun c => ?_))
    · have H := H.1 c
      refine zq_ipush (pc' := 38) rfl rfl rfl ?_
      refine zq_aload (pc' := 39) rfl rfl rfl rfl ?_
      obtain ⟨hr5, H⟩ := H
      refine zq_getR (pc' := 42) rfl rfl rfl (hp_gR rfl) ?_
      refine hq_calli (pc' := 45) rfl rfl rfl rfl rfl rfl h_Xi ?_
      refine hmonoi H ?_
      intro x8 g6 e7 H
      refine zq_iload (pc' := 47) rfl rfl rfl rfl ?_
      refine zq_iadd (pc' := 48) rfl rfl rfl ?_
      refine hq_calli (pc' := 51) rfl rfl rfl rfl rfl rfl h_Xi ?_
      refine hmonoi H ?_
      intro x11 g9 e10 H
      refine zq_pop (pc' := 52) rfl rfl rfl rfl ?_
      refine zq_iinc (pc' := 55) rfl rfl rfl rfl ?_
      refine zq_goto_c (pc' := 10) rfl rfl ?_
      exact H
    · have H := H.2 c
      refine zq_ipush (pc' := 34) rfl rfl rfl ?_
      refine zq_goto (pc' := 38) rfl rfl rfl ?_
      refine zq_aload (pc' := 39) rfl rfl rfl rfl ?_
      obtain ⟨hr12, H⟩ := H
      refine zq_getR (pc' := 42) rfl rfl rfl (hp_gR rfl) ?_
      refine hq_calli (pc' := 45) rfl rfl rfl rfl rfl rfl h_Xi ?_
      refine hmonoi H ?_
      intro x15 g13 e14 H
      refine zq_iload (pc' := 47) rfl rfl rfl rfl ?_
      refine zq_iadd (pc' := 48) rfl rfl rfl ?_
      refine hq_calli (pc' := 51) rfl rfl rfl rfl rfl rfl h_Xi ?_
      refine hmonoi H ?_
      intro x18 g16 e17 H
      refine zq_pop (pc' := 52) rfl rfl rfl rfl ?_
      refine zq_iinc (pc' := 55) rfl rfl rfl rfl ?_
      refine zq_goto_c (pc' := 10) rfl rfl ?_
      exact H
theorem zh_X7_game {d : Nat} {k : Int32 → hG → hE → Prop} {X : Nat → hG → hE → Prop} {p1 : Int32} {p2 : Int32} {p3 : Int32} {g : hG} {e : hE} (H :
    hcr d 201 [.ref 1000, .int p1] g e (fun a3 g1 e2 =>
      hT a3 = some hZ ∧ hcr d 201 [.ref 1000, .int p2] g1 e2 (fun a7 g5 e6 =>
        hT a7 = some hZ ∧ hcv d 204 [.int p3, .int 2] g5 e6 (fun g9 e10 =>
          zbr (p1 = p2)
          (hrm e10 ∧ X 0 g9 (hth e10))
          (hci d 195 [.ref 1000, .int p1, .int 1] g9 e10 (fun x13 g11 e12 =>
              hci d 195 [.ref 1000, .int p1, .int 0] g11 e12 (fun x16 g14 e15 =>
                hci d 195 [.ref 1000, .int p2, .int 1] g14 e15 (fun x19 g17 e18 =>
                  hci d 195 [.ref 1000, .int p2, .int 0] g17 e18 (fun x22 g20 e21 =>
                    hwi d zm_X7_game k X 72 [(3, .int p3), (4, .int (x13 - x16)), (5, .int (x19 - x22)), (6, .int 0), (7, .int (-1)), (8, .int 0)] g20 e21) X) X) X) X)) X) X) X) : hci (d + 1) 194 [.ref 1000, .int p1, .int p2, .int p3] g e k X := by
  refine hent (M := zm_X7_game) (show hT 1000 = some (.inr _) from rfl) rfl rfl rfl rfl rfl ?_
  refine zq_aload (pc' := 1) rfl rfl rfl rfl ?_
  refine zq_iload (pc' := 2) rfl rfl rfl rfl ?_
  refine hq_callr (pc' := 5) rfl rfl rfl rfl rfl rfl h_Xi ?_
  refine hmonor H ?_
  intro a3 g1 e2 H
  obtain ⟨hx4, H⟩ := H
  refine zq_pop (pc' := 6) rfl rfl rfl rfl ?_
  refine zq_aload (pc' := 7) rfl rfl rfl rfl ?_
  refine zq_iload (pc' := 8) rfl rfl rfl rfl ?_
  refine hq_callr (pc' := 11) rfl rfl rfl rfl rfl rfl h_Xi ?_
  refine hmonor H ?_
  intro a7 g5 e6 H
  obtain ⟨hx8, H⟩ := H
  refine zq_pop (pc' := 12) rfl rfl rfl rfl ?_
  refine zq_iload (pc' := 13) rfl rfl rfl rfl ?_
  refine zq_ipush (pc' := 14) rfl rfl rfl ?_
  refine hq_callv (pc' := 17) rfl rfl rfl rfl rfl rfl h_Xi ?_
  refine hmonov H ?_
  intro g9 e10 H
  refine zq_iload (pc' := 18) rfl rfl rfl rfl ?_
  refine zq_iload (pc' := 19) rfl rfl rfl rfl ?_
  refine zq_icne (pc' := 22) rfl rfl rfl rfl (And.intro (fun c => ?_) (fun c => ?_))
  · have H := H.1 c
    obtain ⟨e0, H⟩ := H
    exact zq_throw rfl rfl (hp_nx e0) (Exists.intro _ (Exists.intro _ (And.intro rfl H)))
  · have H := H.2 c
    refine zq_aload (pc' := 34) rfl rfl rfl rfl ?_
    refine zq_iload (pc' := 35) rfl rfl rfl rfl ?_
    refine zq_ipush (pc' := 36) rfl rfl rfl ?_
    refine hq_calli (pc' := 39) rfl rfl rfl rfl rfl rfl h_Xi ?_
    refine hmonoi H ?_
    intro x13 g11 e12 H
    refine zq_aload (pc' := 40) rfl rfl rfl rfl ?_
    refine zq_iload (pc' := 41) rfl rfl rfl rfl ?_
    refine zq_ipush (pc' := 42) rfl rfl rfl ?_
    refine hq_calli (pc' := 45) rfl rfl rfl rfl rfl rfl h_Xi ?_
    refine hmonoi H ?_
    intro x16 g14 e15 H
    refine zq_isub (pc' := 46) rfl rfl rfl ?_
    refine zq_istore (pc' := 48) rfl rfl rfl ?_
    refine zq_aload (pc' := 49) rfl rfl rfl rfl ?_
    refine zq_iload (pc' := 50) rfl rfl rfl rfl ?_
    refine zq_ipush (pc' := 51) rfl rfl rfl ?_
    refine hq_calli (pc' := 54) rfl rfl rfl rfl rfl rfl h_Xi ?_
    refine hmonoi H ?_
    intro x19 g17 e18 H
    refine zq_aload (pc' := 55) rfl rfl rfl rfl ?_
    refine zq_iload (pc' := 56) rfl rfl rfl rfl ?_
    refine zq_ipush (pc' := 57) rfl rfl rfl ?_
    refine hq_calli (pc' := 60) rfl rfl rfl rfl rfl rfl h_Xi ?_
    refine hmonoi H ?_
    intro x22 g20 e21 H
    refine zq_isub (pc' := 61) rfl rfl rfl ?_
    refine zq_istore (pc' := 63) rfl rfl rfl ?_
    refine zq_ipush (pc' := 64) rfl rfl rfl ?_
    refine zq_istore (pc' := 66) rfl rfl rfl ?_
    refine zq_ipushn (pc' := 67) rfl rfl rfl ?_
    refine zq_istore (pc' := 69) rfl rfl rfl ?_
    refine zq_ipush (pc' := 70) rfl rfl rfl ?_
    refine zq_istore_c (pc' := 72) rfl rfl ?_
    exact H
theorem zh_X7_game_72 {d : Nat} {k : Int32 → hG → hE → Prop} {X : Nat → hG → hE → Prop} {l3 : Int32} {l4 : Int32} {l5 : Int32} {l6 : Int32} {l7 : Int32} {l8 : Int32} {g : hG} {e : hE} (H :
    zbr (1 < l8)
    (zbr (l3 = 0)
      (k l6 g e)
      (k l7 g e))
    (hwi d zm_X7_game k X 81 [(3, .int l3), (4, .int l4), (5, .int l5), (6, .int l6), (7, .int l7), (8, .int l8), (9, .int 0)] g e)) : hwi d zm_X7_game k X 72 [(3, .int l3), (4, .int l4), (5, .int l5), (6, .int l6), (7, .int l7), (8, .int l8)] g e := by
  refine zq_iload (pc' := 74) rfl rfl rfl rfl ?_
  refine zq_ipush (pc' := 75) rfl rfl rfl ?_
  refine zq_icgt (pc' := 78) rfl rfl rfl rfl (And.intro (fun c => ?_) (fun c => ?_))
  · have H := H.1 c
    refine zq_iload (pc' := 143) rfl rfl rfl rfl ?_
    refine zq_ifne (pc' := 146) rfl rfl rfl rfl (And.intro (fun c => ?_) (fun c => ?_))
    · have H := H.1 c
      refine zq_iload (pc' := 148) rfl rfl rfl rfl ?_
      refine zq_goto (pc' := 153) rfl rfl rfl ?_
      exact zq_iret rfl trivial (Exists.intro _ (Exists.intro _ (And.intro rfl H)))
    · have H := H.2 c
      refine zq_iload (pc' := 153) rfl rfl rfl rfl ?_
      exact zq_iret rfl trivial (Exists.intro _ (Exists.intro _ (And.intro rfl H)))
  · have H := H.2 c
    refine zq_ipush (pc' := 79) rfl rfl rfl ?_
    refine zq_istore_c (pc' := 81) rfl rfl ?_
    exact H
theorem zh_X7_game_81 {d : Nat} {k : Int32 → hG → hE → Prop} {X : Nat → hG → hE → Prop} {l3 : Int32} {l4 : Int32} {l5 : Int32} {l6 : Int32} {l7 : Int32} {l8 : Int32} {l9 : Int32} {g : hG} {e : hE} (H :
    zbr (1 < l9)
    (hwi d zm_X7_game k X 72 [(3, .int l3), (4, .int l4), (5, .int l5), (6, .int l6), (7, .int l7), (8, .int (l8 + 1))] g e)
    (hci d 196 [.int l8, .int l4] g e (fun x3 g1 e2 =>
        zbr (x3 = 0)
        (hwi d zm_X7_game k X 81 [(3, .int l3), (4, .int l4), (5, .int l5), (6, .int l6), (7, .int l7), (8, .int l8), (9, .int (l9 + 1))] g1 e2)
        (hci d 196 [.int l9, .int l5] g1 e2 (fun x6 g4 e5 =>
            zbr (x6 = 0)
            (hwi d zm_X7_game k X 81 [(3, .int l3), (4, .int l4), (5, .int l5), (6, .int l6), (7, .int l7), (8, .int l8), (9, .int (l9 + 1))] g4 e5)
            (zbr (l6 = 0)
              (hwi d zm_X7_game k X 81 [(3, .int l3), (4, .int l4), (5, .int l5), (6, .int (l6 + 1)), (7, .int ((10 * l8) + l9)), (8, .int l8), (9, .int (l9 + 1))] g4 e5)
              (hwi d zm_X7_game k X 81 [(3, .int l3), (4, .int l4), (5, .int l5), (6, .int (l6 + 1)), (7, .int l7), (8, .int l8), (9, .int (l9 + 1))] g4 e5))) X)) X)) : hwi d zm_X7_game k X 81 [(3, .int l3), (4, .int l4), (5, .int l5), (6, .int l6), (7, .int l7), (8, .int l8), (9, .int l9)] g e := by
  refine zq_iload (pc' := 83) rfl rfl rfl rfl ?_
  refine zq_ipush (pc' := 84) rfl rfl rfl ?_
  refine zq_icgt (pc' := 87) rfl rfl rfl rfl (And.intro (fun c => ?_) (fun c => ?_))
  · have H := H.1 c
    refine zq_iinc (pc' := 139) rfl rfl rfl rfl ?_
    refine zq_goto_c (pc' := 72) rfl rfl ?_
    exact H
  · have H := H.2 c
    refine zq_iload (pc' := 89) rfl rfl rfl rfl ?_
    refine zq_iload (pc' := 91) rfl rfl rfl rfl ?_
    refine hq_calli (pc' := 94) rfl rfl rfl rfl rfl rfl h_Xi ?_
    refine hmonoi H ?_
    intro x3 g1 e2 H
    refine zq_ifeq (pc' := 97) rfl rfl rfl rfl (And.intro (fun c => ?_) (fun c => ?_))
    · have H := H.1 c
      refine zq_iinc (pc' := 133) rfl rfl rfl rfl ?_
      refine zq_goto_c (pc' := 81) rfl rfl ?_
      exact H
    · have H := H.2 c
      refine zq_iload (pc' := 99) rfl rfl rfl rfl ?_
      refine zq_iload (pc' := 101) rfl rfl rfl rfl ?_
      refine hq_calli (pc' := 104) rfl rfl rfl rfl rfl rfl h_Xi ?_
      refine hmonoi H ?_
      intro x6 g4 e5 H
      refine zq_ifeq (pc' := 107) rfl rfl rfl rfl (And.intro (fun c => ?_) (fun c => ?_))
      · have H := H.1 c
        refine zq_iinc (pc' := 133) rfl rfl rfl rfl ?_
        refine zq_goto_c (pc' := 81) rfl rfl ?_
        exact H
      · have H := H.2 c
        refine zq_iload (pc' := 109) rfl rfl rfl rfl ?_
        refine zq_ifne (pc' := 112) rfl rfl rfl rfl (And.intro (fun c => ?_) (fun c => ?_))
        · have H := H.1 c
          refine zq_ipush (pc' := 114) rfl rfl rfl ?_
          refine zq_iload (pc' := 116) rfl rfl rfl rfl ?_
          refine zq_imul (pc' := 117) rfl rfl rfl ?_
          refine zq_iload (pc' := 119) rfl rfl rfl rfl ?_
          refine zq_iadd (pc' := 120) rfl rfl rfl ?_
          refine zq_goto (pc' := 125) rfl rfl rfl ?_
          refine zq_istore (pc' := 127) rfl rfl rfl ?_
          refine zq_iinc (pc' := 130) rfl rfl rfl rfl ?_
          refine zq_iinc (pc' := 133) rfl rfl rfl rfl ?_
          refine zq_goto_c (pc' := 81) rfl rfl ?_
          exact H
        · have H := H.2 c
          refine zq_iload (pc' := 125) rfl rfl rfl rfl ?_
          refine zq_istore (pc' := 127) rfl rfl rfl ?_
          refine zq_iinc (pc' := 130) rfl rfl rfl rfl ?_
          refine zq_iinc (pc' := 133) rfl rfl rfl rfl ?_
          refine zq_goto_c (pc' := 81) rfl rfl ?_
          exact H
theorem zh_X7_ownGain {d : Nat} {k : Int32 → hG → hE → Prop} {X : Nat → hG → hE → Prop} {p1 : Int32} {p2 : Int32} {g : hG} {e : hE} (H :
    hcr d 207 [.ref 1000, .int p1] g e (fun a3 g1 e2 =>
      hT a3 = some hZ ∧ zbr (p2 = 1)
      (hcv d 127 [.ref a3] g1 e2 (fun g5 e6 =>
          hci d 212 [.ref 1000, .ref a3, .int 6] g5 e6 (fun x9 g7 e8 =>
            k ((2 * x9) - (3 * p2)) g7 e8) X) X)
      (hci d 212 [.ref 1000, .ref a3, .int 6] g1 e2 (fun x12 g10 e11 =>
          k ((2 * x12) - (3 * p2)) g10 e11) X)) X) : hci (d + 1) 195 [.ref 1000, .int p1, .int p2] g e k X := by
  refine hent (M := zm_X7_ownGain) (show hT 1000 = some (.inr _) from rfl) rfl rfl rfl rfl rfl ?_
  refine zq_aload (pc' := 1) rfl rfl rfl rfl ?_
  refine zq_iload (pc' := 2) rfl rfl rfl rfl ?_
  refine hq_callr (pc' := 5) rfl rfl rfl rfl rfl rfl h_Xi ?_
  refine hmonor H ?_
  intro a3 g1 e2 H
  obtain ⟨hx4, H⟩ := H
  refine zq_astore (pc' := 6) rfl rfl rfl ?_
  refine zq_iload (pc' := 7) rfl rfl rfl rfl ?_
  refine zq_ipush (pc' := 8) rfl rfl rfl ?_
  refine zq_icne (pc' := 11) rfl rfl rfl rfl (And.intro (fun c => ?_) (fun c => ?_))
  · have H := H.1 c
    refine zq_aload (pc' := 12) rfl rfl rfl rfl ?_
    refine hq_callv (pc' := 15) rfl rfl rfl rfl rfl rfl h_Xi ?_
    refine hmonov H ?_
    intro g5 e6 H
    refine zq_ipush (pc' := 16) rfl rfl rfl ?_
    refine zq_aload (pc' := 17) rfl rfl rfl rfl ?_
    refine zq_aload (pc' := 18) rfl rfl rfl rfl ?_
    refine zq_ipush (pc' := 20) rfl rfl rfl ?_
    refine hq_calli (pc' := 23) rfl rfl rfl rfl rfl rfl h_Xi ?_
    refine hmonoi H ?_
    intro x9 g7 e8 H
    refine zq_imul (pc' := 24) rfl rfl rfl ?_
    refine zq_ipush (pc' := 25) rfl rfl rfl ?_
    refine zq_iload (pc' := 26) rfl rfl rfl rfl ?_
    refine zq_imul (pc' := 27) rfl rfl rfl ?_
    refine zq_isub (pc' := 28) rfl rfl rfl ?_
    exact zq_iret rfl trivial (Exists.intro _ (Exists.intro _ (And.intro rfl H)))
  · have H := H.2 c
    refine zq_ipush (pc' := 16) rfl rfl rfl ?_
    refine zq_aload (pc' := 17) rfl rfl rfl rfl ?_
    refine zq_aload (pc' := 18) rfl rfl rfl rfl ?_
    refine zq_ipush (pc' := 20) rfl rfl rfl ?_
    refine hq_calli (pc' := 23) rfl rfl rfl rfl rfl rfl h_Xi ?_
    refine hmonoi H ?_
    intro x12 g10 e11 H
    refine zq_imul (pc' := 24) rfl rfl rfl ?_
    refine zq_ipush (pc' := 25) rfl rfl rfl ?_
    refine zq_iload (pc' := 26) rfl rfl rfl rfl ?_
    refine zq_imul (pc' := 27) rfl rfl rfl ?_
    refine zq_isub (pc' := 28) rfl rfl rfl ?_
    exact zq_iret rfl trivial (Exists.intro _ (Exists.intro _ (And.intro rfl H)))
theorem zh_X7_restsWith {d : Nat} {k : Int32 → hG → hE → Prop} {X : Nat → hG → hE → Prop} {p0 : Int32} {p1 : Int32} {g : hG} {e : hE} (H :
    zbr (p0 = 1)
    (zbr (p1 < 0)
      (k 0 g e)
      (k 1 g e))
    (zbr (0 < p1)
      (k 0 g e)
      (k 1 g e))) : hci (d + 1) 196 [.int p0, .int p1] g e k X := by
  refine hentS (M := zm_X7_restsWith) rfl rfl rfl rfl ?_
  refine zq_iload (pc' := 1) rfl rfl rfl rfl ?_
  refine zq_ipush (pc' := 2) rfl rfl rfl ?_
  refine zq_icne (pc' := 5) rfl rfl rfl rfl (And.intro (fun c => ?_) (fun c => ?_))
  · have H := H.1 c
    refine zq_iload (pc' := 6) rfl rfl rfl rfl ?_
    refine zq_iflt (pc' := 9) rfl rfl rfl rfl (And.intro (fun c => ?_) (fun c => ?_))
    · have H := H.1 c
      refine zq_ipush (pc' := 14) rfl rfl rfl ?_
      refine zq_goto (pc' := 26) rfl rfl rfl ?_
      exact zq_iret rfl (Or.inl rfl) (Exists.intro _ (Exists.intro _ (And.intro rfl H)))
    · have H := H.2 c
      refine zq_ipush (pc' := 10) rfl rfl rfl ?_
      refine zq_goto (pc' := 26) rfl rfl rfl ?_
      exact zq_iret rfl (Or.inr rfl) (Exists.intro _ (Exists.intro _ (And.intro rfl H)))
  · have H := H.2 c
    refine zq_iload (pc' := 18) rfl rfl rfl rfl ?_
    refine zq_ifgt (pc' := 21) rfl rfl rfl rfl (And.intro (fun c => ?_) (fun c => ?_))
    · have H := H.1 c
      refine zq_ipush (pc' := 26) rfl rfl rfl ?_
      exact zq_iret rfl (Or.inl rfl) (Exists.intro _ (Exists.intro _ (And.intro rfl H)))
    · have H := H.2 c
      refine zq_ipush (pc' := 22) rfl rfl rfl ?_
      refine zq_goto (pc' := 26) rfl rfl rfl ?_
      exact zq_iret rfl (Or.inr rfl) (Exists.intro _ (Exists.intro _ (And.intro rfl H)))
theorem zh_X7_years {d : Nat} {k : Int32 → hG → hE → Prop} {X : Nat → hG → hE → Prop} {p1 : Int32} {p2 : Int32} {p3 : Int32} {g : hG} {e : hE} (H :
    hcv d 204 [.int p3, .int 3] g e (fun g1 e2 =>
      hcv d 205 [.int p2, .int 0, .int 60] g1 e2 (fun g3 e4 =>
        hcv d 208 [.ref 1000] g3 e4 (fun g5 e6 =>
          hcv d 34 [.ref 1045, .int p1] g5 e6 (fun g7 e8 =>
            hwi d zm_X7_years k X 30 [(0, .ref 1000), (2, .int p2), (3, .int p3), (4, .int 0), (5, .int 0)] g7 e8) X) X) X) X) : hci (d + 1) 197 [.ref 1000, .int p1, .int p2, .int p3] g e k X := by
  refine hent (M := zm_X7_years) (show hT 1000 = some (.inr _) from rfl) rfl rfl rfl rfl rfl ?_
  refine zq_iload (pc' := 1) rfl rfl rfl rfl ?_
  refine zq_ipush (pc' := 2) rfl rfl rfl ?_
  refine hq_callv (pc' := 5) rfl rfl rfl rfl rfl rfl h_Xi ?_
  refine hmonov H ?_
  intro g1 e2 H
  refine zq_iload (pc' := 6) rfl rfl rfl rfl ?_
  refine zq_ipush (pc' := 7) rfl rfl rfl ?_
  refine zq_ipush (pc' := 9) rfl rfl rfl ?_
  refine hq_callv (pc' := 12) rfl rfl rfl rfl rfl rfl h_Xi ?_
  refine hmonov H ?_
  intro g3 e4 H
  refine zq_aload (pc' := 13) rfl rfl rfl rfl ?_
  refine hq_callv (pc' := 16) rfl rfl rfl rfl rfl rfl h_Xi ?_
  refine hmonov H ?_
  intro g5 e6 H
  refine zq_aload (pc' := 17) rfl rfl rfl rfl ?_
  refine zq_getR (pc' := 20) rfl rfl rfl (hp_gC rfl) ?_
  refine zq_iload (pc' := 21) rfl rfl rfl rfl ?_
  refine hq_callv (pc' := 24) rfl rfl rfl rfl rfl rfl h_Xi ?_
  refine hmonov H ?_
  intro g7 e8 H
  refine zq_ipush (pc' := 25) rfl rfl rfl ?_
  refine zq_istore (pc' := 27) rfl rfl rfl ?_
  refine zq_ipush (pc' := 28) rfl rfl rfl ?_
  refine zq_istore_c (pc' := 30) rfl rfl ?_
  exact H
theorem zh_X7_years_30 {d : Nat} {k : Int32 → hG → hE → Prop} {X : Nat → hG → hE → Prop} {l2 : Int32} {l3 : Int32} {l4 : Int32} {l5 : Int32} {g : hG} {e : hE} (H :
    zbr (l2 ≤ l5)
    (hwi d zm_X7_years k X 66 [(0, .ref 1000), (3, .int l3), (4, .int l4), (5, .int 0), (6, .int 0), (7, .int 0)] g e)
    (hcv d 198 [.ref 1000] g e (fun g1 e2 =>
        hci d 209 [.ref 1000, .int l5] g1 e2 (fun x5 g3 e4 =>
          hwi d zm_X7_years k X 30 [(0, .ref 1000), (2, .int l2), (3, .int l3), (4, .int (l4 + x5)), (5, .int (l5 + 1))] g3 e4) X) X)) : hwi d zm_X7_years k X 30 [(0, .ref 1000), (2, .int l2), (3, .int l3), (4, .int l4), (5, .int l5)] g e := by
  refine zq_iload (pc' := 32) rfl rfl rfl rfl ?_
  refine zq_iload (pc' := 33) rfl rfl rfl rfl ?_
  refine zq_icge (pc' := 36) rfl rfl rfl rfl (And.intro (fun c => ?_) (fun c => ?_))
  · have H := H.1 c
    refine zq_ipush (pc' := 58) rfl rfl rfl ?_
    refine zq_istore (pc' := 60) rfl rfl rfl ?_
    refine zq_ipush (pc' := 61) rfl rfl rfl ?_
    refine zq_istore (pc' := 63) rfl rfl rfl ?_
    refine zq_ipush (pc' := 64) rfl rfl rfl ?_
    refine zq_istore_c (pc' := 66) rfl rfl ?_
    exact H
  · have H := H.2 c
    refine zq_aload (pc' := 37) rfl rfl rfl rfl ?_
    refine hq_callv (pc' := 40) rfl rfl rfl rfl rfl rfl h_Xi ?_
    refine hmonov H ?_
    intro g1 e2 H
    refine zq_iload (pc' := 42) rfl rfl rfl rfl ?_
    refine zq_aload (pc' := 43) rfl rfl rfl rfl ?_
    refine zq_iload (pc' := 45) rfl rfl rfl rfl ?_
    refine hq_calli (pc' := 48) rfl rfl rfl rfl rfl rfl h_Xi ?_
    refine hmonoi H ?_
    intro x5 g3 e4 H
    refine zq_iadd (pc' := 49) rfl rfl rfl ?_
    refine zq_istore (pc' := 51) rfl rfl rfl ?_
    refine zq_iinc (pc' := 54) rfl rfl rfl rfl ?_
    refine zq_goto_c (pc' := 30) rfl rfl ?_
    exact H
theorem zh_X7_years_66 {d : Nat} {k : Int32 → hG → hE → Prop} {X : Nat → hG → hE → Prop} {l3 : Int32} {l4 : Int32} {l5 : Int32} {l6 : Int32} {l7 : Int32} {g : hG} {e : hE} (H :
    hD (g.2.2 1000 2) ∧ 
    hci d 46 [.ref (g.2.2 1000 2)] g e (fun x4 g2 e3 =>
      zbr (x4 ≤ l7)
      (zbr (l3 = 0)
        (k l4 g2 e3)
        (zbr (l3 = 1)
          (k l5 g2 e3)
          (k l6 g2 e3)))
      (hcr d 206 [.ref 1000, .int l7] g2 e3 (fun a7 g5 e6 =>
          hT a7 = some hZ ∧ hci d 116 [.ref a7] g5 e6 (fun x11 g9 e10 =>
            hcr d 206 [.ref 1000, .int l7] g9 e10 (fun a14 g12 e13 =>
              hT a14 = some hZ ∧ hci d 123 [.ref a14] g12 e13 (fun x18 g16 e17 =>
                hwi d zm_X7_years k X 66 [(0, .ref 1000), (3, .int l3), (4, .int l4), (5, .int (l5 + x11)), (6, .int (l6 + x18)), (7, .int (l7 + 1))] g16 e17) X) X) X) X)) X) : hwi d zm_X7_years k X 66 [(0, .ref 1000), (3, .int l3), (4, .int l4), (5, .int l5), (6, .int l6), (7, .int l7)] g e := by
  refine zq_iload (pc' := 68) rfl rfl rfl rfl ?_
  refine zq_aload (pc' := 69) rfl rfl rfl rfl ?_
  obtain ⟨hr1, H⟩ := H
  refine zq_getR (pc' := 72) rfl rfl rfl (hp_gR rfl) ?_
  refine hq_calli (pc' := 75) rfl rfl rfl rfl rfl rfl h_Xi ?_
  refine hmonoi H ?_
  intro x4 g2 e3 H
  refine zq_icge (pc' := 78) rfl rfl rfl rfl (And.intro (fun c => ?_) (fun c => ?_))
  · have H := H.1 c
    refine zq_iload (pc' := 113) rfl rfl rfl rfl ?_
    refine zq_ifne (pc' := 116) rfl rfl rfl rfl (And.intro (fun c => ?_) (fun c => ?_))
    · have H := H.1 c
      refine zq_iload (pc' := 118) rfl rfl rfl rfl ?_
      refine zq_goto (pc' := 133) rfl rfl rfl ?_
      exact zq_iret rfl trivial (Exists.intro _ (Exists.intro _ (And.intro rfl H)))
    · have H := H.2 c
      refine zq_iload (pc' := 122) rfl rfl rfl rfl ?_
      refine zq_ipush (pc' := 123) rfl rfl rfl ?_
      refine zq_icne (pc' := 126) rfl rfl rfl rfl (And.intro (fun c => ?_) (fun c => ?_))
      · have H := H.1 c
        refine zq_iload (pc' := 128) rfl rfl rfl rfl ?_
        refine zq_goto (pc' := 133) rfl rfl rfl ?_
        exact zq_iret rfl trivial (Exists.intro _ (Exists.intro _ (And.intro rfl H)))
      · have H := H.2 c
        refine zq_iload (pc' := 133) rfl rfl rfl rfl ?_
        exact zq_iret rfl trivial (Exists.intro _ (Exists.intro _ (And.intro rfl H)))
  · have H := H.2 c
    refine zq_iload (pc' := 80) rfl rfl rfl rfl ?_
    refine zq_aload (pc' := 81) rfl rfl rfl rfl ?_
    refine zq_iload (pc' := 83) rfl rfl rfl rfl ?_
    refine hq_callr (pc' := 86) rfl rfl rfl rfl rfl rfl h_Xi ?_
    refine hmonor H ?_
    intro a7 g5 e6 H
    obtain ⟨hx8, H⟩ := H
    refine hq_calli (pc' := 89) rfl rfl rfl rfl rfl rfl h_Xi ?_
    refine hmonoi H ?_
    intro x11 g9 e10 H
    refine zq_iadd (pc' := 90) rfl rfl rfl ?_
    refine zq_istore (pc' := 92) rfl rfl rfl ?_
    refine zq_iload (pc' := 94) rfl rfl rfl rfl ?_
    refine zq_aload (pc' := 95) rfl rfl rfl rfl ?_
    refine zq_iload (pc' := 97) rfl rfl rfl rfl ?_
    refine hq_callr (pc' := 100) rfl rfl rfl rfl rfl rfl h_Xi ?_
    refine hmonor H ?_
    intro a14 g12 e13 H
    obtain ⟨hx15, H⟩ := H
    refine hq_calli (pc' := 103) rfl rfl rfl rfl rfl rfl h_Xi ?_
    refine hmonoi H ?_
    intro x18 g16 e17 H
    refine zq_iadd (pc' := 104) rfl rfl rfl ?_
    refine zq_istore (pc' := 106) rfl rfl rfl ?_
    refine zq_iinc (pc' := 109) rfl rfl rfl rfl ?_
    refine zq_goto_c (pc' := 66) rfl rfl ?_
    exact H
theorem zh_X7_drawChange {d : Nat} {k : hG → hE → Prop} {X : Nat → hG → hE → Prop}  {g : hG} {e : hE} (H :
    hci d 35 [.ref 1045, .int 6] g e (fun x3 g1 e2 =>
      zbr (2 < x3)
      (k g1 e2)
      (hD (g1.2.2 1000 2) ∧ 
        hci d 46 [.ref (g1.2.2 1000 2)] g1 e2 (fun x7 g5 e6 =>
          zbr (x7 = 0)
          (k g5 e6)
          (hD (g5.2.2 1000 2) ∧ 
            hci d 46 [.ref (g5.2.2 1000 2)] g5 e6 (fun x11 g9 e10 =>
              hci d 35 [.ref 1045, .int x11] g9 e10 (fun x14 g12 e13 =>
                hcr d 206 [.ref 1000, .int x14] g12 e13 (fun a17 g15 e16 =>
                  hT a17 = some hZ ∧ zbr (x3 = 0)
                  (hcv d 127 [.ref a17] g15 e16 (fun g19 e20 =>
                      k g19 e20) X)
                  (hci d 112 [.ref a17] g15 e16 (fun x23 g21 e22 =>
                      hci d 35 [.ref 1045, .int x23] g21 e22 (fun x26 g24 e25 =>
                        hci d 35 [.ref 1045, .int 2] g24 e25 (fun x29 g27 e28 =>
                          zbr (x3 = 1)
                          (hcv d 130 [.ref a17, .int x29, .int x26] g27 e28 (fun g30 e31 =>
                              k g30 e31) X)
                          (hcv d 131 [.ref a17, .int x29, .int x26] g27 e28 (fun g32 e33 =>
                              k g32 e33) X)) X) X) X)) X) X) X)) X)) X) : hcv (d + 1) 198 [.ref 1000] g e k X := by
  refine hent (M := zm_X7_drawChange) (show hT 1000 = some (.inr _) from rfl) rfl rfl rfl rfl rfl ?_
  refine zq_aload (pc' := 1) rfl rfl rfl rfl ?_
  refine zq_getR (pc' := 4) rfl rfl rfl (hp_gC rfl) ?_
  refine zq_ipush (pc' := 6) rfl rfl rfl ?_
  refine hq_calli (pc' := 9) rfl rfl rfl rfl rfl rfl h_Xv ?_
  refine hmonoi H ?_
  intro x3 g1 e2 H
  refine zq_istore (pc' := 10) rfl rfl rfl ?_
  refine zq_iload (pc' := 11) rfl rfl rfl rfl ?_
  refine zq_ipush (pc' := 12) rfl rfl rfl ?_
  refine zq_icgt (pc' := 15) rfl rfl rfl rfl (And.intro (fun c => ?_) (fun c => ?_))
  · have H := H.1 c
    exact zq_vret rfl (Exists.intro _ (Exists.intro _ (And.intro rfl H)))
  · have H := H.2 c
    refine zq_aload (pc' := 16) rfl rfl rfl rfl ?_
    obtain ⟨hr4, H⟩ := H
    refine zq_getR (pc' := 19) rfl rfl rfl (hp_gR rfl) ?_
    refine hq_calli (pc' := 22) rfl rfl rfl rfl rfl rfl h_Xv ?_
    refine hmonoi H ?_
    intro x7 g5 e6 H
    refine zq_ifne (pc' := 25) rfl rfl rfl rfl (And.intro (fun c => ?_) (fun c => ?_))
    · have H := H.1 c
      exact zq_vret rfl (Exists.intro _ (Exists.intro _ (And.intro rfl H)))
    · have H := H.2 c
      refine zq_aload (pc' := 27) rfl rfl rfl rfl ?_
      refine zq_aload (pc' := 28) rfl rfl rfl rfl ?_
      refine zq_getR (pc' := 31) rfl rfl rfl (hp_gC rfl) ?_
      refine zq_aload (pc' := 32) rfl rfl rfl rfl ?_
      obtain ⟨hr8, H⟩ := H
      refine zq_getR (pc' := 35) rfl rfl rfl (hp_gR rfl) ?_
      refine hq_calli (pc' := 38) rfl rfl rfl rfl rfl rfl h_Xv ?_
      refine hmonoi H ?_
      intro x11 g9 e10 H
      refine hq_calli (pc' := 41) rfl rfl rfl rfl rfl rfl h_Xv ?_
      refine hmonoi H ?_
      intro x14 g12 e13 H
      refine hq_callr (pc' := 44) rfl rfl rfl rfl rfl rfl h_Xv ?_
      refine hmonor H ?_
      intro a17 g15 e16 H
      obtain ⟨hx18, H⟩ := H
      refine zq_astore (pc' := 45) rfl rfl rfl ?_
      refine zq_iload (pc' := 46) rfl rfl rfl rfl ?_
      refine zq_ifne (pc' := 49) rfl rfl rfl rfl (And.intro (fun c => ?_) (fun c => ?_))
      · have H := H.1 c
        refine zq_aload (pc' := 50) rfl rfl rfl rfl ?_
        refine hq_callv (pc' := 53) rfl rfl rfl rfl rfl rfl h_Xv ?_
        refine hmonov H ?_
        intro g19 e20 H
        exact zq_vret rfl (Exists.intro _ (Exists.intro _ (And.intro rfl H)))
      · have H := H.2 c
        refine zq_aload (pc' := 55) rfl rfl rfl rfl ?_
        refine zq_getR (pc' := 58) rfl rfl rfl (hp_gC rfl) ?_
        refine zq_aload (pc' := 59) rfl rfl rfl rfl ?_
        refine hq_calli (pc' := 62) rfl rfl rfl rfl rfl rfl h_Xv ?_
        refine hmonoi H ?_
        intro x23 g21 e22 H
        refine hq_calli (pc' := 65) rfl rfl rfl rfl rfl rfl h_Xv ?_
        refine hmonoi H ?_
        intro x26 g24 e25 H
        refine zq_istore (pc' := 66) rfl rfl rfl ?_
        refine zq_aload (pc' := 67) rfl rfl rfl rfl ?_
        refine zq_getR (pc' := 70) rfl rfl rfl (hp_gC rfl) ?_
        refine zq_ipush (pc' := 71) rfl rfl rfl ?_
        refine hq_calli (pc' := 74) rfl rfl rfl rfl rfl rfl h_Xv ?_
        refine hmonoi H ?_
        intro x29 g27 e28 H
        refine zq_istore (pc' := 76) rfl rfl rfl ?_
        refine zq_iload (pc' := 77) rfl rfl rfl rfl ?_
        refine zq_ipush (pc' := 78) rfl rfl rfl ?_
        refine zq_icne (pc' := 81) rfl rfl rfl rfl (And.intro (fun c => ?_) (fun c => ?_))
        · have H := H.1 c
          refine zq_aload (pc' := 82) rfl rfl rfl rfl ?_
          refine zq_iload (pc' := 84) rfl rfl rfl rfl ?_
          refine zq_iload (pc' := 85) rfl rfl rfl rfl ?_
          refine hq_callv (pc' := 88) rfl rfl rfl rfl rfl rfl h_Xv ?_
          refine hmonov H ?_
          intro g30 e31 H
          refine zq_goto (pc' := 98) rfl rfl rfl ?_
          exact zq_vret rfl (Exists.intro _ (Exists.intro _ (And.intro rfl H)))
        · have H := H.2 c
          refine zq_aload (pc' := 92) rfl rfl rfl rfl ?_
          refine zq_iload (pc' := 94) rfl rfl rfl rfl ?_
          refine zq_iload (pc' := 95) rfl rfl rfl rfl ?_
          refine hq_callv (pc' := 98) rfl rfl rfl rfl rfl rfl h_Xv ?_
          refine hmonov H ?_
          intro g32 e33 H
          exact zq_vret rfl (Exists.intro _ (Exists.intro _ (And.intro rfl H)))
theorem zh_X7_image {d : Nat} {k : hG → hE → Prop} {X : Nat → hG → hE → Prop}  {g : hG} {e : hE} (H :
    hD (g.2.2 1000 2) ∧ 
    hcv d 25 [.ref 1027, .ref (g.2.2 1000 2)] g e (fun g2 e3 =>
      hcv d 29 [.ref 1032, .ref 1027] g2 e3 (fun g4 e5 =>
        k (sI g4 1000 5 1) e5) X) X) : hcv (d + 1) 199 [.ref 1000] g e k X := by
  refine hent (M := zm_X7_image) (show hT 1000 = some (.inr _) from rfl) rfl rfl rfl rfl rfl ?_
  refine zq_aload (pc' := 1) rfl rfl rfl rfl ?_
  refine zq_getR (pc' := 4) rfl rfl rfl (hp_gC rfl) ?_
  refine zq_aload (pc' := 5) rfl rfl rfl rfl ?_
  obtain ⟨hr1, H⟩ := H
  refine zq_getR (pc' := 8) rfl rfl rfl (hp_gR rfl) ?_
  refine hq_callv (pc' := 11) rfl rfl rfl rfl rfl rfl h_Xv ?_
  refine hmonov H ?_
  intro g2 e3 H
  refine zq_aload (pc' := 12) rfl rfl rfl rfl ?_
  refine zq_getR (pc' := 15) rfl rfl rfl (hp_gC rfl) ?_
  refine zq_aload (pc' := 16) rfl rfl rfl rfl ?_
  refine zq_getR (pc' := 19) rfl rfl rfl (hp_gC rfl) ?_
  refine hq_callv (pc' := 22) rfl rfl rfl rfl rfl rfl h_Xv ?_
  refine hmonov H ?_
  intro g4 e5 H
  refine zq_aload (pc' := 23) rfl rfl rfl rfl ?_
  refine zq_ipush (pc' := 24) rfl rfl rfl ?_
  refine zq_put (pc' := 27) rfl rfl rfl (Or.inr rfl) (hp_sI rfl) ?_
  exact zq_vret rfl (Exists.intro _ (Exists.intro _ (And.intro rfl H)))
theorem zh_X7_restore {d : Nat} {k : Int32 → hG → hE → Prop} {X : Nat → hG → hE → Prop}  {g : hG} {e : hE} (H :
    zbr ((g.1 1000 5) = 0)
    (k 0 g e)
    (hcv d 29 [.ref 1027, .ref 1032] g e (fun g1 e2 =>
        hD (g1.2.2 1000 2) ∧ 
        hcv d 26 [.ref 1027, .ref (g1.2.2 1000 2)] g1 e2 (fun g4 e5 =>
          k 1 g4 e5) X) X)) : hci (d + 1) 200 [.ref 1000] g e k X := by
  refine hent (M := zm_X7_restore) (show hT 1000 = some (.inr _) from rfl) rfl rfl rfl rfl rfl ?_
  refine zq_aload (pc' := 1) rfl rfl rfl rfl ?_
  refine zq_getI (pc' := 4) rfl rfl rfl (hp_gI rfl) ?_
  refine zq_ifne (pc' := 7) rfl rfl rfl rfl (And.intro (fun c => ?_) (fun c => ?_))
  · have H := H.1 c
    refine zq_ipush (pc' := 8) rfl rfl rfl ?_
    exact zq_iret rfl (Or.inl rfl) (Exists.intro _ (Exists.intro _ (And.intro rfl H)))
  · have H := H.2 c
    refine zq_aload (pc' := 10) rfl rfl rfl rfl ?_
    refine zq_getR (pc' := 13) rfl rfl rfl (hp_gC rfl) ?_
    refine zq_aload (pc' := 14) rfl rfl rfl rfl ?_
    refine zq_getR (pc' := 17) rfl rfl rfl (hp_gC rfl) ?_
    refine hq_callv (pc' := 20) rfl rfl rfl rfl rfl rfl h_Xi ?_
    refine hmonov H ?_
    intro g1 e2 H
    refine zq_aload (pc' := 21) rfl rfl rfl rfl ?_
    refine zq_getR (pc' := 24) rfl rfl rfl (hp_gC rfl) ?_
    refine zq_aload (pc' := 25) rfl rfl rfl rfl ?_
    obtain ⟨hr3, H⟩ := H
    refine zq_getR (pc' := 28) rfl rfl rfl (hp_gR rfl) ?_
    refine hq_callv (pc' := 31) rfl rfl rfl rfl rfl rfl h_Xi ?_
    refine hmonov H ?_
    intro g4 e5 H
    refine zq_ipush (pc' := 32) rfl rfl rfl ?_
    exact zq_iret rfl (Or.inr rfl) (Exists.intro _ (Exists.intro _ (And.intro rfl H)))
theorem zh_X7_theZip {d : Nat} {k : Nat → hG → hE → Prop} {X : Nat → hG → hE → Prop} {p1 : Int32} {g : hG} {e : hE} (H :
    hD (g.2.2 1000 2) ∧ 
    hci d 47 [.ref (g.2.2 1000 2), .int p1] g e (fun x4 g2 e3 =>
      zbr (x4 = 0)
      (hrm e3 ∧ X 1 g2 (hth e3))
      (hD (g2.2.2 1000 2) ∧ 
        hcr d 48 [.ref (g2.2.2 1000 2), .int p1] g2 e3 (fun a8 g6 e7 =>
          hT a8 = some hZ ∧ k a8 g6 e7) X)) X) : hcr (d + 1) 201 [.ref 1000, .int p1] g e k X := by
  refine hent (M := zm_X7_theZip) (show hT 1000 = some (.inr _) from rfl) rfl rfl rfl rfl rfl ?_
  refine zq_aload (pc' := 1) rfl rfl rfl rfl ?_
  obtain ⟨hr1, H⟩ := H
  refine zq_getR (pc' := 4) rfl rfl rfl (hp_gR rfl) ?_
  refine zq_iload (pc' := 5) rfl rfl rfl rfl ?_
  refine hq_calli (pc' := 8) rfl rfl rfl rfl rfl rfl h_Xr ?_
  refine hmonoi H ?_
  intro x4 g2 e3 H
  refine zq_ifne (pc' := 11) rfl rfl rfl rfl (And.intro (fun c => ?_) (fun c => ?_))
  · have H := H.1 c
    obtain ⟨e0, H⟩ := H
    exact zq_throw rfl rfl (hp_nx e0) (Exists.intro _ (Exists.intro _ (And.intro rfl H)))
  · have H := H.2 c
    refine zq_aload (pc' := 23) rfl rfl rfl rfl ?_
    obtain ⟨hr5, H⟩ := H
    refine zq_getR (pc' := 26) rfl rfl rfl (hp_gR rfl) ?_
    refine zq_iload (pc' := 27) rfl rfl rfl rfl ?_
    refine hq_callr (pc' := 30) rfl rfl rfl rfl rfl rfl h_Xr ?_
    refine hmonor H ?_
    intro a8 g6 e7 H
    obtain ⟨hx9, H⟩ := H
    exact zq_aret rfl (Exists.intro _ (Exists.intro _ (And.intro rfl H)))
theorem zh_X7_checkPlace {d : Nat} {k : hG → hE → Prop} {X : Nat → hG → hE → Prop} {p0 : Nat} (hp0 : hT p0 = some hZ) {p1 : Int32} {g : hG} {e : hE} (H :
    zbr (p1 < 0)
    (hrm e ∧ X 1 g (hth e))
    (hci d 112 [.ref p0] g e (fun x3 g1 e2 =>
        zbr (p1 < x3)
        (k g1 e2)
        (hrm e2 ∧ X 1 g1 (hth e2))) X)) : hcv (d + 1) 202 [.ref p0, .int p1] g e k X := by
  refine hentS (M := zm_X7_checkPlace) rfl rfl rfl rfl ?_
  refine zq_iload (pc' := 1) rfl rfl rfl rfl ?_
  refine zq_iflt (pc' := 4) rfl rfl rfl rfl (And.intro (fun c => ?_) (fun c => ?_))
  · have H := H.1 c
    obtain ⟨e0, H⟩ := H
    exact zq_throw rfl rfl (hp_nx e0) (Exists.intro _ (Exists.intro _ (And.intro rfl H)))
  · have H := H.2 c
    refine zq_iload (pc' := 5) rfl rfl rfl rfl ?_
    refine zq_aload (pc' := 6) rfl rfl rfl rfl ?_
    refine hq_calli (pc' := 9) rfl rfl rfl rfl rfl rfl h_Xv ?_
    refine hmonoi H ?_
    intro x3 g1 e2 H
    refine zq_iclt (pc' := 12) rfl rfl rfl rfl (And.intro (fun c => ?_) (fun c => ?_))
    · have H := H.1 c
      exact zq_vret rfl (Exists.intro _ (Exists.intro _ (And.intro rfl H)))
    · have H := H.2 c
      obtain ⟨e0, H⟩ := H
      exact zq_throw rfl rfl (hp_nx e0) (Exists.intro _ (Exists.intro _ (And.intro rfl H)))
theorem zh_X7_checkTape {d : Nat} {k : hG → hE → Prop} {X : Nat → hG → hE → Prop} {p0 : Int32} {g : hG} {e : hE} (H :
    zbr (p0 = 0)
    (k g e)
    (zbr (p0 = 1)
      (k g e)
      (hrm e ∧ X 1 g (hth e)))) : hcv (d + 1) 203 [.int p0] g e k X := by
  refine hentS (M := zm_X7_checkTape) rfl rfl rfl rfl ?_
  refine zq_iload (pc' := 1) rfl rfl rfl rfl ?_
  refine zq_ifeq (pc' := 4) rfl rfl rfl rfl (And.intro (fun c => ?_) (fun c => ?_))
  · have H := H.1 c
    exact zq_vret rfl (Exists.intro _ (Exists.intro _ (And.intro rfl H)))
  · have H := H.2 c
    refine zq_iload (pc' := 5) rfl rfl rfl rfl ?_
    refine zq_ipush (pc' := 6) rfl rfl rfl ?_
    refine zq_iceq (pc' := 9) rfl rfl rfl rfl (And.intro (fun c => ?_) (fun c => ?_))
    · have H := H.1 c
      exact zq_vret rfl (Exists.intro _ (Exists.intro _ (And.intro rfl H)))
    · have H := H.2 c
      obtain ⟨e0, H⟩ := H
      exact zq_throw rfl rfl (hp_nx e0) (Exists.intro _ (Exists.intro _ (And.intro rfl H)))
theorem zh_X7_checkWhat {d : Nat} {k : hG → hE → Prop} {X : Nat → hG → hE → Prop} {p0 : Int32} {p1 : Int32} {g : hG} {e : hE} (H :
    zbr (p0 < 0)
    (hrm e ∧ X 1 g (hth e))
    (zbr (p0 < p1)
      (k g e)
      (hrm e ∧ X 1 g (hth e)))) : hcv (d + 1) 204 [.int p0, .int p1] g e k X := by
  refine hentS (M := zm_X7_checkWhat) rfl rfl rfl rfl ?_
  refine zq_iload (pc' := 1) rfl rfl rfl rfl ?_
  refine zq_iflt (pc' := 4) rfl rfl rfl rfl (And.intro (fun c => ?_) (fun c => ?_))
  · have H := H.1 c
    obtain ⟨e0, H⟩ := H
    exact zq_throw rfl rfl (hp_nx e0) (Exists.intro _ (Exists.intro _ (And.intro rfl H)))
  · have H := H.2 c
    refine zq_iload (pc' := 5) rfl rfl rfl rfl ?_
    refine zq_iload (pc' := 6) rfl rfl rfl rfl ?_
    refine zq_iclt (pc' := 9) rfl rfl rfl rfl (And.intro (fun c => ?_) (fun c => ?_))
    · have H := H.1 c
      exact zq_vret rfl (Exists.intro _ (Exists.intro _ (And.intro rfl H)))
    · have H := H.2 c
      obtain ⟨e0, H⟩ := H
      exact zq_throw rfl rfl (hp_nx e0) (Exists.intro _ (Exists.intro _ (And.intro rfl H)))
theorem zh_X7_checkRange {d : Nat} {k : hG → hE → Prop} {X : Nat → hG → hE → Prop} {p0 : Int32} {p1 : Int32} {p2 : Int32} {g : hG} {e : hE} (H :
    zbr (p0 < p1)
    (hrm e ∧ X 0 g (hth e))
    (zbr (p0 ≤ p2)
      (k g e)
      (hrm e ∧ X 0 g (hth e)))) : hcv (d + 1) 205 [.int p0, .int p1, .int p2] g e k X := by
  refine hentS (M := zm_X7_checkRange) rfl rfl rfl rfl ?_
  refine zq_iload (pc' := 1) rfl rfl rfl rfl ?_
  refine zq_iload (pc' := 2) rfl rfl rfl rfl ?_
  refine zq_iclt (pc' := 5) rfl rfl rfl rfl (And.intro (fun c => ?_) (fun c => ?_))
  · have H := H.1 c
    obtain ⟨e0, H⟩ := H
    exact zq_throw rfl rfl (hp_nx e0) (Exists.intro _ (Exists.intro _ (And.intro rfl H)))
  · have H := H.2 c
    refine zq_iload (pc' := 6) rfl rfl rfl rfl ?_
    refine zq_iload (pc' := 7) rfl rfl rfl rfl ?_
    refine zq_icle (pc' := 10) rfl rfl rfl rfl (And.intro (fun c => ?_) (fun c => ?_))
    · have H := H.1 c
      exact zq_vret rfl (Exists.intro _ (Exists.intro _ (And.intro rfl H)))
    · have H := H.2 c
      obtain ⟨e0, H⟩ := H
      exact zq_throw rfl rfl (hp_nx e0) (Exists.intro _ (Exists.intro _ (And.intro rfl H)))
theorem zh_X7_trialAt {d : Nat} {k : Nat → hG → hE → Prop} {X : Nat → hG → hE → Prop} {p1 : Int32} {g : hG} {e : hE} (H :
    zbr (p1 < 0)
    (hrm e ∧ X 1 g (hth e))
    (zbr (p1 < (nI 4))
      (∃ a2 : Nat, hin p1 4 ∧ hR 1037 p1.toNatClampNeg = some a2 ∧ hT a2 = some hZ ∧
        k a2 g e)
      (hrm e ∧ X 1 g (hth e)))) : hcr (d + 1) 206 [.ref 1000, .int p1] g e k X := by
  refine hent (M := zm_X7_trialAt) (show hT 1000 = some (.inr _) from rfl) rfl rfl rfl rfl rfl ?_
  refine zq_iload (pc' := 1) rfl rfl rfl rfl ?_
  refine zq_iflt (pc' := 4) rfl rfl rfl rfl (And.intro (fun c => ?_) (fun c => ?_))
  · have H := H.1 c
    obtain ⟨e0, H⟩ := H
    exact zq_throw rfl rfl (hp_nx e0) (Exists.intro _ (Exists.intro _ (And.intro rfl H)))
  · have H := H.2 c
    refine zq_iload (pc' := 5) rfl rfl rfl rfl ?_
    refine zq_aload (pc' := 6) rfl rfl rfl rfl ?_
    refine zq_getR (pc' := 9) rfl rfl rfl (hp_gC rfl) ?_
    refine zq_alen (pc' := 10) rfl rfl rfl (hp_al rfl rfl) ?_
    refine zq_iclt (pc' := 13) rfl rfl rfl rfl (And.intro (fun c => ?_) (fun c => ?_))
    · have H := H.1 c
      refine zq_aload (pc' := 25) rfl rfl rfl rfl ?_
      refine zq_getR (pc' := 28) rfl rfl rfl (hp_gC rfl) ?_
      refine zq_iload (pc' := 29) rfl rfl rfl rfl ?_
      obtain ⟨a2, hi1, hx3, hya2, H⟩ := H
      refine zq_aald (pc' := 30) rfl rfl rfl (hp_aa rfl (Or.inl rfl) hi1 hx3) ?_
      exact zq_aret rfl (Exists.intro _ (Exists.intro _ (And.intro rfl H)))
    · have H := H.2 c
      obtain ⟨e0, H⟩ := H
      exact zq_throw rfl rfl (hp_nx e0) (Exists.intro _ (Exists.intro _ (And.intro rfl H)))
theorem zh_X7_trialOf {d : Nat} {k : Nat → hG → hE → Prop} {X : Nat → hG → hE → Prop} {p1 : Int32} {g : hG} {e : hE} (H :
    hcr d 201 [.ref 1000, .int p1] g e (fun a3 g1 e2 =>
      hT a3 = some hZ ∧ hcr d 206 [.ref 1000, .int p1] g1 e2 (fun a7 g5 e6 =>
        hT a7 = some hZ ∧ hcv d 109 [.ref a7, .ref a3] g5 e6 (fun g9 e10 =>
          k a7 g9 e10) X) X) X) : hcr (d + 1) 207 [.ref 1000, .int p1] g e k X := by
  refine hent (M := zm_X7_trialOf) (show hT 1000 = some (.inr _) from rfl) rfl rfl rfl rfl rfl ?_
  refine zq_aload (pc' := 1) rfl rfl rfl rfl ?_
  refine zq_iload (pc' := 2) rfl rfl rfl rfl ?_
  refine hq_callr (pc' := 5) rfl rfl rfl rfl rfl rfl h_Xr ?_
  refine hmonor H ?_
  intro a3 g1 e2 H
  obtain ⟨hx4, H⟩ := H
  refine zq_astore (pc' := 6) rfl rfl rfl ?_
  refine zq_aload (pc' := 7) rfl rfl rfl rfl ?_
  refine zq_iload (pc' := 8) rfl rfl rfl rfl ?_
  refine hq_callr (pc' := 11) rfl rfl rfl rfl rfl rfl h_Xr ?_
  refine hmonor H ?_
  intro a7 g5 e6 H
  obtain ⟨hx8, H⟩ := H
  refine zq_astore (pc' := 12) rfl rfl rfl ?_
  refine zq_aload (pc' := 13) rfl rfl rfl rfl ?_
  refine zq_aload (pc' := 14) rfl rfl rfl rfl ?_
  refine hq_callv (pc' := 17) rfl rfl rfl rfl rfl rfl h_Xr ?_
  refine hmonov H ?_
  intro g9 e10 H
  refine zq_aload (pc' := 18) rfl rfl rfl rfl ?_
  exact zq_aret rfl (Exists.intro _ (Exists.intro _ (And.intro rfl H)))
theorem zh_X7_tryAll {d : Nat} {k : hG → hE → Prop} {X : Nat → hG → hE → Prop}  {g : hG} {e : hE} (H :
    hwv d zm_X7_tryAll k X 2 [(0, .ref 1000), (1, .int 0)] g e) : hcv (d + 1) 208 [.ref 1000] g e k X := by
  refine hent (M := zm_X7_tryAll) (show hT 1000 = some (.inr _) from rfl) rfl rfl rfl rfl rfl ?_
  refine zq_ipush (pc' := 1) rfl rfl rfl ?_
  refine zq_istore_c (pc' := 2) rfl rfl ?_
  exact H
theorem zh_X7_tryAll_2 {d : Nat} {k : hG → hE → Prop} {X : Nat → hG → hE → Prop} {l1 : Int32} {g : hG} {e : hE} (H :
    hD (g.2.2 1000 2) ∧ 
    hci d 46 [.ref (g.2.2 1000 2)] g e (fun x4 g2 e3 =>
      zbr (x4 ≤ l1)
      (k g2 e3)
      (hcr d 207 [.ref 1000, .int l1] g2 e3 (fun a7 g5 e6 =>
          hT a7 = some hZ ∧ hwv d zm_X7_tryAll k X 2 [(0, .ref 1000), (1, .int (l1 + 1))] g5 e6) X)) X) : hwv d zm_X7_tryAll k X 2 [(0, .ref 1000), (1, .int l1)] g e := by
  refine zq_iload (pc' := 3) rfl rfl rfl rfl ?_
  refine zq_aload (pc' := 4) rfl rfl rfl rfl ?_
  obtain ⟨hr1, H⟩ := H
  refine zq_getR (pc' := 7) rfl rfl rfl (hp_gR rfl) ?_
  refine hq_calli (pc' := 10) rfl rfl rfl rfl rfl rfl h_Xv ?_
  refine hmonoi H ?_
  intro x4 g2 e3 H
  refine zq_icge (pc' := 13) rfl rfl rfl rfl (And.intro (fun c => ?_) (fun c => ?_))
  · have H := H.1 c
    exact zq_vret rfl (Exists.intro _ (Exists.intro _ (And.intro rfl H)))
  · have H := H.2 c
    refine zq_aload (pc' := 14) rfl rfl rfl rfl ?_
    refine zq_iload (pc' := 15) rfl rfl rfl rfl ?_
    refine hq_callr (pc' := 18) rfl rfl rfl rfl rfl rfl h_Xv ?_
    refine hmonor H ?_
    intro a7 g5 e6 H
    obtain ⟨hx8, H⟩ := H
    refine zq_pop (pc' := 19) rfl rfl rfl rfl ?_
    refine zq_iinc (pc' := 22) rfl rfl rfl rfl ?_
    refine zq_goto_c (pc' := 2) rfl rfl ?_
    exact H
theorem zh_X7_passAll {d : Nat} {k : Int32 → hG → hE → Prop} {X : Nat → hG → hE → Prop} {p1 : Int32} {g : hG} {e : hE} (H :
    hwi d zm_X7_passAll k X 4 [(0, .ref 1000), (1, .int p1), (2, .int 0), (3, .int 0)] g e) : hci (d + 1) 209 [.ref 1000, .int p1] g e k X := by
  refine hent (M := zm_X7_passAll) (show hT 1000 = some (.inr _) from rfl) rfl rfl rfl rfl rfl ?_
  refine zq_ipush (pc' := 1) rfl rfl rfl ?_
  refine zq_istore (pc' := 2) rfl rfl rfl ?_
  refine zq_ipush (pc' := 3) rfl rfl rfl ?_
  refine zq_istore_c (pc' := 4) rfl rfl ?_
  exact H
theorem zh_X7_passAll_4 {d : Nat} {k : Int32 → hG → hE → Prop} {X : Nat → hG → hE → Prop} {l1 : Int32} {l2 : Int32} {l3 : Int32} {g : hG} {e : hE} (H :
    hD (g.2.2 1000 2) ∧ 
    hci d 46 [.ref (g.2.2 1000 2)] g e (fun x4 g2 e3 =>
      zbr (x4 ≤ l3)
      (k l2 g2 e3)
      (hcr d 206 [.ref 1000, .int l3] g2 e3 (fun a7 g5 e6 =>
          hT a7 = some hZ ∧ hci d 210 [.ref 1000, .ref a7, .int l1] g5 e6 (fun x11 g9 e10 =>
            hci d 0 [.int x11] g9 e10 (fun x14 g12 e13 =>
              hwi d zm_X7_passAll k X 4 [(0, .ref 1000), (1, .int l1), (2, .int (l2 + x14)), (3, .int (l3 + 1))] g12 e13) X) X) X)) X) : hwi d zm_X7_passAll k X 4 [(0, .ref 1000), (1, .int l1), (2, .int l2), (3, .int l3)] g e := by
  refine zq_iload (pc' := 5) rfl rfl rfl rfl ?_
  refine zq_aload (pc' := 6) rfl rfl rfl rfl ?_
  obtain ⟨hr1, H⟩ := H
  refine zq_getR (pc' := 9) rfl rfl rfl (hp_gR rfl) ?_
  refine hq_calli (pc' := 12) rfl rfl rfl rfl rfl rfl h_Xi ?_
  refine hmonoi H ?_
  intro x4 g2 e3 H
  refine zq_icge (pc' := 15) rfl rfl rfl rfl (And.intro (fun c => ?_) (fun c => ?_))
  · have H := H.1 c
    refine zq_iload (pc' := 38) rfl rfl rfl rfl ?_
    exact zq_iret rfl trivial (Exists.intro _ (Exists.intro _ (And.intro rfl H)))
  · have H := H.2 c
    refine zq_iload (pc' := 16) rfl rfl rfl rfl ?_
    refine zq_aload (pc' := 17) rfl rfl rfl rfl ?_
    refine zq_aload (pc' := 18) rfl rfl rfl rfl ?_
    refine zq_iload (pc' := 19) rfl rfl rfl rfl ?_
    refine hq_callr (pc' := 22) rfl rfl rfl rfl rfl rfl h_Xi ?_
    refine hmonor H ?_
    intro a7 g5 e6 H
    obtain ⟨hx8, H⟩ := H
    refine zq_iload (pc' := 23) rfl rfl rfl rfl ?_
    refine hq_calli (pc' := 26) rfl rfl rfl rfl rfl rfl h_Xi ?_
    refine hmonoi H ?_
    intro x11 g9 e10 H
    refine hq_calli (pc' := 29) rfl rfl rfl rfl rfl rfl h_Xi ?_
    refine hmonoi H ?_
    intro x14 g12 e13 H
    refine zq_iadd (pc' := 30) rfl rfl rfl ?_
    refine zq_istore (pc' := 31) rfl rfl rfl ?_
    refine zq_iinc (pc' := 34) rfl rfl rfl rfl ?_
    refine zq_goto_c (pc' := 4) rfl rfl ?_
    exact H
theorem zh_X7_passDay {d : Nat} {k : Int32 → hG → hE → Prop} {X : Nat → hG → hE → Prop} {p1 : Nat} (hp1 : hT p1 = some hZ) {p2 : Int32} {g : hG} {e : hE} (H :
    hD (g.2.2 1000 2) ∧ 
    hci d 49 [.ref (g.2.2 1000 2)] g e (fun x4 g2 e3 =>
      hD (g2.2.2 1000 2) ∧ 
      hD (g2.2.2 1000 2) ∧ 
      hci d 53 [.ref (g2.2.2 1000 2), .int (x4 + p2)] g2 e3 (fun x9 g7 e8 =>
        hci d 58 [.ref (g2.2.2 1000 2), .ref p1, .int x9, .int (x4 + p2)] g7 e8 (fun x12 g10 e11 =>
          k x12 g10 e11) X) X) X) : hci (d + 1) 210 [.ref 1000, .ref p1, .int p2] g e k X := by
  refine hent (M := zm_X7_passDay) (show hT 1000 = some (.inr _) from rfl) rfl rfl rfl rfl rfl ?_
  refine zq_aload (pc' := 1) rfl rfl rfl rfl ?_
  obtain ⟨hr1, H⟩ := H
  refine zq_getR (pc' := 4) rfl rfl rfl (hp_gR rfl) ?_
  refine hq_calli (pc' := 7) rfl rfl rfl rfl rfl rfl h_Xi ?_
  refine hmonoi H ?_
  intro x4 g2 e3 H
  refine zq_iload (pc' := 8) rfl rfl rfl rfl ?_
  refine zq_iadd (pc' := 9) rfl rfl rfl ?_
  refine zq_istore (pc' := 10) rfl rfl rfl ?_
  refine zq_aload (pc' := 11) rfl rfl rfl rfl ?_
  obtain ⟨hr5, H⟩ := H
  refine zq_getR (pc' := 14) rfl rfl rfl (hp_gR rfl) ?_
  refine zq_aload (pc' := 15) rfl rfl rfl rfl ?_
  refine zq_aload (pc' := 16) rfl rfl rfl rfl ?_
  obtain ⟨hr6, H⟩ := H
  refine zq_getR (pc' := 19) rfl rfl rfl (hp_gR rfl) ?_
  refine zq_iload (pc' := 20) rfl rfl rfl rfl ?_
  refine hq_calli (pc' := 23) rfl rfl rfl rfl rfl rfl h_Xi ?_
  refine hmonoi H ?_
  intro x9 g7 e8 H
  refine zq_iload (pc' := 24) rfl rfl rfl rfl ?_
  refine hq_calli (pc' := 27) rfl rfl rfl rfl rfl rfl h_Xi ?_
  refine hmonoi H ?_
  intro x12 g10 e11 H
  exact zq_iret rfl trivial (Exists.intro _ (Exists.intro _ (And.intro rfl H)))
theorem zh_X7_passDays {d : Nat} {k : Int32 → hG → hE → Prop} {X : Nat → hG → hE → Prop} {p1 : Nat} (hp1 : hT p1 = some hZ) {p2 : Int32} {g : hG} {e : hE} (H :
    hwi d zm_X7_passDays k X 5 [(0, .ref 1000), (1, .ref p1), (2, .int p2), (3, .int 0), (4, .int 0)] g e) : hci (d + 1) 211 [.ref 1000, .ref p1, .int p2] g e k X := by
  refine hent (M := zm_X7_passDays) (show hT 1000 = some (.inr _) from rfl) rfl rfl rfl rfl rfl ?_
  refine zq_ipush (pc' := 1) rfl rfl rfl ?_
  refine zq_istore (pc' := 2) rfl rfl rfl ?_
  refine zq_ipush (pc' := 3) rfl rfl rfl ?_
  refine zq_istore_c (pc' := 5) rfl rfl ?_
  exact H
theorem zh_X7_passDays_5 {d : Nat} {k : Int32 → hG → hE → Prop} {X : Nat → hG → hE → Prop} {l1 : Nat} (hl1 : hT l1 = some hZ) {l2 : Int32} {l3 : Int32} {l4 : Int32} {g : hG} {e : hE} (H :
    zbr (l2 ≤ l4)
    (k l3 g e)
    (hci d 115 [.ref l1] g e (fun x3 g1 e2 =>
        zbr (x3 = 0)
        (k l3 g1 e2)
        (hD (g1.2.2 1000 2) ∧ 
          hci d 49 [.ref (g1.2.2 1000 2)] g1 e2 (fun x7 g5 e6 =>
            hD (g5.2.2 1000 2) ∧ 
            hD (g5.2.2 1000 2) ∧ 
            hci d 53 [.ref (g5.2.2 1000 2), .int (x7 + l4)] g5 e6 (fun x12 g10 e11 =>
              hci d 58 [.ref (g5.2.2 1000 2), .ref l1, .int x12, .int (x7 + l4)] g10 e11 (fun x15 g13 e14 =>
                hci d 0 [.int x15] g13 e14 (fun x18 g16 e17 =>
                  hwi d zm_X7_passDays k X 5 [(0, .ref 1000), (1, .ref l1), (2, .int l2), (3, .int (l3 + x18)), (4, .int (l4 + 1))] g16 e17) X) X) X) X)) X)) : hwi d zm_X7_passDays k X 5 [(0, .ref 1000), (1, .ref l1), (2, .int l2), (3, .int l3), (4, .int l4)] g e := by
  refine zq_iload (pc' := 7) rfl rfl rfl rfl ?_
  refine zq_iload (pc' := 8) rfl rfl rfl rfl ?_
  refine zq_icge (pc' := 11) rfl rfl rfl rfl (And.intro (fun c => ?_) (fun c => ?_))
  · have H := H.1 c
    refine zq_iload (pc' := 62) rfl rfl rfl rfl ?_
    exact zq_iret rfl trivial (Exists.intro _ (Exists.intro _ (And.intro rfl H)))
  · have H := H.2 c
    refine zq_aload (pc' := 12) rfl rfl rfl rfl ?_
    refine hq_calli (pc' := 15) rfl rfl rfl rfl rfl rfl h_Xi ?_
    refine hmonoi H ?_
    intro x3 g1 e2 H
    refine zq_ifeq (pc' := 18) rfl rfl rfl rfl (And.intro (fun c => ?_) (fun c => ?_))
    · have H := H.1 c
      refine zq_iload (pc' := 62) rfl rfl rfl rfl ?_
      exact zq_iret rfl trivial (Exists.intro _ (Exists.intro _ (And.intro rfl H)))
    · have H := H.2 c
      refine zq_aload (pc' := 19) rfl rfl rfl rfl ?_
      obtain ⟨hr4, H⟩ := H
      refine zq_getR (pc' := 22) rfl rfl rfl (hp_gR rfl) ?_
      refine hq_calli (pc' := 25) rfl rfl rfl rfl rfl rfl h_Xi ?_
      refine hmonoi H ?_
      intro x7 g5 e6 H
      refine zq_iload (pc' := 27) rfl rfl rfl rfl ?_
      refine zq_iadd (pc' := 28) rfl rfl rfl ?_
      refine zq_istore (pc' := 30) rfl rfl rfl ?_
      refine zq_iload (pc' := 31) rfl rfl rfl rfl ?_
      refine zq_aload (pc' := 32) rfl rfl rfl rfl ?_
      obtain ⟨hr8, H⟩ := H
      refine zq_getR (pc' := 35) rfl rfl rfl (hp_gR rfl) ?_
      refine zq_aload (pc' := 36) rfl rfl rfl rfl ?_
      refine zq_aload (pc' := 37) rfl rfl rfl rfl ?_
      obtain ⟨hr9, H⟩ := H
      refine zq_getR (pc' := 40) rfl rfl rfl (hp_gR rfl) ?_
      refine zq_iload (pc' := 42) rfl rfl rfl rfl ?_
      refine hq_calli (pc' := 45) rfl rfl rfl rfl rfl rfl h_Xi ?_
      refine hmonoi H ?_
      intro x12 g10 e11 H
      refine zq_iload (pc' := 47) rfl rfl rfl rfl ?_
      refine hq_calli (pc' := 50) rfl rfl rfl rfl rfl rfl h_Xi ?_
      refine hmonoi H ?_
      intro x15 g13 e14 H
      refine hq_calli (pc' := 53) rfl rfl rfl rfl rfl rfl h_Xi ?_
      refine hmonoi H ?_
      intro x18 g16 e17 H
      refine zq_iadd (pc' := 54) rfl rfl rfl ?_
      refine zq_istore (pc' := 55) rfl rfl rfl ?_
      refine zq_iinc (pc' := 58) rfl rfl rfl rfl ?_
      refine zq_goto_c (pc' := 5) rfl rfl ?_
      exact H
theorem zh_X7_closedBehind {d : Nat} {k : Int32 → hG → hE → Prop} {X : Nat → hG → hE → Prop} {p1 : Nat} (hp1 : hT p1 = some hZ) {p2 : Int32} {g : hG} {e : hE} (H :
    hci d 211 [.ref 1000, .ref p1, .int p2] g e (fun x3 g1 e2 =>
      hci d 116 [.ref p1] g1 e2 (fun x6 g4 e5 =>
        k x6 g4 e5) X) X) : hci (d + 1) 212 [.ref 1000, .ref p1, .int p2] g e k X := by
  refine hent (M := zm_X7_closedBehind) (show hT 1000 = some (.inr _) from rfl) rfl rfl rfl rfl rfl ?_
  refine zq_aload (pc' := 1) rfl rfl rfl rfl ?_
  refine zq_aload (pc' := 2) rfl rfl rfl rfl ?_
  refine zq_iload (pc' := 3) rfl rfl rfl rfl ?_
  refine hq_calli (pc' := 6) rfl rfl rfl rfl rfl rfl h_Xi ?_
  refine hmonoi H ?_
  intro x3 g1 e2 H
  refine zq_pop (pc' := 7) rfl rfl rfl rfl ?_
  refine zq_aload (pc' := 8) rfl rfl rfl rfl ?_
  refine hq_calli (pc' := 11) rfl rfl rfl rfl rfl rfl h_Xi ?_
  refine hmonoi H ?_
  intro x6 g4 e5 H
  exact zq_iret rfl trivial (Exists.intro _ (Exists.intro _ (And.intro rfl H)))
