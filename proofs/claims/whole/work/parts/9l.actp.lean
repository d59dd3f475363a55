/-! restore, fault, feed, count of the model -/
section
variable {d : Nat} {k : Int32 → hG → hE → Prop} {kv : hG → hE → Prop} {X : Nat → hG → hE → Prop} {g : hG} {e : hE} {x : sX} {s : sS}
theorem ms_restore (hm : RM g s) (H : ∀ g' u, mfr g g' → RM g' (r_restore s).2 → om c12 (r_restore s).1 u g' → k u g' e) : hci (d + 3) 331 [.ref 1046] g e k X := by
  have m0 : RM (sI g 1046 4 0) s := RM_code hm
  have f0 : mfr g (sI g 1046 4 0) := mfr_code
  have k0 : (sI g 1046 4 0).1 1046 4 = 0 := code_at
  have h4 := hm.1.1.1.2
  refine zh_X8_restore ?_
  generalize sI g 1046 4 0 = g0 at *
  obtain ⟨h1, h2, h3, h5, h6⟩ := id m0
  unfold r_restore at H
  unfold mkp at h3
  cases hk : s.2.2.1 with
  | none =>
    rw [hk] at H h3
    exact zbr_t h3 (H _ _ f0 m0 ⟨rfl, k0⟩)
  | some r =>
    rw [hk] at H h3
    obtain ⟨kk, kb, kp⟩ := h3
    refine zbr_f (by rw [kk]; decide) ?_
    rintro g1 rfl
    have F1 : fr [] [32, 33] g0 (sI (sI g0 1046 32 (g0.1 1046 53)) 1046 33 ((sI g0 1046 32 (g0.1 1046 53)).1 1046 54)) := (fr.refl.F (by decide)).F (by decide)
    have k32 : (sI (sI g0 1046 32 (g0.1 1046 53)) 1046 33 ((sI g0 1046 32 (g0.1 1046 53)).1 1046 54)).1 1046 32 = g0.1 1046 53 := by rw [sI_at, upd_off _ _ (by decide), sI_at, upd_at]
    have k33 : (sI (sI g0 1046 32 (g0.1 1046 53)) 1046 33 ((sI g0 1046 32 (g0.1 1046 53)).1 1046 54)).1 1046 33 = g0.1 1046 54 := by rw [sI_at, upd_at, sI_at, upd_off _ _ (by decide)]
    generalize sI (sI g0 1046 32 (g0.1 1046 53)) 1046 33 ((sI g0 1046 32 (g0.1 1046 53)).1 1046 54) = g1 at *
    have d1 : mdr g1 s.1 := mdr_fr F1 (by decide) (by decide) m0.1
    refine cm_unpack (a := 1081) (n := 137) (o := 0) rfl (by decide) (by omega) (by decide) (fun gu fu pu => ?_)
    rw [F1.1 1081 (by decide) (by decide)] at pu
    have du := mdr_un d1 fu pu kp
    refine cm_copyTo (a := 1064) (b := 1082) (n := 5480) rfl rfl (by decide) (by decide) (fun c2 e2 => ?_)
    refine cm_copyTo (a := 1073) (b := 1083) (n := 8) rfl rfl (by decide) (by decide) (fun c3 e3 => ?_)
    refine cm_copyTo (a := 1074) (b := 1084) (n := 8) rfl rfl (by decide) (by decide) (fun c4 e4 => ?_)
    refine cm_copyTo (a := 1075) (b := 1085) (n := 8) rfl rfl (by decide) (by decide) (fun c5 e5 => ?_)
    refine cm_copyTo (a := 1076) (b := 1086) (n := 8) rfl rfl (by decide) (by decide) (fun c6 e6 => ?_)
    refine cm_copyTo (a := 1058) (b := 1087) (n := 3) rfl rfl (by decide) (by decide) (fun c7 e7 => ?_)
    simp only [aI_off _ _ (show ¬ 1083 = 1064 by decide)] at e3
    simp only [aI_off _ _ (show ¬ 1084 = 1073 by decide), aI_off _ _ (show ¬ 1084 = 1064 by decide)] at e4
    simp only [aI_off _ _ (show ¬ 1085 = 1074 by decide), aI_off _ _ (show ¬ 1085 = 1073 by decide), aI_off _ _ (show ¬ 1085 = 1064 by decide)] at e5
    simp only [aI_off _ _ (show ¬ 1086 = 1075 by decide), aI_off _ _ (show ¬ 1086 = 1074 by decide), aI_off _ _ (show ¬ 1086 = 1073 by decide), aI_off _ _ (show ¬ 1086 = 1064 by decide)] at e6
    simp only [aI_off _ _ (show ¬ 1087 = 1076 by decide), aI_off _ _ (show ¬ 1087 = 1075 by decide), aI_off _ _ (show ¬ 1087 = 1074 by decide), aI_off _ _ (show ¬ 1087 = 1073 by decide), aI_off _ _ (show ¬ 1087 = 1064 by decide)] at e7
    have F2 : fr [1058, 1064, 1073, 1074, 1075, 1076] [] gu (aI (aI (aI (aI (aI (aI gu 1064 c2) 1073 c3) 1074 c4) 1075 c5) 1076 c6) 1058 c7) := (((((fr_aI (by decide) (by decide)).trans (fr_aI (by decide) (by decide))).trans (fr_aI (by decide) (by decide))).trans (fr_aI (by decide) (by decide))).trans (fr_aI (by decide) (by decide))).trans (fr_aI (by decide) (by decide))
    have r2 : (aI (aI (aI (aI (aI (aI gu 1064 c2) 1073 c3) 1074 c4) 1075 c5) 1076 c6) 1058 c7).1 1064 = c2 := by rw [aI_off _ _ (by decide), aI_off _ _ (by decide), aI_off _ _ (by decide), aI_off _ _ (by decide), aI_off _ _ (by decide), aI1]
    have r3 : (aI (aI (aI (aI (aI (aI gu 1064 c2) 1073 c3) 1074 c4) 1075 c5) 1076 c6) 1058 c7).1 1073 = c3 := by rw [aI_off _ _ (by decide), aI_off _ _ (by decide), aI_off _ _ (by decide), aI_off _ _ (by decide), aI1]
    have r4 : (aI (aI (aI (aI (aI (aI gu 1064 c2) 1073 c3) 1074 c4) 1075 c5) 1076 c6) 1058 c7).1 1074 = c4 := by rw [aI_off _ _ (by decide), aI_off _ _ (by decide), aI_off _ _ (by decide), aI1]
    have r5 : (aI (aI (aI (aI (aI (aI gu 1064 c2) 1073 c3) 1074 c4) 1075 c5) 1076 c6) 1058 c7).1 1075 = c5 := by rw [aI_off _ _ (by decide), aI_off _ _ (by decide), aI1]
    have r6 : (aI (aI (aI (aI (aI (aI gu 1064 c2) 1073 c3) 1074 c4) 1075 c5) 1076 c6) 1058 c7).1 1076 = c6 := by rw [aI_off _ _ (by decide), aI1]
    have r7 : (aI (aI (aI (aI (aI (aI gu 1064 c2) 1073 c3) 1074 c4) 1075 c5) 1076 c6) 1058 c7).1 1058 = c7 := by rw [aI1]
    generalize aI (aI (aI (aI (aI (aI gu 1064 c2) 1073 c3) 1074 c4) 1075 c5) 1076 c6) 1058 c7 = g2 at *
    have st := stt_pg kp.1
    have sL : ∀ b, b ∈ [1059, 1081, 1082, 1083, 1084, 1085, 1086, 1087] → g2.1 b = g0.1 b ∧ gu.1 b = g0.1 b := fun b hb => by
      have n6 : ¬ b = 1046 := by rintro rfl; exact absurd hb (by decide)
      have e1 : gu.1 b = g0.1 b := by rw [fu.1 b ((show ∀ b, b ∈ [1059, 1081, 1082, 1083, 1084, 1085, 1086, 1087] → ¬ b ∈ uL by decide) b hb) n6, F1.1 b (by simp) n6]
      exact ⟨by rw [F2.1 b ((show ∀ b, b ∈ [1059, 1081, 1082, 1083, 1084, 1085, 1086, 1087] → ¬ b ∈ [1058, 1064, 1073, 1074, 1075, 1076] by decide) b hb) n6]; exact e1, e1⟩
    have R : ∀ b, ¬ b = 31 → g2.1 1046 b = g1.1 1046 b := fun b hb => by rw [F2.2.1 b (by simp), fu.2.1 b (by simp [hb])]
    have R0 : ∀ b, b ∈ [4, 15, 24, 52, 53, 54] → g2.1 1046 b = g0.1 1046 b := fun b hb => by
      rw [R b (by rintro rfl; exact absurd hb (by decide)), F1.2.1 b ((show ∀ b, b ∈ [4, 15, 24, 52, 53, 54] → ¬ b ∈ [32, 33] by decide) b hb)]
    refine H g2 1 ((f0.trans (mfr_fr (by decide) F1)).trans ((mfr_fr (by decide) fu).trans (mfr_fr (by decide) F2))) ⟨mdr_fr F2 (by decide) (by decide) du, mbk_st st ?_, mkp_st st ?_, ?_, by rw [R0 24 (by decide)]; exact h6⟩ ⟨rfl, by rw [R0 4 (by decide)]; exact k0⟩
    · rw [R 32 (by decide), R 33 (by decide), k32, k33, r2, r3, r4, r5, r6, r7]
      refine mbk_copy h4 ?_ ?_ ?_ ?_ ?_ ?_ kb
      · intro i hi; rw [e2 i hi, (sL 1082 (by decide)).2]
      · intro i hi; rw [e3 i hi, (sL 1083 (by decide)).2]
      · intro i hi; rw [e4 i hi, (sL 1084 (by decide)).2]
      · intro i hi; rw [e5 i hi, (sL 1085 (by decide)).2]
      · intro i hi; rw [e6 i hi, (sL 1086 (by decide)).2]
      · intro i hi; rw [e7 i hi, (sL 1087 (by decide)).2]
    · show mkp g2 s.1 s.2.2.1
      rw [hk]
      refine mkp_cg (g := g0) (o := some r) (R0 52 (by decide)) (R0 53 (by decide)) (R0 54 (by decide)) (fun b hb hb' => (sL b ?_).1) ⟨kk, kb, kp⟩
      simp only [List.mem_cons, List.not_mem_nil, or_false]
      omega
    · unfold mtp
      rw [R0 15 (by decide), (sL 1059 (by decide)).1]
      exact h5
theorem ms_fault (hm : RM g s) (H : ∀ g', mfr g g' → RM g' s → g'.1 1046 4 = 0 → k s.2.2.2.2 g' e) : hci (d + 1) 248 [.ref 1046] g e k X := by
  refine zh_X8_fault ?_
  rw [sI_at, upd_off _ _ (by decide), hm.2.2.2.2]
  exact H _ mfr_code (RM_code hm) code_at
theorem ms_feed (hm : RM g s) {a b c d' f : Int32} (H : ∀ g' u, mfr g g' → RM g' (r_feed s a b c d' f).2 → om c12 (r_feed s a b c d' f).1 u g' → k u g' e) : hci (d + 1) 222 [.ref 1046, .int a, .int b, .int c, .int d', .int f] g e k X := by
  have m0 : RM (sI g 1046 4 0) s := RM_code hm
  have f0 : mfr g (sI g 1046 4 0) := mfr_code
  have k0 : (sI g 1046 4 0).1 1046 4 = 0 := code_at
  refine zh_X8_feed ?_
  generalize sI g 1046 4 0 = g0 at *
  obtain ⟨h1, h2, h3, ⟨t1, t2, t3⟩, h6⟩ := id m0
  rw [t1, show (20 : Int32) = nI 20 from rfl, nI_add, show (700 : Int32) = nI 700 from rfl]
  unfold r_feed at H
  by_cases q : s.2.2.2.1.1 + 20 ≤ 700
  · rw [if_pos q] at H
    refine zbr_t (nI_le q (by omega)) ?_
    obtain ⟨w, hw⟩ : ∃ w, w = wsel a b c d' f := ⟨_, rfl⟩
    rw [← hw] at H
    have l := tpn_1 s.2.2.2.1 w
    have main : ∀ i, i ≤ 20 → ∀ g1, fr [1059] [15] g0 g1 → mtp g1 (tpn s.2.2.2.1 w i) → hwi d zm_X8_feed k X 23 [(0, .ref 1046), (1, .int a), (2, .int b), (3, .int c), (4, .int d'), (5, .int f), (6, .int (nI i))] g1 e := by
      refine hdown ?_ ?_
      · intro g1 f1 p1
        refine zh_X8_feed_23 (zbr_t (by decide) ?_)
        rw [p1.1, l]
        refine H _ _ (f0.trans (mfr_fr (by decide) f1)) ⟨mdr_fr f1 (by decide) (by decide) h1, ?_, mkp_cg (f1.2.1 52 (by decide)) (f1.2.1 53 (by decide)) (f1.2.1 54 (by decide)) (fun b hb hb' => f1.1 b (by simp; omega) (by omega)) h3, p1, by rw [f1.2.1 24 (by decide)]; exact h6⟩ ⟨rfl, by rw [f1.2.1 4 (by decide)]; exact k0⟩
        rw [f1.2.1 32 (by decide), f1.2.1 33 (by decide), f1.1 1064 (by decide) (by decide), f1.1 1073 (by decide) (by decide), f1.1 1074 (by decide) (by decide), f1.1 1075 (by decide) (by decide), f1.1 1076 (by decide) (by decide), f1.1 1058 (by decide) (by decide)]
        exact h2
      · intro i hi W g1 f1 p1
        have li := l i
        have er : nI i - nI i / 4 * 4 = nI (i % 4) := pk_rem (d := 4) (by omega) (by omega) (by omega)
        have e8 : (24 : Int32) - 8 * nI (i % 4) = nI (24 - 8 * (i % 4)) := by rw [show (8 : Int32) = nI 8 from rfl, pk_mul, show (24 : Int32) = nI 24 from rfl, pk_sub (by omega)]
        have h700 : hin (g1.1 1046 15) 700 := by rw [p1.1]; exact nI_in (by omega) (by omega)
        have eL : (g1.1 1046 15).toNatClampNeg = s.2.2.2.1.1 + i := by rw [p1.1, li]; exact nI_clamp (by omega)
        have st : ∀ v, v = w (i / 4) → ∀ g2, g2 = sI (sI g1 1059 (g1.1 1046 15).toNatClampNeg ((v >>> ((24 - (8 * (nI i - nI i / 4 * 4))) &&& 31)) &&& 255)) 1046 15 (((sI g1 1059 (g1.1 1046 15).toNatClampNeg ((v >>> ((24 - (8 * (nI i - nI i / 4 * 4))) &&& 31)) &&& 255)).1 1046 15) + 1) → hwi d zm_X8_feed k X 23 [(0, .ref 1046), (1, .int a), (2, .int b), (3, .int c), (4, .int d'), (5, .int f), (6, .int (nI i + 1))] g2 e := by
          rintro v hv g2 rfl
          rw [er, e8, eL, sI_off _ (show ¬ 1046 = 1059 by decide), p1.1, nI_1, nI_1, li]
          obtain ⟨b1, b2⟩ := byt_l v (i % 4)
          rw [b2]
          refine W _ ((f1.I (by decide) (by decide)).F (by decide)) ⟨?_, ?_, fun j hj => ?_⟩
          · rw [sI_at, upd_at, l]; rfl
          · rw [l]; omega
          · rw [l] at hj
            rw [sI_off _ (by decide), sI_at]
            show upd _ _ _ j = nI (va_up (tpn s.2.2.2.1 w i).2 (tpn s.2.2.2.1 w i).1 (byt (w (i / 4)) (i % 4)) j) ∧ va_up (tpn s.2.2.2.1 w i).2 (tpn s.2.2.2.1 w i).1 (byt (w (i / 4)) (i % 4)) j < 256
            rw [li, ← hv]
            by_cases cj : j = s.2.2.2.1.1 + i
            · subst cj
              rw [upd_at, va_up_at]
              exact ⟨rfl, b1⟩
            · rw [upd_off _ _ cj, va_up_off _ _ cj]
              exact p1.2.2 j (by rw [li]; omega)
        have z4 : (4 : Int32) ≤ nI i ↔ 4 ≤ i := nI_leI (a := 4) (by omega) (by omega)
        have z8 : (8 : Int32) ≤ nI i ↔ 8 ≤ i := nI_leI (a := 8) (by omega) (by omega)
        have z12 : (12 : Int32) ≤ nI i ↔ 12 ≤ i := nI_leI (a := 12) (by omega) (by omega)
        have z16 : (16 : Int32) ≤ nI i ↔ 16 ≤ i := nI_leI (a := 16) (by omega) (by omega)
        refine zh_X8_feed_23 (zbr_f (by rw [show (20 : Int32) = nI 20 from rfl]; exact nI_ge hi (by omega)) ⟨fun c4 => ⟨fun c8 => ⟨fun c12 => ⟨fun c16 => ⟨h700, st _ ?_⟩, fun c16 => ⟨h700, st _ ?_⟩⟩, fun c12 => ⟨h700, st _ ?_⟩⟩, fun c8 => ⟨h700, st _ ?_⟩⟩, fun c4 => ⟨h700, st _ ?_⟩⟩)
        · rw [hw, show i / 4 = 4 by have := z16.mp c16; omega]; rfl
        · rw [hw, show i / 4 = 3 by have := z12.mp c12; have : ¬ 16 ≤ i := fun z => c16 (z16.mpr z); omega]; rfl
        · rw [hw, show i / 4 = 2 by have := z8.mp c8; have : ¬ 12 ≤ i := fun z => c12 (z12.mpr z); omega]; rfl
        · rw [hw, show i / 4 = 1 by have := z4.mp c4; have : ¬ 8 ≤ i := fun z => c8 (z8.mpr z); omega]; rfl
        · rw [hw, show i / 4 = 0 by have : ¬ 4 ≤ i := fun z => c4 (z4.mpr z); omega]; rfl
    exact main 0 (by omega) g0 fr.refl ⟨t1, t2, t3⟩
  · rw [if_neg q] at H
    exact zbr_f (fun z => q ((nI_leI (by omega) (by omega)).mp z)) (H _ _ f0 m0 ⟨rfl, k0⟩)
def sulN (s t : sZ) : Nat → Nat
  | 0 => 0
  | p + 1 => sulN s t p + ((s.2.2.1 p - t.2.2.1 p) + (t.2.2.1 p - s.2.2.1 p) + ((s.2.2.2.1 p - t.2.2.2.1 p) + (t.2.2.2.1 p - s.2.2.2.1 p)))
theorem iab_d : ∀ a, a < 10 → ∀ b, b < 10 → iab (nI a - nI b) = nI ((a - b) + (b - a)) := by decide +kernel
theorem sul_N {u v : sZ} (hu : sok u) (hv : sok v) : ∀ p, sul u v p = nI (sulN u v p)
  | 0 => rfl
  | p + 1 => by
    have h1 := hu.2.2.1 p
    have h2 := hv.2.2.1 p
    have h3 := hu.2.2.2.1 p
    have h4 := hv.2.2.2.1 p
    show sul u v p + (iab _ + iab _) = _
    rw [sul_N hu hv p, iab_d _ (by omega) _ (by omega), iab_d _ (by omega) _ (by omega), nI_add, nI_add]
    rfl
theorem sulN_le {u v : sZ} (hu : sok u) (hv : sok v) : ∀ p, sulN u v p ≤ 18 * p
  | 0 => Nat.le_refl _
  | p + 1 => by
    have ih := sulN_le hu hv p
    have h1 := hu.2.2.1 p
    have h2 := hv.2.2.1 p
    have h3 := hu.2.2.2.1 p
    have h4 := hv.2.2.2.1 p
    unfold sulN
    omega
theorem sulN_0 {u v : sZ} : ∀ p, sulN u v p = 0 ↔ ∀ q, q < p → u.2.2.1 q = v.2.2.1 q ∧ u.2.2.2.1 q = v.2.2.2.1 q
  | 0 => ⟨fun _ q h => absurd h (Nat.not_lt_zero _), fun _ => rfl⟩
  | p + 1 => by
    have ih := sulN_0 (u := u) (v := v) p
    unfold sulN
    constructor
    · intro h q hq
      by_cases c : q = p
      · subst c; omega
      · exact ih.mp (by omega) q (by omega)
    · intro h
      have h1 := ih.mpr (fun q hq => h q (by omega))
      have h2 := h p (by omega)
      omega
theorem twin_n {u v : sZ} (hu : sok u) (hv : sok v) : twin u v = true ↔ u.1 = v.1 ∧ sul u v u.1 = 0 := by
  have n := hu.1.2
  rw [twin_t, sul_N hu hv]
  have l := sulN_le hu hv u.1
  constructor
  · intro h
    refine ⟨h.1, ?_⟩
    rw [(sulN_0 u.1).mpr (fun q hq => h.2 q (by omega))]
    rfl
  · intro h
    have z := (sulN_0 u.1).mp ((nI_eq (b := 0) (by omega) (by omega)).mp h.2)
    refine ⟨h.1, fun p hp => ?_⟩
    by_cases c : p < u.1
    · exact z p c
    · obtain ⟨a1, a2⟩ := hu.2.2.2.2.1 p (by omega)
      obtain ⟨b1, b2⟩ := hv.2.2.2.2.1 p (by omega)
      rw [a1, a2, b1, b2]
      exact ⟨rfl, rfl⟩
theorem cm_unlikeOf {i j : Nat} {u v : sZ} (hi : i < 4) (hj : j < 4) (mu : mz g i u) (mv : mz g j v) (hu : sok u) (hv : sok v) (H : k (sul u v u.1) g e) : hci (d + 2) 272 [.ref 1046, .int (nI i), .int (nI j)] g e k X := by
  have n2 := hu.1.2
  have ei : (nI i).toNatClampNeg = i := nI_clamp (by omega)
  refine zh_X8_unlikeOf ?_
  refine hdown (W := fun p => hwi (d + 1) zm_X8_unlikeOf k X 5 [(0, .ref 1046), (1, .int (nI i)), (2, .int (nI j)), (3, .int (sul u v p)), (4, .int (nI p))] g e) (n := u.1) ?_ ?_ 0 (Nat.zero_le _)
  · exact zh_X8_unlikeOf_5 ⟨nI_in (by omega) (by omega), zbr_t (by rw [ei, mu.1]; exact nI_le (Nat.le_refl _) (by omega)) H⟩
  · intro p hp W
    rw [nI_succ] at W
    refine zh_X8_unlikeOf_5 ⟨nI_in (by omega) (by omega), zbr_f (by rw [ei, mu.1]; exact nI_ge hp (by omega)) ?_⟩
    rw [ix16, ix16, nI_clamp (show 16 * i + p < 2 ^ 31 by omega), nI_clamp (show 16 * j + p < 2 ^ 31 by omega), mu.2.2.1 p (by omega), mv.2.2.1 p (by omega)]
    refine ⟨nI_in (by omega) (by omega), nI_in (by omega) (by omega), c_abs ⟨nI_in (by omega) (by omega), nI_in (by omega) (by omega), c_abs ?_⟩⟩
    rw [mu.2.2.2.1 p (by omega), mv.2.2.2.1 p (by omega)]
    exact W
theorem cm_twins (hm : ms g x.1 x.2.1) (H : k (tws (fun i j => twin (x.2.1 i) (x.2.1 j)) x.1) g e) : hci (d + 4) 273 [.ref 1046] g e k X := by
  have h4 := hm.1.2
  obtain ⟨f, hf⟩ : ∃ f, f = fun i j => twin (x.2.1 i) (x.2.1 j) := ⟨_, rfl⟩
  rw [← hf] at H
  refine zh_X8_twins ?_
  refine hdown (W := fun i => hwi (d + 3) zm_X8_twins k X 4 [(0, .ref 1046), (1, .int (tws f i)), (2, .int (nI i))] g e) (n := x.1) ?_ ?_ 0 (Nat.zero_le _)
  · exact zh_X8_twins_4 (zbr_t (by rw [hm.1.1]; exact nI_le (Nat.le_refl _) (by omega)) H)
  · intro i hi W
    refine zh_X8_twins_4 (zbr_f (by rw [hm.1.1]; exact nI_ge hi (by omega)) ?_)
    have := hdown (W := fun j => hwi (d + 3) zm_X8_twins k X 16 [(0, .ref 1046), (1, .int (tws f i + xsum (fun j => bI (f i j)) j)), (2, .int (nI i)), (3, .int (nI j))] g e) (n := i) ?_ ?_ 0 (Nat.zero_le _)
    · have this : hwi (d + 3) zm_X8_twins k X 16 [(0, .ref 1046), (1, .int (tws f i + 0)), (2, .int (nI i)), (3, .int (nI 0))] g e := this
      rw [Int32.add_zero] at this
      exact this
    · refine zh_X8_twins_16 (zbr_t (nI_le (Nat.le_refl _) (by omega)) ?_)
      rw [nI_1]
      exact W
    · intro j hj W2
      have mi := hm.2 i hi
      have mj := hm.2 j (by omega)
      have n2 := mi.2.1.2
      have m2 := mj.2.1.2
      refine zh_X8_twins_16 (zbr_f (nI_ge hj (by omega)) ⟨nI_in (by omega) (by omega), nI_in (by omega) (by omega), ?_⟩)
      rw [nI_clamp (by omega), nI_clamp (by omega), mi.1.1, mj.1.1, nI_1]
      have un : xsum (fun j => bI (f i j)) (j + 1) = xsum (fun j => bI (f i j)) j + bI (f i j) := rfl
      rw [un, ← Int32.add_assoc, show f i j = twin (x.2.1 i) (x.2.1 j) by rw [hf]] at W2
      have no : ¬ twin (x.2.1 i) (x.2.1 j) = true → hwi (d + 3) zm_X8_twins k X 16 [(0, .ref 1046), (1, .int (tws f i + xsum (fun j => bI (f i j)) j + 0)), (2, .int (nI i)), (3, .int (nI (j + 1)))] g e := by
        intro q
        rw [Bool.eq_false_iff.mpr q] at W2
        exact W2
      refine ⟨fun c => cm_unlikeOf (by omega) (by omega) mi.1 mj.1 mi.2 mj.2 ⟨fun c2 => ?_, fun c2 => no (fun q => c2 ((twin_n mi.2 mj.2).mp q).2)⟩, fun c => no (fun q => c (by rw [((twin_n mi.2 mj.2).mp q).1]))⟩
      rw [(twin_n mi.2 mj.2).mpr ⟨(nI_eq (by omega) (by omega)).mp c, c2⟩] at W2
      exact W2
theorem ms_count (hm : RM g s) {w : Int32} (H : ∀ g' u, mfr g g' → RM g' s → om c12 (o_count s w) u g' → k u g' e) : hci (d + 5) 274 [.ref 1046, .int w] g e k X := by
  have m0 : RM (sI g 1046 4 0) s := RM_code hm
  have f0 : mfr g (sI g 1046 4 0) := mfr_code
  have k0 : (sI g 1046 4 0).1 1046 4 = 0 := code_at
  have ht := hm.1.2.2.2.2
  refine zh_X8_count ?_
  generalize sI g 1046 4 0 = g0 at *
  have K : ∀ i, i < 12 → w = nI i → k (v_count s i) g0 e := fun i hi hw => H _ _ f0 m0 (by rw [hw, o_count_y hi]; exact ⟨rfl, k0⟩)
  refine ⟨fun c0 => (by rw [m0.1.1.1.1]; exact K 0 (by omega) c0), fun n0 => ⟨fun c1 => (by rw [m0.1.2.2.2.1]; exact K 1 (by omega) c1), fun n1 => ⟨fun c2 => (by rw [m0.1.2.2.2.1]; exact cm_strainOf m0.1.2.2.1 (by omega) (K 2 (by omega) c2)), fun n2 => ⟨fun c3 => cm_allClosed m0.1.1 (K 3 (by omega) c3), fun n3 => ⟨fun c4 => cm_allGrips m0.1.1 (K 4 (by omega) c4), fun n4 => ⟨fun c5 => cm_twins m0.1.1 (K 5 (by omega) c5), fun n5 => ⟨fun c6 => (by rw [m0.2.1.1.1]; exact K 6 (by omega) c6), fun n6 => ⟨fun c7 => (by rw [m0.2.1.2.1.1.1]; exact K 7 (by omega) c7), fun n7 => ⟨fun c8 => (by rw [m0.2.2.2.1.1]; exact K 8 (by omega) c8), fun n8 => ⟨fun c9 => ⟨by rw [c9]; exact nI_in (c := 0) (by omega) (by omega), by rw [c9, show (nI 9 - 9).toNatClampNeg = 0 from rfl, m0.2.1.2.2 0 (by omega)]; exact K 9 (by omega) c9⟩, fun n9 => ⟨fun c10 => ⟨by rw [c10]; exact nI_in (c := 1) (by omega) (by omega), by rw [c10, show (nI 10 - 9).toNatClampNeg = 1 from rfl, m0.2.1.2.2 1 (by omega)]; exact K 10 (by omega) c10⟩, fun n10 => ⟨fun c11 => ⟨by rw [c11]; exact nI_in (c := 2) (by omega) (by omega), by rw [c11, show (nI 11 - 9).toNatClampNeg = 2 from rfl, m0.2.1.2.2 2 (by omega)]; exact K 11 (by omega) c11⟩, fun n11 => ?_⟩⟩⟩⟩⟩⟩⟩⟩⟩⟩⟩⟩
  refine cm_fail (H _ _ (f0.trans mfr_code) (RM_code m0) ?_)
  unfold o_count
  rw [iszb_f (n := 12) (by omega) (fun q => ?_)]
  · exact code_at
  · obtain ⟨i, hi, hw⟩ := q
    match i, hi with
    | 0, _ => exact n0 hw
    | 1, _ => exact n1 hw
    | 2, _ => exact n2 hw
    | 3, _ => exact n3 hw
    | 4, _ => exact n4 hw
    | 5, _ => exact n5 hw
    | 6, _ => exact n6 hw
    | 7, _ => exact n7 hw
    | 8, _ => exact n8 hw
    | 9, _ => exact n9 hw
    | 10, _ => exact n10 hw
    | 11, _ => exact n11 hw
    | i + 12, hi => exact absurd hi (by omega)
end
