/-! what is told is taken over; DRAWER in the model -/
section
variable {d : Nat} {k : Int32 → hG → hE → Prop} {kv : hG → hE → Prop} {X : Nat → hG → hE → Prop} {g : hG} {e : hE} {T : sT} {t : tok} {L : List tk} {y : sY} {x : sX} {s : sS}
theorem cm_takeHalf {a m : Nat} (ha : hT a = some (.inl (0, 2 * m))) (hm : m < 2 ^ 20) (H : ∀ f, (∀ i, i < m → f i = g.1 a (m + i)) → kv (aI g a f) e) : hcv (d + 1) 246 [.ref a] g e kv X := by
  refine zh_X8_takeHalf ha ?_
  have e2 : nI (2 * m) / 2 = nI m := by
    have := pk_div (a := 2 * m) (d := 2) (by omega) (by omega) (by omega)
    rw [show (2 : Int32) = nI 2 from rfl, this]
    congr 1
    omega
  have main : ∀ i, i ≤ m → hwv d zm_X8_takeHalf kv X 2 [(0, .ref a), (1, .int (nI i))] (aI g a (fun j => if j < i then g.1 a (m + j) else g.1 a j)) e := by
    refine hdown ?_ ?_
    · refine zh_X8_takeHalf_2 ha (zbr_t (by rw [e2]; exact nI_le (Nat.le_refl _) (by omega)) (H _ (fun i hi => if_pos hi)))
    · intro i hi W
      refine zh_X8_takeHalf_2 ha (zbr_f (by rw [e2]; exact nI_ge hi (by omega)) ?_)
      rw [e2, nI_add, nI_clamp (show m + i < 2 ^ 31 by omega), nI_clamp (show i < 2 ^ 31 by omega), aI1, sI_aI, nI_1]
      refine ⟨nI_in (by omega) (by omega), nI_in (by omega) (by omega), ?_⟩
      have e1 : upd (fun j => if j < i then g.1 a (m + j) else g.1 a j) i (if m + i < i then g.1 a (m + (m + i)) else g.1 a (m + i)) = (fun j => if j < i + 1 then g.1 a (m + j) else g.1 a j) := by
        funext j
        by_cases cj : j = i
        · subst cj
          rw [upd_at, if_neg (by omega), if_pos (by omega)]
        · rw [upd_off _ _ cj]
          by_cases q : j < i
          · rw [if_pos q, if_pos (by omega)]
          · rw [if_neg q, if_neg (by omega)]
      rw [e1]
      exact W
  have := main 0 (Nat.zero_le _)
  rw [show (fun j => if j < 0 then g.1 a (m + j) else g.1 a j) = g.1 a by funext j; rw [if_neg (by omega)], aI_id] at this
  exact this
abbrev oL : List Nat := [1050, 1051, 1052, 1053, 1054, 1055, 1056, 1057, 1060, 1061, 1062, 1063]
theorem m_takeOver (hc : msc g y) {n : Nat} (wf : wfy y n) (hn : n ≤ 700) (H : ∀ g', fr oL [31, 32, 33, 52] g g' → mdr g' (yX y) → g'.1 1046 32 = 0 → g'.1 1046 33 = 0 → g'.1 1046 52 = 0 → kv g' e) : hcv (d + 6) 247 [.ref 1046] g e kv X := by
  have l4 := wf.1.1
  refine zh_X8_takeOver ?_
  refine cm_takeHalf (a := 1050) (m := 4) rfl (by omega) (fun c0 e0 => ?_)
  refine cm_takeHalf (a := 1051) (m := 4) rfl (by omega) (fun c1 e1 => ?_)
  refine cm_takeHalf (a := 1052) (m := 4) rfl (by omega) (fun c2 e2 => ?_)
  refine cm_takeHalf (a := 1053) (m := 64) rfl (by omega) (fun c3 e3 => ?_)
  refine cm_takeHalf (a := 1054) (m := 64) rfl (by omega) (fun c4 e4 => ?_)
  refine cm_takeHalf (a := 1055) (m := 8) rfl (by omega) (fun c5 e5 => ?_)
  refine cm_takeHalf (a := 1056) (m := 700) rfl (by omega) (fun c6 e6 => ?_)
  refine cm_takeHalf (a := 1057) (m := 700) rfl (by omega) (fun c7 e7 => ?_)
  simp only [aI_off _ _ (show ¬ 1051 = 1050 by decide)] at e1
  simp only [aI_off _ _ (show ¬ 1052 = 1051 by decide), aI_off _ _ (show ¬ 1052 = 1050 by decide)] at e2
  simp only [aI_off _ _ (show ¬ 1053 = 1052 by decide), aI_off _ _ (show ¬ 1053 = 1051 by decide), aI_off _ _ (show ¬ 1053 = 1050 by decide)] at e3
  simp only [aI_off _ _ (show ¬ 1054 = 1053 by decide), aI_off _ _ (show ¬ 1054 = 1052 by decide), aI_off _ _ (show ¬ 1054 = 1051 by decide), aI_off _ _ (show ¬ 1054 = 1050 by decide)] at e4
  simp only [aI_off _ _ (show ¬ 1055 = 1054 by decide), aI_off _ _ (show ¬ 1055 = 1053 by decide), aI_off _ _ (show ¬ 1055 = 1052 by decide), aI_off _ _ (show ¬ 1055 = 1051 by decide), aI_off _ _ (show ¬ 1055 = 1050 by decide)] at e5
  simp only [aI_off _ _ (show ¬ 1056 = 1055 by decide), aI_off _ _ (show ¬ 1056 = 1054 by decide), aI_off _ _ (show ¬ 1056 = 1053 by decide), aI_off _ _ (show ¬ 1056 = 1052 by decide), aI_off _ _ (show ¬ 1056 = 1051 by decide), aI_off _ _ (show ¬ 1056 = 1050 by decide)] at e6
  simp only [aI_off _ _ (show ¬ 1057 = 1056 by decide), aI_off _ _ (show ¬ 1057 = 1055 by decide), aI_off _ _ (show ¬ 1057 = 1054 by decide), aI_off _ _ (show ¬ 1057 = 1053 by decide), aI_off _ _ (show ¬ 1057 = 1052 by decide), aI_off _ _ (show ¬ 1057 = 1051 by decide), aI_off _ _ (show ¬ 1057 = 1050 by decide)] at e7
  have F0 : fr oL [31, 32, 33, 52] g (sI (aI (aI (aI (aI (aI (aI (aI (aI g 1050 c0) 1051 c1) 1052 c2) 1053 c3) 1054 c4) 1055 c5) 1056 c6) 1057 c7) 1046 31 0) := ((((((((fr_aI (by decide) (by decide)).trans (fr_aI (by decide) (by decide))).trans (fr_aI (by decide) (by decide))).trans (fr_aI (by decide) (by decide))).trans (fr_aI (by decide) (by decide))).trans (fr_aI (by decide) (by decide))).trans (fr_aI (by decide) (by decide))).trans (fr_aI (by decide) (by decide))).F (by decide)
  have r0 : (sI (aI (aI (aI (aI (aI (aI (aI (aI g 1050 c0) 1051 c1) 1052 c2) 1053 c3) 1054 c4) 1055 c5) 1056 c6) 1057 c7) 1046 31 0).1 1050 = c0 := by rw [sI_off _ (by decide), aI_off _ _ (by decide), aI_off _ _ (by decide), aI_off _ _ (by decide), aI_off _ _ (by decide), aI_off _ _ (by decide), aI_off _ _ (by decide), aI_off _ _ (by decide), aI1]
  have r1 : (sI (aI (aI (aI (aI (aI (aI (aI (aI g 1050 c0) 1051 c1) 1052 c2) 1053 c3) 1054 c4) 1055 c5) 1056 c6) 1057 c7) 1046 31 0).1 1051 = c1 := by rw [sI_off _ (by decide), aI_off _ _ (by decide), aI_off _ _ (by decide), aI_off _ _ (by decide), aI_off _ _ (by decide), aI_off _ _ (by decide), aI_off _ _ (by decide), aI1]
  have r2 : (sI (aI (aI (aI (aI (aI (aI (aI (aI g 1050 c0) 1051 c1) 1052 c2) 1053 c3) 1054 c4) 1055 c5) 1056 c6) 1057 c7) 1046 31 0).1 1052 = c2 := by rw [sI_off _ (by decide), aI_off _ _ (by decide), aI_off _ _ (by decide), aI_off _ _ (by decide), aI_off _ _ (by decide), aI_off _ _ (by decide), aI1]
  have r3 : (sI (aI (aI (aI (aI (aI (aI (aI (aI g 1050 c0) 1051 c1) 1052 c2) 1053 c3) 1054 c4) 1055 c5) 1056 c6) 1057 c7) 1046 31 0).1 1053 = c3 := by rw [sI_off _ (by decide), aI_off _ _ (by decide), aI_off _ _ (by decide), aI_off _ _ (by decide), aI_off _ _ (by decide), aI1]
  have r4 : (sI (aI (aI (aI (aI (aI (aI (aI (aI g 1050 c0) 1051 c1) 1052 c2) 1053 c3) 1054 c4) 1055 c5) 1056 c6) 1057 c7) 1046 31 0).1 1054 = c4 := by rw [sI_off _ (by decide), aI_off _ _ (by decide), aI_off _ _ (by decide), aI_off _ _ (by decide), aI1]
  have r5 : (sI (aI (aI (aI (aI (aI (aI (aI (aI g 1050 c0) 1051 c1) 1052 c2) 1053 c3) 1054 c4) 1055 c5) 1056 c6) 1057 c7) 1046 31 0).1 1055 = c5 := by rw [sI_off _ (by decide), aI_off _ _ (by decide), aI_off _ _ (by decide), aI1]
  have r6 : (sI (aI (aI (aI (aI (aI (aI (aI (aI g 1050 c0) 1051 c1) 1052 c2) 1053 c3) 1054 c4) 1055 c5) 1056 c6) 1057 c7) 1046 31 0).1 1056 = c6 := by rw [sI_off _ (by decide), aI_off _ _ (by decide), aI1]
  have r7 : (sI (aI (aI (aI (aI (aI (aI (aI (aI g 1050 c0) 1051 c1) 1052 c2) 1053 c3) 1054 c4) 1055 c5) 1056 c6) 1057 c7) 1046 31 0).1 1057 = c7 := by rw [sI_off _ (by decide), aI1]
  have r31 : (sI (aI (aI (aI (aI (aI (aI (aI (aI g 1050 c0) 1051 c1) 1052 c2) 1053 c3) 1054 c4) 1055 c5) 1056 c6) 1057 c7) 1046 31 0).1 1046 31 = 0 := by rw [sI_at, upd_at]
  generalize sI (aI (aI (aI (aI (aI (aI (aI (aI g 1050 c0) 1051 c1) 1052 c2) 1053 c3) 1054 c4) 1055 c5) 1056 c6) 1057 c7) 1046 31 0 = g0 at *
  have k0 : g0.1 1050 0 = nI y.1.length := by rw [r0, e0 0 (by omega)]; exact hc.1.1
  have zt : ∀ z, z < y.1.length → g0.1 1051 z = nI (y.1.getD z (0, [], [])).1 ∧ g0.1 1052 z = nI (y.1.getD z (0, [], [])).2.1.length ∧ (∀ p, p < (y.1.getD z (0, [], [])).2.1.length → g0.1 1053 (16 * z + p) = nI ((y.1.getD z (0, [], [])).2.1.getD p 0) ∧ g0.1 1054 (16 * z + p) = nI ((y.1.getD z (0, [], [])).2.2.getD p 0)) ∧ wfz (y.1.getD z (0, [], [])) := by
    intro z hz
    have gz : y.1[z]? = some y.1[z] := List.getElem?_eq_getElem hz
    have ez : y.1.getD z (0, [], []) = y.1[z] := by rw [List.getD_eq_getElem?_getD, gz]; rfl
    rw [ez]
    obtain ⟨b1, b2, b3, b4⟩ := hc.1.2 z _ gz
    have wz := wf.1.2 _ (List.getElem_mem hz)
    refine ⟨by rw [r1, e1 z (by omega)]; exact b1, by rw [r2, e2 z (by omega)]; exact b2, fun p hp => ?_, wz⟩
    have := wz.2.2.1
    refine ⟨?_, ?_⟩
    · rw [r3, e3 _ (by omega), show 64 + (16 * z + p) = 16 * (4 + z) + p by omega]; exact b3 p hp
    · rw [r4, e4 _ (by omega), show 64 + (16 * z + p) = 16 * (4 + z) + p by omega]; exact b4 p hp
  have zips : ∀ z, z ≤ 4 → ∀ g1, fr uL [] g0 g1 → (∀ z', z' < z → z' < y.1.length → mz g1 z' (zfin (y.1.getD z' (0, [], [])))) → hwv (d + 5) zm_X8_takeOver kv X 63 [(0, .ref 1046), (1, .int (nI z))] g1 e := by
    refine hdown ?_ ?_
    · intro g1 f1 A
      have F1 : fr oL [31, 32, 33, 52] g (sI (sI (sI g1 1046 32 0) 1046 33 0) 1046 52 0) := (((F0.trans (f1.sub (by decide) (by decide))).F (by decide)).F (by decide)).F (by decide)
      have qq : ∀ b, ¬ b = 1046 → (sI (sI (sI g1 1046 32 0) 1046 33 0) 1046 52 0).1 b = g1.1 b := fun b hb => by rw [sI_off _ hb, sI_off _ hb, sI_off _ hb]
      refine zh_X8_takeOver_63 (zbr_t (by decide) (H _ F1 ⟨⟨⟨?_, l4⟩, fun z hz => ⟨?_, ?_⟩⟩, ?_, ?_, ?_, by show 0 ≤ 999; omega⟩ ?_ ?_ ?_))
      · rw [qq 1050 (by decide), f1.1 1050 (by decide) (by decide)]; exact k0
      · have hz : z < y.1.length := hz
        exact mz_cg (A z (by omega) hz) (qq _ (by decide)) (qq _ (by decide)) (qq _ (by decide)) (qq _ (by decide)) (qq _ (by decide)) (qq _ (by decide))
      · exact sok_fin (zt z hz).2.2.2
      · refine ⟨⟨?_, ?_⟩, ⟨fun j w hj => ?_, fun j w hj => ?_⟩, wf.2.2.1, ?_, ?_⟩
        · rw [qq 1050 (by decide), f1.1 1050 (by decide) (by decide), r0, e0 2 (by omega)]; exact hc.2.2.1.1
        · rw [qq 1050 (by decide), f1.1 1050 (by decide) (by decide), r0, e0 3 (by omega)]; exact hc.2.2.2.1
        · have hj : y.2.2.1[j]? = some w := hj
          have := (List.getElem?_eq_some_iff.mp hj).1
          have := wf.2.2.2
          rw [qq 1056 (by decide), f1.1 1056 (by decide) (by decide), r6, e6 j (by omega)]; exact hc.2.2.1.2 j w hj
        · have hj : y.2.2.2[j]? = some w := hj
          have := (List.getElem?_eq_some_iff.mp hj).1
          have := wf.2.2.2
          rw [qq 1057 (by decide), f1.1 1057 (by decide) (by decide), r7, e7 j (by omega)]; exact hc.2.2.2.2 j w hj
        · show y.2.2.1.length ≤ 700
          have := wf.2.2.2; omega
        · show y.2.2.2.length ≤ 700
          have := wf.2.2.2; omega
      · refine ⟨?_, wf.2.1.1, fun j w hj => ?_, wf.2.1.2⟩
        · rw [qq 1050 (by decide), f1.1 1050 (by decide) (by decide), r0, e0 1 (by omega)]; exact hc.2.1.1
        · have hj : y.2.1[j]? = some w := hj
          have := (List.getElem?_eq_some_iff.mp hj).1
          have := wf.2.1.1
          rw [qq 1055 (by decide), f1.1 1055 (by decide) (by decide), r5, e5 j (by omega)]; exact hc.2.1.2 j w hj
      · rw [sI_at, upd_off _ _ (by omega), sI_at, upd_off _ _ (by omega), sI_at, upd_off _ _ (by omega), f1.2.1 31 (by decide)]; exact r31
      · rw [sI_at, upd_off _ _ (by omega), sI_at, upd_off _ _ (by omega), sI_at, upd_at]
      · rw [sI_at, upd_off _ _ (by omega), sI_at, upd_at]
      · rw [sI_at, upd_at]
    · intro z hz W g1 f1 A
      have ez : (nI z).toNatClampNeg = z := nI_clamp (by omega)
      have h4' : hin (nI z) 4 := nI_in hz (by omega)
      refine zh_X8_takeOver_63 (zbr_f (by rw [show (4 : Int32) = nI 4 from rfl]; exact nI_ge hz (by omega)) ?_)
      have teeth : ∀ p, p ≤ 16 → ∀ g2, fr [1060, 1061] [] g1 g2 → (∀ q, q < 16 * z → g2.1 1060 q = g1.1 1060 q ∧ g2.1 1061 q = g1.1 1061 q) → (z < y.1.length → ∀ p', p' < p → g2.1 1060 (16 * z + p') = nI ((y.1.getD z (0, [], [])).2.1.getD p' 0) ∧ g2.1 1061 (16 * z + p') = nI ((y.1.getD z (0, [], [])).2.2.getD p' 0)) → hwv (d + 5) zm_X8_takeOver kv X 70 [(0, .ref 1046), (1, .int (nI z)), (2, .int (nI p))] g2 e := by
        refine hdown ?_ ?_
        · intro g2 f2 B C
          refine zh_X8_takeOver_70 (zbr_t (by decide) ?_)
          rw [ez]
          refine ⟨h4', h4', ?_⟩
          have q2 : ∀ b, ¬ b = 1062 → ¬ b = 1063 → (sI (sI g2 1062 z 0) 1063 z 0).1 b = g2.1 b := fun b x1 x2 => by rw [sI_off _ x2, sI_off _ x1]
          have F3 : fr uL [] g0 (sI (sI g2 1062 z 0) 1063 z 0) := ((f1.trans (f2.sub (by decide) (by decide))).I (by decide) (by decide)).I (by decide) (by decide)
          have old : ∀ z', z' < z → z' < y.1.length → mz (sI (sI g2 1062 z 0) 1063 z 0) z' (zfin (y.1.getD z' (0, [], []))) := by
            intro z' hz' hy'
            obtain ⟨m1, m2, m3, m4, m5, m6⟩ := A z' hz' hy'
            refine ⟨?_, ?_, fun p hp => ?_, fun p hp => ?_, ?_, ?_⟩
            · rw [q2 1052 (by omega) (by omega), f2.1 1052 (by decide) (by decide)]; exact m1
            · rw [q2 1051 (by omega) (by omega), f2.1 1051 (by decide) (by decide)]; exact m2
            · rw [q2 1060 (by omega) (by omega), (B _ (by omega)).1]; exact m3 p hp
            · rw [q2 1061 (by omega) (by omega), (B _ (by omega)).2]; exact m4 p hp
            · rw [sI_at, upd_off _ _ (by omega), sI_off _ (by omega), f2.1 1063 (by decide) (by decide)]; exact m5
            · rw [sI_off _ (by omega), sI_at, upd_off _ _ (by omega), f2.1 1062 (by decide) (by decide)]; exact m6
          have k50 : (sI (sI g2 1062 z 0) 1063 z 0).1 1050 0 = nI y.1.length := by rw [F3.1 1050 (by decide) (by decide)]; exact k0
          rw [k50]
          by_cases cz : z < y.1.length
          · obtain ⟨z1, z2, z3, z4⟩ := zt z cz
            have wl := z4.2.2.1
            refine zbr_f (nI_ge cz (by omega)) ⟨nI_in (by omega) (by omega), ?_⟩
            rw [F3.1 1052 (by decide) (by decide), z2]
            have mzr : mz (sI (sI g2 1062 z 0) 1063 z 0) z (zraw (y.1.getD z (0, [], []))) := by
              refine ⟨by rw [F3.1 1052 (by decide) (by decide)]; exact z2, by rw [F3.1 1051 (by decide) (by decide)]; exact z1, fun p hp => ?_, fun p hp => ?_, ?_, ?_⟩
              · rw [q2 1060 (by omega) (by omega)]; exact (C cz p hp).1
              · rw [q2 1061 (by omega) (by omega)]; exact (C cz p hp).2
              · rw [sI_at, upd_at]; rfl
              · rw [sI_off _ (by omega), sI_at, upd_at]; rfl
            refine cm_slideTo (by omega) mzr (sok_raw z4) (h := (y.1.getD z (0, [], [])).2.1.length) (Nat.le_refl _) ?_
            rw [nI_1]
            refine W _ ((F3.I (by decide) (by decide)).I (by decide) (by decide)) (fun z' hz' hy' => ?_)
            by_cases c : z' = z
            · subst c
              exact mz_slide mzr
            · exact mz_slide_off c (old z' (by omega) hy')
          · refine zbr_t (nI_le (by omega) (by omega)) ?_
            rw [nI_1]
            exact W _ F3 (fun z' hz' hy' => old z' (by omega) hy')
        · intro p hp W2 g2 f2 B C
          have h64 : hin (nI (16 * z + p)) 64 := nI_in (by omega) (by omega)
          have h128 : hin (nI (16 * z + p)) 128 := nI_in (by omega) (by omega)
          have put : ∀ v w, (z < y.1.length → v = nI ((y.1.getD z (0, [], [])).2.1.getD p 0) ∧ w = nI ((y.1.getD z (0, [], [])).2.2.getD p 0)) → hwv (d + 5) zm_X8_takeOver kv X 70 [(0, .ref 1046), (1, .int (nI z)), (2, .int (nI (p + 1)))] (sI (sI g2 1060 (16 * z + p) v) 1061 (16 * z + p) w) e := by
            intro v w hvw
            refine W2 _ ((f2.I (by decide) (by decide)).I (by decide) (by decide)) (fun q hq => ?_) (fun cz p' hp' => ?_)
            · rw [sI_off _ (by omega), sI_at, upd_off _ _ (by omega), sI_at, upd_off _ _ (by omega), sI_off _ (by omega)]
              exact B q hq
            · rw [sI_off _ (by omega), sI_at, sI_at, sI_off _ (by omega)]
              by_cases cp : p' = p
              · subst cp
                rw [upd_at, upd_at]
                exact hvw cz
              · rw [upd_off _ _ (by omega), upd_off _ _ (by omega)]
                exact C cz p' (by omega)
          have zero : (z < y.1.length → (y.1.getD z (0, [], [])).2.1.length ≤ p) → hwv (d + 5) zm_X8_takeOver kv X 100 [(0, .ref 1046), (1, .int (nI z)), (2, .int (nI p))] g2 e := by
            intro hh
            refine zh_X8_takeOver_100 (zbr_t rfl ?_)
            rw [ix16, nI_clamp (show 16 * z + p < 2 ^ 31 by omega), nI_1]
            refine ⟨h64, zbr_t rfl ⟨h64, put 0 0 (fun cz => ?_)⟩⟩
            have wz := (zt z cz).2.2.2
            rw [getD0 (hh cz), getD0 (by rw [wz.2.2.2.1]; exact hh cz)]
            exact ⟨rfl, rfl⟩
          refine zh_X8_takeOver_70 (zbr_f (by rw [show (16 : Int32) = nI 16 from rfl]; exact nI_ge hp (by omega)) ?_)
          rw [f2.1 1050 (by decide) (by decide), f1.1 1050 (by decide) (by decide), k0]
          by_cases cz : z < y.1.length
          · obtain ⟨z1, z2, z3, z4⟩ := zt z cz
            have wl := z4.2.2.1
            refine zbr_f (nI_ge cz (by omega)) ⟨nI_in (by omega) (by omega), ?_⟩
            rw [ez, f2.1 1052 (by decide) (by decide), f1.1 1052 (by decide) (by decide), z2]
            refine ⟨fun c => zero (fun _ => (nI_leI (by omega) (by omega)).mp c), fun c => zbr_f (by decide) ?_⟩
            have pl : p < (y.1.getD z (0, [], [])).2.1.length := Nat.lt_of_not_le (fun w => c (nI_le w (by omega)))
            rw [ix16, nI_clamp (show 16 * z + p < 2 ^ 31 by omega), nI_1]
            refine ⟨h128, h64, zbr_f (by decide) ⟨h128, h64, ?_⟩⟩
            rintro g20 rfl
            rw [sI_off g2 (show ¬ 1054 = 1060 by decide), f2.1 1053 (by decide) (by decide), f1.1 1053 (by decide) (by decide), f2.1 1054 (by decide) (by decide), f1.1 1054 (by decide) (by decide)]
            exact put _ _ (fun _ => z3 p pl)
          · exact zbr_t (nI_le (by omega) (by omega)) (zero (fun w => absurd w cz))
      exact teeth 0 (by omega) g1 fr.refl (fun _ _ => ⟨rfl, rfl⟩) (fun _ p' h => absurd h (Nat.not_lt_zero _))
  exact zips 0 (by omega) g0 fr.refl (fun z' h => absurd h (Nat.not_lt_zero _))
end
