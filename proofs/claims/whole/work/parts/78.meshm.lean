def mhM (s r : sZ) (g : hG) (P : Nat → Nat → Prop) : Prop := ∀ i j, i ≤ s.1 → j ≤ r.1 → P i j → g.1 1071 (18 * i + j) = nI (smx s r i j)
theorem mhM_put {s r : sZ} {g : hG} {P P' : Nat → Nat → Prop} {i j : Nat} (h : mhM s r g P) (hr : r.1 ≤ 16) (hj : j ≤ 16) (hP : ∀ i' j', P' i' j' → P i' j' ∨ (i' = i ∧ j' = j)) {v : Int32} (hv : v = nI (smx s r i j)) : mhM s r (sI g 1071 (18 * i + j) v) P' := by
  intro i' j' hi' hj' p
  rw [sI_at]
  by_cases c : i' = i ∧ j' = j
  · obtain ⟨rfl, rfl⟩ := c
    rw [upd_at, hv]
  · rw [upd_off _ _ (by omega)]
    rcases hP i' j' p with q | q
    · exact h i' j' hi' hj' q
    · exact absurd q c
section
variable {d : Nat} {k : Int32 → hG → hE → Prop} {kv : hG → hE → Prop} {X : Nat → hG → hE → Prop} {g : hG} {e : hE} {x : sX}
theorem cm_meshedAt {i0 j0 : Nat} {s r : sZ} (hi0 : i0 < 4) (hj0 : j0 < 4) (hs : mz g i0 s) (hr : mz g j0 r) (os : sok s) (or : sok r) {i j : Nat} (hi : i < s.1) (hj : j < r.1) (hg : g.1 1071 (18 * (i + 1) + j + 1) = nI (smx s r (i + 1) (j + 1))) (H : k (if shw s r i j = 0 then -1 else nI (shw s r i j + smx s r (i + 1) (j + 1))) g e) : hci (d + 3) 303 [.ref 1046, .int (nI i0), .int (nI j0), .int (nI i), .int (nI j)] g e k X := by
  have n1 := os.1.2
  have n2 := or.1.2
  have b4 := shw_le (r := r) os i j
  refine zh_X8_meshedAt (cm_holdsWith hi0 hj0 hs hr os or hi hj ?_)
  rw [nI_1, ix18, nI_1, nI_clamp (by omega), hg]
  refine ⟨fun c => ?_, fun c => ⟨nI_in (by omega) (by omega), ?_⟩⟩
  · rw [if_pos ((nI_eq (b := 0) (by omega) (by omega)).mp c)] at H
    exact H
  · rw [if_neg (fun z => c (by rw [z]; rfl))] at H
    rw [nI_add]
    exact H
theorem cm_tellMesh (hm : mdr g x) {i0 j0 : Nat} (hi0 : i0 < x.1) (hj0 : j0 < x.1) (H : ∀ g', fr [1071] [] g g' → mhM (x.2.1 i0) (x.2.1 j0) g' (fun _ _ => True) → kv g' e) : hcv (d + 4) 304 [.ref 1046, .int (nI i0), .int (nI j0)] g e kv X := by
  have h4 := hm.1.1.2
  have cs : ∀ g1, fr [1071] [] g g1 → mz g1 i0 (x.2.1 i0) ∧ mz g1 j0 (x.2.1 j0) := fun g1 f1 => by
    have m1 := mdr_fr f1 (by decide) (by decide) hm
    exact ⟨(m1.1.2 i0 hi0).1, (m1.1.2 j0 hj0).1⟩
  have os := (hm.1.2 i0 hi0).2
  have or := (hm.1.2 j0 hj0).2
  generalize x.2.1 i0 = s at *
  generalize x.2.1 j0 = r at *
  have n1 := os.1.2
  have n2 := or.1.2
  have ei : (nI i0).toNatClampNeg = i0 := nI_clamp (by omega)
  have ej : (nI j0).toNatClampNeg = j0 := nI_clamp (by omega)
  have hi8 : hin (nI i0) 8 := nI_in (by omega) (by omega)
  have hj8 : hin (nI j0) 8 := nI_in (by omega) (by omega)
  have rows : ∀ n, n ≤ s.1 → ∀ g1, fr [1071] [] g g1 → mhM s r g1 (fun i j => n ≤ i ∨ j = r.1) → hwv (d + 3) zm_X8_tellMesh kv X 33 [(0, .ref 1046), (1, .int (nI i0)), (2, .int (nI j0)), (3, .int (nI n + (-1)))] g1 e := by
    intro n
    induction n with
    | zero =>
      intro _ g1 f1 m1
      exact zh_X8_tellMesh_33 (zbr_t (by decide) (H g1 f1 (fun i j a b _ => m1 i j a b (.inl (Nat.zero_le _)))))
    | succ i ih =>
      intro hn g1 f1 m1
      rw [nI_p1m]
      refine zh_X8_tellMesh_33 (zbr_f (nI_nlt (b := 0) (by omega) (by omega)) ⟨hj8, ?_⟩)
      rw [ej, (cs g1 f1).2.1, Int32.sub_eq_add_neg]
      have inner : ∀ m, m ≤ r.1 → ∀ g2, fr [1071] [] g g2 → mhM s r g2 (fun i' j' => i + 1 ≤ i' ∨ (i' = i ∧ m ≤ j') ∨ j' = r.1) → hwv (d + 3) zm_X8_tellMesh kv X 47 [(0, .ref 1046), (1, .int (nI i0)), (2, .int (nI j0)), (3, .int (nI i)), (4, .int (nI m + (-1)))] g2 e := by
        intro m
        induction m with
        | zero =>
          intro _ g2 f2 m2
          refine zh_X8_tellMesh_47 (zbr_t (by decide) (ih (by omega) g2 f2 ?_))
          intro i' j' a b c
          refine m2 i' j' a b ?_
          rcases c with c | c
          · by_cases z : i' = i
            · exact .inr (.inl ⟨z, Nat.zero_le _⟩)
            · exact .inl (by omega)
          · exact .inr (.inr c)
        | succ j ih2 =>
          intro hm' g2 f2 m2
          obtain ⟨z1, z2⟩ := cs g2 f2
          have b1 := smx_le (r := r) os (i + 1) j
          have b2 := smx_le (r := r) os i (j + 1)
          have b3 := smx_le (r := r) os (i + 1) (j + 1)
          have b4 := shw_le (r := r) os i j
          have b5 := smx_mono (s := s) (r := r) (i := i + 1) (j := j) (by omega)
          rw [nI_p1m]
          refine zh_X8_tellMesh_47 (zbr_f (nI_nlt (b := 0) (by omega) (by omega)) ?_)
          rw [nI_1, ix18, ix18, nI_1, nI_clamp (show 18 * (i + 1) + j < 2 ^ 31 by omega), nI_clamp (show 18 * i + j + 1 < 2 ^ 31 by omega), nI_clamp (show 18 * i + j < 2 ^ 31 by omega)]
          refine ⟨nI_in (by omega) (by omega), nI_in (by omega) (by omega), c_max (cm_meshedAt (by omega) (by omega) z1 z2 os or (by omega) (by omega) ?_ (c_max ⟨nI_in (by omega) (by omega), ?_⟩))⟩
          · exact m2 (i + 1) (j + 1) (by omega) (by omega) (.inl (Nat.le_refl _))
          · rw [m2 (i + 1) j (by omega) (by omega) (.inl (Nat.le_refl _)), show g2.1 1071 (18 * i + j + 1) = nI (smx s r i (j + 1)) from m2 i (j + 1) (by omega) (by omega) (.inr (.inl ⟨rfl, Nat.le_refl _⟩)), imx_nI (by omega) (by omega)]
            refine ih2 (by omega) _ (f2.I (by decide) (by decide)) (mhM_put m2 n2 (by omega) (fun i' j' p => ?_) ?_)
            · rcases p with p | p | p
              · exact .inl (.inl p)
              · by_cases z : j' = j
                · exact .inr ⟨p.1, z⟩
                · exact .inl (.inr (.inl ⟨p.1, by omega⟩))
              · exact .inl (.inr (.inr p))
            · rw [smx_in (show i < s.1 by omega) (show j < r.1 by omega)]
              by_cases c : shw s r i j = 0
              · rw [if_pos c]
                have e1 : imx (nI (max (smx s r (i + 1) j) (smx s r i (j + 1)))) (-1) = nI (max (smx s r (i + 1) j) (smx s r i (j + 1))) := by
                  unfold imx
                  rw [if_neg (fun z => Int32.lt_irrefl (Int32.lt_trans z (n1_lt (by omega))))]
                rw [e1]
                congr 1
                omega
              · rw [if_neg c, imx_nI (by omega) (by omega)]
      refine inner r.1 (Nat.le_refl _) g1 f1 (fun i' j' a b c => m1 i' j' a b ?_)
      rcases c with c | c | c
      · exact .inl c
      · exact .inr (by omega)
      · exact .inr c
  refine zh_X8_tellMesh ?_
  have : ∀ n, n ≤ 324 → ∀ g1, fr [1071] [] g g1 → (∀ q, q < n → g1.1 1071 q = 0) → hwv (d + 3) zm_X8_tellMesh kv X 2 [(0, .ref 1046), (1, .int (nI i0)), (2, .int (nI j0)), (3, .int (nI n))] g1 e := by
    refine hdown ?_ ?_
    · intro g1 f1 h1
      refine zh_X8_tellMesh_2 (zbr_t (nI_le (Nat.le_refl _) (by omega)) ⟨hi8, ?_⟩)
      rw [ei, (cs g1 f1).1.1, Int32.sub_eq_add_neg]
      refine rows s.1 (Nat.le_refl _) g1 f1 (fun i j a b c => ?_)
      rw [h1 _ (by omega)]
      rcases c with c | c
      · rw [show i = s.1 by omega, smx_i]; rfl
      · rw [c, smx_j]; rfl
    · intro n hn W g1 f1 h1
      refine zh_X8_tellMesh_2 (zbr_f (nI_ge hn (by omega)) ⟨nI_in (by omega) (by omega), ?_⟩)
      rw [nI_clamp (by omega), nI_1]
      refine W _ (f1.I (by decide) (by decide)) (fun q hq => ?_)
      rw [sI_at]
      by_cases c : q = n
      · rw [c, upd_at]
      · rw [upd_off _ _ c]
        exact h1 q (by omega)
  exact this 0 (Nat.zero_le _) g fr.refl (fun q h => absurd h (by omega))
theorem mq_mesh (hm : mdr g x) {z y p : Int32} (H : ∀ g' u, fr qL qF g g' → mdr g' x → om c12 (o_mesh x z y p) u g' → k u g' e) : hci (d + 6) 305 [.ref 1046, .int z, .int y, .int p] g e k X := by
  have h4 := hm.1.1.2
  have hm0 : mdr (sI g 1046 4 0) x := mdr_code hm
  refine zh_X8_mesh (cm_isZip hm0.1.1.1 h4 (fun i hi hz => zbr_f (by decide) ?_) (fun h => zbr_t rfl (cm_failQ (cd := c12) (n := 1) hm0 fr_code (o_mesh_n (.inl h) h4) H)))
  refine cm_isZip hm0.1.1.1 h4 (fun j hj hy => zbr_f (by decide) ?_) (fun h => zbr_t rfl (cm_failQ (cd := c12) (n := 1) hm0 fr_code (o_mesh_n (.inr h) h4) H))
  subst hz
  subst hy
  have ei : (nI i).toNatClampNeg = i := nI_clamp (by omega)
  have ej : (nI j).toNatClampNeg = j := nI_clamp (by omega)
  have mzi := (hm0.1.2 i hi).1
  have os := (hm0.1.2 i hi).2
  have or := (hm0.1.2 j hj).2
  have n1 := os.1.2
  have n2 := or.1.2
  have hj8 : hin (nI j) 8 := nI_in (by omega) (by omega)
  refine ⟨nI_in (by omega) (by omega), ?_⟩
  rw [ei, mzi.1]
  have key : ∀ v : Int32, v ≤ nI (x.2.1 i).1 - 1 ↔ v < nI (x.2.1 i).1 := by
    intro v
    rw [Int32.le_iff_toInt_le, Int32.lt_iff_toInt_lt, show (nI (x.2.1 i).1 - 1).toInt = ((x.2.1 i).1 : Int) - 1 from pk_sub_toInt (b := 1) (by omega) (by omega), nI_toInt (by omega)]
    omega
  have k1 : ∀ v : Int32, ¬ v = -1 → ¬ v < -1 → ¬ v < 0 := by
    intro v h1 h2 h3
    rw [Int32.lt_iff_toInt_lt] at h2 h3
    rw [show (-1 : Int32).toInt = -1 by decide] at h2
    rw [show (0 : Int32).toInt = 0 by decide] at h3
    exact h1 (Int32.toInt_inj.mp (by rw [show (-1 : Int32).toInt = -1 by decide]; omega))
  have e1 : (-1 : Int64) = (-1 : Int32).toInt64 := by decide
  rw [e1]
  refine cm_isIn (fun c1 c2 => zbr_f (by decide) ?_) (fun c => zbr_t rfl (cm_failQ (cd := c12) (n := 1) hm0 fr_code (o_mesh_p h4 hi n1 ?_ ?_) H))
  case refine_2 =>
    intro z
    rw [z] at c
    rcases c with c | c
    · exact absurd c (by decide)
    · exact c ((key _).mpr (n1_lt (by omega)))
  case refine_3 =>
    refine isz_not (by omega) ?_
    rcases c with c | c
    · exact .inl (Int32.lt_trans c (by decide))
    · exact .inr (Int32.not_lt.mp (fun z => c ((key _).mpr z)))
  refine cm_tellMesh hm0 hi hj (fun g1 f1 mh => ?_)
  have m1 : mdr g1 x := mdr_fr f1 (by decide) (by decide) hm0
  have f01 : fr qL qF g g1 := fr_code.trans (f1.sub (by decide) (by decide))
  have c01 : g1.1 1046 4 = 0 := by rw [f1.2.1 4 (by decide)]; exact code_at
  refine ⟨fun c => ?_, fun c => ?_⟩
  · refine H g1 _ f01 m1 (om_l ?_ c01)
    rw [o_mesh_y h4 hi hj (.inl c), show g1.1 1071 0 = nI (smx (x.2.1 i) (x.2.1 j) 0 0) from mh 0 0 (by omega) (by omega) trivial]
    unfold v_mesh
    rw [if_pos c]
  · rcases isz_or (show (x.2.1 i).1 < 2 ^ 31 by omega) p with h | h
    case inr => exact absurd h (fun z => z.elim (k1 p c c1) (fun z => absurd ((key _).mp c2) (Int32.not_lt.mpr z)))
    obtain ⟨q, hq, rfl⟩ := h
    have hv : o_mesh x (nI i) (nI j) (nI q) = .inl (oI (swt (x.2.1 i) (x.2.1 j) (q + 1)).2) := by
      rw [o_mesh_y h4 hi hj (.inr (iszb_t (by omega) hq))]
      unfold v_mesh
      rw [if_neg c, nI_clamp (by omega)]
    have fin : k (oI (swt (x.2.1 i) (x.2.1 j) (q + 1)).2) g1 e := H g1 _ f01 m1 (om_l hv c01)
    have z1 := (m1.1.2 i hi).1
    have z2 := (m1.1.2 j hj).1
    clear hv H mzi key c1 c2 hm hm0 m1 f01 f1
    generalize x.2.1 i = s at *
    generalize x.2.1 j = r at *
    refine hdown (W := fun m => hwi (d + 5) zm_X8_mesh k X 74 [(0, .ref 1046), (1, .int (nI i)), (2, .int (nI j)), (3, .int (nI q)), (4, .int (nI (swt s r m).1)), (5, .int (oI (swt s r m).2)), (6, .int (nI m))] g1 e) (n := q + 1) ?_ ?_ 0 (Nat.zero_le _)
    · exact zh_X8_mesh_74 (zbr_t (nI_lt (by omega) (by omega)) fin)
    · intro m hm W
      have le := swt_le s r m
      refine zh_X8_mesh_74 (zbr_f (nI_nlt (by omega) (by omega)) ⟨hj8, ?_⟩)
      rw [ej, z2.1, Int32.sub_eq_add_neg]
      unfold swt at W
      generalize (swt s r m).1 = f at *
      obtain ⟨V, hV⟩ : ∃ V, V = sfp s r m f (r.1 - f) f := ⟨_, rfl⟩
      rw [← hV] at W
      have bf := smx_le (r := r) os m f
      have : ∀ a t, f + a = t → t ≤ r.1 → ∀ o, o = sfp s r m f (r.1 - t) t → hwi (d + 5) zm_X8_mesh k X 93 [(0, .ref 1046), (1, .int (nI i)), (2, .int (nI j)), (3, .int (nI q)), (4, .int (nI f)), (5, .int (oI o)), (6, .int (nI m)), (7, .int (nI t + (-1)))] g1 e := by
        intro a
        induction a with
        | zero =>
          intro t ht hr o ho
          subst ht
          rw [Nat.add_zero, ← hV] at ho
          rw [ho]
          refine zh_X8_mesh_93 (zbr_t ?_ ?_)
          · rw [Nat.add_zero]
            cases f with
            | zero => decide
            | succ f => rw [nI_p1m]; exact nI_lt (by omega) (by omega)
          · rw [nI_1]
            cases ov : V with
            | none =>
              rw [ov] at W
              exact zbr_t rfl W
            | some b =>
              rw [ov] at W hV
              have := sfp_lt hV.symm
              refine zbr_f (nI_m1 (by omega)) ?_
              show hwi _ _ _ _ _ [_, _, _, _, (4, .int (nI b + 1)), _, _] _ _
              rw [nI_1]
              exact W
        | succ a ih =>
          intro t ht hr o ho
          obtain ⟨u, rfl⟩ : ∃ u, t = u + 1 := ⟨t - 1, by omega⟩
          have b3 := smx_le (r := r) os (m + 1) (u + 1)
          have b4 := shw_le (r := r) os m u
          rw [nI_p1m]
          refine zh_X8_mesh_93 (zbr_f (nI_nlt (by omega) (by omega)) (cm_meshedAt (by omega) (by omega) z1 z2 os or (by omega) (by omega) (mh (m + 1) (u + 1) (by omega) (by omega) trivial) ?_))
          rw [ix18, nI_clamp (by omega), mh m f (by omega) (by omega) trivial]
          have un : sfp s r m f (r.1 - u) u = if ¬ shw s r m u = 0 ∧ shw s r m u + smx s r (m + 1) (u + 1) = smx s r m f then some u else sfp s r m f (r.1 - (u + 1)) (u + 1) := by
            rw [show r.1 - u = (r.1 - (u + 1)) + 1 by omega]
            rfl
          refine ⟨nI_in (by omega) (by omega), fun c => ?_, fun c => ?_⟩
          · refine ih u (by omega) (by omega) (some u) ?_
            rw [un, if_pos]
            by_cases c0 : shw s r m u = 0
            · rw [if_pos c0] at c
              exact absurd c.symm (nI_m1 (by omega))
            · rw [if_neg c0] at c
              exact ⟨c0, (nI_eq (by omega) (by omega)).mp c⟩
          · refine ih u (by omega) (by omega) o ?_
            rw [un, if_neg, ho]
            rintro ⟨c0, c3⟩
            rw [if_neg c0, c3] at c
            exact c rfl
      exact this (r.1 - f) r.1 (by omega) (Nat.le_refl _) none (by rw [Nat.sub_self]; rfl)
end
