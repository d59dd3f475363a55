section
variable {d : Nat} {k : Int32 → hG → hE → Prop} {kv : hG → hE → Prop} {X : Nat → hG → hE → Prop} {g g0 g1 : hG} {e : hE} {D : Nat} {x : sX} {f : Nat → Int32} {zs : Nat → sZ}
theorem cq_toSet (hc : cdr g D x) (hr : hrm e) {z n : Int32} (H : ∀ g', qf D g g' → oc (o_toSet x z n) k X g' e) : hci (d + 8) 181 [.ref 1000, .int z, .int n] g e k X := by
  have h4 := hc.2.1.2
  have hD' := hc.1.1
  refine zh_X7_toSet (c_theZip hc hr (fun i hi hz => ⟨hT_zip hD' (by omega), ?_⟩) (fun h => oc_r (H g qf.refl) (by unfold o_toSet; rw [iszb_f (by omega) h]; rfl)))
  subst hz
  refine c_checkRange hr (a := 1) (b := 60) (by omega) (by omega) (fun m m1 hm hn => ?_) (fun h => oc_r (H g qf.refl) (by unfold o_toSet; rw [iszb_t (by omega) hi, isrb_f (by omega) (by omega) h]; rfl))
  subst hn
  have hv : o_toSet x (nI i) (nI m) = .inl (sbS x (x.2.1 i) m (x.2.1 i).1).2 := by
    unfold o_toSet
    rw [iszb_t (by omega) hi, isrb_t (by omega) m1 hm, nI_clamp (by omega), nI_clamp (by omega)]
    rfl
  obtain ⟨n1, n2⟩ := ct_n (hc.2.2.1 i hi)
  have ha := hT_zip (D := D) hD' (show i < 4 by omega)
  have os := (hc.2.2.1 i hi).2.1
  have : ∀ t, t ≤ (x.2.1 i).1 → ∀ g1, qf D g g1 → hwi (d + 7) zm_X7_toSet k X 22 [(0, .ref 1000), (1, .int (nI i)), (2, .int (nI m)), (3, .ref (D + 2 + i)), (4, .int (sbS x (x.2.1 i) m t).1), (5, .int (sbS x (x.2.1 i) m t).2), (6, .int (nI t))] g1 e := by
    refine hdown ?_ ?_
    · intro g1 q1
      have hc1 := cdr_qf q1 hc
      exact zh_X7_toSet_22 ha (c_size ha (zbr_t (by rw [(ct_n (hc1.2.2.1 i hi)).1]; exact nI_le (Nat.le_refl _) (by omega)) (oc_l (H g1 q1) hv)))
    · intro t ht W g1 q1
      have hc1 := cdr_qf q1 hc
      refine zh_X7_toSet_22 ha (c_size ha (zbr_f (by rw [(ct_n (hc1.2.2.1 i hi)).1]; exact nI_ge ht (by omega)) (c_hold ha ?_)))
      rw [zrel_hold (hc1.2.2.1 i hi).1 os (by omega)]
      have l9 := sh_le os t
      refine ⟨fun c => ?_, fun c => ?_⟩
      · have c0 : sh (x.2.1 i) t = 0 := (nI_eq (b := 0) (by omega) (by omega)).mp c
        refine c_trialOf hc1 hr (fun i' hi' hz' g2 q2 c2 _ => ?_) (fun h => absurd ⟨i, hi, rfl⟩ h)
        obtain rfl : i = i' := (nI_eq (by omega) (by omega)).mp hz'
        have hT := hT_trial (show i < 4 by omega)
        have c3 : ctz x.2.2.2.1 _ _ := ctz_l c2 ht
        have q3 := qf_zp (g := g2) hD' (show i < 4 by omega) (zlack (zg g2 (1038 + i)) t)
        refine ⟨hT, c_setLacking hT (c_top (x := x) hD' (by omega) (ct_z c3) (fun g3 q3' c4 => ?_))⟩
        have q03 : qf D g g3 := ((q1.trans q2).trans q3).trans q3'
        refine c_closedB (cdr_qf q03 hc) (by omega) c4 (by omega) (fun g4 q4 => ?_)
        have W' := W g4 (q03.trans q4)
        rw [nI_succ, sbS_s c0] at W'
        rw [sl1_n, sl0_n]
        refine ⟨fun c => ?_, fun c => ?_⟩
        · rw [if_neg (Int32.not_lt.mpr c)] at W'
          exact W'
        · rw [if_pos (Int32.not_le.mp c)] at W'
          exact W'
      · have c0 : ¬ sh (x.2.1 i) t = 0 := fun z => c (by rw [z]; rfl)
        have W' := W g1 q1
        rw [nI_succ, sbS_n c0] at W'
        exact W'
  exact this 0 (Nat.zero_le _) g qf.refl
theorem mq_toSet (hm : mdr g x) {z n : Int32} (H : ∀ g' u, fr qL qF g g' → mdr g' x → om c12 (o_toSet x z n) u g' → k u g' e) : hci (d + 9) 316 [.ref 1046, .int z, .int n] g e k X := by
  have h4 := hm.1.1.2
  have hm0 : mdr (sI g 1046 4 0) x := mdr_code hm
  refine zh_X8_toSet (cm_isZip hm0.1.1.1 h4 (fun i hi hv => zbr_f (by decide) ?_) (fun h => zbr_t rfl (cm_failQ (cd := c12) (n := 1) hm0 fr_code (by unfold o_toSet; rw [iszb_f (by omega) h]; rfl) H)))
  subst hv
  refine cm_isInR (a := 1) (b := 60) (by omega) (by omega) (by decide) (by decide) (fun m m1 hmm hn => zbr_f (by decide) ?_) (fun h => zbr_t rfl (cm_failQ (cd := c12) (n := 0) hm0 fr_code (by unfold o_toSet; rw [iszb_t (by omega) hi, isrb_f (by omega) (by omega) h]; rfl) H))
  subst hn
  have hv : o_toSet x (nI i) (nI m) = .inl (sbS x (x.2.1 i) m (x.2.1 i).1).2 := by
    unfold o_toSet
    rw [iszb_t (by omega) hi, isrb_t (by omega) m1 hmm, nI_clamp (by omega), nI_clamp (by omega)]
    rfl
  have HK := mqk_in hv H
  have ei : (nI i).toNatClampNeg = i := nI_clamp (by omega)
  have hi8 : hin (nI i) 8 := nI_in (by omega) (by omega)
  have os := (hm.1.2 i hi).2
  have n2 := os.1.2
  refine sim_begin hm0 code_at (fun f s0 => ?_)
  have : ∀ t, t ≤ (x.2.1 i).1 → ∀ g1, sim (sI g 1046 4 0) x f g1 x.2.1 x.2.2.2.2.2 → mdr g1 x → hwi (d + 8) zm_X8_toSet k X 54 [(0, .ref 1046), (1, .int (nI i)), (2, .int (nI m)), (3, .int (sbS x (x.2.1 i) m t).1), (4, .int (sbS x (x.2.1 i) m t).2), (5, .int (nI t))] g1 e := by
    refine hdown ?_ ?_
    · intro g1 s1 m1
      exact zh_X8_toSet_54 ⟨hi8, zbr_t (by rw [ei, (m1.1.2 i hi).1.1]; exact nI_le (Nat.le_refl _) (by omega)) (HK g1 s1.2.1.1 m1 s1.2.1.2.2)⟩
    · intro t ht W g1 s1 m1
      have mz1 := (m1.1.2 i hi).1
      have l9 := sh_le os t
      have lL := os.2.2.1 t
      have lR := os.2.2.2.1 t
      have h64 : hin (nI (16 * i + t)) 64 := nI_in (by omega) (by omega)
      refine zh_X8_toSet_54 ⟨hi8, zbr_f (by rw [ei, mz1.1]; exact nI_ge ht (by omega)) (cm_holdOf (by omega) mz1 os (by omega) ⟨fun c => ?_, fun c => ?_⟩)⟩
      · have c0 : sh (x.2.1 i) t = 0 := by
          apply Nat.eq_zero_of_not_pos
          intro z
          exact nI_ge (a := 0) z (by omega) c
        have go : ∀ g2 zs, sim (sI g 1046 4 0) x f g2 zs x.2.2.2.2.2 → zs i = sl1 (sl0 (x.2.1 i) t) t → hwi (d + 8) zm_X8_toSet k X 125 [(0, .ref 1046), (1, .int (nI i)), (2, .int (nI m)), (3, .int (sbS x (x.2.1 i) m t).1), (4, .int (sbS x (x.2.1 i) m t).2), (5, .int (nI t))] g2 e := by
          intro g2 zs s2 hz
          have ez : (zs i).1 = (x.2.1 i).1 := by rw [hz, sl1_n, sl0_n]
          refine zh_X8_toSet_125 ⟨hi8, ?_⟩
          rw [ei, (s2.2.2.1.2 i hi).1.1, ez]
          refine sim_slide s2 hi (by rw [ez]; exact Nat.le_refl _) (fun g3 s3 _ => cm_closedBehind hi (by omega) s3 (fun g4 s4 m4 => ?_))
          have W' := W g4 s4 m4
          rw [nI_succ, sbS_s c0] at W'
          rw [va_up_at, hz]
          refine ⟨fun c => ?_, fun c => ?_⟩
          · rw [if_pos c] at W'
            exact W'
          · rw [if_neg c] at W'
            exact W'
        rw [ix16, nI_clamp (by omega), mz1.2.2.1 t (by omega)]
        refine ⟨h64, fun cL => ⟨h64, h64, ?_⟩, fun cL => ⟨h64, ?_⟩⟩
        · have eL : (x.2.1 i).2.2.1 t = 0 := (nI_eq (b := 0) (by omega) (by omega)).mp cL
          have e0 : sl0 (x.2.1 i) t = spL (x.2.1 i) t 9 := if_pos eL
          have s2 := sim_L (v := 9) s1 hi ht (by omega) (by omega)
          rw [show (sI g1 1060 (16 * i + t) 9).1 1061 (16 * i + t) = nI ((x.2.1 i).2.2.2.1 t) from mz1.2.2.2.1 t (by omega)]
          refine ⟨fun cR => ⟨h64, ?_⟩, fun cR => ?_⟩
          · have eR : (x.2.1 i).2.2.2.1 t = 0 := (nI_eq (b := 0) (by omega) (by omega)).mp cR
            have s3 := sim_R (v := 9) (p := t) s2 hi (by rw [va_up_at]; exact ht) (by omega) (by omega)
            refine go _ _ s3 ?_
            rw [va_up_at, va_up_at, e0]
            exact (if_pos eR).symm
          · refine go _ _ s2 ?_
            rw [va_up_at, e0]
            refine (if_neg ?_).symm
            intro z
            exact cR (by rw [show (x.2.1 i).2.2.2.1 t = 0 from z]; rfl)
        · have eL : ¬ (x.2.1 i).2.2.1 t = 0 := fun z => cL (by rw [z]; rfl)
          have e0 : sl0 (x.2.1 i) t = x.2.1 i := if_neg eL
          rw [mz1.2.2.2.1 t (by omega)]
          refine ⟨fun cR => ⟨h64, ?_⟩, fun cR => ?_⟩
          · have eR : (x.2.1 i).2.2.2.1 t = 0 := (nI_eq (b := 0) (by omega) (by omega)).mp cR
            have s3 := sim_R (v := 9) (p := t) s1 hi ht (by omega) (by omega)
            refine go _ _ s3 ?_
            rw [va_up_at, e0]
            exact (if_pos eR).symm
          · refine go _ _ s1 ?_
            rw [e0]
            refine (if_neg ?_).symm
            intro z
            exact cR (by rw [z]; rfl)
      · have c0 : ¬ sh (x.2.1 i) t = 0 := fun z => c (by rw [z]; decide)
        have W' := W g1 s1 m1
        rw [nI_succ, sbS_n c0] at W'
        exact W'
  exact this 0 (Nat.zero_le _) _ s0 (mdr_fr (L := [1070]) (F := []) (fr_aI (by decide) (by decide)) (by decide) (by decide) hm0)
end
