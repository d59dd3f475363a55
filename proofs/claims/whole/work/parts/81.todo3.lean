def sbP (x : sX) (s : sZ) (n : Nat) (t : Nat) : Int32 × Int32 := sbt (fun _ => true) (fun p => xcb x n (sp1 (sp0 s p) p)) (xcb x n s) (-1) t
theorem sbP_s (x : sX) (s : sZ) (n t : Nat) : sbP x s n (t + 1) = if (sbP x s n t).1 < xcb x n (sp1 (sp0 s t) t) then (xcb x n (sp1 (sp0 s t) t), nI t) else sbP x s n t := by
  show (if true = true ∧ _ then _ else _) = _
  by_cases c : (sbP x s n t).1 < xcb x n (sp1 (sp0 s t) t)
  · rw [if_pos c, if_pos ⟨rfl, c⟩]
  · rw [if_neg c, if_neg (fun z => c z.2)]; rfl
def sbS (x : sX) (s : sZ) (n : Nat) (t : Nat) : Int32 × Int32 := sbt (fun p => decide (sh s p = 0)) (fun p => xcb x n (sslide (sl1 (sl0 s p) p) s.1)) (-1) (-1) t
theorem sbS_n {x : sX} {s : sZ} {n t : Nat} (h : ¬ sh s t = 0) : sbS x s n (t + 1) = sbS x s n t := by
  show (if decide (sh s t = 0) = true ∧ _ then _ else _) = _
  rw [if_neg (fun z => h (of_decide_eq_true z.1))]
  rfl
theorem sbS_s {x : sX} {s : sZ} {n t : Nat} (h : sh s t = 0) : sbS x s n (t + 1) = if (sbS x s n t).1 < xcb x n (sslide (sl1 (sl0 s t) t) s.1) then (xcb x n (sslide (sl1 (sl0 s t) t) s.1), nI t) else sbS x s n t := by
  show (if decide (sh s t = 0) = true ∧ _ then _ else _) = _
  by_cases c : (sbS x s n t).1 < xcb x n (sslide (sl1 (sl0 s t) t) s.1)
  · rw [if_pos c, if_pos ⟨decide_eq_true h, c⟩]
  · rw [if_neg c, if_neg (fun z => c z.2)]; rfl
def o_toPinch (x : sX) (z n : Int32) : rs := if iszb x.1 z then (if isrb 1 60 n then .inl (sbP x (x.2.1 z.toNatClampNeg) n.toNatClampNeg (x.2.1 z.toNatClampNeg).1).2 else .inr 0) else .inr 1
def o_toSet (x : sX) (z n : Int32) : rs := if iszb x.1 z then (if isrb 1 60 n then .inl (sbS x (x.2.1 z.toNatClampNeg) n.toNatClampNeg (x.2.1 z.toNatClampNeg).1).2 else .inr 0) else .inr 1
section
variable {d : Nat} {k : Int32 → hG → hE → Prop} {kv : hG → hE → Prop} {X : Nat → hG → hE → Prop} {g g0 g1 : hG} {e : hE} {D : Nat} {x : sX} {f : Nat → Int32} {zs : Nat → sZ}
theorem c_closedB (hc : cdr g D x) {i : Nat} (hi : i < 4) {s : sZ} (hs : ct x.2.2.2.1 g (1038 + i) s) {n : Nat} (hn : n ≤ 1000) (H : ∀ g', qf D g g' → k (xcb x n s) g' e) : hci (d + 6) 212 [.ref 1000, .ref (1038 + i), .int (nI n)] g e k X :=
  c_closedBehind hc hi hs hn (fun g' p' => H g' (qf_pf hi p'))
theorem cq_toPinch (hc : cdr g D x) (hr : hrm e) {z n : Int32} (H : ∀ g', qf D g g' → oc (o_toPinch x z n) k X g' e) : hci (d + 8) 179 [.ref 1000, .int z, .int n] g e k X := by
  have h4 := hc.2.1.2
  have hD' := hc.1.1
  refine zh_X7_toPinch (c_trialOf hc hr (fun i hi hz g1 q1 c1 _ => ⟨hT_trial (by omega), ?_⟩) (fun h => oc_r (H g qf.refl) (by unfold o_toPinch; rw [iszb_f (by omega) h]; rfl)))
  subst hz
  refine c_checkRange hr (a := 1) (b := 60) (by omega) (by omega) (fun m m1 hm hn => ?_) (fun h => oc_r (H g1 q1) (by unfold o_toPinch; rw [iszb_t (by omega) hi, isrb_f (by omega) (by omega) h]; rfl))
  subst hn
  have hv : o_toPinch x (nI i) (nI m) = .inl (sbP x (x.2.1 i) m (x.2.1 i).1).2 := by
    unfold o_toPinch
    rw [iszb_t (by omega) hi, isrb_t (by omega) m1 hm, nI_clamp (by omega), nI_clamp (by omega)]
    rfl
  obtain ⟨n1, n2⟩ := ct_n (hc.2.2.1 i hi)
  have : ∀ t, t ≤ (x.2.1 i).1 → ∀ g1, qf D g g1 → hwi (d + 7) zm_X7_toPinch k X 27 [(0, .ref 1000), (1, .int (nI i)), (2, .int (nI m)), (4, .int (sbP x (x.2.1 i) m t).1), (5, .int (sbP x (x.2.1 i) m t).2), (6, .int (nI t))] g1 e := by
    refine hdown ?_ ?_
    · intro g1 q1
      have hc1 := cdr_qf q1 hc
      refine zh_X7_toPinch_27 (c_theZip hc1 hr (fun i' hi' hz' => ?_) (fun h => absurd ⟨i, hi, rfl⟩ h))
      obtain rfl : i = i' := (nI_eq (by omega) (by omega)).mp hz'
      exact ⟨hT_zip hD' (by omega), c_size (hT_zip hD' (by omega)) (zbr_t (by rw [(ct_n (hc1.2.2.1 i hi)).1]; exact nI_le (Nat.le_refl _) (by omega)) (oc_l (H g1 q1) hv))⟩
    · intro t ht W g1 q1
      have hc1 := cdr_qf q1 hc
      refine zh_X7_toPinch_27 (c_theZip hc1 hr (fun i' hi' hz' => ?_) (fun h => absurd ⟨i, hi, rfl⟩ h))
      obtain rfl : i = i' := (nI_eq (by omega) (by omega)).mp hz'
      refine ⟨hT_zip hD' (by omega), c_size (hT_zip hD' (by omega)) (zbr_f (by rw [(ct_n (hc1.2.2.1 i hi)).1]; exact nI_ge ht (by omega)) (c_trialOf hc1 hr (fun i' hi' hz' g2 q2 c2 _ => ?_) (fun h => absurd ⟨i, hi, rfl⟩ h)))⟩
      obtain rfl : i = i' := (nI_eq (by omega) (by omega)).mp hz'
      have hT := hT_trial (show i < 4 by omega)
      have c3 : ctz x.2.2.2.1 _ _ := ctz_p1 (ctz_p0 c2 ht) (p := t) (by rw [sp0_n]; exact ht)
      refine ⟨hT, c_pinchTooth hT (c_pinchTooth hT ?_)⟩
      rw [zg_zp, zp_zp]
      have q3 := qf_zp (g := g2) hD' (show i < 4 by omega) (zpinch (zpinch (zg g2 (1038 + i)) 0 t) 1 t)
      refine c_closedB (cdr_qf ((q1.trans q2).trans q3) hc) (by omega) (ct_z c3) (by omega) (fun g4 q4 => ?_)
      have W' := W g4 (((q1.trans q2).trans q3).trans q4)
      rw [nI_succ, sbP_s] at W'
      refine ⟨fun c => ?_, fun c => ?_⟩
      · rw [if_neg (Int32.not_lt.mpr c)] at W'
        exact W'
      · rw [if_pos (Int32.not_le.mp c)] at W'
        exact W'
  exact c_closedB (cdr_qf q1 hc) (by omega) c1 (by omega) (fun g2 q2 => this 0 (Nat.zero_le _) g2 (q1.trans q2))
theorem mq_toPinch (hm : mdr g x) {z n : Int32} (H : ∀ g' u, fr qL qF g g' → mdr g' x → om c12 (o_toPinch x z n) u g' → k u g' e) : hci (d + 9) 314 [.ref 1046, .int z, .int n] g e k X := by
  have h4 := hm.1.1.2
  have hm0 : mdr (sI g 1046 4 0) x := mdr_code hm
  refine zh_X8_toPinch (cm_isZip hm0.1.1.1 h4 (fun i hi hv => zbr_f (by decide) ?_) (fun h => zbr_t rfl (cm_failQ (cd := c12) (n := 1) hm0 fr_code (by unfold o_toPinch; rw [iszb_f (by omega) h]; rfl) H)))
  subst hv
  refine cm_isInR (a := 1) (b := 60) (by omega) (by omega) (by decide) (by decide) (fun m m1 hmm hn => zbr_f (by decide) ?_) (fun h => zbr_t rfl (cm_failQ (cd := c12) (n := 0) hm0 fr_code (by unfold o_toPinch; rw [iszb_t (by omega) hi, isrb_f (by omega) (by omega) h]; rfl) H))
  subst hn
  have hv : o_toPinch x (nI i) (nI m) = .inl (sbP x (x.2.1 i) m (x.2.1 i).1).2 := by
    unfold o_toPinch
    rw [iszb_t (by omega) hi, isrb_t (by omega) m1 hmm, nI_clamp (by omega), nI_clamp (by omega)]
    rfl
  have HK := mqk_in hv H
  have ei : (nI i).toNatClampNeg = i := nI_clamp (by omega)
  have hi8 : hin (nI i) 8 := nI_in (by omega) (by omega)
  have os := (hm.1.2 i hi).2
  have n2 := os.1.2
  refine sim_begin hm0 code_at (fun f s0 => cm_closedBehind hi (by omega) s0 (fun g1 s1 m1 => ?_))
  have : ∀ t, t ≤ (x.2.1 i).1 → ∀ g1, sim (sI g 1046 4 0) x f g1 x.2.1 x.2.2.2.2.2 → mdr g1 x → hwi (d + 8) zm_X8_toPinch k X 59 [(0, .ref 1046), (1, .int (nI i)), (2, .int (nI m)), (3, .int (sbP x (x.2.1 i) m t).1), (4, .int (sbP x (x.2.1 i) m t).2), (5, .int (nI t))] g1 e := by
    refine hdown ?_ ?_
    · intro g1 s1 m1
      exact zh_X8_toPinch_59 ⟨hi8, zbr_t (by rw [ei, (m1.1.2 i hi).1.1]; exact nI_le (Nat.le_refl _) (by omega)) (HK g1 s1.2.1.1 m1 s1.2.1.2.2)⟩
    · intro t ht W g1 s1 m1
      refine zh_X8_toPinch_59 ⟨hi8, zbr_f (by rw [ei, (m1.1.2 i hi).1.1]; exact nI_ge ht (by omega)) ?_⟩
      rw [ix16]
      refine sim_p0 s1 hi ht (fun g2 s2 => sim_p1 s2 hi (by rw [va_up_at, sp0_n]; exact ht) (fun g3 s3 => cm_closedBehind hi (by omega) s3 (fun g4 s4 m4 => ?_)))
      have W' := W g4 s4 m4
      rw [nI_succ, sbP_s] at W'
      rw [va_up_at, va_up_at]
      refine ⟨fun c => ?_, fun c => ?_⟩
      · rw [if_pos c] at W'
        exact W'
      · rw [if_neg c] at W'
        exact W'
  exact this 0 (Nat.zero_le _) g1 s1 m1
end
