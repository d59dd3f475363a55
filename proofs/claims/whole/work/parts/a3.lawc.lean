/-! the cases of the law -/
section
variable {d : Nat} {k : Int32 → hG → hE → Prop} {X : Nat → hG → hE → Prop} {g : hG} {e : hE} {D : Nat} {s : sS} {l4 : Int32}
theorem cun_feed {s : sS} {a0 a1 a2 a3 a4 : Int32} : cun (r_feed s a0 a1 a2 a3 a4).1 := by
  unfold r_feed
  repeat' split
  all_goals exact ⟨_, rfl⟩
theorem la_feed (hc : RC g D s) (hm : RM g s) (hr : hrm e) (h : lin l4 e.2.2.2) (H : lnx (d + 70) k X g e l4) : hwi (d + 70) zm_L_law k X 216 (lws l4) g e := by
  obtain ⟨w, hw⟩ := cun_feed (s := s) (a0 := (g.1 997 (l4 + 1).toNatClampNeg)) (a1 := (g.1 997 (l4 + 2).toNatClampNeg)) (a2 := (g.1 997 (l4 + 3).toNatClampNeg)) (a3 := (g.1 997 (l4 + 4).toNatClampNeg)) (a4 := (g.1 997 (l4 + 5).toNatClampNeg))
  refine zh_L_law_216 ⟨h.1, h.2.1, h.2.2.1, h.2.2.2.1, h.2.2.2.2, cs_feed hc (fun g1 f1 c1 => ?_)⟩
  rw [hw]
  have q : g1.1 997 = g.1 997 := (f1 997 (by omega)).1
  show hin (l4 + 1) e.2.2.2 ∧ hin (l4 + 2) e.2.2.2 ∧ hin (l4 + 3) e.2.2.2 ∧ hin (l4 + 4) e.2.2.2 ∧ hin (l4 + 5) e.2.2.2 ∧ hci (d + 70) _ [.ref 1046, .int (g1.1 997 (l4 + 1).toNatClampNeg), .int (g1.1 997 (l4 + 2).toNatClampNeg), .int (g1.1 997 (l4 + 3).toNatClampNeg), .int (g1.1 997 (l4 + 4).toNatClampNeg), .int (g1.1 997 (l4 + 5).toNatClampNeg)] g1 e _ X
  rw [q]
  refine ⟨h.1, h.2.1, h.2.2.1, h.2.2.2.1, h.2.2.2.2, ms_feed (RM_cfr f1 hm) (fun g2 u f2 m2 o2 => ?_)⟩
  rw [hw] at o2
  obtain ⟨rfl, _⟩ := o2
  exact zbr_t rfl (H g2 e _ _ (RC_mfr f2 c1) m2 (by rw [(f2 997 (by omega)).1, q]) (.inl rfl))
theorem cu_drawer {s : sS} {a0 : Int32} : cu0 (r_drawer s a0).1 := by
  intro c h
  unfold r_drawer at h
  repeat' split at h
  all_goals first | (cases h; rfl) | (cases h; exact .inl rfl) | (cases h; exact .inr rfl) | (cases h; done)
theorem lw_drawer (hc : RC g D s) (hr : hrm e) {a0 : Int32} (H : ∀ v g2 e2 D2, cfw g g2 → RC g2 D2 (r_drawer s a0).2 → eth e e2 → wrl c01 (r_drawer s a0).1 v g2 → k v g2 e2) : hci (d + 70) 332 [.ref 1000, .int a0, .ref 1088] g e k X :=
  zh_L_drawer (cs_drawer hc hr (fun g1 D2 f1 c1 => w0 (k := k) (X := X) cu_drawer f1 c1 (fun v g2 e2 f2 c2 he W => H v g2 e2 _ f2 c2 he W)))
theorem la_drawer (hc : RC g D s) (hm : RM g s) (hr : hrm e) (h : lin l4 e.2.2.2) (H : lnx (d + 70) k X g e l4) : hwi (d + 70) zm_L_law k X 289 (lws l4) g e := by
  refine zh_L_law_289 ⟨h.1, lw_drawer hc hr ?_⟩
  intro v g2 e2 D2 f2 c2 he W
  have m2 := RM_cfw f2 hm
  have q : g2.1 997 = g.1 997 := f2.1 997 (by omega)
  rw [q, eth_n he]
  refine ⟨h.1, ms_drawer m2 (fun g3 u f3 d3 o3 => ?_)⟩
  exact m1 (A := fun g e => hwi (d + 70) zm_L_law k X 2733 (lws l4) g e) cnz01 W f3 o3 (H g3 e2 _ _ (RC_mfr f3 c2) d3 (by rw [(f3 997 (by omega)).1, q]) he)
theorem la_fault (hc : RC g D s) (hm : RM g s) (hr : hrm e) (h : lin l4 e.2.2.2) (H : lnx (d + 70) k X g e l4) : hwi (d + 70) zm_L_law k X 345 (lws l4) g e := by
  refine zh_L_law_345 (cs_fault hc (ms_fault hm (fun g2 f2 m2 _ => zbr_t rfl ?_)))
  exact H g2 e _ _ (RC_mfr f2 hc) m2 (by rw [(f2 997 (by omega)).1]) (.inl rfl)
theorem cu_count {s : sS} {a0 : Int32} : cu1 (o_count s a0) := by
  intro c h
  unfold o_count at h
  repeat' split at h
  all_goals first | (cases h; rfl) | (cases h; exact .inl rfl) | (cases h; exact .inr rfl) | (cases h; done)
theorem lw_count (hc : RC g D s) (hr : hrm e) {a0 : Int32} (H : ∀ v g2 e2 D2, cfw g g2 → RC g2 D2 s → eth e e2 → wrl c12 (o_count s a0) v g2 → k v g2 e2) : hci (d + 70) 333 [.ref 1000, .int a0, .ref 1088] g e k X :=
  zh_L_count (cs_count hc hr (w1 (k := k) (X := X) cu_count cfr.refl hc (fun v g2 e2 f2 c2 he W => H v g2 e2 _ f2 c2 he W)))
theorem la_count (hc : RC g D s) (hm : RM g s) (hr : hrm e) (h : lin l4 e.2.2.2) (H : lnx (d + 70) k X g e l4) : hwi (d + 70) zm_L_law k X 358 (lws l4) g e := by
  refine zh_L_law_358 ⟨h.1, lw_count hc hr ?_⟩
  intro v g2 e2 D2 f2 c2 he W
  have m2 := RM_cfw f2 hm
  have q : g2.1 997 = g.1 997 := f2.1 997 (by omega)
  rw [q, eth_n he]
  refine ⟨h.1, ms_count m2 (fun g3 u f3 d3 o3 => ?_)⟩
  exact m1 (A := fun g e => hwi (d + 70) zm_L_law k X 2733 (lws l4) g e) cnz12 W f3 o3 (H g3 e2 _ _ (RC_mfr f3 c2) d3 (by rw [(f3 997 (by omega)).1, q]) he)
theorem cu_zip {x : sX} {a0 a1 : Int32} : cu1 (o_zip x a0 a1) := by
  intro c h
  unfold o_zip at h
  repeat' split at h
  all_goals first | (cases h; rfl) | (cases h; exact .inl rfl) | (cases h; exact .inr rfl) | (cases h; done)
theorem lw_zip (hc : RC g D s) (hr : hrm e) {a0 a1 : Int32} (H : ∀ v g2 e2 D2, cfw g g2 → RC g2 D2 s → eth e e2 → wrl c12 (o_zip s.1 a0 a1) v g2 → k v g2 e2) : hci (d + 70) 334 [.ref 1000, .int a0, .int a1, .ref 1088] g e k X :=
  zh_L_zip (cq_zip hc.1 hr (fun g1 f1 => w1 (k := k) (X := X) cu_zip (cfr_qf hc.1.1.1 f1) (RC_qf f1 hc) (fun v g2 e2 f2 c2 he W => H v g2 e2 _ f2 c2 he W)))
theorem la_zip (hc : RC g D s) (hm : RM g s) (hr : hrm e) (h : lin l4 e.2.2.2) (H : lnx (d + 70) k X g e l4) : hwi (d + 70) zm_L_law k X 414 (lws l4) g e := by
  refine zh_L_law_414 ⟨h.1, h.2.1, lw_zip hc hr ?_⟩
  intro v g2 e2 D2 f2 c2 he W
  have m2 := RM_cfw f2 hm
  have q : g2.1 997 = g.1 997 := f2.1 997 (by omega)
  rw [q, eth_n he]
  refine ⟨h.1, h.2.1, mq_zip m2.1 (fun g3 u f3 d3 o3 => ?_)⟩
  have f4 := mfr_fr (by decide) f3
  exact m1 (A := fun g e => hwi (d + 70) zm_L_law k X 2733 (lws l4) g e) cnz12 W f4 o3 (H g3 e2 _ _ (RC_mfr f4 c2) (RM_q f3 d3 m2) (by rw [(f4 997 (by omega)).1, q]) he)
theorem cu_place {x : sX} {a0 a1 a2 : Int32} : cu1 (o_place x a0 a1 a2) := by
  intro c h
  unfold o_place at h
  repeat' split at h
  all_goals first | (cases h; rfl) | (cases h; exact .inl rfl) | (cases h; exact .inr rfl) | (cases h; done)
theorem lw_place (hc : RC g D s) (hr : hrm e) {a0 a1 a2 : Int32} (H : ∀ v g2 e2 D2, cfw g g2 → RC g2 D2 s → eth e e2 → wrl c12 (o_place s.1 a0 a1 a2) v g2 → k v g2 e2) : hci (d + 70) 335 [.ref 1000, .int a0, .int a1, .int a2, .ref 1088] g e k X :=
  zh_L_place (cq_place hc.1 hr (fun g1 f1 => w1 (k := k) (X := X) cu_place (cfr_qf hc.1.1.1 f1) (RC_qf f1 hc) (fun v g2 e2 f2 c2 he W => H v g2 e2 _ f2 c2 he W)))
theorem la_place (hc : RC g D s) (hm : RM g s) (hr : hrm e) (h : lin l4 e.2.2.2) (H : lnx (d + 70) k X g e l4) : hwi (d + 70) zm_L_law k X 482 (lws l4) g e := by
  refine zh_L_law_482 ⟨h.1, h.2.1, h.2.2.1, lw_place hc hr ?_⟩
  intro v g2 e2 D2 f2 c2 he W
  have m2 := RM_cfw f2 hm
  have q : g2.1 997 = g.1 997 := f2.1 997 (by omega)
  rw [q, eth_n he]
  refine ⟨h.1, h.2.1, h.2.2.1, mq_place m2.1 (fun g3 u f3 d3 o3 => ?_)⟩
  have f4 := mfr_fr (by decide) f3
  exact m1 (A := fun g e => hwi (d + 70) zm_L_law k X 2733 (lws l4) g e) cnz12 W f4 o3 (H g3 e2 _ _ (RC_mfr f4 c2) (RM_q f3 d3 m2) (by rw [(f4 997 (by omega)).1, q]) he)
theorem cun_days {s : sS} {a0 : Int32} : cun (r_days s a0).1 := by
  unfold r_days
  repeat' split
  all_goals exact ⟨_, rfl⟩
theorem la_days (hc : RC g D s) (hm : RM g s) (hr : hrm e) (h : lin l4 e.2.2.2) (H : lnx (d + 70) k X g e l4) : hwi (d + 70) zm_L_law k X 562 (lws l4) g e := by
  obtain ⟨w, hw⟩ := cun_days (s := s) (a0 := (g.1 997 (l4 + 1).toNatClampNeg))
  refine zh_L_law_562 ⟨h.1, cs_days hc (fun g1 f1 c1 => ?_)⟩
  rw [hw]
  have q : g1.1 997 = g.1 997 := (f1 997 (by omega)).1
  show hin (l4 + 1) e.2.2.2 ∧ hci (d + 70) _ [.ref 1046, .int (g1.1 997 (l4 + 1).toNatClampNeg)] g1 e _ X
  rw [q]
  refine ⟨h.1, ms_days (RM_cfr f1 hm) (fun g2 u f2 m2 o2 => ?_)⟩
  rw [hw] at o2
  obtain ⟨rfl, _⟩ := o2
  exact zbr_t rfl (H g2 e _ _ (RC_mfr f2 c1) m2 (by rw [(f2 997 (by omega)).1, q]) (.inl rfl))
theorem cu_slide {s : sS} {a0 a1 : Int32} : cu1 (r_slide s a0 a1).1 := by
  intro c h
  unfold r_slide at h
  repeat' split at h
  all_goals first | (cases h; rfl) | (cases h; exact .inl rfl) | (cases h; exact .inr rfl) | (cases h; done)
theorem lw_slide (hc : RC g D s) (hr : hrm e) {a0 a1 : Int32} (H : ∀ v g2 e2 D2, cfw g g2 → RC g2 D2 (r_slide s a0 a1).2 → eth e e2 → wrl c12 (r_slide s a0 a1).1 v g2 → k v g2 e2) : hci (d + 70) 336 [.ref 1000, .int a0, .int a1, .ref 1088] g e k X :=
  zh_L_slide (cs_slide hc hr (fun g1 f1 c1 => w1 (k := k) (X := X) cu_slide f1 c1 (fun v g2 e2 f2 c2 he W => H v g2 e2 _ f2 c2 he W)))
theorem la_slide (hc : RC g D s) (hm : RM g s) (hr : hrm e) (h : lin l4 e.2.2.2) (H : lnx (d + 70) k X g e l4) : hwi (d + 70) zm_L_law k X 587 (lws l4) g e := by
  refine zh_L_law_587 ⟨h.1, h.2.1, lw_slide hc hr ?_⟩
  intro v g2 e2 D2 f2 c2 he W
  have m2 := RM_cfw f2 hm
  have q : g2.1 997 = g.1 997 := f2.1 997 (by omega)
  rw [q, eth_n he]
  refine ⟨h.1, h.2.1, ms_slideA m2 (fun g3 u f3 d3 o3 => ?_)⟩
  exact m1 (A := fun g e => hwi (d + 70) zm_L_law k X 2733 (lws l4) g e) cnz12 W f3 o3 (H g3 e2 _ _ (RC_mfr f3 c2) d3 (by rw [(f3 997 (by omega)).1, q]) he)
theorem cu_pinch {s : sS} {a0 a1 a2 : Int32} : cu1 (r_pinch s a0 a1 a2).1 := by
  intro c h
  unfold r_pinch at h
  repeat' split at h
  all_goals first | (cases h; rfl) | (cases h; exact .inl rfl) | (cases h; exact .inr rfl) | (cases h; done)
theorem lw_pinch (hc : RC g D s) (hr : hrm e) {a0 a1 a2 : Int32} (H : ∀ v g2 e2 D2, cfw g g2 → RC g2 D2 (r_pinch s a0 a1 a2).2 → eth e e2 → wrl c12 (r_pinch s a0 a1 a2).1 v g2 → k v g2 e2) : hci (d + 70) 337 [.ref 1000, .int a0, .int a1, .int a2, .ref 1088] g e k X :=
  zh_L_pinch (cs_pinch hc hr (fun g1 f1 c1 => w1 (k := k) (X := X) cu_pinch f1 c1 (fun v g2 e2 f2 c2 he W => H v g2 e2 _ f2 c2 he W)))
theorem la_pinch (hc : RC g D s) (hm : RM g s) (hr : hrm e) (h : lin l4 e.2.2.2) (H : lnx (d + 70) k X g e l4) : hwi (d + 70) zm_L_law k X 655 (lws l4) g e := by
  refine zh_L_law_655 ⟨h.1, h.2.1, h.2.2.1, lw_pinch hc hr ?_⟩
  intro v g2 e2 D2 f2 c2 he W
  have m2 := RM_cfw f2 hm
  have q : g2.1 997 = g.1 997 := f2.1 997 (by omega)
  rw [q, eth_n he]
  refine ⟨h.1, h.2.1, h.2.2.1, ms_pinch m2 (fun g3 u f3 d3 o3 => ?_)⟩
  exact m1 (A := fun g e => hwi (d + 70) zm_L_law k X 2733 (lws l4) g e) cnz12 W f3 o3 (H g3 e2 _ _ (RC_mfr f3 c2) d3 (by rw [(f3 997 (by omega)).1, q]) he)
theorem cu_set {s : sS} {a0 a1 a2 a3 : Int32} : cu1 (r_set s a0 a1 a2 a3).1 := by
  intro c h
  unfold r_set at h
  repeat' split at h
  all_goals first | (cases h; rfl) | (cases h; exact .inl rfl) | (cases h; exact .inr rfl) | (cases h; done)
theorem cub_set {s : sS} {a0 a1 a2 a3 : Int32} : cub (r_set s a0 a1 a2 a3).1 := by
  intro c h
  unfold r_set at h
  repeat' split at h
  all_goals first | (cases h; exact .inl rfl) | (cases h; exact .inr rfl) | (cases h; done)
theorem lw_set (hc : RC g D s) (hr : hrm e) {a0 a1 a2 a3 : Int32} (H : ∀ v g2 e2 D2, cfw g g2 → RC g2 D2 (r_set s a0 a1 a2 a3).2 → eth e e2 → wrl c12 (r_set s a0 a1 a2 a3).1 v g2 → k v g2 e2) : hci (d + 70) 338 [.ref 1000, .int a0, .int a1, .int a2, .int a3, .ref 1088] g e k X :=
  zh_L_set (cs_set hc hr (fun g1 f1 c1 => wb (k := k) (X := X) cu_set cub_set f1 c1 (fun v g2 e2 f2 c2 he W => H v g2 e2 _ f2 c2 he W)))
theorem la_set (hc : RC g D s) (hm : RM g s) (hr : hrm e) (h : lin l4 e.2.2.2) (H : lnx (d + 70) k X g e l4) : hwi (d + 70) zm_L_law k X 735 (lws l4) g e := by
  refine zh_L_law_735 ⟨h.1, h.2.1, h.2.2.1, h.2.2.2.1, lw_set hc hr ?_⟩
  intro v g2 e2 D2 f2 c2 he W
  have m2 := RM_cfw f2 hm
  have q : g2.1 997 = g.1 997 := f2.1 997 (by omega)
  rw [q, eth_n he]
  refine ⟨h.1, h.2.1, h.2.2.1, h.2.2.2.1, ms_set m2 (fun g3 u f3 d3 o3 => ?_)⟩
  exact mb (A := fun g e => hwi (d + 70) zm_L_law k X 2733 (lws l4) g e) cnz12 cub_set W f3 o3 (H g3 e2 _ _ (RC_mfr f3 c2) d3 (by rw [(f3 997 (by omega)).1, q]) he)
theorem cu_swap {s : sS} {a0 a1 : Int32} : cu1 (r_swap s a0 a1).1 := by
  intro c h
  unfold r_swap at h
  repeat' split at h
  all_goals first | (cases h; rfl) | (cases h; exact .inl rfl) | (cases h; exact .inr rfl) | (cases h; done)
theorem cub_swap {s : sS} {a0 a1 : Int32} : cub (r_swap s a0 a1).1 := by
  intro c h
  unfold r_swap at h
  repeat' split at h
  all_goals first | (cases h; exact .inl rfl) | (cases h; exact .inr rfl) | (cases h; done)
theorem lw_swap (hc : RC g D s) (hr : hrm e) {a0 a1 : Int32} (H : ∀ v g2 e2 D2, cfw g g2 → RC g2 D2 (r_swap s a0 a1).2 → eth e e2 → wrl c12 (r_swap s a0 a1).1 v g2 → k v g2 e2) : hci (d + 70) 339 [.ref 1000, .int a0, .int a1, .ref 1088] g e k X :=
  zh_L_swap (cs_swap hc hr (fun g1 f1 c1 => wb (k := k) (X := X) cu_swap cub_swap f1 c1 (fun v g2 e2 f2 c2 he W => H v g2 e2 _ f2 c2 he W)))
theorem la_swap (hc : RC g D s) (hm : RM g s) (hr : hrm e) (h : lin l4 e.2.2.2) (H : lnx (d + 70) k X g e l4) : hwi (d + 70) zm_L_law k X 834 (lws l4) g e := by
  refine zh_L_law_834 ⟨h.1, h.2.1, lw_swap hc hr ?_⟩
  intro v g2 e2 D2 f2 c2 he W
  have m2 := RM_cfw f2 hm
  have q : g2.1 997 = g.1 997 := f2.1 997 (by omega)
  rw [q, eth_n he]
  refine ⟨h.1, h.2.1, ms_swap m2 (fun g3 u f3 d3 o3 => ?_)⟩
  exact mb (A := fun g e => hwi (d + 70) zm_L_law k X 2733 (lws l4) g e) cnz12 cub_swap W f3 o3 (H g3 e2 _ _ (RC_mfr f3 c2) d3 (by rw [(f3 997 (by omega)).1, q]) he)
theorem cun_undo {s : sS} : cun (r_undo s ).1 := by
  unfold r_undo
  repeat' split
  all_goals exact ⟨_, rfl⟩
theorem la_undo (hc : RC g D s) (hm : RM g s) (hr : hrm e) (h : lin l4 e.2.2.2) (H : lnx (d + 70) k X g e l4) : hwi (d + 70) zm_L_law k X 909 (lws l4) g e := by
  obtain ⟨w, hw⟩ := cun_undo (s := s)
  refine zh_L_law_909 (cs_undo hc (fun g1 f1 c1 => ?_))
  rw [hw]
  have q : g1.1 997 = g.1 997 := (f1 997 (by omega)).1
  refine (ms_undo (RM_cfr f1 hm) (fun g2 u f2 m2 o2 => ?_))
  rw [hw] at o2
  obtain ⟨rfl, _⟩ := o2
  exact zbr_t rfl (H g2 e _ _ (RC_mfr f2 c1) m2 (by rw [(f2 997 (by omega)).1, q]) (.inl rfl))
theorem cu_then {x : sX} {a0 a1 a2 : Int32} : cu2 (o_then x a0 a1 a2) := by
  intro c h
  unfold o_then at h
  repeat' split at h
  all_goals first | (cases h; rfl) | (cases h; exact .inl rfl) | (cases h; exact .inr rfl) | (cases h; done)
theorem lw_then (hc : RC g D s) (hr : hrm e) {a0 a1 a2 : Int32} (H : ∀ v g2 e2 D2, cfw g g2 → RC g2 D2 s → eth e e2 → wrl c12 (o_then s.1 a0 a1 a2) v g2 → k v g2 e2) : hci (d + 70) 340 [.ref 1000, .int a0, .int a1, .int a2, .ref 1088] g e k X :=
  zh_L_then (cq_then hc.1 hr (fun g1 f1 => w2 (k := k) (X := X) cu_then (cfr_qf hc.1.1.1 f1) (RC_qf f1 hc) (fun v g2 e2 f2 c2 he W => H v g2 e2 _ f2 c2 he W)))
theorem la_then (hc : RC g D s) (hm : RM g s) (hr : hrm e) (h : lin l4 e.2.2.2) (H : lnx (d + 70) k X g e l4) : hwi (d + 70) zm_L_law k X 922 (lws l4) g e := by
  refine zh_L_law_922 ⟨h.1, h.2.1, h.2.2.1, lw_then hc hr ?_⟩
  intro v g2 e2 D2 f2 c2 he W
  have m2 := RM_cfw f2 hm
  have q : g2.1 997 = g.1 997 := f2.1 997 (by omega)
  rw [q, eth_n he]
  refine ⟨h.1, h.2.1, h.2.2.1, mq_then m2.1 (fun g3 u f3 d3 o3 => ?_)⟩
  have f4 := mfr_fr (by decide) f3
  exact m1 (A := fun g e => hwi (d + 70) zm_L_law k X 2733 (lws l4) g e) cnz12 W f4 o3 (H g3 e2 _ _ (RC_mfr f4 c2) (RM_q f3 d3 m2) (by rw [(f4 997 (by omega)).1, q]) he)
theorem cu_when {x : sX} {a0 a1 : Int32} : cu1 (o_when x a0 a1) := by
  intro c h
  unfold o_when at h
  repeat' split at h
  all_goals first | (cases h; rfl) | (cases h; exact .inl rfl) | (cases h; exact .inr rfl) | (cases h; done)
theorem lw_when (hc : RC g D s) (hr : hrm e) {a0 a1 : Int32} (H : ∀ v g2 e2 D2, cfw g g2 → RC g2 D2 s → eth e e2 → wrl c12 (o_when s.1 a0 a1) v g2 → k v g2 e2) : hci (d + 70) 341 [.ref 1000, .int a0, .int a1, .ref 1088] g e k X :=
  zh_L_when (cq_when hc.1 hr (fun g1 f1 => w1 (k := k) (X := X) cu_when (cfr_qf hc.1.1.1 f1) (RC_qf f1 hc) (fun v g2 e2 f2 c2 he W => H v g2 e2 _ f2 c2 he W)))
theorem la_when (hc : RC g D s) (hm : RM g s) (hr : hrm e) (h : lin l4 e.2.2.2) (H : lnx (d + 70) k X g e l4) : hwi (d + 70) zm_L_law k X 1002 (lws l4) g e := by
  refine zh_L_law_1002 ⟨h.1, h.2.1, lw_when hc hr ?_⟩
  intro v g2 e2 D2 f2 c2 he W
  have m2 := RM_cfw f2 hm
  have q : g2.1 997 = g.1 997 := f2.1 997 (by omega)
  rw [q, eth_n he]
  refine ⟨h.1, h.2.1, mq_when m2.1 (fun g3 u f3 d3 o3 => ?_)⟩
  have f4 := mfr_fr (by decide) f3
  exact m1 (A := fun g e => hwi (d + 70) zm_L_law k X 2733 (lws l4) g e) cnz12 W f4 o3 (H g3 e2 _ _ (RC_mfr f4 c2) (RM_q f3 d3 m2) (by rw [(f4 997 (by omega)).1, q]) he)
theorem cu_bursts {x : sX} {a0 a1 : Int32} : cu1 (o_bursts x a0 a1) := by
  intro c h
  unfold o_bursts at h
  repeat' split at h
  all_goals first | (cases h; rfl) | (cases h; exact .inl rfl) | (cases h; exact .inr rfl) | (cases h; done)
theorem lw_bursts (hc : RC g D s) (hr : hrm e) {a0 a1 : Int32} (H : ∀ v g2 e2 D2, cfw g g2 → RC g2 D2 s → eth e e2 → wrl c12 (o_bursts s.1 a0 a1) v g2 → k v g2 e2) : hci (d + 70) 342 [.ref 1000, .int a0, .int a1, .ref 1088] g e k X :=
  zh_L_bursts (cq_bursts hc.1 hr (fun g1 f1 => w1 (k := k) (X := X) cu_bursts (cfr_qf hc.1.1.1 f1) (RC_qf f1 hc) (fun v g2 e2 f2 c2 he W => H v g2 e2 _ f2 c2 he W)))
theorem la_bursts (hc : RC g D s) (hm : RM g s) (hr : hrm e) (h : lin l4 e.2.2.2) (H : lnx (d + 70) k X g e l4) : hwi (d + 70) zm_L_law k X 1070 (lws l4) g e := by
  refine zh_L_law_1070 ⟨h.1, h.2.1, lw_bursts hc hr ?_⟩
  intro v g2 e2 D2 f2 c2 he W
  have m2 := RM_cfw f2 hm
  have q : g2.1 997 = g.1 997 := f2.1 997 (by omega)
  rw [q, eth_n he]
  refine ⟨h.1, h.2.1, mq_bursts m2.1 (fun g3 u f3 d3 o3 => ?_)⟩
  have f4 := mfr_fr (by decide) f3
  exact m1 (A := fun g e => hwi (d + 70) zm_L_law k X 2733 (lws l4) g e) cnz12 W f4 o3 (H g3 e2 _ _ (RC_mfr f4 c2) (RM_q f3 d3 m2) (by rw [(f4 997 (by omega)).1, q]) he)
theorem cu_later {x : sX} {a0 a1 : Int32} : cu2 (o_later x a0 a1) := by
  intro c h
  unfold o_later at h
  repeat' split at h
  all_goals first | (cases h; rfl) | (cases h; exact .inl rfl) | (cases h; exact .inr rfl) | (cases h; done)
theorem lw_later (hc : RC g D s) (hr : hrm e) {a0 a1 : Int32} (H : ∀ v g2 e2 D2, cfw g g2 → RC g2 D2 s → eth e e2 → wrl c12 (o_later s.1 a0 a1) v g2 → k v g2 e2) : hci (d + 70) 343 [.ref 1000, .int a0, .int a1, .ref 1088] g e k X :=
  zh_L_later (cq_later hc.1 hr (fun g1 f1 => w2 (k := k) (X := X) cu_later (cfr_qf hc.1.1.1 f1) (RC_qf f1 hc) (fun v g2 e2 f2 c2 he W => H v g2 e2 _ f2 c2 he W)))
theorem la_later (hc : RC g D s) (hm : RM g s) (hr : hrm e) (h : lin l4 e.2.2.2) (H : lnx (d + 70) k X g e l4) : hwi (d + 70) zm_L_law k X 1138 (lws l4) g e := by
  refine zh_L_law_1138 ⟨h.1, h.2.1, lw_later hc hr ?_⟩
  intro v g2 e2 D2 f2 c2 he W
  have m2 := RM_cfw f2 hm
  have q : g2.1 997 = g.1 997 := f2.1 997 (by omega)
  rw [q, eth_n he]
  refine ⟨h.1, h.2.1, mq_later m2.1 (fun g3 u f3 d3 o3 => ?_)⟩
  have f4 := mfr_fr (by decide) f3
  exact m1 (A := fun g e => hwi (d + 70) zm_L_law k X 2733 (lws l4) g e) cnz12 W f4 o3 (H g3 e2 _ _ (RC_mfr f4 c2) (RM_q f3 d3 m2) (by rw [(f4 997 (by omega)).1, q]) he)
theorem cu_daily {x : sX} {a0 a1 : Int32} : cu2 (o_daily x a0 a1) := by
  intro c h
  unfold o_daily at h
  repeat' split at h
  all_goals first | (cases h; rfl) | (cases h; exact .inl rfl) | (cases h; exact .inr rfl) | (cases h; done)
theorem lw_daily (hc : RC g D s) (hr : hrm e) {a0 a1 : Int32} (H : ∀ v g2 e2 D2, cfw g g2 → RC g2 D2 s → eth e e2 → wrl c12 (o_daily s.1 a0 a1) v g2 → k v g2 e2) : hci (d + 70) 344 [.ref 1000, .int a0, .int a1, .ref 1088] g e k X :=
  zh_L_daily (cq_daily hc.1 hr (fun g1 f1 => w2 (k := k) (X := X) cu_daily (cfr_qf hc.1.1.1 f1) (RC_qf f1 hc) (fun v g2 e2 f2 c2 he W => H v g2 e2 _ f2 c2 he W)))
theorem la_daily (hc : RC g D s) (hm : RM g s) (hr : hrm e) (h : lin l4 e.2.2.2) (H : lnx (d + 70) k X g e l4) : hwi (d + 70) zm_L_law k X 1206 (lws l4) g e := by
  refine zh_L_law_1206 ⟨h.1, h.2.1, lw_daily hc hr ?_⟩
  intro v g2 e2 D2 f2 c2 he W
  have m2 := RM_cfw f2 hm
  have q : g2.1 997 = g.1 997 := f2.1 997 (by omega)
  rw [q, eth_n he]
  refine ⟨h.1, h.2.1, mq_daily m2.1 (fun g3 u f3 d3 o3 => ?_)⟩
  have f4 := mfr_fr (by decide) f3
  exact m1 (A := fun g e => hwi (d + 70) zm_L_law k X 2733 (lws l4) g e) cnz12 W f4 o3 (H g3 e2 _ _ (RC_mfr f4 c2) (RM_q f3 d3 m2) (by rw [(f4 997 (by omega)).1, q]) he)
theorem cu_lasts {x : sX} {a0 : Int32} : cu1 (o_lasts x a0) := by
  intro c h
  unfold o_lasts at h
  repeat' split at h
  all_goals first | (cases h; rfl) | (cases h; exact .inl rfl) | (cases h; exact .inr rfl) | (cases h; done)
theorem lw_lasts (hc : RC g D s) (hr : hrm e) {a0 : Int32} (H : ∀ v g2 e2 D2, cfw g g2 → RC g2 D2 s → eth e e2 → wrl c12 (o_lasts s.1 a0) v g2 → k v g2 e2) : hci (d + 70) 345 [.ref 1000, .int a0, .ref 1088] g e k X :=
  zh_L_lasts (cq_lasts hc.1 hr (fun g1 f1 => w1 (k := k) (X := X) cu_lasts (cfr_qf hc.1.1.1 f1) (RC_qf f1 hc) (fun v g2 e2 f2 c2 he W => H v g2 e2 _ f2 c2 he W)))
theorem la_lasts (hc : RC g D s) (hm : RM g s) (hr : hrm e) (h : lin l4 e.2.2.2) (H : lnx (d + 70) k X g e l4) : hwi (d + 70) zm_L_law k X 1274 (lws l4) g e := by
  refine zh_L_law_1274 ⟨h.1, lw_lasts hc hr ?_⟩
  intro v g2 e2 D2 f2 c2 he W
  have m2 := RM_cfw f2 hm
  have q : g2.1 997 = g.1 997 := f2.1 997 (by omega)
  rw [q, eth_n he]
  refine ⟨h.1, mq_lasts m2.1 (fun g3 u f3 d3 o3 => ?_)⟩
  have f4 := mfr_fr (by decide) f3
  exact m1 (A := fun g e => hwi (d + 70) zm_L_law k X 2733 (lws l4) g e) cnz12 W f4 o3 (H g3 e2 _ _ (RC_mfr f4 c2) (RM_q f3 d3 m2) (by rw [(f4 997 (by omega)).1, q]) he)
theorem cu_tear {x : sX} {a0 a1 a2 : Int32} : cu2 (o_tear x a0 a1 a2) := by
  intro c h
  unfold o_tear at h
  repeat' split at h
  all_goals first | (cases h; rfl) | (cases h; exact .inl rfl) | (cases h; exact .inr rfl) | (cases h; done)
theorem lw_tear (hc : RC g D s) (hr : hrm e) {a0 a1 a2 : Int32} (H : ∀ v g2 e2 D2, cfw g g2 → RC g2 D2 s → eth e e2 → wrl c12 (o_tear s.1 a0 a1 a2) v g2 → k v g2 e2) : hci (d + 70) 346 [.ref 1000, .int a0, .int a1, .int a2, .ref 1088] g e k X :=
  zh_L_tear (cq_tear hc.1 hr (fun g1 f1 => w2 (k := k) (X := X) cu_tear (cfr_qf hc.1.1.1 f1) (RC_qf f1 hc) (fun v g2 e2 f2 c2 he W => H v g2 e2 _ f2 c2 he W)))
theorem la_tear (hc : RC g D s) (hm : RM g s) (hr : hrm e) (h : lin l4 e.2.2.2) (H : lnx (d + 70) k X g e l4) : hwi (d + 70) zm_L_law k X 1330 (lws l4) g e := by
  refine zh_L_law_1330 ⟨h.1, h.2.1, h.2.2.1, lw_tear hc hr ?_⟩
  intro v g2 e2 D2 f2 c2 he W
  have m2 := RM_cfw f2 hm
  have q : g2.1 997 = g.1 997 := f2.1 997 (by omega)
  rw [q, eth_n he]
  refine ⟨h.1, h.2.1, h.2.2.1, mq_tear m2.1 (fun g3 u f3 d3 o3 => ?_)⟩
  have f4 := mfr_fr (by decide) f3
  exact m1 (A := fun g e => hwi (d + 70) zm_L_law k X 2733 (lws l4) g e) cnz12 W f4 o3 (H g3 e2 _ _ (RC_mfr f4 c2) (RM_q f3 d3 m2) (by rw [(f4 997 (by omega)).1, q]) he)
theorem cu_offset {x : sX} {a0 a1 a2 : Int32} : cu1 (o_offset x a0 a1 a2) := by
  intro c h
  unfold o_offset at h
  repeat' split at h
  all_goals first | (cases h; rfl) | (cases h; exact .inl rfl) | (cases h; exact .inr rfl) | (cases h; done)
theorem lw_offset (hc : RC g D s) (hr : hrm e) {a0 a1 a2 : Int32} (H : ∀ v g2 e2 D2, cfw g g2 → RC g2 D2 s → eth e e2 → wrl c12 (o_offset s.1 a0 a1 a2) v g2 → k v g2 e2) : hci (d + 70) 347 [.ref 1000, .int a0, .int a1, .int a2, .ref 1088] g e k X :=
  zh_L_offset (cq_offset hc.1 hr (fun g1 f1 => w1 (k := k) (X := X) cu_offset (cfr_qf hc.1.1.1 f1) (RC_qf f1 hc) (fun v g2 e2 f2 c2 he W => H v g2 e2 _ f2 c2 he W)))
theorem la_offset (hc : RC g D s) (hm : RM g s) (hr : hrm e) (h : lin l4 e.2.2.2) (H : lnx (d + 70) k X g e l4) : hwi (d + 70) zm_L_law k X 1410 (lws l4) g e := by
  refine zh_L_law_1410 ⟨h.1, h.2.1, h.2.2.1, lw_offset hc hr ?_⟩
  intro v g2 e2 D2 f2 c2 he W
  have m2 := RM_cfw f2 hm
  have q : g2.1 997 = g.1 997 := f2.1 997 (by omega)
  rw [q, eth_n he]
  refine ⟨h.1, h.2.1, h.2.2.1, mq_offset m2.1 (fun g3 u f3 d3 o3 => ?_)⟩
  have f4 := mfr_fr (by decide) f3
  exact m1 (A := fun g e => hwi (d + 70) zm_L_law k X 2733 (lws l4) g e) cnz12 W f4 o3 (H g3 e2 _ _ (RC_mfr f4 c2) (RM_q f3 d3 m2) (by rw [(f4 997 (by omega)).1, q]) he)
theorem cu_mesh {x : sX} {a0 a1 a2 : Int32} : cu1 (o_mesh x a0 a1 a2) := by
  intro c h
  unfold o_mesh at h
  repeat' split at h
  all_goals first | (cases h; rfl) | (cases h; exact .inl rfl) | (cases h; exact .inr rfl) | (cases h; done)
theorem lw_mesh (hc : RC g D s) (hr : hrm e) {a0 a1 a2 : Int32} (H : ∀ v g2 e2 D2, cfw g g2 → RC g2 D2 s → eth e e2 → wrl c12 (o_mesh s.1 a0 a1 a2) v g2 → k v g2 e2) : hci (d + 70) 348 [.ref 1000, .int a0, .int a1, .int a2, .ref 1088] g e k X :=
  zh_L_mesh (cq_mesh hc.1 hr (fun g1 f1 => w1 (k := k) (X := X) cu_mesh (cfr_qf hc.1.1.1 f1) (RC_qf f1 hc) (fun v g2 e2 f2 c2 he W => H v g2 e2 _ f2 c2 he W)))
theorem la_mesh (hc : RC g D s) (hm : RM g s) (hr : hrm e) (h : lin l4 e.2.2.2) (H : lnx (d + 70) k X g e l4) : hwi (d + 70) zm_L_law k X 1490 (lws l4) g e := by
  refine zh_L_law_1490 ⟨h.1, h.2.1, h.2.2.1, lw_mesh hc hr ?_⟩
  intro v g2 e2 D2 f2 c2 he W
  have m2 := RM_cfw f2 hm
  have q : g2.1 997 = g.1 997 := f2.1 997 (by omega)
  rw [q, eth_n he]
  refine ⟨h.1, h.2.1, h.2.2.1, mq_mesh m2.1 (fun g3 u f3 d3 o3 => ?_)⟩
  have f4 := mfr_fr (by decide) f3
  exact m1 (A := fun g e => hwi (d + 70) zm_L_law k X 2733 (lws l4) g e) cnz12 W f4 o3 (H g3 e2 _ _ (RC_mfr f4 c2) (RM_q f3 d3 m2) (by rw [(f4 997 (by omega)).1, q]) he)
theorem cu_cut {x : sX} {a0 a1 : Int32} : cu1 (o_cut x a0 a1) := by
  intro c h
  unfold o_cut at h
  repeat' split at h
  all_goals first | (cases h; rfl) | (cases h; exact .inl rfl) | (cases h; exact .inr rfl) | (cases h; done)
theorem lw_cut (hc : RC g D s) (hr : hrm e) {a0 a1 : Int32} (H : ∀ v g2 e2 D2, cfw g g2 → RC g2 D2 s → eth e e2 → wrl c12 (o_cut s.1 a0 a1) v g2 → k v g2 e2) : hci (d + 70) 349 [.ref 1000, .int a0, .int a1, .ref 1088] g e k X :=
  zh_L_cut (cq_cut hc.1 hr (fun g1 f1 => w1 (k := k) (X := X) cu_cut (cfr_qf hc.1.1.1 f1) (RC_qf f1 hc) (fun v g2 e2 f2 c2 he W => H v g2 e2 _ f2 c2 he W)))
theorem la_cut (hc : RC g D s) (hm : RM g s) (hr : hrm e) (h : lin l4 e.2.2.2) (H : lnx (d + 70) k X g e l4) : hwi (d + 70) zm_L_law k X 1570 (lws l4) g e := by
  refine zh_L_law_1570 ⟨h.1, h.2.1, lw_cut hc hr ?_⟩
  intro v g2 e2 D2 f2 c2 he W
  have m2 := RM_cfw f2 hm
  have q : g2.1 997 = g.1 997 := f2.1 997 (by omega)
  rw [q, eth_n he]
  refine ⟨h.1, h.2.1, mq_cut m2.1 (fun g3 u f3 d3 o3 => ?_)⟩
  have f4 := mfr_fr (by decide) f3
  exact m1 (A := fun g e => hwi (d + 70) zm_L_law k X 2733 (lws l4) g e) cnz12 W f4 o3 (H g3 e2 _ _ (RC_mfr f4 c2) (RM_q f3 d3 m2) (by rw [(f4 997 (by omega)).1, q]) he)
theorem cu_mates {x : sX} {a0 : Int32} : cu1 (o_mates x a0) := by
  intro c h
  unfold o_mates at h
  repeat' split at h
  all_goals first | (cases h; rfl) | (cases h; exact .inl rfl) | (cases h; exact .inr rfl) | (cases h; done)
theorem lw_mates (hc : RC g D s) (hr : hrm e) {a0 : Int32} (H : ∀ v g2 e2 D2, cfw g g2 → RC g2 D2 s → eth e e2 → wrl c12 (o_mates s.1 a0) v g2 → k v g2 e2) : hci (d + 70) 350 [.ref 1000, .int a0, .ref 1088] g e k X :=
  zh_L_mates (cq_mates hc.1 hr (fun g1 f1 => w1 (k := k) (X := X) cu_mates (cfr_qf hc.1.1.1 f1) (RC_qf f1 hc) (fun v g2 e2 f2 c2 he W => H v g2 e2 _ f2 c2 he W)))
theorem la_mates (hc : RC g D s) (hm : RM g s) (hr : hrm e) (h : lin l4 e.2.2.2) (H : lnx (d + 70) k X g e l4) : hwi (d + 70) zm_L_law k X 1638 (lws l4) g e := by
  refine zh_L_law_1638 ⟨h.1, lw_mates hc hr ?_⟩
  intro v g2 e2 D2 f2 c2 he W
  have m2 := RM_cfw f2 hm
  have q : g2.1 997 = g.1 997 := f2.1 997 (by omega)
  rw [q, eth_n he]
  refine ⟨h.1, mq_mates m2.1 (fun g3 u f3 d3 o3 => ?_)⟩
  have f4 := mfr_fr (by decide) f3
  exact m1 (A := fun g e => hwi (d + 70) zm_L_law k X 2733 (lws l4) g e) cnz12 W f4 o3 (H g3 e2 _ _ (RC_mfr f4 c2) (RM_q f3 d3 m2) (by rw [(f4 997 (by omega)).1, q]) he)
theorem cu_toPinch {x : sX} {a0 a1 : Int32} : cu2 (o_toPinch x a0 a1) := by
  intro c h
  unfold o_toPinch at h
  repeat' split at h
  all_goals first | (cases h; rfl) | (cases h; exact .inl rfl) | (cases h; exact .inr rfl) | (cases h; done)
theorem lw_toPinch (hc : RC g D s) (hr : hrm e) {a0 a1 : Int32} (H : ∀ v g2 e2 D2, cfw g g2 → RC g2 D2 s → eth e e2 → wrl c12 (o_toPinch s.1 a0 a1) v g2 → k v g2 e2) : hci (d + 70) 351 [.ref 1000, .int a0, .int a1, .ref 1088] g e k X :=
  zh_L_toPinch (cq_toPinch hc.1 hr (fun g1 f1 => w2 (k := k) (X := X) cu_toPinch (cfr_qf hc.1.1.1 f1) (RC_qf f1 hc) (fun v g2 e2 f2 c2 he W => H v g2 e2 _ f2 c2 he W)))
theorem la_toPinch (hc : RC g D s) (hm : RM g s) (hr : hrm e) (h : lin l4 e.2.2.2) (H : lnx (d + 70) k X g e l4) : hwi (d + 70) zm_L_law k X 1694 (lws l4) g e := by
  refine zh_L_law_1694 ⟨h.1, h.2.1, lw_toPinch hc hr ?_⟩
  intro v g2 e2 D2 f2 c2 he W
  have m2 := RM_cfw f2 hm
  have q : g2.1 997 = g.1 997 := f2.1 997 (by omega)
  rw [q, eth_n he]
  refine ⟨h.1, h.2.1, mq_toPinch m2.1 (fun g3 u f3 d3 o3 => ?_)⟩
  have f4 := mfr_fr (by decide) f3
  exact m1 (A := fun g e => hwi (d + 70) zm_L_law k X 2733 (lws l4) g e) cnz12 W f4 o3 (H g3 e2 _ _ (RC_mfr f4 c2) (RM_q f3 d3 m2) (by rw [(f4 997 (by omega)).1, q]) he)
theorem cu_toSlide {x : sX} {a0 a1 a2 : Int32} : cu2 (o_toSlide x a0 a1 a2) := by
  intro c h
  unfold o_toSlide at h
  repeat' split at h
  all_goals first | (cases h; rfl) | (cases h; exact .inl rfl) | (cases h; exact .inr rfl) | (cases h; done)
theorem lw_toSlide (hc : RC g D s) (hr : hrm e) {a0 a1 a2 : Int32} (H : ∀ v g2 e2 D2, cfw g g2 → RC g2 D2 s → eth e e2 → wrl c12 (o_toSlide s.1 a0 a1 a2) v g2 → k v g2 e2) : hci (d + 70) 352 [.ref 1000, .int a0, .int a1, .int a2, .ref 1088] g e k X :=
  zh_L_toSlide (cq_toSlide hc.1 hr (fun g1 f1 => w2 (k := k) (X := X) cu_toSlide (cfr_qf hc.1.1.1 f1) (RC_qf f1 hc) (fun v g2 e2 f2 c2 he W => H v g2 e2 _ f2 c2 he W)))
theorem la_toSlide (hc : RC g D s) (hm : RM g s) (hr : hrm e) (h : lin l4 e.2.2.2) (H : lnx (d + 70) k X g e l4) : hwi (d + 70) zm_L_law k X 1762 (lws l4) g e := by
  refine zh_L_law_1762 ⟨h.1, h.2.1, h.2.2.1, lw_toSlide hc hr ?_⟩
  intro v g2 e2 D2 f2 c2 he W
  have m2 := RM_cfw f2 hm
  have q : g2.1 997 = g.1 997 := f2.1 997 (by omega)
  rw [q, eth_n he]
  refine ⟨h.1, h.2.1, h.2.2.1, mq_toSlide m2.1 (fun g3 u f3 d3 o3 => ?_)⟩
  have f4 := mfr_fr (by decide) f3
  exact m1 (A := fun g e => hwi (d + 70) zm_L_law k X 2733 (lws l4) g e) cnz12 W f4 o3 (H g3 e2 _ _ (RC_mfr f4 c2) (RM_q f3 d3 m2) (by rw [(f4 997 (by omega)).1, q]) he)
theorem cu_toSet {x : sX} {a0 a1 : Int32} : cu2 (o_toSet x a0 a1) := by
  intro c h
  unfold o_toSet at h
  repeat' split at h
  all_goals first | (cases h; rfl) | (cases h; exact .inl rfl) | (cases h; exact .inr rfl) | (cases h; done)
theorem lw_toSet (hc : RC g D s) (hr : hrm e) {a0 a1 : Int32} (H : ∀ v g2 e2 D2, cfw g g2 → RC g2 D2 s → eth e e2 → wrl c12 (o_toSet s.1 a0 a1) v g2 → k v g2 e2) : hci (d + 70) 353 [.ref 1000, .int a0, .int a1, .ref 1088] g e k X :=
  zh_L_toSet (cq_toSet hc.1 hr (fun g1 f1 => w2 (k := k) (X := X) cu_toSet (cfr_qf hc.1.1.1 f1) (RC_qf f1 hc) (fun v g2 e2 f2 c2 he W => H v g2 e2 _ f2 c2 he W)))
theorem la_toSet (hc : RC g D s) (hm : RM g s) (hr : hrm e) (h : lin l4 e.2.2.2) (H : lnx (d + 70) k X g e l4) : hwi (d + 70) zm_L_law k X 1842 (lws l4) g e := by
  refine zh_L_law_1842 ⟨h.1, h.2.1, lw_toSet hc hr ?_⟩
  intro v g2 e2 D2 f2 c2 he W
  have m2 := RM_cfw f2 hm
  have q : g2.1 997 = g.1 997 := f2.1 997 (by omega)
  rw [q, eth_n he]
  refine ⟨h.1, h.2.1, mq_toSet m2.1 (fun g3 u f3 d3 o3 => ?_)⟩
  have f4 := mfr_fr (by decide) f3
  exact m1 (A := fun g e => hwi (d + 70) zm_L_law k X 2733 (lws l4) g e) cnz12 W f4 o3 (H g3 e2 _ _ (RC_mfr f4 c2) (RM_q f3 d3 m2) (by rw [(f4 997 (by omega)).1, q]) he)
theorem cu_forced {x : sX} {nt : List sN} {a0 : Int32} : cu1 (o_forced x nt a0) := by
  intro c h
  unfold o_forced at h
  repeat' split at h
  all_goals first | (cases h; rfl) | (cases h; exact .inl rfl) | (cases h; exact .inr rfl) | (cases h; done)
theorem lw_forced (hc : RC g D s) (hr : hrm e) {a0 : Int32} (H : ∀ v g2 e2 D2, cfw g g2 → RC g2 D2 s → eth e e2 → wrl c12 (o_forced s.1 s.2.1.2.1 a0) v g2 → k v g2 e2) : hci (d + 70) 355 [.ref 1000, .int a0, .ref 1088] g e k X :=
  zh_L_forced (cq_forced hc.1 hr (RC_n hc).1 (RC_n hc).2 (fun g1 f1 => w1 (k := k) (X := X) cu_forced (cfr_qf hc.1.1.1 f1) (RC_qf f1 hc) (fun v g2 e2 f2 c2 he W => H v g2 e2 _ f2 c2 he W)))
theorem la_forced (hc : RC g D s) (hm : RM g s) (hr : hrm e) (h : lin l4 e.2.2.2) (H : lnx (d + 70) k X g e l4) : hwi (d + 70) zm_L_law k X 2018 (lws l4) g e := by
  refine zh_L_law_2018 ⟨h.1, lw_forced hc hr ?_⟩
  intro v g2 e2 D2 f2 c2 he W
  have m2 := RM_cfw f2 hm
  have q : g2.1 997 = g.1 997 := f2.1 997 (by omega)
  rw [q, eth_n he]
  refine ⟨h.1, mq_forced m2.1 (RM_n m2).1 (RM_n m2).2 (fun g3 u f3 d3 o3 => ?_)⟩
  have f4 := mfr_fr (by decide) f3
  exact m1 (A := fun g e => hwi (d + 70) zm_L_law k X 2733 (lws l4) g e) cnz12 W f4 o3 (H g3 e2 _ _ (RC_mfr f4 c2) (RM_q f3 d3 m2) (by rw [(f4 997 (by omega)).1, q]) he)
theorem cu_look {x : sX} {nt : List sN} {a0 : Int32} : cu1 (o_look x nt a0) := by
  intro c h
  unfold o_look at h
  repeat' split at h
  all_goals first | (cases h; rfl) | (cases h; exact .inl rfl) | (cases h; exact .inr rfl) | (cases h; done)
theorem lw_look (hc : RC g D s) (hr : hrm e) {a0 : Int32} (H : ∀ v g2 e2 D2, cfw g g2 → RC g2 D2 s → eth e e2 → wrl c12 (o_look s.1 s.2.1.2.1 a0) v g2 → k v g2 e2) : hci (d + 70) 356 [.ref 1000, .int a0, .ref 1088] g e k X :=
  zh_L_look (cq_look hc.1 hr (RC_n hc).1 (RC_n hc).2 (fun g1 f1 => w1 (k := k) (X := X) cu_look (cfr_qf hc.1.1.1 f1) (RC_qf f1 hc) (fun v g2 e2 f2 c2 he W => H v g2 e2 _ f2 c2 he W)))
theorem la_look (hc : RC g D s) (hm : RM g s) (hr : hrm e) (h : lin l4 e.2.2.2) (H : lnx (d + 70) k X g e l4) : hwi (d + 70) zm_L_law k X 2074 (lws l4) g e := by
  refine zh_L_law_2074 ⟨h.1, lw_look hc hr ?_⟩
  intro v g2 e2 D2 f2 c2 he W
  have m2 := RM_cfw f2 hm
  have q : g2.1 997 = g.1 997 := f2.1 997 (by omega)
  rw [q, eth_n he]
  refine ⟨h.1, mq_look m2.1 (RM_n m2).1 (RM_n m2).2 (fun g3 u f3 d3 o3 => ?_)⟩
  have f4 := mfr_fr (by decide) f3
  exact m1 (A := fun g e => hwi (d + 70) zm_L_law k X 2733 (lws l4) g e) cnz12 W f4 o3 (H g3 e2 _ _ (RC_mfr f4 c2) (RM_q f3 d3 m2) (by rw [(f4 997 (by omega)).1, q]) he)
theorem la_forget (hc : RC g D s) (hm : RM g s) (hr : hrm e) (h : lin l4 e.2.2.2) (H : lnx (d + 70) k X g e l4) : hwi (d + 70) zm_L_law k X 2130 (lws l4) g e := by
  refine zh_L_law_2130 (cs_forget hc (fun g1 f1 c1 => ms_forget (RM_cfr f1 hm) (fun g2 f2 m2 => ?_)))
  exact H g2 e _ _ (RC_mfr f2 c1) m2 (by rw [(f2 997 (by omega)).1, (f1 997 (by omega)).1]) (.inl rfl)
theorem cu_wind {x : sX} {a0 a1 a2 a3 : Int32} : cu2 (o_wind x a0 a1 a2 a3) := by
  intro c h
  unfold o_wind at h
  repeat' split at h
  all_goals first | (cases h; rfl) | (cases h; exact .inl rfl) | (cases h; exact .inr rfl) | (cases h; done)
theorem lw_wind (hc : RC g D s) (hr : hrm e) {a0 a1 a2 a3 : Int32} (H : ∀ v g2 e2 D2, cfw g g2 → RC g2 D2 s → eth e e2 → wrl c12 (o_wind s.1 a0 a1 a2 a3) v g2 → k v g2 e2) : hci (d + 70) 357 [.ref 1000, .int a0, .int a1, .int a2, .int a3, .ref 1088] g e k X :=
  zh_L_wind (cq_wind hc.1 hr (fun g1 f1 => w2 (k := k) (X := X) cu_wind (cfr_qf hc.1.1.1 f1) (RC_qf f1 hc) (fun v g2 e2 f2 c2 he W => H v g2 e2 _ f2 c2 he W)))
theorem la_wind (hc : RC g D s) (hm : RM g s) (hr : hrm e) (h : lin l4 e.2.2.2) (H : lnx (d + 70) k X g e l4) : hwi (d + 70) zm_L_law k X 2141 (lws l4) g e := by
  refine zh_L_law_2141 ⟨h.1, h.2.1, h.2.2.1, h.2.2.2.1, lw_wind hc hr ?_⟩
  intro v g2 e2 D2 f2 c2 he W
  have m2 := RM_cfw f2 hm
  have q : g2.1 997 = g.1 997 := f2.1 997 (by omega)
  rw [q, eth_n he]
  refine ⟨h.1, h.2.1, h.2.2.1, h.2.2.2.1, mq_wind m2.1 (fun g3 u f3 d3 o3 => ?_)⟩
  have f4 := mfr_fr (by decide) f3
  exact m1 (A := fun g e => hwi (d + 70) zm_L_law k X 2733 (lws l4) g e) cnz12 W f4 o3 (H g3 e2 _ _ (RC_mfr f4 c2) (RM_q f3 d3 m2) (by rw [(f4 997 (by omega)).1, q]) he)
theorem cu_game {x : sX} {a0 a1 a2 : Int32} : cu2 (o_game x a0 a1 a2) := by
  intro c h
  unfold o_game at h
  repeat' split at h
  all_goals first | (cases h; rfl) | (cases h; exact .inl rfl) | (cases h; exact .inr rfl) | (cases h; done)
theorem lw_game (hc : RC g D s) (hr : hrm e) {a0 a1 a2 : Int32} (H : ∀ v g2 e2 D2, cfw g g2 → RC g2 D2 s → eth e e2 → wrl c12 (o_game s.1 a0 a1 a2) v g2 → k v g2 e2) : hci (d + 70) 358 [.ref 1000, .int a0, .int a1, .int a2, .ref 1088] g e k X :=
  zh_L_game (cq_game hc.1 hr (fun g1 f1 => w2 (k := k) (X := X) cu_game (cfr_qf hc.1.1.1 f1) (RC_qf f1 hc) (fun v g2 e2 f2 c2 he W => H v g2 e2 _ f2 c2 he W)))
theorem la_game (hc : RC g D s) (hm : RM g s) (hr : hrm e) (h : lin l4 e.2.2.2) (H : lnx (d + 70) k X g e l4) : hwi (d + 70) zm_L_law k X 2233 (lws l4) g e := by
  refine zh_L_law_2233 ⟨h.1, h.2.1, h.2.2.1, lw_game hc hr ?_⟩
  intro v g2 e2 D2 f2 c2 he W
  have m2 := RM_cfw f2 hm
  have q : g2.1 997 = g.1 997 := f2.1 997 (by omega)
  rw [q, eth_n he]
  refine ⟨h.1, h.2.1, h.2.2.1, mq_game m2.1 (fun g3 u f3 d3 o3 => ?_)⟩
  have f4 := mfr_fr (by decide) f3
  exact m1 (A := fun g e => hwi (d + 70) zm_L_law k X 2733 (lws l4) g e) cnz12 W f4 o3 (H g3 e2 _ _ (RC_mfr f4 c2) (RM_q f3 d3 m2) (by rw [(f4 997 (by omega)).1, q]) he)
theorem cu_years {F : (Nat → sZ) → Int32 → (Nat → sZ) × Int32} {x : sX} {a0 a1 a2 : Int32} : cu2 (o_years F x a0 a1 a2) := by
  intro c h
  unfold o_years at h
  repeat' split at h
  all_goals first | (cases h; rfl) | (cases h; exact .inl rfl) | (cases h; exact .inr rfl) | (cases h; done)
theorem lw_years (hc : RC g D s) (hr : hrm e) {a0 a1 a2 : Int32} (H : ∀ v g2 e2 D2, cfw g g2 → RC g2 D2 s → eth e e2 → wrl c12 (o_years (sch s.1.1) s.1 a0 a1 a2) v g2 → k v g2 e2) : hci (d + 70) 359 [.ref 1000, .int a0, .int a1, .int a2, .ref 1088] g e k X :=
  zh_L_years (cq_years hc.1 hr (fun g1 f1 => w2 (k := k) (X := X) cu_years (cfr_qf hc.1.1.1 f1) (RC_qf f1 hc) (fun v g2 e2 f2 c2 he W => H v g2 e2 _ f2 c2 he W)))
theorem la_years (hc : RC g D s) (hm : RM g s) (hr : hrm e) (h : lin l4 e.2.2.2) (H : lnx (d + 70) k X g e l4) : hwi (d + 70) zm_L_law k X 2313 (lws l4) g e := by
  refine zh_L_law_2313 ⟨h.1, h.2.1, h.2.2.1, lw_years hc hr ?_⟩
  intro v g2 e2 D2 f2 c2 he W
  have m2 := RM_cfw f2 hm
  have q : g2.1 997 = g.1 997 := f2.1 997 (by omega)
  rw [q, eth_n he]
  refine ⟨h.1, h.2.1, h.2.2.1, mq_years m2.1 (fun g3 u f3 d3 o3 => ?_)⟩
  have f4 := mfr_fr (by decide) f3
  exact m1 (A := fun g e => hwi (d + 70) zm_L_law k X 2733 (lws l4) g e) cnz12 W f4 o3 (H g3 e2 _ _ (RC_mfr f4 c2) (RM_q f3 d3 m2) (by rw [(f4 997 (by omega)).1, q]) he)
theorem cu_calm {x : sX} {a0 : Int32} : cu0 (o_calm x a0) := by
  intro c h
  unfold o_calm at h
  repeat' split at h
  all_goals first | (cases h; rfl) | (cases h; exact .inl rfl) | (cases h; exact .inr rfl) | (cases h; done)
theorem lw_calm (hc : RC g D s) (hr : hrm e) {a0 : Int32} (H : ∀ v g2 e2 D2, cfw g g2 → RC g2 D2 s → eth e e2 → wrl c01 (o_calm s.1 a0) v g2 → k v g2 e2) : hci (d + 70) 360 [.ref 1000, .int a0, .ref 1088] g e k X :=
  zh_L_calm (cq_calm hc.1 hr (fun g1 f1 => w0 (k := k) (X := X) cu_calm (cfr_qf hc.1.1.1 f1) (RC_qf f1 hc) (fun v g2 e2 f2 c2 he W => H v g2 e2 _ f2 c2 he W)))
theorem la_calm (hc : RC g D s) (hm : RM g s) (hr : hrm e) (h : lin l4 e.2.2.2) (H : lnx (d + 70) k X g e l4) : hwi (d + 70) zm_L_law k X 2393 (lws l4) g e := by
  refine zh_L_law_2393 ⟨h.1, lw_calm hc hr ?_⟩
  intro v g2 e2 D2 f2 c2 he W
  have m2 := RM_cfw f2 hm
  have q : g2.1 997 = g.1 997 := f2.1 997 (by omega)
  rw [q, eth_n he]
  refine ⟨h.1, mq_calm m2.1 (fun g3 u f3 d3 o3 => ?_)⟩
  have f4 := mfr_fr (by decide) f3
  exact m1 (A := fun g e => hwi (d + 70) zm_L_law k X 2733 (lws l4) g e) cnz01 W f4 o3 (H g3 e2 _ _ (RC_mfr f4 c2) (RM_q f3 d3 m2) (by rw [(f4 997 (by omega)).1, q]) he)
theorem cu_worst {x : sX} {a0 a1 : Int32} : cu2 (o_worst x a0 a1) := by
  intro c h
  unfold o_worst at h
  repeat' split at h
  all_goals first | (cases h; rfl) | (cases h; exact .inl rfl) | (cases h; exact .inr rfl) | (cases h; done)
theorem lw_worst (hc : RC g D s) (hr : hrm e) {a0 a1 : Int32} (H : ∀ v g2 e2 D2, cfw g g2 → RC g2 D2 s → eth e e2 → wrl c12 (o_worst s.1 a0 a1) v g2 → k v g2 e2) : hci (d + 70) 361 [.ref 1000, .int a0, .int a1, .ref 1088] g e k X :=
  zh_L_worst (cq_worst hc.1 hr (fun g1 f1 => w2 (k := k) (X := X) cu_worst (cfr_qf hc.1.1.1 f1) (RC_qf f1 hc) (fun v g2 e2 f2 c2 he W => H v g2 e2 _ f2 c2 he W)))
theorem la_worst (hc : RC g D s) (hm : RM g s) (hr : hrm e) (h : lin l4 e.2.2.2) (H : lnx (d + 70) k X g e l4) : hwi (d + 70) zm_L_law k X 2449 (lws l4) g e := by
  refine zh_L_law_2449 ⟨h.1, h.2.1, lw_worst hc hr ?_⟩
  intro v g2 e2 D2 f2 c2 he W
  have m2 := RM_cfw f2 hm
  have q : g2.1 997 = g.1 997 := f2.1 997 (by omega)
  rw [q, eth_n he]
  refine ⟨h.1, h.2.1, mq_worst m2.1 (fun g3 u f3 d3 o3 => ?_)⟩
  have f4 := mfr_fr (by decide) f3
  exact m1 (A := fun g e => hwi (d + 70) zm_L_law k X 2733 (lws l4) g e) cnz12 W f4 o3 (H g3 e2 _ _ (RC_mfr f4 c2) (RM_q f3 d3 m2) (by rw [(f4 997 (by omega)).1, q]) he)
theorem cu_most {x : sX} {a0 a1 : Int32} : cu2 (o_most x a0 a1) := by
  intro c h
  unfold o_most at h
  repeat' split at h
  all_goals first | (cases h; rfl) | (cases h; exact .inl rfl) | (cases h; exact .inr rfl) | (cases h; done)
theorem lw_most (hc : RC g D s) (hr : hrm e) {a0 a1 : Int32} (H : ∀ v g2 e2 D2, cfw g g2 → RC g2 D2 s → eth e e2 → wrl c12 (o_most s.1 a0 a1) v g2 → k v g2 e2) : hci (d + 70) 362 [.ref 1000, .int a0, .int a1, .ref 1088] g e k X :=
  zh_L_most (cq_most hc.1 hr (fun g1 f1 => w2 (k := k) (X := X) cu_most (cfr_qf hc.1.1.1 f1) (RC_qf f1 hc) (fun v g2 e2 f2 c2 he W => H v g2 e2 _ f2 c2 he W)))
theorem la_most (hc : RC g D s) (hm : RM g s) (hr : hrm e) (h : lin l4 e.2.2.2) (H : lnx (d + 70) k X g e l4) : hwi (d + 70) zm_L_law k X 2517 (lws l4) g e := by
  refine zh_L_law_2517 ⟨h.1, h.2.1, lw_most hc hr ?_⟩
  intro v g2 e2 D2 f2 c2 he W
  have m2 := RM_cfw f2 hm
  have q : g2.1 997 = g.1 997 := f2.1 997 (by omega)
  rw [q, eth_n he]
  refine ⟨h.1, h.2.1, mq_most m2.1 (fun g3 u f3 d3 o3 => ?_)⟩
  have f4 := mfr_fr (by decide) f3
  exact m1 (A := fun g e => hwi (d + 70) zm_L_law k X 2733 (lws l4) g e) cnz12 W f4 o3 (H g3 e2 _ _ (RC_mfr f4 c2) (RM_q f3 d3 m2) (by rw [(f4 997 (by omega)).1, q]) he)
theorem cu_gap {x : sX} {a0 : Int32} : cu1 (o_gap x a0) := by
  intro c h
  unfold o_gap at h
  repeat' split at h
  all_goals first | (cases h; rfl) | (cases h; exact .inl rfl) | (cases h; exact .inr rfl) | (cases h; done)
theorem lw_gap (hc : RC g D s) (hr : hrm e) {a0 : Int32} (H : ∀ v g2 e2 D2, cfw g g2 → RC g2 D2 s → eth e e2 → wrl c12 (o_gap s.1 a0) v g2 → k v g2 e2) : hci (d + 70) 363 [.ref 1000, .int a0, .ref 1088] g e k X :=
  zh_L_gap (cq_gap hc.1 hr (fun g1 f1 => w1 (k := k) (X := X) cu_gap (cfr_qf hc.1.1.1 f1) (RC_qf f1 hc) (fun v g2 e2 f2 c2 he W => H v g2 e2 _ f2 c2 he W)))
theorem la_gap (hc : RC g D s) (hm : RM g s) (hr : hrm e) (h : lin l4 e.2.2.2) (H : lnx (d + 70) k X g e l4) : hwi (d + 70) zm_L_law k X 2585 (lws l4) g e := by
  refine zh_L_law_2585 ⟨h.1, lw_gap hc hr ?_⟩
  intro v g2 e2 D2 f2 c2 he W
  have m2 := RM_cfw f2 hm
  have q : g2.1 997 = g.1 997 := f2.1 997 (by omega)
  rw [q, eth_n he]
  refine ⟨h.1, mq_gap m2.1 (fun g3 u f3 d3 o3 => ?_)⟩
  have f4 := mfr_fr (by decide) f3
  exact m1 (A := fun g e => hwi (d + 70) zm_L_law k X 2733 (lws l4) g e) cnz12 W f4 o3 (H g3 e2 _ _ (RC_mfr f4 c2) (RM_q f3 d3 m2) (by rw [(f4 997 (by omega)).1, q]) he)
theorem cu_unlike {x : sX} {a0 a1 : Int32} : cu1 (o_unlike x a0 a1) := by
  intro c h
  unfold o_unlike at h
  repeat' split at h
  all_goals first | (cases h; rfl) | (cases h; exact .inl rfl) | (cases h; exact .inr rfl) | (cases h; done)
theorem lw_unlike (hc : RC g D s) (hr : hrm e) {a0 a1 : Int32} (H : ∀ v g2 e2 D2, cfw g g2 → RC g2 D2 s → eth e e2 → wrl c12 (o_unlike s.1 a0 a1) v g2 → k v g2 e2) : hci (d + 70) 364 [.ref 1000, .int a0, .int a1, .ref 1088] g e k X :=
  zh_L_unlike (cq_unlike hc.1 hr (fun g1 f1 => w1 (k := k) (X := X) cu_unlike (cfr_qf hc.1.1.1 f1) (RC_qf f1 hc) (fun v g2 e2 f2 c2 he W => H v g2 e2 _ f2 c2 he W)))
theorem la_unlike (hc : RC g D s) (hm : RM g s) (hr : hrm e) (h : lin l4 e.2.2.2) (H : lnx (d + 70) k X g e l4) : hwi (d + 70) zm_L_law k X 2641 (lws l4) g e := by
  refine zh_L_law_2641 ⟨h.1, h.2.1, lw_unlike hc hr ?_⟩
  intro v g2 e2 D2 f2 c2 he W
  have m2 := RM_cfw f2 hm
  have q : g2.1 997 = g.1 997 := f2.1 997 (by omega)
  rw [q, eth_n he]
  refine ⟨h.1, h.2.1, mq_unlike m2.1 (fun g3 u f3 d3 o3 => ?_)⟩
  have f4 := mfr_fr (by decide) f3
  exact m1 (A := fun g e => hwi (d + 70) zm_L_law k X 2733 (lws l4) g e) cnz12 W f4 o3 (H g3 e2 _ _ (RC_mfr f4 c2) (RM_q f3 d3 m2) (by rw [(f4 997 (by omega)).1, q]) he)
theorem la_image (hc : RC g D s) (hm : RM g s) (hr : hrm e) (h : lin l4 e.2.2.2) (H : lnx (d + 70) k X g e l4) : hwi (d + 70) zm_L_law k X 2709 (lws l4) g e := by
  refine zh_L_law_2709 (cs_image hc (fun g1 f1 c1 => ms_image (RM_cfr f1 hm) (fun g2 f2 m2 => ?_)))
  exact H g2 e _ _ (RC_mfr f2 c1) m2 (by rw [(f2 997 (by omega)).1, (f1 997 (by omega)).1]) (.inl rfl)
theorem cun_restore {s : sS} : cun (r_restore s ).1 := by
  unfold r_restore
  repeat' split
  all_goals exact ⟨_, rfl⟩
theorem la_restore (hc : RC g D s) (hm : RM g s) (hr : hrm e) (h : lin l4 e.2.2.2) (H : lnx (d + 70) k X g e l4) : hwi (d + 70) zm_L_law k X 2720 (lws l4) g e := by
  obtain ⟨w, hw⟩ := cun_restore (s := s)
  refine zh_L_law_2720 (cs_restore hc (fun g1 f1 c1 => ?_))
  rw [hw]
  have q : g1.1 997 = g.1 997 := (f1 997 (by omega)).1
  refine (ms_restore (RM_cfr f1 hm) (fun g2 u f2 m2 o2 => ?_))
  rw [hw] at o2
  obtain ⟨rfl, _⟩ := o2
  exact zbr_t rfl (H g2 e _ _ (RC_mfr f2 c1) m2 (by rw [(f2 997 (by omega)).1, q]) (.inl rfl))
theorem cu_note {s : sS} {a0 a1 a2 a3 : Int32} : cu1 (r_note s a0 a1 a2 a3).1 := by
  intro c h
  unfold r_note at h
  repeat' split at h
  all_goals first | (cases h; rfl) | (cases h; done)
theorem lw_note (hc : RC g D s) (hr : hrm e) {a0 a1 a2 a3 : Int32} (H : ∀ v g2 e2 D2, cfw g g2 → RC g2 D2 (r_note s a0 a1 a2 a3).2 → eth e e2 → wrl c12 (r_note s a0 a1 a2 a3).1 v g2 → k v g2 e2) : hci (d + 70) 354 [.ref 1000, .int a0, .int a1, .int a2, .int a3, .ref 1088] g e k X :=
  zh_L_note (cs_note hc hr (fun g1 f1 c1 => w1 (k := k) (X := X) cu_note f1 c1 (fun v g2 e2 f2 c2 he W => H v g2 e2 _ f2 c2 he W)))
theorem la_note (hc : RC g D s) (hm : RM g s) (hr : hrm e) (h : lin l4 e.2.2.2) (H : lnx (d + 70) k X g e l4) : hwi (d + 70) zm_L_law k X 1910 (lws l4) g e := by
  by_cases c4 : (g.1 997 (l4 + 4).toNatClampNeg) = 0
  · refine zh_L_law_1910 ⟨h.1, h.2.1, h.2.2.1, h.2.2.2.1, zbr_t c4 (lw_note hc hr ?_)⟩
    intro v g2 e2 D2 f2 c2 he W
    have m2 := RM_cfw f2 hm
    have q : g2.1 997 = g.1 997 := f2.1 997 (by omega)
    rw [q, eth_n he]
    refine ⟨h.1, h.2.1, h.2.2.1, h.2.2.2.1, zbr_t c4 (ms_note m2 (fun g3 u f3 d3 o3 => ?_))⟩
    exact m1 (A := fun g e => hwi (d + 70) zm_L_law k X 2733 (lws l4) g e) cnz12 W f3 o3 (H g3 e2 _ _ (RC_mfr f3 c2) d3 (by rw [(f3 997 (by omega)).1, q]) he)
  · refine zh_L_law_1910 ⟨h.1, h.2.1, h.2.2.1, h.2.2.2.1, zbr_f c4 (lw_note hc hr ?_)⟩
    intro v g2 e2 D2 f2 c2 he W
    have m2 := RM_cfw f2 hm
    have q : g2.1 997 = g.1 997 := f2.1 997 (by omega)
    rw [q, eth_n he]
    refine ⟨h.1, h.2.1, h.2.2.1, h.2.2.2.1, zbr_f c4 (ms_note m2 (fun g3 u f3 d3 o3 => ?_))⟩
    exact m1 (A := fun g e => hwi (d + 70) zm_L_law k X 2733 (lws l4) g e) cnz12 W f3 o3 (H g3 e2 _ _ (RC_mfr f3 c2) d3 (by rw [(f3 997 (by omega)).1, q]) he)
theorem zbr_b {c A B : Prop} (h1 : A) (h2 : B) : zbr c A B := ⟨fun _ => h1, fun _ => h2⟩
/-- one step of the law -/
theorem la_step (hc : RC g D s) (hm : RM g s) (hr : hrm e) (h0 : hin l4 e.2.2.2) (h : lin l4 e.2.2.2) (hl : ¬ (((nI e.2.2.2) - 6) < l4)) (H : lnx (d + 70) k X g e l4) : hwi (d + 70) zm_L_law k X 23 (lws l4) g e :=
  zh_L_law_23 (zbr_f hl ⟨h0, (zbr_b (la_feed hc hm hr h H) (zbr_b (la_drawer hc hm hr h H) (zbr_b (la_fault hc hm hr h H) (zbr_b (la_count hc hm hr h H) (zbr_b (la_zip hc hm hr h H) (zbr_b (la_place hc hm hr h H) (zbr_b (la_days hc hm hr h H) (zbr_b (la_slide hc hm hr h H) (zbr_b (la_pinch hc hm hr h H) (zbr_b (la_set hc hm hr h H) (zbr_b (la_swap hc hm hr h H) (zbr_b (la_undo hc hm hr h H) (zbr_b (la_then hc hm hr h H) (zbr_b (la_when hc hm hr h H) (zbr_b (la_bursts hc hm hr h H) (zbr_b (la_later hc hm hr h H) (zbr_b (la_daily hc hm hr h H) (zbr_b (la_lasts hc hm hr h H) (zbr_b (la_tear hc hm hr h H) (zbr_b (la_offset hc hm hr h H) (zbr_b (la_mesh hc hm hr h H) (zbr_b (la_cut hc hm hr h H) (zbr_b (la_mates hc hm hr h H) (zbr_b (la_toPinch hc hm hr h H) (zbr_b (la_toSlide hc hm hr h H) (zbr_b (la_toSet hc hm hr h H) (zbr_b (la_note hc hm hr h H) (zbr_b (la_forced hc hm hr h H) (zbr_b (la_look hc hm hr h H) (zbr_b (la_forget hc hm hr h H) (zbr_b (la_wind hc hm hr h H) (zbr_b (la_game hc hm hr h H) (zbr_b (la_years hc hm hr h H) (zbr_b (la_calm hc hm hr h H) (zbr_b (la_worst hc hm hr h H) (zbr_b (la_most hc hm hr h H) (zbr_b (la_gap hc hm hr h H) (zbr_b (la_unlike hc hm hr h H) (zbr_b (la_image hc hm hr h H) (zbr_b (la_restore hc hm hr h H) (H g e D s hc hm rfl (.inl rfl))))))))))))))))))))))))))))))))))))))))))⟩)
end
