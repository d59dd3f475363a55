/-! WHEN, BURST, MOST, WORN DAILY -/
def v_fb (x : sX) (w : Nat) : Nat → Nat → Nat → sZ → Int32
  | 0, _, _, _ => -1
  | m + 1, j, t, s => if (xd x t s).2.1 = 0 then v_fb x w m (j + 1) (t + 1) (xd x t s).1 else if w = 0 then nI (j + 1) else (xd x t s).2.2.1
def v_gn (x : sX) : Nat → Nat → Nat → sZ → Int32
  | 0, _, _, _ => -1
  | m + 1, j, t, s => if s.2.2.2.2.1 = 0 then nI j else v_gn x m (j + 1) (t + 1) (xd x t s).1
def v_when (x : sX) (i w : Nat) : Int32 := if w = 2 then v_gn x 61 0 x.2.2.2.2.2 (x.2.1 i) else v_fb x w 60 0 x.2.2.2.2.2 (x.2.1 i)
def o_when (x : sX) (z w : Int32) : rs := if iszb x.1 z && iszb 3 w then .inl (v_when x z.toNatClampNeg w.toNatClampNeg) else .inr 1
def v_bu (x : sX) (p : Nat) : Nat → Nat → Nat → sZ → Int32
  | 0, _, _, _ => -1
  | m + 1, j, t, s => if bt (xd x t s).2.1 p = false then v_bu x p m (j + 1) (t + 1) (xd x t s).1 else nI (j + 1)
def o_bursts (x : sX) (z p : Int32) : rs := if iszb x.1 z && iszb (x.2.1 z.toNatClampNeg).1 p then .inl (v_bu x p.toNatClampNeg 60 0 x.2.2.2.2.2 (x.2.1 z.toNatClampNeg)) else .inr 1
def v_mo (x : sX) : Nat → Nat → sZ → Int32 → Int32
  | 0, _, _, a => a
  | m + 1, t, s, a => v_mo x m (t + 1) (xd x t s).1 (imx a (jbc (xd x t s).2.1))
def o_most (x : sX) (z n : Int32) : rs := if iszb x.1 z then (if isrb 0 60 n then .inl (v_mo x n.toNatClampNeg x.2.2.2.2.2 (x.2.1 z.toNatClampNeg) 0) else .inr 0) else .inr 1
def v_da (x : sX) : Nat → Nat → sZ → Int32 → Int32
  | 0, _, _, a => a
  | m + 1, t, s, a => v_da x m (t + 1) (xd x t (sslide s s.1)).1 (a + jbc (xd x t (sslide s s.1)).2.1)
def o_daily (x : sX) (z n : Int32) : rs := if iszb x.1 z then (if isrb 0 60 n then .inl (v_da x n.toNatClampNeg x.2.2.2.2.2 (x.2.1 z.toNatClampNeg) 0) else .inr 0) else .inr 1
def v_la (x : sX) (w : Int32) : Nat → Nat → Nat → sZ → Int32
  | 0, _, _, _ => -1
  | m + 1, j, t, s => if w &&& (shb (xd x t (sslide s s.1)).1 (xd x t (sslide s s.1)).1.1 ^^^ (-1)) = 0 then v_la x w m (j + 1) (t + 1) (xd x t (sslide s s.1)).1 else nI (j + 1)
def o_lasts (x : sX) (z : Int32) : rs := if iszb x.1 z then .inl (v_la x (shb (x.2.1 z.toNatClampNeg) (x.2.1 z.toNatClampNeg).1) 60 0 x.2.2.2.2.2 (x.2.1 z.toNatClampNeg)) else .inr 1
section
variable {d : Nat} {k : Int32 → hG → hE → Prop} {kv : hG → hE → Prop} {X : Nat → hG → hE → Prop} {g : hG} {e : hE} {D : Nat} {x : sX}
theorem ct_n {pl : List tk} {a : Nat} {s : sZ} (h : ct pl g a s) : (zg g a).1 = nI s.1 ∧ s.1 ≤ 16 := ⟨h.1.1, h.2.1.1.2⟩
theorem c_gone (hc : cdr g D x) {i : Nat} (hi : i < 4) : ∀ (m j : Nat), j + m = 61 → ∀ (s : sZ) (g1 : hG), qf D g g1 → ct x.2.2.2.1 g1 (1038 + i) s → (∀ g', qf D g g' → k (v_gn x m j (x.2.2.2.2.2 + j) s) g' e) → hwi (d + 5) zm_X7_daysTillGone k X 2 [(0, .ref 1000), (1, .ref (1038 + i)), (2, .int (nI j))] g1 e := by
  intro m
  induction m with
  | zero =>
    intro j hj s g1 q1 c1 H
    exact zh_X7_daysTillGone_2 (hT_trial hi) (zbr_t (by rw [show (60 : Int32) = nI 60 from rfl]; exact nI_lt (by omega) (by omega)) (H g1 q1))
  | succ m ih =>
    intro j hj s g1 q1 c1 H
    have hc1 := cdr_qf q1 hc
    refine zh_X7_daysTillGone_2 (hT_trial hi) (zbr_f (by rw [show (60 : Int32) = nI 60 from rfl]; exact nI_nlt (by omega) (by omega)) (c_closedBits (hT_trial hi) ?_))
    rw [c1.1.2.2.2.2.1]
    unfold v_gn at H
    refine ⟨fun c => ?_, fun c => c_passDay hc1 hi c1 (by omega) (fun g2 p2 c2 _ => ?_)⟩
    · have := H g1 q1
      rw [if_pos c] at this
      exact this
    · rw [nI_1]
      refine ih (j + 1) (by omega) _ g2 (q1.trans (qf_pf hi p2)) c2 (fun g' q' => ?_)
      have := H g' q'
      rw [if_neg c] at this
      exact this
theorem c_fb (hc : cdr g D x) {i : Nat} (hi : i < 4) {w : Nat} (hw : w < 2) : ∀ (m j : Nat), j + m = 60 → ∀ (s : sZ) (g1 : hG), qf D g g1 → ct x.2.2.2.1 g1 (1038 + i) s → (∀ g', qf D g g' → k (v_fb x w m j (x.2.2.2.2.2 + j) s) g' e) → hwi (d + 5) zm_X7_firstBurst k X 2 [(0, .ref 1000), (1, .ref (1038 + i)), (2, .int (nI w)), (3, .int (nI j))] g1 e := by
  intro m
  induction m with
  | zero =>
    intro j hj s g1 q1 c1 H
    exact zh_X7_firstBurst_2 (hT_trial hi) (zbr_t (by rw [show (60 : Int32) = nI 60 from rfl]; exact nI_le (by omega) (by omega)) (H g1 q1))
  | succ m ih =>
    intro j hj s g1 q1 c1 H
    have hc1 := cdr_qf q1 hc
    refine zh_X7_firstBurst_2 (hT_trial hi) (zbr_f (by rw [show (60 : Int32) = nI 60 from rfl]; exact nI_ge (by omega) (by omega)) (c_passDay hc1 hi c1 (by omega) (fun g2 p2 c2 f2 => ?_)))
    unfold v_fb at H
    have q2 : qf D g g2 := q1.trans (qf_pf hi p2)
    have hc2 := cdr_qf q2 hc
    rw [nI_1]
    refine ⟨fun c => ih (j + 1) (by omega) _ g2 q2 c2 (fun g' q' => ?_), fun c => ⟨fun c3 => ?_, fun c3 => ?_⟩⟩
    · have := H g' q'
      rw [if_pos c] at this
      exact this
    · have := H g2 q2
      rw [if_neg c, if_pos ((nI_eq (b := 0) (by omega) (by omega)).mp c3)] at this
      exact this
    · rw [hc2.1.2]
      refine ⟨hc2.1.1, zh_X2_firstPlace hc2.1.1 ?_⟩
      have := H g2 q2
      rw [if_neg c, if_neg (fun z => c3 (by rw [z]; rfl))] at this
      rw [f2]
      exact this
theorem cq_when (hc : cdr g D x) (hr : hrm e) {z w : Int32} (H : ∀ g', qf D g g' → oc (o_when x z w) k X g' e) : hci (d + 7) 162 [.ref 1000, .int z, .int w] g e k X := by
  have h4 := hc.2.1.2
  refine zh_X7_when (c_trialOf hc hr (fun i hi hz g1 q1 c1 _ => ⟨hT_trial (by omega), ?_⟩) (fun h => oc_r (H g qf.refl) (by unfold o_when; rw [iszb_f (by omega) h]; rfl)))
  subst hz
  refine c_checkWhat hr (n := 3) (by omega) (fun j hj hw => ?_) (fun h => oc_r (H g1 q1) (by unfold o_when; rw [iszb_f (by omega) h, Bool.and_false]; rfl))
  subst hw
  have hv : o_when x (nI i) (nI j) = .inl (v_when x i j) := by
    unfold o_when
    rw [iszb_t (by omega) hi, iszb_t (by omega) hj, nI_clamp (by omega), nI_clamp (by omega)]
    rfl
  by_cases c : j = 2
  · subst c
    refine zbr_t rfl (zh_X7_daysTillGone (hT_trial (by omega)) (c_gone hc (by omega) 61 0 (by omega) _ g1 q1 c1 (fun g' q' => oc_l (H g' q') hv)))
  · refine zbr_f (fun z => c ((nI_eq (b := 2) (by omega) (by omega)).mp z)) (zh_X7_firstBurst (hT_trial (by omega)) (c_fb hc (by omega) (by omega) 60 0 (by omega) _ g1 q1 c1 (fun g' q' => oc_l (H g' q') (hv.trans ?_))))
    unfold v_when
    rw [if_neg c]
    rfl
theorem c_bu (hc : cdr g D x) {i p : Nat} (hi : i < 4) (hp : p < 16) : ∀ (m j : Nat), j + m = 60 → ∀ (s : sZ) (g1 : hG), qf D g g1 → ct x.2.2.2.1 g1 (1038 + i) s → (∀ g', qf D g g' → k (v_bu x p m j (x.2.2.2.2.2 + j) s) g' e) → hwi (d + 6) zm_X7_bursts k X 14 [(0, .ref 1000), (2, .int (nI p)), (3, .ref (1038 + i)), (4, .int (nI j))] g1 e := by
  intro m
  induction m with
  | zero =>
    intro j hj s g1 q1 c1 H
    exact zh_X7_bursts_14 (hT_trial hi) (zbr_t (by rw [show (60 : Int32) = nI 60 from rfl]; exact nI_le (by omega) (by omega)) (H g1 q1))
  | succ m ih =>
    intro j hj s g1 q1 c1 H
    have hc1 := cdr_qf q1 hc
    refine zh_X7_bursts_14 (hT_trial hi) (zbr_f (by rw [show (60 : Int32) = nI 60 from rfl]; exact nI_ge (by omega) (by omega)) (c_passDay hc1 hi c1 (by omega) (fun g2 p2 c2 f2 => ?_)))
    unfold v_bu at H
    have q2 : qf D g g2 := q1.trans (qf_pf hi p2)
    rw [nI_1]
    refine ⟨fun c => ih (j + 1) (by omega) _ g2 q2 c2 (fun g' q' => ?_), fun c => ?_⟩
    · have := H g' q'
      rw [if_pos ((bt_shr0 (by omega)).mp c)] at this
      exact this
    · have := H g2 q2
      rw [if_neg (fun z => c ((bt_shr0 (by omega)).mpr z))] at this
      exact this
theorem cq_bursts (hc : cdr g D x) (hr : hrm e) {z p : Int32} (H : ∀ g', qf D g g' → oc (o_bursts x z p) k X g' e) : hci (d + 7) 165 [.ref 1000, .int z, .int p] g e k X := by
  have h4 := hc.2.1.2
  refine zh_X7_bursts (c_trialOf hc hr (fun i hi hz g1 q1 c1 _ => ⟨hT_trial (by omega), ?_⟩) (fun h => oc_r (H g qf.refl) (by unfold o_bursts; rw [iszb_f (by omega) h]; rfl)))
  subst hz
  have ei : (nI i).toNatClampNeg = i := nI_clamp (by omega)
  obtain ⟨n1, n2⟩ := ct_n c1
  refine c_checkPlace (hT_trial (by omega)) n1 n2 hr (fun j hj hw => ?_) (fun h => oc_r (H g1 q1) (by unfold o_bursts; rw [ei, iszb_f (by omega) h, Bool.and_false]; rfl))
  subst hw
  refine c_bu hc (by omega) (by omega) 60 0 (by omega) _ g1 q1 c1 (fun g' q' => oc_l (H g' q') ?_)
  unfold o_bursts
  rw [ei, iszb_t (by omega) hi, iszb_t (by omega) hj, nI_clamp (by omega)]
  rfl
theorem cq_most (hc : cdr g D x) (hr : hrm e) {z n : Int32} (H : ∀ g', qf D g g' → oc (o_most x z n) k X g' e) : hci (d + 7) 169 [.ref 1000, .int z, .int n] g e k X := by
  have h4 := hc.2.1.2
  refine zh_X7_most (c_trialOf hc hr (fun i hi hz g1 q1 c1 _ => ⟨hT_trial (by omega), ?_⟩) (fun h => oc_r (H g qf.refl) (by unfold o_most; rw [iszb_f (by omega) h]; rfl)))
  subst hz
  refine c_checkRange hr (a := 0) (b := 60) (by omega) (by omega) (fun N _ hN hn => ?_) (fun h => oc_r (H g1 q1) (by unfold o_most; rw [iszb_t (by omega) hi, isrb_f (by omega) (by omega) h]; rfl))
  subst hn
  have hv : o_most x (nI i) (nI N) = .inl (v_mo x N x.2.2.2.2.2 (x.2.1 i) 0) := by
    unfold o_most
    rw [iszb_t (by omega) hi, isrb_t (by omega) (by omega) hN, nI_clamp (by omega), nI_clamp (by omega)]
    rfl
  have : ∀ (m j : Nat), j + m = N → ∀ (s : sZ) (a : Int32) (g1 : hG), qf D g g1 → ct x.2.2.2.1 g1 (1038 + i) s → v_mo x m (x.2.2.2.2.2 + j) s a = v_mo x N x.2.2.2.2.2 (x.2.1 i) 0 → hwi (d + 6) zm_X7_most k X 19 [(0, .ref 1000), (2, .int (nI N)), (3, .ref (1038 + i)), (4, .int a), (5, .int (nI j))] g1 e := by
    intro m
    induction m with
    | zero =>
      intro j hj s a g1 q1 c1 h
      refine zh_X7_most_19 (hT_trial (by omega)) (zbr_t (nI_le (by omega) (by omega)) (oc_l (H g1 q1) (hv.trans ?_)))
      rw [← h]
      rfl
    | succ m ih =>
      intro j hj s a g1 q1 c1 h
      refine zh_X7_most_19 (hT_trial (by omega)) (zbr_f (nI_ge (by omega) (by omega)) (c_passDay (cdr_qf q1 hc) (by omega) c1 (by omega) (fun g2 p2 c2 f2 => c_bitCount (c_max ?_))))
      rw [nI_1]
      exact ih (j + 1) (by omega) _ _ g2 (q1.trans (qf_pf (by omega) p2)) c2 h
  exact this N 0 (by omega) _ 0 g1 q1 c1 rfl
theorem ct_slide {pl : List tk} {a : Nat} {s : sZ} {h : Nat} (hs : ct pl g a s) (hh : h ≤ s.1) : ct pl (zp g a (zslide (zg g a) s.1 (nI h))) a (sslide s h) := by
  unfold ct
  rw [zg_zp]
  exact ⟨zrel_slide hs.1 hs.2.1 h, sok_slide hs.2.1 hh, hv_0 _ _⟩
theorem c_top (hD' : hD D) {i : Nat} (hi : i < 4) {s : sZ} (hs : ct x.2.2.2.1 g (1038 + i) s) (H : ∀ g', qf D g g' → ct x.2.2.2.1 g' (1038 + i) (sslide s s.1) → kv g' e) : hcv (d + 3) 127 [.ref (1038 + i)] g e kv X := by
  obtain ⟨n1, n2⟩ := ct_n hs
  exact c_slideToTop (hT_trial hi) n1 n2 (H _ (qf_zp hD' hi _) (ct_slide hs (Nat.le_refl _)))
theorem cq_daily (hc : cdr g D x) (hr : hrm e) {z n : Int32} (H : ∀ g', qf D g g' → oc (o_daily x z n) k X g' e) : hci (d + 7) 170 [.ref 1000, .int z, .int n] g e k X := by
  have h4 := hc.2.1.2
  refine zh_X7_daily (c_trialOf hc hr (fun i hi hz g1 q1 c1 _ => ⟨hT_trial (by omega), ?_⟩) (fun h => oc_r (H g qf.refl) (by unfold o_daily; rw [iszb_f (by omega) h]; rfl)))
  subst hz
  refine c_checkRange hr (a := 0) (b := 60) (by omega) (by omega) (fun N _ hN hn => ?_) (fun h => oc_r (H g1 q1) (by unfold o_daily; rw [iszb_t (by omega) hi, isrb_f (by omega) (by omega) h]; rfl))
  subst hn
  have hv : o_daily x (nI i) (nI N) = .inl (v_da x N x.2.2.2.2.2 (x.2.1 i) 0) := by
    unfold o_daily
    rw [iszb_t (by omega) hi, isrb_t (by omega) (by omega) hN, nI_clamp (by omega), nI_clamp (by omega)]
    rfl
  have : ∀ (m j : Nat), j + m = N → ∀ (s : sZ) (a : Int32) (g1 : hG), qf D g g1 → ct x.2.2.2.1 g1 (1038 + i) s → v_da x m (x.2.2.2.2.2 + j) s a = v_da x N x.2.2.2.2.2 (x.2.1 i) 0 → hwi (d + 6) zm_X7_daily k X 19 [(0, .ref 1000), (2, .int (nI N)), (3, .ref (1038 + i)), (4, .int a), (5, .int (nI j))] g1 e := by
    intro m
    induction m with
    | zero =>
      intro j hj s a g1 q1 c1 h
      refine zh_X7_daily_19 (hT_trial (by omega)) (zbr_t (nI_le (by omega) (by omega)) (oc_l (H g1 q1) (hv.trans ?_)))
      rw [← h]
      rfl
    | succ m ih =>
      intro j hj s a g1 q1 c1 h
      refine zh_X7_daily_19 (hT_trial (by omega)) (zbr_f (nI_ge (by omega) (by omega)) (c_top hc.1.1 (by omega) c1 (fun g3 q3 c3 => c_passDay (cdr_qf (q1.trans q3) hc) (by omega) c3 (by omega) (fun g2 p2 c2 f2 => c_bitCount ?_))))
      rw [nI_1]
      exact ih (j + 1) (by omega) _ _ g2 ((q1.trans q3).trans (qf_pf (by omega) p2)) c2 h
  exact this N 0 (by omega) _ 0 g1 q1 c1 rfl
theorem cq_lasts (hc : cdr g D x) (hr : hrm e) {z : Int32} (H : ∀ g', qf D g g' → oc (o_lasts x z) k X g' e) : hci (d + 7) 171 [.ref 1000, .int z] g e k X := by
  have h4 := hc.2.1.2
  refine zh_X7_lasts (c_trialOf hc hr (fun i hi hz g1 q1 c1 _ => ⟨hT_trial (by omega), ?_⟩) (fun h => oc_r (H g qf.refl) (by unfold o_lasts; rw [iszb_f (by omega) h]; rfl)))
  subst hz
  obtain ⟨n1, n2⟩ := ct_n c1
  have hv : o_lasts x (nI i) = .inl (v_la x (shb (x.2.1 i) (x.2.1 i).1) 60 0 x.2.2.2.2.2 (x.2.1 i)) := by
    unfold o_lasts
    rw [iszb_t (by omega) hi, nI_clamp (by omega)]
    rfl
  obtain ⟨V, hV⟩ : ∃ V, V = v_la x (shb (x.2.1 i) (x.2.1 i).1) 60 0 x.2.2.2.2.2 (x.2.1 i) := ⟨_, rfl⟩
  rw [← hV] at hv
  refine c_holding (hT_trial (by omega)) n1 n2 ?_
  rw [zrel_hb c1.1 c1.2.1 _ n2]
  have : ∀ (m j : Nat), j + m = 60 → ∀ (s : sZ) (g1 : hG), qf D g g1 → ct x.2.2.2.1 g1 (1038 + i) s → v_la x (shb (x.2.1 i) (x.2.1 i).1) m j (x.2.2.2.2.2 + j) s = V → hwi (d + 6) zm_X7_lasts k X 14 [(0, .ref 1000), (2, .ref (1038 + i)), (3, .int (shb (x.2.1 i) (x.2.1 i).1)), (4, .int (nI j))] g1 e := by
    intro m
    induction m with
    | zero =>
      intro j hj s g1 q1 c1 h
      refine zh_X7_lasts_14 (hT_trial (by omega)) (zbr_t (by rw [show (60 : Int32) = nI 60 from rfl]; exact nI_le (by omega) (by omega)) (oc_l (H g1 q1) (hv.trans ?_)))
      rw [← h]
      rfl
    | succ m ih =>
      intro j hj s g1 q1 c1 h
      refine zh_X7_lasts_14 (hT_trial (by omega)) (zbr_f (by rw [show (60 : Int32) = nI 60 from rfl]; exact nI_ge (by omega) (by omega)) (c_top hc.1.1 (by omega) c1 (fun g3 q3 c3 => c_passDay (cdr_qf (q1.trans q3) hc) (by omega) c3 (by omega) (fun g2 p2 c2 f2 => ?_))))
      have q2 : qf D g g2 := (q1.trans q3).trans (qf_pf (by omega) p2)
      obtain ⟨n3, n4⟩ := ct_n c2
      refine c_holding (hT_trial (by omega)) n3 n4 ?_
      rw [zrel_hb c2.1 c2.2.1 _ n4, nI_1]
      unfold v_la at h
      refine ⟨fun c => ?_, fun c => ?_⟩
      · rw [if_pos c] at h
        exact ih (j + 1) (by omega) _ g2 q2 c2 h
      · rw [if_neg c] at h
        refine oc_l (H g2 q2) (hv.trans ?_)
        rw [← h]
  exact this 60 0 (by omega) _ g1 q1 c1 hV.symm
end
