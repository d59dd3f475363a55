/-! TEAR, LATER, calm, worst -/
def sopen (s : sZ) (p : Nat) : sZ := (s.1, s.2.1, s.2.2.1, s.2.2.2.1, s.2.2.2.2.1 &&& (bit p ^^^ (-1)), s.2.2.2.2.2)
theorem sok_open {s : sZ} (h : sok s) {p : Nat} (hp : p < 32) : sok (sopen s p) := by
  obtain ⟨h1, h2, h3, h4, h5, h6, h7⟩ := h
  refine ⟨h1, h2, h3, h4, h5, fun q hq => ?_, h7⟩
  have hq : bt (s.2.2.2.2.1 &&& (bit p ^^^ (-1))) q = true := hq
  rw [bt_clr _ hp, Bool.and_eq_true] at hq
  exact h6 q hq.1
def o_tear (x : sX) (z p st : Int32) : rs := if iszb x.1 z && iszb (x.2.1 z.toNatClampNeg).1 p then (if isrb 0 99 st then .inl (sday x.2.2.2.1 x.2.2.2.2.1 st (nI x.2.2.2.2.2) (sopen (x.2.1 z.toNatClampNeg) p.toNatClampNeg)).2.1 else .inr 0) else .inr 1
/-- sums and the best over zips -/
def xsum (f : Nat → Int32) : Nat → Int32
  | 0 => 0
  | i + 1 => xsum f i + f i
def xbest (f : Nat → Int32) : Nat → Int32 × Int32
  | 0 => (-1, -1)
  | i + 1 => if f i ≤ (xbest f i).2 then xbest f i else (nI i, f i)
def v_later (x : sX) (n w : Nat) : Int32 := if w = 0 then xsum (fun i => jbc (xgo x n x.2.2.2.2.2 (x.2.1 i)).2.2.2.2.1) x.1 else (xbest (fun i => jbc (xgo x n x.2.2.2.2.2 (x.2.1 i)).2.2.2.2.1) x.1).1
def o_later (x : sX) (n w : Int32) : rs := if iszb 2 w then (if isrb 0 60 n then .inl (v_later x n.toNatClampNeg w.toNatClampNeg) else .inr 0) else .inr 1
/-- bursts of all zips on a day -/
def xtb (x : sX) (t : Nat) (zs : Nat → sZ) : Int32 := xsum (fun i => jbc (xd x t (zs i)).2.1) x.1
def xz (x : sX) (t : Nat) (zs : Nat → sZ) : Nat → sZ := fun i => (xd x t (zs i)).1
def v_calm (x : sX) : Nat → Nat → (Nat → sZ) → Int32 → Int32
  | 0, _, _, a => a
  | m + 1, t, zs, a => v_calm x m (t + 1) (xz x t zs) (if xtb x t zs = 0 then a + 1 else a)
def o_calm (x : sX) (n : Int32) : rs := if isrb 1 60 n then .inl (v_calm x n.toNatClampNeg x.2.2.2.2.2 x.2.1 0) else .inr 0
def v_worst (x : sX) (w : Nat) : Nat → Nat → Nat → (Nat → sZ) → Int32 → Int32 → Int32
  | 0, _, _, _, top, day => if w = 0 then day else top
  | m + 1, j, t, zs, top, day => if xtb x t zs ≤ top then v_worst x w m (j + 1) (t + 1) (xz x t zs) top day else v_worst x w m (j + 1) (t + 1) (xz x t zs) (xtb x t zs) (nI (j + 1))
def o_worst (x : sX) (n w : Int32) : rs := if iszb 2 w then (if isrb 1 60 n then .inl (v_worst x w.toNatClampNeg n.toNatClampNeg 0 x.2.2.2.2.2 x.2.1 (-1) 0) else .inr 0) else .inr 1
section
variable {d : Nat} {k : Int32 → hG → hE → Prop} {kv : hG → hE → Prop} {X : Nat → hG → hE → Prop} {g : hG} {e : hE} {D : Nat} {x : sX}
theorem cq_tear (hc : cdr g D x) (hr : hrm e) {z p st : Int32} (H : ∀ g', qf D g g' → oc (o_tear x z p st) k X g' e) : hci (d + 7) 172 [.ref 1000, .int z, .int p, .int st] g e k X := by
  have h4 := hc.2.1.2
  refine zh_X7_tear (c_trialOf hc hr (fun i hi hz g1 q1 c1 _ => ⟨hT_trial (by omega), ?_⟩) (fun h => oc_r (H g qf.refl) (by unfold o_tear; rw [iszb_f (by omega) h]; rfl)))
  subst hz
  have ei : (nI i).toNatClampNeg = i := nI_clamp (by omega)
  obtain ⟨n1, n2⟩ := ct_n c1
  refine c_checkPlace (hT_trial (by omega)) n1 n2 hr (fun j hj hw => ?_) (fun h => oc_r (H g1 q1) (by unfold o_tear; rw [ei, iszb_f (by omega) h, Bool.and_false]; rfl))
  subst hw
  have hzw : (iszb x.1 (nI i) && iszb (x.2.1 i).1 (nI j)) = true := by rw [iszb_t (by omega) hi, iszb_t (by omega) hj]; rfl
  refine c_checkRange hr (a := 0) (b := 99) (by omega) (by omega) (fun N _ hN hn => ?_) (fun h => oc_r (H g1 q1) (by unfold o_tear; rw [ei, hzw, isrb_f (by omega) (by omega) h]; rfl))
  subst hn
  have hv : o_tear x (nI i) (nI j) (nI N) = .inl (sday x.2.2.2.1 x.2.2.2.2.1 (nI N) (nI x.2.2.2.2.2) (sopen (x.2.1 i) j)).2.1 := by
    unfold o_tear
    rw [ei, hzw, isrb_t (by omega) (by omega) hN, nI_clamp (by omega)]
    rfl
  refine c_openAt (hT_trial (by omega)) ?_
  have q2 : qf D g1 (zp g1 (1038 + i) (zopen (zg g1 (1038 + i)) j)) := qf_zp hc.1.1 (by omega) _
  have hc2 := cdr_qf (q1.trans q2) hc
  have c2 : ct x.2.2.2.1 (zp g1 (1038 + i) (zopen (zg g1 (1038 + i)) j)) (1038 + i) (sopen (x.2.1 i) j) := by
    unfold ct
    rw [zg_zp]
    exact ⟨zrel_open c1.1 j, sok_open c1.2.1 (by omega), hv_0 _ _⟩
  rw [hc2.1.2]
  refine ⟨hc2.1.1, hc2.1.1, zh_X2_today hc2.1.1 ?_⟩
  rw [hc2.2.2.2.2.2.1]
  exact c_passD hc2 (by omega) c2 (by omega) (fun g3 p3 _ _ => oc_l (H g3 ((q1.trans q2).trans (qf_pf (by omega) p3))) hv)
theorem cq_later (hc : cdr g D x) (hr : hrm e) {n w : Int32} (H : ∀ g', qf D g g' → oc (o_later x n w) k X g' e) : hci (d + 7) 166 [.ref 1000, .int n, .int w] g e k X := by
  have h4 := hc.2.1.2
  refine zh_X7_later (c_checkWhat hr (n := 2) (by omega) (fun j hj hw => ?_) (fun h => oc_r (H g qf.refl) (by unfold o_later; rw [iszb_f (by omega) h]; rfl)))
  subst hw
  refine c_checkRange hr (a := 0) (b := 60) (by omega) (by omega) (fun N _ hN hn => ?_) (fun h => oc_r (H g qf.refl) (by unfold o_later; rw [iszb_t (by omega) hj, isrb_f (by omega) (by omega) h]; rfl))
  subst hn
  have hv : o_later x (nI N) (nI j) = .inl (v_later x N j) := by
    unfold o_later
    rw [iszb_t (by omega) hj, isrb_t (by omega) (by omega) hN, nI_clamp (by omega), nI_clamp (by omega)]
    rfl
  unfold v_later at hv
  obtain ⟨F, hF⟩ : ∃ F : Nat → Int32, F = (fun i => jbc (xgo x N x.2.2.2.2.2 (x.2.1 i)).2.2.2.2.1) := ⟨_, rfl⟩
  rw [← hF] at hv
  have : ∀ i, i ≤ x.1 → ∀ g1, qf D g g1 → hwi (d + 6) zm_X7_later k X 23 [(0, .ref 1000), (1, .int (nI N)), (2, .int (nI j)), (3, .int (xsum F i)), (4, .int (xbest F i).1), (5, .int (xbest F i).2), (6, .int (nI i))] g1 e := by
    refine hdown ?_ ?_
    · intro g1 q1
      have hc1 := cdr_qf q1 hc
      refine zh_X7_later_23 ?_
      rw [hc1.1.2]
      refine ⟨hc1.1.1, zh_X2_zipCount hc1.1.1 (zbr_t (by rw [hc1.2.1.1]; exact nI_le (Nat.le_refl _) (by omega)) ⟨fun c => ?_, fun c => ?_⟩)⟩
      · exact oc_l (H g1 q1) (hv.trans (by rw [if_pos ((nI_eq (b := 0) (by omega) (by omega)).mp c)]))
      · exact oc_l (H g1 q1) (hv.trans (by rw [if_neg (fun z => c (by rw [z]; rfl))]))
    · intro i hi W g1 q1
      have hc1 := cdr_qf q1 hc
      refine zh_X7_later_23 ?_
      rw [hc1.1.2]
      refine ⟨hc1.1.1, zh_X2_zipCount hc1.1.1 (zbr_f (by rw [hc1.2.1.1]; exact nI_ge hi (by omega)) (c_trialOf hc1 hr (fun i' hi' hz g2 q2 c2 _ => ⟨hT_trial (by omega), ?_⟩) (fun h => absurd ⟨i, hi, rfl⟩ h)))⟩
      obtain rfl : i = i' := (nI_eq (by omega) (by omega)).mp hz
      have hc2 := cdr_qf q2 hc1
      refine c_passDays hc2 (by omega) c2 (by omega) (fun g3 p3 c3 => ?_)
      have q3 : qf D g g3 := (q1.trans q2).trans (qf_pf (by omega) p3)
      have eF : jbc (zg g3 (1038 + i)).2.2.2.2.1 = F i := by rw [c3.1.2.2.2.2.1, hF]
      refine c_closedCount (hT_trial (by omega)) (c_closedCount (hT_trial (by omega)) ?_)
      have W' := W g3 q3
      rw [nI_succ] at W'
      rw [eF]
      unfold xbest xsum at W'
      refine ⟨fun c => ?_, fun c => c_closedCount (hT_trial (by omega)) ?_⟩
      · rw [if_pos c] at W'; exact W'
      · rw [if_neg c] at W'
        rw [eF]
        exact W'
  exact this 0 (Nat.zero_le _) g qf.refl
/-- all zips are copied -/
def tct (x : sX) (g : hG) (zs : Nat → sZ) : Prop := ∀ i, i < x.1 → ct x.2.2.2.1 g (1038 + i) (zs i)
theorem c_tryAll (hc : cdr g D x) (hr : hrm e) (H : ∀ g', qf D g g' → tct x g' x.2.1 → kv g' e) : hcv (d + 5) 208 [.ref 1000] g e kv X := by
  have h4 := hc.2.1.2
  refine zh_X7_tryAll ?_
  have : ∀ i, i ≤ x.1 → ∀ g1, qf D g g1 → (∀ j, j < i → ct x.2.2.2.1 g1 (1038 + j) (x.2.1 j)) → hwv (d + 4) zm_X7_tryAll kv X 2 [(0, .ref 1000), (1, .int (nI i))] g1 e := by
    refine hdown ?_ ?_
    · intro g1 q1 h1
      have hc1 := cdr_qf q1 hc
      refine zh_X7_tryAll_2 ?_
      rw [hc1.1.2]
      exact ⟨hc1.1.1, zh_X2_zipCount hc1.1.1 (zbr_t (by rw [hc1.2.1.1]; exact nI_le (Nat.le_refl _) (by omega)) (H g1 q1 h1))⟩
    · intro i hi W g1 q1 h1
      have hc1 := cdr_qf q1 hc
      refine zh_X7_tryAll_2 ?_
      rw [hc1.1.2]
      refine ⟨hc1.1.1, zh_X2_zipCount hc1.1.1 (zbr_f (by rw [hc1.2.1.1]; exact nI_ge hi (by omega)) (c_trialOf hc1 hr (fun i' hi' hz g2 q2 c2 o2 => ⟨hT_trial (by omega), ?_⟩) (fun h => absurd ⟨i, hi, rfl⟩ h)))⟩
      obtain rfl : i = i' := (nI_eq (by omega) (by omega)).mp hz
      rw [nI_1]
      refine W g2 (q1.trans q2) (fun j hj => ?_)
      by_cases c : j = i
      · subst c; exact c2
      · exact ct_cg (o2 j c) (h1 j (by omega))
  exact this 0 (Nat.zero_le _) g qf.refl (fun j h => absurd h (by omega))
theorem ct_pf {a b : Nat} {g g' : hG} {s : sZ} {pl : List tk} (hp : pf D a g g') (h1 : ¬ b = a) (h2 : ¬ b = D) (h3 : ¬ b = D + 9) (h4 : ¬ b = D + 11) (h : ct pl g b s) : ct pl g' b s := ct_cg (zg_cg (hp.1 b h1 h2 h3 h4) (hp.2.2.1 b h1)) h
theorem c_passAll (hc : cdr g D x) {zs : Nat → sZ} (ht : tct x g zs) {n : Nat} (hn : n ≤ 1000) (H : ∀ g', qf D g g' → tct x g' (xz x (x.2.2.2.2.2 + n) zs) → k (xtb x (x.2.2.2.2.2 + n) zs) g' e) : hci (d + 6) 209 [.ref 1000, .int (nI n)] g e k X := by
  have h4 := hc.2.1.2
  have hl := hD_lt hc.1.1
  refine zh_X7_passAll ?_
  have : ∀ i, i ≤ x.1 → ∀ g1, qf D g g1 → (∀ j, j < x.1 → ct x.2.2.2.1 g1 (1038 + j) (if j < i then xz x (x.2.2.2.2.2 + n) zs j else zs j)) → hwi (d + 5) zm_X7_passAll k X 4 [(0, .ref 1000), (1, .int (nI n)), (2, .int (xsum (fun i => jbc (xd x (x.2.2.2.2.2 + n) (zs i)).2.1) i)), (3, .int (nI i))] g1 e := by
    refine hdown ?_ ?_
    · intro g1 q1 h1
      have hc1 := cdr_qf q1 hc
      refine zh_X7_passAll_4 ?_
      rw [hc1.1.2]
      refine ⟨hc1.1.1, zh_X2_zipCount hc1.1.1 (zbr_t (by rw [hc1.2.1.1]; exact nI_le (Nat.le_refl _) (by omega)) (H g1 q1 (fun j hj => ?_)))⟩
      have := h1 j hj
      rw [if_pos hj] at this
      exact this
    · intro i hi W g1 q1 h1
      have hc1 := cdr_qf q1 hc
      refine zh_X7_passAll_4 ?_
      rw [hc1.1.2]
      refine ⟨hc1.1.1, zh_X2_zipCount hc1.1.1 (zbr_f (by rw [hc1.2.1.1]; exact nI_ge hi (by omega)) (c_trialAt (by omega) ⟨hT_trial (by omega), ?_⟩))⟩
      have c1 := h1 i hi
      rw [if_neg (by omega)] at c1
      refine c_passDay hc1 (by omega) c1 hn (fun g2 p2 c2 _ => c_bitCount ?_)
      rw [nI_1]
      refine W g2 (q1.trans (qf_pf (by omega) p2)) (fun j hj => ?_)
      by_cases c : j = i
      · subst c
        rw [if_pos (by omega)]
        exact c2
      · have := h1 j hj
        have e2 : (if j < i + 1 then xz x (x.2.2.2.2.2 + n) zs j else zs j) = (if j < i then xz x (x.2.2.2.2.2 + n) zs j else zs j) := by
          by_cases q : j < i
          · rw [if_pos q, if_pos (by omega)]
          · rw [if_neg q, if_neg (by omega)]
        rw [e2]
        exact ct_pf p2 (by omega) (by omega) (by omega) (by omega) this
  exact this 0 (Nat.zero_le _) g qf.refl (fun j hj => by rw [if_neg (by omega)]; exact ht j hj)
theorem cq_calm (hc : cdr g D x) (hr : hrm e) {n : Int32} (H : ∀ g', qf D g g' → oc (o_calm x n) k X g' e) : hci (d + 8) 167 [.ref 1000, .int n] g e k X := by
  refine zh_X7_calm (c_checkRange hr (a := 1) (b := 60) (by omega) (by omega) (fun N hN1 hN hn => ?_) (fun h => oc_r (H g qf.refl) (by unfold o_calm; rw [isrb_f (by omega) (by omega) h]; rfl)))
  subst hn
  have hv : o_calm x (nI N) = .inl (v_calm x N x.2.2.2.2.2 x.2.1 0) := by
    unfold o_calm
    rw [isrb_t (by omega) hN1 hN, nI_clamp (by omega)]
    rfl
  obtain ⟨V, hV⟩ : ∃ V, V = v_calm x N x.2.2.2.2.2 x.2.1 0 := ⟨_, rfl⟩
  rw [← hV] at hv
  refine c_tryAll hc hr (fun g1 q1 t1 => ?_)
  have : ∀ (m j : Nat), j + m = N → ∀ (zs : Nat → sZ) (a : Int32) (g1 : hG), qf D g g1 → tct x g1 zs → v_calm x m (x.2.2.2.2.2 + j) zs a = V → hwi (d + 7) zm_X7_calm k X 15 [(0, .ref 1000), (1, .int (nI N)), (2, .int a), (3, .int (nI j))] g1 e := by
    intro m
    induction m with
    | zero =>
      intro j hj zs a g1 q1 t1 h
      exact zh_X7_calm_15 (zbr_t (nI_le (by omega) (by omega)) (oc_l (H g1 q1) (hv.trans (by rw [← h]; rfl))))
    | succ m ih =>
      intro j hj zs a g1 q1 t1 h
      refine zh_X7_calm_15 (zbr_f (nI_ge (by omega) (by omega)) (c_passAll (cdr_qf q1 hc) t1 (by omega) (fun g2 q2 t2 => ?_)))
      rw [nI_1]
      unfold v_calm at h
      refine ⟨fun c => ?_, fun c => ?_⟩
      · rw [if_pos c] at h; exact ih (j + 1) (by omega) _ _ g2 (q1.trans q2) t2 h
      · rw [if_neg c] at h; exact ih (j + 1) (by omega) _ _ g2 (q1.trans q2) t2 h
  exact this N 0 (by omega) x.2.1 0 g1 q1 t1 hV.symm
theorem cq_worst (hc : cdr g D x) (hr : hrm e) {n w : Int32} (H : ∀ g', qf D g g' → oc (o_worst x n w) k X g' e) : hci (d + 8) 168 [.ref 1000, .int n, .int w] g e k X := by
  refine zh_X7_worst (c_checkWhat hr (n := 2) (by omega) (fun ww hj hw => ?_) (fun h => oc_r (H g qf.refl) (by unfold o_worst; rw [iszb_f (by omega) h]; rfl)))
  subst hw
  refine c_checkRange hr (a := 1) (b := 60) (by omega) (by omega) (fun N hN1 hN hn => ?_) (fun h => oc_r (H g qf.refl) (by unfold o_worst; rw [iszb_t (by omega) hj, isrb_f (by omega) (by omega) h]; rfl))
  subst hn
  have hv : o_worst x (nI N) (nI ww) = .inl (v_worst x ww N 0 x.2.2.2.2.2 x.2.1 (-1) 0) := by
    unfold o_worst
    rw [iszb_t (by omega) hj, isrb_t (by omega) hN1 hN, nI_clamp (by omega), nI_clamp (by omega)]
    rfl
  obtain ⟨V, hV⟩ : ∃ V, V = v_worst x ww N 0 x.2.2.2.2.2 x.2.1 (-1) 0 := ⟨_, rfl⟩
  rw [← hV] at hv
  refine c_tryAll hc hr (fun g1 q1 t1 => ?_)
  have : ∀ (m j : Nat), j + m = N → ∀ (zs : Nat → sZ) (a b : Int32) (g1 : hG), qf D g g1 → tct x g1 zs → v_worst x ww m j (x.2.2.2.2.2 + j) zs a b = V → hwi (d + 7) zm_X7_worst k X 24 [(0, .ref 1000), (1, .int (nI N)), (2, .int (nI ww)), (3, .int a), (4, .int b), (5, .int (nI j))] g1 e := by
    intro m
    induction m with
    | zero =>
      intro j hj zs a b g1 q1 t1 h
      unfold v_worst at h
      refine zh_X7_worst_24 (zbr_t (nI_le (by omega) (by omega)) ⟨fun c => ?_, fun c => ?_⟩)
      · exact oc_l (H g1 q1) (hv.trans (by rw [← h, if_pos ((nI_eq (b := 0) (by omega) (by omega)).mp c)]))
      · exact oc_l (H g1 q1) (hv.trans (by rw [← h, if_neg (fun z => c (by rw [z]; rfl))]))
    | succ m ih =>
      intro j hj zs a b g1 q1 t1 h
      refine zh_X7_worst_24 (zbr_f (nI_ge (by omega) (by omega)) (c_passAll (cdr_qf q1 hc) t1 (by omega) (fun g2 q2 t2 => ?_)))
      rw [nI_1]
      unfold v_worst at h
      refine ⟨fun c => ?_, fun c => ?_⟩
      · rw [if_pos c] at h; exact ih (j + 1) (by omega) _ _ _ g2 (q1.trans q2) t2 h
      · rw [if_neg c] at h; exact ih (j + 1) (by omega) _ _ _ g2 (q1.trans q2) t2 h
  exact this N 0 (by omega) x.2.1 (-1) 0 g1 q1 t1 hV.symm
end
