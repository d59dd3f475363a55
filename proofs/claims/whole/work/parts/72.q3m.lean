theorem jbc_le {C : Int32} (h : ∃ v, v < 65536 ∧ C = nI v) : ∃ v, v ≤ 63 ∧ jbc C = nI v := by
  obtain ⟨v, hv, rfl⟩ := h
  exact ⟨jn v, land_le2 _ _, jbc_C hv⟩
theorem xsum_nI {F : Nat → Int32} : ∀ {n : Nat}, (∀ i, i < n → ∃ v, v ≤ 63 ∧ F i = nI v) → ∃ v, v ≤ 63 * n ∧ xsum F n = nI v
  | 0, _ => ⟨0, by omega, rfl⟩
  | n + 1, h => by
    obtain ⟨v, hv, e⟩ := xsum_nI (F := F) (n := n) (fun i hi => h i (by omega))
    obtain ⟨w, hw, e2⟩ := h n (by omega)
    exact ⟨v + w, by omega, by show xsum F n + F n = _; rw [e, e2, nI_add]⟩
section
variable {d : Nat} {k : Int32 → hG → hE → Prop} {kv : hG → hE → Prop} {X : Nat → hG → hE → Prop} {g g0 g1 : hG} {e : hE} {x : sX} {f : Nat → Int32} {zs : Nat → sZ} {t : Nat}
theorem sim_day {st : Int32} (hs : sim g0 x f g1 zs t) (ht : t < 2000) (H : ∀ g2, sim g0 x f g2 (fun z => (sday x.2.2.2.1 x.2.2.2.2.1 st (nI t) (zs z)).1) (t + 1) → (∀ z, z < x.1 → g2.1 1067 z = (sday x.2.2.2.1 x.2.2.2.2.1 st (nI t) (zs z)).2.1) → kv g2 e) : hcv (d + 5) 264 [.ref 1046, .int st] g1 e kv X := by
  obtain ⟨a, ⟨b1, b2, b3⟩, c1, c2, c3, c4, c5⟩ := hs
  refine cm_aDayOf c1 c2 (fun g2 f2 m2 t2 => ?_)
  rw [c4] at m2 t2
  refine H g2 ⟨a, ⟨b1.trans (f2.sub (by decide) (by decide)), by rw [f2.1 1070 (by decide) (by decide)]; exact b2, by rw [f2.2.1 4 (by decide)]; exact b3⟩, ms_mx f2 (by decide) c1 m2 (fun z hz => sok_day (c1.2 z hz).2), mrls_fr f2 (by decide) (by decide) (by decide) c2, mst_fr f2 (by decide) (by decide) c3, by rw [t2, nI_1], by omega⟩ (fun z hz => (m2 z hz).2.1)
/-- one zip's closed places are others -/
theorem sim_clr {i p : Nat} (hs : sim g0 x f g1 zs t) (hi : i < x.1) (hp : p < 32) : sim g0 x f (sI g1 1063 i ((g1.1 1063 i) &&& ((1 <<< ((nI p) &&& 31)) ^^^ (-1)))) (va_up zs i (sopen (zs i) p)) t := by
  obtain ⟨a, ⟨b1, b2, b3⟩, c1, c2, c3, c4, c5⟩ := hs
  refine ⟨a, ⟨b1.I (by decide) (by decide), b2, b3⟩, ⟨c1.1, fun z hz => ?_⟩, c2, c3, c4, c5⟩
  by_cases c : z = i
  · subst c
    rw [va_up_at]
    obtain ⟨h1, h2, h3, h4, h5, h6⟩ := (c1.2 z hz).1
    refine ⟨⟨h1, h2, h3, h4, ?_, h6⟩, sok_open (c1.2 z hz).2 hp⟩
    show upd (g1.1 1063) z _ z = _
    rw [upd_at, h5]
    rfl
  · rw [va_up_off _ _ c]
    obtain ⟨h1, h2, h3, h4, h5, h6⟩ := (c1.2 z hz).1
    refine ⟨⟨h1, h2, h3, h4, ?_, h6⟩, (c1.2 z hz).2⟩
    show upd (g1.1 1063) i _ z = _
    rw [upd_off _ _ c]
    exact h5
theorem mq_tear (hm : mdr g x) {v p st : Int32} (H : ∀ g' u, fr qL qF g g' → mdr g' x → om c12 (o_tear x v p st) u g' → k u g' e) : hci (d + 8) 299 [.ref 1046, .int v, .int p, .int st] g e k X := by
  have h4 := hm.1.1.2
  have ht := hm.2.2.2.2
  have hm0 : mdr (sI g 1046 4 0) x := mdr_code hm
  refine zh_X8_tear (cm_isPlace hm0.1 (fun i hi hv j hj hp => zbr_f (by decide) ?_) (fun h => zbr_t rfl (cm_failQ (cd := c12) (n := 1) hm0 fr_code (by unfold o_tear; rw [iszb_f (by omega) h]; rfl) H)) (fun i hi hv h => zbr_t rfl (cm_failQ (cd := c12) (n := 1) hm0 fr_code ?_ H)))
  case refine_2 =>
    subst hv
    have := (hm0.1.2 i hi).2.1.2
    unfold o_tear
    rw [nI_clamp (by omega), iszb_f (by omega) h, Bool.and_false]
    rfl
  subst hv
  subst hp
  have h16 := (hm0.1.2 i hi).2.1.2
  have ei : (nI i).toNatClampNeg = i := nI_clamp (by omega)
  have hi4 : hin (nI i) 4 := nI_in (by omega) (by omega)
  have hzw : (iszb x.1 (nI i) && iszb (x.2.1 i).1 (nI j)) = true := by rw [iszb_t (by omega) hi, iszb_t (by omega) hj]; rfl
  refine cm_isInR (a := 0) (b := 99) (by omega) (by omega) (by decide) (by decide) (fun N _ hN hn => zbr_f (by decide) ?_) (fun h => zbr_t rfl (cm_failQ (cd := c12) (n := 0) hm0 fr_code (by unfold o_tear; rw [ei, hzw, isrb_f (by omega) (by omega) h]; rfl) H))
  subst hn
  have hv : o_tear x (nI i) (nI j) (nI N) = .inl (sday x.2.2.2.1 x.2.2.2.2.1 (nI N) (nI x.2.2.2.2.2) (sopen (x.2.1 i) j)).2.1 := by
    unfold o_tear
    rw [ei, hzw, isrb_t (by omega) (by omega) hN, nI_clamp (by omega)]
    rfl
  have HK := mqk_in hv H
  refine sim_begin hm0 code_at (fun f s0 => ⟨hi4, hi4, ?_⟩)
  rw [ei]
  refine sim_day (sim_clr s0 hi (by omega)) (by omega) (fun g2 s2 b2 => sim_end s2 (fun g' f' m' c' u' => ⟨hi4, ?_⟩))
  have := b2 i hi
  rw [va_up_at] at this
  rw [u'.1 1067 (by decide) (by decide), this]
  exact HK g' f' m' c'
theorem cm_allClosed {nz : Nat} (hm : ms g nz zs) (H : k (xsum (fun i => jbc (zs i).2.2.2.2.1) nz) g e) : hci (d + 2) 257 [.ref 1046] g e k X := by
  have h4 := hm.1.2
  refine zh_X8_allClosed ?_
  refine hdown (W := fun i => hwi (d + 1) zm_X8_allClosed k X 4 [(0, .ref 1046), (1, .int (xsum (fun i => jbc (zs i).2.2.2.2.1) i)), (2, .int (nI i))] g e) (n := nz) ?_ ?_ 0 (Nat.zero_le _)
  · exact zh_X8_allClosed_4 (zbr_t (by rw [hm.1.1]; exact nI_le (Nat.le_refl _) (by omega)) H)
  · intro i hi W
    rw [nI_succ] at W
    refine zh_X8_allClosed_4 (zbr_f (by rw [hm.1.1]; exact nI_ge hi (by omega)) ⟨nI_in (by omega) (by omega), ?_⟩)
    rw [nI_clamp (by omega), (hm.2 i hi).1.2.2.2.2.1]
    exact cm_bitsC (sok_C (hm.2 i hi).2) W
theorem xbest_in {F : Nat → Int32} : ∀ {i : Nat}, (∀ j, j < i → ∃ v, v ≤ 63 ∧ F j = nI v) → 0 < i → ∃ b, b < i ∧ (xbest F i).1 = nI b ∧ (xbest F i).2 = F b
  | 0, _, h => absurd h (by omega)
  | i + 1, hF, _ => by
    unfold xbest
    by_cases h0 : i = 0
    · subst h0
      obtain ⟨v, hv, e⟩ := hF 0 (by omega)
      rw [if_neg (show ¬ F 0 ≤ (xbest F 0).2 by rw [e]; exact nnle (c := 1) (by omega) (by omega) (by omega))]
      exact ⟨0, by omega, rfl, rfl⟩
    · obtain ⟨b, h1, h2, h3⟩ := xbest_in (F := F) (i := i) (fun j hj => hF j (by omega)) (by omega)
      split
      · exact ⟨b, by omega, h2, h3⟩
      · exact ⟨i, by omega, rfl, rfl⟩
theorem cm_bestZip {nz : Nat} (hm : ms g nz zs) (H : k (xbest (fun i => jbc (zs i).2.2.2.2.1) nz).1 g e) : hci (d + 2) 291 [.ref 1046] g e k X := by
  have h4 := hm.1.2
  obtain ⟨F, hF0⟩ : ∃ F : Nat → Int32, F = (fun i => jbc (zs i).2.2.2.2.1) := ⟨_, rfl⟩
  have eF : ∀ i, jbc (zs i).2.2.2.2.1 = F i := fun i => by rw [hF0]
  rw [← hF0] at H
  have hF : ∀ j, j < nz → ∃ v, v ≤ 63 ∧ F j = nI v := fun j hj => by rw [← eF]; exact jbc_le (sok_C (hm.2 j hj).2)
  refine zh_X8_bestZip ?_
  refine hdown (W := fun i => hwi (d + 1) zm_X8_bestZip k X 4 [(0, .ref 1046), (1, .int (xbest F i).1), (2, .int (nI i))] g e) (n := nz) ?_ ?_ 0 (Nat.zero_le _)
  · exact zh_X8_bestZip_4 (zbr_t (by rw [hm.1.1]; exact nI_le (Nat.le_refl _) (by omega)) H)
  · intro i hi W
    rw [nI_succ] at W
    refine zh_X8_bestZip_4 (zbr_f (by rw [hm.1.1]; exact nI_ge hi (by omega)) ?_)
    have es : xbest F (i + 1) = if F i ≤ (xbest F i).2 then xbest F i else (nI i, F i) := rfl
    rw [es] at W
    by_cases h0 : i = 0
    · subst h0
      obtain ⟨v, hv, e⟩ := hF 0 hi
      rw [if_neg (show ¬ F 0 ≤ (xbest F 0).2 by rw [e]; exact nnle (c := 1) (by omega) (by omega) (by omega))] at W
      exact zbr_t rfl W
    · obtain ⟨b, h1, h2, h3⟩ := xbest_in (F := F) (i := i) (fun j hj => hF j (by omega)) (by omega)
      rw [h3] at W
      rw [h2]
      refine zbr_f (nI_m1 (by omega)) ⟨nI_in (by omega) (by omega), ?_⟩
      rw [nI_clamp (by omega), (hm.2 i hi).1.2.2.2.2.1]
      refine cm_bitsC (sok_C (hm.2 i hi).2) ⟨nI_in (by omega) (by omega), ?_⟩
      rw [nI_clamp (by omega), (hm.2 b (by omega)).1.2.2.2.2.1]
      refine cm_bitsC (sok_C (hm.2 b (by omega)).2) ?_
      rw [eF, eF]
      refine ⟨fun c => ?_, fun c => ?_⟩
      · rw [if_pos c, h2] at W
        exact W
      · rw [if_neg c] at W
        exact W
theorem mq_later (hm : mdr g x) {n w : Int32} (H : ∀ g' u, fr qL qF g g' → mdr g' x → om c12 (o_later x n w) u g' → k u g' e) : hci (d + 8) 292 [.ref 1046, .int n, .int w] g e k X := by
  have ht := hm.2.2.2.2
  have hm0 : mdr (sI g 1046 4 0) x := mdr_code hm
  refine zh_X8_later (cm_isInR (a := 0) (b := 1) (by omega) (by omega) (by decide) (by decide) (fun j _ hj hw => zbr_f (by decide) ?_) (fun h => zbr_t rfl (cm_failQ (cd := c12) (n := 1) hm0 fr_code (by
    unfold o_later
    rw [iszb_f (n := 2) (by omega) (fun z => h (by obtain ⟨i, hi, e⟩ := z; exact ⟨i, by omega, by omega, e⟩))]
    rfl) H)))
  subst hw
  refine cm_isInR (a := 0) (b := 60) (by omega) (by omega) (by decide) (by decide) (fun N _ hN hn => zbr_f (by decide) ?_) (fun h => zbr_t rfl (cm_failQ (cd := c12) (n := 0) hm0 fr_code (by unfold o_later; rw [iszb_t (by omega) (by omega), isrb_f (by omega) (by omega) h]; rfl) H))
  subst hn
  have hv : o_later x (nI N) (nI j) = .inl (v_later x N j) := by
    unfold o_later
    rw [iszb_t (by omega) (by omega), isrb_t (by omega) (by omega) hN, nI_clamp (by omega), nI_clamp (by omega)]
    rfl
  have HK := mqk_in hv H
  refine sim_begin hm0 code_at (fun f s0 => sim_goOn s0 (by omega) (fun g2 s2 _ _ => ⟨fun c => cm_allClosed s2.2.2.1 (sim_ret s2 ?_), fun c => cm_bestZip s2.2.2.1 (sim_ret s2 ?_)⟩))
  · unfold v_later at HK
    rw [if_pos ((nI_eq (b := 0) (by omega) (by omega)).mp c)] at HK
    exact HK
  · unfold v_later at HK
    rw [if_neg (fun z => c (by rw [z]; rfl))] at HK
    exact HK
theorem cm_burstsToday {nz : Nat} {F : Nat → Int32} (hz : g.1 1050 0 = nI nz) (h4 : nz ≤ 4) (hF : ∀ i, i < nz → g.1 1067 i = F i ∧ ∃ v, v < 65536 ∧ F i = nI v) (H : k (xsum (fun i => jbc (F i)) nz) g e) : hci (d + 2) 267 [.ref 1046] g e k X := by
  refine zh_X8_burstsToday ?_
  refine hdown (W := fun i => hwi (d + 1) zm_X8_burstsToday k X 4 [(0, .ref 1046), (1, .int (xsum (fun i => jbc (F i)) i)), (2, .int (nI i))] g e) (n := nz) ?_ ?_ 0 (Nat.zero_le _)
  · exact zh_X8_burstsToday_4 (zbr_t (by rw [hz]; exact nI_le (Nat.le_refl _) (by omega)) H)
  · intro i hi W
    rw [nI_succ] at W
    refine zh_X8_burstsToday_4 (zbr_f (by rw [hz]; exact nI_ge hi (by omega)) ⟨nI_in (by omega) (by omega), ?_⟩)
    rw [nI_clamp (by omega), (hF i hi).1]
    exact cm_bitsC (hF i hi).2 W
theorem sim_bt {g2 : hG} (hs : sim g0 x f g1 zs t) (h2 : sim g0 x f g2 (fun z => (xd x t (zs z)).1) (t + 1)) (hb : ∀ z, z < x.1 → g2.1 1067 z = (xd x t (zs z)).2.1 ∧ g2.1 1068 z = (xd x t (zs z)).2.2.1 ∧ g2.1 1069 z = g1.1 1069 z + jbc (xd x t (zs z)).2.1) (H : k (xtb x t zs) g2 e) : hci (d + 2) 267 [.ref 1046] g2 e k X :=
  cm_burstsToday h2.2.2.1.1.1 h2.2.2.1.1.2 (fun i hi => ⟨(hb i hi).1, burst_C (hs.2.2.1.2 i hi).2⟩) H
theorem mq_calm (hm : mdr g x) {n : Int32} (H : ∀ g' u, fr qL qF g g' → mdr g' x → om c01 (o_calm x n) u g' → k u g' e) : hci (d + 8) 296 [.ref 1046, .int n] g e k X := by
  have ht := hm.2.2.2.2
  have hm0 : mdr (sI g 1046 4 0) x := mdr_code hm
  refine zh_X8_calm (cm_isInR (a := 1) (b := 60) (by omega) (by omega) (by decide) (by decide) (fun N hN1 hN hn => zbr_f (by decide) ?_) (fun h => zbr_t rfl (cm_failQ (cd := c01) (n := 0) hm0 fr_code (by unfold o_calm; rw [isrb_f (by omega) (by omega) h]; rfl) H)))
  subst hn
  have hv : o_calm x (nI N) = .inl (v_calm x N x.2.2.2.2.2 x.2.1 0) := by
    unfold o_calm
    rw [isrb_t (by omega) hN1 hN, nI_clamp (by omega)]
    rfl
  have HK := mqk_in hv H
  obtain ⟨V, hV⟩ : ∃ V, V = v_calm x N x.2.2.2.2.2 x.2.1 0 := ⟨_, rfl⟩
  rw [← hV] at HK
  refine sim_begin hm0 code_at (fun f s0 => ?_)
  have : ∀ (m q : Nat), q + m = N → ∀ (zs : Nat → sZ) (a : Int32) (g1 : hG), sim (sI g 1046 4 0) x f g1 zs (x.2.2.2.2.2 + q) → v_calm x m (x.2.2.2.2.2 + q) zs a = V → hwi (d + 7) zm_X8_calm k X 36 [(0, .ref 1046), (1, .int (nI N)), (2, .int a), (3, .int (nI q))] g1 e := by
    intro m
    induction m with
    | zero =>
      intro q hq zs a g1 s1 h
      refine zh_X8_calm_36 (zbr_t (nI_le (by omega) (by omega)) (sim_ret s1 ?_))
      rw [show V = a from h.symm] at HK
      exact HK
    | succ m ih =>
      intro q hq zs a g1 s1 h
      refine zh_X8_calm_36 (zbr_f (nI_ge (by omega) (by omega)) (sim_go1 s1 (by omega) (fun g2 s2 b2 _ => sim_bt s1 s2 b2 ?_)))
      rw [nI_1]
      unfold v_calm at h
      refine ⟨fun c => ?_, fun c => ?_⟩
      · rw [if_pos c] at h; exact ih (q + 1) (by omega) _ _ g2 s2 h
      · rw [if_neg c] at h
        rw [Int32.add_zero]
        exact ih (q + 1) (by omega) _ _ g2 s2 h
  exact this N 0 (by omega) x.2.1 0 _ s0 hV.symm
theorem xtb_ge (hs : ∀ i, i < x.1 → sok (zs i)) (h4 : x.1 ≤ 4) : ¬ xtb x t zs ≤ -1 := by
  obtain ⟨v, hv, e⟩ := xsum_nI (F := fun i => jbc (xd x t (zs i)).2.1) (n := x.1) (fun i hi => jbc_le (burst_C (hs i hi)))
  unfold xtb
  rw [e]
  exact nnle (c := 1) (by omega) (by omega) (by omega)
theorem mq_worst (hm : mdr g x) {n w : Int32} (H : ∀ g' u, fr qL qF g g' → mdr g' x → om c12 (o_worst x n w) u g' → k u g' e) : hci (d + 8) 297 [.ref 1046, .int n, .int w] g e k X := by
  have ht := hm.2.2.2.2
  have h4 := hm.1.1.2
  have hm0 : mdr (sI g 1046 4 0) x := mdr_code hm
  refine zh_X8_worst (cm_isInR (a := 0) (b := 1) (by omega) (by omega) (by decide) (by decide) (fun j _ hj hw => zbr_f (by decide) ?_) (fun h => zbr_t rfl (cm_failQ (cd := c12) (n := 1) hm0 fr_code (by
    unfold o_worst
    rw [iszb_f (n := 2) (by omega) (fun z => h (by obtain ⟨i, hi, e⟩ := z; exact ⟨i, by omega, by omega, e⟩))]
    rfl) H)))
  subst hw
  refine cm_isInR (a := 1) (b := 60) (by omega) (by omega) (by decide) (by decide) (fun N hN1 hN hn => zbr_f (by decide) ?_) (fun h => zbr_t rfl (cm_failQ (cd := c12) (n := 0) hm0 fr_code (by unfold o_worst; rw [iszb_t (by omega) (by omega), isrb_f (by omega) (by omega) h]; rfl) H))
  subst hn
  have e0 : v_worst x j N 0 x.2.2.2.2.2 x.2.1 (-1) 0 = v_worst x j N 0 x.2.2.2.2.2 x.2.1 (-1) (-1) := by
    cases N with
    | zero => omega
    | succ N =>
      unfold v_worst
      rw [if_neg (xtb_ge (fun i hi => (hm.1.2 i hi).2) h4), if_neg (xtb_ge (fun i hi => (hm.1.2 i hi).2) h4)]
  have hv : o_worst x (nI N) (nI j) = .inl (v_worst x j N 0 x.2.2.2.2.2 x.2.1 (-1) (-1)) := by
    unfold o_worst
    rw [iszb_t (by omega) (by omega), isrb_t (by omega) hN1 hN, nI_clamp (by omega), nI_clamp (by omega), e0]
    rfl
  have HK := mqk_in hv H
  obtain ⟨V, hV⟩ : ∃ V, V = v_worst x j N 0 x.2.2.2.2.2 x.2.1 (-1) (-1) := ⟨_, rfl⟩
  rw [← hV] at HK
  refine sim_begin hm0 code_at (fun f s0 => ?_)
  have : ∀ (m q : Nat), q + m = N → ∀ (zs : Nat → sZ) (a b : Int32) (g1 : hG), sim (sI g 1046 4 0) x f g1 zs (x.2.2.2.2.2 + q) → v_worst x j m q (x.2.2.2.2.2 + q) zs a b = V → hwi (d + 7) zm_X8_worst k X 56 [(0, .ref 1046), (1, .int (nI N)), (2, .int (nI j)), (3, .int b), (4, .int a), (5, .int (nI (q + 1)))] g1 e := by
    intro m
    induction m with
    | zero =>
      intro q hq zs a b g1 s1 h
      unfold v_worst at h
      refine zh_X8_worst_56 (zbr_t (nI_lt (by omega) (by omega)) (sim_end s1 (fun g' f' m' c' _ => ?_)))
      have := HK g' f' m' c'
      rw [← h] at this
      refine ⟨fun c => ?_, fun c => ?_⟩
      · rw [if_pos ((nI_eq (b := 0) (by omega) (by omega)).mp c)] at this; exact this
      · rw [if_neg (fun z => c (by rw [z]; rfl))] at this; exact this
    | succ m ih =>
      intro q hq zs a b g1 s1 h
      refine zh_X8_worst_56 (zbr_f (nI_nlt (by omega) (by omega)) (sim_go1 s1 (by omega) (fun g2 s2 b2 _ => sim_bt s1 s2 b2 ?_)))
      rw [nI_1]
      unfold v_worst at h
      refine ⟨fun c => sim_bt s1 s2 b2 ?_, fun c => ?_⟩
      · rw [if_neg (Int32.not_le.mpr c)] at h; exact ih (q + 1) (by omega) _ _ _ g2 s2 h
      · rw [if_pos (Int32.not_lt.mp c)] at h; exact ih (q + 1) (by omega) _ _ _ g2 s2 h
  exact this N 0 (by omega) x.2.1 (-1) (-1) _ s0 hV.symm
end
