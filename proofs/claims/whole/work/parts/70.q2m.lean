/-- what burst first has a place -/
def sfi (x : sD) : Prop := ¬ x.2.1 = 0 → ∃ p, p < 16 ∧ x.2.2.1 = nI p
section
variable {pl wl : List tk} {st day : Int32}
theorem sfi_step {x : sD} {p : Nat} (hp : p < 16) (h : sfi x) : sfi (sstep pl wl st day x p) := by
  unfold sstep
  split
  · intro _
    show ∃ q, q < 16 ∧ (if x.2.1 = 0 then nI p else x.2.2.1) = nI q
    by_cases c : x.2.1 = 0
    · rw [if_pos c]; exact ⟨p, hp, rfl⟩
    · rw [if_neg c]; exact h c
  · exact h
theorem sfi_rnd {x : sD} (h : sfi x) : ∀ p, p ≤ 16 → sfi (srnd pl wl st day x p)
  | 0, _ => h
  | p + 1, hp => sfi_step (by omega) (sfi_rnd h p (by omega))
theorem sfi_dk : ∀ (k : Nat) (x : sD), x.1.1 ≤ 16 → sfi x → sfi (sdk pl wl st day k x)
  | 0, x, _, h => h
  | k + 1, x, hn, h => by
    unfold sdk
    split
    · exact sfi_dk k _ (by rw [srnd_n]; exact hn) (sfi_rnd h _ hn)
    · exact sfi_rnd h _ hn
theorem sfi_day {s : sZ} (h : s.1 ≤ 16) (hb : ¬ (sday pl wl st day s).2.1 = 0) : ∃ p, p < 16 ∧ (sday pl wl st day s).2.2.1 = nI p := sfi_dk 17 (s, 0, -1, false) h (fun z => absurd rfl z) hb
end
theorem nI_m1 {v : Nat} (h : v < 2 ^ 31) : ¬ nI v = -1 := nneg (c := 1) h (by omega) (by omega)
section
variable {d : Nat} {k : Int32 → hG → hE → Prop} {kv : hG → hE → Prop} {X : Nat → hG → hE → Prop} {g : hG} {e : hE} {x : sX}
/-- how a question of the model ends -/
def mqk (g : hG) (x : sX) (e : hE) (k : Int32 → hG → hE → Prop) (u : Int32) : Prop := ∀ g', fr qL qF g g' → mdr g' x → g'.1 1046 4 = 0 → k u g' e
theorem sim_ret {f : Nat → Int32} {g1 : hG} {zs : Nat → sZ} {t : Nat} {u : Int32} (hs : sim g x f g1 zs t) (H : mqk g x e k u) : hcv (d + 1) 250 [.ref 1046, .ref 1070, .int 0] g1 e (fun g1 e2 => k u g1 e2) X := sim_end hs (fun g' f' m' c' _ => H g' f' m' c')
theorem cm_fb {i : Nat} (hi : i < x.1) {w : Nat} (hw : w < 2) (hm : mdr g x) (hc : g.1 1046 4 = 0) (H : mqk g x e k (v_fb x w 60 0 x.2.2.2.2.2 (x.2.1 i))) : hci (d + 7) 287 [.ref 1046, .int (nI i), .int (nI w)] g e k X := by
  have h4 := hm.1.1.2
  have ht := hm.2.2.2.2
  have ei : (nI i).toNatClampNeg = i := nI_clamp (by omega)
  have hi4 : hin (nI i) 4 := nI_in (by omega) (by omega)
  obtain ⟨V, hV⟩ : ∃ V, V = v_fb x w 60 0 x.2.2.2.2.2 (x.2.1 i) := ⟨_, rfl⟩
  rw [← hV] at H
  refine zh_X8_firstBurst (sim_begin hm hc (fun f s0 => ?_))
  have done : ∀ (j : Nat) (g1 : hG) (zs : Nat → sZ) (t : Nat), j < 2 ^ 30 → sim g x f g1 zs t → ¬ V = -1 → hwi (d + 6) zm_X8_firstBurst k X 14 [(0, .ref 1046), (1, .int (nI i)), (2, .int (nI w)), (3, .int V), (4, .int (nI j))] g1 e := by
    intro j g1 zs t hj s1 hV1
    exact zh_X8_firstBurst_14 ⟨fun c => sim_ret s1 H, fun c => zbr_f hV1 (sim_ret s1 H)⟩
  have : ∀ (m j : Nat), j + m = 60 → ∀ (zs : Nat → sZ) (g1 : hG), sim g x f g1 zs (x.2.2.2.2.2 + j) → v_fb x w m j (x.2.2.2.2.2 + j) (zs i) = V → hwi (d + 6) zm_X8_firstBurst k X 14 [(0, .ref 1046), (1, .int (nI i)), (2, .int (nI w)), (3, .int (-1)), (4, .int (nI (j + 1)))] g1 e := by
    intro m
    induction m with
    | zero =>
      intro j hj zs g1 s1 h
      refine zh_X8_firstBurst_14 (zbr_t (by rw [show (60 : Int32) = nI 60 from rfl]; exact nI_lt (by omega) (by omega)) (sim_ret s1 ?_))
      rw [show V = -1 from h.symm] at H
      exact H
    | succ m ih =>
      intro j hj zs g1 s1 h
      refine zh_X8_firstBurst_14 (zbr_f (by rw [show (60 : Int32) = nI 60 from rfl]; exact nI_nlt (by omega) (by omega)) (zbr_t rfl (sim_go1 s1 (by omega) (fun g2 s2 b2 _ => ⟨hi4, ?_⟩))))
      have hsz := (s1.2.2.1.2 i hi).2
      rw [ei, (b2 i hi).1, (b2 i hi).2.1, nI_1]
      unfold v_fb at h
      refine ⟨fun c => ?_, fun c => ⟨fun c2 => ?_, fun c2 => ⟨hi4, ?_⟩⟩⟩
      · rw [if_pos c] at h
        exact ih (j + 1) (by omega) _ g2 s2 h
      · rw [if_neg c, if_pos ((nI_eq (b := 0) (by omega) (by omega)).mp c2)] at h
        rw [h]
        exact done _ g2 _ _ (by omega) s2 (by rw [← h]; exact nI_m1 (by omega))
      · rw [if_neg c, if_neg (fun z => c2 (by rw [z]; rfl))] at h
        rw [h]
        refine done _ g2 _ _ (by omega) s2 ?_
        rw [← h]
        obtain ⟨p, hp, e⟩ := sfi_day hsz.1.2 c
        rw [show (xd x (x.2.2.2.2.2 + j) (zs i)).2.2.1 = nI p from e]
        exact nI_m1 (by omega)
  exact this 60 0 (by omega) x.2.1 _ s0 hV.symm
theorem cm_gn {i : Nat} (hi : i < x.1) (hm : mdr g x) (hc : g.1 1046 4 = 0) (H : mqk g x e k (v_gn x 61 0 x.2.2.2.2.2 (x.2.1 i))) : hci (d + 7) 288 [.ref 1046, .int (nI i)] g e k X := by
  have h4 := hm.1.1.2
  have ht := hm.2.2.2.2
  have ei : (nI i).toNatClampNeg = i := nI_clamp (by omega)
  have hi4 : hin (nI i) 4 := nI_in (by omega) (by omega)
  obtain ⟨V, hV⟩ : ∃ V, V = v_gn x 61 0 x.2.2.2.2.2 (x.2.1 i) := ⟨_, rfl⟩
  rw [← hV] at H
  refine zh_X8_goneIn (sim_begin hm hc (fun f s0 => ?_))
  have : ∀ (m j : Nat), j + m = 61 → ∀ (zs : Nat → sZ) (g1 : hG), sim g x f g1 zs (x.2.2.2.2.2 + j) → v_gn x m j (x.2.2.2.2.2 + j) (zs i) = V → hwi (d + 6) zm_X8_goneIn k X 13 [(0, .ref 1046), (1, .int (nI i)), (2, .int (-1)), (3, .int (nI j))] g1 e := by
    intro m
    induction m with
    | zero =>
      intro j hj zs g1 s1 h
      refine zh_X8_goneIn_13 (zbr_t (by rw [show (60 : Int32) = nI 60 from rfl]; exact nI_lt (by omega) (by omega)) (sim_ret s1 ?_))
      rw [show V = -1 from h.symm] at H
      exact H
    | succ m ih =>
      intro j hj zs g1 s1 h
      refine zh_X8_goneIn_13 (zbr_f (by rw [show (60 : Int32) = nI 60 from rfl]; exact nI_nlt (by omega) (by omega)) (zbr_t rfl ⟨hi4, ?_⟩))
      rw [ei, (s1.2.2.1.2 i hi).1.2.2.2.2.1, nI_1]
      unfold v_gn at h
      refine ⟨fun c => sim_go1 s1 (by omega) (fun g2 s2 b2 _ => ?_), fun c => sim_go1 s1 (by omega) (fun g2 s2 b2 _ => ?_)⟩
      · rw [if_pos c] at h
        rw [h]
        have hV1 : ¬ V = -1 := by rw [← h]; exact nI_m1 (by omega)
        exact zh_X8_goneIn_13 ⟨fun c => sim_ret s2 H, fun c => zbr_f hV1 (sim_ret s2 H)⟩
      · rw [if_neg c] at h
        exact ih (j + 1) (by omega) _ g2 s2 h
  exact this 61 0 (by omega) x.2.1 _ s0 hV.symm
theorem mqk_in {u : Int32} {r : rs} {cd : Nat → Int32} (hr : r = .inl u) (H : ∀ g' u, fr qL qF g g' → mdr g' x → om cd r u g' → k u g' e) : mqk (sI g 1046 4 0) x e k u := fun g' f' m' c' => H g' u (fr_code.trans f') m' (om_l hr c')
theorem mq_when (hm : mdr g x) {v w : Int32} (H : ∀ g' u, fr qL qF g g' → mdr g' x → om c12 (o_when x v w) u g' → k u g' e) : hci (d + 8) 289 [.ref 1046, .int v, .int w] g e k X := by
  have h4 := hm.1.1.2
  have hm0 : mdr (sI g 1046 4 0) x := mdr_code hm
  refine zh_X8_when (cm_isZip hm0.1.1.1 h4 (fun i hi hv => zbr_f (by decide) ?_) (fun h => zbr_t rfl (cm_failQ (cd := c12) (n := 1) hm0 fr_code (by unfold o_when; rw [iszb_f (by omega) h]; rfl) H)))
  subst hv
  refine cm_isInR (a := 0) (b := 2) (by omega) (by omega) (by decide) (by decide) (fun j _ hj hw => zbr_f (by decide) ?_) (fun h => zbr_t rfl (cm_failQ (cd := c12) (n := 1) hm0 fr_code (by
    unfold o_when
    rw [iszb_f (n := 3) (by omega) (fun z => h (by obtain ⟨i, hi, e⟩ := z; exact ⟨i, by omega, by omega, e⟩)), Bool.and_false]
    rfl) H))
  subst hw
  have hv : o_when x (nI i) (nI j) = .inl (v_when x i j) := by
    unfold o_when
    rw [iszb_t (by omega) hi, iszb_t (by omega) (by omega), nI_clamp (by omega), nI_clamp (by omega)]
    rfl
  have HK := mqk_in hv H
  match j, hj with
  | 0, _ => exact zbr_f (by decide) (zbr_f (by decide) (cm_fb (w := 0) hi (by omega) hm0 code_at HK))
  | 1, _ => exact zbr_f (by decide) (zbr_t rfl (cm_fb (w := 1) hi (by omega) hm0 code_at HK))
  | 2, _ => exact zbr_t rfl (cm_gn hi hm0 code_at HK)
  | n + 3, h => exact absurd h (by omega)
theorem mq_bursts (hm : mdr g x) {v p : Int32} (H : ∀ g' u, fr qL qF g g' → mdr g' x → om c12 (o_bursts x v p) u g' → k u g' e) : hci (d + 8) 290 [.ref 1046, .int v, .int p] g e k X := by
  have h4 := hm.1.1.2
  have ht := hm.2.2.2.2
  have hm0 : mdr (sI g 1046 4 0) x := mdr_code hm
  refine zh_X8_bursts (cm_isPlace hm0.1 (fun i hi hv j hj hp => zbr_f (by decide) ?_) (fun h => zbr_t rfl (cm_failQ (cd := c12) (n := 1) hm0 fr_code (by unfold o_bursts; rw [iszb_f (by omega) h]; rfl) H)) (fun i hi hv h => zbr_t rfl (cm_failQ (cd := c12) (n := 1) hm0 fr_code ?_ H)))
  case refine_2 =>
    subst hv
    have := (hm0.1.2 i hi).2.1.2
    unfold o_bursts
    rw [nI_clamp (by omega), iszb_f (by omega) h, Bool.and_false]
    rfl
  subst hv
  subst hp
  have h16 := (hm0.1.2 i hi).2.1.2
  have ei : (nI i).toNatClampNeg = i := nI_clamp (by omega)
  have hi4 : hin (nI i) 4 := nI_in (by omega) (by omega)
  have hv : o_bursts x (nI i) (nI j) = .inl (v_bu x j 60 0 x.2.2.2.2.2 (x.2.1 i)) := by
    unfold o_bursts
    rw [ei, iszb_t (by omega) hi, iszb_t (by omega) hj, nI_clamp (by omega)]
    rfl
  have HK := mqk_in hv H
  obtain ⟨V, hV⟩ : ∃ V, V = v_bu x j 60 0 x.2.2.2.2.2 (x.2.1 i) := ⟨_, rfl⟩
  rw [← hV] at HK
  refine sim_begin hm0 code_at (fun f s0 => ?_)
  have : ∀ (m q : Nat), q + m = 60 → ∀ (zs : Nat → sZ) (g1 : hG), sim (sI g 1046 4 0) x f g1 zs (x.2.2.2.2.2 + q) → v_bu x j m q (x.2.2.2.2.2 + q) (zs i) = V → hwi (d + 7) zm_X8_bursts k X 34 [(0, .ref 1046), (1, .int (nI i)), (2, .int (nI j)), (3, .int (-1)), (4, .int (nI (q + 1)))] g1 e := by
    intro m
    induction m with
    | zero =>
      intro q hq zs g1 s1 h
      refine zh_X8_bursts_34 (zbr_t (by rw [show (60 : Int32) = nI 60 from rfl]; exact nI_lt (by omega) (by omega)) (sim_ret s1 ?_))
      rw [show V = -1 from h.symm] at HK
      exact HK
    | succ m ih =>
      intro q hq zs g1 s1 h
      refine zh_X8_bursts_34 (zbr_f (by rw [show (60 : Int32) = nI 60 from rfl]; exact nI_nlt (by omega) (by omega)) (zbr_t rfl (sim_go1 s1 (by omega) (fun g2 s2 b2 _ => ⟨hi4, ?_⟩))))
      rw [ei, (b2 i hi).1, nI_1]
      refine cm_isOf (by omega) ?_
      unfold v_bu at h
      cases c : bt (xd x (x.2.2.2.2.2 + q) (zs i)).2.1 j with
      | false =>
        rw [if_pos c] at h
        exact zbr_t rfl (ih (q + 1) (by omega) _ g2 s2 h)
      | true =>
        rw [if_neg (by rw [c]; decide)] at h
        refine zbr_f (by decide) ?_
        rw [h]
        have hV1 : ¬ V = -1 := by rw [← h]; exact nI_m1 (by omega)
        exact zh_X8_bursts_34 ⟨fun c => sim_ret s2 HK, fun c => zbr_f hV1 (sim_ret s2 HK)⟩
  exact this 60 0 (by omega) x.2.1 _ s0 hV.symm
theorem burst_C {s : sZ} {t : Nat} (hs : sok s) : ∃ v, v < 65536 ∧ (xd x t s).2.1 = nI v := bits_nI (n := 16) (by omega) (fun p hp => by
  have := (sbo_day (pl := x.2.2.2.1) (wl := x.2.2.2.2.1) (st := nI (sstr x.2.2.1 t)) (day := nI t) hs p hp).1
  have h2 := (sok_day (pl := x.2.2.2.1) (wl := x.2.2.2.2.1) (st := nI (sstr x.2.2.1 t)) (day := nI t) hs).1.2
  omega)
theorem mq_most (hm : mdr g x) {v n : Int32} (H : ∀ g' u, fr qL qF g g' → mdr g' x → om c12 (o_most x v n) u g' → k u g' e) : hci (d + 8) 298 [.ref 1046, .int v, .int n] g e k X := by
  have h4 := hm.1.1.2
  have ht := hm.2.2.2.2
  have hm0 : mdr (sI g 1046 4 0) x := mdr_code hm
  refine zh_X8_most (cm_isZip hm0.1.1.1 h4 (fun i hi hv => zbr_f (by decide) ?_) (fun h => zbr_t rfl (cm_failQ (cd := c12) (n := 1) hm0 fr_code (by unfold o_most; rw [iszb_f (by omega) h]; rfl) H)))
  subst hv
  refine cm_isInR (a := 0) (b := 60) (by omega) (by omega) (by decide) (by decide) (fun N _ hN hn => zbr_f (by decide) ?_) (fun h => zbr_t rfl (cm_failQ (cd := c12) (n := 0) hm0 fr_code (by unfold o_most; rw [iszb_t (by omega) hi, isrb_f (by omega) (by omega) h]; rfl) H))
  subst hn
  have ei : (nI i).toNatClampNeg = i := nI_clamp (by omega)
  have hi4 : hin (nI i) 4 := nI_in (by omega) (by omega)
  have hv : o_most x (nI i) (nI N) = .inl (v_mo x N x.2.2.2.2.2 (x.2.1 i) 0) := by
    unfold o_most
    rw [iszb_t (by omega) hi, isrb_t (by omega) (by omega) hN, ei, nI_clamp (by omega)]
    rfl
  have HK := mqk_in hv H
  obtain ⟨V, hV⟩ : ∃ V, V = v_mo x N x.2.2.2.2.2 (x.2.1 i) 0 := ⟨_, rfl⟩
  rw [← hV] at HK
  refine sim_begin hm0 code_at (fun f s0 => ?_)
  have : ∀ (m q : Nat), q + m = N → ∀ (zs : Nat → sZ) (a : Int32) (g1 : hG), sim (sI g 1046 4 0) x f g1 zs (x.2.2.2.2.2 + q) → v_mo x m (x.2.2.2.2.2 + q) (zs i) a = V → hwi (d + 7) zm_X8_most k X 51 [(0, .ref 1046), (1, .int (nI i)), (2, .int (nI N)), (3, .int a), (4, .int (nI q))] g1 e := by
    intro m
    induction m with
    | zero =>
      intro q hq zs a g1 s1 h
      refine zh_X8_most_51 (zbr_t (nI_le (by omega) (by omega)) (sim_ret s1 ?_))
      rw [show V = a from h.symm] at HK
      exact HK
    | succ m ih =>
      intro q hq zs a g1 s1 h
      refine zh_X8_most_51 (zbr_f (nI_ge (by omega) (by omega)) (sim_go1 s1 (by omega) (fun g2 s2 b2 _ => ⟨hi4, ?_⟩)))
      rw [ei, (b2 i hi).1, nI_1]
      exact cm_bitsC (burst_C (s1.2.2.1.2 i hi).2) (c_max (ih (q + 1) (by omega) _ _ g2 s2 h))
  exact this N 0 (by omega) x.2.1 0 _ s0 hV.symm
/-- the slider to the top, then a day -/
theorem sim_wear {g0 g1 : hG} {f : Nat → Int32} {zs : Nat → sZ} {t i : Nat} (hs : sim g0 x f g1 zs t) (hi : i < x.1) (ht : t < 2000) (H : ∀ g2 zs', sim g0 x f g2 zs' (t + 1) → zs' i = (xd x t (sslide (zs i) (zs i).1)).1 → g2.1 1069 i = g1.1 1069 i + jbc (xd x t (sslide (zs i) (zs i).1)).2.1 → kv g2 e) : hcv (d + 7) 293 [.ref 1046, .int (nI i)] g1 e kv X := by
  have h4 := hs.2.2.1.1.2
  have ei : (nI i).toNatClampNeg = i := nI_clamp (by omega)
  refine zh_X8_wearOn ⟨nI_in (by omega) (by omega), ?_⟩
  rw [ei, (hs.2.2.1.2 i hi).1.1]
  refine sim_slide hs hi (Nat.le_refl _) (fun g2 s2 f2 => sim_go1 s2 ht (fun g3 s3 b3 _ => H g3 _ s3 ?_ ?_))
  · show (xd x t (va_up zs i _ i)).1 = _
    rw [va_up_at]
  · rw [(b3 i hi).2.2, f2.1 1069 (by decide) (by decide), va_up_at]
theorem mq_daily (hm : mdr g x) {v n : Int32} (H : ∀ g' u, fr qL qF g g' → mdr g' x → om c12 (o_daily x v n) u g' → k u g' e) : hci (d + 9) 294 [.ref 1046, .int v, .int n] g e k X := by
  have h4 := hm.1.1.2
  have ht := hm.2.2.2.2
  have hm0 : mdr (sI g 1046 4 0) x := mdr_code hm
  refine zh_X8_daily (cm_isZip hm0.1.1.1 h4 (fun i hi hv => zbr_f (by decide) ?_) (fun h => zbr_t rfl (cm_failQ (cd := c12) (n := 1) hm0 fr_code (by unfold o_daily; rw [iszb_f (by omega) h]; rfl) H)))
  subst hv
  refine cm_isInR (a := 0) (b := 60) (by omega) (by omega) (by decide) (by decide) (fun N _ hN hn => zbr_f (by decide) ?_) (fun h => zbr_t rfl (cm_failQ (cd := c12) (n := 0) hm0 fr_code (by unfold o_daily; rw [iszb_t (by omega) hi, isrb_f (by omega) (by omega) h]; rfl) H))
  subst hn
  have ei : (nI i).toNatClampNeg = i := nI_clamp (by omega)
  have hi4 : hin (nI i) 4 := nI_in (by omega) (by omega)
  have hv : o_daily x (nI i) (nI N) = .inl (v_da x N x.2.2.2.2.2 (x.2.1 i) 0) := by
    unfold o_daily
    rw [iszb_t (by omega) hi, isrb_t (by omega) (by omega) hN, ei, nI_clamp (by omega)]
    rfl
  have HK := mqk_in hv H
  obtain ⟨V, hV⟩ : ∃ V, V = v_da x N x.2.2.2.2.2 (x.2.1 i) 0 := ⟨_, rfl⟩
  rw [← hV] at HK
  refine sim_begin hm0 code_at (fun f s0 => cm_beginAnew (fun g2 f2 b2 => ?_))
  have s2 := sim_fr s0 f2 (by decide)
  have : ∀ (m q : Nat), q + m = N → ∀ (zs : Nat → sZ) (g1 : hG), sim (sI g 1046 4 0) x f g1 zs (x.2.2.2.2.2 + q) → v_da x m (x.2.2.2.2.2 + q) (zs i) (g1.1 1069 i) = V → hwi (d + 8) zm_X8_daily k X 52 [(0, .ref 1046), (1, .int (nI i)), (2, .int (nI N)), (3, .int (nI q))] g1 e := by
    intro m
    induction m with
    | zero =>
      intro q hq zs g1 s1 h
      refine zh_X8_daily_52 (zbr_t (nI_le (by omega) (by omega)) (sim_end s1 (fun g' f' m' c' u' => ⟨hi4, ?_⟩)))
      rw [ei, u'.1 1069 (by decide) (by decide), show g1.1 1069 i = V from h]
      exact HK g' f' m' c'
    | succ m ih =>
      intro q hq zs g1 s1 h
      refine zh_X8_daily_52 (zbr_f (nI_ge (by omega) (by omega)) (sim_wear s1 hi (by omega) (fun g2 zs' s2 e2 b2 => ?_)))
      rw [nI_1]
      refine ih (q + 1) (by omega) zs' g2 s2 ?_
      rw [e2, b2]
      exact h
  exact this N 0 (by omega) x.2.1 _ s2 (by rw [b2 i (by omega)]; exact hV.symm)
theorem mq_lasts (hm : mdr g x) {v : Int32} (H : ∀ g' u, fr qL qF g g' → mdr g' x → om c12 (o_lasts x v) u g' → k u g' e) : hci (d + 9) 295 [.ref 1046, .int v] g e k X := by
  have h4 := hm.1.1.2
  have ht := hm.2.2.2.2
  have hm0 : mdr (sI g 1046 4 0) x := mdr_code hm
  refine zh_X8_lasts (cm_isZip hm0.1.1.1 h4 (fun i hi hv => zbr_f (by decide) ?_) (fun h => zbr_t rfl (cm_failQ (cd := c12) (n := 1) hm0 fr_code (by unfold o_lasts; rw [iszb_f (by omega) h]; rfl) H)))
  subst hv
  have ei : (nI i).toNatClampNeg = i := nI_clamp (by omega)
  have hv : o_lasts x (nI i) = .inl (v_la x (shb (x.2.1 i) (x.2.1 i).1) 60 0 x.2.2.2.2.2 (x.2.1 i)) := by
    unfold o_lasts
    rw [iszb_t (by omega) hi, ei]
    rfl
  have HK := mqk_in hv H
  obtain ⟨V, hV⟩ : ∃ V, V = v_la x (shb (x.2.1 i) (x.2.1 i).1) 60 0 x.2.2.2.2.2 (x.2.1 i) := ⟨_, rfl⟩
  rw [← hV] at HK
  refine cm_holding (by omega) (hm0.1.2 i hi).1 (hm0.1.2 i hi).2 (sim_begin hm0 code_at (fun f s0 => ?_))
  have : ∀ (m q : Nat), q + m = 60 → ∀ (zs : Nat → sZ) (g1 : hG), sim (sI g 1046 4 0) x f g1 zs (x.2.2.2.2.2 + q) → v_la x (shb (x.2.1 i) (x.2.1 i).1) m q (x.2.2.2.2.2 + q) (zs i) = V → hwi (d + 8) zm_X8_lasts k X 39 [(0, .ref 1046), (1, .int (nI i)), (2, .int (shb (x.2.1 i) (x.2.1 i).1)), (3, .int (-1)), (4, .int (nI (q + 1)))] g1 e := by
    intro m
    induction m with
    | zero =>
      intro q hq zs g1 s1 h
      refine zh_X8_lasts_39 (zbr_t (by rw [show (60 : Int32) = nI 60 from rfl]; exact nI_lt (by omega) (by omega)) (sim_ret s1 ?_))
      rw [show V = -1 from h.symm] at HK
      exact HK
    | succ m ih =>
      intro q hq zs g1 s1 h
      refine zh_X8_lasts_39 (zbr_f (by rw [show (60 : Int32) = nI 60 from rfl]; exact nI_nlt (by omega) (by omega)) (zbr_t rfl (sim_wear s1 hi (by omega) (fun g2 zs' s2 e2 _ => cm_holding (by omega) (s2.2.2.1.2 i hi).1 (s2.2.2.1.2 i hi).2 ?_))))
      rw [e2, nI_1]
      unfold v_la at h
      refine ⟨fun c => ?_, fun c => ?_⟩
      · rw [if_pos c] at h
        exact ih (q + 1) (by omega) zs' g2 s2 (by rw [e2]; exact h)
      · rw [if_neg c] at h
        rw [h]
        have hV1 : ¬ V = -1 := by rw [← h]; exact nI_m1 (by omega)
        exact zh_X8_lasts_39 ⟨fun c => sim_ret s2 HK, fun c => zbr_f hV1 (sim_ret s2 HK)⟩
  exact this 60 0 (by omega) x.2.1 _ s0 hV.symm
end
