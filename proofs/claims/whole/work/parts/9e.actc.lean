section
variable {d : Nat} {k : Int32 → hG → hE → Prop} {kv : hG → hE → Prop} {X : Nat → hG → hE → Prop} {g : hG} {e : hE} {D : Nat} {x : sX} {s : sS}
theorem r_days_y {n : Nat} (h1 : 1 ≤ n) (h2 : n ≤ 20) (h3 : s.1.2.2.2.2.2 + n ≤ 999) : r_days s (nI n) = (.inl (nI (s.1.2.2.2.2.2 + n)), s_act s (fun z => xgo s.1 n s.1.2.2.2.2.2 (s.1.2.1 z), s.1.2.2.2.2.2 + n)) := by
  unfold r_days
  rw [isrb_t (by omega) h1 h2, nI_add, decide_eq_true (show nI (s.1.2.2.2.2.2 + n) ≤ 999 from nI_le (b := 999) h3 (by omega)), nI_clamp (by omega)]
  rfl
theorem r_days_n {n : Int32} (h : ¬ isr 1 20 n ∨ ∃ m, m ≤ 20 ∧ n = nI m ∧ 999 < s.1.2.2.2.2.2 + m) (h9 : s.1.2.2.2.2.2 ≤ 999) : r_days s n = (.inl (-1), s_ref s 1) := by
  unfold r_days
  rcases h with h | ⟨m, hm, rfl, h⟩
  · rw [isrb_f (by omega) (by omega) h]
    rfl
  · rw [nI_add, decide_eq_false (show ¬ nI (s.1.2.2.2.2.2 + m) ≤ 999 from nI_ge (b := s.1.2.2.2.2.2 + m) (a := 999) h (by omega)), Bool.and_false]
    rfl
theorem cs_days (hc : RC g D s) {n : Int32} (H : ∀ g', cfr g g' → RC g' D (r_days s n).2 → oc (r_days s n).1 k X g' e) : hci (d + 9) 155 [.ref 1000, .int n] g e k X := by
  have c0 := hc.1
  have hD' := c0.1.1
  have h9 := c0.2.2.2.2.2.2
  have bad : (r_days s n = (.inl (-1), s_ref s 1)) → hcv (d + 8) 20 [.ref 1027, .int 1] g e (fun g1 e2 => k (-1) g1 e2) X := by
    intro h
    refine c_refuse (j := 1) hc (by omega) (fun g' f' r' => ?_)
    rw [h] at H
    exact H g' f' r'
  refine zh_X7_days ⟨fun c => bad (r_days_n (.inl (isr_not (by omega) (.inl c))) h9), fun c => ⟨fun c2 => bad (r_days_n (.inl (isr_not (by omega) (.inr (Int32.not_le.mpr c2)))) h9), fun c2 => ?_⟩⟩
  rw [c0.1.2]
  refine ⟨hD', zh_X2_today hD' ?_⟩
  rcases isr_or (a := 1) (b := 20) (by omega) (by omega) n with h | h | h
  case inr.inl => exact absurd h c
  case inr.inr => exact absurd (Int32.not_lt.mp c2) h.2
  obtain ⟨m, m1, m2, rfl⟩ := h
  rw [c0.2.2.2.2.2.1, nI_add, show (999 : Int32) = nI 999 from rfl]
  refine ⟨fun c3 => ?_, fun c3 => bad (r_days_n (.inr ⟨m, m2, rfl, ?_⟩) h9)⟩
  · have le : s.1.2.2.2.2.2 + m ≤ 999 := (nI_leI (by omega) (by omega)).mp c3
    rw [r_days_y m1 m2 le] at H
    rw [c0.1.2]
    refine ⟨hD', c_beginAct c0 hc.2.2.1.1 (fun g1 f1 a1 => ?_)⟩
    have c1 := cdr_bk c0 f1
    have hp : ∀ j, s.1.2.2.2.2.2 + j ≤ 999 → pgok s.1 (fun z => xgo s.1 j s.1.2.2.2.2.2 (s.1.2.1 z), s.1.2.2.2.2.2 + j) := by
      intro j hj
      refine ⟨fun z hz => ⟨sok_go _ _ (c0.2.2.1 z hz).2.1, ?_⟩, hj⟩
      have : ∀ (n t : Nat) (s' : sZ), (sgo s.1.2.2.2.1 s.1.2.2.2.2.1 s.1.2.2.1 n t s').1 = s'.1 ∧ (sgo s.1.2.2.2.1 s.1.2.2.2.2.1 s.1.2.2.1 n t s').2.1 = s'.2.1 := by
        intro n
        induction n with
        | zero => intro t s'; exact ⟨rfl, rfl⟩
        | succ n ih =>
          intro t s'
          obtain ⟨a, b⟩ := ih (t + 1) (sd1 s.1.2.2.2.1 s.1.2.2.2.2.1 s.1.2.2.1 t s').1
          refine ⟨a.trans (sdk_n _ _), b.trans (sdk_keep _ _).1⟩
      exact this _ _ _
    have main : ∀ l j, j + l = m → ∀ g2, adf D g1 g2 → cdr g2 D (xpg s.1 (fun z => xgo s.1 j s.1.2.2.2.2.2 (s.1.2.1 z), s.1.2.2.2.2.2 + j)) → hwi (d + 8) zm_X7_days k X 49 [(0, .ref 1000), (1, .int (nI m)), (2, .int (nI j))] g2 e := by
      intro l
      induction l with
      | zero =>
        intro j hj g2 f2 cc
        have : j = m := by omega
        subst this
        refine zh_X7_days_49 (zbr_t (nI_le (Nat.le_refl _) (by omega)) ?_)
        rw [cc.1.2]
        refine ⟨hD', zh_X2_today hD' ?_⟩
        rw [cc.2.2.2.2.2.1]
        exact H g2 ((cfr_bk f1).trans (cfr_ad hD' f2)) (RC_act hc f1 a1 f2 cc (hp j le))
      | succ l ih =>
        intro j hj g2 f2 c2
        refine zh_X7_days_49 (zbr_f (nI_ge (by omega) (by omega)) ?_)
        rw [c2.1.2]
        refine ⟨hD', c_passToday c2 (by show s.1.2.2.2.2.2 + j + 1 ≤ 999; omega) (fun g3 f3 c3 => ?_)⟩
        rw [nI_1]
        refine ih (j + 1) (by omega) g3 (f2.trans f3) ?_
        have e1 : (fun z => xgo s.1 (j + 1) s.1.2.2.2.2.2 (s.1.2.1 z)) = xz (xpg s.1 (fun z => xgo s.1 j s.1.2.2.2.2.2 (s.1.2.1 z), s.1.2.2.2.2.2 + j)) (s.1.2.2.2.2.2 + j) (fun z => xgo s.1 j s.1.2.2.2.2.2 (s.1.2.1 z)) := by
          funext z
          exact sgo_end j s.1.2.2.2.2.2 (s.1.2.1 z)
        rw [e1]
        exact c3
    exact main m 0 (by omega) g1 adf.refl c1
  · exact Nat.lt_of_not_le (fun z => c3 (nI_le z (by omega)))
theorem cs_slide (hc : RC g D s) (hr : hrm e) {z h : Int32} (H : ∀ g', cfr g g' → RC g' D (r_slide s z h).2 → oc (r_slide s z h).1 k X g' e) : hci (d + 9) 156 [.ref 1000, .int z, .int h] g e k X := by
  have c0 := hc.1
  have hD' := c0.1.1
  have h4 := c0.2.1.2
  refine zh_X7_slide (c_theZip c0 hr (fun i hi hv => ?_) (fun q => ?_))
  case refine_2 =>
    have e1 : r_slide s z h = (.inr 1, s) := by unfold r_slide; rw [iszb_f (by omega) q]; rfl
    rw [e1] at H
    exact H g cfr.refl hc
  subst hv
  have hT1 := hT_zip (D := D) hD' (show i < 4 by omega)
  have ci := c0.2.2.1 i hi
  obtain ⟨n1, n2⟩ := ct_n ci
  have ei : (nI i).toNatClampNeg = i := nI_clamp (by omega)
  refine ⟨hT1, ?_⟩
  have bad : ¬ isr 0 (s.1.2.1 i).1 h → hcv (d + 8) 20 [.ref 1027, .int 1] g e (fun g1 e2 => k (-1) g1 e2) X := by
    intro q
    have e1 : r_slide s (nI i) h = (.inl (-1), s_ref s 1) := by
      unfold r_slide
      rw [iszb_t (by omega) hi, ei, isrb_f (by omega) (by omega) q]
      rfl
    rw [e1] at H
    exact c_refuse (j := 1) hc (by omega) (fun g' f' r' => H g' f' r')
  refine ⟨fun c => bad (isr_not (by omega) (.inl c)), fun c => c_size hT1 ?_⟩
  rw [n1]
  refine ⟨fun c2 => ?_, fun c2 => bad (isr_not (by omega) (.inr c2))⟩
  rcases isr_or (a := 0) (b := (s.1.2.1 i).1) (by omega) (by omega) h with q | q | q
  case inr.inl => exact absurd q c
  case inr.inr => exact absurd c2 q.2
  obtain ⟨m, _, m2, rfl⟩ := q
  have e1 : r_slide s (nI i) (nI m) = (.inl (jbc (sslide (s.1.2.1 i) m).2.2.2.2.1), s_act s (va_up s.1.2.1 i (sslide (s.1.2.1 i) m), s.1.2.2.2.2.2)) := by
    unfold r_slide
    rw [iszb_t (by omega) hi, ei, isrb_t (by omega) (by omega) m2, nI_clamp (show m < 2 ^ 31 by omega)]
    rfl
  rw [e1] at H
  rw [c0.1.2]
  refine ⟨hD', c_beginAct c0 hc.2.2.1.1 (fun g1 f1 a1 => ?_)⟩
  have c1 := cdr_bk c0 f1
  have cj := c1.2.2.1 i hi
  refine c_slideTo hT1 (ct_n cj).1 n2 (c_closedCount hT1 ?_)
  have sl := ct_slide (g := g1) cj m2
  rw [sl.1.2.2.2.2.1]
  have f2 : adf D g1 (zp g1 (D + 2 + i) (zslide (zg g1 (D + 2 + i)) (s.1.2.1 i).1 (nI m))) := adf_zp (by omega) _
  refine H _ ((cfr_bk f1).trans (cfr_ad hD' f2)) (RC_act hc f1 a1 f2 (cdr_ad c1 f2 (fun y hy => ?_) ?_ c0.2.2.2.2.2.2) (pg_up (pg_now c0) (sok_slide ci.2.1 m2) rfl rfl))
  · show ct _ _ _ (va_up s.1.2.1 i (sslide (s.1.2.1 i) m) y)
    by_cases q : y = i
    · subst q; rw [va_up_at]; exact sl
    · rw [va_up_off _ _ q]; exact ct_cg (zg_off _ _ (by omega)) (c1.2.2.1 y hy)
  · rw [show (zp g1 (D + 2 + i) _).1 D = g1.1 D from va_up_off _ _ (by omega)]
    exact c1.2.2.2.2.2.1
/-- a zip is other -/
theorem RC_zip {g1 : hG} {i : Nat} {y : cZ} {r : sZ} (hc : RC g D s) (hi : i < s.1.1) (f1 : bkf g g1) (a1 : cac (g1.2.1 1028) (g1.1 1027 1) s.1 (akeep s.1 s.2.1.1)) (hy : ctz s.1.2.2.2.1 y r) (h1 : r.1 = (s.1.2.1 i).1) (h2 : r.2.1 = (s.1.2.1 i).2.1) : cfr g (zp g1 (D + 2 + i) y) ∧ RC (zp g1 (D + 2 + i) y) D (s_act s (va_up s.1.2.1 i r, s.1.2.2.2.2.2)) := by
  have c0 := hc.1
  have hD' := c0.1.1
  have h4 := c0.2.1.2
  have c1 := cdr_bk c0 f1
  have f2 : adf D g1 (zp g1 (D + 2 + i) y) := adf_zp (by omega) _
  refine ⟨(cfr_bk f1).trans (cfr_ad hD' f2), RC_act hc f1 a1 f2 (cdr_ad c1 f2 (fun z hz => ?_) ?_ c0.2.2.2.2.2.2) (pg_up (pg_now c0) hy.2.1 h1 h2)⟩
  · show ct _ _ _ (va_up s.1.2.1 i r z)
    by_cases q : z = i
    · subst q; rw [va_up_at]; exact ct_z hy
    · rw [va_up_off _ _ q]; exact ct_cg (zg_off _ _ (by omega)) (c1.2.2.1 z hz)
  · rw [show (zp g1 (D + 2 + i) y).1 D = g1.1 D from va_up_off _ _ (by omega)]
    exact c1.2.2.2.2.2.1
theorem c_checkTape (hr : hrm e) {t : Int32} (H : ∀ i, i < 2 → t = nI i → kv g e) (HX : ¬ isz 2 t → X 1 g (hth e)) : hcv (d + 1) 203 [.int t] g e kv X := by
  refine zh_X7_checkTape ⟨fun c => H 0 (by omega) c, fun c => ⟨fun c2 => H 1 (by omega) c2, fun c2 => ⟨hr, HX ?_⟩⟩⟩
  rintro ⟨i, hi, rfl⟩
  rcases (show i = 0 ∨ i = 1 by omega) with rfl | rfl
  · exact c rfl
  · exact c2 rfl
theorem zgrip_s {z : cZ} {r : sZ} (h : zrel z r) {t p : Nat} (ht : t < 2) (hp : p < 16) : zgrip z (nI t) p = nI (sgp r t p) := by
  unfold zgrip sgp
  rcases (show t = 0 ∨ t = 1 by omega) with rfl | rfl
  · rw [if_pos (show nI 0 = 0 from rfl), if_pos rfl]; exact h.2.2.1 p hp
  · rw [if_neg (by decide), if_neg (by decide)]; exact h.2.2.2.1 p hp
theorem ctz_put {pl : List tk} {z : cZ} {r : sZ} (h : ctz pl z r) {t p v : Nat} (ht : t < 2) (hp : p < r.1) (h0 : 0 < v) (h9 : v ≤ 9) : ctz pl (zgput z (nI t) p (nI v)) (sput r t p v) := by
  have n := h.2.1.1.2
  refine ⟨?_, sok_put h.2.1 hp h0 h9, ?_⟩
  · unfold sput
    rcases (show t = 0 ∨ t = 1 by omega) with rfl | rfl
    · rw [if_pos rfl]; exact zrel_put0 h.1 (by omega) (by omega)
    · rw [if_neg (by decide)]; exact zrel_put1 h.1 (by omega) (by omega)
  · unfold zgput
    split <;> exact hv_0 _ _
theorem sgp_le {r : sZ} (h : sok r) (t p : Nat) : sgp r t p ≤ 9 := by
  unfold sgp
  split
  · exact h.2.2.1 p
  · exact h.2.2.2.1 p
theorem cs_pinch (hc : RC g D s) (hr : hrm e) {z t p : Int32} (H : ∀ g', cfr g g' → RC g' D (r_pinch s z t p).2 → oc (r_pinch s z t p).1 k X g' e) : hci (d + 9) 157 [.ref 1000, .int z, .int t, .int p] g e k X := by
  have c0 := hc.1
  have hD' := c0.1.1
  have h4 := c0.2.1.2
  have out : (iszb s.1.1 z && (iszb (s.1.2.1 z.toNatClampNeg).1 p && iszb 2 t)) = false → X 1 g (hth e) := by
    intro q
    have e1 : r_pinch s z t p = (.inr 1, s) := by unfold r_pinch; rw [q]; rfl
    rw [e1] at H
    exact H g cfr.refl hc
  refine zh_X7_pinch (c_theZip c0 hr (fun i hi hv => ?_) (fun q => out (by rw [iszb_f (by omega) q]; rfl)))
  subst hv
  have hT1 := hT_zip (D := D) hD' (show i < 4 by omega)
  have ci := c0.2.2.1 i hi
  obtain ⟨n1, n2⟩ := ct_n ci
  have ei : (nI i).toNatClampNeg = i := nI_clamp (by omega)
  refine ⟨hT1, c_checkPlace hT1 n1 n2 hr (fun j hj hp => ?_) (fun q => out (by rw [ei, iszb_f (n := (s.1.2.1 i).1) (by omega) q, Bool.false_and, Bool.and_false]))⟩
  subst hp
  refine c_checkTape hr (fun w hw ht => ?_) (fun q => out (by rw [iszb_f (n := 2) (by omega) q, Bool.and_false, Bool.and_false]))
  subst ht
  have l9 := sgp_le ci.2.1 w j
  have yes : (iszb s.1.1 (nI i) && (iszb (s.1.2.1 (nI i).toNatClampNeg).1 (nI j) && iszb 2 (nI w))) = true := by rw [ei, iszb_t (by omega) hi, iszb_t (by omega) hj, iszb_t (by omega) hw]; rfl
  unfold r_pinch at H
  rw [yes, if_pos rfl, ei, nI_clamp (show j < 2 ^ 31 by omega), nI_clamp (show w < 2 ^ 31 by omega)] at H
  refine c_mayPinch hT1 ?_
  rw [zgrip_s ci.1 hw (by omega)]
  by_cases c : 0 < sgp (s.1.2.1 i) w j ∧ sgp (s.1.2.1 i) w j < 9
  · rw [if_pos c] at H
    rw [(zmp_t _ l9).mpr c]
    refine zbr_f (by decide) ?_
    rw [c0.1.2]
    refine ⟨hD', c_beginAct c0 hc.2.2.1.1 (fun g1 f1 a1 => ?_)⟩
    have c1 := cdr_bk c0 f1
    have cj := c1.2.2.1 i hi
    refine c_pinchTooth hT1 (c_grip hT1 ?_)
    have ez : zpinch (zg g1 (D + 2 + i)) (nI w) j = zgput (zg g1 (D + 2 + i)) (nI w) j (nI (sgp (s.1.2.1 i) w j + 1)) := by
      unfold zpinch
      rw [zgrip_s cj.1 hw (by omega), if_pos ((zmp_t _ l9).mpr c), nI_1]
    rw [ez]
    have cz := ctz_put (pl := s.1.2.2.2.1) (z := zg g1 (D + 2 + i)) (r := s.1.2.1 i) cj hw hj (v := sgp (s.1.2.1 i) w j + 1) (by omega) (by omega)
    obtain ⟨r1, r2⟩ := RC_zip hc hi f1 a1 cz (sput_n _ _ _ _).1 (sput_n _ _ _ _).2
    have := H _ r1 r2
    rw [zg_zp, zgrip_s cz.1 hw (by omega)]
    rw [show sgp (sput (s.1.2.1 i) w j (sgp (s.1.2.1 i) w j + 1)) w j = sgp (s.1.2.1 i) w j + 1 by
      generalize sgp (s.1.2.1 i) w j + 1 = v
      unfold sgp sput
      split
      · exact va_up_at _ _ _
      · exact va_up_at _ _ _]
    exact this
  · rw [if_neg c] at H
    rw [show zmp (nI (sgp (s.1.2.1 i) w j)) = false by
      cases q : zmp (nI (sgp (s.1.2.1 i) w j)) with
      | false => rfl
      | true => exact absurd ((zmp_t _ l9).mp q) c]
    exact zbr_t rfl (c_refuse (j := 1) hc (by omega) (fun g' f' r' => H g' f' r'))
theorem cs_set (hc : RC g D s) (hr : hrm e) {z t p v : Int32} (H : ∀ g', cfr g g' → RC g' D (r_set s z t p v).2 → oc (r_set s z t p v).1 k X g' e) : hci (d + 9) 158 [.ref 1000, .int z, .int t, .int p, .int v] g e k X := by
  have c0 := hc.1
  have hD' := c0.1.1
  have h4 := c0.2.1.2
  have out : (iszb s.1.1 z && (iszb (s.1.2.1 z.toNatClampNeg).1 p && iszb 2 t)) = false → X 1 g (hth e) := by
    intro q
    have e1 : r_set s z t p v = (.inr 1, s) := by unfold r_set; rw [q]; rfl
    rw [e1] at H
    exact H g cfr.refl hc
  refine zh_X7_set (c_theZip c0 hr (fun i hi hv => ?_) (fun q => out (by rw [iszb_f (by omega) q]; rfl)))
  subst hv
  have hT1 := hT_zip (D := D) hD' (show i < 4 by omega)
  have ci := c0.2.2.1 i hi
  obtain ⟨n1, n2⟩ := ct_n ci
  have ei : (nI i).toNatClampNeg = i := nI_clamp (by omega)
  refine ⟨hT1, c_checkPlace hT1 n1 n2 hr (fun j hj hp => ?_) (fun q => out (by rw [ei, iszb_f (n := (s.1.2.1 i).1) (by omega) q, Bool.false_and, Bool.and_false]))⟩
  subst hp
  refine c_checkTape hr (fun w hw ht => ?_) (fun q => out (by rw [iszb_f (n := 2) (by omega) q, Bool.and_false, Bool.and_false]))
  subst ht
  have l9 := sgp_le ci.2.1 w j
  have yes : (iszb s.1.1 (nI i) && (iszb (s.1.2.1 (nI i).toNatClampNeg).1 (nI j) && iszb 2 (nI w))) = true := by rw [ei, iszb_t (by omega) hi, iszb_t (by omega) hj, iszb_t (by omega) hw]; rfl
  unfold r_set at H
  rw [yes, if_pos rfl, ei, nI_clamp (show j < 2 ^ 31 by omega), nI_clamp (show w < 2 ^ 31 by omega)] at H
  refine c_grip hT1 ?_
  rw [zgrip_s ci.1 hw (by omega)]
  have bad : ¬ (sgp (s.1.2.1 i) w j = 0 ∧ isrb 1 9 v = true) → hcv (d + 8) 20 [.ref 1027, .int 1] g e (fun g1 e2 => k 0 g1 e2) X := by
    intro q
    rw [if_neg q] at H
    exact c_refuse (j := 1) hc (by omega) (fun g' f' r' => H g' f' r')
  refine ⟨fun c => ⟨fun c2 => bad (fun q => ?_), fun c2 => ⟨fun c3 => ?_, fun c3 => bad (fun q => ?_)⟩⟩, fun c => bad (fun q => c (by rw [q.1]; rfl))⟩
  · rw [isrb_f (a := 1) (b := 9) (by omega) (by omega) (isr_not (by omega) (.inl c2))] at q
    exact absurd q.2 (by decide)
  · rcases isr_or (a := 1) (b := 9) (by omega) (by omega) v with q | q | q
    case inr.inl => exact absurd q c2
    case inr.inr => exact absurd c3 q.2
    obtain ⟨m, m1, m2, rfl⟩ := q
    rw [if_pos ⟨(nI_eq (b := 0) (by omega) (by omega)).mp c, isrb_t (by omega) m1 m2⟩, nI_clamp (show m < 2 ^ 31 by omega)] at H
    rw [c0.1.2]
    refine ⟨hD', c_beginAct c0 hc.2.2.1.1 (fun g1 f1 a1 => ?_)⟩
    have c1 := cdr_bk c0 f1
    have cj := c1.2.2.1 i hi
    have cz := ctz_put (pl := s.1.2.2.2.1) (z := zg g1 (D + 2 + i)) (r := s.1.2.1 i) cj hw hj (v := m) (by omega) (by omega)
    obtain ⟨r1, r2⟩ := RC_zip hc hi f1 a1 cz (sput_n _ _ _ _).1 (sput_n _ _ _ _).2
    exact c_putGrip hT1 (H _ r1 r2)
  · rw [isrb_f (a := 1) (b := 9) (by omega) (by omega) (isr_not (by omega) (.inr c3))] at q
    exact absurd q.2 (by decide)
end
