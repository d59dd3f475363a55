section
variable {d : Nat} {k : Int32 → hG → hE → Prop} {kv : hG → hE → Prop} {X : Nat → hG → hE → Prop} {g : hG} {e : hE} {x : sX} {s : sS}
theorem cm_isTooth {nz : Nat} {zs : Nat → sZ} (hm : ms g nz zs) {z t p : Int32} (H1 : ∀ i, i < nz → z = nI i → ∀ j, j < (zs i).1 → p = nI j → ∀ w, w < 2 → t = nI w → k 1 g e) (H0 : (iszb nz z && (iszb (zs z.toNatClampNeg).1 p && iszb 2 t)) = false → k 0 g e) : hci (d + 4) 281 [.ref 1046, .int z, .int t, .int p] g e k X := by
  have h4 := hm.1.2
  refine zh_X8_isTooth (cm_isPlace hm (fun i hi hz j hj hp => zbr_f (by decide) ?_) (fun q => zbr_t rfl (H0 ?_)) (fun i hi hz q => zbr_t rfl (H0 ?_)))
  · refine cm_isInR (a := 0) (b := 1) (by omega) (by omega) (by decide) (by decide) (fun w _ hw ht => zbr_f (by decide) (H1 i hi hz j hj hp w (by omega) ht)) (fun q => zbr_t rfl (H0 ?_))
    rw [iszb_f (n := 2) (by omega) (fun y => q (by obtain ⟨i, hi, e⟩ := y; exact ⟨i, by omega, by omega, e⟩)), Bool.and_false, Bool.and_false]
  · rw [iszb_f (by omega) q]; rfl
  · subst hz
    have := (hm.2 i hi).2.1.2
    rw [nI_clamp (by omega), iszb_f (n := (zs i).1) (by omega) q, Bool.false_and, Bool.and_false]
theorem mdr_put {i j w v : Nat} {R : Nat} (hR : R = if w = 0 then 1060 else 1061) (hm : mdr g x) (hi : i < x.1) (hj : j < (x.2.1 i).1) (h0 : 0 < v) (h9 : v ≤ 9) : mdr (sI g R (16 * i + j) (nI v)) (xpg x (va_up x.2.1 i (sput (x.2.1 i) w j v), x.2.2.2.2.2)) ∧ fr aL [31] g (sI g R (16 * i + j) (nI v)) := by
  have h4 := hm.1.1.2
  have zi := hm.1.2 i hi
  have n2 := zi.2.1.2
  have f1 : fr aL [31] g (sI g R (16 * i + j) (nI v)) := by
    rw [hR]
    split <;> exact fr.refl.I (by decide) (by decide)
  refine ⟨⟨⟨⟨by rw [f1.1 1050 (by decide) (by decide)]; exact hm.1.1.1, h4⟩, fun z hz => ?_⟩, mrls_fr f1 (by decide) (by decide) (by decide) hm.2.1, mst_fr f1 (by decide) (by decide) hm.2.2.1, ?_, hm.2.2.2.2⟩, f1⟩
  · have hz' : z < x.1 := hz
    show mz _ z (va_up x.2.1 i (sput (x.2.1 i) w j v) z) ∧ sok (va_up x.2.1 i (sput (x.2.1 i) w j v) z)
    by_cases c : z = i
    · subst c
      rw [va_up_at]
      refine ⟨?_, sok_put zi.2 hj h0 h9⟩
      unfold sput
      by_cases cw : w = 0
      · rw [if_pos cw] at hR ⊢
        rw [hR]; exact mz_spL zi.1
      · rw [if_neg cw] at hR ⊢
        rw [hR]; exact mz_spR zi.1
    · rw [va_up_off _ _ c]
      refine ⟨?_, (hm.1.2 z hz').2⟩
      have o := mz_other (v := nI v) (p := j) (hm.1.2 z hz').1 c (by omega)
      by_cases cw : w = 0
      · rw [if_pos cw] at hR; rw [hR]; exact o.1
      · rw [if_neg cw] at hR; rw [hR]; exact o.2.1
  · rw [show (sI g R (16 * i + j) (nI v)).1 1046 = g.1 1046 from sI_off _ (by rw [hR]; split <;> decide)]
    exact hm.2.2.2.1
theorem ms_pinch (hm : RM g s) {z t p : Int32} (H : ∀ g' u, mfr g g' → RM g' (r_pinch s z t p).2 → om c12 (r_pinch s z t p).1 u g' → k u g' e) : hci (d + 8) 282 [.ref 1046, .int z, .int t, .int p] g e k X := by
  have m0 : RM (sI g 1046 4 0) s := RM_code hm
  have f0 : mfr g (sI g 1046 4 0) := mfr_code
  have k0 : (sI g 1046 4 0).1 1046 4 = 0 := code_at
  have h4 := hm.1.1.1.2
  refine zh_X8_pinch ?_
  generalize sI g 1046 4 0 = g0 at *
  refine cm_isTooth m0.1.1 (fun i hi hz j hj hp w hw ht => zbr_f (by decide) ?_) (fun q => zbr_t rfl (cm_fail ?_))
  case refine_2 =>
    have e1 : r_pinch s z t p = (.inr 1, s) := by unfold r_pinch; rw [q]; rfl
    rw [e1] at H
    exact H _ _ (f0.trans mfr_code) (RM_code m0) code_at
  subst hz
  subst hp
  subst ht
  have zi := m0.1.1.2 i hi
  have n2 := zi.2.1.2
  have ei : (nI i).toNatClampNeg = i := nI_clamp (by omega)
  have l9 := sgp_le zi.2 w j
  have yes : (iszb s.1.1 (nI i) && (iszb (s.1.2.1 (nI i).toNatClampNeg).1 (nI j) && iszb 2 (nI w))) = true := by rw [ei, iszb_t (by omega) hi, iszb_t (by omega) hj, iszb_t (by omega) hw]; rfl
  unfold r_pinch at H
  rw [yes, if_pos rfl, ei, nI_clamp (show j < 2 ^ 31 by omega), nI_clamp (show w < 2 ^ 31 by omega)] at H
  rw [ix16, nI_clamp (show 16 * i + j < 2 ^ 31 by omega)]
  have h64 : hin (nI (16 * i + j)) 64 := nI_in (by omega) (by omega)
  have bad : ¬ (0 < sgp (s.1.2.1 i) w j ∧ sgp (s.1.2.1 i) w j < 9) → hci (d + 7) 277 [.ref 1046, .int 1] g0 e (fun u g' e => k u g' e) X := by
    intro q
    rw [if_neg q] at H
    refine cm_refuse (j := 1) (by omega) (H _ _ (f0.trans (mfr_fr (L := [1058]) (F := []) (by decide) (fr.refl.I (by decide) (by decide)))) (RM_ref m0 (by omega)) ⟨rfl, ?_⟩)
    rw [sI_off _ (by decide)]; exact k0
  have good : ∀ R, R = (if w = 0 then 1060 else 1061) → (0 < sgp (s.1.2.1 i) w j ∧ sgp (s.1.2.1 i) w j < 9) → ∀ g1, fr [1064] [32] g0 g1 → mac (g1.1 1064) (g1.1 1046 32) s.1 (akeep s.1 s.2.1.1) → mdr g1 s.1 → k ((sI g1 R (16 * i + j) (g1.1 R (16 * i + j) + 1)).1 R (16 * i + j)) (sI g1 R (16 * i + j) (g1.1 R (16 * i + j) + 1)) e := by
    intro R hR q g1 f1 a1 d1
    rw [if_pos q] at H
    have v1 : g1.1 R (16 * i + j) = nI (sgp (s.1.2.1 i) w j) := by
      have zj := (d1.1.2 i hi).1
      unfold sgp
      by_cases cw : w = 0
      · rw [if_pos cw] at hR ⊢; rw [hR]; exact zj.2.2.1 j (by omega)
      · rw [if_neg cw] at hR ⊢; rw [hR]; exact zj.2.2.2.1 j (by omega)
    rw [v1, nI_1, sI_at, upd_at]
    obtain ⟨d2, f2⟩ := mdr_put (v := sgp (s.1.2.1 i) w j + 1) hR d1 hi hj (by omega) (by omega)
    obtain ⟨r1, r2, r3⟩ := RM_act m0 f1 a1 f2 d2 (pg_up (pg_nowM m0.1) (sok_put zi.2 hj (by omega) (by omega)) (sput_n _ _ _ _).1 (sput_n _ _ _ _).2)
    exact H _ _ (f0.trans r2) r1 ⟨rfl, by rw [r3]; exact k0⟩
  rcases (show w = 0 ∨ w = 1 by omega) with rfl | rfl
  · refine zbr_t rfl ⟨h64, ?_⟩
    rw [zi.1.2.2.1 j (by omega)]
    refine cm_isInR (a := 1) (b := 8) (by omega) (by omega) (by decide) (by decide) (fun m m1 m2 hv => zbr_f (by decide) (cmk_keep m0.1 m0.2.1.1 (fun g1 f1 a1 d1 => ⟨h64, h64, h64, ?_⟩))) (fun q => zbr_t rfl (bad (fun y => q ⟨_, y.1, by have := y.2; omega, rfl⟩)))
    have := (nI_eq (by have := zi.2.2.2.1 j; omega) (by omega)).mp hv
    exact good 1060 rfl (by unfold sgp; rw [if_pos rfl]; omega) g1 f1 a1 d1
  · refine zbr_f (by decide) ⟨h64, ?_⟩
    rw [zi.1.2.2.2.1 j (by omega)]
    refine cm_isInR (a := 1) (b := 8) (by omega) (by omega) (by decide) (by decide) (fun m m1 m2 hv => zbr_f (by decide) (cmk_keep m0.1 m0.2.1.1 (fun g1 f1 a1 d1 => ⟨h64, h64, h64, ?_⟩))) (fun q => zbr_t rfl (bad (fun y => q ⟨_, y.1, by have := y.2; omega, rfl⟩)))
    have := (nI_eq (by have := zi.2.2.2.2.1 j; omega) (by omega)).mp hv
    exact good 1061 rfl (by unfold sgp; rw [if_neg (by decide)]; omega) g1 f1 a1 d1
theorem ms_set (hm : RM g s) {z t p v : Int32} (H : ∀ g' u, mfr g g' → RM g' (r_set s z t p v).2 → om c12 (r_set s z t p v).1 u g' → k u g' e) : hci (d + 8) 283 [.ref 1046, .int z, .int t, .int p, .int v] g e k X := by
  have m0 : RM (sI g 1046 4 0) s := RM_code hm
  have f0 : mfr g (sI g 1046 4 0) := mfr_code
  have k0 : (sI g 1046 4 0).1 1046 4 = 0 := code_at
  have h4 := hm.1.1.1.2
  refine zh_X8_set ?_
  generalize sI g 1046 4 0 = g0 at *
  refine cm_isTooth m0.1.1 (fun i hi hz j hj hp w hw ht => zbr_f (by decide) ?_) (fun q => zbr_t rfl (zh_X8_failing ⟨.inl rfl, ?_⟩))
  case refine_2 =>
    have e1 : r_set s z t p v = (.inr 1, s) := by unfold r_set; rw [q]; rfl
    rw [e1] at H
    exact H _ _ (f0.trans mfr_code) (RM_code m0) code_at
  subst hz
  subst hp
  subst ht
  have zi := m0.1.1.2 i hi
  have n2 := zi.2.1.2
  have ei : (nI i).toNatClampNeg = i := nI_clamp (by omega)
  have yes : (iszb s.1.1 (nI i) && (iszb (s.1.2.1 (nI i).toNatClampNeg).1 (nI j) && iszb 2 (nI w))) = true := by rw [ei, iszb_t (by omega) hi, iszb_t (by omega) hj, iszb_t (by omega) hw]; rfl
  unfold r_set at H
  rw [yes, if_pos rfl, ei, nI_clamp (show j < 2 ^ 31 by omega), nI_clamp (show w < 2 ^ 31 by omega)] at H
  rw [ix16, nI_clamp (show 16 * i + j < 2 ^ 31 by omega)]
  have h64 : hin (nI (16 * i + j)) 64 := nI_in (by omega) (by omega)
  have bad : ¬ (sgp (s.1.2.1 i) w j = 0 ∧ isrb 1 9 v = true) → k 0 (sI g0 1058 1 (g0.1 1058 1 + 1)) e := by
    intro q
    rw [if_neg q] at H
    refine H _ _ (f0.trans (mfr_fr (L := [1058]) (F := []) (by decide) (fr.refl.I (by decide) (by decide)))) (RM_ref m0 (by omega)) ⟨rfl, ?_⟩
    rw [sI_off _ (by decide)]; exact k0
  have good : ∀ R, R = (if w = 0 then 1060 else 1061) → sgp (s.1.2.1 i) w j = 0 → ∀ m, 1 ≤ m → m ≤ 9 → v = nI m → ∀ g1, fr [1064] [32] g0 g1 → mac (g1.1 1064) (g1.1 1046 32) s.1 (akeep s.1 s.2.1.1) → mdr g1 s.1 → k 1 (sI g1 R (16 * i + j) v) e := by
    intro R hR q m m1 m2 hv g1 f1 a1 d1
    subst hv
    rw [if_pos ⟨q, isrb_t (by omega) m1 m2⟩, nI_clamp (show m < 2 ^ 31 by omega)] at H
    obtain ⟨d2, f2⟩ := mdr_put (v := m) hR d1 hi hj (by omega) (by omega)
    obtain ⟨r1, r2, r3⟩ := RM_act m0 f1 a1 f2 d2 (pg_up (pg_nowM m0.1) (sok_put zi.2 hj (by omega) (by omega)) (sput_n _ _ _ _).1 (sput_n _ _ _ _).2)
    exact H _ _ (f0.trans r2) r1 ⟨rfl, by rw [r3]; exact k0⟩
  rcases (show w = 0 ∨ w = 1 by omega) with rfl | rfl
  · refine zbr_t rfl ⟨h64, ?_⟩
    have l9 := zi.2.2.2.1 j
    have es : sgp (s.1.2.1 i) 0 j = (s.1.2.1 i).2.2.1 j := if_pos rfl
    rw [zi.1.2.2.1 j (by omega)]
    refine ⟨fun c => bad (fun y => ?_), fun c => ?_⟩
    · rw [es] at y; rw [y.1] at c; exact absurd c (by decide)
    · have z0 : (s.1.2.1 i).2.2.1 j = 0 := by
        apply Nat.eq_zero_of_not_pos
        intro q
        exact c (nI_lt (a := 0) q (by omega))
      exact cm_isInR (a := 1) (b := 9) (by omega) (by omega) (by decide) (by decide) (fun m m1 m2 hv => zbr_f (by decide) (cmk_keep m0.1 m0.2.1.1 (fun g1 f1 a1 d1 => ⟨h64, good 1060 rfl (by rw [es]; exact z0) m m1 m2 hv g1 f1 a1 d1⟩))) (fun q => zbr_t rfl (bad (fun y => by rw [isrb_f (by omega) (by omega) q] at y; exact absurd y.2 (by decide))))
  · refine zbr_f (by decide) ⟨h64, ?_⟩
    have l9 := zi.2.2.2.2.1 j
    have es : sgp (s.1.2.1 i) 1 j = (s.1.2.1 i).2.2.2.1 j := if_neg (by decide)
    rw [zi.1.2.2.2.1 j (by omega)]
    refine ⟨fun c => bad (fun y => ?_), fun c => ?_⟩
    · rw [es] at y; rw [y.1] at c; exact absurd c (by decide)
    · have z0 : (s.1.2.1 i).2.2.2.1 j = 0 := by
        apply Nat.eq_zero_of_not_pos
        intro q
        exact c (nI_lt (a := 0) q (by omega))
      exact cm_isInR (a := 1) (b := 9) (by omega) (by omega) (by decide) (by decide) (fun m m1 m2 hv => zbr_f (by decide) (cmk_keep m0.1 m0.2.1.1 (fun g1 f1 a1 d1 => ⟨h64, good 1061 rfl (by rw [es]; exact z0) m m1 m2 hv g1 f1 a1 d1⟩))) (fun q => zbr_t rfl (bad (fun y => by rw [isrb_f (by omega) (by omega) q] at y; exact absurd y.2 (by decide))))
theorem cm_slide0 {z : Nat} {r : sZ} (hz4 : z < 4) (hm : mz g z r) (hn : r.1 ≤ 16) (h1 : ∀ p, r.2.2.1 p ≤ 9) (h2 : ∀ p, r.2.2.2.1 p ≤ 9) (H : kv (sI (sI g 1062 z 0) 1063 z 0) e) : hcv (d + 4) 253 [.ref 1046, .int (nI z), .int 0] g e kv X := by
  have ez : (nI z).toNatClampNeg = z := nI_clamp (by omega)
  refine zh_X8_slideTo ⟨nI_in (by omega) (by omega), ?_⟩
  rw [ez]
  have m1 : mz (sI g 1062 z 0) z (r.1, r.2.1, r.2.2.1, r.2.2.2.1, r.2.2.2.2.1, 0) := ⟨hm.1, hm.2.1, hm.2.2.1, hm.2.2.2.1, hm.2.2.2.2.1, by rw [sI_at, upd_at]; rfl⟩
  generalize sI g 1062 z 0 = g1 at *
  refine zh_X8_holding ?_
  have : ∀ p, p ≤ r.1 → ∀ v, hwi (d + 2) zm_X8_holding (fun x4 g2 e3 => hin (nI z) 4 ∧ kv (sI g2 1063 z (x4 &&& ((1 <<< ((0 : Int32) &&& 31)) - 1))) e3) X 4 [(0, .ref 1046), (1, .int (nI z)), (2, .int v), (3, .int (nI p))] g1 e := by
    refine hdown ?_ ?_
    · intro v
      refine zh_X8_holding_4 ⟨nI_in (by omega) (by omega), zbr_t (by rw [ez, m1.1]; exact nI_le (Nat.le_refl _) (by omega)) ⟨nI_in (by omega) (by omega), ?_⟩⟩
      rw [show ((1 : Int32) <<< ((0 : Int32) &&& 31)) - 1 = 0 by decide, Int32.and_zero]
      exact H
    · intro p hp W v
      refine zh_X8_holding_4 ⟨nI_in (by omega) (by omega), zbr_f (by rw [ez, m1.1]; exact nI_ge (b := r.1) hp (by omega)) (cm_holdOfB hz4 m1 h1 h2 (by omega) ?_)⟩
      rw [nI_1]
      exact ⟨fun _ => W _, fun _ => W _⟩
  exact this 0 (Nat.zero_le _) 0
theorem ms_swap (hm : RM g s) {z y : Int32} (H : ∀ g' u, mfr g g' → RM g' (r_swap s z y).2 → om c12 (r_swap s z y).1 u g' → k u g' e) : hci (d + 8) 284 [.ref 1046, .int z, .int y] g e k X := by
  have m0 : RM (sI g 1046 4 0) s := RM_code hm
  have f0 : mfr g (sI g 1046 4 0) := mfr_code
  have k0 : (sI g 1046 4 0).1 1046 4 = 0 := code_at
  have h4 := hm.1.1.1.2
  refine zh_X8_swap ?_
  generalize sI g 1046 4 0 = g0 at *
  have out : (iszb s.1.1 z && iszb s.1.1 y) = false → hci (d + 7) 216 [.ref 1046, .int 1] g0 e (fun x6 g4 e5 => (x6 = 0 ∨ x6 = 1) ∧ k x6 g4 e5) X := by
    intro q
    have e1 : r_swap s z y = (.inr 1, s) := by unfold r_swap; rw [q]; rfl
    rw [e1] at H
    exact zh_X8_failing ⟨.inl rfl, H _ _ (f0.trans mfr_code) (RM_code m0) code_at⟩
  refine cm_isZip m0.1.1.1.1 h4 (fun i hi hz => zbr_f (by decide) ?_) (fun q => zbr_t rfl (out (by rw [iszb_f (by omega) q]; rfl)))
  refine cm_isZip m0.1.1.1.1 h4 (fun j hj hy => zbr_f (by decide) ?_) (fun q => zbr_t rfl (out (by rw [iszb_f (z := y) (by omega) q, Bool.and_false])))
  subst hz
  subst hy
  have zi := m0.1.1.2 i hi
  have zj := m0.1.1.2 j hj
  have n2 := zi.2.1.2
  have m2 := zj.2.1.2
  have ei : (nI i).toNatClampNeg = i := nI_clamp (by omega)
  have ej : (nI j).toNatClampNeg = j := nI_clamp (by omega)
  unfold r_swap at H
  rw [iszb_t (by omega) hi, iszb_t (by omega) hj, ei, ej, Bool.and_self, if_pos rfl] at H
  have bad : (nI i = nI j ∨ ¬ (s.1.2.1 i).1 = (s.1.2.1 j).1) → k 0 (sI g0 1058 1 (g0.1 1058 1 + 1)) e := by
    intro q
    rw [if_pos q] at H
    refine H _ _ (f0.trans (mfr_fr (L := [1058]) (F := []) (by decide) (fr.refl.I (by decide) (by decide)))) (RM_ref m0 (by omega)) ⟨rfl, ?_⟩
    rw [sI_off _ (by decide)]; exact k0
  refine ⟨fun c => bad (.inl c), fun c => ⟨nI_in (by omega) (by omega), nI_in (by omega) (by omega), ?_⟩⟩
  rw [ei, ej, zi.1.1, zj.1.1]
  refine ⟨fun c2 => ?_, fun c2 => bad (.inr (fun q => c2 (by rw [q])))⟩
  have sz : (s.1.2.1 i).1 = (s.1.2.1 j).1 := (nI_eq (by omega) (by omega)).mp c2
  have ne : ¬ i = j := fun q => c (by rw [q])
  rw [if_neg (fun q => q.elim c (fun q => q sz))] at H
  refine cmk_keep m0.1 m0.2.1.1 (fun g1 f1 a1 d1 => ?_)
  have wi := d1.1.2 i hi
  have wj := d1.1.2 j hj
  have loop : ∀ l, l ≤ 16 → ∀ g2, fr [1060] [] g1 g2 → (∀ q, q < 16 → g2.1 1060 (16 * i + q) = (if q < l then g1.1 1060 (16 * j + q) else g1.1 1060 (16 * i + q)) ∧ g2.1 1060 (16 * j + q) = (if q < l then g1.1 1060 (16 * i + q) else g1.1 1060 (16 * j + q))) → (∀ w, ¬ w = i → ¬ w = j → ∀ q, q < 16 → g2.1 1060 (16 * w + q) = g1.1 1060 (16 * w + q)) → hwi (d + 7) zm_X8_swap k X 65 [(0, .ref 1046), (1, .int (nI i)), (2, .int (nI j)), (3, .int (nI l))] g2 e := by
    refine hdown ?_ ?_
    · intro g2 f2 A B
      have ri : mz g2 i ((s.1.2.1 i).1, (s.1.2.1 i).2.1, (s.1.2.1 j).2.2.1, (s.1.2.1 i).2.2.2.1, (s.1.2.1 i).2.2.2.2) := ⟨by rw [f2.1 1052 (by decide) (by decide)]; exact wi.1.1, by rw [f2.1 1051 (by decide) (by decide)]; exact wi.1.2.1, fun q hq => by rw [(A q hq).1, if_pos hq]; exact wj.1.2.2.1 q hq, fun q hq => by rw [f2.1 1061 (by decide) (by decide)]; exact wi.1.2.2.2.1 q hq, by rw [f2.1 1063 (by decide) (by decide)]; exact wi.1.2.2.2.2.1, by rw [f2.1 1062 (by decide) (by decide)]; exact wi.1.2.2.2.2.2⟩
      have rj : mz g2 j ((s.1.2.1 j).1, (s.1.2.1 j).2.1, (s.1.2.1 i).2.2.1, (s.1.2.1 j).2.2.2.1, (s.1.2.1 j).2.2.2.2) := ⟨by rw [f2.1 1052 (by decide) (by decide)]; exact wj.1.1, by rw [f2.1 1051 (by decide) (by decide)]; exact wj.1.2.1, fun q hq => by rw [(A q hq).2, if_pos hq]; exact wi.1.2.2.1 q hq, fun q hq => by rw [f2.1 1061 (by decide) (by decide)]; exact wj.1.2.2.2.1 q hq, by rw [f2.1 1063 (by decide) (by decide)]; exact wj.1.2.2.2.2.1, by rw [f2.1 1062 (by decide) (by decide)]; exact wj.1.2.2.2.2.2⟩
      refine zh_X8_swap_65 (zbr_t (by decide) (cm_slide0 (by omega) ri n2 zj.2.2.2.1 zi.2.2.2.2.1 (cm_slide0 (r := ((s.1.2.1 j).1, (s.1.2.1 j).2.1, (s.1.2.1 i).2.2.1, (s.1.2.1 j).2.2.2.1, (s.1.2.1 j).2.2.2.2)) (by omega) ?_ m2 zi.2.2.2.1 zj.2.2.2.2.1 ?_)))
      · exact mz_slide_off (z := i) (fun q => ne q.symm) rj
      · have f3 : fr aL [31] g1 (sI (sI (sI (sI g2 1062 i 0) 1063 i 0) 1062 j 0) 1063 j 0) := (((((f2.sub (by decide) (by decide)).I (by decide) (by decide)).I (by decide) (by decide)).I (by decide) (by decide)).I (by decide) (by decide))
        have e62 : ∀ w, (sI (sI (sI (sI g2 1062 i 0) 1063 i 0) 1062 j 0) 1063 j 0).1 1062 w = if w = j then 0 else if w = i then 0 else g2.1 1062 w := by
          intro w
          rw [sI_off _ (by decide), sI_at, sI_off _ (by decide), sI_at]
          by_cases q : w = j
          · rw [if_pos q, q, upd_at]
          · rw [if_neg q, upd_off _ _ q]
            by_cases q2 : w = i
            · rw [if_pos q2, q2, upd_at]
            · rw [if_neg q2, upd_off _ _ q2]
        have e63 : ∀ w, (sI (sI (sI (sI g2 1062 i 0) 1063 i 0) 1062 j 0) 1063 j 0).1 1063 w = if w = j then 0 else if w = i then 0 else g2.1 1063 w := by
          intro w
          rw [sI_at, sI_off _ (by decide), sI_at, sI_off _ (by decide)]
          by_cases q : w = j
          · rw [if_pos q, q, upd_at]
          · rw [if_neg q, upd_off _ _ q]
            by_cases q2 : w = i
            · rw [if_pos q2, q2, upd_at]
            · rw [if_neg q2, upd_off _ _ q2]
        have e60 : (sI (sI (sI (sI g2 1062 i 0) 1063 i 0) 1062 j 0) 1063 j 0).1 1060 = g2.1 1060 := by rw [sI_off _ (by decide), sI_off _ (by decide), sI_off _ (by decide), sI_off _ (by decide)]
        have e61 : (sI (sI (sI (sI g2 1062 i 0) 1063 i 0) 1062 j 0) 1063 j 0).1 1061 = g1.1 1061 := by rw [sI_off _ (by decide), sI_off _ (by decide), sI_off _ (by decide), sI_off _ (by decide), f2.1 1061 (by decide) (by decide)]
        have e31 : (sI (sI (sI (sI g2 1062 i 0) 1063 i 0) 1062 j 0) 1063 j 0).1 1046 31 = g1.1 1046 31 := by rw [sI_off _ (by decide), sI_off _ (by decide), sI_off _ (by decide), sI_off _ (by decide), f2.2.1 31 (by decide)]
        generalize sI (sI (sI (sI g2 1062 i 0) 1063 i 0) 1062 j 0) 1063 j 0 = g3 at *
        have d3 : mdr g3 (xpg s.1 (va_up (va_up s.1.2.1 i (sswp (s.1.2.1 i) (s.1.2.1 j))) j (sswp (s.1.2.1 j) (s.1.2.1 i)), s.1.2.2.2.2.2)) := by
          refine ⟨⟨⟨by rw [f3.1 1050 (by decide) (by decide)]; exact d1.1.1.1, h4⟩, fun w hw => ?_⟩, mrls_fr f3 (by decide) (by decide) (by decide) d1.2.1, mst_fr f3 (by decide) (by decide) d1.2.2.1, ?_, d1.2.2.2.2⟩
          · have hw' : w < s.1.1 := hw
            have q1 : g3.1 1052 = g1.1 1052 := f3.1 1052 (by decide) (by decide)
            have q2 : g3.1 1051 = g1.1 1051 := f3.1 1051 (by decide) (by decide)
            have q3 : g3.1 1061 = g1.1 1061 := e61
            show mz g3 w (va_up (va_up s.1.2.1 i _) j _ w) ∧ sok (va_up (va_up s.1.2.1 i _) j _ w)
            by_cases c1 : w = j
            · subst c1
              rw [va_up_at]
              refine ⟨⟨by rw [q1]; exact wj.1.1, by rw [q2]; exact wj.1.2.1, fun p hp => by rw [e60]; exact rj.2.2.1 p hp, fun p hp => by rw [q3]; exact wj.1.2.2.2.1 p hp, by rw [e63, if_pos rfl]; rfl, by rw [e62, if_pos rfl]; rfl⟩, sok_swp zj.2 zi.2 sz.symm⟩
            · rw [va_up_off _ _ c1]
              by_cases c3 : w = i
              · subst c3
                rw [va_up_at]
                refine ⟨⟨by rw [q1]; exact wi.1.1, by rw [q2]; exact wi.1.2.1, fun p hp => by rw [e60]; exact ri.2.2.1 p hp, fun p hp => by rw [q3]; exact wi.1.2.2.2.1 p hp, by rw [e63, if_neg c1, if_pos rfl]; rfl, by rw [e62, if_neg c1, if_pos rfl]; rfl⟩, sok_swp zi.2 zj.2 sz⟩
              · rw [va_up_off _ _ c3]
                have ww := d1.1.2 w hw'
                refine ⟨⟨by rw [q1]; exact ww.1.1, by rw [q2]; exact ww.1.2.1, fun p hp => by rw [e60, B w c3 c1 p hp]; exact ww.1.2.2.1 p hp, fun p hp => by rw [q3]; exact ww.1.2.2.2.1 p hp, by rw [e63, if_neg c1, if_neg c3, f2.1 1063 (by decide) (by decide)]; exact ww.1.2.2.2.2.1, by rw [e62, if_neg c1, if_neg c3, f2.1 1062 (by decide) (by decide)]; exact ww.1.2.2.2.2.2⟩, ww.2⟩
          · rw [e31]; exact d1.2.2.2.1
        have hp : pgok s.1 (va_up (va_up s.1.2.1 i (sswp (s.1.2.1 i) (s.1.2.1 j))) j (sswp (s.1.2.1 j) (s.1.2.1 i)), s.1.2.2.2.2.2) := by
          refine ⟨fun w hw => ⟨(d3.1.2 w hw).2, ?_⟩, d1.2.2.2.2⟩
          show (va_up (va_up s.1.2.1 i _) j _ w).1 = _ ∧ (va_up (va_up s.1.2.1 i _) j _ w).2.1 = _
          by_cases c1 : w = j
          · subst c1
            rw [va_up_at]
            exact ⟨rfl, rfl⟩
          · rw [va_up_off _ _ c1]
            by_cases c3 : w = i
            · subst c3
              rw [va_up_at]
              exact ⟨rfl, rfl⟩
            · rw [va_up_off _ _ c3]
              exact ⟨rfl, rfl⟩
        obtain ⟨r1, r2, r3⟩ := RM_act m0 f1 a1 f3 d3 hp
        exact H _ _ (f0.trans r2) r1 ⟨rfl, by rw [r3]; exact k0⟩
    · intro l hl W g2 f2 A B
      have h64 : ∀ w, w < 4 → hin (nI (16 * w + l)) 64 := fun w hw => nI_in (by omega) (by omega)
      refine zh_X8_swap_65 (zbr_f (by rw [show (16 : Int32) = nI 16 from rfl]; exact nI_ge hl (by omega)) ?_)
      rw [ix16, ix16, nI_clamp (show 16 * i + l < 2 ^ 31 by omega), nI_clamp (show 16 * j + l < 2 ^ 31 by omega)]
      refine ⟨h64 i (by omega), h64 j (by omega), h64 i (by omega), h64 j (by omega), ?_⟩
      rintro g9 rfl
      rw [nI_1]
      refine W _ ((f2.I (by decide) (by decide)).I (by decide) (by decide)) (fun q hq => ?_) (fun w h1 h2 q hq => ?_)
      · rw [sI_at, sI_at]
        obtain ⟨A1, A2⟩ := A q hq
        obtain ⟨L1, L2⟩ := A l hl
        rw [if_neg (by omega)] at L1 L2
        by_cases c1 : q = l
        · subst c1
          rw [if_pos (by omega), if_pos (by omega), upd_off _ _ (show ¬ 16 * i + q = 16 * j + q by omega), upd_at, upd_at]
          exact ⟨L2, L1⟩
        · rw [upd_off _ _ (show ¬ 16 * i + q = 16 * j + l by omega), upd_off _ _ (show ¬ 16 * i + q = 16 * i + l by omega), upd_off _ _ (show ¬ 16 * j + q = 16 * j + l by omega), upd_off _ _ (show ¬ 16 * j + q = 16 * i + l by omega), A1, A2]
          by_cases c3 : q < l
          · rw [if_pos c3, if_pos c3, if_pos (by omega), if_pos (by omega)]; exact ⟨rfl, rfl⟩
          · rw [if_neg c3, if_neg c3, if_neg (by omega), if_neg (by omega)]; exact ⟨rfl, rfl⟩
      · rw [sI_at, sI_at, upd_off _ _ (by omega), upd_off _ _ (by omega)]
        exact B w h1 h2 q hq
  exact loop 0 (by omega) g1 fr.refl (fun q hq => by rw [if_neg (by omega), if_neg (by omega)]; exact ⟨rfl, rfl⟩) (fun _ _ _ _ _ => rfl)
end
