/-! PLACE, GAP, UNLIKE: both sides -/
def v_place (s : sZ) (p w : Nat) : Int32 := match w with
  | 0 => nI (s.2.2.1 p)
  | 1 => nI (s.2.2.2.1 p)
  | 2 => nI (sh s p)
  | 3 => bI (bt s.2.2.2.2.1 p)
  | _ => sbes s p
def o_place (x : sX) (z p w : Int32) : rs := if iszb x.1 z && (iszb (x.2.1 z.toNatClampNeg).1 p && iszb 5 w) then .inl (v_place (x.2.1 z.toNatClampNeg) p.toNatClampNeg w.toNatClampNeg) else .inr 1
def o_gap (x : sX) (z : Int32) : rs := if iszb x.1 z then .inl (jbc (shb (x.2.1 z.toNatClampNeg) (x.2.1 z.toNatClampNeg).1) - jbc (x.2.1 z.toNatClampNeg).2.2.2.2.1) else .inr 1
def sul (s t : sZ) : Nat → Int32
  | 0 => 0
  | p + 1 => sul s t p + (iab (nI (s.2.2.1 p) - nI (t.2.2.1 p)) + iab (nI (s.2.2.2.1 p) - nI (t.2.2.2.1 p)))
def o_unlike (x : sX) (z y : Int32) : rs := if iszb x.1 z && iszb x.1 y then .inl (if (x.2.1 z.toNatClampNeg).1 = (x.2.1 y.toNatClampNeg).1 then sul (x.2.1 z.toNatClampNeg) (x.2.1 y.toNatClampNeg) (x.2.1 z.toNatClampNeg).1 else -1) else .inr 1
theorem o_place_n {x : sX} {z p w : Int32} (h : ¬ isz x.1 z ∨ ¬ isz (x.2.1 z.toNatClampNeg).1 p ∨ ¬ isz 5 w) (h4 : x.1 ≤ 4) (h16 : (x.2.1 z.toNatClampNeg).1 ≤ 16) : o_place x z p w = .inr 1 := by
  unfold o_place
  rcases h with h | h | h
  · rw [iszb_f (by omega) h]; rfl
  · rw [iszb_f (n := (x.2.1 z.toNatClampNeg).1) (by omega) h, Bool.false_and, Bool.and_false]; rfl
  · rw [iszb_f (n := 5) (by omega) h, Bool.and_false, Bool.and_false]; rfl
theorem o_place_y {x : sX} {i p w : Nat} (h4 : x.1 ≤ 4) (hi : i < x.1) (h16 : (x.2.1 i).1 ≤ 16) (hp : p < (x.2.1 i).1) (hw : w < 5) : o_place x (nI i) (nI p) (nI w) = .inl (v_place (x.2.1 i) p w) := by
  unfold o_place
  rw [nI_clamp (show i < 2 ^ 31 by omega), iszb_t (by omega) hi, iszb_t (by omega) hp, iszb_t (by omega) hw, nI_clamp (show p < 2 ^ 31 by omega), nI_clamp (show w < 2 ^ 31 by omega)]
  rfl
section
variable {d : Nat} {k : Int32 → hG → hE → Prop} {kv : hG → hE → Prop} {X : Nat → hG → hE → Prop} {g : hG} {e : hE} {D : Nat} {x : sX}
theorem cq_place (hc : cdr g D x) (hr : hrm e) {z p w : Int32} (H : ∀ g', qf D g g' → oc (o_place x z p w) k X g' e) : hci (d + 5) 152 [.ref 1000, .int z, .int p, .int w] g e k X := by
  have h4 := hc.2.1.2
  refine zh_X7_place (c_theZip hc hr (fun i hi hz => ⟨hT_zip hc.1.1 (by omega), ?_⟩) (fun h => oc_r (H g qf.refl) (by unfold o_place; rw [iszb_f (by omega) h]; rfl)))
  subst hz
  have hci := hc.2.2.1 i hi
  have ha := hT_zip (D := D) hc.1.1 (show i < 4 by omega)
  obtain ⟨n1, n2⟩ := ct_n hci
  have ei : (nI i).toNatClampNeg = i := nI_clamp (by omega)
  refine c_checkPlace ha n1 n2 hr (fun j hj hp => ?_) (fun h => oc_r (H g qf.refl) (o_place_n (.inr (.inl (by rw [ei]; exact h))) h4 (by rw [ei]; exact n2)))
  subst hp
  by_cases hw : isz 5 w
  · obtain ⟨m, hm, rfl⟩ := hw
    have hv := o_place_y h4 hi n2 hj hm
    match m, hm with
    | 0, _ => exact zbr_t rfl (c_gripL ha (oc_l (H g qf.refl) (by rw [hv, hci.1.2.2.1 j (by omega)]; rfl)))
    | 1, _ => exact zbr_f (by decide) (zbr_t rfl (c_gripR ha (oc_l (H g qf.refl) (by rw [hv, hci.1.2.2.2.1 j (by omega)]; rfl))))
    | 2, _ => exact zbr_f (by decide) (zbr_f (by decide) (zbr_t rfl (c_hold ha (oc_l (H g qf.refl) (by rw [hv, zrel_hold hci.1 hci.2.1 (by omega)]; rfl)))))
    | 3, _ =>
      refine zbr_f (by decide) (zbr_f (by decide) (zbr_f (by decide) (zbr_t rfl (c_isClosed ha (p := j) (by omega) ?_))))
      rw [hci.1.2.2.2.2.1]
      have := oc_l (H g qf.refl) (hv.trans (show _ = Sum.inl (bI (bt (x.2.1 i).2.2.2.2.1 j)) from rfl))
      cases q : bt (x.2.1 i).2.2.2.2.1 j with
      | false => rw [q] at this; exact zbr_t rfl this
      | true => rw [q] at this; exact zbr_f (by decide) this
    | 4, _ => exact zbr_f (by decide) (zbr_f (by decide) (zbr_f (by decide) (zbr_f (by decide) (zbr_t rfl (c_openBeside ha n1 n2 hj (oc_l (H g qf.refl) (by rw [hv, zrel_beside hci.1]; rfl)))))))
    | m + 5, h => exact absurd h (by omega)
  · have q : ∀ m, m < 5 → ¬ w = nI m := fun m hm c => hw ⟨m, hm, c⟩
    exact zbr_f (q 0 (by omega)) (zbr_f (q 1 (by omega)) (zbr_f (q 2 (by omega)) (zbr_f (q 3 (by omega)) (zbr_f (q 4 (by omega)) ⟨hr, oc_r (H g qf.refl) (o_place_n (.inr (.inr hw)) h4 (by rw [ei]; exact n2))⟩))))
theorem mq_place (hm : mdr g x) {z p w : Int32} (H : ∀ g' u, fr qL qF g g' → mdr g' x → om c12 (o_place x z p w) u g' → k u g' e) : hci (d + 5) 276 [.ref 1046, .int z, .int p, .int w] g e k X := by
  have h4 := hm.1.1.2
  have hm0 : mdr (sI g 1046 4 0) x := mdr_code hm
  refine zh_X8_place (cm_isPlace hm0.1 (fun i hi hz j hj hp => zbr_f (by decide) ?_) (fun h => zbr_t rfl (cm_failQ (cd := c12) (n := 1) hm0 fr_code (by unfold o_place; rw [iszb_f (by omega) h]; rfl) H)) (fun i hi hz h => zbr_t rfl (cm_failQ (cd := c12) (n := 1) hm0 fr_code (by
    have ei : z.toNatClampNeg = i := by rw [hz]; exact nI_clamp (by omega)
    exact o_place_n (.inr (.inl (by rw [ei]; exact h))) h4 (by rw [ei]; exact (hm.1.2 i hi).2.1.2)) H)))
  subst hz
  subst hp
  have mzi := (hm0.1.2 i hi).1
  have oki := (hm0.1.2 i hi).2
  have n2 := oki.1.2
  have ei : (nI i).toNatClampNeg = i := nI_clamp (by omega)
  have fin : ∀ m, m < 5 → w = nI m → ∀ u, u = v_place (x.2.1 i) j m → k u (sI g 1046 4 0) e := by
    intro m hm hw u hu
    subst hw
    exact H _ u fr_code hm0 (om_l (by rw [o_place_y h4 hi n2 hj hm, hu]) code_at)
  by_cases hw : isz 5 w
  · obtain ⟨m, hm, rfl⟩ := hw
    rw [ix16, nI_clamp (show 16 * i + j < 2 ^ 31 by omega), mzi.2.2.1 j (by omega), mzi.2.2.2.1 j (by omega), ei, mzi.2.2.2.2.1]
    have h64 : hin (nI (16 * i + j)) 64 := nI_in (by omega) (by omega)
    match m, hm with
    | 0, _ => exact zbr_t rfl ⟨h64, fin 0 (by omega) rfl _ rfl⟩
    | 1, _ => exact zbr_f (by decide) (zbr_t rfl ⟨h64, fin 1 (by omega) rfl _ rfl⟩)
    | 2, _ => exact zbr_f (by decide) (zbr_f (by decide) (zbr_t rfl (cm_holdOf (by omega) mzi oki (by omega) (fin 2 (by omega) rfl _ rfl))))
    | 3, _ =>
      refine zbr_f (by decide) (zbr_f (by decide) (zbr_f (by decide) (zbr_t rfl ⟨nI_in (by omega) (by omega), cm_isOf (by omega) ?_⟩)))
      cases q : bt (x.2.1 i).2.2.2.2.1 j with
      | false => exact zbr_t rfl (fin 3 (by omega) rfl _ (by show _ = bI _; rw [q]; rfl))
      | true => exact zbr_f (by decide) (fin 3 (by omega) rfl _ (by show _ = bI _; rw [q]; rfl))
    | 4, _ => exact zbr_f (by decide) (zbr_f (by decide) (zbr_f (by decide) (zbr_f (by decide) (zbr_t rfl (cm_openBeside (by omega) mzi oki hj (fin 4 (by omega) rfl _ rfl))))))
    | m + 5, h => exact absurd h (by omega)
  · have q : ∀ m, m < 5 → ¬ w = nI m := fun m hm c => hw ⟨m, hm, c⟩
    exact zbr_f (q 0 (by omega)) (zbr_f (q 1 (by omega)) (zbr_f (q 2 (by omega)) (zbr_f (q 3 (by omega)) (zbr_f (q 4 (by omega)) (cm_failQ (cd := c12) (n := 1) hm0 fr_code (o_place_n (.inr (.inr hw)) h4 (by rw [ei]; exact n2)) H)))))
/-- GAP -/
theorem cq_gap (hc : cdr g D x) (hr : hrm e) {z : Int32} (H : ∀ g', qf D g g' → oc (o_gap x z) k X g' e) : hci (d + 5) 153 [.ref 1000, .int z] g e k X := by
  have h4 := hc.2.1.2
  refine zh_X7_gap (c_theZip hc hr (fun i hi hz => ⟨hT_zip hc.1.1 (by omega), ?_⟩) (fun h => oc_r (H g qf.refl) (by unfold o_gap; rw [iszb_f (by omega) h]; rfl)))
  subst hz
  have hci := hc.2.2.1 i hi
  have ha := hT_zip (D := D) hc.1.1 (show i < 4 by omega)
  obtain ⟨n1, n2⟩ := ct_n hci
  refine c_holding ha n1 n2 (c_bitCount (c_closedCount ha (oc_l (H g qf.refl) ?_)))
  unfold o_gap
  rw [iszb_t (by omega) hi, nI_clamp (by omega), zrel_hb hci.1 hci.2.1 _ n2, hci.1.2.2.2.2.1]
  rfl
theorem shb_C {s : sZ} (h : s.1 ≤ 16) : ∃ v, v < 65536 ∧ shb s s.1 = nI v := bits_nI (n := 16) (by omega) (fun p hp => by
  rw [shb_bt (by omega), Bool.and_eq_true] at hp
  have := of_decide_eq_true hp.1
  omega)
theorem mq_gap (hm : mdr g x) {z : Int32} (H : ∀ g' u, fr qL qF g g' → mdr g' x → om c12 (o_gap x z) u g' → k u g' e) : hci (d + 5) 310 [.ref 1046, .int z] g e k X := by
  have h4 := hm.1.1.2
  have hm0 : mdr (sI g 1046 4 0) x := mdr_code hm
  refine zh_X8_gap (cm_isZip hm0.1.1.1 h4 (fun i hi hv => zbr_f (by decide) ?_) (fun h => zbr_t rfl (cm_failQ (cd := c12) (n := 1) hm0 fr_code (by unfold o_gap; rw [iszb_f (by omega) h]; rfl) H)))
  subst hv
  have mzi := (hm0.1.2 i hi).1
  have oki := (hm0.1.2 i hi).2
  have ei : (nI i).toNatClampNeg = i := nI_clamp (by omega)
  refine cm_holding (by omega) mzi oki (cm_bitsC (shb_C oki.1.2) ⟨nI_in (by omega) (by omega), ?_⟩)
  rw [ei, mzi.2.2.2.2.1]
  refine cm_bitsC (sok_C oki) (H _ _ fr_code hm0 (om_l ?_ code_at))
  unfold o_gap
  rw [iszb_t (by omega) hi, nI_clamp (by omega)]
  rfl
/-- UNLIKE -/
theorem cq_unlike (hc : cdr g D x) (hr : hrm e) {z y : Int32} (H : ∀ g', qf D g g' → oc (o_unlike x z y) k X g' e) : hci (d + 5) 154 [.ref 1000, .int z, .int y] g e k X := by
  have h4 := hc.2.1.2
  refine zh_X7_unlike (c_theZip hc hr (fun i hi hz => ⟨hT_zip hc.1.1 (by omega), ?_⟩) (fun h => oc_r (H g qf.refl) (by unfold o_unlike; rw [iszb_f (by omega) h]; rfl)))
  refine c_theZip hc hr (fun j hj hy => ⟨hT_zip hc.1.1 (by omega), ?_⟩) (fun h => oc_r (H g qf.refl) (by unfold o_unlike; rw [iszb_f (z := y) (by omega) h, Bool.and_false]; rfl))
  subst hz
  subst hy
  have ci := hc.2.2.1 i hi
  have cj := hc.2.2.1 j hj
  have hai := hT_zip (D := D) hc.1.1 (show i < 4 by omega)
  have haj := hT_zip (D := D) hc.1.1 (show j < 4 by omega)
  obtain ⟨n1, n2⟩ := ct_n ci
  obtain ⟨m1, m2⟩ := ct_n cj
  have hv : o_unlike x (nI i) (nI j) = .inl (if (x.2.1 i).1 = (x.2.1 j).1 then sul (x.2.1 i) (x.2.1 j) (x.2.1 i).1 else -1) := by
    unfold o_unlike
    rw [iszb_t (by omega) hi, iszb_t (by omega) hj, nI_clamp (by omega), nI_clamp (by omega)]
    rfl
  refine c_size hai (c_size haj ?_)
  rw [n1, m1]
  refine ⟨fun c => ?_, fun c => oc_l (H g qf.refl) (by rw [hv, if_neg (fun q => c (by rw [q]))])⟩
  have hn : (x.2.1 i).1 = (x.2.1 j).1 := (nI_eq (by omega) (by omega)).mp c
  rw [if_pos hn] at hv
  refine hdown (W := fun p => hwi (d + 4) zm_X7_unlike k X 33 [(3, .ref (D + 2 + i)), (4, .ref (D + 2 + j)), (5, .int (sul (x.2.1 i) (x.2.1 j) p)), (6, .int (nI p))] g e) (n := (x.2.1 i).1) ?_ ?_ 0 (Nat.zero_le _)
  · refine zh_X7_unlike_33 hai haj (c_size hai (zbr_t (by rw [n1]; exact nI_le (Nat.le_refl _) (by omega)) (oc_l (H g qf.refl) hv)))
  · intro p hp W
    rw [nI_succ] at W
    refine zh_X7_unlike_33 hai haj (c_size hai (zbr_f (by rw [n1]; exact nI_ge hp (by omega)) (c_gripL hai (c_gripL haj (c_abs (c_gripR hai (c_gripR haj (c_abs ?_))))))))
    rw [ci.1.2.2.1 p (by omega), ci.1.2.2.2.1 p (by omega), cj.1.2.2.1 p (by omega), cj.1.2.2.2.1 p (by omega), Int32.add_assoc]
    exact W
theorem mq_unlike (hm : mdr g x) {z y : Int32} (H : ∀ g' u, fr qL qF g g' → mdr g' x → om c12 (o_unlike x z y) u g' → k u g' e) : hci (d + 5) 311 [.ref 1046, .int z, .int y] g e k X := by
  have h4 := hm.1.1.2
  have hm0 : mdr (sI g 1046 4 0) x := mdr_code hm
  refine zh_X8_unlike (cm_isZip hm0.1.1.1 h4 (fun i hi hz => zbr_f (by decide) ?_) (fun h => zbr_t rfl (cm_failQ (cd := c12) (n := 1) hm0 fr_code (by unfold o_unlike; rw [iszb_f (by omega) h]; rfl) H)))
  refine cm_isZip hm0.1.1.1 h4 (fun j hj hy => zbr_f (by decide) ?_) (fun h => zbr_t rfl (cm_failQ (cd := c12) (n := 1) hm0 fr_code (by unfold o_unlike; rw [iszb_f (z := y) (by omega) h, Bool.and_false]; rfl) H))
  subst hz
  subst hy
  have mzi := (hm0.1.2 i hi).1
  have oki := (hm0.1.2 i hi).2
  have mzj := (hm0.1.2 j hj).1
  have okj := (hm0.1.2 j hj).2
  have ei : (nI i).toNatClampNeg = i := nI_clamp (by omega)
  have ej : (nI j).toNatClampNeg = j := nI_clamp (by omega)
  have hv : o_unlike x (nI i) (nI j) = .inl (if (x.2.1 i).1 = (x.2.1 j).1 then sul (x.2.1 i) (x.2.1 j) (x.2.1 i).1 else -1) := by
    unfold o_unlike
    rw [iszb_t (by omega) hi, iszb_t (by omega) hj, nI_clamp (by omega), nI_clamp (by omega)]
    rfl
  have n2 := oki.1.2
  have m2 := okj.1.2
  rw [ei, ej, mzi.1, mzj.1]
  refine ⟨nI_in (by omega) (by omega), nI_in (by omega) (by omega), fun c => ?_, fun c => H _ _ fr_code hm0 (om_l (by rw [hv, if_neg (fun q => c (by rw [q]))]) code_at)⟩
  have hn : (x.2.1 i).1 = (x.2.1 j).1 := (nI_eq (by omega) (by omega)).mp c
  rw [if_pos hn] at hv
  refine zh_X8_unlikeOf ?_
  refine hdown (W := fun p => hwi (d + 3) zm_X8_unlikeOf k X 5 [(0, .ref 1046), (1, .int (nI i)), (2, .int (nI j)), (3, .int (sul (x.2.1 i) (x.2.1 j) p)), (4, .int (nI p))] (sI g 1046 4 0) e) (n := (x.2.1 i).1) ?_ ?_ 0 (Nat.zero_le _)
  · exact zh_X8_unlikeOf_5 ⟨nI_in (by omega) (by omega), zbr_t (by rw [ei, mzi.1]; exact nI_le (Nat.le_refl _) (by omega)) (H _ _ fr_code hm0 (om_l hv code_at))⟩
  · intro p hp W
    rw [nI_succ] at W
    refine zh_X8_unlikeOf_5 ⟨nI_in (by omega) (by omega), zbr_f (by rw [ei, mzi.1]; exact nI_ge hp (by omega)) ?_⟩
    rw [ix16, ix16, nI_clamp (show 16 * i + p < 2 ^ 31 by omega), nI_clamp (show 16 * j + p < 2 ^ 31 by omega), mzi.2.2.1 p (by omega), mzj.2.2.1 p (by omega)]
    refine ⟨nI_in (by omega) (by omega), nI_in (by omega) (by omega), c_abs ⟨nI_in (by omega) (by omega), nI_in (by omega) (by omega), c_abs ?_⟩⟩
    rw [mzi.2.2.2.1 p (by omega), mzj.2.2.2.1 p (by omega)]
    exact W
end
