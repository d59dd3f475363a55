/-! count and feed in the class -/
def twin (s r : sZ) : Bool := decide (s.1 = r.1) && (List.range 16).all (fun p => decide (s.2.2.1 p = r.2.2.1 p) && decide (s.2.2.2.1 p = r.2.2.2.1 p))
theorem twin_t {s r : sZ} : twin s r = true ↔ s.1 = r.1 ∧ ∀ p, p < 16 → s.2.2.1 p = r.2.2.1 p ∧ s.2.2.2.1 p = r.2.2.2.1 p := by
  unfold twin
  rw [Bool.and_eq_true, decide_eq_true_iff, List.all_eq_true]
  constructor
  · intro h
    refine ⟨h.1, fun p hp => ?_⟩
    have := h.2 p (List.mem_range.mpr hp)
    rw [Bool.and_eq_true, decide_eq_true_iff, decide_eq_true_iff] at this
    exact this
  · intro h
    refine ⟨h.1, fun p hp => ?_⟩
    rw [Bool.and_eq_true, decide_eq_true_iff, decide_eq_true_iff]
    exact h.2 p (List.mem_range.mp hp)
theorem twin_sym (s r : sZ) : twin s r = twin r s := by
  have : twin s r = true ↔ twin r s = true := by
    rw [twin_t, twin_t]
    exact ⟨fun h => ⟨h.1.symm, fun p hp => ⟨(h.2 p hp).1.symm, (h.2 p hp).2.symm⟩⟩, fun h => ⟨h.1.symm, fun p hp => ⟨(h.2 p hp).1.symm, (h.2 p hp).2.symm⟩⟩⟩
  exact Bool.eq_iff_iff.mpr this
def tws (f : Nat → Nat → Bool) (n : Nat) : Int32 := xsum (fun i => xsum (fun j => bI (f i j)) i) n
def twc (f : Nat → Nat → Bool) (n m : Nat) : Int32 := xsum (fun i => xsum (fun j => bI (f i (i + 1 + j))) (n - 1 - i)) m
theorem tw4 : ∀ a b c d e f : Bool, (0 : Int32) + (0 + bI a + bI b + bI c) + (0 + bI d + bI e) + (0 + bI f) + 0 = 0 + 0 + (0 + bI a) + (0 + bI b + bI d) + (0 + bI c + bI e + bI f) := by decide
theorem tw3 : ∀ a b d : Bool, (0 : Int32) + (0 + bI a + bI b) + (0 + bI d) + 0 = 0 + 0 + (0 + bI a) + (0 + bI b + bI d) := by decide
theorem tw2 : ∀ a : Bool, (0 : Int32) + (0 + bI a) + 0 = 0 + 0 + (0 + bI a) := by decide
theorem twc_s {f : Nat → Nat → Bool} (h : ∀ i j, f i j = f j i) : ∀ n, n ≤ 4 → twc f n n = tws f n
  | 0, _ => rfl
  | 1, _ => rfl
  | 2, _ => by
    show (0 : Int32) + (0 + bI (f 0 1)) + 0 = 0 + 0 + (0 + bI (f 1 0))
    rw [h 1 0]
    exact tw2 _
  | 3, _ => by
    show (0 : Int32) + (0 + bI (f 0 1) + bI (f 0 2)) + (0 + bI (f 1 2)) + 0 = 0 + 0 + (0 + bI (f 1 0)) + (0 + bI (f 2 0) + bI (f 2 1))
    rw [h 1 0, h 2 0, h 2 1]
    exact tw3 _ _ _
  | 4, _ => by
    show (0 : Int32) + (0 + bI (f 0 1) + bI (f 0 2) + bI (f 0 3)) + (0 + bI (f 1 2) + bI (f 1 3)) + (0 + bI (f 2 3)) + 0 = 0 + 0 + (0 + bI (f 1 0)) + (0 + bI (f 2 0) + bI (f 2 1)) + (0 + bI (f 3 0) + bI (f 3 1) + bI (f 3 2))
    rw [h 1 0, h 2 0, h 2 1, h 3 0, h 3 1, h 3 2]
    exact tw4 _ _ _ _ _ _
  | n + 5, hn => absurd hn (by omega)
def v_count (s : sS) : Nat → Int32
  | 0 => nI s.1.1
  | 1 => nI s.1.2.2.2.2.2
  | 2 => nI (sstr s.1.2.2.1 s.1.2.2.2.2.2)
  | 3 => xsum (fun i => jbc (s.1.2.1 i).2.2.2.2.1) s.1.1
  | 4 => xsum (fun i => ssum (s.1.2.1 i) (s.1.2.1 i).1) s.1.1
  | 5 => tws (fun i j => twin (s.1.2.1 i) (s.1.2.1 j)) s.1.1
  | 6 => nI s.2.1.1.length
  | 7 => nI s.2.1.2.1.length
  | 8 => nI s.2.2.2.1.1
  | 9 => s.2.1.2.2 0
  | 10 => s.2.1.2.2 1
  | _ => s.2.1.2.2 2
def o_count (s : sS) (w : Int32) : rs := if iszb 12 w then .inl (v_count s w.toNatClampNeg) else .inr 1
theorem o_count_y {s : sS} {i : Nat} (h : i < 12) : o_count s (nI i) = .inl (v_count s i) := by
  unfold o_count
  rw [iszb_t (by omega) h, nI_clamp (by omega)]
  rfl
section
variable {d : Nat} {k : Int32 → hG → hE → Prop} {kv : hG → hE → Prop} {X : Nat → hG → hE → Prop} {g : hG} {e : hE} {D : Nat} {x : sX} {s : sS}
theorem c_hasGripsOf {a b : Nat} (ha : hT a = some hZ) (hb : hT b = some hZ) {u v : sZ} (hu : zrel (zg g a) u) (hv : zrel (zg g b) v) (ou : sok u) (ov : sok v) (H : k (bI (twin u v)) g e) : hci (d + 1) 124 [.ref a, .ref b] g e k X := by
  have n1 := ou.1.2
  have n2 := ov.1.2
  have no : ¬ (u.1 = v.1 ∧ ∀ p, p < 16 → u.2.2.1 p = v.2.2.1 p ∧ u.2.2.2.1 p = v.2.2.2.1 p) → k 0 g e := by
    intro h
    rw [show twin u v = false from Bool.eq_false_iff.mpr (fun z => h (twin_t.mp z))] at H
    exact H
  have lg : ∀ L R : Int64, lg_cmp L R = 0 ↔ L = R := by
    intro L R
    unfold lg_cmp
    by_cases c : L > R
    · rw [if_pos c]
      exact ⟨fun h => absurd h (by decide), fun h => absurd c (by rw [h]; exact Int64.lt_irrefl)⟩
    · rw [if_neg c]
      by_cases c2 : L = R
      · rw [if_pos c2]; exact ⟨fun _ => c2, fun _ => rfl⟩
      · rw [if_neg c2]; exact ⟨fun h => absurd h (by decide), fun h => absurd h c2⟩
  have l9 := ou.2.2.1
  have r9 := ov.2.2.1
  have l8 := ou.2.2.2.1
  have r8 := ov.2.2.2.1
  refine zh_X6_hasGripsOf ha hb ⟨fun c => ⟨fun c2 => ⟨fun c3 => ?_, fun c3 => no (fun q => c3 ((lg _ _).mpr (gr_ext (fun p hp => ?_))))⟩, fun c2 => no (fun q => c2 ((lg _ _).mpr (gr_ext (fun p hp => ?_))))⟩, fun c => no (fun q => c ?_)⟩
  · rw [twin_t.mpr ⟨?_, fun p hp => ⟨?_, ?_⟩⟩] at H
    · exact H
    · have : nI u.1 = nI v.1 := by rw [← hu.1, ← hv.1]; exact c
      exact (nI_eq (by omega) (by omega)).mp this
    · have e1 := hu.2.2.1 p hp
      have e2 := hv.2.2.1 p hp
      have e3 : (zg g a).2.2.1 = (zg g b).2.2.1 := (lg _ _).mp c2
      rw [e3, e2] at e1
      have := l9 p
      have := r9 p
      exact ((nI_eq (by omega) (by omega)).mp e1).symm
    · have e1 := hu.2.2.2.1 p hp
      have e2 := hv.2.2.2.1 p hp
      have e3 : (zg g a).2.2.2.1 = (zg g b).2.2.2.1 := (lg _ _).mp c3
      rw [e3, e2] at e1
      have := l8 p
      have := r8 p
      exact ((nI_eq (by omega) (by omega)).mp e1).symm
  · show gr (zg g a).2.2.2.1 p = gr (zg g b).2.2.2.1 p
    rw [hu.2.2.2.1 p hp, hv.2.2.2.1 p hp, (q.2 p hp).2]
  · show gr (zg g a).2.2.1 p = gr (zg g b).2.2.1 p
    rw [hu.2.2.1 p hp, hv.2.2.1 p hp, (q.2 p hp).1]
  · show (zg g a).1 = (zg g b).1
    rw [hu.1, hv.1, q.1]
theorem c_twins (hc : cdr g D x) (hr : hrm e) (H : k (tws (fun i j => twin (x.2.1 i) (x.2.1 j)) x.1) g e) : hci (d + 5) 149 [.ref 1000] g e k X := by
  have h4 := hc.2.1.2
  have hD' := hc.1.1
  rw [← twc_s (fun i j => twin_sym _ _) x.1 h4] at H
  obtain ⟨f, hf⟩ : ∃ f, f = fun i j => twin (x.2.1 i) (x.2.1 j) := ⟨_, rfl⟩
  rw [← hf] at H
  have tz : ∀ {d : Nat} {i : Nat} {kr : Nat → hG → hE → Prop}, i < x.1 → kr (D + 2 + i) g e → hcr (d + 3) 201 [.ref 1000, .int (nI i)] g e kr X := by
    intro d i kr hi K
    refine c_theZip hc hr (fun i' h1 h2 => ?_) (fun z => absurd ⟨i, hi, rfl⟩ z)
    rw [(nI_eq (by omega) (by omega)).mp h2] at K
    exact K
  refine zh_X7_twins ?_
  refine hdown (W := fun i => hwi (d + 4) zm_X7_twins k X 4 [(0, .ref 1000), (1, .int (twc f x.1 i)), (2, .int (nI i))] g e) (n := x.1) ?_ ?_ 0 (Nat.zero_le _)
  · refine zh_X7_twins_4 ?_
    rw [hc.1.2]
    exact ⟨hD', zh_X2_zipCount hD' (zbr_t (by rw [hc.2.1.1]; exact nI_le (Nat.le_refl _) (by omega)) H)⟩
  · intro i hi W
    refine zh_X7_twins_4 ?_
    rw [hc.1.2]
    refine ⟨hD', zh_X2_zipCount hD' (zbr_f (by rw [hc.2.1.1]; exact nI_ge hi (by omega)) ?_)⟩
    rw [nI_1]
    have := hdown (W := fun j => hwi (d + 4) zm_X7_twins k X 19 [(0, .ref 1000), (1, .int (twc f x.1 i + xsum (fun j => bI (f i (i + 1 + j))) j)), (2, .int (nI i)), (3, .int (nI (i + 1 + j)))] g e) (n := x.1 - 1 - i) ?_ ?_ 0 (Nat.zero_le _)
    · have this : hwi (d + 4) zm_X7_twins k X 19 [(0, .ref 1000), (1, .int (twc f x.1 i + 0)), (2, .int (nI i)), (3, .int (nI (i + 1 + 0)))] g e := this
      rw [Int32.add_zero] at this
      exact this
    · refine zh_X7_twins_19 ?_
      rw [hc.1.2]
      refine ⟨hD', zh_X2_zipCount hD' (zbr_t (by rw [hc.2.1.1]; exact nI_le (by omega) (by omega)) ?_)⟩
      rw [nI_1]
      exact W
    · intro j hj W2
      have hj' : i + 1 + j < x.1 := by omega
      have ci := hc.2.2.1 i hi
      have cj := hc.2.2.1 _ hj'
      have hai := hT_zip (D := D) hD' (show i < 4 by omega)
      have haj := hT_zip (D := D) hD' (show i + 1 + j < 4 by omega)
      refine zh_X7_twins_19 ?_
      rw [hc.1.2]
      refine ⟨hD', zh_X2_zipCount hD' (zbr_f (by rw [hc.2.1.1]; exact nI_ge hj' (by omega)) (tz hi ⟨hai, tz hj' ⟨haj, c_hasGripsOf hai haj ci.1 cj.1 ci.2.1 cj.2.1 ?_⟩⟩))⟩
      rw [nI_1]
      have un : xsum (fun j => bI (f i (i + 1 + j))) (j + 1) = xsum (fun j => bI (f i (i + 1 + j))) j + bI (f i (i + 1 + j)) := rfl
      rw [un, ← Int32.add_assoc, show f i (i + 1 + j) = twin (x.2.1 i) (x.2.1 (i + 1 + j)) by rw [hf]] at W2
      cases q : twin (x.2.1 i) (x.2.1 (i + 1 + j)) with
      | false =>
        rw [q, show bI false = 0 from rfl, Int32.add_zero] at W2
        exact zbr_t rfl W2
      | true =>
        rw [q, show bI true = 1 from rfl] at W2
        exact zbr_f (by decide) W2
theorem c_allClosedC (hc : cdr g D x) (H : k (xsum (fun i => jbc (x.2.1 i).2.2.2.2.1) x.1) g e) : hci (d + 4) 55 [.ref D] g e k X := by
  have h4 := hc.2.1.2
  have hD' := hc.1.1
  refine zh_X2_allClosed hD' ?_
  refine hdown (W := fun i => hwi (d + 3) zm_X2_allClosed k X 4 [(0, .ref D), (1, .int (xsum (fun i => jbc (x.2.1 i).2.2.2.2.1) i)), (2, .int (nI i))] g e) (n := x.1) ?_ ?_ 0 (Nat.zero_le _)
  · exact zh_X2_allClosed_4 hD' (zbr_t (by rw [hc.2.1.1]; exact nI_le (Nat.le_refl _) (by omega)) H)
  · intro i hi W
    have ci := hc.2.2.1 i hi
    have hai := hT_zip (D := D) hD' (show i < 4 by omega)
    refine zh_X2_allClosed_4 hD' (zbr_f (by rw [hc.2.1.1]; exact nI_ge hi (by omega)) (c_zipAt hc hi ⟨hai, c_closedCount hai ?_⟩))
    rw [ci.1.2.2.2.2.1, nI_1]
    exact W
theorem c_allGripsC (hc : cdr g D x) (H : k (xsum (fun i => ssum (x.2.1 i) (x.2.1 i).1) x.1) g e) : hci (d + 5) 56 [.ref D] g e k X := by
  have h4 := hc.2.1.2
  have hD' := hc.1.1
  refine zh_X2_allGrips hD' ?_
  refine hdown (W := fun i => hwi (d + 4) zm_X2_allGrips k X 4 [(0, .ref D), (1, .int (xsum (fun i => ssum (x.2.1 i) (x.2.1 i).1) i)), (2, .int (nI i))] g e) (n := x.1) ?_ ?_ 0 (Nat.zero_le _)
  · exact zh_X2_allGrips_4 hD' (zbr_t (by rw [hc.2.1.1]; exact nI_le (Nat.le_refl _) (by omega)) H)
  · intro i hi W
    have ci := hc.2.2.1 i hi
    obtain ⟨n1, n2⟩ := ct_n ci
    have hai := hT_zip (D := D) hD' (show i < 4 by omega)
    refine zh_X2_allGrips_4 hD' (zbr_f (by rw [hc.2.1.1]; exact nI_ge hi (by omega)) (c_zipAt hc hi ⟨hai, c_gripSum hai n1 n2 ?_⟩))
    rw [zrel_sum ci.1 _ n2, nI_1]
    exact W
theorem cs_count (hc : RC g D s) (hr : hrm e) {w : Int32} (H : oc (o_count s w) k X g e) : hci (d + 6) 148 [.ref 1000, .int w] g e k X := by
  have c0 := hc.1
  have hD' := c0.1.1
  have hB' : hB 1027 := Or.inl rfl
  have ht := c0.2.2.2.2.2.2
  have K : ∀ i, i < 12 → w = nI i → k (v_count s i) g e := fun i hi hw => oc_l H (by rw [hw]; exact o_count_y hi)
  refine zh_X7_count ?_
  rw [c0.1.2]
  refine ⟨fun c0' => ⟨hD', zh_X2_zipCount hD' (by rw [c0.2.1.1]; exact K 0 (by omega) c0')⟩, fun n0 => ⟨fun c1 => ⟨hD', zh_X2_today hD' (by rw [c0.2.2.2.2.2.1]; exact K 1 (by omega) c1)⟩, fun n1 => ⟨fun c2 => ⟨hD', hD', zh_X2_today hD' (by rw [c0.2.2.2.2.2.1]; exact c_strainOn c0 (by omega) (K 2 (by omega) c2))⟩, fun n2 => ⟨fun c3 => ⟨hD', c_allClosedC c0 (K 3 (by omega) c3)⟩, fun n3 => ⟨fun c4 => ⟨hD', c_allGripsC c0 (K 4 (by omega) c4)⟩, fun n4 => ⟨fun c5 => c_twins c0 hr (K 5 (by omega) c5), fun n5 => ⟨fun c6 => zh_X0_actCount hB' (by rw [hc.2.2.1.1.1]; exact K 6 (by omega) c6), fun n6 => ⟨fun c7 => zh_X0_noteCount hB' (by rw [hc.2.2.1.2.1.1.1]; exact K 7 (by omega) c7), fun n7 => ⟨fun c8 => zh_X3_tapeLength (by rw [hc.2.2.2.2.1.1]; exact K 8 (by omega) c8), fun n8 => ⟨fun c9 => zh_X0_refusedOf hB' (zbr_f (by decide) (zbr_f (by decide) ⟨nI_in (c := 0) (by omega) (by omega), (by have this : k (s.2.1.2.2 0) g e := K 9 (by omega) c9; rw [← hc.2.2.1.2.2 0 (by omega)] at this; exact this)⟩)), fun n9 => ⟨fun c10 => zh_X0_refusedOf hB' (zbr_f (by decide) (zbr_f (by decide) ⟨nI_in (c := 1) (by omega) (by omega), (by have this : k (s.2.1.2.2 1) g e := K 10 (by omega) c10; rw [← hc.2.2.1.2.2 1 (by omega)] at this; exact this)⟩)), fun n10 => ⟨fun c11 => zh_X0_refusedOf hB' (zbr_f (by decide) (zbr_f (by decide) ⟨nI_in (c := 2) (by omega) (by omega), (by have this : k (s.2.1.2.2 2) g e := K 11 (by omega) c11; rw [← hc.2.2.1.2.2 2 (by omega)] at this; exact this)⟩)), fun n11 => ?_⟩⟩⟩⟩⟩⟩⟩⟩⟩⟩⟩⟩
  refine ⟨hr, oc_r H ?_⟩
  unfold o_count
  rw [iszb_f (n := 12) (by omega) (fun q => ?_)]
  · rfl
  · obtain ⟨i, hi, hw⟩ := q
    match i, hi with
    | 0, _ => exact n0 hw
    | 1, _ => exact n1 hw
    | 2, _ => exact n2 hw
    | 3, _ => exact n3 hw
    | 4, _ => exact n4 hw
    | 5, _ => exact n5 hw
    | 6, _ => exact n6 hw
    | 7, _ => exact n7 hw
    | 8, _ => exact n8 hw
    | 9, _ => exact n9 hw
    | 10, _ => exact n10 hw
    | 11, _ => exact n11 hw
    | i + 12, hi => exact absurd hi (by omega)
end
