/-! CUT, OFFSET: both sides -/
def shs (s : sZ) (a : Nat) : Nat → Nat
  | 0 => 0
  | j + 1 => shs s a j + sh s (a + j)
theorem shs_le {s : sZ} (hs : sok s) (a : Nat) : ∀ j, shs s a j ≤ 9 * j
  | 0 => Nat.le_refl _
  | j + 1 => by
    have := shs_le hs a j
    have := sh_le hs (a + j)
    show shs s a j + sh s (a + j) ≤ _
    omega
theorem zhs_shs {z : cZ} {s : sZ} (h : zrel z s) (hs : sok s) (a : Nat) : ∀ j, a + j ≤ 16 → zhs z a j = nI (shs s a j)
  | 0, _ => rfl
  | j + 1, hj => by
    unfold zhs shs
    rw [zhs_shs h hs a j (by omega), zrel_hold h hs (by omega), nI_add]
theorem shs_add (s : sZ) (a : Nat) (j : Nat) : ∀ m, shs s a (j + m) = shs s a j + shs s (a + j) m
  | 0 => rfl
  | m + 1 => by
    show shs s a (j + m) + sh s (a + (j + m)) = shs s a j + (shs s (a + j) m + sh s (a + j + m))
    rw [shs_add s a j m, show a + (j + m) = a + j + m by omega]
    omega
theorem n1_lt {v : Nat} (h : v < 2 ^ 31) : (-1 : Int32) < nI v := Int32.lt_of_lt_of_le (b := 0) (by decide) (nI_pos' h)
theorem nI_subR (B R : Nat) : nI (B + R) - nI B = nI R := by rw [← nI_add, Int32.add_comm, Int32.add_sub_cancel]
def scl (s : sZ) (j : Nat) : Nat := min (shs s 0 j) (shs s j (s.1 - j))
def sct (s : sZ) : Nat → Int32 × Nat
  | 0 => (-1, 0)
  | j + 1 => if j = 0 ∨ (sct s j).2 < scl s (j + 1) then (nI (j + 1), scl s (j + 1)) else sct s j
theorem sct_in (s : sZ) : ∀ j, (j = 0 ∧ (sct s j).1 = -1 ∧ (sct s j).2 = 0) ∨ (0 < j ∧ ∃ q, q ≤ j ∧ (sct s j).1 = nI q ∧ (sct s j).2 = scl s q)
  | 0 => .inl ⟨rfl, rfl, rfl⟩
  | j + 1 => by
    refine .inr ⟨by omega, ?_⟩
    unfold sct
    split
    · exact ⟨j + 1, Nat.le_refl _, rfl, rfl⟩
    · rename_i c
      rcases sct_in s j with h | ⟨_, q, h1, h2⟩
      · exact absurd (.inl h.1) c
      · exact ⟨q, by omega, h2⟩
theorem scl_le {s : sZ} (hs : sok s) {j : Nat} (hj : j ≤ 16) : scl s j ≤ 144 := by
  have := shs_le hs 0 j
  unfold scl
  omega
theorem sct_le {s : sZ} (hs : sok s) {j : Nat} (hj : j ≤ 16) : (sct s j).2 ≤ 144 := by
  rcases sct_in s j with ⟨_, _, h⟩ | ⟨_, q, h1, _, h2⟩
  · omega
  · rw [h2]; exact scl_le hs (by omega)
def v_cut (s : sZ) (w : Nat) : Int32 := if w = 0 then (sct s (s.1 - 1)).1 else nI (sct s (s.1 - 1)).2
def o_cut (x : sX) (z w : Int32) : rs := if iszb x.1 z && iszb 2 w then .inl (v_cut (x.2.1 z.toNatClampNeg) w.toNatClampNeg) else .inr 1
section
variable {d : Nat} {k : Int32 → hG → hE → Prop} {kv : hG → hE → Prop} {X : Nat → hG → hE → Prop} {g : hG} {e : hE} {D : Nat} {x : sX}
theorem cq_cut (hc : cdr g D x) (hr : hrm e) {z w : Int32} (H : ∀ g', qf D g g' → oc (o_cut x z w) k X g' e) : hci (d + 5) 175 [.ref 1000, .int z, .int w] g e k X := by
  have h4 := hc.2.1.2
  refine zh_X7_cut (c_theZip hc hr (fun i hi hz => ⟨hT_zip hc.1.1 (by omega), ?_⟩) (fun h => oc_r (H g qf.refl) (by unfold o_cut; rw [iszb_f (by omega) h]; rfl)))
  subst hz
  have hci := hc.2.2.1 i hi
  have ha := hT_zip (D := D) hc.1.1 (show i < 4 by omega)
  obtain ⟨n1, n2⟩ := ct_n hci
  have hs := hci.2.1
  have n0 := hs.1.1
  refine c_checkWhat hr (n := 2) (by omega) (fun w hw hw' => ?_) (fun h => oc_r (H g qf.refl) (by unfold o_cut; rw [iszb_f (n := 2) (by omega) h, Bool.and_false]; rfl))
  subst hw'
  have hv : o_cut x (nI i) (nI w) = .inl (v_cut (x.2.1 i) w) := by
    unfold o_cut
    rw [iszb_t (by omega) hi, iszb_t (by omega) hw, nI_clamp (by omega), nI_clamp (by omega)]
    rfl
  have fin := oc_l (H g qf.refl) hv
  generalize x.2.1 i = s at *
  refine hdown (W := fun p => hwi (d + 4) zm_X7_cut k X 20 [(2, .int (nI w)), (3, .ref (D + 2 + i)), (4, .int (sct s p).1), (5, .int (nI (sct s p).2)), (6, .int (nI (p + 1)))] g e) (n := s.1 - 1) ?_ ?_ 0 (Nat.zero_le _)
  · refine zh_X7_cut_20 ha (c_size ha (zbr_t (by rw [n1]; exact nI_le (by omega) (by omega)) ?_))
    unfold v_cut at fin
    refine ⟨fun c => ?_, fun c => ?_⟩
    · rw [if_pos ((nI_eq (b := 0) (by omega) (by omega)).mp c)] at fin
      exact fin
    · rw [if_neg (fun z => c (by rw [z]; rfl))] at fin
      exact fin
  · intro p hp W
    have l1 := shs_le hs 0 (p + 1)
    have l2 := shs_le hs (p + 1) (s.1 - (p + 1))
    have l3 := sct_le hs (show p ≤ 16 by omega)
    have l4 := scl_le hs (show p + 1 ≤ 16 by omega)
    refine zh_X7_cut_20 ha (c_size ha (zbr_f (by rw [n1]; exact nI_ge (by omega) (by omega)) (c_holdsBetween (b := 0) ha (Nat.zero_le _) (by omega) (c_size ha ?_))))
    rw [n1]
    refine c_holdsBetween ha (by omega) n2 (c_min ?_)
    rw [Nat.sub_zero, zhs_shs hci.1 hs _ _ (by omega), zhs_shs hci.1 hs _ _ (by omega), imn_nI (by omega) (by omega), nI_1]
    rw [show min (shs s 0 (p + 1)) (shs s (p + 1) (s.1 - (p + 1))) = scl s (p + 1) from rfl]
    unfold sct at W
    rcases sct_in s p with ⟨c0, c1, c2⟩ | ⟨c0, q, h1, h2, h3⟩
    · rw [if_pos (.inl c0)] at W
      exact zbr_t c1 W
    · refine zbr_f (by rw [h2]; exact nI_m1 (by omega)) ⟨fun c => ?_, fun c => ?_⟩
      · rw [if_neg (fun z => by
          rcases z with z | z
          · omega
          · exact absurd c (nI_ge z (by omega)))] at W
        exact W
      · rw [if_pos (.inr (by
          apply Nat.lt_of_not_le
          intro z
          exact c (nI_le z (by omega))))] at W
        exact W
theorem mq_cut (hm : mdr g x) {v w : Int32} (H : ∀ g' u, fr qL qF g g' → mdr g' x → om c12 (o_cut x v w) u g' → k u g' e) : hci (d + 5) 306 [.ref 1046, .int v, .int w] g e k X := by
  have h4 := hm.1.1.2
  have hm0 : mdr (sI g 1046 4 0) x := mdr_code hm
  refine zh_X8_cut (cm_isZip hm0.1.1.1 h4 (fun i hi hv => zbr_f (by decide) ?_) (fun h => zbr_t rfl (cm_failQ (cd := c12) (n := 1) hm0 fr_code (by unfold o_cut; rw [iszb_f (by omega) h]; rfl) H)))
  subst hv
  refine cm_isInR (a := 0) (b := 1) (by omega) (by omega) (by decide) (by decide) (fun w _ hw hw' => zbr_f (by decide) ?_) (fun h => zbr_t rfl (cm_failQ (cd := c12) (n := 1) hm0 fr_code (by
    unfold o_cut
    rw [iszb_f (n := 2) (by omega) (fun z => h (by obtain ⟨i, hi, e⟩ := z; exact ⟨i, by omega, by omega, e⟩)), Bool.and_false]
    rfl) H))
  subst hw'
  have hv : o_cut x (nI i) (nI w) = .inl (v_cut (x.2.1 i) w) := by
    unfold o_cut
    rw [iszb_t (by omega) hi, iszb_t (by omega) (by omega), nI_clamp (by omega), nI_clamp (by omega)]
    rfl
  have mzi := (hm0.1.2 i hi).1
  have hs := (hm0.1.2 i hi).2
  have n2 := hs.1.2
  have n0 := hs.1.1
  have ei : (nI i).toNatClampNeg = i := nI_clamp (by omega)
  have hi8 : hin (nI i) 8 := nI_in (by omega) (by omega)
  have fin : k (v_cut (x.2.1 i) w) (sI g 1046 4 0) e := H _ _ fr_code hm0 (om_l hv code_at)
  clear hv H
  generalize sI g 1046 4 0 = g0 at *
  generalize x.2.1 i = s at *
  have l0 := shs_le hs 0 s.1
  refine hdown (W := fun p => hwi (d + 4) zm_X8_cut k X 34 [(0, .ref 1046), (1, .int (nI i)), (2, .int (nI w)), (3, .int (nI (shs s 0 p))), (4, .int (nI p))] g0 e) (n := s.1) ?_ ?_ 0 (Nat.zero_le _)
  · refine zh_X8_cut_34 ⟨hi8, zbr_t (by rw [ei, mzi.1]; exact nI_le (Nat.le_refl _) (by omega)) ?_⟩
    refine hdown (W := fun p => hwi (d + 4) zm_X8_cut k X 73 [(0, .ref 1046), (1, .int (nI i)), (2, .int (nI w)), (3, .int (nI (shs s 0 s.1))), (4, .int (sct s p).1), (5, .int (if p = 0 then -1 else nI (sct s p).2)), (6, .int (nI (shs s 0 p))), (7, .int (nI (p + 1)))] g0 e) (n := s.1 - 1) ?_ ?_ 0 (Nat.zero_le _)
    · refine zh_X8_cut_73 ⟨hi8, zbr_t (by rw [ei, mzi.1]; exact nI_le (by omega) (by omega)) ?_⟩
      unfold v_cut at fin
      refine ⟨fun c => ?_, fun c => c_max ?_⟩
      · rw [if_pos ((nI_eq (b := 0) (by omega) (by omega)).mp c)] at fin
        exact fin
      · rw [if_neg (fun z => c (by rw [z]; rfl))] at fin
        have : imx 0 (if s.1 - 1 = 0 then -1 else nI (sct s (s.1 - 1)).2) = nI (sct s (s.1 - 1)).2 := by
          have l3 := sct_le hs (show s.1 - 1 ≤ 16 by omega)
          by_cases c : s.1 - 1 = 0
          · rw [if_pos c, c]; show imx 0 (-1) = nI 0; decide
          · rw [if_neg c]
            unfold imx
            by_cases c2 : (0 : Int32) < nI (sct s (s.1 - 1)).2
            · rw [if_pos c2]
            · rw [if_neg c2]
              have : (sct s (s.1 - 1)).2 = 0 := by
                apply Nat.eq_zero_of_not_pos
                intro z
                exact c2 (nI_lt (a := 0) z (by omega))
              rw [this]
              rfl
        rw [this]
        exact fin
    · intro p hp W
      have l1 := shs_le hs 0 (p + 1)
      have l2 := shs_le hs (p + 1) (s.1 - (p + 1))
      have l3 := sct_le hs (show p ≤ 16 by omega)
      have l4 := scl_le hs (show p + 1 ≤ 16 by omega)
      refine zh_X8_cut_73 ⟨hi8, zbr_f (by rw [ei, mzi.1]; exact nI_ge (by omega) (by omega)) ?_⟩
      rw [nI_sub1 (by omega), show p + 1 - 1 = p by omega]
      refine cm_holdOf (by omega) mzi hs (by omega) ?_
      have eT : shs s 0 s.1 = shs s 0 (p + 1) + shs s (p + 1) (s.1 - (p + 1)) := by
        have := shs_add s 0 (p + 1) (s.1 - (p + 1))
        rw [show p + 1 + (s.1 - (p + 1)) = s.1 by omega, Nat.zero_add] at this
        exact this
      have e1 : nI (shs s 0 p) + nI (sh s p) = nI (shs s 0 (p + 1)) := by
        rw [nI_add]
        show _ = nI (shs s 0 p + sh s (0 + p))
        rw [Nat.zero_add]
      rw [e1]
      have e2 : nI (shs s 0 s.1) - nI (shs s 0 (p + 1)) = nI (shs s (p + 1) (s.1 - (p + 1))) := by rw [eT, nI_subR]
      rw [e2]
      refine c_min ?_
      rw [imn_nI (by omega) (by omega), nI_1]
      rw [show min (shs s 0 (p + 1)) (shs s (p + 1) (s.1 - (p + 1))) = scl s (p + 1) from rfl]
      rw [if_neg (show ¬ p + 1 = 0 by omega)] at W
      unfold sct at W
      by_cases c0 : p = 0
      · rw [if_pos (.inl c0)] at W
        rw [if_pos c0]
        exact zbr_t (n1_lt (by omega)) W
      · rw [if_neg c0]
        refine ⟨fun c => ?_, fun c => ?_⟩
        · rw [if_pos (.inr (by
            apply Nat.lt_of_not_le
            intro z
            exact absurd c (nI_nlt z (by omega))))] at W
          exact W
        · rw [if_neg (fun z => by
            rcases z with z | z
            · exact c0 z
            · exact c (nI_lt z (by omega)))] at W
          exact W
  · intro p hp W
    rw [nI_succ] at W
    refine zh_X8_cut_34 ⟨hi8, zbr_f (by rw [ei, mzi.1]; exact nI_ge hp (by omega)) (cm_holdOf (by omega) mzi hs (by omega) ?_)⟩
    rw [nI_add]
    have : shs s 0 (p + 1) = shs s 0 p + sh s p := by
      show shs s 0 p + sh s (0 + p) = _
      rw [Nat.zero_add]
    rw [this] at W
    exact W
/-! OFFSET -/
theorem lt0 : ∀ {c : Nat}, 0 < c → c < 2 ^ 31 → -nI c < 0 := by
  intro c h0 hc
  rw [Int32.lt_iff_toInt_lt]
  have e : (nI c).toInt = c := nI_toInt hc
  rw [Int32.toInt_neg, e]
  show Int.bmod (-(c : Int)) (2 ^ 32) < 0
  rw [Int.bmod_def]
  have : (-(c : Int)) % ((2 ^ 32 : Nat) : Int) = 2 ^ 32 - c := by omega
  omega
def shw (s r : sZ) (i j : Nat) : Nat := min (s.2.2.1 i) (r.2.2.2.1 j)
def hiT (r : sZ) (t : Nat) : Int32 := 1 - nI r.1 + nI t
theorem hiT_in {r : sZ} {j t : Nat} (h : r.1 ≤ j + t + 1) : nI j + hiT r t = nI (j + t + 1 - r.1) := by
  unfold hiT
  have : nI (j + t + 1) = nI r.1 + nI (j + t + 1 - r.1) := by rw [nI_add]; congr 1; omega
  have e : nI j + (1 - nI r.1 + nI t) = nI (j + t + 1) - nI r.1 := by
    rw [← nI_1, ← nI_add]
    simp only [Int32.sub_eq_add_neg]
    ac_rfl
  rw [e, this, Int32.add_comm, Int32.add_sub_cancel]
theorem hiT_gen (a b c N : Int32) (h : N = a + b + 1 + c) : a + (1 - N + b) = -c := by
  subst h
  rw [Int32.sub_eq_add_neg, Int32.neg_add (a := a + b + 1) (b := c), Int32.sub_eq_add_neg]
  have : a + (1 + (-(a + b + 1) + -c) + b) = ((a + b + 1) + -(a + b + 1)) + -c := by ac_rfl
  rw [this, Int32.add_right_neg, Int32.zero_add]
theorem hiT_out {r : sZ} {j t : Nat} (h : ¬ r.1 ≤ j + t + 1) : nI j + hiT r t = -nI (r.1 - (j + t + 1)) := by
  unfold hiT
  refine hiT_gen _ _ _ _ ?_
  rw [nI_add, nI_1, nI_add]
  congr 1
  omega
def soff (s r : sZ) (t : Nat) : Nat → Int32
  | 0 => 0
  | j + 1 => if r.1 ≤ j + t + 1 ∧ j + t + 1 - r.1 < s.1 then soff s r t j + nI (shw s r (j + t + 1 - r.1) j) else soff s r t j
def sob (s r : sZ) : Nat → Int32 × Int32
  | 0 => (-1, 0)
  | t + 1 => if (sob s r t).1 < soff s r t r.1 then (soff s r t r.1, hiT r t) else sob s r t
def v_off (s r : sZ) (w : Nat) : Int32 := if w = 0 then (sob s r (s.1 + r.1 - 1)).2 else (sob s r (s.1 + r.1 - 1)).1
def o_offset (x : sX) (z y w : Int32) : rs := if iszb x.1 z && (iszb x.1 y && iszb 2 w) then .inl (v_off (x.2.1 z.toNatClampNeg) (x.2.1 y.toNatClampNeg) w.toNatClampNeg) else .inr 1
theorem o_off_y {i j w : Nat} (h4 : x.1 ≤ 4) (hi : i < x.1) (hj : j < x.1) (hw : w < 2) : o_offset x (nI i) (nI j) (nI w) = .inl (v_off (x.2.1 i) (x.2.1 j) w) := by
  unfold o_offset
  rw [iszb_t (by omega) hi, iszb_t (by omega) hj, iszb_t (by omega) hw, nI_clamp (by omega), nI_clamp (by omega), nI_clamp (by omega)]
  rfl
theorem c_holdOf2 {a b : Nat} (ha : hT a = some hZ) (hb : hT b = some hZ) {s r : sZ} (hs : zrel (zg g a) s) (hr : zrel (zg g b) r) (os : sok s) (or : sok r) {i j : Nat} (hi : i < 16) (hj : j < 16) (H : k (nI (shw s r i j)) g e) : hci (d + 2) 99 [.ref a, .int (nI i), .ref b, .int (nI j)] g e k X := by
  refine zh_X5_holdOf ha hb (c_gripL ha (c_gripR hb (c_min ?_)))
  rw [hs.2.2.1 i hi, hr.2.2.2.1 j hj, imn_nI (by have := os.2.2.1 i; omega) (by have := or.2.2.2.1 j; omega)]
  exact H
theorem c_heldAt {a b : Nat} (ha : hT a = some hZ) (hb : hT b = some hZ) {s r : sZ} (hs : zrel (zg g a) s) (hr : zrel (zg g b) r) (os : sok s) (or : sok r) {t : Nat} (ht : t < 32) (H : k (soff s r t r.1) g e) : hci (d + 3) 100 [.ref 1043, .ref a, .ref b, .int (hiT r t)] g e k X := by
  have n1 := os.1.2
  have n2 := or.1.2
  refine zh_X5_heldAt ha hb ?_
  refine hdown (W := fun j => hwi (d + 2) zm_X5_heldAt k X 6 [(1, .ref a), (2, .ref b), (3, .int (hiT r t)), (4, .int (soff s r t j)), (5, .int (nI j))] g e) (n := r.1) ?_ ?_ 0 (Nat.zero_le _)
  · exact zh_X5_heldAt_6 ha hb (c_size hb (zbr_t (by rw [hr.1]; exact nI_le (Nat.le_refl _) (by omega)) H))
  · intro j hj W
    rw [nI_succ] at W
    unfold soff at W
    refine zh_X5_heldAt_6 ha hb (c_size hb (zbr_f (by rw [hr.1]; exact nI_ge hj (by omega)) ?_))
    by_cases c : r.1 ≤ j + t + 1
    · rw [hiT_in c]
      refine zbr_f (nI_nlt (b := 0) (by omega) (by omega)) (c_size ha ?_)
      rw [hs.1]
      by_cases c2 : j + t + 1 - r.1 < s.1
      · rw [if_pos ⟨c, c2⟩] at W
        exact zbr_f (nI_ge c2 (by omega)) (c_holdOf2 ha hb hs hr os or (by omega) (by omega) W)
      · rw [if_neg (fun z => c2 z.2)] at W
        exact zbr_t (nI_le (by omega) (by omega)) W
    · rw [if_neg (fun z => c z.1)] at W
      rw [hiT_out c]
      exact zbr_t (lt0 (by omega) (by omega)) W
theorem cm_holdsWith {i j : Nat} {s r : sZ} (hi : i < 4) (hj : j < 4) (hs : mz g i s) (hr : mz g j r) (os : sok s) (or : sok r) {p q : Nat} (hp : p < s.1) (hq : q < r.1) (H : k (nI (shw s r p q)) g e) : hci (d + 2) 300 [.ref 1046, .int (nI i), .int (nI p), .int (nI j), .int (nI q)] g e k X := by
  have n1 := os.1.2
  have n2 := or.1.2
  refine zh_X8_holdsWith (zbr_f (nI_nlt (b := 0) (by omega) (by omega)) ⟨nI_in (by omega) (by omega), ?_⟩)
  rw [ix16, ix16, nI_clamp (show i < 2 ^ 31 by omega), nI_clamp (show j < 2 ^ 31 by omega), hs.1, hr.1, nI_clamp (show 16 * i + p < 2 ^ 31 by omega), nI_clamp (show 16 * j + q < 2 ^ 31 by omega), hs.2.2.1 p (by omega), hr.2.2.2.1 q (by omega)]
  refine zbr_f (nI_ge hp (by omega)) (zbr_f (nI_nlt (b := 0) (by omega) (by omega)) ⟨nI_in (by omega) (by omega), zbr_f (nI_ge hq (by omega)) (zbr_f (by decide) ⟨nI_in (by omega) (by omega), nI_in (by omega) (by omega), c_min ?_⟩)⟩)
  rw [imn_nI (by have := os.2.2.1 p; omega) (by have := or.2.2.2.1 q; omega)]
  exact H
theorem cm_sewnAt {i i' : Nat} {s r : sZ} (hi : i < 4) (hi' : i' < 4) (hs : mz g i s) (hr : mz g i' r) (os : sok s) (or : sok r) {t : Nat} (ht : t < 32) (H : k (soff s r t r.1) g e) : hci (d + 3) 301 [.ref 1046, .int (nI i), .int (nI i'), .int (hiT r t)] g e k X := by
  have n1 := os.1.2
  have n2 := or.1.2
  refine zh_X8_sewnAt ?_
  refine hdown (W := fun j => hwi (d + 2) zm_X8_sewnAt k X 6 [(0, .ref 1046), (1, .int (nI i)), (2, .int (nI i')), (3, .int (hiT r t)), (4, .int (soff s r t j)), (5, .int (nI j))] g e) (n := r.1) ?_ ?_ 0 (Nat.zero_le _)
  · exact zh_X8_sewnAt_6 ⟨nI_in (by omega) (by omega), zbr_t (by rw [nI_clamp (by omega), hr.1]; exact nI_le (Nat.le_refl _) (by omega)) H⟩
  · intro j hj W
    rw [nI_succ] at W
    unfold soff at W
    refine zh_X8_sewnAt_6 ⟨nI_in (by omega) (by omega), zbr_f (by rw [nI_clamp (by omega), hr.1]; exact nI_ge hj (by omega)) ?_⟩
    have W0 : soff s r t j + 0 = soff s r t j := Int32.add_zero _
    by_cases c : r.1 ≤ j + t + 1
    · rw [hiT_in c]
      by_cases c2 : j + t + 1 - r.1 < s.1
      · rw [if_pos ⟨c, c2⟩] at W
        exact cm_holdsWith hi hi' hs hr os or c2 hj W
      · rw [if_neg (fun z => c2 z.2), ← W0] at W
        refine zh_X8_holdsWith (zbr_f (nI_nlt (b := 0) (by omega) (by omega)) ⟨nI_in (by omega) (by omega), zbr_t ?_ (zh_X8_holdsWith_34 (zbr_t rfl W))⟩)
        rw [nI_clamp (by omega), hs.1]
        exact nI_le (by omega) (by omega)
    · rw [if_neg (fun z => c z.1), ← W0] at W
      rw [hiT_out c]
      exact zh_X8_holdsWith (zbr_t (lt0 (by omega) (by omega)) (zh_X8_holdsWith_34 (zbr_t rfl W)))
theorem hiT_end {r : sZ} {t n : Nat} (h : t + 1 = r.1 + n) : hiT r t = nI n := by
  have := hiT_in (r := r) (j := 0) (t := t) (by omega)
  rw [show nI 0 = 0 from rfl, Int32.zero_add] at this
  rw [this]
  congr 1
  omega
theorem hiT_lt {r : sZ} {t n : Nat} (h : t + 1 < r.1 + n) (hr : r.1 ≤ 16) (hn : n ≤ 16) : ¬ nI n ≤ hiT r t := by
  by_cases c : r.1 ≤ t + 1
  · have := hiT_in (r := r) (j := 0) (t := t) (by omega)
    rw [show nI 0 = 0 from rfl, Int32.zero_add] at this
    rw [this]
    exact nI_ge (by omega) (by omega)
  · have := hiT_out (r := r) (j := 0) (t := t) (by omega)
    rw [show nI 0 = 0 from rfl, Int32.zero_add] at this
    rw [this]
    have a := lt0 (c := r.1 - (0 + t + 1)) (by omega) (by omega)
    exact Int32.not_le.mpr (Int32.lt_of_lt_of_le a (nI_pos' (by omega)))
theorem hiT_1 (r : sZ) (t : Nat) : hiT r t + 1 = hiT r (t + 1) := by
  unfold hiT
  rw [Int32.add_assoc, nI_1]
theorem cq_offset (hc : cdr g D x) (hr : hrm e) {z y w : Int32} (H : ∀ g', qf D g g' → oc (o_offset x z y w) k X g' e) : hci (d + 5) 173 [.ref 1000, .int z, .int y, .int w] g e k X := by
  have h4 := hc.2.1.2
  refine zh_X7_offset (c_theZip hc hr (fun i hi hz => ⟨hT_zip hc.1.1 (by omega), ?_⟩) (fun h => oc_r (H g qf.refl) (by unfold o_offset; rw [iszb_f (by omega) h]; rfl)))
  refine c_theZip hc hr (fun j hj hy => ⟨hT_zip hc.1.1 (by omega), ?_⟩) (fun h => oc_r (H g qf.refl) (by unfold o_offset; rw [iszb_f (z := y) (by omega) h, Bool.false_and, Bool.and_false]; rfl))
  subst hz
  subst hy
  have ci := hc.2.2.1 i hi
  have cj := hc.2.2.1 j hj
  have hai := hT_zip (D := D) hc.1.1 (show i < 4 by omega)
  have haj := hT_zip (D := D) hc.1.1 (show j < 4 by omega)
  obtain ⟨n1, n2⟩ := ct_n ci
  obtain ⟨m1, m2⟩ := ct_n cj
  have m0 := cj.2.1.1.1
  have n0 := ci.2.1.1.1
  refine c_checkWhat hr (n := 2) (by omega) (fun w hw hw' => ?_) (fun h => oc_r (H g qf.refl) (by unfold o_offset; rw [iszb_f (n := 2) (by omega) h, Bool.and_false, Bool.and_false]; rfl))
  subst hw'
  have fin := oc_l (H g qf.refl) (o_off_y h4 hi hj hw)
  generalize x.2.1 i = s at *
  generalize x.2.1 j = r at *
  refine c_size haj ?_
  rw [m1, show (1 : Int32) - nI r.1 = hiT r 0 by unfold hiT; rw [show nI 0 = 0 from rfl, Int32.add_zero]]
  refine hdown (W := fun t => hwi (d + 4) zm_X7_offset k X 34 [(0, .ref 1000), (3, .int (nI w)), (4, .ref (D + 2 + i)), (5, .ref (D + 2 + j)), (6, .int (sob s r t).1), (7, .int (sob s r t).2), (8, .int (hiT r t))] g e) (n := s.1 + r.1 - 1) ?_ ?_ 0 (Nat.zero_le _)
  · refine zh_X7_offset_34 hai haj (c_size hai (zbr_t (by rw [n1, hiT_end (n := s.1) (by omega)]; exact nI_le (Nat.le_refl _) (by omega)) ?_))
    unfold v_off at fin
    refine ⟨fun c => ?_, fun c => ?_⟩
    · rw [if_pos ((nI_eq (b := 0) (by omega) (by omega)).mp c)] at fin
      exact fin
    · rw [if_neg (fun z => c (by rw [z]; rfl))] at fin
      exact fin
  · intro t ht W
    rw [← hiT_1] at W
    unfold sob at W
    refine zh_X7_offset_34 hai haj (c_size hai (zbr_f (by rw [n1]; exact hiT_lt (by omega) m2 n2) (c_heldAt hai haj ci.1 cj.1 ci.2.1 cj.2.1 (by omega) ⟨fun c => ?_, fun c => ?_⟩)))
    · rw [if_neg (Int32.not_lt.mpr c)] at W
      exact W
    · rw [if_pos (Int32.not_le.mp c)] at W
      exact W
theorem mq_offset (hm : mdr g x) {z y w : Int32} (H : ∀ g' u, fr qL qF g g' → mdr g' x → om c12 (o_offset x z y w) u g' → k u g' e) : hci (d + 5) 302 [.ref 1046, .int z, .int y, .int w] g e k X := by
  have h4 := hm.1.1.2
  have hm0 : mdr (sI g 1046 4 0) x := mdr_code hm
  refine zh_X8_offset (cm_isZip hm0.1.1.1 h4 (fun i hi hz => zbr_f (by decide) ?_) (fun h => zbr_t rfl (cm_failQ (cd := c12) (n := 1) hm0 fr_code (by unfold o_offset; rw [iszb_f (by omega) h]; rfl) H)))
  refine cm_isZip hm0.1.1.1 h4 (fun j hj hy => zbr_f (by decide) ?_) (fun h => zbr_t rfl (cm_failQ (cd := c12) (n := 1) hm0 fr_code (by unfold o_offset; rw [iszb_f (z := y) (by omega) h, Bool.false_and, Bool.and_false]; rfl) H))
  refine cm_isInR (a := 0) (b := 1) (by omega) (by omega) (by decide) (by decide) (fun w _ hw hw' => zbr_f (by decide) ?_) (fun h => zbr_t rfl (cm_failQ (cd := c12) (n := 1) hm0 fr_code (by
    unfold o_offset
    rw [iszb_f (n := 2) (by omega) (fun z => h (by obtain ⟨i, hi, e⟩ := z; exact ⟨i, by omega, by omega, e⟩)), Bool.and_false, Bool.and_false]
    rfl) H))
  subst hz
  subst hy
  subst hw'
  have mzi := (hm0.1.2 i hi).1
  have oki := (hm0.1.2 i hi).2
  have mzj := (hm0.1.2 j hj).1
  have okj := (hm0.1.2 j hj).2
  have n2 := oki.1.2
  have m2 := okj.1.2
  have n0 := oki.1.1
  have m0 := okj.1.1
  have ei : (nI i).toNatClampNeg = i := nI_clamp (by omega)
  have ej : (nI j).toNatClampNeg = j := nI_clamp (by omega)
  have fin : k (v_off (x.2.1 i) (x.2.1 j) w) (sI g 1046 4 0) e := H _ _ fr_code hm0 (om_l (o_off_y h4 hi hj (by omega)) code_at)
  clear H
  generalize sI g 1046 4 0 = g0 at *
  generalize x.2.1 i = s at *
  generalize x.2.1 j = r at *
  refine ⟨nI_in (by omega) (by omega), ?_⟩
  rw [ej, mzj.1, show (1 : Int32) - nI r.1 = hiT r 0 by unfold hiT; rw [show nI 0 = 0 from rfl, Int32.add_zero]]
  refine hdown (W := fun t => hwi (d + 4) zm_X8_offset k X 53 [(0, .ref 1046), (1, .int (nI i)), (2, .int (nI j)), (3, .int (nI w)), (4, .int (sob s r t).2), (5, .int (sob s r t).1), (6, .int (hiT r t))] g0 e) (n := s.1 + r.1 - 1) ?_ ?_ 0 (Nat.zero_le _)
  · refine zh_X8_offset_53 ⟨nI_in (by omega) (by omega), zbr_t (by rw [ei, mzi.1, hiT_end (n := s.1) (by omega)]; exact nI_le (Nat.le_refl _) (by omega)) ?_⟩
    unfold v_off at fin
    refine ⟨fun c => ?_, fun c => ?_⟩
    · rw [if_pos ((nI_eq (b := 0) (by omega) (by omega)).mp c)] at fin
      exact fin
    · rw [if_neg (fun z => c (by rw [z]; rfl))] at fin
      exact fin
  · intro t ht W
    rw [← hiT_1] at W
    unfold sob at W
    refine zh_X8_offset_53 ⟨nI_in (by omega) (by omega), zbr_f (by rw [ei, mzi.1]; exact hiT_lt (by omega) m2 n2) (cm_sewnAt (by omega) (by omega) mzi mzj oki okj (by omega) ⟨fun c => ?_, fun c => ?_⟩)⟩
    · rw [if_pos c] at W
      exact W
    · rw [if_neg c] at W
      exact W
end
