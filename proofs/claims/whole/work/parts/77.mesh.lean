/-! MESH: what the most holds; who is with whom -/
def smc (pv h : Nat → Nat) : Nat → Nat
  | 0 => 0
  | b + 1 => max (max (pv (b + 1)) (smc pv h b)) (h b + pv b)
def smh (s r : sZ) : Nat → Nat → Nat
  | 0 => fun _ => 0
  | a + 1 => smc (smh s r a) (fun b => shw s r (s.1 - (a + 1)) (r.1 - (b + 1)))
abbrev smx (s r : sZ) (i j : Nat) : Nat := smh s r (s.1 - i) (r.1 - j)
theorem smx_i (s r : sZ) (j : Nat) : smx s r s.1 j = 0 := by unfold smx; rw [Nat.sub_self]; rfl
theorem smx_j (s r : sZ) (i : Nat) : smx s r i r.1 = 0 := by
  unfold smx
  rw [Nat.sub_self]
  cases s.1 - i <;> rfl
theorem smx_in {s r : sZ} {i j : Nat} (hi : i < s.1) (hj : j < r.1) : smx s r i j = max (max (smx s r (i + 1) j) (smx s r i (j + 1))) (shw s r i j + smx s r (i + 1) (j + 1)) := by
  unfold smx
  rw [show s.1 - i = (s.1 - (i + 1)) + 1 by omega, show r.1 - j = (r.1 - (j + 1)) + 1 by omega]
  show max (max (smh s r (s.1 - (i + 1)) (r.1 - (j + 1) + 1)) (smh s r (s.1 - (i + 1) + 1) (r.1 - (j + 1)))) (shw s r (s.1 - (s.1 - (i + 1) + 1)) (r.1 - (r.1 - (j + 1) + 1)) + smh s r (s.1 - (i + 1)) (r.1 - (j + 1))) = _
  rw [show s.1 - (s.1 - (i + 1) + 1) = i by omega, show r.1 - (r.1 - (j + 1) + 1) = j by omega]
theorem shw_le {s r : sZ} (hs : sok s) (i j : Nat) : shw s r i j ≤ 9 := by have := hs.2.2.1 i; unfold shw; omega
theorem smh_le {s r : sZ} (hs : sok s) : ∀ a b, smh s r a b ≤ 9 * a
  | 0, _ => Nat.le_refl _
  | a + 1, 0 => Nat.zero_le _
  | a + 1, b + 1 => by
    have h1 := smh_le (r := r) hs a (b + 1)
    have h2 := smh_le (r := r) hs (a + 1) b
    have h3 := smh_le (r := r) hs a b
    have h4 := shw_le (r := r) hs (s.1 - (a + 1)) (r.1 - (b + 1))
    show max (max (smh s r a (b + 1)) (smh s r (a + 1) b)) (shw s r (s.1 - (a + 1)) (r.1 - (b + 1)) + smh s r a b) ≤ _
    omega
theorem smh_mono (s r : sZ) : ∀ a b, smh s r a b ≤ smh s r a (b + 1)
  | 0, _ => Nat.le_refl _
  | a + 1, b => by
    show _ ≤ max (max _ (smh s r (a + 1) b)) _
    omega
theorem smx_le {s r : sZ} (hs : sok s) (i j : Nat) : smx s r i j ≤ 144 := by
  have := smh_le (r := r) hs (s.1 - i) (r.1 - j)
  have := hs.1.2
  unfold smx
  omega
theorem smx_mono {s r : sZ} {i j : Nat} (hj : j < r.1) : smx s r i (j + 1) ≤ smx s r i j := by
  have := smh_mono s r (s.1 - i) (r.1 - (j + 1))
  rw [show r.1 - (j + 1) + 1 = r.1 - j by omega] at this
  exact this
/-- the first partner from the free one up -/
def sfp (s r : sZ) (i f : Nat) : Nat → Nat → Option Nat
  | 0, _ => none
  | m + 1, j => if ¬ shw s r i j = 0 ∧ shw s r i j + smx s r (i + 1) (j + 1) = smx s r i f then some j else sfp s r i f m (j + 1)
def oI : Option Nat → Int32
  | none => -1
  | some j => nI j
def swt (s r : sZ) : Nat → Nat × Option Nat
  | 0 => (0, none)
  | i + 1 => ((match sfp s r i (swt s r i).1 (r.1 - (swt s r i).1) (swt s r i).1 with | none => (swt s r i).1 | some j => j + 1), sfp s r i (swt s r i).1 (r.1 - (swt s r i).1) (swt s r i).1)
theorem sfp_lt {s r : sZ} {i f : Nat} : ∀ {m j p : Nat}, sfp s r i f m j = some p → p < j + m
  | 0, _, _, h => by cases h
  | m + 1, j, p, h => by
    unfold sfp at h
    split at h
    · cases h; omega
    · have := sfp_lt h; omega
theorem swt_le (s r : sZ) : ∀ i, (swt s r i).1 ≤ r.1
  | 0 => Nat.zero_le _
  | i + 1 => by
    have ih := swt_le s r i
    unfold swt
    cases h : sfp s r i (swt s r i).1 (r.1 - (swt s r i).1) (swt s r i).1 with
    | none => exact ih
    | some j => have := sfp_lt h; show j + 1 ≤ r.1; omega
def v_mesh (s r : sZ) (p : Int32) : Int32 := if p = -1 then nI (smx s r 0 0) else oI (swt s r (p.toNatClampNeg + 1)).2
def o_mesh (x : sX) (z y p : Int32) : rs := if iszb x.1 z && (iszb x.1 y && (decide (p = -1) || iszb (x.2.1 z.toNatClampNeg).1 p)) then .inl (v_mesh (x.2.1 z.toNatClampNeg) (x.2.1 y.toNatClampNeg) p) else .inr 1
theorem nI_p1m (i : Nat) : nI (i + 1) + (-1) = nI i := by
  rw [← nI_1, Int32.add_assoc, show (1 : Int32) + (-1) = 0 by decide, Int32.add_zero]
theorem ix17 {i j : Nat} : nI i * 17 + nI j = nI (i * 17 + j) := by
  rw [show (17 : Int32) = nI 17 from rfl, pk_mul, nI_add]
theorem ix18 {i j : Nat} : (18 : Int32) * nI i + nI j = nI (18 * i + j) := by
  rw [show (18 : Int32) = nI 18 from rfl, pk_mul, nI_add]
theorem imx_nI {a b : Nat} (ha : a < 2 ^ 31) (hb : b < 2 ^ 31) : imx (nI a) (nI b) = nI (max a b) := by
  unfold imx
  by_cases h : a < b
  · rw [if_pos (nI_lt h hb), Nat.max_eq_right (by omega)]
  · rw [if_neg (nI_nlt (by omega) ha), Nat.max_eq_left (by omega)]
section
variable {d : Nat} {k : Int32 → hG → hE → Prop} {kv : hG → hE → Prop} {X : Nat → hG → hE → Prop} {g : hG} {e : hE} {D : Nat} {x : sX}
theorem c_heldFrom {i j : Nat} (hi : i ≤ 16) (hj : j ≤ 16) (H : k (g.1 1044 (i * 17 + j)) g e) : hci (d + 1) 101 [.ref 1043, .int (nI i), .int (nI j)] g e k X := by
  refine zh_X5_heldFrom ?_
  rw [ix17, nI_clamp (by omega)]
  exact zbr_f (nI_nlt (b := 0) (by omega) (by omega)) (zbr_f (nI_ge (by omega) (by omega)) ⟨nI_in (by omega) (by omega), H⟩)
theorem c_putHeld {i j : Nat} {v : Int32} (hi : i ≤ 16) (hj : j ≤ 16) (H : kv (sI g 1044 (i * 17 + j) v) e) : hcv (d + 1) 102 [.ref 1043, .int (nI i), .int (nI j), .int v] g e kv X := by
  refine zh_X5_putHeld ?_
  rw [ix17, nI_clamp (by omega)]
  exact zbr_f (nI_nlt (b := 0) (by omega) (by omega)) (zbr_f (nI_ge (by omega) (by omega)) ⟨nI_in (by omega) (by omega), H⟩)
theorem qf_44 {n : Nat} {v : Int32} (hD' : hD D) : qf D g (sI g 1044 n v) := by
  have := hD_lt hD'
  exact ⟨fun b h1 _ _ _ => sI_off g (by omega), fun k _ => by rw [sI_off g (by omega)], fun _ _ => rfl, rfl⟩
/-- the class's rows are so far told -/
def mhC (s r : sZ) (g : hG) (P : Nat → Nat → Prop) : Prop := ∀ i j, i ≤ s.1 → j ≤ r.1 → P i j → g.1 1044 (i * 17 + j) = nI (smx s r i j)
theorem mhC_put {s r : sZ} {g : hG} {P P' : Nat → Nat → Prop} {i j : Nat} (h : mhC s r g P) (hr : r.1 ≤ 16) (hj : j ≤ 16) (hP : ∀ i' j', P' i' j' → P i' j' ∨ (i' = i ∧ j' = j)) {v : Int32} (hv : v = nI (smx s r i j)) : mhC s r (sI g 1044 (i * 17 + j) v) P' := by
  intro i' j' hi' hj' p
  rw [sI_at]
  by_cases c : i' = i ∧ j' = j
  · obtain ⟨rfl, rfl⟩ := c
    rw [upd_at, hv]
  · rw [upd_off _ _ (by omega)]
    rcases hP i' j' p with q | q
    · exact h i' j' hi' hj' q
    · exact absurd q c
theorem c_meshed (hc : cdr g D x) {i0 j0 : Nat} (hi0 : i0 < x.1) (hj0 : j0 < x.1) (H : ∀ g', qf D g g' → mhC (x.2.1 i0) (x.2.1 j0) g' (fun _ _ => True) → k (nI (smx (x.2.1 i0) (x.2.1 j0) 0 0)) g' e) : hci (d + 4) 103 [.ref 1043, .ref (D + 2 + i0), .ref (D + 2 + j0)] g e k X := by
  have h4 := hc.2.1.2
  have hD' := hc.1.1
  have ha := hT_zip (D := D) hD' (show i0 < 4 by omega)
  have hb := hT_zip (D := D) hD' (show j0 < 4 by omega)
  have cs : ∀ g1, qf D g g1 → zrel (zg g1 (D + 2 + i0)) (x.2.1 i0) ∧ zrel (zg g1 (D + 2 + j0)) (x.2.1 j0) := fun g1 q1 => ⟨((cdr_qf q1 hc).2.2.1 i0 hi0).1, ((cdr_qf q1 hc).2.2.1 j0 hj0).1⟩
  have os := (hc.2.2.1 i0 hi0).2.1
  have or := (hc.2.2.1 j0 hj0).2.1
  generalize x.2.1 i0 = s at *
  generalize x.2.1 j0 = r at *
  have n1 := os.1.2
  have n2 := or.1.2
  refine zh_X5_meshed ha hb (c_size ha ?_)
  rw [(cs g qf.refl).1.1, ← nI_p1m s.1]
  have : ∀ n, n ≤ s.1 + 1 → ∀ g1, qf D g g1 → mhC s r g1 (fun i _ => n ≤ i) → hwi (d + 3) zm_X5_meshed k X 5 [(0, .ref 1043), (1, .ref (D + 2 + i0)), (2, .ref (D + 2 + j0)), (3, .int (nI n + (-1)))] g1 e := by
    intro n
    induction n with
    | zero =>
      intro _ g1 q1 m1
      refine zh_X5_meshed_5 ha hb (zbr_t (by decide) (c_heldFrom (i := 0) (j := 0) (by omega) (by omega) ?_))
      rw [m1 0 0 (by omega) (by omega) (Nat.le_refl _)]
      exact H g1 q1 (fun i j a b _ => m1 i j a b (Nat.zero_le _))
    | succ i ih =>
      intro hn g1 q1 m1
      rw [nI_p1m]
      refine zh_X5_meshed_5 ha hb (zbr_f (nI_nlt (b := 0) (by omega) (by omega)) (c_size hb ?_))
      rw [(cs g1 q1).2.1, ← nI_p1m r.1]
      have inner : ∀ m, m ≤ r.1 + 1 → ∀ g2, qf D g g2 → mhC s r g2 (fun i' j' => i + 1 ≤ i' ∨ (i' = i ∧ m ≤ j')) → hwi (d + 3) zm_X5_meshed k X 15 [(0, .ref 1043), (1, .ref (D + 2 + i0)), (2, .ref (D + 2 + j0)), (3, .int (nI i)), (4, .int (nI m + (-1)))] g2 e := by
        intro m
        induction m with
        | zero =>
          intro _ g2 q2 m2
          refine zh_X5_meshed_15 ha hb (zbr_t (by decide) (ih (by omega) g2 q2 ?_))
          intro i' j' a b c
          refine m2 i' j' a b ?_
          by_cases z : i' = i
          · exact .inr ⟨z, Nat.zero_le _⟩
          · exact .inl (by omega)
        | succ j ih2 =>
          intro hm g2 q2 m2
          rw [nI_p1m]
          obtain ⟨z1, z2⟩ := cs g2 q2
          have put : ∀ v, v = nI (smx s r i j) → hcv (d + 3) 102 [.ref 1043, .int (nI i), .int (nI j), .int v] g2 e (fun g4 e5 => hwi (d + 3) zm_X5_meshed k X 15 [(0, .ref 1043), (1, .ref (D + 2 + i0)), (2, .ref (D + 2 + j0)), (3, .int (nI i)), (4, .int (nI j + (-1)))] g4 e5) X := by
            intro v hv
            refine c_putHeld (by omega) (by omega) (ih2 (by omega) _ (q2.trans (qf_44 hD')) (mhC_put m2 n2 (by omega) (fun i' j' p => ?_) hv))
            rcases p with p | p
            · exact .inl (.inl p)
            · by_cases z : j' = j
              · exact .inr ⟨p.1, z⟩
              · exact .inl (.inr ⟨p.1, by omega⟩)
          refine zh_X5_meshed_15 ha hb (zbr_f (nI_nlt (b := 0) (by omega) (by omega)) (c_size ha ?_))
          rw [z1.1]
          refine ⟨fun c => put 0 ?_, fun c => c_size hb ?_⟩
          · have : i = s.1 := by
              have : ¬ i < s.1 := fun z => nI_ge z (by omega) c
              omega
            rw [this, smx_i]
            rfl
          · rw [z2.1]
            have hi : i < s.1 := Nat.lt_of_not_le (fun z => c (nI_le z (by omega)))
            refine ⟨fun c2 => put 0 ?_, fun c2 => ?_⟩
            · have : j = r.1 := by
                have : ¬ j < r.1 := fun z => nI_ge z (by omega) c2
                omega
              rw [this, smx_j]
              rfl
            · have hj : j < r.1 := Nat.lt_of_not_le (fun z => c2 (nI_le z (by omega)))
              have b1 := smx_le (r := r) os (i + 1) j
              have b2 := smx_le (r := r) os i (j + 1)
              have b3 := smx_le (r := r) os (i + 1) (j + 1)
              have b4 := shw_le (r := r) os i j
              rw [nI_1, nI_1]
              refine c_heldFrom (by omega) (by omega) (c_heldFrom (by omega) (by omega) (c_max (c_holdOf2 ha hb z1 z2 os or (by omega) (by omega) (c_heldFrom (by omega) (by omega) (c_max (put _ ?_))))))
              rw [m2 (i + 1) j (by omega) (by omega) (.inl (Nat.le_refl _)), m2 i (j + 1) (by omega) (by omega) (.inr ⟨rfl, Nat.le_refl _⟩), m2 (i + 1) (j + 1) (by omega) (by omega) (.inl (Nat.le_refl _)), imx_nI (by omega) (by omega), nI_add, imx_nI (by omega) (by omega), smx_in hi hj]
      refine inner (r.1 + 1) (Nat.le_refl _) g1 q1 (fun i' j' a b c => m1 i' j' a b ?_)
      rcases c with c | c
      · exact c
      · omega
  exact this (s.1 + 1) (Nat.le_refl _) g qf.refl (fun i' j' a _ c => absurd c (by omega))
theorem c_firstPartner {g0 : hG} (hc : cdr g0 D x) {i0 j0 : Nat} (hi0 : i0 < x.1) (hj0 : j0 < x.1) (hq : qf D g0 g) (hm : mhC (x.2.1 i0) (x.2.1 j0) g (fun _ _ => True)) {i f : Nat} (hi : i < (x.2.1 i0).1) (hf : f ≤ (x.2.1 j0).1) (H : k (oI (sfp (x.2.1 i0) (x.2.1 j0) i f ((x.2.1 j0).1 - f) f)) g e) : hci (d + 4) 105 [.ref 1043, .ref (D + 2 + i0), .ref (D + 2 + j0), .int (nI i), .int (nI f)] g e k X := by
  have h4 := hc.2.1.2
  have hD' := hc.1.1
  have ha := hT_zip (D := D) hD' (show i0 < 4 by omega)
  have hb := hT_zip (D := D) hD' (show j0 < 4 by omega)
  have z1 := ((cdr_qf hq hc).2.2.1 i0 hi0).1
  have z2 := ((cdr_qf hq hc).2.2.1 j0 hj0).1
  have os := (hc.2.2.1 i0 hi0).2.1
  have or := (hc.2.2.1 j0 hj0).2.1
  generalize x.2.1 i0 = s at *
  generalize x.2.1 j0 = r at *
  have n1 := os.1.2
  have n2 := or.1.2
  refine zh_X5_firstPartner ha hb ?_
  obtain ⟨V, hV⟩ : ∃ V, V = sfp s r i f (r.1 - f) f := ⟨_, rfl⟩
  rw [← hV] at H
  have : ∀ m j, j + m = r.1 → sfp s r i f m j = V → hwi (d + 3) zm_X5_firstPartner k X 4 [(0, .ref 1043), (1, .ref (D + 2 + i0)), (2, .ref (D + 2 + j0)), (3, .int (nI i)), (4, .int (nI f)), (5, .int (nI j))] g e := by
    intro m
    induction m with
    | zero =>
      intro j hj h
      rw [← h] at H
      exact zh_X5_firstPartner_4 ha hb (c_size hb (zbr_t (by rw [z2.1]; exact nI_le (by omega) (by omega)) H))
    | succ m ih =>
      intro j hj h
      have b2 := smx_le (r := r) os i f
      have b3 := smx_le (r := r) os (i + 1) (j + 1)
      have b4 := shw_le (r := r) os i j
      unfold sfp at h
      refine zh_X5_firstPartner_4 ha hb (c_size hb (zbr_f (by rw [z2.1]; exact nI_ge (by omega) (by omega)) (c_holdOf2 ha hb z1 z2 os or (by omega) (by omega) ?_)))
      rw [nI_1, nI_1]
      by_cases c : shw s r i j = 0
      · rw [if_neg (fun z => z.1 c)] at h
        exact zbr_t (by rw [c]; decide) (ih (j + 1) (by omega) h)
      · refine zbr_f (nI_ge (a := 0) (by omega) (by omega)) (c_heldFrom (by omega) (by omega) (c_heldFrom (by omega) (by omega) ?_))
        rw [hm (i + 1) (j + 1) (by omega) (by omega) trivial, hm i f (by omega) hf trivial, nI_add]
        refine ⟨fun c2 => ?_, fun c2 => ?_⟩
        · rw [if_pos ⟨c, (nI_eq (by omega) (by omega)).mp c2⟩] at h
          rw [← h] at H
          exact H
        · rw [if_neg (fun z => c2 (by rw [z.2]))] at h
          exact ih (j + 1) (by omega) h
  exact this (r.1 - f) f (by omega) hV.symm
theorem oI_m1 {o : Option Nat} (h : ∀ j, o = some j → j < 2 ^ 31) : oI o = -1 ↔ o = none := by
  cases o with
  | none => exact ⟨fun _ => rfl, fun _ => rfl⟩
  | some j => exact ⟨fun z => absurd z (nI_m1 (h j rfl)), fun z => by cases z⟩
theorem o_mesh_n {z y p : Int32} (h : ¬ isz x.1 z ∨ ¬ isz x.1 y) (h4 : x.1 ≤ 4) : o_mesh x z y p = .inr 1 := by
  unfold o_mesh
  rcases h with h | h
  · rw [iszb_f (by omega) h]; rfl
  · rw [iszb_f (z := y) (by omega) h, Bool.false_and, Bool.and_false]; rfl
theorem o_mesh_p {i j : Nat} {p : Int32} (h4 : x.1 ≤ 4) (hi : i < x.1) (h16 : (x.2.1 i).1 ≤ 16) (h1 : ¬ p = -1) (h2 : ¬ isz (x.2.1 i).1 p) : o_mesh x (nI i) (nI j) p = .inr 1 := by
  unfold o_mesh
  rw [nI_clamp (show i < 2 ^ 31 by omega), iszb_f (n := (x.2.1 i).1) (by omega) h2, decide_eq_false h1, Bool.or_false, Bool.and_false, Bool.and_false]
  rfl
theorem o_mesh_y {i j : Nat} {p : Int32} (h4 : x.1 ≤ 4) (hi : i < x.1) (hj : j < x.1) (h : p = -1 ∨ iszb (x.2.1 i).1 p = true) : o_mesh x (nI i) (nI j) p = .inl (v_mesh (x.2.1 i) (x.2.1 j) p) := by
  unfold o_mesh
  rw [nI_clamp (show i < 2 ^ 31 by omega), nI_clamp (show j < 2 ^ 31 by omega), iszb_t (by omega) hi, iszb_t (by omega) hj]
  have : (decide (p = -1) || iszb (x.2.1 i).1 p) = true := by
    rcases h with h | h
    · rw [decide_eq_true h]; rfl
    · rw [h, Bool.or_true]
  rw [this]
  rfl
theorem cq_mesh (hc : cdr g D x) (hr : hrm e) {z y p : Int32} (H : ∀ g', qf D g g' → oc (o_mesh x z y p) k X g' e) : hci (d + 6) 174 [.ref 1000, .int z, .int y, .int p] g e k X := by
  have h4 := hc.2.1.2
  refine zh_X7_mesh (c_theZip hc hr (fun i hi hz => ⟨hT_zip hc.1.1 (by omega), ?_⟩) (fun h => oc_r (H g qf.refl) (o_mesh_n (.inl h) h4)))
  refine c_theZip hc hr (fun j hj hy => ⟨hT_zip hc.1.1 (by omega), ?_⟩) (fun h => oc_r (H g qf.refl) (o_mesh_n (.inr h) h4))
  subst hz
  subst hy
  have ci := hc.2.2.1 i hi
  have cj := hc.2.2.1 j hj
  have hai := hT_zip (D := D) hc.1.1 (show i < 4 by omega)
  have haj := hT_zip (D := D) hc.1.1 (show j < 4 by omega)
  obtain ⟨n1, n2⟩ := ct_n ci
  obtain ⟨m1, m2⟩ := ct_n cj
  refine ⟨fun c => c_meshed hc hi hj (fun g1 q1 _ => oc_l (H g1 q1) ?_), fun c => ?_⟩
  · rw [o_mesh_y h4 hi hj (.inl c)]
    unfold v_mesh
    rw [if_pos c]
  · refine c_checkPlace hai n1 n2 hr (fun q hq hp => ?_) (fun h => oc_r (H g qf.refl) (o_mesh_p h4 hi n2 c h))
    subst hp
    have hv : o_mesh x (nI i) (nI j) (nI q) = .inl (oI (swt (x.2.1 i) (x.2.1 j) (q + 1)).2) := by
      rw [o_mesh_y h4 hi hj (.inr (iszb_t (by omega) hq))]
      unfold v_mesh
      rw [if_neg c, nI_clamp (by omega)]
    refine zh_X5_meshedWith hai haj (c_meshed hc hi hj (fun g1 q1 mh => ?_))
    have fin := oc_l (H g1 q1) hv
    refine hdown (W := fun m => hwi (d + 4) zm_X5_meshedWith k X 16 [(0, .ref 1043), (1, .ref (D + 2 + i)), (2, .ref (D + 2 + j)), (3, .int (nI q)), (4, .int (nI (swt (x.2.1 i) (x.2.1 j) m).1)), (5, .int (oI (swt (x.2.1 i) (x.2.1 j) m).2)), (6, .int (nI m))] g1 e) (n := q + 1) ?_ ?_ 0 (Nat.zero_le _)
    · exact zh_X5_meshedWith_16 hai haj (zbr_t (nI_lt (by omega) (by omega)) fin)
    · intro m hm W
      have le := swt_le (x.2.1 i) (x.2.1 j) m
      refine zh_X5_meshedWith_16 hai haj (zbr_f (nI_nlt (by omega) (by omega)) (c_size hai (zbr_f (by rw [((cdr_qf q1 hc).2.2.1 i hi).1.1]; exact nI_ge (by omega) (by omega)) (c_firstPartner hc hi hj q1 mh (by omega) le ?_))))
      rw [nI_1]
      unfold swt at W
      cases o : sfp (x.2.1 i) (x.2.1 j) m (swt (x.2.1 i) (x.2.1 j) m).1 ((x.2.1 j).1 - (swt (x.2.1 i) (x.2.1 j) m).1) (swt (x.2.1 i) (x.2.1 j) m).1 with
      | none =>
        rw [o] at W
        exact zbr_t rfl W
      | some b =>
        rw [o] at W
        have := sfp_lt o
        refine zbr_f (nI_m1 (by omega)) ?_
        show hwi _ _ _ _ _ [_, _, _, _, (4, .int (nI b + 1)), _, _] _ _
        rw [nI_1]
        exact W
end
