def sofN (s r : sZ) (t : Nat) : Nat → Nat
  | 0 => 0
  | j + 1 => if r.1 ≤ j + t + 1 ∧ j + t + 1 - r.1 < s.1 then sofN s r t j + shw s r (j + t + 1 - r.1) j else sofN s r t j
theorem soff_N {s r : sZ} {t : Nat} : ∀ j, soff s r t j = nI (sofN s r t j)
  | 0 => rfl
  | j + 1 => by
    have ih := soff_N (s := s) (r := r) (t := t) j
    unfold soff sofN
    split
    · rw [ih, nI_add]
    · exact ih
theorem sofN_le {s r : sZ} (hs : sok s) {t : Nat} : ∀ j, sofN s r t j ≤ 9 * j
  | 0 => Nat.le_refl _
  | j + 1 => by
    have ih := sofN_le (r := r) hs (t := t) j
    have := hs.2.2.1 (j + t + 1 - r.1)
    unfold sofN
    split
    · unfold shw; omega
    · omega
def swm (x : sX) (i j : Nat) : Option Nat := if (x.2.1 i).1 = (x.2.1 j).1 then some (min 200 (sofN (x.2.1 i) (x.2.1 j) ((x.2.1 j).1 - 1) (x.2.1 j).1)) else none
theorem swm_le (x : sX) (i j a : Nat) (h : swm x i j = some a) : a ≤ 200 := by
  unfold swm at h
  split at h
  · have := Option.some.inj h; omega
  · cases h
theorem swm_id (x : sX) (i : Nat) : ∃ a, swm x i i = some a := by
  unfold swm
  rw [if_pos rfl]
  exact ⟨_, rfl⟩
def v_mates (x : sX) (z : Nat) : Nat := mtG (swm x) x.1 x.1 0 / 4 ^ (x.1 - 1 - z) % 4
def o_mates (x : sX) (z : Int32) : rs := if z = -1 then .inl (iI (mtT (swm x) x.1 x.1 0)) else if iszb x.1 z then .inl (nI (v_mates x z.toNatClampNeg)) else .inr 1
theorem mu_dig : ∀ r, r < 4 → ∀ c, c < 256 → (nI c >>> ((2 * nI r) &&& 31)) &&& 3 = nI (c / 4 ^ r % 4) := by decide +kernel
theorem mu_bit : ∀ u, u < 16 → ∀ j, j < 4 → (((nI u >>> (nI j &&& 31)) &&& 1 = 0) ↔ u.testBit j = false) := by decide +kernel
theorem mu_bt : ∀ u, u < 16 → ∀ j, j < 4 → bt (nI u) j = u.testBit j := by decide +kernel
theorem mu_or : ∀ u, u < 16 → ∀ j, j < 4 → nI u ||| (1 <<< (nI j &&& 31)) = nI (u ||| 2 ^ j) ∧ u ||| 2 ^ j < 16 := by decide +kernel
theorem mu_ix : ∀ l, l < 5 → ∀ u, u < 16 → (nI l <<< ((4 : Int32) &&& 31)) + nI u = nI (16 * l + u) := by decide +kernel
theorem mu_p2 : ∀ n, n < 5 → (1 : Int32) <<< (nI n &&& 31) = nI (2 ^ n) ∧ 2 ^ n ≤ 16 := by decide +kernel
theorem mu_p4 : ∀ n, n < 5 → (1 : Int32) <<< ((2 * nI n) &&& 31) = nI (4 ^ n) ∧ 4 ^ n ≤ 256 := by decide +kernel
theorem mu_orn : ∀ n, n < 5 → ∀ u, u < 2 ^ n → ∀ j, j < n → u ||| 2 ^ j < 2 ^ n := by decide +kernel
def mvh (h : Nat) (o : Option Nat) : Int := match o with
  | none => -1
  | some v => ((h + v : Nat) : Int)
theorem mt_bd {w : Nat → Nat → Option Nat} {n : Nat} (hn : n ≤ 4) (hw : ∀ i j a, w i j = some a → a ≤ 200) {r u : Nat} (hr : r ≤ 4) : -1000000 ≤ mtT w n r u ∧ mtT w n r u ≤ 1000 := by
  refine ⟨?_, ?_⟩
  · cases r with
    | zero => show (-1000000 : Int) ≤ 0; omega
    | succ r => exact mmx_lo n
  · rcases mt_main hn hw r hr u with ⟨a, _⟩ | ⟨_, a, _⟩ <;> omega
theorem mtf_bd {w : Nat → Nat → Option Nat} {n : Nat} (hn : n ≤ 4) (hw : ∀ i j a, w i j = some a → a ≤ 200) {r u i j : Nat} (hr : r ≤ 4) : -1000000 ≤ mtf w (mtT w n r) i u j ∧ mtf w (mtT w n r) i u j ≤ 1200 := by
  rcases mtf_c (w := w) (mtT w n r) i u j with h | ⟨_, a, h3, h4⟩
  · rw [h]; omega
  · have := hw _ _ _ h3
    have := mt_bd hn hw (r := r) (u := u ||| 2 ^ j) hr
    rw [h4]; omega
theorem mmx_bd {w : Nat → Nat → Option Nat} {n : Nat} (hn : n ≤ 4) (hw : ∀ i j a, w i j = some a → a ≤ 200) {r u i : Nat} (hr : r ≤ 4) : ∀ j, mmx (mtf w (mtT w n r) i u) j ≤ 1200
  | 0 => by show (-1000000 : Int) ≤ _; omega
  | j + 1 => by
    have ih := mmx_bd hn hw (u := u) (i := i) hr j
    have := mtf_bd hn hw (u := u) (i := i) (j := j) hr
    show max _ _ ≤ _
    omega
section
variable {d : Nat} {k : Int32 → hG → hE → Prop} {kv : hG → hE → Prop} {X : Nat → hG → hE → Prop} {g : hG} {e : hE} {D : Nat} {x : sX}
theorem c_rightOf (hc : cdr g D x) {c i : Nat} (h : c < 256) (hi : i < x.1) (H : k (nI (c / 4 ^ (x.1 - 1 - i) % 4)) g e) : hci (d + 2) 177 [.ref 1000, .int (nI c), .int (nI i)] g e k X := by
  have h4 := hc.2.1.2
  refine zh_X7_rightOf ?_
  rw [hc.1.2]
  refine ⟨hc.1.1, zh_X2_zipCount hc.1.1 ?_⟩
  rw [hc.2.1.1, nI_sub1 (by omega), show nI (x.1 - 1) = nI (i + (x.1 - 1 - i)) by congr 1; omega, nI_subR, mu_dig _ (by omega) _ h]
  exact H
theorem hiT_0 {r : sZ} (h : 1 ≤ r.1) : hiT r (r.1 - 1) = 0 := by
  have e := hiT_in (r := r) (j := 0) (t := r.1 - 1) (by omega)
  rw [show 0 + (r.1 - 1) + 1 - r.1 = 0 by omega] at e
  have : (0 : Int32) + hiT r (r.1 - 1) = 0 := e
  rw [Int32.zero_add] at this
  exact this
theorem c_heldByRow (hc : cdr g D x) (hr : hrm e) {c : Nat} (h : c < 256) (H : k (iI (mvh 0 (mtF (swm x) x.1 x.1 0 (c % 4 ^ x.1)))) g e) : hci (d + 5) 178 [.ref 1000, .int (nI c)] g e k X := by
  have h4 := hc.2.1.2
  have hD' := hc.1.1
  refine zh_X7_heldByRow ?_
  have : ∀ r, r ≤ x.1 → ∀ u hd, u < 16 → hd + 200 * r ≤ 1000 → k (iI (mvh hd (mtF (swm x) x.1 r u (c % 4 ^ r)))) g e → hwi (d + 4) zm_X7_heldByRow k X 7 [(0, .ref 1000), (1, .int (nI c)), (2, .int (nI u)), (3, .int (nI hd)), (4, .int (nI (x.1 - r)))] g e := by
    intro r
    induction r with
    | zero =>
      intro _ u hd hu hh H
      refine zh_X7_heldByRow_7 ?_
      rw [hc.1.2]
      refine ⟨hD', zh_X2_zipCount hD' (zbr_t (by rw [hc.2.1.1]; exact nI_le (Nat.le_refl _) (by omega)) ?_)⟩
      rw [iI_nI]
      exact H
    | succ r ih =>
      intro hr1 u hd hu hh H
      have er : x.1 - 1 - (x.1 - (r + 1)) = r := by omega
      have hi : x.1 - (r + 1) < x.1 := by omega
      have ei : x.1 - (r + 1) + 1 = x.1 - r := by omega
      have ei2 : x.1 - 1 - r = x.1 - (r + 1) := by omega
      have e1 : c % 4 ^ (r + 1) / 4 ^ r = c / 4 ^ r % 4 := by rw [Nat.pow_succ, Nat.mod_mul_right_div_self]
      have e2 : c % 4 ^ (r + 1) % 4 ^ r = c % 4 ^ r := Nat.mod_mod_of_dvd _ ⟨4, Nat.pow_succ ..⟩
      have j4 : c / 4 ^ r % 4 < 4 := Nat.mod_lt _ (by omega)
      rw [show mtF (swm x) x.1 (r + 1) u (c % 4 ^ (r + 1)) = (if c % 4 ^ (r + 1) / 4 ^ r < x.1 ∧ u.testBit (c % 4 ^ (r + 1) / 4 ^ r) = false then (swm x (x.1 - 1 - r) (c % 4 ^ (r + 1) / 4 ^ r)).bind (fun a => (mtF (swm x) x.1 r (u ||| 2 ^ (c % 4 ^ (r + 1) / 4 ^ r)) (c % 4 ^ (r + 1) % 4 ^ r)).map (fun b => a + b)) else none) from rfl, e1, e2, ei2] at H
      refine zh_X7_heldByRow_7 ?_
      rw [hc.1.2]
      refine ⟨hD', zh_X2_zipCount hD' (zbr_f (by rw [hc.2.1.1]; exact nI_ge hi (by omega)) (c_rightOf hc h hi ?_))⟩
      rw [er, hc.1.2]
      generalize c / 4 ^ r % 4 = j at *
      generalize x.1 - (r + 1) = i at *
      refine ⟨hD', zh_X2_zipCount hD' ?_⟩
      rw [hc.2.1.1]
      refine ⟨fun c1 => ?_, fun c1 => ⟨fun c2 => ?_, fun c2 => ?_⟩⟩
      · rw [if_neg (fun z => absurd c1 (nI_ge z.1 (by omega)))] at H
        exact H
      · have hj : j < x.1 := by
          apply Nat.lt_of_not_le
          intro z
          exact c1 (nI_le z (by omega))
        rw [if_pos ⟨hj, (mu_bit u hu j j4).mp c2⟩] at H
        have ci := hc.2.2.1 i hi
        have cj := hc.2.2.1 j hj
        have hai := hT_zip (D := D) hD' (show i < 4 by omega)
        have haj := hT_zip (D := D) hD' (show j < 4 by omega)
        obtain ⟨n1, n2⟩ := ct_n ci
        obtain ⟨m1, m2⟩ := ct_n cj
        have tz : ∀ {d : Nat} {i : Nat} {kr : Nat → hG → hE → Prop}, i < x.1 → kr (D + 2 + i) g e → hcr (d + 3) 201 [.ref 1000, .int (nI i)] g e kr X := by
          intro d i kr hi K
          refine c_theZip hc hr (fun i' h1 h2 => ?_) (fun z => absurd ⟨i, hi, rfl⟩ z)
          rw [(nI_eq (by omega) (by omega)).mp h2] at K
          exact K
        refine tz hi ⟨hai, c_size hai (tz hj ⟨haj, c_size haj ?_⟩)⟩
        rw [n1, m1]
        refine ⟨fun c3 => tz hi ⟨hai, tz hj ⟨haj, ?_⟩⟩, fun c3 => ?_⟩
        · have sz := (nI_eq (by omega) (by omega)).mp c3
          have hoj := cj.2.1.1.1
          rw [← hiT_0 (r := x.2.1 j) hoj]
          refine c_heldAt hai haj ci.1 cj.1 ci.2.1 cj.2.1 (by omega) ?_
          have hle := sofN_le (r := x.2.1 j) ci.2.1 (t := (x.2.1 j).1 - 1) (x.2.1 j).1
          have hsw : swm x i j = some (sofN (x.2.1 i) (x.2.1 j) ((x.2.1 j).1 - 1) (x.2.1 j).1) := by
            unfold swm
            rw [if_pos sz, Nat.min_eq_right (by omega)]
          rw [soff_N, nI_add, (mu_or u hu j j4).1, nI_1, ei]
          generalize sofN (x.2.1 i) (x.2.1 j) ((x.2.1 j).1 - 1) (x.2.1 j).1 = a at *
          refine ih (by omega) _ _ (mu_or u hu j j4).2 (by omega) ?_
          rw [hsw] at H
          cases h2 : mtF (swm x) x.1 r (u ||| 2 ^ j) (c % 4 ^ r) with
          | none => rw [show (some a).bind (fun a => (mtF (swm x) x.1 r (u ||| 2 ^ j) (c % 4 ^ r)).map (fun b => a + b)) = (mtF (swm x) x.1 r (u ||| 2 ^ j) (c % 4 ^ r)).map (fun b => a + b) from rfl, h2] at H; exact H
          | some b =>
            rw [show (some a).bind (fun a => (mtF (swm x) x.1 r (u ||| 2 ^ j) (c % 4 ^ r)).map (fun b => a + b)) = (mtF (swm x) x.1 r (u ||| 2 ^ j) (c % 4 ^ r)).map (fun b => a + b) from rfl, h2] at H
            rw [show mvh (hd + a) (some b) = mvh hd (some (a + b)) by show ((hd + a + b : Nat) : Int) = ((hd + (a + b) : Nat) : Int); rw [Nat.add_assoc]]
            exact H
        · have hsw : swm x i j = none := by
            unfold swm
            rw [if_neg (fun z => c3 (by rw [z]))]
          rw [hsw] at H
          exact H
      · rw [if_neg (fun z => c2 ((mu_bit u hu j j4).mpr z.2))] at H
        exact H
  have := this x.1 (Nat.le_refl _) 0 0 (by omega) (by omega) H
  rw [Nat.sub_self] at this
  exact this
theorem mvh_0 (o : Option Nat) : mvh 0 o = mva o := by
  cases o with
  | none => rfl
  | some v => show ((0 + v : Nat) : Int) = v; rw [Nat.zero_add]
theorem mva_bd {n : Nat} (hn : n ≤ 4) {w : Nat → Nat → Option Nat} (hw : ∀ i j a, w i j = some a → a ≤ 200) (c : Nat) : -1 ≤ mva (mtF w n n 0 c) ∧ mva (mtF w n n 0 c) ≤ 1000 := by
  cases h : mtF w n n 0 c with
  | none => exact ⟨by show (-1 : Int) ≤ -1; omega, by show (-1 : Int) ≤ _; omega⟩
  | some a =>
    rcases mt_main hn hw n hn 0 with ⟨_, _, z⟩ | ⟨_, q, _, _, z⟩
    · rw [z] at h; cases h
    · have := (z c a h).1
      exact ⟨by show (-1 : Int) ≤ a; omega, by show (a : Int) ≤ _; omega⟩
theorem mts_bd {n : Nat} (hn : n ≤ 4) {w : Nat → Nat → Option Nat} (hw : ∀ i j a, w i j = some a → a ≤ 200) : ∀ m, -1 ≤ (mts (fun c => mva (mtF w n n 0 c)) m).1 ∧ (mts (fun c => mva (mtF w n n 0 c)) m).1 ≤ 1000
  | 0 => ⟨by show (-1 : Int) ≤ -1; omega, by show (-1 : Int) ≤ _; omega⟩
  | m + 1 => by
    unfold mts
    split
    · exact mts_bd hn hw m
    · exact mva_bd hn hw m
theorem cq_mates (hc : cdr g D x) (hr : hrm e) {z : Int32} (H : ∀ g', qf D g g' → oc (o_mates x z) k X g' e) : hci (d + 6) 176 [.ref 1000, .int z] g e k X := by
  have h4 := hc.2.1.2
  have hD' := hc.1.1
  obtain ⟨p1, p2⟩ := mu_p4 x.1 (by omega)
  have main : ((z = -1 → k (iI (mtT (swm x) x.1 x.1 0)) g e) ∧ (¬ z = -1 → ∃ i, i < x.1 ∧ z = nI i ∧ k (nI (v_mates x i)) g e)) → hwi (d + 5) zm_X7_mates k X 11 [(0, .ref 1000), (1, .int z)] g e := by
    intro F
    refine zh_X7_mates_11 ?_
    rw [hc.1.2]
    refine ⟨hD', zh_X2_zipCount hD' ?_⟩
    rw [hc.2.1.1, p1]
    obtain ⟨f, hf⟩ : ∃ f, f = fun c => mva (mtF (swm x) x.1 x.1 0 c) := ⟨_, rfl⟩
    have sc := mt_scan h4 (swm_le x) (fun i _ => swm_id x i)
    rw [← hf] at sc
    refine hdown (W := fun c => hwi (d + 5) zm_X7_mates k X 31 [(0, .ref 1000), (1, .int z), (2, .int (iI (mts f c).1)), (3, .int (nI (mts f c).2)), (4, .int (nI (4 ^ x.1))), (5, .int (nI c))] g e) (n := 4 ^ x.1) ?_ ?_ 0 (Nat.zero_le _)
    · refine zh_X7_mates_31 (zbr_t (nI_le (Nat.le_refl _) (by omega)) ?_)
      rw [sc]
      refine ⟨fun c => F.1 c, fun c => ?_⟩
      obtain ⟨i, hi, rfl, K⟩ := F.2 c
      refine c_rightOf hc ?_ hi K
      rcases mt_main h4 (swm_le x) x.1 h4 0 with ⟨w, _⟩ | ⟨_, _, w, _⟩
      · exact absurd (mt_ok (fun i _ => swm_id x i) x.1 (Nat.le_refl _) 0 (fun j _ => Nat.zero_testBit j)) (by omega)
      · show mtG (swm x) x.1 x.1 0 < 256
        omega
    · intro c hcl W
      refine zh_X7_mates_31 (zbr_f (nI_ge hcl (by omega)) (c_heldByRow hc hr (by omega) ?_))
      rw [Nat.mod_eq_of_lt hcl, mvh_0, nI_1]
      have b1 := mts_bd h4 (swm_le x) c
      have b2 := mva_bd h4 (swm_le x) c
      rw [← hf] at b1
      rw [show mva (mtF (swm x) x.1 x.1 0 c) = f c by rw [hf]] at b2 ⊢
      unfold mts at W
      refine ⟨fun q => ?_, fun q => ?_⟩
      · rw [if_pos ((iI_le (by omega) (by omega) (by omega) (by omega)).mp q)] at W
        exact W
      · rw [if_neg (fun y => q ((iI_le (by omega) (by omega) (by omega) (by omega)).mpr y))] at W
        exact W
  refine zh_X7_mates ⟨fun c => main ⟨fun _ => oc_l (H g qf.refl) (by unfold o_mates; rw [if_pos c]), fun z => absurd c z⟩, fun c => ?_⟩
  refine c_theZip hc hr (fun i hi hv => ⟨hT_zip hD' (by omega), main ⟨fun z => absurd z c, fun _ => ⟨i, hi, hv, oc_l (H g qf.refl) ?_⟩⟩⟩) (fun h => oc_r (H g qf.refl) (by unfold o_mates; rw [if_neg c, iszb_f (by omega) h]; rfl))
  unfold o_mates
  rw [if_neg c, hv, iszb_t (by omega) hi, nI_clamp (by omega)]
  rfl
end
