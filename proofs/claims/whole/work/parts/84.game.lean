/-! GAME -/
def xcn (x : sX) (n : Nat) (s : sZ) : Nat := (xcb x n s).toNatClampNeg
theorem xcb_n {x : sX} {n : Nat} {s : sZ} (hs : sok s) : xcb x n s = nI (xcn x n s) ∧ xcn x n s ≤ 63 := by
  obtain ⟨v, hv, e⟩ := jbc_le (sok_C (sok_go (pl := x.2.2.2.1) (wl := x.2.2.2.2.1) (sl := x.2.2.1) n x.2.2.2.2.2 hs))
  have e : xcb x n s = nI v := e
  unfold xcn
  rw [e, nI_clamp (by omega)]
  exact ⟨rfl, hv⟩
def sa (s : sZ) (a : Nat) : sZ := if a = 1 then sslide s s.1 else s
theorem sok_sa {s : sZ} (h : sok s) (a : Nat) : sok (sa s a) := by
  unfold sa
  split
  · exact sok_slide h (Nat.le_refl _)
  · exact h
def gq (A : Nat → Nat) (a : Nat) : Bool := if a = 1 then decide (2 * A 0 + 3 ≤ 2 * A 1) else decide (2 * A 1 ≤ 2 * A 0 + 3)
def sgm (rA rB : Nat → Bool) : Nat → Int32 × Int32
  | 0 => (0, -1)
  | c + 1 => if rA (c / 2) = true ∧ rB (c % 2) = true then ((sgm rA rB c).1 + 1, if (sgm rA rB c).1 = 0 then nI (10 * (c / 2) + c % 2) else (sgm rA rB c).2) else sgm rA rB c
abbrev gA (x : sX) (i : Nat) : Nat → Nat := fun a => xcn x 6 (sa (x.2.1 i) a)
def v_game (x : sX) (i j w : Nat) : Int32 := if w = 0 then (sgm (gq (gA x i)) (gq (gA x j)) 4).1 else (sgm (gq (gA x i)) (gq (gA x j)) 4).2
def o_game (x : sX) (z y w : Int32) : rs := if iszb x.1 z && (iszb x.1 y && iszb 2 w) then (if z = y then .inr 0 else .inl (v_game x z.toNatClampNeg y.toNatClampNeg w.toNatClampNeg)) else .inr 1
theorem o_game_n {x : sX} {z y w : Int32} (h4 : x.1 ≤ 4) (h : ¬ isz x.1 z ∨ ¬ isz x.1 y ∨ ¬ isz 2 w) : o_game x z y w = .inr 1 := by
  unfold o_game
  rcases h with h | h | h
  · rw [iszb_f (by omega) h]; rfl
  · rw [iszb_f (z := y) (by omega) h, Bool.false_and, Bool.and_false]; rfl
  · rw [iszb_f (n := 2) (by omega) h, Bool.and_false, Bool.and_false]; rfl
theorem o_game_y {x : sX} {i j w : Nat} (h4 : x.1 ≤ 4) (hi : i < x.1) (hj : j < x.1) (hw : w < 2) : o_game x (nI i) (nI j) (nI w) = if nI i = nI j then .inr 0 else .inl (v_game x i j w) := by
  unfold o_game
  rw [iszb_t (by omega) hi, iszb_t (by omega) hj, iszb_t (by omega) hw, nI_clamp (by omega), nI_clamp (by omega), nI_clamp (by omega)]
  rfl
theorem gF (A0 A1 : Nat) : (2 * nI A1 - 3 * nI 1) - (2 * nI A0 - 3 * nI 0) = nI (2 * A1) - nI (2 * A0 + 3) := by
  rw [show (3 : Int32) * nI 1 = nI 3 by decide, show (3 : Int32) * nI 0 = 0 by decide, Int32.sub_zero, show (2 : Int32) = nI 2 from rfl, pk_mul, pk_mul, ← nI_add]
  simp only [Int32.sub_eq_add_neg, Int32.neg_add]
  ac_rfl
section
variable {d : Nat} {k : Int32 → hG → hE → Prop} {kv : hG → hE → Prop} {X : Nat → hG → hE → Prop} {g g0 g1 : hG} {e : hE} {D : Nat} {x : sX} {f : Nat → Int32} {zs : Nat → sZ}
theorem c_rests {A : Nat → Nat} (h0 : A 0 ≤ 63) (h1 : A 1 ≤ 63) {a : Nat} (ha : a < 2) (H : k (bI (gq A a)) g e) : hci (d + 1) 196 [.int (nI a), .int (nI (2 * A 1) - nI (2 * A 0 + 3))] g e k X := by
  have e0 : (nI (2 * A 1) - nI (2 * A 0 + 3)).toInt = ((2 * A 1 : Nat) : Int) - ((2 * A 0 + 3 : Nat) : Int) := pk_sub_toInt (by omega) (by omega)
  refine zh_X7_restsWith ⟨fun c => ?_, fun c => ?_⟩
  · have ea : a = 1 := (nI_eq (b := 1) (by omega) (by omega)).mp c
    unfold gq at H
    rw [if_pos ea] at H
    refine ⟨fun c2 => ?_, fun c2 => ?_⟩
    · rw [Int32.lt_iff_toInt_lt, e0, show (0 : Int32).toInt = 0 by decide] at c2
      rw [decide_eq_false (by omega)] at H
      exact H
    · rw [Int32.lt_iff_toInt_lt, e0, show (0 : Int32).toInt = 0 by decide] at c2
      rw [decide_eq_true (by omega)] at H
      exact H
  · have ea : ¬ a = 1 := fun z => c (by rw [z]; rfl)
    unfold gq at H
    rw [if_neg ea] at H
    refine ⟨fun c2 => ?_, fun c2 => ?_⟩
    · rw [Int32.lt_iff_toInt_lt, e0, show (0 : Int32).toInt = 0 by decide] at c2
      rw [decide_eq_false (by omega)] at H
      exact H
    · rw [Int32.lt_iff_toInt_lt, e0, show (0 : Int32).toInt = 0 by decide] at c2
      rw [decide_eq_true (by omega)] at H
      exact H
theorem c_ownGain (hc : cdr g D x) (hr : hrm e) {i a : Nat} (hi : i < x.1) (ha : a < 2) (H : ∀ g', qf D g g' → k (2 * nI (gA x i a) - 3 * nI a) g' e) : hci (d + 8) 195 [.ref 1000, .int (nI i), .int (nI a)] g e k X := by
  have h4 := hc.2.1.2
  have os := (hc.2.2.1 i hi).2.1
  refine zh_X7_ownGain (c_trialOf hc hr (fun i' hi' hz' g2 q2 c2 _ => ?_) (fun h => absurd ⟨i, hi, rfl⟩ h))
  obtain rfl : i = i' := (nI_eq (by omega) (by omega)).mp hz'
  have e1 := (xcb_n (x := x) (n := 6) (sok_sa os a)).1
  refine ⟨hT_trial (by omega), fun c => ?_, fun c => ?_⟩
  · have ea : a = 1 := (nI_eq (b := 1) (by omega) (by omega)).mp c
    have es : sa (x.2.1 i) a = sslide (x.2.1 i) (x.2.1 i).1 := if_pos ea
    refine c_top (x := x) hc.1.1 (by omega) c2 (fun g3 q3 c3 => c_closedB (n := 6) (cdr_qf (q2.trans q3) hc) (by omega) c3 (by omega) (fun g4 q4 => ?_))
    rw [← es, e1]
    exact H g4 ((q2.trans q3).trans q4)
  · have ea : ¬ a = 1 := fun z => c (by rw [z]; rfl)
    have es : sa (x.2.1 i) a = x.2.1 i := if_neg ea
    refine c_closedB (n := 6) (cdr_qf q2 hc) (by omega) c2 (by omega) (fun g4 q4 => ?_)
    rw [← es, e1]
    exact H g4 (q2.trans q4)
theorem cq_game (hc : cdr g D x) (hr : hrm e) {z y w : Int32} (H : ∀ g', qf D g g' → oc (o_game x z y w) k X g' e) : hci (d + 9) 194 [.ref 1000, .int z, .int y, .int w] g e k X := by
  have h4 := hc.2.1.2
  refine zh_X7_game (c_theZip hc hr (fun i hi hz => ⟨hT_zip hc.1.1 (by omega), ?_⟩) (fun h => oc_r (H g qf.refl) (o_game_n h4 (.inl h))))
  refine c_theZip hc hr (fun j hj hy => ⟨hT_zip hc.1.1 (by omega), ?_⟩) (fun h => oc_r (H g qf.refl) (o_game_n h4 (.inr (.inl h))))
  refine c_checkWhat hr (n := 2) (by omega) (fun w hw hw' => ?_) (fun h => oc_r (H g qf.refl) (o_game_n h4 (.inr (.inr h))))
  subst hz
  subst hy
  subst hw'
  have hv := o_game_y h4 hi hj hw
  refine ⟨fun c => ⟨hr, oc_r (H g qf.refl) (by rw [hv, if_pos c])⟩, fun c => ?_⟩
  rw [if_neg c] at hv
  refine c_ownGain (a := 1) hc hr hi (by omega) (fun g1 q1 => c_ownGain (a := 0) (cdr_qf q1 hc) hr hi (by omega) (fun g2 q2 => c_ownGain (a := 1) (cdr_qf (q1.trans q2) hc) hr hj (by omega) (fun g3 q3 => c_ownGain (a := 0) (cdr_qf ((q1.trans q2).trans q3) hc) hr hj (by omega) (fun g4 q4 => ?_))))
  have fin := oc_l (H g4 (((q1.trans q2).trans q3).trans q4)) hv
  rw [gF, gF]
  have bi : ∀ a, gA x i a ≤ 63 := fun a => (xcb_n (sok_sa (hc.2.2.1 i hi).2.1 a)).2
  have bj : ∀ a, gA x j a ≤ 63 := fun a => (xcb_n (sok_sa (hc.2.2.1 j hj).2.1 a)).2
  unfold v_game at fin
  generalize gA x i = A at *
  generalize gA x j = B at *
  have step : ∀ a b, a < 2 → b < 2 → hwi (d + 8) zm_X7_game k X 81 [(3, .int (nI w)), (4, .int (nI (2 * A 1) - nI (2 * A 0 + 3))), (5, .int (nI (2 * B 1) - nI (2 * B 0 + 3))), (6, .int (sgm (gq A) (gq B) (2 * a + b + 1)).1), (7, .int (sgm (gq A) (gq B) (2 * a + b + 1)).2), (8, .int (nI a)), (9, .int (nI (b + 1)))] g4 e → hwi (d + 8) zm_X7_game k X 81 [(3, .int (nI w)), (4, .int (nI (2 * A 1) - nI (2 * A 0 + 3))), (5, .int (nI (2 * B 1) - nI (2 * B 0 + 3))), (6, .int (sgm (gq A) (gq B) (2 * a + b)).1), (7, .int (sgm (gq A) (gq B) (2 * a + b)).2), (8, .int (nI a)), (9, .int (nI b))] g4 e := by
    intro a b ha hb W
    have un : sgm (gq A) (gq B) (2 * a + b + 1) = if gq A a = true ∧ gq B b = true then ((sgm (gq A) (gq B) (2 * a + b)).1 + 1, if (sgm (gq A) (gq B) (2 * a + b)).1 = 0 then nI (10 * a + b) else (sgm (gq A) (gq B) (2 * a + b)).2) else sgm (gq A) (gq B) (2 * a + b) := by
      show (if gq A ((2 * a + b) / 2) = true ∧ gq B ((2 * a + b) % 2) = true then ((sgm (gq A) (gq B) (2 * a + b)).1 + 1, if (sgm (gq A) (gq B) (2 * a + b)).1 = 0 then nI (10 * ((2 * a + b) / 2) + (2 * a + b) % 2) else (sgm (gq A) (gq B) (2 * a + b)).2) else sgm (gq A) (gq B) (2 * a + b)) = _
      rw [show (2 * a + b) / 2 = a by omega, show (2 * a + b) % 2 = b by omega]
    rw [un, ← nI_1 b] at W
    refine zh_X7_game_81 (zbr_f (nI_nlt (a := 1) (by omega) (by omega)) (c_rests (bi 0) (bi 1) ha ?_))
    cases cA : gq A a with
    | false =>
      rw [if_neg (fun z => by rw [cA] at z; exact absurd z.1 (by decide))] at W
      exact zbr_t rfl W
    | true =>
      refine zbr_f (by decide) (c_rests (bj 0) (bj 1) hb ?_)
      cases cB : gq B b with
      | false =>
        rw [if_neg (fun z => by rw [cB] at z; exact absurd z.2 (by decide))] at W
        exact zbr_t rfl W
      | true =>
        rw [if_pos ⟨cA, cB⟩] at W
        rw [show (10 : Int32) * nI a + nI b = nI (10 * a + b) by rw [show (10 : Int32) = nI 10 from rfl, pk_mul, nI_add]]
        refine zbr_f (by decide) ⟨fun c0 => ?_, fun c0 => ?_⟩
        · rw [if_pos c0] at W
          exact W
        · rw [if_neg c0] at W
          exact W
  refine zh_X7_game_72 (zbr_f (by decide) (step 0 0 (by omega) (by omega) (step 0 1 (by omega) (by omega) ?_)))
  refine zh_X7_game_81 (zbr_t (by decide) ?_)
  refine zh_X7_game_72 (zbr_f (by decide) (step 1 0 (by omega) (by omega) (step 1 1 (by omega) (by omega) ?_)))
  refine zh_X7_game_81 (zbr_t (by decide) (zh_X7_game_72 (zbr_t (by decide) ⟨fun c => ?_, fun c => ?_⟩)))
  · rw [if_pos ((nI_eq (b := 0) (by omega) (by omega)).mp c)] at fin
    exact fin
  · rw [if_neg (fun z => c (by rw [z]; rfl))] at fin
    exact fin
end
