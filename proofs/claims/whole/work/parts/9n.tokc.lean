/-! tokens in the class -/
def wtk (T : sT) (t : tok) : Prop := t.2.1 ≤ t.2.2.1 ∧ t.2.2.1 ≤ T.1 ∧ (¬ t.1 = 0 → t.2.1 < t.2.2.1) ∧ t.1 ≤ 4 ∧ (t.1 = 0 → t.2.1 = T.1) ∧ (t.1 = 2 → t.2.2.2 ≤ 10000 ∧ (4 < t.2.2.1 - t.2.1 → t.2.2.2 = 10000))
theorem dval_lt {T : sT} {a : Nat} : ∀ n, (∀ i, i < n → T.2 (a + i) ≤ 57) → dval T a n < 10 ^ n
  | 0, _ => by show 0 < 1; omega
  | n + 1, h => by
    have ih := dval_lt (T := T) (a := a) n (fun i hi => h i (by omega))
    have := h n (by omega)
    show dval T a n * 10 + (T.2 (a + n) - 48) < 10 ^ (n + 1)
    rw [Nat.pow_succ]
    omega
theorem tskp_in {P : Nat → Bool} {T : sT} {a : Nat} : ∀ i, a ≤ i → i < tskp P T a → P (T.2 i) = true := by
  refine tskp_ind (P := P) (T := T) (W := fun a => ∀ i, a ≤ i → i < tskp P T a → P (T.2 i) = true) ?_ ?_ a
  · intro a h i h1 h2
    rw [tskp_n h] at h2
    omega
  · intro a h1 h2 ih i h3 h4
    rw [tskp_y h1 h2] at h4
    by_cases c : i = a
    · subst c; exact h2
    · exact ih i (by omega) h4
theorem tskp_lt {P : Nat → Bool} {T : sT} {a : Nat} (h : a < T.1) (hp : P (T.2 a) = true) : a < tskp P T a := by
  rw [tskp_y h hp]
  have := tskp_ge (P := P) (T := T) (a := a + 1)
  omega
theorem isDg_t {c : Nat} (h : isDg c = true) : 48 ≤ c ∧ c ≤ 57 := by
  unfold isDg at h
  rw [Bool.and_eq_true, decide_eq_true_iff, decide_eq_true_iff] at h
  exact h
theorem tnum_le {T : sT} {a b : Nat} (h : ∀ i, a ≤ i → i < b → isDg (T.2 i) = true) : tnum T a b ≤ 10000 := by
  unfold tnum
  split
  · rename_i c
    have := dval_lt (T := T) (a := a) (b - a) (fun i hi => (isDg_t (h (a + i) (by omega) (by omega))).2)
    have : 10 ^ (b - a) ≤ 10 ^ 4 := Nat.pow_le_pow_right (by omega) c
    omega
  · omega
theorem tkn_w {T : sT} {b : Nat} (hb : b ≤ T.1) : wtk T (tkn T b) ∧ b ≤ (tkn T b).2.1 := by
  have h1 := tskp_le (P := isBl) hb
  have h2 := tskp_ge (P := isBl) (T := T) (a := b)
  unfold tkn
  generalize tskp isBl T b = S at *
  by_cases c : T.1 ≤ S
  · rw [if_pos c]
    exact ⟨⟨Nat.le_refl _, h1, fun z => absurd rfl z, Nat.zero_le _, fun _ => Nat.le_antisymm h1 c, fun z => absurd (show (0 : Nat) = 2 from z) (by decide)⟩, h2⟩
  · rw [if_neg c]
    have cl : S < T.1 := by omega
    by_cases c1 : isLt (T.2 S) = true
    · rw [if_pos c1]
      exact ⟨⟨tskp_ge, tskp_le h1, fun _ => tskp_lt cl c1, by show 1 ≤ 4; omega, fun z => absurd (show (1 : Nat) = 0 from z) (by decide), fun z => absurd (show (1 : Nat) = 2 from z) (by decide)⟩, h2⟩
    · rw [if_neg c1]
      by_cases c2 : isDg (T.2 S) = true
      · rw [if_pos c2]
        exact ⟨⟨tskp_ge, tskp_le h1, fun _ => tskp_lt cl c2, by show 2 ≤ 4; omega, fun z => absurd (show (2 : Nat) = 0 from z) (by decide), fun _ => ⟨tnum_le tskp_in, fun h => if_neg (show ¬ tskp isDg T S - S ≤ 4 from Nat.not_le.mpr h)⟩⟩, h2⟩
      · rw [if_neg c2]
        refine ⟨⟨Nat.le_succ S, cl, fun _ => Nat.lt_succ_self S, ?_, fun z => ?_, fun z => ?_⟩, h2⟩
        · show (if _ then 3 else 4) ≤ 4
          split <;> omega
        · have : (if isSg (T.2 S) = true then 3 else 4) = 0 := z
          split at this <;> omega
        · have : (if isSg (T.2 S) = true then 3 else 4) = 2 := z
          split at this <;> omega
section
variable {d : Nat} {k : Int32 → hG → hE → Prop} {kv : hG → hE → Prop} {X : Nat → hG → hE → Prop} {g : hG} {e : hE} {T : sT} {t : tok}
theorem c_number (hc : cps g T t) (h2 : t.1 = 2) (H : k (nI t.2.2.2) g e) : hci (d + 2) 71 [.ref 1001] g e k X := by
  obtain ⟨hx, -, k3, k4, k5⟩ := hc
  obtain ⟨w1, w2, w3, w4⟩ := k5 h2
  have hT := hx.2.1
  rw [w3] at H
  clear w3 k5
  generalize t.2.1 = a at *
  generalize t.2.2.1 = b at *
  unfold tnum at H
  refine zh_X3_number ?_
  rw [k3, k4, pk_sub w1, show (4 : Int32) = nI 4 from rfl]
  refine ⟨fun c => ?_, fun c => ?_⟩
  · have c' : b - a ≤ 4 := (nI_leI (by omega) (by omega)).mp c
    rw [if_pos c'] at H
    have main : ∀ n, n ≤ b - a → hwi (d + 1) zm_X3_number k X 24 [(0, .ref 1001), (1, .int (nI (dval T a n))), (2, .int (nI (a + n)))] g e := by
      refine hdown ?_ ?_
      · refine zh_X3_number_24 (zbr_t ?_ H)
        rw [k4]
        exact nI_le (by omega) (by omega)
      · intro n hn W
        have dg := isDg_t (w4 (a + n) (by omega) (by omega))
        refine zh_X3_number_24 (zbr_f (by rw [k4]; exact nI_ge (by omega) (by omega)) (c_byteAt hx (by omega) ?_))
        unfold cby
        have sb : sby8 (T.2 (a + n)) = nI (T.2 (a + n)) := by unfold sby8; rw [if_pos (by omega)]
        rw [if_pos (by omega), sb, show (10 : Int32) = nI 10 from rfl, pk_mul, nI_add, show (48 : Int32) = nI 48 from rfl, pk_sub (by omega), nI_1, show dval T a n * 10 + T.2 (a + n) - 48 = dval T a (n + 1) by show _ = dval T a n * 10 + (T.2 (a + n) - 48); omega]
        exact W
    exact main 0 (Nat.zero_le _)
  · have c' : ¬ b - a ≤ 4 := fun z => c (nI_le z (by omega))
    rw [if_neg c'] at H
    exact H
theorem c_advance (hc : ctx g T) {b : Nat} (hb : b ≤ T.1) (h4 : g.1 1001 5 = nI b) (H : ∀ g', tfr g g' → cps g' T (tkn T b) → kv g' e) : hcv (d + 7) 70 [.ref 1001] g e kv X := by
  have hT := hc.2.1
  have hTb := hc.2.2
  refine zh_X3_advance ?_
  obtain ⟨S, hS⟩ : ∃ S, S = tskp isBl T b := ⟨_, rfl⟩
  have S1 : S ≤ T.1 := by rw [hS]; exact tskp_le hb
  have S2 : ¬ (S < T.1 ∧ isBl (T.2 S) = true) := by
    rw [hS]
    refine tskp_ind (P := isBl) (T := T) (W := fun b => ¬ (tskp isBl T b < T.1 ∧ isBl (T.2 (tskp isBl T b)) = true)) ?_ ?_ b
    · intro a h; rw [tskp_n h]; exact h
    · intro a h1 h2 ih; rw [tskp_y h1 h2]; exact ih
  unfold tkn at H
  rw [← hS] at H
  have at46 : ∀ g1, tfr g g1 → g1.1 1001 4 = nI S → hwv (d + 6) zm_X3_advance kv X 46 [(0, .ref 1001)] g1 e := by
    intro g1 f1 k3
    refine zh_X3_advance_46 ?_
    have f2 : tfr g (sI g1 1001 5 (g1.1 1001 4)) := f1.trans (tfr_s (by omega))
    have k3' : (sI g1 1001 5 (g1.1 1001 4)).1 1001 4 = nI S := by rw [sI_at, upd_off _ _ (by omega)]; exact k3
    have k4' : (sI g1 1001 5 (g1.1 1001 4)).1 1001 5 = nI S := by rw [sI_at, upd_at]; exact k3
    generalize sI g1 1001 5 (g1.1 1001 4) = g2 at *
    have hc2 := ctx_tfr f2 hc
    rw [k3']
    refine c_byteAt hc2 (by omega) ?_
    rw [k3', hc2.1]
    by_cases c : T.1 ≤ S
    · rw [if_pos c] at H
      refine zbr_f (nI_nlt c (by omega)) (H _ (f2.trans (tfr_s (by omega))) ⟨ctx_tfr (f2.trans (tfr_s (by omega))) hc, ?_, ?_, ?_, fun z => absurd (show (0 : Nat) = 2 from z) (by decide)⟩)
      · rw [sI_at, upd_at]; rfl
      · rw [sI_at, upd_off _ _ (by omega)]; exact k3'
      · rw [sI_at, upd_off _ _ (by omega)]; exact k4'
    · rw [if_neg c] at H
      have cl : S < T.1 := by omega
      refine zbr_t (nI_lt cl (by omega)) (c_isLetter hc2 ?_)
      rw [decide_eq_true cl, Bool.true_and]
      cases q1 : isLt (T.2 S) with
      | true =>
        rw [q1, if_pos rfl] at H
        refine zbr_f (by decide) ?_
        obtain ⟨E, hE⟩ : ∃ E, E = tskp isLt T S := ⟨_, rfl⟩
        rw [← hE] at H
        have main := tskp_ind (P := isLt) (T := T) (W := fun a => S ≤ a → a ≤ T.1 → tskp isLt T a = E → ∀ g3, tfr g g3 → g3.1 1001 3 = nI 1 → g3.1 1001 4 = nI S → g3.1 1001 5 = nI a → hwv (d + 6) zm_X3_advance kv X 94 [(0, .ref 1001)] g3 e) ?_ ?_ S
        · refine main (Nat.le_refl _) S1 hE.symm _ (f2.trans (tfr_s (by omega))) ?_ ?_ ?_
          · rw [sI_at, upd_at]; rfl
          · rw [sI_at, upd_off _ _ (by omega)]; exact k3'
          · rw [sI_at, upd_off _ _ (by omega)]; exact k4'
        · intro a ha h1 h2 h5 g3 f3 j2 j3 j4
          have hc3 := ctx_tfr f3 hc
          rw [tskp_n ha] at h5
          have fin : kv g3 e := H g3 f3 ⟨hc3, j2, j3, by rw [j4, h5], fun z => absurd (show (1 : Nat) = 2 from z) (by decide)⟩
          refine zh_X3_advance_94 ?_
          rw [hc3.1, j4]
          refine ⟨fun _ => fin, fun cc => c_byteAt hc3 (by omega) (c_isLetter hc3 ?_)⟩
          have c' : a < T.1 := by
            apply Nat.lt_of_not_le
            intro z
            exact cc (nI_le z (by omega))
          rw [show isLt (T.2 a) = false from Bool.eq_false_iff.mpr (fun z => ha ⟨c', z⟩), Bool.and_false]
          exact zbr_t rfl fin
        · intro a ha1 ha2 ih h1 h2 h5 g3 f3 j2 j3 j4
          have hc3 := ctx_tfr f3 hc
          rw [tskp_y ha1 ha2] at h5
          refine zh_X3_advance_94 ?_
          rw [hc3.1, j4]
          refine zbr_f (nI_ge ha1 (by omega)) (c_byteAt hc3 (by omega) (c_isLetter hc3 ?_))
          rw [ha2, decide_eq_true ha1]
          refine zbr_f (by decide) ?_
          rw [j4, nI_1]
          refine ih (by omega) (by omega) h5 _ (f3.trans (tfr_s (by omega))) ?_ ?_ ?_
          · rw [sI_at, upd_off _ _ (by omega)]; exact j2
          · rw [sI_at, upd_off _ _ (by omega)]; exact j3
          · rw [sI_at, upd_at]
      | false =>
        rw [q1, if_neg Bool.false_ne_true] at H
        refine zbr_t rfl ?_
        refine c_isDigit hc2 ?_
        rw [decide_eq_true cl, Bool.true_and]
        cases q2 : isDg (T.2 S) with
        | true =>
          rw [q2, if_pos rfl] at H
          refine zbr_f (by decide) ?_
          obtain ⟨E, hE⟩ : ∃ E, E = tskp isDg T S := ⟨_, rfl⟩
          rw [← hE] at H
          have main := tskp_ind (P := isDg) (T := T) (W := fun a => S ≤ a → a ≤ T.1 → tskp isDg T a = E → ∀ g3, tfr g g3 → g3.1 1001 3 = nI 2 → g3.1 1001 4 = nI S → g3.1 1001 5 = nI a → hwv (d + 6) zm_X3_advance kv X 144 [(0, .ref 1001)] g3 e) ?_ ?_ S
          · refine main (Nat.le_refl _) S1 hE.symm _ (f2.trans (tfr_s (by omega))) ?_ ?_ ?_
            · rw [sI_at, upd_at]; rfl
            · rw [sI_at, upd_off _ _ (by omega)]; exact k3'
            · rw [sI_at, upd_off _ _ (by omega)]; exact k4'
          · intro a ha h1 h2 h5 g3 f3 j2 j3 j4
            have hc3 := ctx_tfr f3 hc
            rw [tskp_n ha] at h5
            have fin : kv g3 e := H g3 f3 ⟨hc3, j2, j3, by rw [j4, h5], fun _ => ⟨by rw [hE]; exact tskp_ge, by rw [hE]; exact tskp_le S1, rfl, by rw [hE]; exact tskp_in⟩⟩
            refine zh_X3_advance_144 ?_
            rw [hc3.1, j4]
            refine ⟨fun _ => fin, fun cc => c_byteAt hc3 (by omega) (c_isDigit hc3 ?_)⟩
            have c' : a < T.1 := by
              apply Nat.lt_of_not_le
              intro z
              exact cc (nI_le z (by omega))
            rw [show isDg (T.2 a) = false from Bool.eq_false_iff.mpr (fun z => ha ⟨c', z⟩), Bool.and_false]
            exact zbr_t rfl fin
          · intro a ha1 ha2 ih h1 h2 h5 g3 f3 j2 j3 j4
            have hc3 := ctx_tfr f3 hc
            rw [tskp_y ha1 ha2] at h5
            refine zh_X3_advance_144 ?_
            rw [hc3.1, j4]
            refine zbr_f (nI_ge ha1 (by omega)) (c_byteAt hc3 (by omega) (c_isDigit hc3 ?_))
            rw [ha2, decide_eq_true ha1]
            refine zbr_f (by decide) ?_
            rw [j4, nI_1]
            refine ih (by omega) (by omega) h5 _ (f3.trans (tfr_s (by omega))) ?_ ?_ ?_
            · rw [sI_at, upd_off _ _ (by omega)]; exact j2
            · rw [sI_at, upd_off _ _ (by omega)]; exact j3
            · rw [sI_at, upd_at]
        | false =>
          rw [q2, if_neg Bool.false_ne_true] at H
          refine zbr_t rfl ?_
          have hb := (hTb S cl).2
          unfold cby
          rw [if_pos cl, (sby_lt _ hb).2.2.2.2.2.2]
          have fin : ∀ v : Nat, v = (if isSg (T.2 S) = true then 3 else 4) → kv (sI (sI g2 1001 3 (nI v)) 1001 5 (((sI g2 1001 3 (nI v)).1 1001 5) + 1)) e := by
            intro v hv
            have f3 : tfr g (sI (sI g2 1001 3 (nI v)) 1001 5 (((sI g2 1001 3 (nI v)).1 1001 5) + 1)) := (f2.trans (tfr_s (by omega))).trans (tfr_s (by omega))
            refine H _ f3 ⟨ctx_tfr f3 hc, ?_, ?_, ?_, fun z => ?_⟩
            · rw [sI_at, upd_off _ _ (by omega), sI_at, upd_at, hv]
            · rw [sI_at, upd_off _ _ (by omega), sI_at, upd_off _ _ (by omega)]; exact k3'
            · rw [sI_at, upd_at, sI_at, upd_off _ _ (by omega), k4', nI_1]
            · have z : (if isSg (T.2 S) = true then 3 else 4) = 2 := z
              split at z <;> omega
          refine j_sign hb (fun q v hv => zbr_f (nI_pos (by omega)) ?_) (fun q => zbr_t (by decide) ?_)
          · exact fin 3 (by rw [q]; rfl)
          · exact fin 4 (by rw [q]; rfl)
  have main := tskp_ind (P := isBl) (T := T) (W := fun a => a ≤ T.1 → tskp isBl T a = S → ∀ g1, tfr g g1 → g1.1 1001 4 = nI a → hwv (d + 6) zm_X3_advance kv X 8 [(0, .ref 1001)] g1 e) ?_ ?_ b
  · refine main hb hS.symm _ (tfr_s (by omega)) ?_
    rw [sI_at, upd_at]; exact h4
  · intro a ha h1 h5 g1 f1 k3
    have hc1 := ctx_tfr f1 hc
    rw [tskp_n ha] at h5
    refine zh_X3_advance_8 ?_
    rw [hc1.1, k3]
    refine ⟨fun _ => at46 g1 f1 (by rw [k3, h5]), fun cc => ?_⟩
    have c' : a < T.1 := by
      apply Nat.lt_of_not_le
      intro z
      exact cc (nI_le z (by omega))
    refine c_byteAt hc1 (by omega) (c_isBlank hc1 c' ?_)
    rw [show isBl (T.2 a) = false from Bool.eq_false_iff.mpr (fun z => ha ⟨c', z⟩)]
    exact zbr_t rfl (at46 g1 f1 (by rw [k3, h5]))
  · intro a ha1 ha2 ih h1 h5 g1 f1 k3
    have hc1 := ctx_tfr f1 hc
    rw [tskp_y ha1 ha2] at h5
    refine zh_X3_advance_8 ?_
    rw [hc1.1, k3]
    refine zbr_f (nI_ge ha1 (by omega)) (c_byteAt hc1 (by omega) (c_isBlank hc1 ha1 ?_))
    rw [ha2]
    refine zbr_f (by decide) ?_
    rw [k3, nI_1]
    exact ih (by omega) h5 _ (f1.trans (tfr_s (by omega))) (by rw [sI_at, upd_at])
end
