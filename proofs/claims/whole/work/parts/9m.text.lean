/-! TEXTS: bytes, tokens -/
abbrev sT : Type := Nat × (Nat → Nat)
def isLt (c : Nat) : Bool := decide (97 ≤ c) && decide (c ≤ 122)
def isDg (c : Nat) : Bool := decide (48 ≤ c) && decide (c ≤ 57)
def isBl (c : Nat) : Bool := decide (c = 32) || decide (c = 10)
def isSg (c : Nat) : Bool := decide (c ∈ htx 0)
def trun (P : Nat → Bool) (T : sT) : Nat → Nat → Nat
  | 0, a => a
  | f + 1, a => if a < T.1 ∧ P (T.2 a) = true then trun P T f (a + 1) else a
def tskp (P : Nat → Bool) (T : sT) (a : Nat) : Nat := trun P T (T.1 - a) a
theorem tskp_y {P : Nat → Bool} {T : sT} {a : Nat} (h : a < T.1) (hp : P (T.2 a) = true) : tskp P T a = tskp P T (a + 1) := by
  unfold tskp
  rw [show T.1 - a = (T.1 - (a + 1)) + 1 by omega]
  show (if a < T.1 ∧ P (T.2 a) = true then _ else _) = _
  rw [if_pos ⟨h, hp⟩]
theorem tskp_n {P : Nat → Bool} {T : sT} {a : Nat} (h : ¬ (a < T.1 ∧ P (T.2 a) = true)) : tskp P T a = a := by
  unfold tskp
  cases q : T.1 - a with
  | zero => rfl
  | succ f =>
    show (if a < T.1 ∧ P (T.2 a) = true then _ else _) = _
    rw [if_neg h]
theorem trun_ge {P : Nat → Bool} {T : sT} : ∀ (f a : Nat), a ≤ trun P T f a ∧ trun P T f a ≤ a + f
  | 0, a => ⟨Nat.le_refl _, Nat.le_refl _⟩
  | f + 1, a => by
    unfold trun
    split
    · have := trun_ge (P := P) (T := T) f (a + 1)
      omega
    · omega
theorem tskp_ge {P : Nat → Bool} {T : sT} {a : Nat} : a ≤ tskp P T a := (trun_ge _ _).1
theorem tskp_le {P : Nat → Bool} {T : sT} {a : Nat} (h : a ≤ T.1) : tskp P T a ≤ T.1 := by
  have := (trun_ge (P := P) (T := T) (T.1 - a) a).2
  unfold tskp
  omega
/-- going on by one where P holds: induction from the end -/
theorem tskp_ind {P : Nat → Bool} {T : sT} {W : Nat → Prop} (h0 : ∀ a, ¬ (a < T.1 ∧ P (T.2 a) = true) → W a) (h1 : ∀ a, a < T.1 → P (T.2 a) = true → W (a + 1) → W a) (a : Nat) : W a := by
  have : ∀ n a, T.1 - a = n → W a := by
    intro n
    induction n with
    | zero => intro a h; exact h0 a (by omega)
    | succ n ih =>
      intro a h
      by_cases c : P (T.2 a) = true
      · exact h1 a (by omega) c (ih (a + 1) (by omega))
      · exact h0 a (fun z => c z.2)
  exact this _ a rfl
def dval (T : sT) (st : Nat) : Nat → Nat
  | 0 => 0
  | n + 1 => dval T st n * 10 + (T.2 (st + n) - 48)
/-- a token: kind (0 end, 1 word, 2 number, 3 sign, 4 none), start, behind, number -/
abbrev tok : Type := Nat × Nat × Nat × Nat
def tnum (T : sT) (a b : Nat) : Nat := if b - a ≤ 4 then dval T a (b - a) else 10000
def tkn (T : sT) (b : Nat) : tok :=
  if T.1 ≤ tskp isBl T b then (0, tskp isBl T b, tskp isBl T b, 0)
  else if isLt (T.2 (tskp isBl T b)) = true then (1, tskp isBl T b, tskp isLt T (tskp isBl T b), 0)
  else if isDg (T.2 (tskp isBl T b)) = true then (2, tskp isBl T b, tskp isDg T (tskp isBl T b), tnum T (tskp isBl T b) (tskp isDg T (tskp isBl T b)))
  else (if isSg (T.2 (tskp isBl T b)) = true then 3 else 4, tskp isBl T b, tskp isBl T b + 1, 0)
def isW (T : sT) (t : tok) (w : List Nat) : Bool := decide (t.1 = 1) && (decide (t.2.2.1 - t.2.1 = w.length) && (List.range w.length).all (fun i => decide (T.2 (t.2.1 + i) = w.getD i 0)))
def isC (T : sT) (t : tok) (c : Nat) : Bool := decide (t.1 = 3) && decide (T.2 t.2.1 = c)
/-- what is kept of a text in the class -/
def ctx (g : hG) (T : sT) : Prop := g.1 1001 2 = nI T.1 ∧ T.1 ≤ 700 ∧ ∀ i, i < T.1 → g.1 1002 i = sby8 (T.2 i) ∧ T.2 i < 256
/-- a number token: its digits, and what they say -/
def tkd (T : sT) (t : tok) : Prop := t.2.1 ≤ t.2.2.1 ∧ t.2.2.1 ≤ T.1 ∧ t.2.2.2 = tnum T t.2.1 t.2.2.1 ∧ ∀ i, t.2.1 ≤ i → i < t.2.2.1 → isDg (T.2 i) = true
def cps (g : hG) (T : sT) (t : tok) : Prop := ctx g T ∧ g.1 1001 3 = nI t.1 ∧ g.1 1001 4 = nI t.2.1 ∧ g.1 1001 5 = nI t.2.2.1 ∧ (t.1 = 2 → tkd T t)
/-- only the token changes -/
def tfr (g g' : hG) : Prop := (∀ b, ¬ b = 1001 → g'.1 b = g.1 b) ∧ (∀ k, k < 3 ∨ 5 < k → g'.1 1001 k = g.1 1001 k) ∧ g'.2 = g.2
theorem tfr.refl {g : hG} : tfr g g := ⟨fun _ _ => rfl, fun _ _ => rfl, rfl⟩
theorem tfr.trans {g g' g'' : hG} (h : tfr g g') (h' : tfr g' g'') : tfr g g'' := ⟨fun b q => (h'.1 b q).trans (h.1 b q), fun k q => (h'.2.1 k q).trans (h.2.1 k q), h'.2.2.trans h.2.2⟩
theorem tfr_s {g : hG} {k : Nat} {v : Int32} (hk : 3 ≤ k ∧ k ≤ 5) : tfr g (sI g 1001 k v) := ⟨fun b q => sI_off _ q, fun j q => by rw [sI_at, upd_off _ _ (by omega)], rfl⟩
theorem ctx_tfr {g g' : hG} {T : sT} (h : tfr g g') (hc : ctx g T) : ctx g' T := by
  unfold ctx
  rw [h.2.1 2 (by omega), h.1 1002 (by omega)]
  exact hc
theorem sby_lt : ∀ b, b < 256 → (sby8 b < 97 ↔ ¬ 97 ≤ b ∨ 128 ≤ b) ∧ (122 < sby8 b ↔ 122 < b ∧ b < 128) ∧ (sby8 b < 48 ↔ ¬ 48 ≤ b ∨ 128 ≤ b) ∧ (57 < sby8 b ↔ 57 < b ∧ b < 128) ∧ (sby8 b = 32 ↔ b = 32) ∧ (sby8 b = 10 ↔ b = 10) ∧ ((sby8 b &&& 255 : Int32).toUInt32 % 65536).toInt32 = nI b := by decide +kernel
theorem sby_eq {b c : Nat} (hb : b < 256) (hc : c < 128) : sby8 b = nI c ↔ b = c := by
  unfold sby8
  by_cases h : b < 128
  · rw [if_pos h]
    exact nI_eq (by omega) (by omega)
  · rw [if_neg h]
    refine ⟨fun z => ?_, fun z => absurd z (by omega)⟩
    have := pk_sneg (a := b) (b := 256) (by omega) (by omega)
    rw [show nI b - 256 = nI b - nI 256 from rfl] at z
    rw [z] at this
    exact absurd this (nI_pos (by omega))
def cby (T : sT) (a : Nat) : Int32 := if a < T.1 then sby8 (T.2 a) else 0
section
variable {d : Nat} {k : Int32 → hG → hE → Prop} {kv : hG → hE → Prop} {X : Nat → hG → hE → Prop} {g : hG} {e : hE} {T : sT} {t : tok}
theorem c_byteAt (hc : ctx g T) {a : Nat} (ha : a < 2 ^ 30) (H : k (cby T a) g e) : hci (d + 1) 66 [.ref 1001, .int (nI a)] g e k X := by
  obtain ⟨h1, h2, h3⟩ := hc
  refine zh_X3_byteAt (zbr_f (nI_pos (by omega)) ?_)
  unfold cby at H
  rw [h1]
  by_cases c : a < T.1
  · rw [if_pos c] at H
    refine zbr_f (nI_ge c (by omega)) (zbr_f (nI_ge (by omega) (by omega)) ⟨nI_in (by omega) (by omega), ?_⟩)
    rw [nI_clamp (by omega), (h3 a c).1]
    exact H
  · rw [if_neg c] at H
    exact zbr_t (nI_le (by omega) (by omega)) H
theorem c_isLetter (hc : ctx g T) {a : Nat} (H : k (bI (decide (a < T.1) && isLt (T.2 a))) g e) : hci (d + 1) 67 [.int (cby T a)] g e k X := by
  have h3 := hc.2.2
  refine zh_X3_isLetter ?_
  unfold cby isLt at *
  by_cases c : a < T.1
  · have hb := (h3 a c).2
    obtain ⟨s1, s2, -⟩ := sby_lt (T.2 a) hb
    rw [if_pos c, decide_eq_true c, Bool.true_and] at *
    refine ⟨fun q => ?_, fun q => ?_⟩
    · rcases s1.mp q with z | z
      · rw [decide_eq_false z] at H; exact H
      · rw [decide_eq_false (show ¬ T.2 a ≤ 122 by omega), Bool.and_false] at H; exact H
    · have n1 : 97 ≤ T.2 a ∧ ¬ 128 ≤ T.2 a := by
        refine ⟨?_, fun z => q (s1.mpr (.inr z))⟩
        apply Nat.le_of_not_lt
        intro z
        exact q (s1.mpr (.inl (by omega)))
      rw [decide_eq_true n1.1] at H
      refine ⟨fun q2 => ?_, fun q2 => ?_⟩
      · rw [decide_eq_false (show ¬ T.2 a ≤ 122 by have := (s2.mp q2).1; omega)] at H; exact H
      · rw [decide_eq_true (show T.2 a ≤ 122 by
          apply Nat.le_of_not_lt
          intro z
          exact q2 (s2.mpr ⟨z, by omega⟩))] at H
        exact H
  · rw [decide_eq_false c, Bool.false_and] at H
    rw [if_neg c]
    exact zbr_t (by decide) H
theorem c_isDigit (hc : ctx g T) {a : Nat} (H : k (bI (decide (a < T.1) && isDg (T.2 a))) g e) : hci (d + 1) 68 [.int (cby T a)] g e k X := by
  have h3 := hc.2.2
  refine zh_X3_isDigit ?_
  unfold cby isDg at *
  by_cases c : a < T.1
  · have hb := (h3 a c).2
    obtain ⟨-, -, s1, s2, -⟩ := sby_lt (T.2 a) hb
    rw [if_pos c, decide_eq_true c, Bool.true_and] at *
    refine ⟨fun q => ?_, fun q => ?_⟩
    · rcases s1.mp q with z | z
      · rw [decide_eq_false z] at H; exact H
      · rw [decide_eq_false (show ¬ T.2 a ≤ 57 by omega), Bool.and_false] at H; exact H
    · have n1 : 48 ≤ T.2 a ∧ ¬ 128 ≤ T.2 a := by
        refine ⟨?_, fun z => q (s1.mpr (.inr z))⟩
        apply Nat.le_of_not_lt
        intro z
        exact q (s1.mpr (.inl (by omega)))
      rw [decide_eq_true n1.1] at H
      refine ⟨fun q2 => ?_, fun q2 => ?_⟩
      · rw [decide_eq_false (show ¬ T.2 a ≤ 57 by have := (s2.mp q2).1; omega)] at H; exact H
      · rw [decide_eq_true (show T.2 a ≤ 57 by
          apply Nat.le_of_not_lt
          intro z
          exact q2 (s2.mpr ⟨z, by omega⟩))] at H
        exact H
  · rw [decide_eq_false c, Bool.false_and] at H
    rw [if_neg c]
    exact zbr_t (by decide) H
theorem c_isBlank (hc : ctx g T) {a : Nat} (hl : a < T.1) (H : k (bI (isBl (T.2 a))) g e) : hci (d + 1) 69 [.int (cby T a)] g e k X := by
  have hb := (hc.2.2 a hl).2
  obtain ⟨-, -, -, -, s1, s2, -⟩ := sby_lt (T.2 a) hb
  unfold isBl at H
  refine zh_X3_isBlank ?_
  unfold cby
  rw [if_pos hl]
  refine ⟨fun q => ?_, fun q => ?_⟩
  · rw [decide_eq_true (s1.mp q)] at H; exact H
  · rw [decide_eq_false (fun z => q (s1.mpr z)), Bool.false_or] at H
    refine ⟨fun q2 => ?_, fun q2 => ?_⟩
    · rw [decide_eq_true (s2.mp q2)] at H; exact H
    · rw [decide_eq_false (fun z => q2 (s2.mpr z))] at H; exact H
theorem j_length {p : Nat} (hp : p < 58 ∧ p % 2 = 0) (H : k (nI (htx (p / 2)).length) g e) : hci (d + 2) 4 [.ref p] g e k X := by
  refine zh_J0_length_8abf5 hp (zh_J0_coder_7d493 hp (zbr_f (by decide) ?_))
  rw [show (0 : Int32) &&& 31 = 0 from rfl, show (p + 1) / 2 = p / 2 by omega, Int32.shiftRight_zero]
  exact H
theorem htx_b2 : ∀ q, q < 29 → ∀ i, i < 10 → (htx q).getD i 0 < 128 := by decide +kernel
theorem htx_l : ∀ q, q < 29 → (htx q).length < 10 := by decide +kernel
theorem htx_c : ∀ n, n < 128 → ((nI n &&& 255 : Int32).toUInt32 % 65536).toInt32 = nI n := by decide +kernel
theorem j_charAt {p i : Nat} (hp : p < 58 ∧ p % 2 = 0) (hi : i < (htx (p / 2)).length) (H : k (nI ((htx (p / 2)).getD i 0)) g e) : hci (d + 4) 5 [.ref p, .int (nI i)] g e k X := by
  have hl := htx_l (p / 2) (by omega)
  have hb := htx_b2 (p / 2) (by omega) i (by omega)
  refine zh_J0_charAt_5068e hp (zh_J0_isLatin1_aae02 hp (zbr_f (by decide) (zbr_t rfl (zbr_f (by decide) ?_))))
  have hp1 : p + 1 < 58 ∧ (p + 1) % 2 = 1 := by omega
  refine zh_J1_charAt_3b067 hp1 (zh_J0_checkIndex_df160 (zh_J3_checkIndex_8e157 (zbr_f (nI_pos (by omega)) ?_)))
  rw [show (p + 1) / 2 = p / 2 by omega, nI_clamp (by omega), htx_c _ hb]
  exact zbr_t (nI_lt hi (by omega)) ⟨nI_in hi (by omega), ⟨_, by omega, rfl⟩, ⟨_, by omega, rfl⟩, H⟩
/-- whether a byte is a sign -/
theorem j_sign {b : Nat} (hb : b < 256) (H1 : isSg b = true → ∀ v, v < 9 → k (nI v) g e) (H0 : isSg b = false → k (-1) g e) : hci (d + 5) 6 [.ref 0, .int (nI b)] g e k X := by
  have hp : 0 < 58 ∧ 0 % 2 = 0 := by omega
  have hp1 : 0 + 1 < 58 ∧ (0 + 1) % 2 = 1 := by omega
  refine zh_J0_indexOf_0f7a4 hp (zh_J0_indexOf_7cf53 hp (zh_J0_isLatin1_aae02 hp (zbr_f (by decide) (zbr_t rfl (zbr_f (by decide) (j_length hp (zh_J1_indexOf_4cfef hp1 (zh_J1_canEncode_9a6ad (zbr_f (nI_pos (by omega)) (zbr_f (by rw [show (255 : Int32) = nI 255 from rfl]; exact nI_nlt (by omega) (by omega)) (zbr_f (by decide) ?_)))))))))))
  refine c_max (c_min ?_)
  rw [show imx 0 0 = 0 from rfl, show imn (nI (htx (0 / 2)).length) (nI (htx ((0 + 1) / 2)).length) = nI 9 from rfl]
  refine zbr_t (by decide) (zh_J1_indexOfChar_4cfef hp1 ?_)
  rw [sby_all b hb]
  have main : ∀ i, i ≤ 9 → (∀ j, j < i → ¬ b = (htx 0).getD j 0) → hwi (d + 1) zm_J1_indexOfChar_4cfef k X 7 [(0, .ref 1), (3, .int (nI 9)), (4, .int (sby8 b)), (5, .int (nI i))] g e := by
    refine hdown ?_ ?_
    · intro A
      refine zh_J1_indexOfChar_4cfef_7 hp1 (zbr_t (nI_le (Nat.le_refl _) (by omega)) (H0 (decide_eq_false (fun z => ?_))))
      obtain ⟨j, hj⟩ := List.getElem?_of_mem z
      have hl : j < 9 := (List.getElem?_eq_some_iff.mp hj).1
      exact A j hl (by rw [List.getD_eq_getElem?_getD, hj]; rfl)
    · intro i hi W A
      have hb2 := htx_b2 0 (by omega) i (by omega)
      refine zh_J1_indexOfChar_4cfef_7 hp1 (zbr_f (nI_ge hi (by omega)) ⟨nI_in (N := (htx (1 / 2)).length) hi (by decide), ?_⟩)
      rw [nI_clamp (by omega), nI_1]
      refine ⟨fun q => H1 (decide_eq_true ?_) i hi, fun q => W (fun j hj => ?_)⟩
      · have q : sby8 b = nI ((htx 0).getD i 0) := q.symm
        rw [(sby_eq hb hb2).mp q, List.getD_eq_getElem?_getD, List.getElem?_eq_getElem (show i < (htx 0).length from hi)]
        exact List.getElem_mem _
      · by_cases c : j = i
        · subst c
          intro z
          exact q ((sby_eq hb hb2).mpr z).symm
        · exact A j (by omega)
  exact main 0 (by omega) (fun j h => absurd h (Nat.not_lt_zero _))
end
