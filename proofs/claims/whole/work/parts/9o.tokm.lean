/-! words and signs in the class; tokens in the model -/
theorem isW_t {T : sT} {t : tok} {w : List Nat} : isW T t w = true ↔ t.1 = 1 ∧ t.2.2.1 - t.2.1 = w.length ∧ ∀ i, i < w.length → T.2 (t.2.1 + i) = w.getD i 0 := by
  unfold isW
  rw [Bool.and_eq_true, Bool.and_eq_true, decide_eq_true_iff, decide_eq_true_iff, List.all_eq_true]
  constructor
  · intro h
    exact ⟨h.1, h.2.1, fun i hi => of_decide_eq_true (h.2.2 i (List.mem_range.mpr hi))⟩
  · intro h
    exact ⟨h.1, h.2.1, fun i hi => decide_eq_true (h.2.2 i (List.mem_range.mp hi))⟩
theorem isC_t {T : sT} {t : tok} {c : Nat} : isC T t c = true ↔ t.1 = 3 ∧ T.2 t.2.1 = c := by
  unfold isC
  rw [Bool.and_eq_true, decide_eq_true_iff, decide_eq_true_iff]
section
variable {d : Nat} {k : Int32 → hG → hE → Prop} {kv : hG → hE → Prop} {X : Nat → hG → hE → Prop} {g : hG} {e : hE} {T : sT} {t : tok}
theorem c_isWord (hc : cps g T t) (hw : wtk T t) {p : Nat} (hp : p < 58 ∧ p % 2 = 0) (H : k (bI (isW T t (htx (p / 2)))) g e) : hci (d + 6) 72 [.ref 1001, .ref p] g e k X := by
  obtain ⟨hx, h2, h3, h4, -⟩ := hc
  obtain ⟨w1, w2, w3, w4, w5, w6⟩ := hw
  have hT := hx.2.1
  have hl := htx_l (p / 2) (by omega)
  have no : ¬ (t.1 = 1 ∧ t.2.2.1 - t.2.1 = (htx (p / 2)).length ∧ ∀ i, i < (htx (p / 2)).length → T.2 (t.2.1 + i) = (htx (p / 2)).getD i 0) → k 0 g e := by
    intro q
    rw [show isW T t (htx (p / 2)) = false from Bool.eq_false_iff.mpr (fun z => q (isW_t.mp z))] at H
    exact H
  refine zh_X3_isWord hp ?_
  rw [h2]
  refine ⟨fun c => j_length hp ?_, fun c => no (fun q => c (by rw [q.1]; rfl))⟩
  have c' : t.1 = 1 := (nI_eq (b := 1) (by omega) (by omega)).mp c
  rw [h3, h4, pk_sub w1]
  refine ⟨fun c2 => ?_, fun c2 => no (fun q => c2 (by rw [q.2.1]))⟩
  have c2' : t.2.2.1 - t.2.1 = (htx (p / 2)).length := (nI_eq (by omega) (by omega)).mp c2
  have : ∀ i, i ≤ (htx (p / 2)).length → (∀ j, j < i → T.2 (t.2.1 + j) = (htx (p / 2)).getD j 0) → hwi (d + 5) zm_X3_isWord k X 28 [(0, .ref 1001), (1, .ref p), (2, .int (nI i))] g e := by
    refine hdown ?_ ?_
    · intro A
      refine zh_X3_isWord_28 hp (j_length hp (zbr_t (nI_le (Nat.le_refl _) (by omega)) ?_))
      rw [isW_t.mpr ⟨c', c2', A⟩] at H
      exact H
    · intro i hi W A
      have hin : t.2.1 + i < T.1 := by omega
      have hb := (hx.2.2 _ hin).2
      have hb2 := htx_b2 (p / 2) (by omega) i (by omega)
      refine zh_X3_isWord_28 hp (j_length hp (zbr_f (nI_ge hi (by omega)) ?_))
      rw [h3, nI_add, nI_1]
      refine c_byteAt hx (by omega) (j_charAt hp hi ?_)
      unfold cby
      rw [if_pos hin]
      refine ⟨fun q => W (fun j hj => ?_), fun q => no (fun y => q ((sby_eq hb hb2).mpr (y.2.2 i hi)))⟩
      by_cases cj : j = i
      · subst cj; exact (sby_eq hb hb2).mp q
      · exact A j (by omega)
  exact this 0 (Nat.zero_le _) (fun j h => absurd h (Nat.not_lt_zero _))
theorem c_isSign (hc : cps g T t) (hw : wtk T t) {c : Nat} (hcc : c < 128) (H : k (bI (isC T t c)) g e) : hci (d + 2) 73 [.ref 1001, .int (nI c)] g e k X := by
  obtain ⟨hx, h2, h3, h4, -⟩ := hc
  obtain ⟨w1, w2, w3, w4, w5, w6⟩ := hw
  have hT := hx.2.1
  have no : ¬ (t.1 = 3 ∧ T.2 t.2.1 = c) → k 0 g e := by
    intro q
    rw [show isC T t c = false from Bool.eq_false_iff.mpr (fun z => q (isC_t.mp z))] at H
    exact H
  refine zh_X3_isSign ?_
  rw [h2]
  refine ⟨fun q => ?_, fun q => no (fun y => q (by rw [y.1]; rfl))⟩
  have q' : t.1 = 3 := (nI_eq (b := 3) (by omega) (by omega)).mp q
  have := w3 (by omega)
  have hin : t.2.1 < T.1 := by omega
  rw [h3]
  refine c_byteAt hx (by omega) ?_
  unfold cby
  rw [if_pos hin]
  have hb := (hx.2.2 _ hin).2
  refine ⟨fun q2 => ?_, fun q2 => no (fun y => q2 ((sby_eq hb hcc).mpr y.2))⟩
  rw [isC_t.mpr ⟨q', (sby_eq hb hcc).mp q2⟩] at H
  exact H
/-- a fault is kept -/
def cfl (g : hG) (c a : Nat) : Prop := g.1 1001 6 = nI c ∧ g.1 1001 4 = nI a
/-- tokens and faults of the class change -/
def tff (g g' : hG) : Prop := (∀ b, ¬ b = 1001 → g'.1 b = g.1 b) ∧ (∀ k, k < 3 ∨ 6 < k → g'.1 1001 k = g.1 1001 k) ∧ g'.2 = g.2
theorem tff.refl {g : hG} : tff g g := ⟨fun _ _ => rfl, fun _ _ => rfl, rfl⟩
theorem tff.trans {g g' g'' : hG} (h : tff g g') (h' : tff g' g'') : tff g g'' := ⟨fun b q => (h'.1 b q).trans (h.1 b q), fun k q => (h'.2.1 k q).trans (h.2.1 k q), h'.2.2.trans h.2.2⟩
theorem tff_t {g g' : hG} (h : tfr g g') : tff g g' := ⟨h.1, fun k q => h.2.1 k (by omega), h.2.2⟩
theorem c_fail (hc : cps g T t) {c : Nat} (H : ∀ g', tff g g' → cfl g' c t.2.1 → k 0 g' e) : hci (d + 1) 74 [.ref 1001, .int (nI c)] g e k X :=
  zh_X3_fail (H _ ⟨fun b q => sI_off _ q, fun j q => by rw [sI_at, upd_off _ _ (by omega)], rfl⟩ ⟨by rw [sI_at, upd_at], by rw [sI_at, upd_off _ _ (by omega)]; exact hc.2.2.1⟩)
theorem c_next (hc : cps g T t) (hw : wtk T t) (H : ∀ g', tfr g g' → cps g' T (tkn T t.2.2.1) → kv g' e) : hcv (d + 7) 70 [.ref 1001] g e kv X := c_advance hc.1 hw.2.1 hc.2.2.2.1 H
theorem c_takeSign (hc : cps g T t) (hw : wtk T t) {c : Nat} (hcc : c < 128) (H1 : isC T t c = true → ∀ g', tff g g' → cps g' T (tkn T t.2.2.1) → k 1 g' e) (H0 : isC T t c = false → ∀ g', tff g g' → cfl g' 1 t.2.1 → k 0 g' e) : hci (d + 8) 75 [.ref 1001, .int (nI c)] g e k X := by
  refine zh_X3_takeSign (c_isSign hc hw hcc ?_)
  cases q : isC T t c with
  | false => exact zbr_t rfl (c_fail (c := 1) hc (fun g' f' c' => ⟨.inl rfl, H0 q g' f' c'⟩))
  | true => exact zbr_f (by decide) (c_next hc hw (fun g' f' c' => H1 q g' (tff_t f') c'))
/-- tokens of the model -/
def mtx (g : hG) (T : sT) : Prop := g.1 1046 17 = nI T.1 ∧ T.1 ≤ 700 ∧ ∀ i, i < T.1 → g.1 1059 i = nI (T.2 i) ∧ T.2 i < 256
def mps (g : hG) (T : sT) (t : tok) : Prop := mtx g T ∧ g.1 1046 18 = nI t.1 ∧ g.1 1046 20 = nI t.2.1 ∧ g.1 1046 21 = nI t.2.2.1 ∧ g.1 1046 16 = nI t.2.2.1 ∧ (t.1 = 2 → ∃ v, v ≤ 100000 ∧ g.1 1046 19 = nI v ∧ (t.2.2.1 - t.2.1 ≤ 4 → v = t.2.2.2)) ∧ g.1 1046 22 = 0
abbrev tF : List Nat := [16, 18, 19, 20, 21]
theorem mtx_fr {L F : List Nat} {g' : hG} (h : fr L F g g') (h1 : ¬ 1059 ∈ L) (h2 : ¬ 17 ∈ F) (hm : mtx g T) : mtx g' T := by
  unfold mtx
  rw [h.2.1 17 h2, h.1 1059 h1 (by decide)]
  exact hm
def mby (T : sT) (a : Nat) : Int32 := if a < T.1 then nI (T.2 a) else -1
theorem cm_byteAt (hm : mtx g T) {a : Nat} (ha : a < 2 ^ 30) (H : k (mby T a) g e) : hci (d + 1) 223 [.ref 1046, .int (nI a)] g e k X := by
  obtain ⟨h1, h2, h3⟩ := hm
  refine zh_X8_byteAt ?_
  unfold mby at H
  rw [h1]
  by_cases c : a < T.1
  · rw [if_pos c] at H
    refine zbr_f (nI_ge c (by omega)) ⟨nI_in (by omega) (by omega), ?_⟩
    rw [nI_clamp (by omega), (h3 a c).1]
    exact H
  · rw [if_neg c] at H
    exact zbr_t (nI_le (by omega) (by omega)) H
theorem mcl_all : ∀ b, b < 256 → (nI b < 97 ↔ ¬ 97 ≤ b) ∧ (122 < nI b ↔ ¬ b ≤ 122) ∧ (nI b < 48 ↔ ¬ 48 ≤ b) ∧ (57 < nI b ↔ ¬ b ≤ 57) ∧ (nI b = 32 ↔ b = 32) ∧ (nI b = 10 ↔ b = 10) := by decide +kernel
theorem cm_isLetter (hm : mtx g T) {a : Nat} (H : k (bI (decide (a < T.1) && isLt (T.2 a))) g e) : hci (d + 1) 224 [.int (mby T a)] g e k X := by
  refine zh_X8_isLetter ?_
  unfold mby isLt at *
  by_cases c : a < T.1
  · obtain ⟨s1, s2, -⟩ := mcl_all (T.2 a) (hm.2.2 a c).2
    rw [if_pos c]
    rw [decide_eq_true c, Bool.true_and] at H
    refine ⟨fun q => ?_, fun q => ⟨fun q2 => ?_, fun q2 => ?_⟩⟩
    · rw [decide_eq_false (s1.mp q)] at H; exact H
    · rw [decide_eq_false (s2.mp q2), Bool.and_false] at H; exact H
    · rw [decide_eq_true (Decidable.byContradiction (fun z => q (s1.mpr z))), decide_eq_true (Decidable.byContradiction (fun z => q2 (s2.mpr z)))] at H; exact H
  · rw [decide_eq_false c, Bool.false_and] at H
    rw [if_neg c]
    exact zbr_t (by decide) H
theorem cm_isDigit (hm : mtx g T) {a : Nat} (H : k (bI (decide (a < T.1) && isDg (T.2 a))) g e) : hci (d + 1) 225 [.int (mby T a)] g e k X := by
  refine zh_X8_isDigit ?_
  unfold mby isDg at *
  by_cases c : a < T.1
  · obtain ⟨-, -, s1, s2, -⟩ := mcl_all (T.2 a) (hm.2.2 a c).2
    rw [if_pos c]
    rw [decide_eq_true c, Bool.true_and] at H
    refine ⟨fun q => ?_, fun q => ⟨fun q2 => ?_, fun q2 => ?_⟩⟩
    · rw [decide_eq_false (s1.mp q)] at H; exact H
    · rw [decide_eq_false (s2.mp q2), Bool.and_false] at H; exact H
    · rw [decide_eq_true (Decidable.byContradiction (fun z => q (s1.mpr z))), decide_eq_true (Decidable.byContradiction (fun z => q2 (s2.mpr z)))] at H; exact H
  · rw [decide_eq_false c, Bool.false_and] at H
    rw [if_neg c]
    exact zbr_t (by decide) H
theorem isSg_e {b : Nat} : isSg b = (decide (b = 59) || (decide (b = 40) || (decide (b = 41) || (decide (b = 43) || (decide (b = 45) || (decide (b = 42) || (decide (b = 47) || (decide (b = 60) || decide (b = 61))))))))) := by
  unfold isSg
  rw [show htx 0 = [59, 40, 41, 43, 45, 42, 47, 60, 61] from rfl]
  simp only [List.mem_cons, List.not_mem_nil, or_false, Bool.decide_or]
theorem cm_isMark {b : Nat} (hb : b < 256) (H : k (bI (isSg b)) g e) : hci (d + 1) 226 [.int (nI b)] g e k X := by
  rw [isSg_e] at H
  have s : ∀ c, c < 256 → (nI b = nI c ↔ b = c) := fun c hc => nI_eq (by omega) (by omega)
  have y : ∀ c, c < 256 → nI b = nI c → decide (b = c) = true := fun c hc q => decide_eq_true ((s c hc).mp q)
  have n : ∀ c, c < 256 → ¬ nI b = nI c → decide (b = c) = false := fun c hc q => decide_eq_false (fun z => q ((s c hc).mpr z))
  refine zh_X8_isMark ⟨fun q => ?_, fun q1 => ⟨fun q => ?_, fun q2 => ⟨fun q => ?_, fun q3 => ⟨fun q => ?_, fun q4 => ⟨fun q => ?_, fun q5 => ⟨fun q => ?_, fun q6 => ⟨fun q => ?_, fun q7 => ⟨fun q => ?_, fun q8 => ⟨fun q => ?_, fun q9 => ?_⟩⟩⟩⟩⟩⟩⟩⟩⟩
  · rw [y 59 (by omega) q] at H; exact H
  · rw [y 40 (by omega) q, Bool.true_or, Bool.or_true] at H; exact H
  · rw [y 41 (by omega) q, Bool.true_or, Bool.or_true, Bool.or_true] at H; exact H
  · rw [y 43 (by omega) q, Bool.true_or, Bool.or_true, Bool.or_true, Bool.or_true] at H; exact H
  · rw [y 45 (by omega) q, Bool.true_or, Bool.or_true, Bool.or_true, Bool.or_true, Bool.or_true] at H; exact H
  · rw [y 42 (by omega) q, Bool.true_or, Bool.or_true, Bool.or_true, Bool.or_true, Bool.or_true, Bool.or_true] at H; exact H
  · rw [y 47 (by omega) q, Bool.true_or, Bool.or_true, Bool.or_true, Bool.or_true, Bool.or_true, Bool.or_true, Bool.or_true] at H; exact H
  · rw [y 60 (by omega) q, Bool.true_or, Bool.or_true, Bool.or_true, Bool.or_true, Bool.or_true, Bool.or_true, Bool.or_true, Bool.or_true] at H; exact H
  · rw [y 61 (by omega) q, Bool.or_true, Bool.or_true, Bool.or_true, Bool.or_true, Bool.or_true, Bool.or_true, Bool.or_true, Bool.or_true] at H; exact H
  · rw [n 59 (by omega) q1, n 40 (by omega) q2, n 41 (by omega) q3, n 43 (by omega) q4, n 45 (by omega) q5, n 42 (by omega) q6, n 47 (by omega) q7, n 60 (by omega) q8, n 61 (by omega) q9] at H
    exact H
theorem mF (g : hG) {k : Nat} {v : Int32} (hk : k ∈ tF) : fr [] tF g (sI g 1046 k v) := fr_fld hk
theorem cm_stepOn (hm : mtx g T) {b : Nat} (hb : b ≤ T.1) (h4 : g.1 1046 16 = nI b) (h0 : g.1 1046 22 = 0) (H : ∀ g', fr [] tF g g' → mps g' T (tkn T b) → kv g' e) : hcv (d + 3) 227 [.ref 1046] g e kv X := by
  have hT := hm.2.1
  have hTb := hm.2.2
  refine zh_X8_stepOn ?_
  obtain ⟨S, hS⟩ : ∃ S, S = tskp isBl T b := ⟨_, rfl⟩
  have S1 : S ≤ T.1 := by rw [hS]; exact tskp_le hb
  unfold tkn at H
  rw [← hS] at H
  have mt : ∀ {g1 : hG}, fr [] tF g g1 → mtx g1 T := fun f => mtx_fr f (by decide) (by decide) hm
  have m0 : ∀ {g1 : hG}, fr [] tF g g1 → g1.1 1046 22 = 0 := fun f => by rw [f.2.1 22 (by decide)]; exact h0
  have atS : ∀ g4, fr [] tF g g4 → g4.1 1046 16 = nI S → hci (d + 2) 223 [.ref 1046, .int ((sI g4 1046 20 (g4.1 1046 16)).1 1046 16)] (sI g4 1046 20 (g4.1 1046 16)) e (fun x9 g7 e8 =>
              zbr (x9 = (-1))
              (kv (sI (sI g7 1046 18 0) 1046 21 ((sI g7 1046 18 0).1 1046 16)) e8)
              (hci (d + 2) 224 [.int x9] g7 e8 (fun x12 g10 e11 =>
                  zbr (x12 = 0)
                  (hci (d + 2) 225 [.int x9] g10 e11 (fun x15 g13 e14 =>
                      zbr (x15 = 0)
                      (hci (d + 2) 226 [.int x9] (sI g13 1046 16 ((g13.1 1046 16) + 1)) e14 (fun x18 g16 e17 =>
                          zbr (x18 = 0)
                          (kv (sI (sI g16 1046 18 4) 1046 21 ((sI g16 1046 18 4).1 1046 16)) e17)
                          (kv (sI (sI g16 1046 18 3) 1046 21 ((sI g16 1046 18 3).1 1046 16)) e17)) X)
                      (hwv (d + 2) zm_X8_stepOn kv X 123 [(0, .ref 1046)] (sI g13 1046 19 0) e14)) X)
                  (hwv (d + 2) zm_X8_stepOn kv X 76 [(0, .ref 1046)] g10 e11)) X)) X := by
    intro g1 f1 k4
    have f2 : fr [] tF g (sI g1 1046 20 (g1.1 1046 16)) := f1.trans (mF _ (by decide))
    have k20 : (sI g1 1046 20 (g1.1 1046 16)).1 1046 20 = nI S := by rw [sI_at, upd_at]; exact k4
    have k16 : (sI g1 1046 20 (g1.1 1046 16)).1 1046 16 = nI S := by rw [sI_at, upd_off _ _ (by omega)]; exact k4
    generalize sI g1 1046 20 (g1.1 1046 16) = g2 at *
    rw [k16]
    refine cm_byteAt (mt f2) (by omega) ?_
    by_cases c : T.1 ≤ S
    · rw [if_pos c] at H
      have f3 : fr [] tF g (sI (sI g2 1046 18 0) 1046 21 ((sI g2 1046 18 0).1 1046 16)) := (f2.trans (mF _ (by decide))).trans (mF _ (by decide))
      unfold mby
      rw [if_neg (by omega)]
      refine zbr_t rfl (H _ f3 ⟨mt f3, ?_, ?_, ?_, ?_, fun z => absurd (show (0 : Nat) = 2 from z) (by decide), m0 f3⟩)
      · rw [sI_at, upd_off _ _ (by omega), sI_at, upd_at]; rfl
      · rw [sI_at, upd_off _ _ (by omega), sI_at, upd_off _ _ (by omega)]; exact k20
      · rw [sI_at, upd_at, sI_at, upd_off _ _ (by omega)]; exact k16
      · rw [sI_at, upd_off _ _ (by omega), sI_at, upd_off _ _ (by omega)]; exact k16
    · rw [if_neg c] at H
      have cl : S < T.1 := by omega
      have hb := (hTb S cl).2
      refine zbr_f (by unfold mby; rw [if_pos cl]; exact nI_m1 (by omega)) (cm_isLetter (mt f2) ?_)
      rw [decide_eq_true cl, Bool.true_and]
      cases q1 : isLt (T.2 S) with
      | true =>
        rw [q1, if_pos rfl] at H
        refine zbr_f (by decide) ?_
        obtain ⟨E, hE⟩ : ∃ E, E = tskp isLt T S := ⟨_, rfl⟩
        rw [← hE] at H
        have main := tskp_ind (P := isLt) (T := T) (W := fun a => a ≤ T.1 → tskp isLt T a = E → ∀ g3, fr [] tF g g3 → g3.1 1046 20 = nI S → g3.1 1046 16 = nI a → hwv (d + 2) zm_X8_stepOn kv X 76 [(0, .ref 1046)] g3 e) ?_ ?_ S
        · exact main S1 hE.symm g2 f2 k20 k16
        · intro a ha h2 h5 g3 f3 j20 j16
          rw [tskp_n ha] at h5
          refine zh_X8_stepOn_76 ?_
          rw [j16]
          refine cm_byteAt (mt f3) (by omega) (cm_isLetter (mt f3) ?_)
          rw [show (decide (a < T.1) && isLt (T.2 a)) = false from Bool.eq_false_iff.mpr (fun z => ha (by rw [Bool.and_eq_true, decide_eq_true_iff] at z; exact z))]
          have f4 : fr [] tF g (sI (sI g3 1046 18 1) 1046 21 ((sI g3 1046 18 1).1 1046 16)) := (f3.trans (mF _ (by decide))).trans (mF _ (by decide))
          refine zbr_t rfl (H _ f4 ⟨mt f4, ?_, ?_, ?_, ?_, fun z => absurd (show (1 : Nat) = 2 from z) (by decide), m0 f4⟩)
          · rw [sI_at, upd_off _ _ (by omega), sI_at, upd_at]; rfl
          · rw [sI_at, upd_off _ _ (by omega), sI_at, upd_off _ _ (by omega)]; exact j20
          · rw [sI_at, upd_at, sI_at, upd_off _ _ (by omega), j16, h5]
          · rw [sI_at, upd_off _ _ (by omega), sI_at, upd_off _ _ (by omega), j16, h5]
        · intro a ha1 ha2 ih h2 h5 g3 f3 j20 j16
          rw [tskp_y ha1 ha2] at h5
          refine zh_X8_stepOn_76 ?_
          rw [j16]
          refine cm_byteAt (mt f3) (by omega) (cm_isLetter (mt f3) ?_)
          rw [ha2, decide_eq_true ha1]
          refine zbr_f (by decide) ?_
          rw [j16, nI_1]
          refine ih (by omega) h5 _ (f3.trans (mF _ (by decide))) ?_ ?_
          · rw [sI_at, upd_off _ _ (by omega)]; exact j20
          · rw [sI_at, upd_at]
      | false =>
        rw [q1, if_neg Bool.false_ne_true] at H
        refine zbr_t rfl (cm_isDigit (mt f2) ?_)
        rw [decide_eq_true cl, Bool.true_and]
        cases q2 : isDg (T.2 S) with
        | true =>
          rw [q2, if_pos rfl] at H
          refine zbr_f (by decide) ?_
          obtain ⟨E, hE⟩ : ∃ E, E = tskp isDg T S := ⟨_, rfl⟩
          rw [← hE] at H
          have main := tskp_ind (P := isDg) (T := T) (W := fun a => S ≤ a → a ≤ T.1 → tskp isDg T a = E → ∀ g3, fr [] tF g g3 → g3.1 1046 20 = nI S → g3.1 1046 16 = nI a → (∃ v, v ≤ 100000 ∧ g3.1 1046 19 = nI v ∧ (a - S ≤ 4 → v = dval T S (a - S) ∧ v < 10 ^ (a - S))) → hwv (d + 2) zm_X8_stepOn kv X 123 [(0, .ref 1046)] g3 e) ?_ ?_ S
          · refine main (Nat.le_refl _) S1 hE.symm _ (f2.trans (mF _ (by decide))) ?_ ?_ ⟨0, by omega, by rw [sI_at, upd_at]; rfl, fun _ => by rw [Nat.sub_self]; exact ⟨rfl, by show 0 < 1; omega⟩⟩
            · rw [sI_at, upd_off _ _ (by omega)]; exact k20
            · rw [sI_at, upd_off _ _ (by omega)]; exact k16
          · intro a ha h1 h2 h5 g3 f3 j20 j16 ⟨v, v1, v2, v3⟩
            rw [tskp_n ha] at h5
            refine zh_X8_stepOn_123 ?_
            rw [j16]
            refine cm_byteAt (mt f3) (by omega) (cm_isDigit (mt f3) ?_)
            rw [show (decide (a < T.1) && isDg (T.2 a)) = false from Bool.eq_false_iff.mpr (fun z => ha (by rw [Bool.and_eq_true, decide_eq_true_iff] at z; exact z))]
            have f4 : fr [] tF g (sI (sI g3 1046 18 2) 1046 21 ((sI g3 1046 18 2).1 1046 16)) := (f3.trans (mF _ (by decide))).trans (mF _ (by decide))
            refine zbr_t rfl (H _ f4 ⟨mt f4, ?_, ?_, ?_, ?_, fun _ => ⟨v, v1, ?_, fun hn => ?_⟩, m0 f4⟩)
            · rw [sI_at, upd_off _ _ (by omega), sI_at, upd_at]; rfl
            · rw [sI_at, upd_off _ _ (by omega), sI_at, upd_off _ _ (by omega)]; exact j20
            · rw [sI_at, upd_at, sI_at, upd_off _ _ (by omega), j16, h5]
            · rw [sI_at, upd_off _ _ (by omega), sI_at, upd_off _ _ (by omega), j16, h5]
            · rw [sI_at, upd_off _ _ (by omega), sI_at, upd_off _ _ (by omega)]; exact v2
            · have hn : E - S ≤ 4 := hn
              show v = tnum T S E
              unfold tnum
              rw [if_pos hn, ← h5]
              exact (v3 (by omega)).1
          · intro a ha1 ha2 ih h1 h2 h5 g3 f3 j20 j16 ⟨v, v1, v2, v3⟩
            have dg := isDg_t ha2
            rw [tskp_y ha1 ha2] at h5
            refine zh_X8_stepOn_123 ?_
            rw [j16]
            refine cm_byteAt (mt f3) (by omega) (cm_isDigit (mt f3) ?_)
            rw [ha2, decide_eq_true ha1]
            refine zbr_f (by decide) ?_
            rw [j16]
            refine cm_byteAt (mt f3) (by omega) (c_min ?_)
            unfold mby
            rw [if_pos ha1, v2, show (10 : Int32) = nI 10 from rfl, pk_mul, nI_add, show (48 : Int32) = nI 48 from rfl, pk_sub (by omega), show (100000 : Int32) = nI 100000 from rfl, imn_nI (by omega) (by omega), sI_at, upd_off _ _ (by omega), j16, nI_1]
            refine ih (by omega) (by omega) h5 _ ((f3.trans (mF _ (by decide))).trans (mF _ (by decide))) ?_ ?_ ⟨min 100000 (10 * v + T.2 a - 48), Nat.min_le_left _ _, ?_, fun hn => ?_⟩
            · rw [sI_at, upd_off _ _ (by omega), sI_at, upd_off _ _ (by omega)]; exact j20
            · rw [sI_at, upd_at]
            · rw [sI_at, upd_off _ _ (by omega), sI_at, upd_at]
            · obtain ⟨w1, w2⟩ := v3 (by omega)
              have hs : a + 1 - S = (a - S) + 1 := by omega
              have hd : dval T S (a + 1 - S) = dval T S (a - S) * 10 + (T.2 a - 48) := by
                rw [hs]
                show dval T S (a - S) * 10 + (T.2 (S + (a - S)) - 48) = _
                rw [show S + (a - S) = a by omega]
              have hp : 10 ^ (a - S) ≤ 10 ^ 3 := Nat.pow_le_pow_right (by omega) (by omega)
              have hp2 : 10 ^ (a + 1 - S) = 10 ^ (a - S) * 10 := by rw [hs, Nat.pow_succ]
              rw [hd, hp2, ← w1]
              constructor <;> omega
        | false =>
          rw [q2, if_neg Bool.false_ne_true] at H
          refine zbr_t rfl ?_
          have e1 : mby T S = nI (T.2 S) := by unfold mby; rw [if_pos cl]
          rw [e1, k16, nI_1]
          have fA : fr [] tF g (sI g2 1046 16 (nI (S + 1))) := f2.trans (mF _ (by decide))
          refine cm_isMark hb ?_
          have fin : ∀ v : Nat, v = (if isSg (T.2 S) = true then 3 else 4) → kv (sI (sI (sI g2 1046 16 (nI (S + 1))) 1046 18 (nI v)) 1046 21 ((sI (sI g2 1046 16 (nI (S + 1))) 1046 18 (nI v)).1 1046 16)) e := by
            intro v hv
            have f3 : fr [] tF g (sI (sI (sI g2 1046 16 (nI (S + 1))) 1046 18 (nI v)) 1046 21 ((sI (sI g2 1046 16 (nI (S + 1))) 1046 18 (nI v)).1 1046 16)) := (fA.trans (mF _ (by decide))).trans (mF _ (by decide))
            refine H _ f3 ⟨mt f3, ?_, ?_, ?_, ?_, fun z => ?_, m0 f3⟩
            · rw [sI_at, upd_off _ _ (by omega), sI_at, upd_at, hv]
            · rw [sI_at, upd_off _ _ (by omega), sI_at, upd_off _ _ (by omega), sI_at, upd_off _ _ (by omega)]; exact k20
            · rw [sI_at, upd_at, sI_at, upd_off _ _ (by omega), sI_at, upd_at]
            · rw [sI_at, upd_off _ _ (by omega), sI_at, upd_off _ _ (by omega), sI_at, upd_at]
            · have z : (if isSg (T.2 S) = true then 3 else 4) = 2 := z
              split at z <;> omega
          cases q : isSg (T.2 S) with
          | false => exact zbr_t rfl (fin 4 (by rw [q]; rfl))
          | true => exact zbr_f (by decide) (fin 3 (by rw [q]; rfl))
  have main := tskp_ind (P := isBl) (T := T) (W := fun a => a ≤ T.1 → tskp isBl T a = S → ∀ g1, fr [] tF g g1 → g1.1 1046 16 = nI a → hwv (d + 2) zm_X8_stepOn kv X 0 [(0, .ref 1046)] g1 e) ?_ ?_ b
  · exact main hb hS.symm g fr.refl h4
  · intro a ha h1 h5 g1 f1 k4
    rw [tskp_n ha] at h5
    refine zh_X8_stepOn_0 ?_
    have nb : ¬ mby T a = 32 ∧ ¬ mby T a = 10 := by
      unfold mby
      by_cases c : a < T.1
      · rw [if_pos c]
        obtain ⟨-, -, -, -, s1, s2⟩ := mcl_all (T.2 a) (hTb a c).2
        have nB : ¬ isBl (T.2 a) = true := fun z => ha ⟨c, z⟩
        unfold isBl at nB
        rw [Bool.or_eq_true, decide_eq_true_iff, decide_eq_true_iff] at nB
        exact ⟨fun z => nB (.inl (s1.mp z)), fun z => nB (.inr (s2.mp z))⟩
      · rw [if_neg c]; exact ⟨by decide, by decide⟩
    rw [k4]
    refine cm_byteAt (mt f1) (by omega) (zbr_f nb.1 ?_)
    have t2 := atS g1 f1 (by rw [k4, h5])
    rw [k4] at t2 ⊢
    exact cm_byteAt (mt f1) (by omega) (zbr_f nb.2 (by rw [k4]; exact t2))
  · intro a ha1 ha2 ih h1 h5 g1 f1 k4
    rw [tskp_y ha1 ha2] at h5
    obtain ⟨-, -, -, -, s1, s2⟩ := mcl_all (T.2 a) (hTb a ha1).2
    have e1 : mby T a = nI (T.2 a) := by unfold mby; rw [if_pos ha1]
    have go : hwv (d + 2) zm_X8_stepOn kv X 0 [(0, .ref 1046)] (sI g1 1046 16 (nI (a + 1))) e := ih (by omega) h5 _ (f1.trans (mF _ (by decide))) (by rw [sI_at, upd_at])
    unfold isBl at ha2
    rw [Bool.or_eq_true, decide_eq_true_iff, decide_eq_true_iff] at ha2
    refine zh_X8_stepOn_0 ?_
    rw [k4]
    refine cm_byteAt (mt f1) (by omega) ⟨fun _ => by rw [k4, nI_1]; exact go, fun q => ?_⟩
    rw [k4]
    refine cm_byteAt (mt f1) (by omega) ⟨fun _ => by rw [k4, nI_1]; exact go, fun q2 => ?_⟩
    rw [e1] at q q2
    exact absurd ha2 (fun z => z.elim (fun z => q (s1.mpr z)) (fun z => q2 (s2.mpr z)))
end
