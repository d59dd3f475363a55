/-! EXPRESSIONS: what they mean -/
abbrev pr : Type := (tok × List tk) ⊕ (Nat × Nat)
def plp (T : sT) (P : tok → pr) (op : tok → Option tk) : Nat → tok → List tk → pr
  | 0, t, s => .inl (t, s)
  | f + 1, t, s => match op t with
    | none => .inl (t, s)
    | some o => match P (tkn T t.2.2.1) with
      | .inl q => plp T P op f q.1 (s ++ (q.2 ++ [o]))
      | .inr e => .inr e
def pbin (T : sT) (P : tok → pr) (op : tok → Option tk) (t : tok) : pr := match P t with
  | .inl q => plp T P op 700 q.1 q.2
  | .inr e => .inr e
def pnt (T : sT) : Nat → tok → Nat → tok × Nat
  | 0, t, n => (t, n)
  | f + 1, t, n => if isW T t (htx 9) = true then pnt T f (tkn T t.2.2.1) (n + 1) else (t, n)
def pneg (T : sT) (P : tok → pr) (t : tok) : pr := if isW T (pnt T 6 t 0).1 (htx 9) = true then .inr (2, (pnt T 6 t 0).1.2.1) else match P (pnt T 6 t 0).1 with
  | .inl q => .inl (q.1, q.2 ++ List.replicate (pnt T 6 t 0).2 (2, 0))
  | .inr e => .inr e
def pcmp (T : sT) (P : tok → pr) (op : tok → Option tk) (t : tok) : pr := match P t with
  | .inl q => match op q.1 with
    | none => .inl q
    | some o => match P (tkn T q.1.2.2.1) with
      | .inl r => .inl (r.1, q.2 ++ (r.2 ++ [o]))
      | .inr e => .inr e
  | .inr e => .inr e
def pval (T : sT) (pu : Bool) (t : tok) : Option Nat := if isW T t (htx 3) = true then some 0 else if isW T t (htx 10) = true then some 1 else if isW T t (htx 11) = true then some 2 else if isW T t (htx 12) = true then some 3 else if isW T t (htx (if pu = true then 13 else 14)) = true then some 4 else none
def ppart (T : sT) (pu : Bool) (A : tok → pr) (t : tok) : pr := if isC T t 40 = true then (match A (tkn T t.2.2.1) with
  | .inl q => if isC T q.1 41 = true then .inl (tkn T q.1.2.2.1, q.2) else .inr (1, q.1.2.1)
  | .inr e => .inr e) else if t.1 = 2 then (if t.2.2.2 < 10000 then .inl (tkn T t.2.2.1, [(0, t.2.2.2)]) else .inr (2, t.2.1)) else if t.1 = 1 then (match pval T pu t with
  | some v => .inl (tkn T t.2.2.1, [(1, v)])
  | none => .inr (3, t.2.1)) else .inr (1, t.2.1)
def opor (T : sT) (t : tok) : Option tk := if isW T t (htx 7) = true then some (3, 0) else none
def opand (T : sT) (t : tok) : Option tk := if isW T t (htx 8) = true then some (3, 1) else none
def opcmp (T : sT) (t : tok) : Option tk := if isC T t 60 = true then some (3, 2) else if isC T t 61 = true then some (3, 3) else none
def opsum (T : sT) (t : tok) : Option tk := if isC T t 43 = true then some (3, 4) else if isC T t 45 = true then some (3, 5) else none
def opmul (T : sT) (t : tok) : Option tk := if isC T t 42 = true then some (3, 6) else if isC T t 47 = true then some (3, 7) else none
def pbeg (T : sT) (t : tok) : Bool := decide (t.1 = 2) || (decide (t.1 = 1) || isC T t 40)
def pany (T : sT) (pu : Bool) : Nat → tok → pr
  | 0, t => .inr (if pbeg T t = true then 2 else 1, t.2.1)
  | r + 1, t => pbin T (pbin T (pneg T (pcmp T (pbin T (pbin T (ppart T pu (pany T pu r)) (opmul T)) (opsum T)) (opcmp T))) (opand T)) (opor T) t
/-- one number more on the stack, and lim above at most -/
def pst (l : List tk) (lim : Nat) : Prop := ∀ rest d, d + lim ≤ 40 → wft rest (d + 1) → wft (l ++ rest) d
theorem pst_le {l : List tk} {a b : Nat} (h : a ≤ b) (hp : pst l a) : pst l b := fun rest d hd hw => hp rest d (by omega) hw
theorem pst_bin {l m : List tk} {a b o : Nat} (h1 : pst l a) (h2 : pst m b) (ho : o < 8) (ha : b + 1 ≤ a) : pst (l ++ (m ++ [(3, o)])) a := by
  intro rest d hd hw
  rw [List.append_assoc, List.append_assoc]
  refine h1 _ d hd (h2 _ (d + 1) (by omega) ?_)
  show o < 8 ∧ 2 ≤ d + 1 + 1 ∧ wft rest (d + 1 + 1 - 1)
  exact ⟨ho, by omega, hw⟩
theorem pst_nots {l : List tk} {a : Nat} (h : pst l a) : ∀ n, pst (l ++ List.replicate n (2, 0)) a := by
  intro n rest d hd hw
  rw [List.append_assoc]
  refine h _ d hd ?_
  induction n with
  | zero => exact hw
  | succ n ih =>
    rw [List.replicate_succ]
    show 1 ≤ d + 1 ∧ wft (List.replicate n (2, 0) ++ rest) (d + 1)
    exact ⟨by omega, ih⟩
theorem pst_ne {l : List tk} {a : Nat} (ha : a ≤ 40) (h : pst l a) : l ≠ [] := by
  rintro rfl
  have := h [] 0 (by omega) rfl
  exact absurd (show (0 : Nat) = 1 from this) (by decide)
/-- what is said of an outcome -/
def pgd (T : sT) (t : tok) (lim : Nat) (r : pr) : Prop := match r with
  | .inl q => wtk T q.1 ∧ t.2.1 + q.2.length ≤ q.1.2.1 ∧ pst q.2 lim
  | .inr q => ¬ q.1 = 0 ∧ q.1 ≤ 5 ∧ q.2 ≤ T.1
theorem nx_w {T : sT} {t : tok} (h : wtk T t) : wtk T (tkn T t.2.2.1) ∧ t.2.2.1 ≤ (tkn T t.2.2.1).2.1 := tkn_w h.2.1
theorem plp_gd {T : sT} {P : tok → pr} {op : tok → Option tk} {lim : Nat} {t0 : tok} (hP : ∀ t, wtk T t → pgd T t lim (P t)) (hop : ∀ t o, op t = some o → o.1 = 3 ∧ o.2 < 8 ∧ ¬ t.1 = 0) : ∀ f t s, wtk T t → t0.2.1 + s.length ≤ t.2.1 → pst s (lim + 1) → pgd T t0 (lim + 1) (plp T P op f t s)
  | 0, t, s, hw, hl, hs => ⟨hw, hl, hs⟩
  | f + 1, t, s, hw, hl, hs => by
    unfold plp
    cases ho : op t with
    | none => exact ⟨hw, hl, hs⟩
    | some o =>
      obtain ⟨o1, o2, o3⟩ := hop t o ho
      obtain ⟨n1, n2⟩ := nx_w hw
      have := hP _ n1
      show pgd T t0 (lim + 1) (match P (tkn T t.2.2.1) with | .inl q => plp T P op f q.1 (s ++ (q.2 ++ [o])) | .inr e => .inr e)
      cases hq : P (tkn T t.2.2.1) with
      | inl q =>
        rw [hq] at this
        obtain ⟨q1, q2, q3⟩ := this
        have := hw.2.2.1 o3
        refine plp_gd hP hop f q.1 _ q1 ?_ ?_
        · rw [List.length_append, List.length_append, List.length_singleton]; omega
        · have : o = (3, o.2) := by rw [← o1]
          rw [this]
          exact pst_bin hs q3 o2 (by omega)
      | inr e =>
        rw [hq] at this
        exact this
theorem pbin_gd {T : sT} {P : tok → pr} {op : tok → Option tk} {lim : Nat} (hP : ∀ t, wtk T t → pgd T t lim (P t)) (hop : ∀ t o, op t = some o → o.1 = 3 ∧ o.2 < 8 ∧ ¬ t.1 = 0) (t : tok) (hw : wtk T t) : pgd T t (lim + 1) (pbin T P op t) := by
  unfold pbin
  have := hP t hw
  cases hq : P t with
  | inl q =>
    rw [hq] at this
    exact plp_gd hP hop 700 q.1 q.2 this.1 this.2.1 (pst_le (by omega) this.2.2)
  | inr e =>
    rw [hq] at this
    exact this
theorem pnt_w {T : sT} : ∀ f t n, wtk T t → wtk T (pnt T f t n).1 ∧ t.2.1 + (pnt T f t n).2 ≤ (pnt T f t n).1.2.1 + n
  | 0, t, n, hw => ⟨hw, by show t.2.1 + n ≤ t.2.1 + n; omega⟩
  | f + 1, t, n, hw => by
    unfold pnt
    by_cases c : isW T t (htx 9) = true
    · rw [if_pos c]
      obtain ⟨n1, n2⟩ := nx_w hw
      have := hw.2.2.1 (by rw [(isW_t.mp c).1]; decide)
      obtain ⟨a, b⟩ := pnt_w f (tkn T t.2.2.1) (n + 1) n1
      exact ⟨a, by omega⟩
    · rw [if_neg c]
      exact ⟨hw, Nat.le_refl _⟩
theorem pneg_gd {T : sT} {P : tok → pr} {lim : Nat} (hP : ∀ t, wtk T t → pgd T t lim (P t)) (t : tok) (hw : wtk T t) : pgd T t lim (pneg T P t) := by
  obtain ⟨a, b⟩ := pnt_w 6 t 0 hw
  unfold pneg
  by_cases c : isW T (pnt T 6 t 0).1 (htx 9) = true
  · rw [if_pos c]
    exact ⟨by show ¬ (2 : Nat) = 0; decide, by show 2 ≤ 5; omega, by have := a.1; have := a.2.1; show (pnt T 6 t 0).1.2.1 ≤ T.1; omega⟩
  · rw [if_neg c]
    have := hP _ a
    cases hq : P (pnt T 6 t 0).1 with
    | inl q =>
      rw [hq] at this
      refine ⟨this.1, ?_, pst_nots this.2.2 _⟩
      have := this.2.1
      show t.2.1 + (q.2 ++ _).length ≤ q.1.2.1
      rw [List.length_append, List.length_replicate]
      omega
    | inr e =>
      rw [hq] at this
      exact this
theorem pcmp_gd {T : sT} {P : tok → pr} {op : tok → Option tk} {lim : Nat} (hP : ∀ t, wtk T t → pgd T t lim (P t)) (hop : ∀ t o, op t = some o → o.1 = 3 ∧ o.2 < 8 ∧ ¬ t.1 = 0) (t : tok) (hw : wtk T t) : pgd T t (lim + 1) (pcmp T P op t) := by
  unfold pcmp
  have h1 := hP t hw
  cases hq : P t with
  | inr e => rw [hq] at h1; exact h1
  | inl q =>
    rw [hq] at h1
    obtain ⟨q1, q2, q3⟩ := h1
    show pgd T t (lim + 1) (match op q.1 with | none => .inl q | some o => match P (tkn T q.1.2.2.1) with | .inl r => .inl (r.1, q.2 ++ (r.2 ++ [o])) | .inr e => .inr e)
    cases ho : op q.1 with
    | none => exact ⟨q1, q2, pst_le (by omega) q3⟩
    | some o =>
      obtain ⟨o1, o2, o3⟩ := hop q.1 o ho
      obtain ⟨n1, n2⟩ := nx_w q1
      have h2 := hP _ n1
      show pgd T t (lim + 1) (match P (tkn T q.1.2.2.1) with | .inl r => .inl (r.1, q.2 ++ (r.2 ++ [o])) | .inr e => .inr e)
      cases hr : P (tkn T q.1.2.2.1) with
      | inr e => rw [hr] at h2; exact h2
      | inl r =>
        rw [hr] at h2
        obtain ⟨r1, r2, r3⟩ := h2
        have := q1.2.2.1 o3
        refine ⟨r1, ?_, ?_⟩
        · show t.2.1 + (q.2 ++ (r.2 ++ [o])).length ≤ r.1.2.1
          rw [List.length_append, List.length_append, List.length_singleton]; omega
        · have : o = (3, o.2) := by rw [← o1]
          show pst (q.2 ++ (r.2 ++ [o])) _
          rw [this]
          exact pst_bin (pst_le (Nat.le_succ lim) q3) r3 o2 (by omega)
theorem pval_lt {T : sT} {pu : Bool} {t : tok} {v : Nat} (h : pval T pu t = some v) : v < 5 := by
  unfold pval at h
  repeat' split at h
  all_goals (first | (cases h; done) | (have := Option.some.inj h; omega))
theorem ppart_gd {T : sT} {pu : Bool} {A : tok → pr} {lim : Nat} (h1 : 1 ≤ lim) (hA : ∀ t, wtk T t → pgd T t lim (A t)) (t : tok) (hw : wtk T t) : pgd T t lim (ppart T pu A t) := by
  obtain ⟨n1, n2⟩ := nx_w hw
  unfold ppart
  by_cases c : isC T t 40 = true
  · rw [if_pos c]
    have h2 := hA _ n1
    have := hw.2.2.1 (by rw [(isC_t.mp c).1]; decide)
    cases hq : A (tkn T t.2.2.1) with
    | inr e => rw [hq] at h2; exact h2
    | inl q =>
      rw [hq] at h2
      obtain ⟨q1, q2, q3⟩ := h2
      show pgd T t lim (if isC T q.1 41 = true then .inl (tkn T q.1.2.2.1, q.2) else .inr (1, q.1.2.1))
      by_cases c2 : isC T q.1 41 = true
      · rw [if_pos c2]
        obtain ⟨m1, m2⟩ := nx_w q1
        have := q1.1
        exact ⟨m1, by show t.2.1 + q.2.length ≤ (tkn T q.1.2.2.1).2.1; omega, q3⟩
      · rw [if_neg c2]
        exact ⟨by show ¬ (1 : Nat) = 0; decide, by show 1 ≤ 5; omega, by have := q1.1; have := q1.2.1; show q.1.2.1 ≤ T.1; omega⟩
  · rw [if_neg c]
    have hb : t.2.1 ≤ T.1 := by have := hw.1; have := hw.2.1; omega
    by_cases c2 : t.1 = 2
    · rw [if_pos c2]
      have := hw.2.2.1 (by rw [c2]; decide)
      by_cases c3 : t.2.2.2 < 10000
      · rw [if_pos c3]
        exact ⟨n1, by show t.2.1 + 1 ≤ (tkn T t.2.2.1).2.1; omega, fun rest d hd hw' => ⟨c3, by omega, hw'⟩⟩
      · rw [if_neg c3]
        exact ⟨by show ¬ (2 : Nat) = 0; decide, by show 2 ≤ 5; omega, hb⟩
    · rw [if_neg c2]
      by_cases c3 : t.1 = 1
      · rw [if_pos c3]
        have := hw.2.2.1 (by rw [c3]; decide)
        cases hv : pval T pu t with
        | none => exact ⟨by show ¬ (3 : Nat) = 0; decide, by show 3 ≤ 5; omega, hb⟩
        | some v => exact ⟨n1, by show t.2.1 + 1 ≤ (tkn T t.2.2.1).2.1; omega, fun rest d hd hw' => ⟨pval_lt hv, by omega, hw'⟩⟩
      · rw [if_neg c3]
        exact ⟨by show ¬ (1 : Nat) = 0; decide, by show 1 ≤ 5; omega, hb⟩
theorem op_or (T : sT) : ∀ t o, opor T t = some o → o.1 = 3 ∧ o.2 < 8 ∧ ¬ t.1 = 0 := by
  intro t o h
  unfold opor at h
  by_cases c : isW T t (htx 7) = true
  · rw [if_pos c] at h; rw [← Option.some.inj h]; exact ⟨rfl, by decide, by rw [(isW_t.mp c).1]; decide⟩
  · rw [if_neg c] at h; cases h
theorem op_and (T : sT) : ∀ t o, opand T t = some o → o.1 = 3 ∧ o.2 < 8 ∧ ¬ t.1 = 0 := by
  intro t o h
  unfold opand at h
  by_cases c : isW T t (htx 8) = true
  · rw [if_pos c] at h; rw [← Option.some.inj h]; exact ⟨rfl, by decide, by rw [(isW_t.mp c).1]; decide⟩
  · rw [if_neg c] at h; cases h
theorem op_two {T : sT} {a b x y : Nat} (hx : x < 8) (hy : y < 8) : ∀ t o, (if isC T t a = true then some (3, x) else if isC T t b = true then some (3, y) else none) = some o → o.1 = 3 ∧ o.2 < 8 ∧ ¬ t.1 = 0 := by
  intro t o h
  by_cases c : isC T t a = true
  · rw [if_pos c] at h; rw [← Option.some.inj h]; exact ⟨rfl, hx, by rw [(isC_t.mp c).1]; decide⟩
  · rw [if_neg c] at h
    by_cases c2 : isC T t b = true
    · rw [if_pos c2] at h; rw [← Option.some.inj h]; exact ⟨rfl, hy, by rw [(isC_t.mp c2).1]; decide⟩
    · rw [if_neg c2] at h; cases h
theorem op_cmp (T : sT) : ∀ t o, opcmp T t = some o → o.1 = 3 ∧ o.2 < 8 ∧ ¬ t.1 = 0 := op_two (by decide) (by decide)
theorem op_sum (T : sT) : ∀ t o, opsum T t = some o → o.1 = 3 ∧ o.2 < 8 ∧ ¬ t.1 = 0 := op_two (by decide) (by decide)
theorem op_mul (T : sT) : ∀ t o, opmul T t = some o → o.1 = 3 ∧ o.2 < 8 ∧ ¬ t.1 = 0 := op_two (by decide) (by decide)
theorem pany_gd {T : sT} {pu : Bool} : ∀ r t, wtk T t → pgd T t (5 * r + 1) (pany T pu r t)
  | 0, t, hw => by
    have hb : t.2.1 ≤ T.1 := by have := hw.1; have := hw.2.1; omega
    refine ⟨?_, ?_, hb⟩
    · show ¬ (if pbeg T t = true then 2 else 1) = 0
      split <;> omega
    · show (if pbeg T t = true then 2 else 1) ≤ 5
      split <;> omega
  | r + 1, t, hw => by
    have h0 := ppart_gd (T := T) (pu := pu) (A := pany T pu r) (lim := 5 * r + 1) (by omega) (pany_gd r)
    have h1 := pbin_gd h0 (op_mul T)
    have h2 := pbin_gd h1 (op_sum T)
    have h3 := pcmp_gd h2 (op_cmp T)
    have h4 := pneg_gd h3
    have h5 := pbin_gd h4 (op_and T)
    exact pbin_gd h5 (op_or T) t hw
