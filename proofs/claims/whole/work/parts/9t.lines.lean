/-! LINES: what they mean -/
abbrev qZ : Type := Nat × List Nat × List Nat
abbrev sY : Type := List qZ × List Nat × List tk × List tk
abbrev pz : Type := (tok × List Nat) ⊕ (Nat × Nat)
def pleft (T : sT) : Nat → tok → List Nat → pz
  | 0, t, _ => .inr (1, t.2.1)
  | f + 1, t, s => if ¬ s = [] ∧ isW T t (htx 6) = true then .inl (tkn T t.2.2.1, s) else if ¬ t.1 = 2 then .inr (1, t.2.1) else if s.length = 16 ∨ ¬ t.2.2.2 ≤ 9 then .inr (2, t.2.1) else pleft T f (tkn T t.2.2.1) (s ++ [t.2.2.2])
def pright (T : sT) : Nat → tok → List Nat → pz
  | 0, t, s => .inl (t, s)
  | f + 1, t, s => if ¬ t.1 = 2 then .inr (1, t.2.1) else if ¬ t.2.2.2 ≤ 9 then .inr (2, t.2.1) else pright T f (tkn T t.2.2.1) (s ++ [t.2.2.2])
def pstr (T : sT) : Nat → tok → List Nat → pz
  | 0, t, _ => .inr (1, t.2.1)
  | f + 1, t, s => if ¬ s = [] ∧ isC T t 59 = true then .inl (tkn T t.2.2.1, s) else if ¬ t.1 = 2 then .inr (1, t.2.1) else if ¬ t.2.2.2 ≤ 9 ∨ s.length = 8 then .inr (2, t.2.1) else pstr T f (tkn T t.2.2.1) (s ++ [t.2.2.2])
def pzip (T : sT) (c : Nat) (y : sY) (t : tok) : (tok × sY) ⊕ (Nat × Nat) := if y.1.length = 4 then .inr (2, t.2.1) else match pleft T 17 (tkn T t.2.2.1) [] with
  | .inr e => .inr e
  | .inl q => match pright T q.2.length q.1 [] with
    | .inr e => .inr e
    | .inl r => if isC T r.1 59 = true then .inl (tkn T r.1.2.2.1, (y.1 ++ [(c, q.2, r.2)], y.2)) else .inr (1, r.1.2.1)
def pstrain (T : sT) (y : sY) (t : tok) : (tok × sY) ⊕ (Nat × Nat) := if ¬ y.2.1 = [] then .inr (5, t.2.1) else match pstr T 9 (tkn T t.2.2.1) [] with
  | .inr e => .inr e
  | .inl q => .inl (q.1, (y.1, q.2, y.2.2))
def prule (T : sT) (pu : Bool) (y : sY) (t : tok) : (tok × sY) ⊕ (Nat × Nat) := if ¬ (if pu = true then y.2.2.1 else y.2.2.2) = [] then .inr (5, t.2.1) else match pany T pu 6 (tkn T t.2.2.1) with
  | .inr e => .inr e
  | .inl q => if isC T q.1 59 = true then .inl (tkn T q.1.2.2.1, (y.1, y.2.1, if pu = true then (q.2, y.2.2.2) else (y.2.2.1, q.2))) else .inr (1, q.1.2.1)
def pline (T : sT) (y : sY) (t : tok) : (tok × sY) ⊕ (Nat × Nat) := if isW T t (htx 1) = true then pzip T 0 y t else if isW T t (htx 2) = true then pzip T 1 y t else if isW T t (htx 3) = true then pstrain T y t else if isW T t (htx 4) = true then prule T true y t else if isW T t (htx 5) = true then prule T false y t else .inr (1, t.2.1)
def plines (T : sT) : Nat → sY → tok → sY ⊕ (Nat × Nat)
  | 0, y, _ => .inl y
  | f + 1, y, t => if t.1 = 0 then .inl y else match pline T y t with
    | .inl q => plines T f q.2 q.1
    | .inr e => .inr e
/-- well told -/
def wfz (q : qZ) : Prop := q.1 ≤ 1 ∧ 1 ≤ q.2.1.length ∧ q.2.1.length ≤ 16 ∧ q.2.2.length = q.2.1.length ∧ (∀ v, v ∈ q.2.1 → v ≤ 9) ∧ ∀ v, v ∈ q.2.2 → v ≤ 9
def wfy (y : sY) (n : Nat) : Prop := (y.1.length ≤ 4 ∧ ∀ q, q ∈ y.1 → wfz q) ∧ (y.2.1.length ≤ 8 ∧ ∀ v, v ∈ y.2.1 → v ≤ 9) ∧ ((y.2.2.1 ≠ [] → wft y.2.2.1 0) ∧ (y.2.2.2 ≠ [] → wft y.2.2.2 0)) ∧ y.2.2.1.length + y.2.2.2.length ≤ n
def pgz (T : sT) (t : tok) (lo hi : Nat) (r : pz) : Prop := match r with
  | .inl q => wtk T q.1 ∧ t.2.1 ≤ q.1.2.1 ∧ lo ≤ q.2.length ∧ q.2.length ≤ hi ∧ ∀ v, v ∈ q.2 → v ≤ 9
  | .inr q => ¬ q.1 = 0 ∧ q.1 ≤ 5 ∧ q.2 ≤ T.1
def pgl (T : sT) (t : tok) (r : (tok × sY) ⊕ (Nat × Nat)) : Prop := match r with
  | .inl q => wtk T q.1 ∧ t.2.1 < q.1.2.1 ∧ wfy q.2 q.1.2.1
  | .inr q => ¬ q.1 = 0 ∧ q.1 ≤ 5 ∧ q.2 ≤ T.1
theorem wtk_b {T : sT} {t : tok} (h : wtk T t) : t.2.1 ≤ T.1 := by have := h.1; have := h.2.1; omega
theorem mem9 {s : List Nat} {v : Nat} (h : ∀ v, v ∈ s → v ≤ 9) (hv : v ≤ 9) : ∀ w, w ∈ s ++ [v] → w ≤ 9 := by
  intro w hw
  rcases List.mem_append.mp hw with h1 | h1
  · exact h w h1
  · rw [List.mem_singleton.mp h1]; exact hv
theorem pleft_gd {T : sT} {t0 : tok} : ∀ f t s, wtk T t → t0.2.1 ≤ t.2.1 → s.length ≤ 16 → (∀ v, v ∈ s → v ≤ 9) → pgz T t0 1 16 (pleft T f t s)
  | 0, t, s, hw, _, _, _ => ⟨by show ¬ (1 : Nat) = 0; decide, by show 1 ≤ 5; omega, wtk_b hw⟩
  | f + 1, t, s, hw, h0, hl, hs => by
    unfold pleft
    have n2 := nx_w hw
    by_cases c : ¬ s = [] ∧ isW T t (htx 6) = true
    · rw [if_pos c]
      have := hw.1
      have : 0 < s.length := List.length_pos_iff.mpr c.1
      exact ⟨n2.1, by show t0.2.1 ≤ (tkn T t.2.2.1).2.1; omega, by show 1 ≤ s.length; omega, hl, hs⟩
    · rw [if_neg c]
      by_cases c2 : ¬ t.1 = 2
      · rw [if_pos c2]; exact ⟨by show ¬ (1 : Nat) = 0; decide, by show 1 ≤ 5; omega, wtk_b hw⟩
      · rw [if_neg c2]
        by_cases c3 : s.length = 16 ∨ ¬ t.2.2.2 ≤ 9
        · rw [if_pos c3]; exact ⟨by show ¬ (2 : Nat) = 0; decide, by show 2 ≤ 5; omega, wtk_b hw⟩
        · rw [if_neg c3]
          have := hw.1
          have a : ¬ s.length = 16 := fun z => c3 (.inl z)
          have b : t.2.2.2 ≤ 9 := Decidable.byContradiction (fun z => c3 (.inr z))
          exact pleft_gd f _ _ n2.1 (by omega) (by rw [List.length_append, List.length_singleton]; omega) (mem9 hs b)
theorem pright_gd {T : sT} {t0 : tok} : ∀ f t s, wtk T t → t0.2.1 ≤ t.2.1 → (∀ v, v ∈ s → v ≤ 9) → pgz T t0 (s.length + f) (s.length + f) (pright T f t s)
  | 0, t, s, hw, h0, hs => ⟨hw, h0, by show s.length + 0 ≤ s.length; omega, by show s.length ≤ s.length + 0; omega, hs⟩
  | f + 1, t, s, hw, h0, hs => by
    unfold pright
    have n2 := nx_w hw
    by_cases c2 : ¬ t.1 = 2
    · rw [if_pos c2]; exact ⟨by show ¬ (1 : Nat) = 0; decide, by show 1 ≤ 5; omega, wtk_b hw⟩
    · rw [if_neg c2]
      by_cases c3 : ¬ t.2.2.2 ≤ 9
      · rw [if_pos c3]; exact ⟨by show ¬ (2 : Nat) = 0; decide, by show 2 ≤ 5; omega, wtk_b hw⟩
      · rw [if_neg c3]
        have := hw.1
        have b : t.2.2.2 ≤ 9 := Decidable.byContradiction c3
        have := pright_gd (t0 := t0) f _ (s ++ [t.2.2.2]) n2.1 (by omega) (mem9 hs b)
        rw [List.length_append, List.length_singleton, show s.length + 1 + f = s.length + (f + 1) by omega] at this
        exact this
theorem pstr_gd {T : sT} {t0 : tok} : ∀ f t s, wtk T t → t0.2.1 ≤ t.2.1 → s.length ≤ 8 → (∀ v, v ∈ s → v ≤ 9) → pgz T t0 1 8 (pstr T f t s)
  | 0, t, s, hw, _, _, _ => ⟨by show ¬ (1 : Nat) = 0; decide, by show 1 ≤ 5; omega, wtk_b hw⟩
  | f + 1, t, s, hw, h0, hl, hs => by
    unfold pstr
    have n2 := nx_w hw
    by_cases c : ¬ s = [] ∧ isC T t 59 = true
    · rw [if_pos c]
      have := hw.1
      have : 0 < s.length := List.length_pos_iff.mpr c.1
      exact ⟨n2.1, by show t0.2.1 ≤ (tkn T t.2.2.1).2.1; omega, by show 1 ≤ s.length; omega, hl, hs⟩
    · rw [if_neg c]
      by_cases c2 : ¬ t.1 = 2
      · rw [if_pos c2]; exact ⟨by show ¬ (1 : Nat) = 0; decide, by show 1 ≤ 5; omega, wtk_b hw⟩
      · rw [if_neg c2]
        by_cases c3 : ¬ t.2.2.2 ≤ 9 ∨ s.length = 8
        · rw [if_pos c3]; exact ⟨by show ¬ (2 : Nat) = 0; decide, by show 2 ≤ 5; omega, wtk_b hw⟩
        · rw [if_neg c3]
          have := hw.1
          have a : ¬ s.length = 8 := fun z => c3 (.inr z)
          have b : t.2.2.2 ≤ 9 := Decidable.byContradiction (fun z => c3 (.inl z))
          exact pstr_gd f _ _ n2.1 (by omega) (by rw [List.length_append, List.length_singleton]; omega) (mem9 hs b)
theorem wfy_up {y : sY} {n m : Nat} (h : wfy y n) (hn : n ≤ m) : wfy y m := ⟨h.1, h.2.1, h.2.2.1, Nat.le_trans h.2.2.2 hn⟩
theorem pzip_gd {T : sT} {c : Nat} {y : sY} {t : tok} (hc : c ≤ 1) (hw : wtk T t) (h0 : ¬ t.1 = 0) (hy : wfy y t.2.1) : pgl T t (pzip T c y t) := by
  unfold pzip
  have n2 := nx_w hw
  have lt := hw.2.2.1 h0
  by_cases c4 : y.1.length = 4
  · rw [if_pos c4]; exact ⟨by show ¬ (2 : Nat) = 0; decide, by show 2 ≤ 5; omega, wtk_b hw⟩
  · rw [if_neg c4]
    have gl := pleft_gd (t0 := tkn T t.2.2.1) 17 _ [] n2.1 (Nat.le_refl _) (Nat.zero_le _) (fun v h => by cases h)
    cases hl : pleft T 17 (tkn T t.2.2.1) [] with
    | inr e => rw [hl] at gl; exact gl
    | inl q =>
      rw [hl] at gl
      obtain ⟨q1, q2, q3, q4, q5⟩ := gl
      have gr' := pright_gd (t0 := q.1) q.2.length q.1 [] q1 (Nat.le_refl _) (fun v h => by cases h)
      show pgl T t (match pright T q.2.length q.1 [] with | .inr e => .inr e | .inl r => if isC T r.1 59 = true then .inl (tkn T r.1.2.2.1, (y.1 ++ [(c, q.2, r.2)], y.2)) else .inr (1, r.1.2.1))
      cases hr : pright T q.2.length q.1 [] with
      | inr e => rw [hr] at gr'; exact gr'
      | inl r =>
        rw [hr] at gr'
        obtain ⟨r1, r2, r3, r4, r5⟩ := gr'
        show pgl T t (if isC T r.1 59 = true then .inl (tkn T r.1.2.2.1, (y.1 ++ [(c, q.2, r.2)], y.2)) else .inr (1, r.1.2.1))
        by_cases cs : isC T r.1 59 = true
        · rw [if_pos cs]
          have m2 := nx_w r1
          have lt2 := r1.2.2.1 (by rw [(isC_t.mp cs).1]; decide)
          refine ⟨m2.1, by show t.2.1 < (tkn T r.1.2.2.1).2.1; omega, ⟨⟨?_, fun z hz => ?_⟩, hy.2.1, hy.2.2.1, ?_⟩⟩
          · show (y.1 ++ [_]).length ≤ 4
            rw [List.length_append, List.length_singleton]
            have := hy.1.1
            omega
          · rcases List.mem_append.mp hz with h1 | h1
            · exact hy.1.2 z h1
            · rw [List.mem_singleton.mp h1]
              rw [List.length_nil, Nat.zero_add] at r3 r4
              exact ⟨hc, q3, q4, Nat.le_antisymm r4 r3, q5, r5⟩
          · have := hy.2.2.2
            show y.2.2.1.length + y.2.2.2.length ≤ (tkn T r.1.2.2.1).2.1
            omega
        · rw [if_neg cs]
          exact ⟨by show ¬ (1 : Nat) = 0; decide, by show 1 ≤ 5; omega, wtk_b r1⟩
theorem pstrain_gd {T : sT} {y : sY} {t : tok} (hw : wtk T t) (h0 : ¬ t.1 = 0) (hy : wfy y t.2.1) : pgl T t (pstrain T y t) := by
  unfold pstrain
  have n2 := nx_w hw
  have lt := hw.2.2.1 h0
  by_cases c : ¬ y.2.1 = []
  · rw [if_pos c]; exact ⟨by show ¬ (5 : Nat) = 0; decide, by show 5 ≤ 5; omega, wtk_b hw⟩
  · rw [if_neg c]
    have gl := pstr_gd (t0 := tkn T t.2.2.1) 9 _ [] n2.1 (Nat.le_refl _) (Nat.zero_le _) (fun v h => by cases h)
    cases hl : pstr T 9 (tkn T t.2.2.1) [] with
    | inr e => rw [hl] at gl; exact gl
    | inl q =>
      rw [hl] at gl
      obtain ⟨q1, q2, q3, q4, q5⟩ := gl
      refine ⟨q1, by show t.2.1 < q.1.2.1; omega, ⟨hy.1, ⟨q4, q5⟩, hy.2.2.1, ?_⟩⟩
      have := hy.2.2.2
      show y.2.2.1.length + y.2.2.2.length ≤ q.1.2.1
      omega
theorem prule_gd {T : sT} {pu : Bool} {y : sY} {t : tok} (hw : wtk T t) (h0 : ¬ t.1 = 0) (hy : wfy y t.2.1) : pgl T t (prule T pu y t) := by
  unfold prule
  have n2 := nx_w hw
  have lt := hw.2.2.1 h0
  by_cases c : ¬ (if pu = true then y.2.2.1 else y.2.2.2) = []
  · rw [if_pos c]; exact ⟨by show ¬ (5 : Nat) = 0; decide, by show 5 ≤ 5; omega, wtk_b hw⟩
  · rw [if_neg c]
    have c : (if pu = true then y.2.2.1 else y.2.2.2) = [] := Decidable.byContradiction c
    have gl := pany_gd (pu := pu) 6 _ n2.1
    cases hl : pany T pu 6 (tkn T t.2.2.1) with
    | inr e => rw [hl] at gl; exact gl
    | inl q =>
      rw [hl] at gl
      obtain ⟨q1, q2, q3⟩ := gl
      show pgl T t (if isC T q.1 59 = true then .inl (tkn T q.1.2.2.1, (y.1, y.2.1, if pu = true then (q.2, y.2.2.2) else (y.2.2.1, q.2))) else .inr (1, q.1.2.1))
      by_cases cs : isC T q.1 59 = true
      · rw [if_pos cs]
        have m2 := nx_w q1
        have := q1.1
        have wq : wft q.2 0 := by
          have := q3 [] 0 (by omega) rfl
          rw [List.append_nil] at this
          exact this
        have := hy.2.2.2
        refine ⟨m2.1, by show t.2.1 < (tkn T q.1.2.2.1).2.1; omega, ⟨hy.1, hy.2.1, ?_, ?_⟩⟩
        · cases pu with
          | true => exact ⟨fun _ => wq, hy.2.2.1.2⟩
          | false => exact ⟨hy.2.2.1.1, fun _ => wq⟩
        · cases pu with
          | true =>
            have c : y.2.2.1 = [] := c
            rw [c] at this
            show q.2.length + y.2.2.2.length ≤ (tkn T q.1.2.2.1).2.1
            rw [List.length_nil] at this
            omega
          | false =>
            have c : y.2.2.2 = [] := c
            rw [c] at this
            show y.2.2.1.length + q.2.length ≤ (tkn T q.1.2.2.1).2.1
            rw [List.length_nil] at this
            omega
      · rw [if_neg cs]
        exact ⟨by show ¬ (1 : Nat) = 0; decide, by show 1 ≤ 5; omega, wtk_b q1⟩
theorem pline_gd {T : sT} {y : sY} {t : tok} (hw : wtk T t) (h0 : ¬ t.1 = 0) (hy : wfy y t.2.1) : pgl T t (pline T y t) := by
  unfold pline
  by_cases c1 : isW T t (htx 1) = true
  · rw [if_pos c1]; exact pzip_gd (by omega) hw h0 hy
  · rw [if_neg c1]
    by_cases c2 : isW T t (htx 2) = true
    · rw [if_pos c2]; exact pzip_gd (by omega) hw h0 hy
    · rw [if_neg c2]
      by_cases c3 : isW T t (htx 3) = true
      · rw [if_pos c3]; exact pstrain_gd hw h0 hy
      · rw [if_neg c3]
        by_cases c4 : isW T t (htx 4) = true
        · rw [if_pos c4]; exact prule_gd hw h0 hy
        · rw [if_neg c4]
          by_cases c5 : isW T t (htx 5) = true
          · rw [if_pos c5]; exact prule_gd hw h0 hy
          · rw [if_neg c5]
            exact ⟨by show ¬ (1 : Nat) = 0; decide, by show 1 ≤ 5; omega, wtk_b hw⟩
/-- what is told, as a drawer -/
def zraw (q : qZ) : sZ := (q.2.1.length, q.1, fun p => q.2.1.getD p 0, fun p => q.2.2.getD p 0, 0, 0)
def zfin (q : qZ) : sZ := sslide (zraw q) q.2.1.length
def yX (y : sY) : sX := (y.1.length, fun z => zfin (y.1.getD z (0, [], [])), y.2.1, y.2.2.1, y.2.2.2, 0)
theorem getD9 {l : List Nat} (h : ∀ v, v ∈ l → v ≤ 9) (p : Nat) : l.getD p 0 ≤ 9 := by
  rw [List.getD_eq_getElem?_getD]
  cases q : l[p]? with
  | none => show 0 ≤ 9; omega
  | some v => exact h v (List.mem_of_getElem? q)
theorem getD0 {l : List Nat} {p : Nat} (h : l.length ≤ p) : l.getD p 0 = 0 := by rw [List.getD_eq_getElem?_getD, List.getElem?_eq_none h]; rfl
theorem sok_raw {q : qZ} (h : wfz q) : sok (zraw q) := by
  obtain ⟨h1, h2, h3, h4, h5, h6⟩ := h
  refine ⟨⟨h2, h3⟩, h1, getD9 h5, getD9 h6, fun p hp => ⟨getD0 hp, getD0 (by rw [h4]; exact hp)⟩, fun p hp => ?_, Nat.zero_le _⟩
  have : bt 0 p = true := hp
  rw [bt_zero] at this
  cases this
theorem sok_fin {q : qZ} (h : wfz q) : sok (zfin q) := sok_slide (sok_raw h) (Nat.le_refl _)
