/-! a tooth is weakened -/
def sw0 (s : sZ) (p : Nat) : sZ := if sh (spL s p (s.2.2.1 p - 1)) p = 0 then sopen (spL s p (s.2.2.1 p - 1)) p else spL s p (s.2.2.1 p - 1)
def sw1 (s : sZ) (p : Nat) : sZ := if sh (spR s p (s.2.2.2.1 p - 1)) p = 0 then sopen (spR s p (s.2.2.2.1 p - 1)) p else spR s p (s.2.2.2.1 p - 1)
theorem sw0_n (s : sZ) (p : Nat) : (sw0 s p).1 = s.1 := by unfold sw0; split <;> rfl
theorem sw1_n (s : sZ) (p : Nat) : (sw1 s p).1 = s.1 := by unfold sw1; split <;> rfl
theorem spL_id (s : sZ) (p : Nat) : spL s p (s.2.2.1 p) = s := by unfold spL; rw [va_up_id]
theorem spR_id (s : sZ) (p : Nat) : spR s p (s.2.2.2.1 p) = s := by unfold spR; rw [va_up_id]
/-- as sok, but for the place p, which may lack a tooth and yet be closed -/
def sokp (s : sZ) (p : Nat) : Prop := (1 ≤ s.1 ∧ s.1 ≤ 16) ∧ s.2.1 ≤ 1 ∧ (∀ p, s.2.2.1 p ≤ 9) ∧ (∀ p, s.2.2.2.1 p ≤ 9) ∧ (∀ p, s.1 ≤ p → s.2.2.1 p = 0 ∧ s.2.2.2.1 p = 0) ∧ (∀ q, ¬ q = p → bt s.2.2.2.2.1 q = true → q < s.1 ∧ 0 < s.2.2.1 q ∧ 0 < s.2.2.2.1 q) ∧ s.2.2.2.2.2 ≤ s.1
theorem sokp_L {s : sZ} (h : sok s) {p v : Nat} (hp : p < s.1) (h9 : v ≤ 9) : sokp (spL s p v) p := by
  obtain ⟨h1, h2, h3, h4, h5, h6, h7⟩ := h
  refine ⟨h1, h2, va_cases (fun x => x ≤ 9) h9 h3, h4, fun q hq => ?_, fun q hn hq => ?_, h7⟩
  · have e : ¬ q = p := by have : s.1 ≤ q := hq; omega
    show va_up _ _ _ q = 0 ∧ _
    rw [va_up_off _ _ e]
    exact h5 q hq
  · obtain ⟨a, b, c⟩ := h6 q hq
    refine ⟨a, ?_, c⟩
    show 0 < va_up _ _ _ q
    rw [va_up_off _ _ hn]; exact b
theorem sokp_R {s : sZ} (h : sok s) {p v : Nat} (hp : p < s.1) (h9 : v ≤ 9) : sokp (spR s p v) p := by
  obtain ⟨h1, h2, h3, h4, h5, h6, h7⟩ := h
  refine ⟨h1, h2, h3, va_cases (fun x => x ≤ 9) h9 h4, fun q hq => ?_, fun q hn hq => ?_, h7⟩
  · have e : ¬ q = p := by have : s.1 ≤ q := hq; omega
    show _ ∧ va_up _ _ _ q = 0
    rw [va_up_off _ _ e]
    exact h5 q hq
  · obtain ⟨a, b, c⟩ := h6 q hq
    refine ⟨a, b, ?_⟩
    show 0 < va_up _ _ _ q
    rw [va_up_off _ _ hn]; exact c
theorem sokp_open {s : sZ} {p : Nat} (h : sokp s p) (hp : p < 32) : sok (sopen s p) := by
  obtain ⟨h1, h2, h3, h4, h5, h6, h7⟩ := h
  refine ⟨h1, h2, h3, h4, h5, fun q hq => ?_, h7⟩
  have hq : bt (s.2.2.2.2.1 &&& (bit p ^^^ (-1))) q = true := hq
  rw [bt_clr _ hp, Bool.and_eq_true] at hq
  have e : ¬ q = p := by simpa using hq.2
  exact h6 q e hq.1
theorem sokp_hold {s : sZ} {p : Nat} (h : sokp s p) (hp : p < s.1) (h0 : ¬ sh s p = 0) : sok s := by
  obtain ⟨h1, h2, h3, h4, h5, h6, h7⟩ := h
  refine ⟨h1, h2, h3, h4, h5, fun q hq => ?_, h7⟩
  by_cases e : q = p
  · subst e
    unfold sh at h0
    exact ⟨hp, by omega, by omega⟩
  · exact h6 q e hq
theorem sok_w0 {s : sZ} (h : sok s) {p : Nat} (hp : p < s.1) : sok (sw0 s p) := by
  have n := h.1.2
  have l := h.2.2.1 p
  have k := sokp_L h hp (v := s.2.2.1 p - 1) (by omega)
  unfold sw0
  split
  · exact sokp_open k (by omega)
  · rename_i c
    exact sokp_hold k hp c
theorem sok_w1 {s : sZ} (h : sok s) {p : Nat} (hp : p < s.1) : sok (sw1 s p) := by
  have n := h.1.2
  have l := h.2.2.2.1 p
  have k := sokp_R h hp (v := s.2.2.2.1 p - 1) (by omega)
  unfold sw1
  split
  · exact sokp_open k (by omega)
  · rename_i c
    exact sokp_hold k hp c
theorem zhold_n {z : cZ} {s : sZ} (h : zrel z s) (h1 : ∀ p, s.2.2.1 p ≤ 9) (h2 : ∀ p, s.2.2.2.1 p ≤ 9) {p : Nat} (hp : p < 16) : zhold z p = nI (sh s p) := by
  unfold zhold
  rw [h.2.2.1 p hp, h.2.2.2.1 p hp, imn_nI (by have := h1 p; omega) (by have := h2 p; omega)]
  rfl
theorem ctz_w0 {pl : List tk} {z : cZ} {s : sZ} (h : ctz pl z s) {p : Nat} (hp : p < s.1) : ctz pl (zweaken z 0 p) (sw0 s p) := by
  have n := h.2.1.1.2
  have l := h.2.1.2.2.1 p
  have e : zgrip z 0 p = nI (s.2.2.1 p) := by unfold zgrip; rw [if_pos rfl]; exact h.1.2.2.1 p (by omega)
  have k := sokp_L h.2.1 hp (v := s.2.2.1 p - 1) (by omega)
  have hz : zrel (zweak1 z 0 p) (spL s p (s.2.2.1 p - 1)) ∧ (¬ s.2.2.1 p = 0 → (zweak1 z 0 p).2.2.2.2.2.2 = 0) := by
    unfold zweak1
    rw [e]
    by_cases c : s.2.2.1 p = 0
    · rw [if_pos (by rw [c]; decide)]
      have := spL_id s p
      rw [c] at this
      rw [c]
      show zrel z (spL s p 0) ∧ _
      rw [this]
      exact ⟨h.1, fun q => absurd rfl q⟩
    · rw [if_neg (show ¬ nI (s.2.2.1 p) ≤ 0 from nI_ge (a := 0) (by omega) (by omega)), nI_sub1 (by omega)]
      refine ⟨zrel_put0 h.1 (by omega) (by omega), fun _ => ?_⟩
      unfold zgput
      rw [if_pos rfl]
  have eh := zhold_n hz.1 k.2.2.1 k.2.2.2.1 (p := p) (by omega)
  have s9 : sh (spL s p (s.2.2.1 p - 1)) p ≤ 9 := by have := k.2.2.1 p; unfold sh; omega
  refine ⟨?_, sok_w0 h.2.1 hp, ?_⟩
  · unfold zweaken sw0
    rw [eh]
    by_cases c : sh (spL s p (s.2.2.1 p - 1)) p = 0
    · rw [if_pos c, if_pos (by rw [c]; rfl)]
      exact zrel_open hz.1 p
    · rw [if_neg c, if_neg (show ¬ nI _ = 0 from fun q => c ((nI_eq (b := 0) (by omega) (by omega)).mp q))]
      exact hz.1
  · unfold zweaken
    rw [eh]
    by_cases c : sh (spL s p (s.2.2.1 p - 1)) p = 0
    · rw [if_pos (by rw [c]; rfl)]
      exact hv_0 _ _
    · rw [if_neg (show ¬ nI _ = 0 from fun q => c ((nI_eq (b := 0) (by omega) (by omega)).mp q)), hz.2 ?_]
      · exact hv_0 _ _
      · intro q
        apply c
        unfold sh
        show min (va_up s.2.2.1 p (s.2.2.1 p - 1) p) _ = 0
        rw [va_up_at, q]
        omega
theorem ctz_w1 {pl : List tk} {z : cZ} {s : sZ} (h : ctz pl z s) {p : Nat} (hp : p < s.1) : ctz pl (zweaken z 1 p) (sw1 s p) := by
  have n := h.2.1.1.2
  have l := h.2.1.2.2.2.1 p
  have e : zgrip z 1 p = nI (s.2.2.2.1 p) := by unfold zgrip; rw [if_neg (by decide)]; exact h.1.2.2.2.1 p (by omega)
  have k := sokp_R h.2.1 hp (v := s.2.2.2.1 p - 1) (by omega)
  have hz : zrel (zweak1 z 1 p) (spR s p (s.2.2.2.1 p - 1)) ∧ (¬ s.2.2.2.1 p = 0 → (zweak1 z 1 p).2.2.2.2.2.2 = 0) := by
    unfold zweak1
    rw [e]
    by_cases c : s.2.2.2.1 p = 0
    · rw [if_pos (by rw [c]; decide)]
      have := spR_id s p
      rw [c] at this
      rw [c]
      show zrel z (spR s p 0) ∧ _
      rw [this]
      exact ⟨h.1, fun q => absurd rfl q⟩
    · rw [if_neg (show ¬ nI (s.2.2.2.1 p) ≤ 0 from nI_ge (a := 0) (by omega) (by omega)), nI_sub1 (by omega)]
      refine ⟨zrel_put1 h.1 (by omega) (by omega), fun _ => ?_⟩
      unfold zgput
      rw [if_neg (by decide)]
  have eh := zhold_n hz.1 k.2.2.1 k.2.2.2.1 (p := p) (by omega)
  have s9 : sh (spR s p (s.2.2.2.1 p - 1)) p ≤ 9 := by have := k.2.2.1 p; unfold sh; omega
  refine ⟨?_, sok_w1 h.2.1 hp, ?_⟩
  · unfold zweaken sw1
    rw [eh]
    by_cases c : sh (spR s p (s.2.2.2.1 p - 1)) p = 0
    · rw [if_pos c, if_pos (by rw [c]; rfl)]
      exact zrel_open hz.1 p
    · rw [if_neg c, if_neg (show ¬ nI _ = 0 from fun q => c ((nI_eq (b := 0) (by omega) (by omega)).mp q))]
      exact hz.1
  · unfold zweaken
    rw [eh]
    by_cases c : sh (spR s p (s.2.2.2.1 p - 1)) p = 0
    · rw [if_pos (by rw [c]; rfl)]
      exact hv_0 _ _
    · rw [if_neg (show ¬ nI _ = 0 from fun q => c ((nI_eq (b := 0) (by omega) (by omega)).mp q)), hz.2 ?_]
      · exact hv_0 _ _
      · intro q
        apply c
        unfold sh
        show min _ (va_up s.2.2.2.1 p (s.2.2.2.1 p - 1) p) = 0
        rw [va_up_at, q]
        omega
