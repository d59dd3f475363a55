/-! THE LAW'S LOOP -/
def rmq (N S a b m : Nat) : Prop := a + m ≤ N ∧ b + 6 * m ≤ S
theorem rmq_h {N S a b m : Nat} (h : rmq N S a b (m + 1)) : ¬ (N ≤ a ∨ S < b + 6) := by
  unfold rmq at h
  omega
theorem rmq_s {N S a b m : Nat} (h : rmq N S a b (m + 1)) : rmq N S a b m ∧ rmq N S (a + 1) (b + 6) m := by
  unfold rmq at h ⊢
  omega
def rml (e : hE) (m : Nat) : Prop := rmq zNL zSL e.2.1 e.2.2.1 m
theorem rml_h {e : hE} {m : Nat} (h : rml e (m + 1)) : hrm e := rmq_h h
theorem rml_s {e e' : hE} {m : Nat} (h : rml e (m + 1)) (he : eth e e') : rml e' m := by
  rcases he with rfl | rfl
  · exact (rmq_s h).1
  · exact (rmq_s h).2
theorem lend {n i : Nat} (hn : n < 2 ^ 31) (h : n < i + 6) (hi : i ≤ n) : (nI n) - 6 < nI i := by
  rw [show (6 : Int32) = nI 6 from rfl]
  by_cases h6 : 6 ≤ n
  · have := nI_subR 6 (n - 6)
    rw [show 6 + (n - 6) = n by omega] at this
    rw [this]
    exact nI_lt (by omega) (by omega)
  · have : n < 6 := by omega
    have hk : ∀ n, n < 6 → ∀ i, i ≤ n → (nI n) - nI 6 < nI i := by decide
    exact hk n this i hi
theorem lgon {n i : Nat} (hn : n < 2 ^ 31) (h : i + 6 ≤ n) : ¬ ((nI n) - 6 < nI i) := by
  rw [show (6 : Int32) = nI 6 from rfl]
  have := nI_subR 6 (n - 6)
  rw [show 6 + (n - 6) = n by omega] at this
  rw [this]
  intro z
  have := (nI_ltI (by omega) (by omega)).mp z
  omega
theorem law_loop {d n : Nat} {k : Int32 → hG → hE → Prop} {X : Nat → hG → hE → Prop} (hn : n < 2 ^ 31) (Hk : ∀ g e, k 1 g e) : ∀ m i g e D s, RC g D s → RM g s → e.2.2.2 = n → i ≤ n → n < i + 6 * m + 6 → rml e m → hwi (d + 70) zm_L_law k X 23 (lws (nI i)) g e := by
  intro m
  induction m with
  | zero =>
    intro i g e D s hc hm he hi h6 hr
    refine zh_L_law_23 (zbr_t ?_ (Hk g e))
    rw [he]
    exact lend hn (by omega) hi
  | succ m ih =>
    intro i g e D s hc hm he hi h6 hr
    by_cases hl : n < i + 6
    · refine zh_L_law_23 (zbr_t ?_ (Hk g e))
      rw [he]
      exact lend hn hl hi
    · have a : ∀ j, j < 6 → hin (nI i + nI j) e.2.2.2 := fun j hj => by
        rw [nI_add, he]
        exact nI_in (by omega) (by omega)
      refine la_step hc hm (rml_h hr) ?_ ⟨a 1 (by omega), a 2 (by omega), a 3 (by omega), a 4 (by omega), a 5 (by omega)⟩ ?_ ?_
      · rw [he]
        exact nI_in (by omega) (by omega)
      · rw [he]
        exact lgon hn (by omega)
      · intro g' e' D' s' hc' hm' _ he'
        refine zh_L_law_2733 ?_
        rw [show (6 : Int32) = nI 6 from rfl, nI_add]
        exact ih (i + 6) g' e' D' s' hc' hm' ((eth_n he').trans he) (by omega) (by omega) (rml_s hr he')
