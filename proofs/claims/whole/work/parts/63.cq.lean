/-! the class's drawer: how many zips, zips, strains, rules, the day -/
abbrev sX : Type := Nat × (Nat → sZ) × List Nat × List tk × List tk × Nat
/-- a zip's cell is s, and what it calls harmless is -/
def ct (pl : List tk) (g : hG) (a : Nat) (s : sZ) : Prop := zrel (zg g a) s ∧ sok s ∧ hv pl s (zg g a).2.2.2.2.2.2
def cdr (g : hG) (D : Nat) (x : sX) : Prop := (hD D ∧ g.2.2 1000 2 = D) ∧ (g.1 D 1 = nI x.1 ∧ x.1 ≤ 4) ∧ (∀ i, i < x.1 → ct x.2.2.2.1 g (D + 2 + i) (x.2.1 i)) ∧ (g.1 D 3 = nI x.2.2.1.length ∧ x.2.2.1.length ≤ 8 ∧ (∀ j w, x.2.2.1[j]? = some w → g.1 (D + 6) j = nI w) ∧ ∀ w ∈ x.2.2.1, w ≤ 9) ∧ drl g D x.2.2.2.1 x.2.2.2.2.1 ∧ (g.1 D 8 = nI x.2.2.2.2.2 ∧ x.2.2.2.2.2 ≤ 999)
/-- what a question may touch: copies of zips, the first place, stacks, rows of its own -/
def qf (D : Nat) (g g' : hG) : Prop := (∀ b, ¬ (1038 ≤ b ∧ b ≤ 1045) → ¬ b = D → ¬ b = D + 9 → ¬ b = D + 11 → g'.1 b = g.1 b) ∧ (∀ k, ¬ k = 9 → g'.1 D k = g.1 D k) ∧ (∀ b, ¬ (1038 ≤ b ∧ b ≤ 1041) → g'.2.1 b = g.2.1 b) ∧ g'.2.2 = g.2.2
theorem qf.refl {D : Nat} {g : hG} : qf D g g := ⟨fun _ _ _ _ _ => rfl, fun _ _ => rfl, fun _ _ => rfl, rfl⟩
theorem qf.trans {D : Nat} {g g' g'' : hG} (h : qf D g g') (h' : qf D g' g'') : qf D g g'' :=
  ⟨fun b h1 h2 h3 h4 => (h'.1 b h1 h2 h3 h4).trans (h.1 b h1 h2 h3 h4), fun k hk => (h'.2.1 k hk).trans (h.2.1 k hk), fun b hb => (h'.2.2.1 b hb).trans (h.2.2.1 b hb), h'.2.2.2.trans h.2.2.2⟩
theorem qf_pf {D i : Nat} {g g' : hG} (hi : i < 4) (h : pf D (1038 + i) g g') : qf D g g' := ⟨fun b h1 h2 h3 h4 => h.1 b (by omega) h2 h3 h4, h.2.1, fun b hb => h.2.2.1 b (by omega), h.2.2.2⟩
theorem hD_lt {D : Nat} (h : hD D) : 1003 ≤ D ∧ D ≤ 1015 := by rcases h with rfl | rfl <;> omega
theorem hT_trial {i : Nat} (h : i < 4) : hT (1038 + i) = some hZ := match i, h with
  | 0, _ => rfl
  | 1, _ => rfl
  | 2, _ => rfl
  | 3, _ => rfl
  | n + 4, h => absurd h (by omega)
theorem hT_zip {D i : Nat} (hD' : hD D) (h : i < 4) : hT (D + 2 + i) = some hZ := by
  rcases hD' with rfl | rfl
  all_goals
    match i, h with
    | 0, _ => rfl
    | 1, _ => rfl
    | 2, _ => rfl
    | 3, _ => rfl
    | n + 4, h => exact absurd h (by omega)
theorem hR_zip {D i : Nat} (hD' : hD D) (h : i < 4) : hR (D + 1) i = some (D + 2 + i) := by
  rcases hD' with rfl | rfl
  all_goals
    match i, h with
    | 0, _ => rfl
    | 1, _ => rfl
    | 2, _ => rfl
    | 3, _ => rfl
    | n + 4, h => exact absurd h (by omega)
theorem hR_trial {i : Nat} (h : i < 4) : hR 1037 i = some (1038 + i) := match i, h with
  | 0, _ => rfl
  | 1, _ => rfl
  | 2, _ => rfl
  | 3, _ => rfl
  | n + 4, h => absurd h (by omega)
theorem qf_zp {D i : Nat} {g : hG} (hD' : hD D) (hi : i < 4) (z : cZ) : qf D g (zp g (1038 + i) z) := qf_pf hi (pf_zp hD' (hT_trial hi) z)
theorem zg_cg {g g' : hG} {a : Nat} (h1 : g'.1 a = g.1 a) (h2 : g'.2.1 a = g.2.1 a) : zg g' a = zg g a := by
  unfold zg
  rw [h1, h2]
theorem ct_cg {pl : List tk} {g g' : hG} {a : Nat} {s : sZ} (h : zg g' a = zg g a) (hc : ct pl g a s) : ct pl g' a s := by
  unfold ct
  rw [h]
  exact hc
theorem cdr_qf {D : Nat} {g g' : hG} {x : sX} (hq : qf D g g') (h : cdr g D x) : cdr g' D x := by
  obtain ⟨⟨h1, h2⟩, ⟨h3, h4⟩, h5, ⟨h6, h7, h8, h9⟩, h10, h11, h12⟩ := h
  have hl := hD_lt h1
  obtain ⟨u1, u2⟩ := hD_us h1
  have k6 := hq.1 (D + 6) (by omega) (by omega) (by omega) (by omega)
  have k7 := hq.1 (D + 7) (by omega) (by omega) (by omega) (by omega)
  have k8 := hq.1 (D + 8) (by omega) (by omega) (by omega) (by omega)
  have k10 := hq.1 (D + 10) (by omega) (by omega) (by omega) (by omega)
  refine ⟨⟨h1, by rw [hq.2.2.2]; exact h2⟩, ⟨by rw [hq.2.1 1 (by omega)]; exact h3, h4⟩, fun i hi => ?_, ⟨by rw [hq.2.1 3 (by omega)]; exact h6, h7, by rw [k6]; exact h8, h9⟩, ⟨rule1_cg k8 (by rw [u1]; exact k7) h10.1, rule1_cg k10 (by rw [u2]; exact k7) h10.2⟩, by rw [hq.2.1 8 (by omega)]; exact h11, h12⟩
  exact ct_cg (zg_cg (hq.1 _ (by omega) (by omega) (by omega) (by omega)) (hq.2.2.1 _ (by omega))) (h5 i hi)
/-- a place among n -/
def isz (n : Nat) (z : Int32) : Prop := ∃ i, i < n ∧ z = nI i
theorem isz_not {n : Nat} (hn : n < 2 ^ 31) {z : Int32} (h : z < 0 ∨ nI n ≤ z) : ¬ isz n z := by
  rintro ⟨i, hi, rfl⟩
  rcases h with h | h
  · exact nI_pos (by omega) h
  · exact nI_ge hi hn h
theorem isz_or {n : Nat} (hn : n < 2 ^ 31) (z : Int32) : isz n z ∨ (z < 0 ∨ nI n ≤ z) := by
  rcases pk_ix z hn with h | h | h
  · exact Or.inr (Or.inl h)
  · exact Or.inr (Or.inr h)
  · exact Or.inl h
section
variable {d : Nat} {k : Int32 → hG → hE → Prop} {kr : Nat → hG → hE → Prop} {kv : hG → hE → Prop} {X : Nat → hG → hE → Prop} {g : hG} {e : hE} {D : Nat} {x : sX}
theorem c_hasZip (hc : cdr g D x) {z : Int32} (H1 : isz x.1 z → k 1 g e) (H0 : ¬ isz x.1 z → k 0 g e) : hci (d + 1) 47 [.ref D, .int z] g e k X := by
  have h4 := hc.2.1.2
  refine zh_X2_hasZip hc.1.1 ?_
  rw [hc.2.1.1]
  refine ⟨fun c => H0 (isz_not (by omega) (Or.inl c)), fun c => ⟨fun c2 => H0 (isz_not (by omega) (Or.inr c2)), fun c2 => ?_⟩⟩
  rcases isz_or (show x.1 < 2 ^ 31 by omega) z with h | h
  · obtain ⟨i, hi, rfl⟩ := h
    exact zbr_f (nI_ge (by omega) (by omega)) (H1 ⟨i, hi, rfl⟩)
  · exact absurd h (fun z => z.elim c c2)
theorem c_zipAt (hc : cdr g D x) {i : Nat} (hi : i < x.1) (H : kr (D + 2 + i) g e) : hcr (d + 2) 48 [.ref D, .int (nI i)] g e kr X := by
  have h4 := hc.2.1.2
  refine zh_X2_zipAt hc.1.1 (zbr_f (nI_pos (by omega)) (zbr_f (nI_ge (by omega) (by omega)) ?_))
  refine ⟨D + 2 + i, nI_in (by omega) (by omega), ?_, hT_zip hc.1.1 (by omega), H⟩
  rw [nI_clamp (by omega)]
  exact hR_zip hc.1.1 (by omega)
theorem c_theZip (hc : cdr g D x) (hr : hrm e) {z : Int32} (H : ∀ i, i < x.1 → z = nI i → kr (D + 2 + i) g e) (HX : ¬ isz x.1 z → X 1 g (hth e)) : hcr (d + 3) 201 [.ref 1000, .int z] g e kr X := by
  have h4 := hc.2.1.2
  refine zh_X7_theZip ?_
  rw [hc.1.2]
  refine ⟨hc.1.1, c_hasZip hc (fun h => ?_) (fun h => zbr_t rfl ⟨hr, HX h⟩)⟩
  obtain ⟨i, hi, rfl⟩ := h
  rw [hc.1.2]
  exact zbr_f (by decide) ⟨hc.1.1, c_zipAt hc hi ⟨hT_zip hc.1.1 (by omega), H i hi rfl⟩⟩
theorem c_checkPlace {a : Nat} (ha : hT a = some hZ) {n : Nat} (hn : (zg g a).1 = nI n) (h16 : n ≤ 16) (hr : hrm e) {p : Int32} (H : ∀ i, i < n → p = nI i → kv g e) (HX : ¬ isz n p → X 1 g (hth e)) : hcv (d + 2) 202 [.ref a, .int p] g e kv X := by
  refine zh_X7_checkPlace ha ⟨fun c => ⟨hr, HX (isz_not (by omega) (Or.inl c))⟩, fun c => c_size ha ?_⟩
  rw [hn]
  rcases isz_or (show n < 2 ^ 31 by omega) p with h | h
  · obtain ⟨i, hi, rfl⟩ := h
    exact zbr_t (nI_lt hi (by omega)) (H i hi rfl)
  · have h : nI n ≤ p := h.elim (fun z => absurd z c) id
    exact zbr_f (Int32.not_lt.mpr h) ⟨hr, HX (isz_not (by omega) (Or.inr h))⟩
theorem c_checkWhat (hr : hrm e) {n : Nat} (hn : n < 2 ^ 31) {w : Int32} (H : ∀ i, i < n → w = nI i → kv g e) (HX : ¬ isz n w → X 1 g (hth e)) : hcv (d + 1) 204 [.int w, .int (nI n)] g e kv X := by
  refine zh_X7_checkWhat ⟨fun c => ⟨hr, HX (isz_not hn (Or.inl c))⟩, fun c => ?_⟩
  rcases isz_or hn w with h | h
  · obtain ⟨i, hi, rfl⟩ := h
    exact zbr_t (nI_lt hi (by omega)) (H i hi rfl)
  · have h : nI n ≤ w := h.elim (fun z => absurd z c) id
    exact zbr_f (Int32.not_lt.mpr h) ⟨hr, HX (isz_not hn (Or.inr h))⟩
/-- a number from a to b -/
def isr (a b : Nat) (x : Int32) : Prop := ∃ i, a ≤ i ∧ i ≤ b ∧ x = nI i
theorem isr_not {a b : Nat} (hb : b < 2 ^ 30) {x : Int32} (h : x < nI a ∨ ¬ x ≤ nI b) : ¬ isr a b x := by
  rintro ⟨i, h1, h2, rfl⟩
  rcases h with h | h
  · exact nI_nlt h1 (by omega) h
  · exact h (nI_le h2 (by omega))
theorem isr_or {a b : Nat} (ha : a < 2 ^ 30) (hb : b < 2 ^ 30) (x : Int32) : isr a b x ∨ x < nI a ∨ (¬ x < nI a ∧ ¬ x ≤ nI b) := by
  by_cases h1 : x < nI a
  · exact Or.inr (Or.inl h1)
  · by_cases h2 : x ≤ nI b
    · have h0 : ¬ x < 0 := fun z => h1 (Int32.lt_of_lt_of_le z (nI_pos' (by omega)))
      obtain ⟨j, hj, rfl⟩ := nI_of h0
      refine Or.inl ⟨j, ?_, ?_, rfl⟩
      · exact Nat.le_of_not_lt (fun z => h1 (nI_lt z (by omega)))
      · exact (nI_leI hj (by omega)).mp h2
    · exact Or.inr (Or.inr ⟨h1, h2⟩)
theorem c_checkRange (hr : hrm e) {a b : Nat} (ha : a < 2 ^ 30) (hb : b < 2 ^ 30) {w : Int32} (H : ∀ i, a ≤ i → i ≤ b → w = nI i → kv g e) (HX : ¬ isr a b w → X 0 g (hth e)) : hcv (d + 1) 205 [.int w, .int (nI a), .int (nI b)] g e kv X := by
  refine zh_X7_checkRange ?_
  rcases isr_or ha hb w with h | h | h
  · obtain ⟨i, h1, h2, rfl⟩ := h
    exact zbr_f (nI_nlt h1 (by omega)) (zbr_t (nI_le h2 (by omega)) (H i h1 h2 rfl))
  · exact zbr_t h ⟨hr, HX (isr_not hb (Or.inl h))⟩
  · exact zbr_f h.1 (zbr_f h.2 ⟨hr, HX (isr_not hb (Or.inr h.2))⟩)
theorem c_trialAt {i : Nat} (hi : i < 4) (H : kr (1038 + i) g e) : hcr (d + 1) 206 [.ref 1000, .int (nI i)] g e kr X := by
  refine zh_X7_trialAt (zbr_f (nI_pos (by omega)) (zbr_t (nI_lt hi (by omega)) ⟨1038 + i, nI_in hi (by omega), ?_, hT_trial hi, H⟩))
  rw [nI_clamp (by omega)]
  exact hR_trial hi
theorem ct_coil {pl : List tk} {a : Nat} {s : sZ} (h : ct pl g a s) : (zg g a).2.1 = 0 ∨ (zg g a).2.1 = 1 := by
  rw [h.1.2.1]
  have := h.2.1.2.1
  rcases Nat.lt_or_ge s.2.1 1 with q | q
  · rw [show s.2.1 = 0 by omega]; exact Or.inl rfl
  · rw [show s.2.1 = 1 by omega]; exact Or.inr rfl
theorem c_trialOf (hc : cdr g D x) (hr : hrm e) {z : Int32} (H : ∀ i, i < x.1 → z = nI i → ∀ g', qf D g g' → ct x.2.2.2.1 g' (1038 + i) (x.2.1 i) → (∀ j, ¬ j = i → zg g' (1038 + j) = zg g (1038 + j)) → kr (1038 + i) g' e) (HX : ¬ isz x.1 z → X 1 g (hth e)) : hcr (d + 4) 207 [.ref 1000, .int z] g e kr X := by
  have h4 := hc.2.1.2
  have hl := hD_lt hc.1.1
  refine zh_X7_trialOf (c_theZip hc hr (fun i hi hz => ?_) HX)
  subst hz
  have hct := hc.2.2.1 i hi
  refine ⟨hT_zip hc.1.1 (by omega), c_trialAt (by omega) ⟨hT_trial (by omega), c_copyOf (hT_trial (by omega)) (hT_zip hc.1.1 (by omega)) (by omega) (ct_coil hct) ?_⟩⟩
  refine H i hi rfl _ (qf_zp hc.1.1 (by omega) _) ?_ (fun j hj => zg_off _ _ (by omega))
  unfold ct
  rw [zg_zp]
  exact hct
theorem c_strainWith (hc : cdr g D x) {t : Nat} (ht : t < 2 ^ 31) {w o : Int32} (H : k (if x.2.2.1 = [] then 4 else if nI (t % x.2.2.1.length) = w then o else nI (x.2.2.1.getD (t % x.2.2.1.length) 0)) g e) : hci (d + 2) 54 [.ref D, .int (nI t), .int w, .int o] g e k X := by
  obtain ⟨h6, h7, h8, h9⟩ := hc.2.2.2.1
  refine zh_X2_strainWith hc.1.1 ?_
  rw [h6]
  by_cases hl : x.2.2.1 = []
  · rw [if_pos hl] at H
    exact zbr_f (by rw [hl]; decide) H
  · rw [if_neg hl] at H
    have hlen : 0 < x.2.2.1.length := List.length_pos_iff.mpr hl
    have hlt : t % x.2.2.1.length < x.2.2.1.length := Nat.mod_lt _ hlen
    refine zbr_t (show (0 : Int32) < nI _ from nI_lt (a := 0) hlen (by omega)) ⟨nI_ne0 hlen (by omega), ?_⟩
    rw [pk_rem ht hlen (by omega)]
    refine ⟨fun c => by rw [if_pos c] at H; exact H, fun c => ?_⟩
    rw [if_neg c] at H
    refine zh_X2_strainAt hc.1.1 (zbr_f (nI_pos (by omega)) ?_)
    rw [h6]
    refine zbr_f (nI_ge hlt (by omega)) (zbr_f (nI_ge (by omega) (by omega)) ⟨nI_in (by omega) (by omega), ?_⟩)
    rw [nI_clamp (by omega), h8 _ _ (List.getElem?_eq_getElem hlt)]
    rw [List.getD_eq_getElem?_getD, List.getElem?_eq_getElem hlt] at H
    exact H
theorem c_strainOn (hc : cdr g D x) {t : Nat} (ht : t < 2 ^ 31) (H : k (nI (sstr x.2.2.1 t)) g e) : hci (d + 3) 53 [.ref D, .int (nI t)] g e k X := by
  refine zh_X2_strainOn hc.1.1 (c_strainWith hc ht ?_)
  unfold sstr at H
  by_cases hl : x.2.2.1 = []
  · rw [if_pos hl] at H ⊢
    exact H
  · rw [if_neg hl] at H ⊢
    have hlen : 0 < x.2.2.1.length := List.length_pos_iff.mpr hl
    have hlt : t % x.2.2.1.length < x.2.2.1.length := Nat.mod_lt _ hlen
    have h7 := hc.2.2.2.1.2.1
    rw [if_neg (show ¬ nI (t % x.2.2.1.length) = -1 from nneg (c := 1) (by omega) (by omega) (by omega))]
    exact H
abbrev xd (x : sX) (t : Nat) (s : sZ) : sD := sd1 x.2.2.2.1 x.2.2.2.2.1 x.2.2.1 t s
theorem c_passD (hc : cdr g D x) {i : Nat} (hi : i < 4) {s : sZ} (hs : ct x.2.2.2.1 g (1038 + i) s) {st : Nat} (h31 : st < 2 ^ 31) {day : Int32} (H : ∀ g', pf D (1038 + i) g g' → ct x.2.2.2.1 g' (1038 + i) (sday x.2.2.2.1 x.2.2.2.2.1 (nI st) day s).1 → g'.1 D 9 = (sday x.2.2.2.1 x.2.2.2.2.1 (nI st) day s).2.2.1 → k (sday x.2.2.2.1 x.2.2.2.2.1 (nI st) day s).2.1 g' e) : hci (d + 4) 58 [.ref D, .ref (1038 + i), .int (nI st), .int day] g e k X :=
  c_pass hc.1.1 (hT_trial hi) hs.1 hs.2.1 hc.2.2.2.2.1 hs.2.2 h31 (fun g' p z m f => H g' p ⟨z, sok_day hs.2.1, m⟩ f)
theorem c_passDay (hc : cdr g D x) {i : Nat} (hi : i < 4) {s : sZ} (hs : ct x.2.2.2.1 g (1038 + i) s) {n : Nat} (hn : n ≤ 1000) (H : ∀ g', pf D (1038 + i) g g' → ct x.2.2.2.1 g' (1038 + i) (xd x (x.2.2.2.2.2 + n) s).1 → g'.1 D 9 = (xd x (x.2.2.2.2.2 + n) s).2.2.1 → k (xd x (x.2.2.2.2.2 + n) s).2.1 g' e) : hci (d + 5) 210 [.ref 1000, .ref (1038 + i), .int (nI n)] g e k X := by
  have ht := hc.2.2.2.2.2
  refine zh_X7_passDay (hT_trial hi) ?_
  rw [hc.1.2]
  refine ⟨hc.1.1, zh_X2_today hc.1.1 ?_⟩
  rw [hc.1.2, ht.1, nI_add]
  refine ⟨hc.1.1, hc.1.1, c_strainOn hc (by omega) ?_⟩
  have := sstr_le hc.2.2.2.1.2.2.2 (x.2.2.2.2.2 + n)
  exact c_passD hc hi hs (by omega) H
end
