/-! a day in the class -/
def zrel (z : cZ) (s : sZ) : Prop := z.1 = nI s.1 ∧ z.2.1 = nI s.2.1 ∧ (∀ p, p < 16 → gr z.2.2.1 p = nI (s.2.2.1 p)) ∧ (∀ p, p < 16 → gr z.2.2.2.1 p = nI (s.2.2.2.1 p)) ∧ z.2.2.2.2.1 = s.2.2.2.2.1 ∧ z.2.2.2.2.2.1 = nI s.2.2.2.2.2
theorem imn_nI {a b : Nat} (ha : a < 2 ^ 31) (hb : b < 2 ^ 31) : imn (nI a) (nI b) = nI (min a b) := by
  unfold imn
  by_cases h : b < a
  · rw [if_pos (nI_lt h ha), show min a b = b by omega]
  · rw [if_neg (nI_nlt (by omega) hb), show min a b = a by omega]
theorem imx_sub {a b : Nat} (ha : a < 2 ^ 30) (hb : b < 2 ^ 30) : imx 0 (nI a - nI b) = nI (a - b) := by
  unfold imx
  by_cases h : b < a
  · rw [pk_sub (by omega), if_pos (show (0 : Int32) < nI (a - b) from nI_lt (a := 0) (by omega) (by omega))]
  · have : ¬ 0 < nI a - nI b := by
      intro z
      have := Int32.lt_iff_toInt_lt.mp z
      rw [pk_sub_toInt ha hb] at this
      simp at this
      omega
    rw [if_neg this, show a - b = 0 by omega]
    rfl
theorem zrel_hold {z : cZ} {s : sZ} (h : zrel z s) (hs : sok s) {p : Nat} (hp : p < 16) : zhold z p = nI (sh s p) := by
  unfold zhold sh
  rw [h.2.2.1 p hp, h.2.2.2.1 p hp, imn_nI (by have := hs.2.2.1 p; omega) (by have := hs.2.2.2.1 p; omega)]
theorem zrel_beside {z : cZ} {s : sZ} (h : zrel z s) (p : Nat) : zbeside z s.1 p = sbes s p := by
  unfold zbeside sbes
  rw [h.2.2.2.2.1]
theorem zrel_hb {z : cZ} {s : sZ} (h : zrel z s) (hs : sok s) : ∀ p, p ≤ 16 → zhb z p = shb s p
  | 0, _ => rfl
  | p + 1, hp => by
    unfold zhb shb
    have h1 := h.2.2.1 p (by omega)
    have h2 := h.2.2.2.1 p (by omega)
    have a1 := hs.2.2.1 p
    have a2 := hs.2.2.2.1 p
    rw [zrel_hb h hs p (by omega), h1, h2]
    have e1 : (nI (s.2.2.1 p) = 0) ↔ s.2.2.1 p = 0 := nI_eq (b := 0) (by omega) (by omega)
    have e2 : (nI (s.2.2.2.1 p) = 0) ↔ s.2.2.2.1 p = 0 := nI_eq (b := 0) (by omega) (by omega)
    by_cases c : sh s p = 0
    · rw [if_pos c, if_pos]
      unfold sh at c
      rcases Nat.lt_or_ge 0 (s.2.2.1 p) with q | q
      · exact Or.inr (e2.mpr (by omega))
      · exact Or.inl (e1.mpr (by omega))
    · rw [if_neg c, if_neg]
      · rfl
      · unfold sh at c
        rintro (q | q)
        · have := e1.mp q; omega
        · have := e2.mp q; omega
theorem zrel_slide {z : cZ} {s : sZ} (h : zrel z s) (hs : sok s) (n : Nat) : zrel (zslide z s.1 (nI n)) (sslide s n) := by
  refine ⟨h.1, h.2.1, h.2.2.1, h.2.2.2.1, ?_, rfl⟩
  show zhb z s.1 &&& _ = shb s s.1 &&& _
  rw [zrel_hb h hs s.1 hs.1.2]
  rfl
theorem zrel_open {z : cZ} {s : sZ} (h : zrel z s) (p : Nat) : zrel (zopen z p) (s.1, s.2.1, s.2.2.1, s.2.2.2.1, s.2.2.2.2.1 &&& (bit p ^^^ (-1)), s.2.2.2.2.2) := by
  refine ⟨h.1, h.2.1, h.2.2.1, h.2.2.2.1, ?_, h.2.2.2.2.2⟩
  show z.2.2.2.2.1 &&& _ = _
  rw [h.2.2.2.2.1]
  rfl
theorem gpv {L : Int64} {f : Nat → Nat} (h : ∀ p, p < 16 → gr L p = nI (f p)) {p v : Nat} (hp : p < 16) (hv : v < 16) : ∀ q, q < 16 → gr (gp L p (nI v)) q = nI (va_up f p v q) := by
  intro q hq
  rw [gr_gp L hp hq (bt_lo' hv)]
  by_cases e : q = p
  · subst e; rw [if_pos rfl, va_up_at]
  · rw [if_neg e, va_up_off _ _ e, h q hq]
theorem zrel_put0 {z : cZ} {s : sZ} (h : zrel z s) {p v : Nat} (hp : p < 16) (hv : v < 16) : zrel (zgput z 0 p (nI v)) (s.1, s.2.1, va_up s.2.2.1 p v, s.2.2.2) := by
  unfold zgput
  rw [if_pos rfl]
  exact ⟨h.1, h.2.1, gpv h.2.2.1 hp hv, h.2.2.2.1, h.2.2.2.2.1, h.2.2.2.2.2⟩
theorem zrel_put1 {z : cZ} {s : sZ} (h : zrel z s) {p v : Nat} (hp : p < 16) (hv : v < 16) : zrel (zgput z 1 p (nI v)) (s.1, s.2.1, s.2.2.1, va_up s.2.2.2.1 p v, s.2.2.2.2) := by
  unfold zgput
  rw [if_neg (by decide)]
  exact ⟨h.1, h.2.1, h.2.2.1, gpv h.2.2.2.1 hp hv, h.2.2.2.2.1, h.2.2.2.2.2⟩
theorem zrel_wear {z : cZ} {s : sZ} (h : zrel z s) (hs : sok s) {p b : Nat} (hp : p < 16) (hb : b ≤ 9) : zrel (zwear z p (nI b)) (s.1, s.2.1, va_up s.2.2.1 p (s.2.2.1 p - b), va_up s.2.2.2.1 p (s.2.2.2.1 p - b), s.2.2.2.2) := by
  have a1 := hs.2.2.1 p
  have a2 := hs.2.2.2.1 p
  have h1 : zrel (zwearL z p (nI b)) (s.1, s.2.1, va_up s.2.2.1 p (s.2.2.1 p - b), s.2.2.2) := by
    unfold zwearL
    rw [h.2.2.1 p hp, imx_sub (by omega) (by omega)]
    exact zrel_put0 h hp (by omega)
  unfold zwear
  rw [h1.2.2.2.1 p hp]
  show zrel (zgput _ 1 p (imx 0 (nI (s.2.2.2.1 p) - nI b))) _
  rw [imx_sub (by omega) (by omega)]
  exact zrel_put1 h1 hp (by omega)
/-- what a day may touch: a zip's cell, the drawer's first place, the rules' stacks -/
def pf (D a : Nat) (g g' : hG) : Prop := (∀ b, ¬ b = a → ¬ b = D → ¬ b = D + 9 → ¬ b = D + 11 → g'.1 b = g.1 b) ∧ (∀ k, ¬ k = 9 → g'.1 D k = g.1 D k) ∧ (∀ b, ¬ b = a → g'.2.1 b = g.2.1 b) ∧ g'.2.2 = g.2.2
theorem pf.rfl' {D a : Nat} {g : hG} : pf D a g g := ⟨fun _ _ _ _ _ => rfl, fun _ _ => rfl, fun _ _ => rfl, rfl⟩
theorem pf.trans {D a : Nat} {g g' g'' : hG} (h : pf D a g g') (h' : pf D a g' g'') : pf D a g g'' :=
  ⟨fun b h1 h2 h3 h4 => (h'.1 b h1 h2 h3 h4).trans (h.1 b h1 h2 h3 h4), fun k hk => (h'.2.1 k hk).trans (h.2.1 k hk), fun b hb => (h'.2.2.1 b hb).trans (h.2.2.1 b hb), h'.2.2.2.trans h.2.2.2⟩
theorem hZ_ne {a b : Nat} {s : hS} (ha : hT a = some hZ) (hb : hT b = some s) (hs : ∀ fs, s = .inr (6, fs) → False) : ¬ b = a := by
  rintro rfl
  cases ha.symm.trans hb
  exact hs _ rfl
theorem hD_ne {D a : Nat} (hD' : hD D) (ha : hT a = some hZ) : ¬ D = a ∧ ¬ D + 6 = a ∧ ¬ D + 7 = a ∧ ¬ D + 8 = a ∧ ¬ D + 9 = a ∧ ¬ D + 10 = a ∧ ¬ D + 11 = a := by
  rcases hD' with rfl | rfl
  all_goals
    refine ⟨?_, ?_, ?_, ?_, ?_, ?_, ?_⟩
    all_goals
      rintro rfl
      exact absurd ha (by decide)
theorem pf_zp {D a : Nat} {g : hG} (hD' : hD D) (ha : hT a = some hZ) (z : cZ) : pf D a g (zp g a z) := by
  refine ⟨fun b h1 _ _ _ => zp1 _ _ _ h1, fun k _ => ?_, fun b h1 => zp2 _ _ _ h1, rfl⟩
  rw [zp1 _ _ _ (hD_ne hD' ha).1]
theorem pf_stk {D a : Nat} {g : hG} (hD' : hD D) {u : Nat} (hu : u = D + 9 ∨ u = D + 11) (f : Nat → Int32) : pf D a g (aI g u f) := by
  refine ⟨fun b h1 h2 h3 h4 => aI_off _ _ (by rcases hu with rfl | rfl <;> assumption), fun k _ => ?_, fun _ _ => rfl, rfl⟩
  rw [aI_off _ _ (by omega)]
theorem pf_first {D a : Nat} {g : hG} (hD' : hD D) (v : Int32) : pf D a g (sI g D 9 v) := by
  refine ⟨fun b _ h2 _ _ => va_up_off _ _ h2, fun k hk => ?_, fun _ _ => rfl, rfl⟩
  show va_up g.1 D (upd (g.1 D) 9 v) D k = _
  rw [va_up_at, upd_off _ _ hk]
theorem zg_stk {a u : Nat} {g : hG} (h : ¬ a = u) (f : Nat → Int32) : zg (aI g u f) a = zg g a := by
  unfold zg
  rw [aI_off _ _ h]
  rfl
theorem zg_first {D a : Nat} {g : hG} (h : ¬ a = D) (v : Int32) : zg (sI g D 9 v) a = zg g a := by
  unfold zg
  rw [show (sI g D 9 v).1 a = g.1 a from va_up_off _ _ h]
  rfl
/-- the drawer's rules -/
def hasday (l : List tk) : Bool := l.any (fun t => Nat.beq t.1 1 && Nat.beq t.2 3)
def rule1 (g : hG) (u : Nat) (l : List tk) : Prop := g.1 u 2 = (if l = [] then 0 else 1) ∧ g.1 u 3 = bI (hasday l) ∧ (l ≠ [] → crl g u l ∧ wft l 0)
def drl (g : hG) (D : Nat) (pl wl : List tk) : Prop := rule1 g (D + 8) pl ∧ rule1 g (D + 10) wl
theorem hD_us {D : Nat} (h : hD D) : hus (D + 8) = D + 7 ∧ hus (D + 10) = D + 7 := by rcases h with rfl | rfl <;> exact ⟨rfl, rfl⟩
theorem crl_cg {g g' : hG} {u : Nat} {l : List tk} (h1 : g'.1 u = g.1 u) (h2 : g'.1 (hus u) = g.1 (hus u)) (h : crl g u l) : crl g' u l := by
  unfold crl at h ⊢
  rw [h1, h2]
  exact h
theorem rule1_cg {g g' : hG} {u : Nat} {l : List tk} (h1 : g'.1 u = g.1 u) (h2 : g'.1 (hus u) = g.1 (hus u)) (h : rule1 g u l) : rule1 g' u l := by
  refine ⟨by rw [h1]; exact h.1, by rw [h1]; exact h.2.1, fun hl => ⟨crl_cg h1 h2 (h.2.2 hl).1, (h.2.2 hl).2⟩⟩
theorem drl_pf {D a : Nat} {g g' : hG} {pl wl : List tk} (hD' : hD D) (ha : hT a = some hZ) (hp : pf D a g g') (h : drl g D pl wl) : drl g' D pl wl := by
  obtain ⟨n0, n6, n7, n8, n9, n10, n11⟩ := hD_ne hD' ha
  obtain ⟨u1, u2⟩ := hD_us hD'
  have k7 := hp.1 (D + 7) n7 (by omega) (by omega) (by omega)
  have k8 := hp.1 (D + 8) n8 (by omega) (by omega) (by omega)
  have k10 := hp.1 (D + 10) n10 (by omega) (by omega) (by omega)
  exact ⟨rule1_cg k8 (by rw [u1]; exact k7) h.1, rule1_cg k10 (by rw [u2]; exact k7) h.2⟩
section
variable {d : Nat} {k : Int32 → hG → hE → Prop} {kv : hG → hE → Prop} {X : Nat → hG → hE → Prop} {g : hG} {e : hE} {D a : Nat} {pl wl : List tk} {s : sZ}
theorem c_pullOn (hD' : hD D) (ha : hT a = some hZ) (hz : zrel (zg g a) s) (hs : sok s) {p : Nat} (hp : p < s.1) (hr : drl g D pl wl) {st day : Int32} (H : ∀ g', pf D a g g' → zg g' a = zg g a → g'.1 D = g.1 D → k (spv pl s st day p) g' e) : hci (d + 3) 61 [.ref D, .ref a, .int (nI p), .int st, .int day] g e k X := by
  have hn := hs.1.2
  obtain ⟨n0, n6, n7, n8, n9, n10, n11⟩ := hD_ne hD' ha
  obtain ⟨⟨r1, r2, r3⟩, -⟩ := hr
  refine zh_X2_pullOn hD' ha (c_openBeside ha hz.1 hn hp ?_)
  rw [zrel_beside hz]
  refine zh_X4_isTold (hUD8 hD') ⟨by rw [r1]; split <;> decide, ?_⟩
  rw [r1]
  by_cases hl : pl = []
  · rw [if_pos hl]
    refine zbr_t rfl (c_min (c_max ?_))
    have := H g pf.rfl' rfl rfl
    unfold spv at this
    rw [if_pos hl] at this
    exact this
  · rw [if_neg hl]
    refine zbr_f (by decide) (c_hold ha ?_)
    rw [zrel_hold hz hs (by omega)]
    refine c_value (hUD8 hD') (hD_us hD').1.symm (r3 hl).1 (r3 hl).2 (fun f => c_min (c_max ?_))
    have := H (aI g (D + 8 + 1) f) (pf_stk hD' (Or.inl rfl) f) (zg_stk (fun z => n9 z.symm) f) (aI_off _ _ (by omega))
    unfold spv at this
    rw [if_neg hl] at this
    exact this
theorem sby_le {st day c : Int32} {p : Nat} : sby wl s st day p c ≤ 9 := by
  unfold sby
  split
  · omega
  · generalize (if wl = [] then (1 : Int32) else _) = v
    have h9 : imx 0 (imn 9 v) = 0 ∨ (0 < imx 0 (imn 9 v) ∧ imx 0 (imn 9 v) ≤ 9) := by
      unfold imx
      by_cases c : 0 < imn 9 v
      · rw [if_pos c]
        refine Or.inr ⟨c, ?_⟩
        unfold imn
        by_cases c2 : v < 9
        · rw [if_pos c2]; exact Int32.le_of_lt c2
        · rw [if_neg c2]; decide
      · rw [if_neg c]; exact Or.inl rfl
    rcases h9 with h9 | ⟨h9, h10⟩
    · rw [h9]; decide
    · obtain ⟨j, hj, e⟩ := nI_of2 (x := imx 0 (imn 9 v)) (M := 9) (n := 9) (by decide) (fun z => Int32.lt_irrefl (Int32.lt_trans z h9)) h10
      rw [e, nI_clamp (by omega)]
      exact hj
theorem sby_nI {st day c : Int32} {p : Nat} (hc : ¬ s.2.1 = 1) : imx 0 (imn 9 (if wl = [] then 1 else evl (qv st (nI p) (nI (sh s p)) day c) wl)) = nI (sby wl s st day p c) := by
  unfold sby
  rw [if_neg hc]
  generalize (if wl = [] then (1 : Int32) else _) = v
  have h0 : ¬ imx 0 (imn 9 v) < 0 := by
    unfold imx
    by_cases c : 0 < imn 9 v
    · rw [if_pos c]; exact fun z => Int32.lt_irrefl (Int32.lt_trans z c)
    · rw [if_neg c]; decide
  obtain ⟨j, hj, e⟩ := nI_of h0
  rw [e, nI_clamp hj]
theorem c_burstAt (hD' : hD D) (ha : hT a = some hZ) (hz : zrel (zg g a) s) (hs : sok s) {p : Nat} (hp : p < s.1) (hr : drl g D pl wl) {st day c : Int32} (H : ∀ g', pf D a g g' → zrel (zg g' a) (sbst wl s st day p c) → (zg g' a).2.2.2.2.2.2 = 0 → g'.1 D = g.1 D → kv g' e) : hcv (d + 3) 62 [.ref D, .ref a, .int (nI p), .int st, .int day, .int c] g e kv X := by
  have hn := hs.1.2
  obtain ⟨n0, n6, n7, n8, n9, n10, n11⟩ := hD_ne hD' ha
  obtain ⟨-, r1, r2, r3⟩ := hr
  have hc1 := hs.2.1
  have fin : ∀ g' : hG, pf D a g g' → zg g' a = zg g a → g'.1 D = g.1 D → ¬ s.2.1 = 1 → hcv (d + 2) 132 [.ref a, .int (nI p), .int (nI (sby wl s st day p c))] g' e (fun g13 e14 => hcv (d + 2) 128 [.ref a, .int (nI p)] g13 e14 (fun g15 e16 => kv g15 e16) X) X := by
    intro g' h1 h2 h3 h4
    refine c_wearAt ha (c_openAt ha ?_)
    rw [zg_zp, zp_zp]
    refine H _ (h1.trans (pf_zp hD' ha _)) ?_ (by rw [zg_zp]; rfl) (by rw [zp1 _ _ _ n0]; exact h3)
    rw [zg_zp, h2]
    exact zrel_open (zrel_wear hz hs (by omega) sby_le) p
  refine zh_X2_burstAt hD' ha (c_isCoil ha ?_ ?_)
  · rw [hz.2.1]
    rcases Nat.lt_or_ge s.2.1 1 with q | q
    · rw [show s.2.1 = 0 by omega]; exact Or.inl rfl
    · rw [show s.2.1 = 1 by omega]; exact Or.inr rfl
  rw [hz.2.1]
  by_cases hco : s.2.1 = 1
  · rw [hco]
    refine zbr_f (by decide) (c_openAt ha ?_)
    refine H _ (pf_zp hD' ha _) ?_ (by rw [zg_zp]; rfl) (zp1 _ _ _ n0)
    rw [zg_zp]
    have := zrel_open hz p
    unfold sbst
    rw [show sby wl s st day p c = 0 by unfold sby; rw [if_pos hco], Nat.sub_zero, Nat.sub_zero, va_up_id, va_up_id]
    exact this
  · rw [show s.2.1 = 0 by omega]
    refine zbr_t rfl (zh_X4_isTold (hUD10 hD') ⟨by rw [r1]; split <;> decide, ?_⟩)
    rw [r1]
    by_cases hl : wl = []
    · rw [if_pos hl]
      refine zbr_t rfl (c_min (c_max ?_))
      have e1 := sby_nI (wl := wl) (st := st) (day := day) (c := c) (p := p) hco
      rw [if_pos hl] at e1
      rw [e1]
      exact fin g pf.rfl' rfl rfl hco
    · rw [if_neg hl]
      refine zbr_f (by decide) (c_hold ha ?_)
      rw [zrel_hold hz hs (by omega)]
      refine c_value (hUD10 hD') (hD_us hD').2.symm (r3 hl).1 (r3 hl).2 (fun f => c_min (c_max ?_))
      have e1 := sby_nI (wl := wl) (st := st) (day := day) (c := c) (p := p) hco
      rw [if_neg hl] at e1
      rw [e1]
      exact fin _ (pf_stk hD' (Or.inr rfl) f) (zg_stk (fun z => n11 z.symm) f) (aI_off _ _ (by omega)) hco
/-- strains by which nothing bursts -/
def hv (pl : List tk) (s : sZ) (m : Int32) : Prop := ∀ i, i < 32 → bt m i = true → hasday pl = false ∧ ∀ day q, q < s.1 → ¬ sfire pl s (nI i) day q
theorem hv_0 (pl : List tk) (s : sZ) : hv pl s 0 := fun i _ h => by rw [bt_zero] at h; cases h
theorem evs_day {a b c d1 d2 f : Int32} : ∀ (l : List tk), hasday l = false → ∀ x, evs (qv a b c d1 f) l x = evs (qv a b c d2 f) l x
  | [], _, _ => rfl
  | t :: l, h, x => by
    have h1 : (Nat.beq t.1 1 && Nat.beq t.2 3) = false ∧ hasday l = false := by
      unfold hasday at h ⊢
      rw [List.any_cons, Bool.or_eq_false_iff] at h
      exact h
    have ih := evs_day (a := a) (b := b) (c := c) (d1 := d1) (d2 := d2) (f := f) l h1.2
    obtain ⟨t1, t2⟩ := t
    match t1, h1.1 with
    | 0, _ => exact ih _
    | 1, q =>
      show evs _ l (qv a b c d1 f t2 :: x) = evs _ l (qv a b c d2 f t2 :: x)
      rw [ih]
      have : qv a b c d1 f t2 = qv a b c d2 f t2 := by
        match t2, q with
        | 0, _ => rfl
        | 1, _ => rfl
        | 2, _ => rfl
        | 3, q => cases q
        | n + 4, _ => rfl
      rw [this]
    | 2, _ =>
      cases x with
      | nil => rfl
      | cons y x => exact ih _
    | n + 3, _ =>
      match x with
      | [] => rfl
      | [_] => rfl
      | y :: z :: x => exact ih _
theorem spv_day {st d1 d2 : Int32} {p : Nat} (h : hasday pl = false) : spv pl s st d1 p = spv pl s st d2 p := by
  unfold spv evl
  rw [evs_day pl h]
theorem c_findHarmless (ha : hT a = some hZ) {st : Nat} (H : kv (if st < 32 then zp g a ((zg g a).1, (zg g a).2.1, (zg g a).2.2.1, (zg g a).2.2.2.1, (zg g a).2.2.2.2.1, (zg g a).2.2.2.2.2.1, (zg g a).2.2.2.2.2.2 ||| bit st) else g) e) (h31 : st < 2 ^ 31) : hcv (d + 1) 111 [.ref a, .int (nI st)] g e kv X := by
  refine zh_X6_findHarmless ha ⟨fun c => ?_, fun c => ?_⟩
  · have : 32 ≤ st := (nI_leI (a := 32) (by omega) h31).mp c
    rw [if_neg (by omega)] at H
    exact H
  · have : ¬ 32 ≤ st := fun z => c ((nI_leI (a := 32) (by omega) h31).mpr z)
    rw [if_pos (by omega)] at H
    rw [s6]
    exact H
theorem c_isHarmless (ha : hT a = some hZ) {st : Nat} (h31 : st < 2 ^ 31) (H : k (bI (decide (st < 32) && bt (zg g a).2.2.2.2.2.2 st)) g e) : hci (d + 1) 110 [.ref a, .int (nI st)] g e k X := by
  refine zh_X6_isHarmless ha ⟨fun c => ?_, fun c => ⟨fun c2 => ?_, fun c2 => ?_⟩⟩
  · have : 32 ≤ st := (nI_leI (a := 32) (by omega) h31).mp c
    rw [decide_eq_false (by omega)] at H
    exact H
  · have h32 : st < 32 := Nat.lt_of_not_le (fun z => c ((nI_leI (a := 32) (by omega) h31).mpr z))
    have c2 : bt (zg g a).2.2.2.2.2.2 st = false := (bt_shr0 h32).mp c2
    rw [c2, Bool.and_false] at H
    exact H
  · have h32 : st < 32 := Nat.lt_of_not_le (fun z => c ((nI_leI (a := 32) (by omega) h31).mpr z))
    have c2 : bt (zg g a).2.2.2.2.2.2 st = true := by
      cases q : bt (zg g a).2.2.2.2.2.2 st with
      | true => rfl
      | false => exact absurd ((bt_shr0 h32).mpr q) c2
    rw [c2, decide_eq_true h32] at H
    exact H
/-- the places of a round -/
theorem pass_inner (hD' : hD D) (ha : hT a = some hZ) {st day rd : Int32} {x0 : sD} (h0 : sok x0.1) (hb0 : sbo x0)
    (K : ∀ g', pf D a g g' → zrel (zg g' a) (srnd pl wl st day x0 x0.1.1).1 → hv pl (srnd pl wl st day x0 x0.1.1).1 (zg g' a).2.2.2.2.2.2 → g'.1 D 9 = (srnd pl wl st day x0 x0.1.1).2.2.1 → hwi (d + 3) zm_X2_pass k X 33 [(0, .ref D), (1, .ref a), (2, .int st), (3, .int day), (4, .int (srnd pl wl st day x0 x0.1.1).2.1), (5, .int (bI (srnd pl wl st day x0 x0.1.1).2.2.2)), (6, .int (rd + 1))] g' e) :
    ∀ p, p ≤ x0.1.1 → ∀ g', pf D a g g' → drl g' D pl wl → zrel (zg g' a) (srnd pl wl st day x0 p).1 → hv pl (srnd pl wl st day x0 p).1 (zg g' a).2.2.2.2.2.2 → g'.1 D 9 = (srnd pl wl st day x0 p).2.2.1 →
      hwi (d + 3) zm_X2_pass k X 51 [(0, .ref D), (1, .ref a), (2, .int st), (3, .int day), (4, .int (srnd pl wl st day x0 p).2.1), (5, .int (bI (srnd pl wl st day x0 p).2.2.2)), (6, .int rd), (7, .int (nI p))] g' e := by
  have hn := h0.1.2
  obtain ⟨n0, -⟩ := hD_ne hD' ha
  refine hdown (W := fun p => ∀ g', pf D a g g' → drl g' D pl wl → zrel (zg g' a) (srnd pl wl st day x0 p).1 → hv pl (srnd pl wl st day x0 p).1 (zg g' a).2.2.2.2.2.2 → g'.1 D 9 = (srnd pl wl st day x0 p).2.2.1 →
      hwi (d + 3) zm_X2_pass k X 51 [(0, .ref D), (1, .ref a), (2, .int st), (3, .int day), (4, .int (srnd pl wl st day x0 p).2.1), (5, .int (bI (srnd pl wl st day x0 p).2.2.2)), (6, .int rd), (7, .int (nI p))] g' e) ?_ ?_
  · intro g' h1 hr hz hh hf
    refine zh_X2_pass_51 hD' ha (c_size ha (zbr_t ?_ (K g' h1 hz hh hf)))
    rw [hz.1, srnd_n]
    exact nI_le (Nat.le_refl _) (by omega)
  · intro p hp W g' h1 hr hz hh hf
    have hs : sok (srnd pl wl st day x0 p).1 := sok_rnd h0 p (by omega)
    have hpn : p < (srnd pl wl st day x0 p).1.1 := by rw [srnd_n]; exact hp
    rw [nI_succ] at W
    have hst : srnd pl wl st day x0 (p + 1) = sstep pl wl st day (srnd pl wl st day x0 p) p := rfl
    rw [hst] at W
    have hbo := sbo_rnd (pl := pl) (wl := wl) (st := st) (day := day) hn hb0 p (by omega)
    revert W hz hh hf hs hpn hbo
    generalize srnd pl wl st day x0 p = x
    intro W hz hh hf hs hpn hbo
    have hx16 := hs.1.2
    refine zh_X2_pass_51 hD' ha (c_size ha (zbr_f (by rw [hz.1]; exact nI_ge hpn (by omega)) (c_isClosed ha (by omega) ?_)))
    rw [hz.2.2.2.2.1]
    cases q : bt x.1.2.2.2.2.1 p with
    | false =>
      have es : sstep pl wl st day x p = x := if_neg (fun z => by rw [q] at z; cases z.1)
      rw [es] at W
      exact zbr_t rfl (W g' h1 hr hz hh hf)
    | true =>
      refine zbr_f (by decide) (c_pullOn hD' ha hz hs hpn hr (fun g2 p2 z2 d2 => c_hold ha ?_))
      rw [z2, zrel_hold hz hs (by omega)]
      have hr2 : drl g2 D pl wl := drl_pf hD' ha p2 hr
      refine ⟨fun c => ?_, fun c => ?_⟩
      · have es : sstep pl wl st day x p = x := if_neg (fun z => absurd z.2 (Int32.not_lt.mpr c))
        rw [es] at W
        exact W g2 (h1.trans p2) hr2 (by rw [z2]; exact hz) (by rw [z2]; exact hh) (by rw [d2]; exact hf)
      · have cf : bt x.1.2.2.2.2.1 p = true ∧ nI (sh x.1 p) < spv pl x.1 st day p := ⟨q, Int32.not_le.mp c⟩
        have es : sstep pl wl st day x p = (sbst wl x.1 st day p (jbc x.2.1), x.2.1 ||| bit p, if x.2.1 = 0 then nI p else x.2.2.1, true) := if_pos cf
        rw [es] at W
        have na : ¬ a = D := fun z => n0 z.symm
        have go : ∀ v, v = (if x.2.1 = 0 then nI p else x.2.2.1) → hci (d + 3) 0 [.int x.2.1] (sI g2 D 9 v) e (fun x15 g13 e14 => hcv (d + 3) 62 [.ref D, .ref a, .int (nI p), .int st, .int day, .int x15] g13 e14 (fun g16 e17 => hwi (d + 3) zm_X2_pass k X 51 [(0, .ref D), (1, .ref a), (2, .int st), (3, .int day), (4, .int (x.2.1 ||| (1 <<< (nI p &&& 31)))), (5, .int 1), (6, .int rd), (7, .int (nI p + 1))] g16 e17) X) X := by
          intro v hv
          have p3 : pf D a g2 (sI g2 D 9 v) := pf_first hD' v
          have z3 : zg (sI g2 D 9 v) a = zg g2 a := zg_first na v
          refine c_bitCount (c_burstAt hD' ha (s := x.1) (by rw [z3, z2]; exact hz) hs hpn (drl_pf hD' ha p3 hr2) (fun g4 p4 z4 m4 d4 => ?_))
          refine W g4 (((h1.trans p2).trans p3).trans p4) (drl_pf hD' ha p4 (drl_pf hD' ha p3 hr2)) z4 (by rw [m4]; exact hv_0 _ _) ?_
          rw [d4]
          show va_up g2.1 D (upd (g2.1 D) 9 v) D 9 = _
          rw [va_up_at, upd_at]
          exact hv
        refine ⟨fun c0 => go _ (by rw [if_pos c0]), fun c0 => go _ (by rw [if_neg c0, d2, hf])⟩
end
