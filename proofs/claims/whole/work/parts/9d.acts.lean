/-! ACTS: what they mean; the class -/
def s_ref (s : sS) (j : Nat) : sS := (s.1, (s.2.1.1, s.2.1.2.1, va_up s.2.1.2.2 j (s.2.1.2.2 j + 1)), s.2.2)
def s_act (s : sS) (P : sP) : sS := (xpg s.1 P, skeep s.1 s.2.1, s.2.2)
def r_days (s : sS) (n : Int32) : rs × sS := if isrb 1 20 n && decide (nI s.1.2.2.2.2.2 + n ≤ 999) then (.inl (nI (s.1.2.2.2.2.2 + n.toNatClampNeg)), s_act s (fun z => xgo s.1 n.toNatClampNeg s.1.2.2.2.2.2 (s.1.2.1 z), s.1.2.2.2.2.2 + n.toNatClampNeg)) else (.inl (-1), s_ref s 1)
def r_slide (s : sS) (z h : Int32) : rs × sS := if iszb s.1.1 z then (if isrb 0 (s.1.2.1 z.toNatClampNeg).1 h then (.inl (jbc (sslide (s.1.2.1 z.toNatClampNeg) h.toNatClampNeg).2.2.2.2.1), s_act s (va_up s.1.2.1 z.toNatClampNeg (sslide (s.1.2.1 z.toNatClampNeg) h.toNatClampNeg), s.1.2.2.2.2.2)) else (.inl (-1), s_ref s 1)) else (.inr 1, s)
def sgp (s : sZ) (t p : Nat) : Nat := if t = 0 then s.2.2.1 p else s.2.2.2.1 p
def sput (s : sZ) (t p v : Nat) : sZ := if t = 0 then spL s p v else spR s p v
def r_pinch (s : sS) (z t p : Int32) : rs × sS := if iszb s.1.1 z && (iszb (s.1.2.1 z.toNatClampNeg).1 p && iszb 2 t) then (if 0 < sgp (s.1.2.1 z.toNatClampNeg) t.toNatClampNeg p.toNatClampNeg ∧ sgp (s.1.2.1 z.toNatClampNeg) t.toNatClampNeg p.toNatClampNeg < 9 then (.inl (nI (sgp (s.1.2.1 z.toNatClampNeg) t.toNatClampNeg p.toNatClampNeg + 1)), s_act s (va_up s.1.2.1 z.toNatClampNeg (sput (s.1.2.1 z.toNatClampNeg) t.toNatClampNeg p.toNatClampNeg (sgp (s.1.2.1 z.toNatClampNeg) t.toNatClampNeg p.toNatClampNeg + 1)), s.1.2.2.2.2.2)) else (.inl (-1), s_ref s 1)) else (.inr 1, s)
def r_set (s : sS) (z t p v : Int32) : rs × sS := if iszb s.1.1 z && (iszb (s.1.2.1 z.toNatClampNeg).1 p && iszb 2 t) then (if sgp (s.1.2.1 z.toNatClampNeg) t.toNatClampNeg p.toNatClampNeg = 0 ∧ isrb 1 9 v = true then (.inl 1, s_act s (va_up s.1.2.1 z.toNatClampNeg (sput (s.1.2.1 z.toNatClampNeg) t.toNatClampNeg p.toNatClampNeg v.toNatClampNeg), s.1.2.2.2.2.2)) else (.inl 0, s_ref s 1)) else (.inr 1, s)
def sswp (s r : sZ) : sZ := (s.1, s.2.1, r.2.2.1, s.2.2.2.1, 0, 0)
def r_swap (s : sS) (z y : Int32) : rs × sS := if iszb s.1.1 z && iszb s.1.1 y then (if z = y ∨ ¬ (s.1.2.1 z.toNatClampNeg).1 = (s.1.2.1 y.toNatClampNeg).1 then (.inl 0, s_ref s 1) else (.inl 1, s_act s (va_up (va_up s.1.2.1 z.toNatClampNeg (sswp (s.1.2.1 z.toNatClampNeg) (s.1.2.1 y.toNatClampNeg))) y.toNatClampNeg (sswp (s.1.2.1 y.toNatClampNeg) (s.1.2.1 z.toNatClampNeg)), s.1.2.2.2.2.2))) else (.inr 1, s)
theorem sok_swp {s r : sZ} (h : sok s) (h' : sok r) (e : s.1 = r.1) : sok (sswp s r) := by
  refine ⟨h.1, h.2.1, h'.2.2.1, h.2.2.2.1, fun p hp => ⟨(h'.2.2.2.2.1 p (by have : s.1 ≤ p := hp; omega)).1, (h.2.2.2.2.1 p hp).2⟩, fun p hp => ?_, Nat.zero_le _⟩
  have : bt 0 p = true := hp
  rw [bt_zero] at this
  cases this
theorem sok_put {s : sZ} (h : sok s) {t p v : Nat} (hp : p < s.1) (h0 : 0 < v) (h9 : v ≤ 9) : sok (sput s t p v) := by
  unfold sput
  split
  · exact sok_spL h hp h0 h9
  · exact sok_spR h hp h0 h9
theorem sput_n (s : sZ) (t p v : Nat) : (sput s t p v).1 = s.1 ∧ (sput s t p v).2.1 = s.2.1 := by
  unfold sput
  split <;> exact ⟨rfl, rfl⟩
theorem pg_up {x : sX} {i : Nat} {s : sZ} (h : pgok x (xnow x)) (hs : sok s) (h1 : s.1 = (x.2.1 i).1) (h2 : s.2.1 = (x.2.1 i).2.1) : pgok x (va_up x.2.1 i s, x.2.2.2.2.2) := by
  refine ⟨fun z hz => ?_, h.2⟩
  show sok (va_up x.2.1 i s z) ∧ (va_up x.2.1 i s z).1 = _ ∧ (va_up x.2.1 i s z).2.1 = _
  by_cases c : z = i
  · subst c; rw [va_up_at]; exact ⟨hs, h1, h2⟩
  · rw [va_up_off _ _ c]; exact h.1 z hz
/-- what an act may touch of the drawer -/
def adf (D : Nat) (g g' : hG) : Prop := (∀ b, ¬ (D + 2 ≤ b ∧ b ≤ D + 5) → ¬ b = D → ¬ b = D + 9 → ¬ b = D + 11 → g'.1 b = g.1 b) ∧ (∀ k, ¬ k = 8 → ¬ k = 9 → g'.1 D k = g.1 D k) ∧ (∀ b, ¬ (D + 2 ≤ b ∧ b ≤ D + 5) → g'.2.1 b = g.2.1 b) ∧ g'.2.2 = g.2.2
section
variable {d : Nat} {k : Int32 → hG → hE → Prop} {kv : hG → hE → Prop} {X : Nat → hG → hE → Prop} {g : hG} {e : hE} {D : Nat} {x : sX} {s : sS}
theorem adf.refl : adf D g g := ⟨fun _ _ _ _ _ => rfl, fun _ _ _ => rfl, fun _ _ => rfl, rfl⟩
theorem adf.trans {g' g'' : hG} (h : adf D g g') (h' : adf D g' g'') : adf D g g'' := ⟨fun b q r t u => (h'.1 b q r t u).trans (h.1 b q r t u), fun k q r => (h'.2.1 k q r).trans (h.2.1 k q r), fun b q => (h'.2.2.1 b q).trans (h.2.2.1 b q), h'.2.2.2.trans h.2.2.2⟩
theorem adf_zp {i : Nat} (hi : i < 4) (z : cZ) : adf D g (zp g (D + 2 + i) z) := ⟨fun b q _ _ _ => va_up_off _ _ (by omega), fun k _ _ => congrFun (va_up_off _ _ (by omega)) k, fun b q => va_up_off _ _ (by omega), rfl⟩
theorem adf_rd {g' : hG} (h : rdf D g g') : adf D g g' := ⟨fun b q r _ _ => h.1 b q r, fun k q _ => h.2.1 k q, h.2.2.1, h.2.2.2⟩
theorem adf_pf {i : Nat} {g' : hG} (hi : i < 4) (h : pf D (D + 2 + i) g g') : adf D g g' := ⟨fun b q r t u => h.1 b (by omega) r t u, fun k _ q => h.2.1 k q, fun b q => h.2.2.1 b (by omega), h.2.2.2⟩
theorem cdr_ad {g' : hG} {P : sP} (hc : cdr g D x) (h : adf D g g') (hz : ∀ z, z < x.1 → ct x.2.2.2.1 g' (D + 2 + z) (P.1 z)) (hd : g'.1 D 8 = nI P.2) (h9 : P.2 ≤ 999) : cdr g' D (xpg x P) := by
  have hl := hD_lt hc.1.1
  exact cdr_pg hc h.2.1 (h.1 _ (by omega) (by omega) (by omega) (by omega)) (h.1 _ (by omega) (by omega) (by omega) (by omega)) (h.1 _ (by omega) (by omega) (by omega) (by omega)) (h.1 _ (by omega) (by omega) (by omega) (by omega)) (by rw [h.2.2.2]) hz hd h9
theorem cfr_ad {g' : hG} (hD' : hD D) (h : adf D g g') : cfr g g' := fun b hb => by
  have := hD_lt hD'
  exact ⟨h.1 b (by omega) (by omega) (by omega) (by omega), h.2.2.1 b (by omega), by rw [h.2.2.2]⟩
theorem cfr_bk {g' : hG} (h : bkf g g') : cfr g g' := fun b hb => ⟨h.1 b (by omega), h.2.2.1 b (by omega), by rw [h.2.2.2]⟩
theorem cdr_bk {g' : hG} (hc : cdr g D x) (h : bkf g g') : cdr g' D x := by
  have hl := hD_lt hc.1.1
  exact cdr_cg (g := g) (fun b hb => h.1 b (by omega)) (fun b hb => h.2.2.1 b (by omega)) (by rw [h.2.2.2]) hc
theorem RC_act {g1 g2 : hG} {P : sP} (h : RC g D s) (f1 : bkf g g1) (a1 : cac (g1.2.1 1028) (g1.1 1027 1) s.1 (akeep s.1 s.2.1.1)) (f2 : adf D g1 g2) (c2 : cdr g2 D (xpg s.1 P)) (hp : pgok s.1 P) : RC g2 D (s_act s P) := by
  obtain ⟨h1, h2, h3, h4, h5, h6⟩ := h
  have hl := hD_lt h1.1.1
  have st := stt_pg hp
  have q : ∀ b, (1027 ≤ b ∧ b < 1046) ∨ b < 1003 → g2.1 b = g1.1 b := fun b hb => f2.1 b (by omega) (by omega) (by omega) (by omega)
  have qJ : ∀ b, 1027 ≤ b → g2.2.1 b = g1.2.1 b := fun b hb => f2.2.2.1 b (by omega)
  have r : ∀ b, (1028 ≤ b ∧ b < 1046) ∨ b < 1003 → g2.1 b = g.1 b := fun b hb => (q b (by omega)).trans (f1.1 b (by omega))
  have rJ : ∀ b, 1029 ≤ b → g2.2.1 b = g.2.1 b := fun b hb => (qJ b (by omega)).trans (f1.2.2.1 b (by omega))
  refine ⟨c2, by rw [f2.2.2.2, f1.2.2.2]; exact h2, ?_, ckp_st st (ckp_cg (by rw [r 1000 (by omega)]) (r _ (by omega)) (rJ _ (by omega)) (r _ (by omega)) (r _ (by omega)) (rJ _ (by omega)) h4), ctp_cg (by rw [r 1001 (by omega)]) (r _ (by omega)) h5, by rw [r 1000 (by omega)]; exact h6⟩
  refine cbk_st st ⟨?_, ⟨?_, h3.2.1.2⟩, ?_⟩
  · rw [show (1027 : Nat) + 1 = 1028 from rfl, qJ 1028 (by omega), q 1027 (by omega)]
    exact a1
  · have := h3.2.1.1
    unfold cnt at this ⊢
    rw [q 1027 (by omega), f1.2.1 3 (by omega), r (1027 + 2) (by omega)]
    exact this
  · intro j hj
    rw [r (1027 + 3) (by omega)]
    exact h3.2.2 j hj
theorem c_refuse (h : RC g D s) {j : Nat} (hj : j < 3) (H : ∀ g', cfr g g' → RC g' D (s_ref s j) → kv g' e) : hcv (d + 1) 20 [.ref 1027, .int (nI j)] g e kv X := by
  obtain ⟨h1, h2, h3, h4, h5, h6⟩ := h
  have hl := hD_lt h1.1.1
  refine zh_X0_refuse (Or.inl rfl) (zbr_f (nI_pos (by omega)) (zbr_f (nI_ge hj (by omega)) ⟨nI_in hj (by omega), nI_in hj (by omega), H _ (fun b hb => ⟨sI_off _ (by omega), rfl, rfl⟩) ?_⟩))
  rw [nI_clamp (by omega)]
  have q : ∀ b, ¬ b = 1030 → (sI g (1027 + 3) j (g.1 (1027 + 3) j + 1)).1 b = g.1 b := fun b hb => sI_off _ hb
  refine ⟨cdr_cg (g := g) (fun b hb => q b (by omega)) (fun b hb => rfl) rfl h1, h2, ⟨?_, ⟨?_, h3.2.1.2⟩, ?_⟩, ckp_cg (by rw [q 1000 (by omega)]) (q _ (by omega)) rfl (q _ (by omega)) (q _ (by omega)) rfl h4, ctp_cg (by rw [q 1001 (by omega)]) (q _ (by omega)) h5, by rw [q 1000 (by omega)]; exact h6⟩
  · rw [q 1027 (by omega)]; exact h3.1
  · unfold cnt
    rw [q 1027 (by omega), q (1027 + 2) (by omega)]
    exact h3.2.1.1
  · intro i hi
    show _ = va_up s.2.1.2.2 j (s.2.1.2.2 j + 1) i
    rw [sI_at]
    by_cases c : i = j
    · subst c
      rw [upd_at, va_up_at, h3.2.2 i hi]
    · rw [upd_off _ _ c, va_up_off _ _ c, h3.2.2 i hi]
theorem c_passToday (hc : cdr g D x) (hd : x.2.2.2.2.2 + 1 ≤ 999) (H : ∀ g', adf D g g' → cdr g' D (xpg x (xz x x.2.2.2.2.2 x.2.1, x.2.2.2.2.2 + 1)) → kv g' e) : hcv (d + 7) 57 [.ref D] g e kv X := by
  have h4 := hc.2.1.2
  have hD' := hc.1.1
  have hl := hD_lt hD'
  refine zh_X2_passToday hD' ?_
  have main : ∀ i, i ≤ x.1 → ∀ g1, adf D g g1 → cdr g1 D (xpg x (fun z => if z < i then xz x x.2.2.2.2.2 x.2.1 z else x.2.1 z, x.2.2.2.2.2)) → hwv (d + 6) zm_X2_passToday kv X 2 [(0, .ref D), (1, .int (nI i))] g1 e := by
    refine hdown ?_ ?_
    · intro g1 f1 c1
      refine zh_X2_passToday_2 hD' (zbr_t (by rw [c1.2.1.1]; exact nI_le (Nat.le_refl _) (by omega)) (H _ (f1.trans ⟨fun b _ q _ _ => sI_off _ q, fun k q _ => by rw [sI_at, upd_off _ _ q], fun _ _ => rfl, rfl⟩) ?_))
      have f2 : adf D g (sI g1 D 8 (g1.1 D 8 + 1)) := f1.trans ⟨fun b _ q _ _ => sI_off _ q, fun k q _ => by rw [sI_at, upd_off _ _ q], fun _ _ => rfl, rfl⟩
      refine cdr_ad hc f2 (fun z hz => ct_cg (zg_cg (sI_off _ (by omega)) rfl) ?_) ?_ hd
      · have := c1.2.2.1 z hz
        have e : (xpg x (fun z => if z < x.1 then xz x x.2.2.2.2.2 x.2.1 z else x.2.1 z, x.2.2.2.2.2)).2.1 z = xz x x.2.2.2.2.2 x.2.1 z := if_pos hz
        rw [e] at this
        exact this
      · rw [sI_at, upd_at, c1.2.2.2.2.2.1, ← nI_1]
        rfl
    · intro i hi W g1 f1 c1
      have hT1 := hT_zip (D := D) hD' (show i < 4 by omega)
      refine zh_X2_passToday_2 hD' (zbr_f (by rw [c1.2.1.1]; exact nI_ge (b := x.1) hi (by omega)) (c_zipAtN hD' c1.2.1.1 h4 hi ⟨hT1, ?_⟩))
      rw [c1.2.2.2.2.2.1]
      have ci := c1.2.2.1 i hi
      have e : (xpg x (fun z => if z < i then xz x x.2.2.2.2.2 x.2.1 z else x.2.1 z, x.2.2.2.2.2)).2.1 i = x.2.1 i := if_neg (by omega)
      rw [e] at ci
      have s9 := sstr_le hc.2.2.2.1.2.2.2 x.2.2.2.2.2
      refine c_strainOn c1 (by show x.2.2.2.2.2 < _; omega) (c_pass hD' hT1 ci.1 ci.2.1 c1.2.2.2.2.1 ci.2.2 (st := sstr x.2.2.1 x.2.2.2.2.2) (by omega) (fun g2 p2 z2 m2 _ => ?_))
      rw [nI_1]
      have f2 := f1.trans (adf_pf (show i < 4 by omega) p2)
      refine W g2 f2 (cdr_ad hc f2 (fun z hz => ?_) ?_ hc.2.2.2.2.2.2)
      · show ct _ g2 _ (if z < i + 1 then _ else _)
        by_cases c : z = i
        · subst c
          rw [if_pos (by omega)]
          rw [show g1.1 D 8 = nI x.2.2.2.2.2 from c1.2.2.2.2.2.1] at z2 m2
          exact ⟨z2, sok_day ci.2.1, m2⟩
        · have := c1.2.2.1 z hz
          have e2 : (xpg x (fun z => if z < i then xz x x.2.2.2.2.2 x.2.1 z else x.2.1 z, x.2.2.2.2.2)).2.1 z = if z < i + 1 then xz x x.2.2.2.2.2 x.2.1 z else x.2.1 z := by
            show (if z < i then _ else _) = _
            by_cases q : z < i
            · rw [if_pos q, if_pos (by omega)]
            · rw [if_neg q, if_neg (by omega)]
          rw [e2] at this
          exact ct_cg (zg_cg (p2.1 _ (by omega) (by omega) (by omega) (by omega)) (p2.2.2.1 _ (by omega))) this
      · rw [p2.2.1 8 (by omega)]; exact c1.2.2.2.2.2.1
  have := main 0 (Nat.zero_le _) g adf.refl ?_
  · exact this
  · refine cdr_ad hc adf.refl (fun z hz => ?_) hc.2.2.2.2.2.1 hc.2.2.2.2.2.2
    have := hc.2.2.1 z hz
    have e : (if z < 0 then xz x x.2.2.2.2.2 x.2.1 z else x.2.1 z) = x.2.1 z := if_neg (by omega)
    rw [← e] at this
    exact this
end
