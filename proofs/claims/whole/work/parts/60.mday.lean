/-! a day in the model -/
/-- what may have changed: rows of the model, fields of its object -/
def fr (L F : List Nat) (g g' : hG) : Prop := (∀ b, ¬ b ∈ L → ¬ b = 1046 → g'.1 b = g.1 b) ∧ (∀ k, ¬ k ∈ F → g'.1 1046 k = g.1 1046 k) ∧ g'.2 = g.2
theorem fr.refl {L F : List Nat} {g : hG} : fr L F g g := ⟨fun _ _ _ => rfl, fun _ _ => rfl, rfl⟩
theorem fr.trans {L F : List Nat} {g g' g'' : hG} (h : fr L F g g') (h' : fr L F g' g'') : fr L F g g'' := ⟨fun b h1 h2 => (h'.1 b h1 h2).trans (h.1 b h1 h2), fun k hk => (h'.2.1 k hk).trans (h.2.1 k hk), h'.2.2.trans h.2.2⟩
theorem fr.sub {L F L' F' : List Nat} {g g' : hG} (h : fr L F g g') (h1 : ∀ b, b ∈ L → b ∈ L') (h2 : ∀ b, b ∈ F → b ∈ F') : fr L' F' g g' := ⟨fun b q1 q2 => h.1 b (fun z => q1 (h1 b z)) q2, fun k q => h.2.1 k (fun z => q (h2 k z)), h.2.2⟩
theorem fr_sI {L F : List Nat} {g : hG} {a k : Nat} {v : Int32} (ha : a ∈ L) (hn : ¬ a = 1046) : fr L F g (sI g a k v) := by
  refine ⟨fun b h1 _ => va_up_off _ _ (fun z => h1 (z ▸ ha)), fun k _ => ?_, rfl⟩
  rw [show (sI g a _ v).1 1046 = g.1 1046 from va_up_off _ _ (fun z => hn z.symm)]
theorem fr_aI {L F : List Nat} {g : hG} {a : Nat} {f : Nat → Int32} (ha : a ∈ L) (hn : ¬ a = 1046) : fr L F g (aI g a f) := by
  refine ⟨fun b h1 _ => va_up_off _ _ (fun z => h1 (z ▸ ha)), fun k _ => ?_, rfl⟩
  rw [show (aI g a f).1 1046 = g.1 1046 from va_up_off _ _ (fun z => hn z.symm)]
theorem fr_fld {L F : List Nat} {g : hG} {k : Nat} {v : Int32} (hk : k ∈ F) : fr L F g (sI g 1046 k v) := by
  refine ⟨fun b _ h2 => va_up_off _ _ h2, fun j hj => ?_, rfl⟩
  show va_up g.1 1046 (upd (g.1 1046) k v) 1046 j = _
  rw [va_up_at, upd_off _ _ (fun z : j = k => hj (by rw [z]; exact hk))]
theorem fr.I {L F : List Nat} {g g' : hG} {a k : Nat} {v : Int32} (h : fr L F g g') (ha : a ∈ L) (hn : ¬ a = 1046) : fr L F g (sI g' a k v) := h.trans (fr_sI ha hn)
theorem fr.A {L F : List Nat} {g g' : hG} {a : Nat} {f : Nat → Int32} (h : fr L F g g') (ha : a ∈ L) (hn : ¬ a = 1046) : fr L F g (aI g' a f) := h.trans (fr_aI ha hn)
theorem fr.F {L F : List Nat} {g g' : hG} {k : Nat} {v : Int32} (h : fr L F g g') (hk : k ∈ F) : fr L F g (sI g' 1046 k v) := h.trans (fr_fld hk)
theorem sI_r (g : hG) (a k : Nat) (v : Int32) (b : Nat) : (sI g a k v).1 b = if b = a then upd (g.1 a) k v else g.1 b := rfl
theorem sI_at (g : hG) (a k : Nat) (v : Int32) : (sI g a k v).1 a = upd (g.1 a) k v := va_up_at _ _ _
theorem sI_off (g : hG) {a k b : Nat} {v : Int32} (h : ¬ b = a) : (sI g a k v).1 b = g.1 b := va_up_off _ _ h
def mz (g : hG) (z : Nat) (s : sZ) : Prop := g.1 1052 z = nI s.1 ∧ g.1 1051 z = nI s.2.1 ∧ (∀ p, p < 16 → g.1 1060 (16 * z + p) = nI (s.2.2.1 p)) ∧ (∀ p, p < 16 → g.1 1061 (16 * z + p) = nI (s.2.2.2.1 p)) ∧ g.1 1063 z = s.2.2.2.2.1 ∧ g.1 1062 z = nI s.2.2.2.2.2
def mrls (g : hG) (pl wl : List tk) : Prop := (g.1 1050 2 = nI pl.length ∧ g.1 1050 3 = nI wl.length) ∧ (mrl (g.1 1056) pl ∧ mrl (g.1 1057) wl) ∧ ((pl ≠ [] → wft pl 0) ∧ (wl ≠ [] → wft wl 0)) ∧ pl.length ≤ 700 ∧ wl.length ≤ 700
theorem mz_cg {g g' : hG} {z : Nat} {s : sZ} (h : mz g z s) (h1 : g'.1 1052 = g.1 1052) (h2 : g'.1 1051 = g.1 1051) (h3 : g'.1 1060 = g.1 1060) (h4 : g'.1 1061 = g.1 1061) (h5 : g'.1 1063 = g.1 1063) (h6 : g'.1 1062 = g.1 1062) : mz g' z s := by
  unfold mz
  rw [h1, h2, h3, h4, h5, h6]
  exact h
theorem mrls_fr {L F : List Nat} {g g' : hG} {pl wl : List tk} (h : fr L F g g') (h1 : ¬ 1050 ∈ L) (h2 : ¬ 1056 ∈ L) (h3 : ¬ 1057 ∈ L) (hr : mrls g pl wl) : mrls g' pl wl := by
  unfold mrls
  rw [h.1 1050 h1 (by decide), h.1 1056 h2 (by decide), h.1 1057 h3 (by decide)]
  exact hr
theorem ix16 {z p : Nat} : (16 : Int32) * nI z + nI p = nI (16 * z + p) := by
  rw [show (16 : Int32) = nI 16 from rfl, pk_mul, nI_add]
section
variable {d : Nat} {k : Int32 → hG → hE → Prop} {kv : hG → hE → Prop} {X : Nat → hG → hE → Prop} {g : hG} {e : hE} {pl wl : List tk} {s : sZ} {z : Nat}
theorem cm_isOf {x : Int32} {p : Nat} (hp : p < 32) (H : k (bI (bt x p)) g e) : hci (d + 1) 218 [.int x, .int (nI p)] g e k X := by
  refine zh_X8_isOf ⟨fun c => ?_, fun c => ?_⟩
  · rw [(bt_shr1 hp).mp c] at H; exact H
  · have : bt x p = false := by
      cases q : bt x p with
      | false => rfl
      | true => exact absurd ((bt_shr1 hp).mpr q) c
    rw [this] at H
    exact H
theorem cm_holdOf (hz4 : z < 4) (hm : mz g z s) (hs : sok s) {p : Nat} (hp : p < 16) (H : k (nI (sh s p)) g e) : hci (d + 2) 251 [.ref 1046, .int (nI z), .int (nI p)] g e k X := by
  refine zh_X8_holdOf ?_
  rw [ix16, nI_clamp (by omega), hm.2.2.1 p hp, hm.2.2.2.1 p hp]
  refine ⟨nI_in (by omega) (by omega), nI_in (by omega) (by omega), c_min ?_⟩
  rw [imn_nI (by have := hs.2.2.1 p; omega) (by have := hs.2.2.2.1 p; omega)]
  exact H
theorem cm_openBeside (hz4 : z < 4) (hm : mz g z s) (hs : sok s) {p : Nat} (hp : p < s.1) (H : k (sbes s p) g e) : hci (d + 2) 254 [.ref 1046, .int (nI z), .int (nI p)] g e k X := by
  have hn := hs.1.2
  have ez : (nI z).toNatClampNeg = z := nI_clamp (by omega)
  have step : ∀ x : Int32, k (x + (if s.1 ≤ p + 1 then 0 else if bt s.2.2.2.2.1 (p + 1) then 0 else 1)) g e → hwi (d + 1) zm_X8_openBeside k X 29 [(0, .ref 1046), (1, .int (nI z)), (2, .int (nI p)), (3, .int x)] g e := by
    intro x hx
    refine zh_X8_openBeside_29 ⟨nI_in (by omega) (by omega), ?_⟩
    rw [nI_1, ez, hm.1, hm.2.2.2.2.1]
    by_cases c : s.1 ≤ p + 1
    · rw [if_pos c, Int32.add_zero] at hx
      exact zbr_t (nI_le c (by omega)) hx
    · rw [if_neg c] at hx
      refine zbr_f (nI_ge (by omega) (by omega)) ⟨nI_in (by omega) (by omega), cm_isOf (by omega) ?_⟩
      cases q : bt s.2.2.2.2.1 (p + 1) with
      | true => rw [q] at hx; exact zbr_f (by decide) hx
      | false => rw [q] at hx; exact zbr_t rfl hx
  refine zh_X8_openBeside ?_
  unfold sbes at H
  by_cases c : p = 0
  · subst c
    exact zbr_t (by decide) (step 0 H)
  · rw [if_neg c] at H
    refine zbr_f (nI_nle (by omega) (by omega)) ⟨nI_in (by omega) (by omega), ?_⟩
    rw [ez, hm.2.2.2.2.1, show nI p - 1 = nI (p - 1) by rw [show nI p = nI (p - 1 + 1) by rw [Nat.sub_add_cancel (by omega)]]; exact nI_pred _]
    refine cm_isOf (by omega) ?_
    cases q : bt s.2.2.2.2.1 (p - 1) with
    | true => rw [q] at H; exact zbr_f (by decide) (step _ H)
    | false => rw [q] at H; exact zbr_t rfl (step _ H)
theorem cm_ruleOf {b n : Nat} (hb : hT b = some (.inl (0, n))) (hb5 : ¬ b = 1065) (hb6 : ¬ b = 1066) (hn : n < 2 ^ 31) {l : List tk} (hl : mrl (g.1 b) l) (hw : wft l 0) (hln : l.length ≤ n) (hz4 : z < 4) (hm : mz g z s) (hs : sok s) {p : Nat} (hp : p < 16) {st last : Int32} (H : ∀ g', fr [1065, 1066] [] g g' → k (evl (qv st (nI p) (nI (sh s p)) (g.1 1046 31) last) l) g' e) : hci (d + 3) 261 [.ref 1046, .ref b, .int (nI l.length), .int (nI z), .int (nI p), .int st, .int last] g e k X := by
  refine zh_X8_ruleOf hb (cm_holdOf hz4 (s := s) ?_ hs hp ?_)
  · exact mz_cg hm rfl rfl rfl rfl rfl rfl
  refine c_valueNow hb hb6 hn hln (q := qv st (nI p) (nI (sh s p)) (g.1 1046 31) last) ?_ ?_ hw (fun f => H _ ?_)
  · intro i hi
    match i, hi with
    | 0, _ => rfl
    | 1, _ => rfl
    | 2, _ => rfl
    | 3, _ => rfl
    | 4, _ => rfl
    | i + 5, h => exact absurd h (by omega)
  · have : (sI (sI (sI (sI (sI g 1065 0 st) 1065 1 (nI p)) 1065 2 (nI (sh s p))) 1065 3 ((sI (sI (sI g 1065 0 st) 1065 1 (nI p)) 1065 2 (nI (sh s p))).1 1046 31)) 1065 4 last).1 b = g.1 b := by
      simp only [sI_r, hb5, if_false]
    unfold mrl
    rw [this]
    exact hl
  · exact (((((fr.refl.I (by decide) (by decide)).I (by decide) (by decide)).I (by decide) (by decide)).I (by decide) (by decide)).I (by decide) (by decide)).A (by decide) (by decide)
theorem cm_wouldBurst (hz4 : z < 4) (hm : mz g z s) (hs : sok s) {p : Nat} (hp : p < s.1) (hr : mrls g pl wl) {st : Int32} (H : ∀ g', fr [1065, 1066] [] g g' → k (bI (decide (nI (sh s p) < spv pl s st (g.1 1046 31) p))) g' e) : hci (d + 4) 262 [.ref 1046, .int (nI z), .int (nI p), .int st] g e k X := by
  have hn := hs.1.2
  refine zh_X8_wouldBurst (cm_openBeside hz4 hm hs hp ?_)
  rw [hr.1.1]
  have fin : ∀ g', fr [1065, 1066] [] g g' → ∀ v, v = spv pl s st (g.1 1046 31) p → zbr (v ≤ nI (sh s p)) (k 0 g' e) (k 1 g' e) := by
    intro g' h v hv
    have := H g' h
    subst hv
    refine ⟨fun c => ?_, fun c => ?_⟩
    · rw [decide_eq_false (Int32.not_lt.mpr c)] at this; exact this
    · rw [decide_eq_true (Int32.not_le.mp c)] at this; exact this
  by_cases hl : pl = []
  · refine zbr_t (by rw [hl]; decide) (c_min (c_max (cm_holdOf hz4 hm hs (by omega) (fin g fr.refl _ ?_))))
    unfold spv
    rw [if_pos hl]
  · have hlen : 0 < pl.length := List.length_pos_iff.mpr hl
    refine zbr_f (nI_nle hlen (by have := hr.2.2.2.1; omega)) ?_
    refine cm_ruleOf (show hT 1056 = some (.inl (0, 1400)) from rfl) (by decide) (by decide) (by decide) hr.2.1.1 (hr.2.2.1.1 hl) (by have := hr.2.2.2.1; omega) hz4 hm hs (by omega) (fun g2 f2 => c_min (c_max ?_))
    refine cm_holdOf hz4 (s := s) (mz_cg hm (f2.1 _ (by decide) (by decide)) (f2.1 _ (by decide) (by decide)) (f2.1 _ (by decide) (by decide)) (f2.1 _ (by decide) (by decide)) (f2.1 _ (by decide) (by decide)) (f2.1 _ (by decide) (by decide))) hs (by omega) (fin g2 f2 _ ?_)
    unfold spv
    rw [if_neg hl]
/-- the other zips' places stay -/
def oz (z : Nat) (g g' : hG) : Prop := (∀ i, (i < 16 * z ∨ 16 * z + 16 ≤ i) → g'.1 1060 i = g.1 1060 i ∧ g'.1 1061 i = g.1 1061 i) ∧ ∀ i, ¬ i = z → g'.1 1063 i = g.1 1063 i ∧ g'.1 1067 i = g.1 1067 i ∧ g'.1 1068 i = g.1 1068 i ∧ g'.1 1069 i = g.1 1069 i
theorem oz.refl : oz z g g := ⟨fun _ _ => ⟨rfl, rfl⟩, fun _ _ => ⟨rfl, rfl, rfl, rfl⟩⟩
theorem oz.trans {g g' g'' : hG} (h : oz z g g') (h' : oz z g' g'') : oz z g g'' := ⟨fun i hi => ⟨(h'.1 i hi).1.trans (h.1 i hi).1, (h'.1 i hi).2.trans (h.1 i hi).2⟩, fun i hi => ⟨(h'.2 i hi).1.trans (h.2 i hi).1, (h'.2 i hi).2.1.trans (h.2 i hi).2.1, (h'.2 i hi).2.2.1.trans (h.2 i hi).2.2.1, (h'.2 i hi).2.2.2.trans (h.2 i hi).2.2.2⟩⟩
abbrev dL : List Nat := [1060, 1061, 1063, 1065, 1066, 1067, 1068, 1069]
/-- behind a burst: its marks -/
theorem cm_burst_tail (hz4 : z < 4) {p : Nat} (hp : p < 16) (H : ∀ g', fr dL [] g g' → g'.1 1060 = g.1 1060 → g'.1 1061 = g.1 1061 → g'.1 1063 = g.1 1063 → (∀ i, ¬ i = z → g'.1 1067 i = g.1 1067 i ∧ g'.1 1068 i = g.1 1068 i ∧ g'.1 1069 i = g.1 1069 i) → g'.1 1067 z = g.1 1067 z ||| bit p → g'.1 1068 z = (if g.1 1067 z = 0 then nI p else g.1 1068 z) → g'.1 1069 z = g.1 1069 z + 1 → kv g' e) :
    hin (nI z) 4 ∧ zbr ((g.1 1067 (nI z).toNatClampNeg) = 0)
      (hin (nI z) 4 ∧ hwv d zm_X8_burstAt kv X 148 [(0, .ref 1046), (1, .int (nI z)), (2, .int (nI p))] (sI g 1068 (nI z).toNatClampNeg (nI p)) e)
      (hwv d zm_X8_burstAt kv X 148 [(0, .ref 1046), (1, .int (nI z)), (2, .int (nI p))] g e) := by
  have hi : hin (nI z) 4 := nI_in hz4 (by omega)
  have ez : (nI z).toNatClampNeg = z := nI_clamp (by omega)
  rw [ez]
  refine ⟨hi, ⟨fun c => ⟨hi, zh_X8_burstAt_148 ⟨hi, hi, hi, hi, ?_⟩⟩, fun c => zh_X8_burstAt_148 ⟨hi, hi, hi, hi, ?_⟩⟩⟩
  · rintro _ rfl
    rw [ez]
    refine H _ (((fr.refl.I (by decide) (by decide)).I (by decide) (by decide)).I (by decide) (by decide)) rfl rfl rfl (fun i hi => ?_) ?_ ?_ ?_
    · simp [sI_r, upd, hi]
    · simp [sI_r, upd]; rfl
    · simp [sI_r, upd, c]
    · simp [sI_r, upd]
  · rintro _ rfl
    rw [ez]
    refine H _ ((fr.refl.I (by decide) (by decide)).I (by decide) (by decide)) rfl rfl rfl (fun i hi => ?_) ?_ ?_ ?_
    · simp [sI_r, upd, hi]
    · simp [sI_r, upd]; rfl
    · simp [sI_r, upd, c]
    · simp [sI_r, upd]
/-- both grips less, the place open, then its marks -/
theorem cm_burst_mid (hz4 : z < 4) (hm : mz g z s) (hs : sok s) {p : Nat} (hp : p < s.1) {b : Nat} (hb : b ≤ 9) {v : Int32} (hv : v = nI b) (H : ∀ g', fr dL [] g g' → oz z g g' → mz g' z (s.1, s.2.1, va_up s.2.2.1 p (s.2.2.1 p - b), va_up s.2.2.2.1 p (s.2.2.2.1 p - b), s.2.2.2.2.1 &&& (bit p ^^^ (-1)), s.2.2.2.2.2) → g'.1 1067 z = g.1 1067 z ||| bit p → g'.1 1068 z = (if g.1 1067 z = 0 then nI p else g.1 1068 z) → g'.1 1069 z = g.1 1069 z + 1 → kv g' e) :
    hin ((16 * (nI z)) + (nI p)) 64 ∧
      hci (d + 1) 2 [.int 0, .int ((g.1 1060 ((16 * (nI z)) + (nI p)).toNatClampNeg) - v)] g e (fun x6 g4 e5 =>
        hin ((16 * (nI z)) + (nI p)) 64 ∧
        hin ((16 * (nI z)) + (nI p)) 64 ∧
        hci (d + 1) 2 [.int 0, .int (((sI g4 1060 ((16 * (nI z)) + (nI p)).toNatClampNeg x6).1 1061 ((16 * (nI z)) + (nI p)).toNatClampNeg) - v)] (sI g4 1060 ((16 * (nI z)) + (nI p)).toNatClampNeg x6) e5 (fun x11 g9 e10 =>
          hin ((16 * (nI z)) + (nI p)) 64 ∧
          hin (nI z) 4 ∧
          hin (nI z) 4 ∧
          ∀ g15, g15 = sI (sI g9 1061 ((16 * (nI z)) + (nI p)).toNatClampNeg x11) 1063 (nI z).toNatClampNeg (((sI g9 1061 ((16 * (nI z)) + (nI p)).toNatClampNeg x11).1 1063 (nI z).toNatClampNeg) &&& ((1 <<< ((nI p) &&& 31)) ^^^ (-1))) →
          hin (nI z) 4 ∧
          zbr ((g15.1 1067 (nI z).toNatClampNeg) = 0)
          (hin (nI z) 4 ∧
            hwv (d + 1) zm_X8_burstAt kv X 148 [(0, .ref 1046), (1, .int (nI z)), (2, .int (nI p))] (sI g15 1068 (nI z).toNatClampNeg (nI p)) e10)
          (hwv (d + 1) zm_X8_burstAt kv X 148 [(0, .ref 1046), (1, .int (nI z)), (2, .int (nI p))] g15 e10)) X) X := by
  have hn := hs.1.2
  have hi : hin (nI (16 * z + p)) 64 := nI_in (by omega) (by omega)
  have hi4 : hin (nI z) 4 := nI_in hz4 (by omega)
  have e1 := hm.2.2.1 p (by omega)
  have e2 := hm.2.2.2.1 p (by omega)
  have a1 := hs.2.2.1 p
  have a2 := hs.2.2.2.1 p
  subst hv
  rw [ix16, nI_clamp (show 16 * z + p < 2 ^ 31 by omega), e1]
  refine ⟨hi, c_max ⟨hi, hi, ?_⟩⟩
  rw [imx_sub (by omega) (by omega), sI_off _ (by decide), e2]
  refine c_max ⟨hi, hi4, hi4, ?_⟩
  rw [imx_sub (by omega) (by omega), show (nI z).toNatClampNeg = z from nI_clamp (by omega)]
  rintro _ rfl
  have ez : (nI z).toNatClampNeg = z := nI_clamp (by omega)
  have := cm_burst_tail (d := d + 1) (kv := kv) (X := X) (e := e) (g := sI (sI (sI g 1060 (16 * z + p) (nI (s.2.2.1 p - b))) 1061 (16 * z + p) (nI (s.2.2.2.1 p - b))) 1063 z (((sI (sI g 1060 (16 * z + p) (nI (s.2.2.1 p - b))) 1061 (16 * z + p) (nI (s.2.2.2.1 p - b))).1 1063 z) &&& ((1 <<< ((nI p) &&& 31)) ^^^ (-1)))) hz4 (p := p) (by omega) ?_
  · rw [ez] at this
    exact this
  · intro g' f c1 c2 c3 c4 c5 c6 c7
    have f0 : fr dL [] g (sI (sI (sI g 1060 (16 * z + p) (nI (s.2.2.1 p - b))) 1061 (16 * z + p) (nI (s.2.2.2.1 p - b))) 1063 z (((sI (sI g 1060 (16 * z + p) (nI (s.2.2.1 p - b))) 1061 (16 * z + p) (nI (s.2.2.2.1 p - b))).1 1063 z) &&& ((1 <<< ((nI p) &&& 31)) ^^^ (-1)))) := ((fr.refl.I (by decide) (by decide)).I (by decide) (by decide)).I (by decide) (by decide)
    have g1 : g'.1 1060 = upd (g.1 1060) (16 * z + p) (nI (s.2.2.1 p - b)) := c1
    have g2 : g'.1 1061 = upd (g.1 1061) (16 * z + p) (nI (s.2.2.2.1 p - b)) := c2
    have g3 : g'.1 1063 = upd (g.1 1063) z (g.1 1063 z &&& ((1 <<< ((nI p) &&& 31)) ^^^ (-1))) := c3
    refine H g' (f0.trans f) ⟨fun i hi => ?_, fun i hi => ⟨?_, c4 i hi⟩⟩ ⟨?_, ?_, fun q hq => ?_, fun q hq => ?_, ?_, ?_⟩ c5 c6 c7
    · rw [g1, g2, upd_off _ _ (by omega), upd_off _ _ (by omega)]; exact ⟨rfl, rfl⟩
    · rw [g3, upd_off _ _ hi]
    · rw [(f0.trans f).1 1052 (by decide) (by decide)]; exact hm.1
    · rw [(f0.trans f).1 1051 (by decide) (by decide)]; exact hm.2.1
    · rw [g1]
      by_cases q1 : q = p
      · subst q1; rw [upd_at]; show _ = nI (va_up _ _ _ q); rw [va_up_at]
      · rw [upd_off _ _ (by omega)]; show _ = nI (va_up _ _ _ q); rw [va_up_off _ _ q1]; exact hm.2.2.1 q hq
    · rw [g2]
      by_cases q1 : q = p
      · subst q1; rw [upd_at]; show _ = nI (va_up _ _ _ q); rw [va_up_at]
      · rw [upd_off _ _ (by omega)]; show _ = nI (va_up _ _ _ q); rw [va_up_off _ _ q1]; exact hm.2.2.2.1 q hq
    · rw [g3, upd_at, hm.2.2.2.2.1]; rfl
    · rw [(f0.trans f).1 1062 (by decide) (by decide)]; exact hm.2.2.2.2.2
end
