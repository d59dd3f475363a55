section
variable {d : Nat} {k : Int32 → hG → hE → Prop} {kv : hG → hE → Prop} {X : Nat → hG → hE → Prop} {g : hG} {e : hE} {pl wl : List tk} {s : sZ} {z : Nat}
theorem oz_fr {g g' : hG} (h : fr [1065, 1066] [] g g') : oz z g g' := by
  have q : ∀ b, ¬ b ∈ [1065, 1066] → ¬ b = 1046 → g'.1 b = g.1 b := h.1
  refine ⟨fun i _ => ?_, fun i _ => ?_⟩
  · rw [q 1060 (by decide) (by decide), q 1061 (by decide) (by decide)]; exact ⟨rfl, rfl⟩
  · rw [q 1063 (by decide) (by decide), q 1067 (by decide) (by decide), q 1068 (by decide) (by decide), q 1069 (by decide) (by decide)]; exact ⟨rfl, rfl, rfl, rfl⟩
theorem mz_fr {L F : List Nat} {g g' : hG} (h : fr L F g g') (h0 : ∀ b, b ∈ L → 1065 ≤ b) (hm : mz g z s) : mz g' z s := by
  have q : ∀ b, b < 1065 → ¬ b = 1046 → g'.1 b = g.1 b := fun b hb hn => h.1 b (fun z => by have := h0 b z; omega) hn
  exact mz_cg hm (q _ (by decide) (by decide)) (q _ (by decide) (by decide)) (q _ (by decide) (by decide)) (q _ (by decide) (by decide)) (q _ (by decide) (by decide)) (q _ (by decide) (by decide))
theorem cm_burstAt (hz4 : z < 4) (hm : mz g z s) (hs : sok s) {p : Nat} (hp : p < s.1) (hr : mrls g pl wl) {st : Int32} (hb : ∀ q, bt (g.1 1067 z) q = true → q < 16)
    (H : ∀ g', fr dL [] g g' → oz z g g' → mz g' z (sbst wl s st (g.1 1046 31) p (jbc (g.1 1067 z))) → g'.1 1067 z = g.1 1067 z ||| bit p → g'.1 1068 z = (if g.1 1067 z = 0 then nI p else g.1 1068 z) → g'.1 1069 z = g.1 1069 z + 1 → kv g' e) : hcv (d + 4) 263 [.ref 1046, .int (nI z), .int (nI p), .int st] g e kv X := by
  have hn := hs.1.2
  have ez : (nI z).toNatClampNeg = z := nI_clamp (by omega)
  have hi8 : hin (nI z) 8 := nI_in (by omega) (by omega)
  have hc1 := hs.2.1
  refine zh_X8_burstAt ?_
  rw [hr.1.2]
  have sub : ∀ b, b ∈ [1065, 1066] → b ∈ dL := by decide
  by_cases hl : wl = []
  · refine zbr_t (by rw [hl]; decide) ⟨hi8, ?_⟩
    rw [ez, hm.2.1]
    refine ⟨fun c => ?_, fun c => c_min (c_max ?_)⟩
    · have c : s.2.1 = 1 := (nI_eq (b := 1) (by omega) (by omega)).mp c
      have hm' := cm_burst_mid (d := d + 2) (kv := kv) (X := X) (e := e) hz4 hm hs hp (b := 0) (by omega) (v := 0) rfl (fun g' f o m a1 a2 a3 => H g' f o (by unfold sbst; rw [show sby wl s st (g.1 1046 31) p (jbc (g.1 1067 z)) = 0 by unfold sby; rw [if_pos c]]; exact m) a1 a2 a3)
      rw [ez] at hm'
      exact hm'
    · have c : ¬ s.2.1 = 1 := fun z => c (by rw [z]; rfl)
      have e1 := sby_nI (wl := wl) (st := st) (day := g.1 1046 31) (c := jbc (g.1 1067 z)) (p := p) c
      rw [if_pos hl] at e1
      rw [e1]
      have hm' := cm_burst_mid (d := d + 2) (kv := kv) (X := X) (e := e) hz4 hm hs hp sby_le (v := nI (sby wl s st (g.1 1046 31) p (jbc (g.1 1067 z)))) rfl (fun g' f o m a1 a2 a3 => H g' f o m a1 a2 a3)
      rw [ez] at hm'
      exact hm'
  · have hlen : 0 < wl.length := List.length_pos_iff.mpr hl
    obtain ⟨v, hv, ev⟩ := bits_nI (n := 16) (by omega) hb
    refine zbr_f (nI_nle hlen (by have := hr.2.2.2.2; omega)) ⟨nI_in hz4 (by omega), ?_⟩
    rw [ez, ev]
    refine c_bitsOf (by omega) ?_
    rw [← jbc_nI (by omega), ← ev]
    refine cm_ruleOf (show hT 1057 = some (.inl (0, 1400)) from rfl) (by decide) (by decide) (by decide) hr.2.1.2 (hr.2.2.1.2 hl) (by have := hr.2.2.2.2; omega) hz4 hm hs (by omega) (fun g2 f2 => ⟨hi8, ?_⟩)
    have m2 : mz g2 z s := mz_fr f2 (by decide) hm
    have b2 : g2.1 1067 = g.1 1067 := f2.1 _ (by decide) (by decide)
    have b3 : g2.1 1068 = g.1 1068 := f2.1 _ (by decide) (by decide)
    have b4 : g2.1 1069 = g.1 1069 := f2.1 _ (by decide) (by decide)
    have fin : ∀ g', fr dL [] g2 g' → oz z g2 g' → mz g' z (sbst wl s st (g.1 1046 31) p (jbc (g.1 1067 z))) → g'.1 1067 z = g2.1 1067 z ||| bit p → g'.1 1068 z = (if g2.1 1067 z = 0 then nI p else g2.1 1068 z) → g'.1 1069 z = g2.1 1069 z + 1 → kv g' e := by
      intro g' f o m a1 a2 a3
      rw [b2] at a1
      rw [b2, b3] at a2
      rw [b4] at a3
      exact H g' ((f2.sub sub (by decide)).trans f) ((oz_fr f2).trans o) m a1 a2 a3
    rw [m2.2.1]
    refine ⟨fun c => ?_, fun c => c_min (c_max ?_)⟩
    · have c : s.2.1 = 1 := (nI_eq (b := 1) (by omega) (by omega)).mp c
      have hm' := cm_burst_mid (d := d + 2) (kv := kv) (X := X) (e := e) hz4 m2 hs hp (b := 0) (by omega) (v := 0) rfl (fun g' f o m a1 a2 a3 => fin g' f o (by unfold sbst; rw [show sby wl s st (g.1 1046 31) p (jbc (g.1 1067 z)) = 0 by unfold sby; rw [if_pos c]]; exact m) a1 a2 a3)
      rw [ez] at hm'
      exact hm'
    · have c : ¬ s.2.1 = 1 := fun z => c (by rw [z]; rfl)
      have e1 := sby_nI (wl := wl) (st := st) (day := g.1 1046 31) (c := jbc (g.1 1067 z)) (p := p) c
      rw [if_neg hl] at e1
      rw [e1]
      have hm' := cm_burst_mid (d := d + 2) (kv := kv) (X := X) (e := e) hz4 m2 hs hp sby_le (v := nI (sby wl s st (g.1 1046 31) p (jbc (g.1 1067 z)))) rfl (fun g' f o m a1 a2 a3 => fin g' f o m a1 a2 a3)
      rw [ez] at hm'
      exact hm'
/-- the model's zip z on a day stands at x -/
def mx (g0 g : hG) (z : Nat) (x : sD) : Prop := mz g z x.1 ∧ g.1 1067 z = x.2.1 ∧ g.1 1068 z = x.2.2.1 ∧ g.1 1069 z = g0.1 1069 z + jbc x.2.1
theorem sstep_jbc {st day : Int32} {x : sD} {p : Nat} (hs : sok x.1) (hb : sbo x) (hp : p < x.1.1) (h : bt x.1.2.2.2.2.1 p = true ∧ nI (sh x.1 p) < spv pl x.1 st day p) : jbc (sstep pl wl st day x p).2.1 = jbc x.2.1 + 1 := by
  have hn := hs.1.2
  unfold sstep
  rw [if_pos h]
  refine jbc_or (fun q hq => by have := (hb q hq).1; omega) (by omega) ?_
  cases q : bt x.2.1 p with
  | false => rfl
  | true => have := (hb p q).2; rw [h.1] at this; cases this
theorem aday_inner (hz4 : z < 4) {g0 : hG} {st : Int32} {x0 : sD} (h0 : sok x0.1) (hb0 : sbo x0) (hr : mrls g pl wl)
    (K : ∀ g', fr dL [] g g' → oz z g g' → mx g0 g' z (srnd pl wl st (g.1 1046 31) x0 x0.1.1) → hwv (d + 4) zm_X8_aDayOf kv X 28 [(0, .ref 1046), (1, .int st), (2, .int (nI z)), (3, .int (bI (srnd pl wl st (g.1 1046 31) x0 x0.1.1).2.2.2))] g' e) :
    ∀ p, p ≤ x0.1.1 → ∀ g', fr dL [] g g' → oz z g g' → mx g0 g' z (srnd pl wl st (g.1 1046 31) x0 p) →
      hwv (d + 4) zm_X8_aDayOf kv X 37 [(0, .ref 1046), (1, .int st), (2, .int (nI z)), (3, .int (bI (srnd pl wl st (g.1 1046 31) x0 p).2.2.2)), (4, .int (nI p))] g' e := by
  have hn := h0.1.2
  have ez : (nI z).toNatClampNeg = z := nI_clamp (by omega)
  have hi8 : hin (nI z) 8 := nI_in (by omega) (by omega)
  have hi4 : hin (nI z) 4 := nI_in (by omega) (by omega)
  have sub : ∀ b, b ∈ [1065, 1066] → b ∈ dL := by decide
  refine hdown (W := fun p => ∀ g', fr dL [] g g' → oz z g g' → mx g0 g' z (srnd pl wl st (g.1 1046 31) x0 p) →
      hwv (d + 4) zm_X8_aDayOf kv X 37 [(0, .ref 1046), (1, .int st), (2, .int (nI z)), (3, .int (bI (srnd pl wl st (g.1 1046 31) x0 p).2.2.2)), (4, .int (nI p))] g' e) ?_ ?_
  · intro g' f o m
    refine zh_X8_aDayOf_37 ⟨hi8, zbr_t ?_ (K g' f o m)⟩
    rw [ez, m.1.1, srnd_n]
    exact nI_le (Nat.le_refl _) (by omega)
  · intro p hp W g' f o m
    have hs : sok (srnd pl wl st (g.1 1046 31) x0 p).1 := sok_rnd h0 p (by omega)
    have hpn : p < (srnd pl wl st (g.1 1046 31) x0 p).1.1 := by rw [srnd_n]; exact hp
    have hbo := sbo_rnd (pl := pl) (wl := wl) (st := st) (day := g.1 1046 31) hn hb0 p (by omega)
    rw [nI_succ] at W
    have hst : srnd pl wl st (g.1 1046 31) x0 (p + 1) = sstep pl wl st (g.1 1046 31) (srnd pl wl st (g.1 1046 31) x0 p) p := rfl
    rw [hst] at W
    revert W m hs hpn hbo
    generalize srnd pl wl st (g.1 1046 31) x0 p = x
    intro W m hs hpn hbo
    have hx16 := hs.1.2
    have hr' : mrls g' pl wl := mrls_fr f (by decide) (by decide) (by decide) hr
    have hd' : g'.1 1046 31 = g.1 1046 31 := f.2.1 31 (by decide)
    refine zh_X8_aDayOf_37 ⟨hi8, zbr_f ?_ ⟨hi4, ?_⟩⟩
    · rw [ez, m.1.1]; exact nI_ge hpn (by omega)
    rw [ez, m.1.2.2.2.2.1]
    refine cm_isOf (by omega) ?_
    cases q : bt x.1.2.2.2.2.1 p with
    | false =>
      have es : sstep pl wl st (g.1 1046 31) x p = x := if_neg (fun z => by rw [q] at z; cases z.1)
      rw [es] at W
      exact zbr_t rfl (W g' f o m)
    | true =>
      refine zbr_f (by decide) (cm_wouldBurst hz4 m.1 hs hpn hr' (fun g2 f2 => ?_))
      rw [hd']
      have f2' : fr dL [] g' g2 := f2.sub sub (by decide)
      have o2 := oz_fr (z := z) f2
      have m2 : mz g2 z x.1 := mz_fr f2 (by decide) m.1
      have b2 : g2.1 1067 = g'.1 1067 := f2.1 _ (by decide) (by decide)
      have b3 : g2.1 1068 = g'.1 1068 := f2.1 _ (by decide) (by decide)
      have b4 : g2.1 1069 = g'.1 1069 := f2.1 _ (by decide) (by decide)
      by_cases c : nI (sh x.1 p) < spv pl x.1 st (g.1 1046 31) p
      · rw [decide_eq_true c]
        have ej := sstep_jbc (pl := pl) (wl := wl) hs hbo hpn ⟨q, c⟩
        have es : sstep pl wl st (g.1 1046 31) x p = (sbst wl x.1 st (g.1 1046 31) p (jbc x.2.1), x.2.1 ||| bit p, if x.2.1 = 0 then nI p else x.2.2.1, true) := if_pos ⟨q, c⟩
        rw [es] at W ej
        have hd2 : g2.1 1046 31 = g.1 1046 31 := (f2.2.1 31 (by decide)).trans hd'
        refine zbr_f (by decide) (cm_burstAt hz4 m2 hs hpn (mrls_fr f2' (by decide) (by decide) (by decide) hr') ?_ (fun g3 f3 o3 m3 a1 a2 a3 => ?_))
        · intro q hq
          rw [b2, m.2.1] at hq
          have := (hbo q hq).1
          omega
        · rw [hd2, b2, m.2.1] at m3
          rw [b2, m.2.1] at a1
          rw [b2, b3, m.2.1, m.2.2.1] at a2
          rw [b4, m.2.2.2] at a3
          refine W g3 ((f.trans f2').trans f3) ((o.trans o2).trans o3) ⟨m3, a1, a2, ?_⟩
          rw [a3]
          show _ = g0.1 1069 z + jbc (x.2.1 ||| bit p)
          rw [show jbc (x.2.1 ||| bit p) = jbc x.2.1 + 1 from ej, Int32.add_assoc]
      · rw [decide_eq_false c]
        have es : sstep pl wl st (g.1 1046 31) x p = x := if_neg (fun z => c z.2)
        rw [es] at W
        exact zbr_t rfl (W g2 (f.trans f2') (o.trans o2) ⟨m2, by rw [b2]; exact m.2.1, by rw [b3]; exact m.2.2.1, by rw [b4]; exact m.2.2.2⟩)
theorem aday_outer (hz4 : z < 4) {g0 : hG} {st : Int32} {y : sD} (hr : mrls g pl wl)
    (K : ∀ g', fr dL [] g g' → oz z g g' → mx g0 g' z y → hwv (d + 4) zm_X8_aDayOf kv X 2 [(0, .ref 1046), (1, .int st), (2, .int (nI z + 1))] g' e) :
    ∀ (m : Nat) (x : sD), sok x.1 → sbo x → cl x.1.2.2.2.2.1 x.1.1 ≤ m → sdk pl wl st (g.1 1046 31) (m + 1) x = y → ∀ g', fr dL [] g g' → oz z g g' → mx g0 g' z x →
      hwv (d + 4) zm_X8_aDayOf kv X 28 [(0, .ref 1046), (1, .int st), (2, .int (nI z)), (3, .int 1)] g' e := by
  intro m
  induction m with
  | zero =>
    intro x hs hb hc hy g' f o hm
    have h := (srnd_cl (pl := pl) (wl := wl) (st := st) (day := g.1 1046 31) hs.1.2 x.1.1 (Nat.le_refl _)).2
    have hf : ¬ (srnd pl wl st (g.1 1046 31) x x.1.1).2.2.2 = true := fun z => by have := h z; omega
    have hd' : g'.1 1046 31 = g.1 1046 31 := f.2.1 31 (by decide)
    refine zh_X8_aDayOf_28 (zbr_f (by decide) ?_)
    refine aday_inner (g := g') (g0 := g0) hz4 hs hb (mrls_fr f (by decide) (by decide) (by decide) hr) (fun g2 f2 o2 m2 => ?_) 0 (Nat.zero_le _) g' fr.refl oz.refl hm
    rw [hd'] at m2 ⊢
    unfold sdk at hy
    rw [if_neg hf] at hy
    rw [hy] at m2 hf ⊢
    rw [show y.2.2.2 = false by cases q : y.2.2.2; rfl; exact absurd q hf]
    exact zh_X8_aDayOf_28 (zbr_t rfl (K g2 (f.trans f2) (o.trans o2) m2))
  | succ m ih =>
    intro x hs hb hc hy g' f o hm
    have h := (srnd_cl (pl := pl) (wl := wl) (st := st) (day := g.1 1046 31) hs.1.2 x.1.1 (Nat.le_refl _)).2
    have hd' : g'.1 1046 31 = g.1 1046 31 := f.2.1 31 (by decide)
    refine zh_X8_aDayOf_28 (zbr_f (by decide) ?_)
    refine aday_inner (g := g') (g0 := g0) hz4 hs hb (mrls_fr f (by decide) (by decide) (by decide) hr) (fun g2 f2 o2 m2 => ?_) 0 (Nat.zero_le _) g' fr.refl oz.refl hm
    rw [hd'] at m2 ⊢
    unfold sdk at hy
    cases q : (srnd pl wl st (g.1 1046 31) x x.1.1).2.2.2 with
    | true =>
      rw [if_pos q] at hy
      have := h q
      exact ih _ (sok_rnd hs _ (Nat.le_refl _)) (sbo_rnd hs.1.2 hb _ (Nat.le_refl _)) (by rw [srnd_n]; omega) hy g2 (f.trans f2) (o.trans o2) m2
    | false =>
      rw [if_neg (by rw [q]; decide)] at hy
      rw [hy] at m2
      exact zh_X8_aDayOf_28 (zbr_t rfl (K g2 (f.trans f2) (o.trans o2) m2))
end
