section
variable {d : Nat} {k : Int32 → hG → hE → Prop} {kv : hG → hE → Prop} {X : Nat → hG → hE → Prop} {g : hG} {e : hE} {D a : Nat} {pl wl : List tk} {s : sZ}
theorem sday_fin {st day : Int32} (hn : s.1 ≤ 16) (h : (sday pl wl st day s).2.1 = 0) : (∀ q, q < s.1 → ¬ sfire pl s st day q) ∧ sday pl wl st day s = (s, 0, -1, false) := by
  have := sday_0 hn h
  exact ⟨this, sday_calm this⟩
/-- behind the rounds: a day on which nothing burst is kept in mind -/
theorem pass_fin (hD' : hD D) (ha : hT a = some hZ) {st : Nat} {day : Int32} {y : sD} (hs : sok y.1) (hr : drl g D pl wl) (hz : zrel (zg g a) y.1) (hh : hv pl y.1 (zg g a).2.2.2.2.2.2) (h31 : st < 2 ^ 31) (hy : y.2.1 = 0 → ∀ q, q < y.1.1 → ¬ sfire pl y.1 (nI st) day q) (hf : g.1 D 9 = y.2.2.1)
    (H : ∀ g', pf D a g g' → zrel (zg g' a) y.1 → hv pl y.1 (zg g' a).2.2.2.2.2.2 → g'.1 D 9 = y.2.2.1 → k y.2.1 g' e) :
    zbr (y.2.1 = 0)
      (hci (d + 3) 95 [.ref (D + 8)] g e (fun x3 g1 e2 =>
          zbr (x3 = 0)
          (hcv (d + 3) 111 [.ref a, .int (nI st)] g1 e2 (fun g4 e5 =>
              k y.2.1 g4 e5) X)
          (k y.2.1 g1 e2)) X)
      (k y.2.1 g e) := by
  obtain ⟨n0, -⟩ := hD_ne hD' ha
  refine ⟨fun c => ?_, fun c => H g pf.rfl' hz hh hf⟩
  refine zh_X4_asksForDay (hUD8 hD') ⟨by rw [hr.1.2.1]; exact bI_or _, ?_⟩
  rw [hr.1.2.1]
  cases q : hasday pl with
  | true => exact zbr_f (by decide) (H g pf.rfl' hz hh hf)
  | false =>
    refine zbr_t rfl (c_findHarmless ha ?_ h31)
    by_cases h32 : st < 32
    · rw [if_pos h32]
      refine H _ (pf_zp hD' ha _) (by rw [zg_zp]; exact hz) ?_ (by rw [zp1 _ _ _ n0]; exact hf)
      rw [zg_zp]
      intro i hi hb
      have hb : bt ((zg g a).2.2.2.2.2.2 ||| bit st) i = true := hb
      rw [bt_or, Bool.or_eq_true, bt_bit h32] at hb
      rcases hb with hb | hb
      · exact hh i hi hb
      · have hb : i = st := by simpa using hb
        subst hb
        refine ⟨q, fun day' p hp => ?_⟩
        intro z
        refine hy c p hp ⟨z.1, ?_⟩
        rw [spv_day (d2 := day') q]
        exact z.2
    · rw [if_neg h32]
      exact H g pf.rfl' hz hh hf
theorem pass_outer (hD' : hD D) (ha : hT a = some hZ) {st : Nat} {day : Int32} (h31 : st < 2 ^ 31) {y : sD} (hys : sok y.1) (hy : y.2.1 = 0 → ∀ q, q < y.1.1 → ¬ sfire pl y.1 (nI st) day q)
    (H : ∀ g', pf D a g g' → zrel (zg g' a) y.1 → hv pl y.1 (zg g' a).2.2.2.2.2.2 → g'.1 D 9 = y.2.2.1 → k y.2.1 g' e) :
    ∀ (j : Nat) (x : sD), j ≤ 17 → sok x.1 → sbo x → sdk pl wl (nI st) day j x = y → ∀ g', pf D a g g' → drl g' D pl wl → zrel (zg g' a) x.1 → hv pl x.1 (zg g' a).2.2.2.2.2.2 → g'.1 D 9 = x.2.2.1 →
      hwi (d + 3) zm_X2_pass k X 33 [(0, .ref D), (1, .ref a), (2, .int (nI st)), (3, .int day), (4, .int x.2.1), (5, .int 1), (6, .int (nI (17 - j)))] g' e := by
  intro j
  induction j with
  | zero =>
    intro x _ hs hb hx g' h1 hr hz hh hf
    obtain rfl : x = y := hx
    refine zh_X2_pass_33 hD' ha (zbr_f (by decide) (zbr_t (by decide) ?_))
    exact pass_fin hD' ha hys hr hz hh h31 hy hf (fun g2 p2 z2 m2 f2 => H g2 (h1.trans p2) z2 m2 f2)
  | succ j ih =>
    intro x hj hs hb hx g' h1 hr hz hh hf
    refine zh_X2_pass_33 hD' ha (zbr_f (by decide) (zbr_f (by rw [show (16 : Int32) = nI 16 from rfl]; exact nI_nlt (by omega) (by omega)) ?_))
    unfold sdk at hx
    refine pass_inner (g := g') (x0 := x) (pl := pl) (wl := wl) hD' ha hs hb ?_ 0 (Nat.zero_le _) g' pf.rfl' hr hz hh hf
    intro g2 p2 z2 m2 f2
    have hr2 := drl_pf hD' ha p2 hr
    have hs2 : sok (srnd pl wl (nI st) day x x.1.1).1 := sok_rnd hs _ (Nat.le_refl _)
    have hb2 := sbo_rnd (pl := pl) (wl := wl) (st := nI st) (day := day) hs.1.2 hb _ (Nat.le_refl _)
    rw [nI_1, show 17 - (j + 1) + 1 = 17 - j by omega]
    cases q : (srnd pl wl (nI st) day x x.1.1).2.2.2 with
    | true =>
      rw [if_pos q] at hx
      exact ih _ (by omega) hs2 hb2 hx g2 (h1.trans p2) hr2 z2 m2 f2
    | false =>
      rw [if_neg (by rw [q]; decide)] at hx
      rw [hx] at z2 m2 f2 ⊢
      refine zh_X2_pass_33 hD' ha (zbr_t rfl ?_)
      exact pass_fin hD' ha hys hr2 z2 m2 h31 hy f2 (fun g3 p3 z3 m3 f3 => H g3 ((h1.trans p2).trans p3) z3 m3 f3)
theorem c_pass (hD' : hD D) (ha : hT a = some hZ) (hz : zrel (zg g a) s) (hs : sok s) (hr : drl g D pl wl) (hh : hv pl s (zg g a).2.2.2.2.2.2) {st : Nat} (h31 : st < 2 ^ 31) {day : Int32}
    (H : ∀ g', pf D a g g' → zrel (zg g' a) (sday pl wl (nI st) day s).1 → hv pl (sday pl wl (nI st) day s).1 (zg g' a).2.2.2.2.2.2 → g'.1 D 9 = (sday pl wl (nI st) day s).2.2.1 → k (sday pl wl (nI st) day s).2.1 g' e) : hci (d + 4) 58 [.ref D, .ref a, .int (nI st), .int day] g e k X := by
  obtain ⟨n0, -⟩ := hD_ne hD' ha
  have na : ¬ a = D := fun z => n0 z.symm
  have p1 : pf D a g (sI g D 9 (-1)) := pf_first hD' _
  have z1 : zg (sI g D 9 (-1)) a = zg g a := zg_first na _
  have f1 : (sI g D 9 (-1)).1 D 9 = -1 := by show va_up g.1 D (upd (g.1 D) 9 (-1)) D 9 = _; rw [va_up_at, upd_at]
  have hr1 := drl_pf hD' ha p1 hr
  have hy : (sday pl wl (nI st) day s).2.1 = 0 → ∀ q, q < (sday pl wl (nI st) day s).1.1 → ¬ sfire pl (sday pl wl (nI st) day s).1 (nI st) day q := by
    intro h
    obtain ⟨h1, h2⟩ := sday_fin hs.1.2 h
    rw [h2]
    exact h1
  have calm : (∀ q, q < s.1 → ¬ sfire pl s (nI st) day q) → hwi (d + 3) zm_X2_pass k X 33 [(0, .ref D), (1, .ref a), (2, .int (nI st)), (3, .int day), (4, .int 0), (5, .int 0), (6, .int 0)] (sI g D 9 (-1)) e := by
    intro h
    have es := sday_calm (wl := wl) h
    rw [es] at H hy
    refine zh_X2_pass_33 hD' ha (zbr_t rfl ?_)
    exact pass_fin (y := (s, 0, -1, false)) hD' ha hs hr1 (by rw [z1]; exact hz) (by rw [z1]; exact hh) h31 hy f1 (fun g2 p2 z2 m2 f2 => H g2 (p1.trans p2) z2 m2 f2)
  refine zh_X2_pass hD' ha (c_closedBits ha ?_)
  rw [z1, hz.2.2.2.2.1]
  refine ⟨fun c => calm (fun q _ z => ?_), fun c => c_isHarmless ha h31 ?_⟩
  · have z := z.1
    rw [c, bt_zero] at z
    cases z
  rw [z1]
  cases q : (decide (st < 32) && bt (zg g a).2.2.2.2.2.2 st) with
  | true =>
    rw [Bool.and_eq_true] at q
    have q1 : st < 32 := by simpa using q.1
    exact zbr_f (by decide) (calm (fun p hp => (hh st q1 q.2).2 day p hp))
  | false =>
    refine zbr_t rfl ?_
    exact pass_outer (g := g) (y := sday pl wl (nI st) day s) hD' ha h31 (sok_day hs) hy H 17 (s, 0, -1, false) (Nat.le_refl _) hs (sbo_0 _ _ _) rfl _ p1 hr1 (by rw [z1]; exact hz) (by rw [z1]; exact hh) f1
/-- whether anything bursts by a strain, today -/
def sany (pl : List tk) (s : sZ) (st day : Int32) : Nat → Bool
  | 0 => false
  | p + 1 => sany pl s st day p || (bt s.2.2.2.2.1 p && decide (nI (sh s p) < spv pl s st day p))
theorem sany_f {st day : Int32} : ∀ {n : Nat}, sany pl s st day n = false ↔ ∀ q, q < n → ¬ sfire pl s st day q
  | 0 => ⟨fun _ q h => absurd h (by omega), fun _ => rfl⟩
  | n + 1 => by
    unfold sany
    rw [Bool.or_eq_false_iff, sany_f (n := n)]
    constructor
    · rintro ⟨h1, h2⟩ q hq
      by_cases e : q = n
      · subst e
        rintro ⟨z1, z2⟩
        rw [z1, decide_eq_true z2] at h2
        cases h2
      · exact h1 q (by omega)
    · intro h
      refine ⟨fun q hq => h q (by omega), ?_⟩
      have := h n (by omega)
      cases q1 : bt s.2.2.2.2.1 n with
      | false => rfl
      | true => rw [decide_eq_false (fun z => this ⟨q1, z⟩)]; rfl
theorem c_anyBursts (hD' : hD D) (ha : hT a = some hZ) (hz : zrel (zg g a) s) (hs : sok s) (hr : drl g D pl wl) {st : Int32} (H : ∀ g', pf D a g g' → zg g' a = zg g a → g'.1 D = g.1 D → k (bI (sany pl s st (g.1 D 8) s.1)) g' e) : hci (d + 4) 60 [.ref D, .ref a, .int st] g e k X := by
  have hn := hs.1.2
  refine zh_X2_anyBursts hD' ha ?_
  have : ∀ p, p ≤ s.1 → sany pl s st (g.1 D 8) p = false → ∀ g', pf D a g g' → zg g' a = zg g a → g'.1 D = g.1 D → hwi (d + 3) zm_X2_anyBursts k X 2 [(0, .ref D), (1, .ref a), (2, .int st), (3, .int (nI p))] g' e := by
    refine hdown ?_ ?_
    · intro hf g' h1 h2 h3
      refine zh_X2_anyBursts_2 hD' ha (c_size ha (zbr_t (by rw [h2, hz.1]; exact nI_le (Nat.le_refl _) (by omega)) ?_))
      have := H g' h1 h2 h3
      rw [hf] at this
      exact this
    · intro p hp W hf g' h1 h2 h3
      have hr' := drl_pf hD' ha h1 hr
      have hz' : zrel (zg g' a) s := by rw [h2]; exact hz
      rw [nI_succ] at W
      refine zh_X2_anyBursts_2 hD' ha (c_size ha (zbr_f (by rw [h2, hz.1]; exact nI_ge hp (by omega)) (c_isClosed ha (by omega) ?_)))
      rw [hz'.2.2.2.2.1]
      have hsn : sany pl s st (g.1 D 8) (p + 1) = (sany pl s st (g.1 D 8) p || (bt s.2.2.2.2.1 p && decide (nI (sh s p) < spv pl s st (g.1 D 8) p))) := rfl
      cases q : bt s.2.2.2.2.1 p with
      | false => exact zbr_t rfl (W (by rw [hsn, hf, q]; rfl) g' h1 h2 h3)
      | true =>
        refine zbr_f (by decide) ?_
        rw [h3]
        refine c_pullOn hD' ha hz' hs hp hr' (fun g2 p2 z2 d2 => c_hold ha ?_)
        rw [z2, zrel_hold hz' hs (by omega)]
        refine ⟨fun c => ?_, fun c => ?_⟩
        · exact W (by rw [hsn, hf, q, decide_eq_false (Int32.not_lt.mpr c)]; rfl) g2 (h1.trans p2) (z2.trans h2) (d2.trans h3)
        · have ht : sany pl s st (g.1 D 8) s.1 = true := by
            cases z : sany pl s st (g.1 D 8) s.1 with
            | true => rfl
            | false => exact absurd ⟨q, Int32.not_le.mp c⟩ (sany_f.mp z p hp)
          have := H g2 (h1.trans p2) (z2.trans h2) (d2.trans h3)
          rw [ht] at this
          exact this
  exact this 0 (Nat.zero_le _) rfl g pf.rfl' rfl rfl
end
