/-! ZIP: runs, the lowest of the longest, the weakest, what it bears -/
def lowb (Y : Int32) : Nat → Int32
  | 0 => 0
  | p + 1 => if bt Y p = true then lowb Y p ||| bit p else lowb Y p
theorem lowb_bt (Y : Int32) : ∀ n, n ≤ 32 → ∀ q, bt (lowb Y n) q = (decide (q < n) && bt Y q)
  | 0, _, q => by show bt 0 q = _; rw [bt_zero]; simp
  | n + 1, hn, q => by
    have ih := lowb_bt Y n (by omega) q
    unfold lowb
    by_cases c : bt Y n = true
    · rw [if_pos c, bt_or, ih, bt_bit (by omega)]
      by_cases e : q = n
      · subst e; simp [c]
      · simp [e, show (q < n + 1) = (q < n) by apply propext; omega]
    · rw [if_neg c, ih]
      by_cases e : q = n
      · subst e; simp [c]
      · simp [show (q < n + 1) = (q < n) by apply propext; omega]
theorem lowb_jbc (Y : Int32) : ∀ n, n ≤ 16 → jbc (lowb Y n) = nI (cl Y n)
  | 0, _ => by show jbc 0 = nI 0; decide
  | n + 1, hn => by
    have ih := lowb_jbc Y n (by omega)
    unfold lowb cl
    by_cases c : bt Y n = true
    · rw [if_pos c, if_pos c, jbc_or (fun q hq => by rw [lowb_bt Y n (by omega), Bool.and_eq_true] at hq; have := of_decide_eq_true hq.1; omega) (by omega) (by rw [lowb_bt Y n (by omega)]; simp), ih, nI_1]
    · rw [if_neg c, if_neg c, ih]; rfl
theorem jbc_cl {Y : Int32} (h : ∀ q, bt Y q = true → q < 16) : jbc Y = nI (cl Y 16) := by
  have : lowb Y 16 = Y := bt_ext (fun p hp => by
    rw [lowb_bt Y 16 (by omega)]
    cases c : bt Y p with
    | false => simp
    | true => rw [decide_eq_true (h p c)]; rfl)
  rw [← lowb_jbc Y 16 (Nat.le_refl _), this]
theorem cl_hi {Y : Int32} {n : Nat} (h : ∀ q, n ≤ q → bt Y q = false) : ∀ j, cl Y (n + j) = cl Y n
  | 0 => rfl
  | j + 1 => by
    have e := h (n + j) (by omega)
    show cl Y (n + j) + (if bt Y (n + j) = true then 1 else 0) = _
    rw [cl_hi h j, e]
    rfl
theorem bt_shlC (C : Int32) (q : Nat) : bt (C <<< ((1 : Int32) &&& 31)) q = (decide (0 < q) && decide (q < 32) && bt C (q - 1)) := by
  have e := sm_eq 1 (by omega)
  unfold bt
  rw [Int32.toBitVec_shiftLeft]
  show (BitVec.shiftLeft _ ((nI 1 &&& 31).toBitVec.smod 32).toNat).getLsbD q = _
  rw [e]
  show (C.toBitVec <<< 1).getLsbD q = _
  rw [BitVec.getLsbD_shiftLeft]
  by_cases h : q < 32
  · by_cases h0 : q = 0
    · subst h0; simp
    · simp [h, show 0 < q by omega, show ¬ q < 1 by omega]
  · simp [h]
/-- how many runs -/
def srun (C : Int32) : Nat → Nat
  | 0 => 0
  | p + 1 => srun C p + (if bt C p = true ∧ (p = 0 ∨ bt C (p - 1) = false) then 1 else 0)
theorem bt_run (C : Int32) {q : Nat} (hq : q < 32) : (bt (C &&& ((C <<< ((1 : Int32) &&& 31)) ^^^ (-1))) q = true) ↔ (bt C q = true ∧ (q = 0 ∨ bt C (q - 1) = false)) := by
  rw [bt_and, bt_not _ hq, bt_shlC, Bool.and_eq_true]
  by_cases h0 : q = 0
  · subst h0; simp
  · simp [h0, hq, show 0 < q by omega]
theorem srun_cl (C : Int32) : ∀ n, n ≤ 32 → srun C n = cl (C &&& ((C <<< ((1 : Int32) &&& 31)) ^^^ (-1))) n
  | 0, _ => rfl
  | n + 1, hn => by
    unfold srun cl
    rw [srun_cl C n (by omega)]
    congr 1
    by_cases c : bt C n = true ∧ (n = 0 ∨ bt C (n - 1) = false)
    · rw [if_pos c, if_pos ((bt_run C (by omega)).mpr c)]
    · rw [if_neg c, if_neg (fun z => c ((bt_run C (by omega)).mp z))]
theorem srun_jbc {C : Int32} {n : Nat} (hn : n ≤ 16) (h : ∀ q, bt C q = true → q < n) : jbc (C &&& ((C <<< ((1 : Int32) &&& 31)) ^^^ (-1))) = nI (srun C n) := by
  rw [jbc_cl (fun q hq => by rw [bt_and, Bool.and_eq_true] at hq; have := h q hq.1; omega), srun_cl C n (by omega)]
  have : ∀ q, n ≤ q → bt (C &&& ((C <<< ((1 : Int32) &&& 31)) ^^^ (-1))) q = false := fun q hq => by
    rw [bt_and]
    cases c : bt C q with
    | false => rfl
    | true => have := h q c; omega
  rw [show 16 = n + (16 - n) by omega, cl_hi this]
/-- longest runs in numbers -/
def nlr (C : Int32) : Nat → Nat × Nat
  | 0 => (0, 0)
  | p + 1 => (max (nlr C p).1 (if bt C p then (nlr C p).2 + 1 else 0), if bt C p then (nlr C p).2 + 1 else 0)
theorem nlr_le (C : Int32) : ∀ p, (nlr C p).1 ≤ p ∧ (nlr C p).2 ≤ p
  | 0 => ⟨Nat.le_refl _, Nat.le_refl _⟩
  | p + 1 => by
    obtain ⟨a, b⟩ := nlr_le C p
    unfold nlr
    cases bt C p <;> simp <;> omega
theorem zlr_n (C : Int32) : ∀ p, p ≤ 16 → zlr C p = (nI (nlr C p).1, nI (nlr C p).2)
  | 0, _ => rfl
  | p + 1, hp => by
    have ih := zlr_n C p (by omega)
    obtain ⟨a, b⟩ := nlr_le C p
    unfold zlr nlr
    rw [ih]
    cases bt C p with
    | false =>
      refine Prod.ext ?_ rfl
      show imx (nI (nlr C p).1) (nI 0) = nI (max (nlr C p).1 0)
      unfold imx
      rw [if_neg (nI_nlt (by omega) (by omega)), Nat.max_eq_left (by omega)]
    | true =>
      refine Prod.ext ?_ (nI_1 _)
      show imx (nI (nlr C p).1) (nI (nlr C p).2 + 1) = nI (max (nlr C p).1 ((nlr C p).2 + 1))
      rw [nI_1]
      unfold imx
      by_cases c : (nlr C p).1 < (nlr C p).2 + 1
      · rw [if_pos (nI_lt c (by omega)), Nat.max_eq_right (by omega)]
      · rw [if_neg (nI_nlt (by omega) (by omega)), Nat.max_eq_left (by omega)]
theorem nlr_mono (C : Int32) (p : Nat) : ∀ j, (nlr C p).1 ≤ (nlr C (p + j)).1
  | 0 => Nat.le_refl _
  | j + 1 => Nat.le_trans (nlr_mono C p j) (Nat.le_max_left _ _)
theorem nlr_run (C : Int32) (p : Nat) : (nlr C (p + 1)).2 ≤ (nlr C (p + 1)).1 := by show _ ≤ max _ _; exact Nat.le_max_right _ _
theorem nlr_best (C : Int32) (p : Nat) : (nlr C (p + 1)).1 = max (nlr C p).1 (nlr C (p + 1)).2 := rfl
theorem mlr_n (C : Int32) {p : Nat} (hp : p ≤ 16) : (mlr C p).1 = nI (nlr C p).1 ∧ (mlr C p).2.2 = nI (nlr C p).2 := by
  rw [(mlr_zlr C p).1, (mlr_zlr C p).2, zlr_n C p hp]
  exact ⟨rfl, rfl⟩
theorem mlr_low (C : Int32) {p : Nat} (hp : p < 16) : (mlr C (p + 1)).2.1 = if (nlr C p).1 < (nlr C (p + 1)).2 then nI p - nI (nlr C (p + 1)).2 + 1 else (mlr C p).2.1 := by
  obtain ⟨a, b⟩ := mlr_n C (show p ≤ 16 by omega)
  obtain ⟨l1, l2⟩ := nlr_le C p
  have e : (if bt C p then (mlr C p).2.2 + 1 else 0) = nI (nlr C (p + 1)).2 := by
    rw [b]
    show _ = nI (if bt C p then (nlr C p).2 + 1 else 0)
    cases bt C p with
    | false => rfl
    | true => exact nI_1 _
  have l3 := (nlr_le C (p + 1)).2
  show (if (mlr C p).1 < (if bt C p then (mlr C p).2.2 + 1 else 0) then (if bt C p then (mlr C p).2.2 + 1 else 0, nI p - (if bt C p then (mlr C p).2.2 + 1 else 0) + 1, if bt C p then (mlr C p).2.2 + 1 else 0) else ((mlr C p).1, (mlr C p).2.1, if bt C p then (mlr C p).2.2 + 1 else 0) : Int32 × Int32 × Int32).2.1 = _
  rw [e, a]
  by_cases c : (nlr C p).1 < (nlr C (p + 1)).2
  · rw [if_pos c, if_pos (nI_lt c (by omega))]
  · rw [if_neg c, if_neg (nI_nlt (by omega) (by omega))]
theorem mlr_stay (C : Int32) {p : Nat} : ∀ j, p + j ≤ 16 → (nlr C (p + j)).1 = (nlr C p).1 → (mlr C (p + j)).2.1 = (mlr C p).2.1
  | 0, _, _ => rfl
  | j + 1, hj, h => by
    have m1 := nlr_mono C p j
    have m2 := nlr_mono C (p + j) 1
    have e : (nlr C (p + j)).1 = (nlr C p).1 := by rw [show p + (j + 1) = p + j + 1 from rfl] at h; omega
    have := nlr_run C (p + j)
    rw [show p + (j + 1) = p + j + 1 from rfl] at h ⊢
    rw [mlr_low C (by omega), if_neg (by omega)]
    exact mlr_stay C j (by omega) e
theorem zlw_mlr (C : Int32) {n : Nat} (hn : n ≤ 16) : zlw C (zlr C n).1 n n = (mlr C n).2.1 := by
  have eL : (zlr C n).1 = nI (nlr C n).1 := by rw [zlr_n C n hn]
  obtain ⟨ln, -⟩ := nlr_le C n
  rw [eL]
  by_cases h0 : (nlr C n).1 = 0
  · have st : (mlr C (0 + n)).2.1 = (mlr C 0).2.1 := mlr_stay C n (by omega) (by rw [Nat.zero_add, h0]; rfl)
    rw [Nat.zero_add] at st
    rw [st]
    have : ∀ j, j ≤ n → zlw C (nI (nlr C n).1) n j = -1 := by
      intro j
      induction j with
      | zero => intro _; rfl
      | succ j ih =>
        intro hj
        have e : (nlr C (n - (j + 1) + 1)).2 = 0 := by
          have a := nlr_run C (n - (j + 1))
          have b := nlr_mono C (n - (j + 1) + 1) j
          rw [show n - (j + 1) + 1 + j = n by omega] at b
          omega
        unfold zlw
        rw [zlr_n C _ (by omega)]
        show (if nI (nlr C (n - (j + 1) + 1)).2 ≤ 0 then _ else _) = _
        rw [e, if_pos (by decide)]
        exact ih (by omega)
    exact this n (Nat.le_refl _)
  · have : ∀ p, p ≤ n → (nlr C p).1 < (nlr C n).1 → zlw C (nI (nlr C n).1) n (n - p) = (mlr C n).2.1 := by
      refine hdown (fun h => absurd h (Nat.lt_irrefl _)) ?_
      intro p hp W h
      have b := nlr_mono C (p + 1) (n - (p + 1))
      rw [show p + 1 + (n - (p + 1)) = n by omega] at b
      have r := nlr_run C p
      have bb := nlr_best C p
      have lr := (nlr_le C (p + 1)).2
      rw [show n - p = (n - (p + 1)) + 1 by omega]
      unfold zlw
      rw [show n - (n - (p + 1) + 1) = p by omega, zlr_n C (p + 1) (by omega)]
      show (if nI (nlr C (p + 1)).2 ≤ 0 then _ else if nI (nlr C (p + 1)).2 = nI (nlr C n).1 then nI p - nI (nlr C (p + 1)).2 + 1 else _) = _
      by_cases c0 : (nlr C (p + 1)).2 = 0
      · rw [if_pos (by rw [c0]; decide)]
        exact W (by omega)
      · rw [if_neg (by rw [show (0 : Int32) = nI 0 from rfl]; exact nI_ge (by omega) (by omega))]
        by_cases c1 : (nlr C (p + 1)).2 = (nlr C n).1
        · rw [if_pos (by rw [c1])]
          have st := mlr_stay C (p := p + 1) (n - (p + 1)) (by omega) (by rw [show p + 1 + (n - (p + 1)) = n by omega]; omega)
          rw [show p + 1 + (n - (p + 1)) = n by omega] at st
          rw [st, mlr_low C (by omega), if_pos (by omega)]
        · rw [if_neg (fun z => c1 ((nI_eq (by omega) (by omega)).mp z))]
          exact W (by omega)
    have := this 0 (Nat.zero_le _) (by show 0 < _; omega)
    exact this
/-- the weakest -/
def swk (s : sZ) : Nat → Int32 × Nat
  | 0 => (-1, 10)
  | p + 1 => if bt s.2.2.2.2.1 p = true ∧ sh s p < (swk s p).2 then (nI p, sh s p) else swk s p
theorem swk_in {s : sZ} : ∀ p, ((swk s p).1 = -1 ∧ (swk s p).2 = 10) ∨ ∃ q, q < p ∧ (swk s p).1 = nI q ∧ (swk s p).2 = sh s q
  | 0 => .inl ⟨rfl, rfl⟩
  | p + 1 => by
    unfold swk
    split
    · exact .inr ⟨p, by omega, rfl, rfl⟩
    · rcases swk_in (s := s) p with h | ⟨q, h1, h2⟩
      · exact .inl h
      · exact .inr ⟨q, by omega, h2⟩
theorem sh_le {s : sZ} (hs : sok s) (p : Nat) : sh s p ≤ 9 := by have := hs.2.2.1 p; unfold sh; omega
theorem swk_le {s : sZ} (hs : sok s) (p : Nat) : (swk s p).2 ≤ 10 := by
  rcases swk_in (s := s) p with h | ⟨q, _, _, h⟩
  · omega
  · have := sh_le hs q; omega
theorem zwk_swk {z : cZ} {s : sZ} (h : zrel z s) (hs : sok s) : ∀ p, p ≤ 16 → zwk z p = ((swk s p).1, nI (swk s p).2)
  | 0, _ => rfl
  | p + 1, hp => by
    have ih := zwk_swk h hs p (by omega)
    have l1 := swk_le hs p
    have l2 := sh_le hs p
    unfold zwk swk
    rw [ih, zrel_hold h hs (by omega), h.2.2.2.2.1]
    by_cases c : bt s.2.2.2.2.1 p = true ∧ sh s p < (swk s p).2
    · rw [if_pos c, if_pos ⟨c.1, nI_ge c.2 (by omega)⟩]
    · rw [if_neg c]
      refine if_neg (fun z => c ⟨z.1, ?_⟩)
      apply Nat.lt_of_not_le
      intro q
      exact z.2 (nI_le q (by omega))
/-- what it bears -/
def v_be (x : sX) (s : sZ) : Nat → Nat → Int32
  | 0, _ => 99
  | m + 1, j => if sany x.2.2.2.1 s (nI j) (nI x.2.2.2.2.2) s.1 = true then nI j - 1 else v_be x s m (j + 1)
def v_zip (x : sX) (s : sZ) (w : Nat) : Int32 := match w with
  | 0 => nI s.1
  | 1 => nI s.2.2.2.2.2
  | 2 => s.2.2.2.2.1
  | 3 => shb s s.1
  | 4 => nI s.2.1
  | 5 => nI (srun s.2.2.2.2.1 s.1)
  | 6 => (zlr s.2.2.2.2.1 s.1).1
  | 7 => (mlr s.2.2.2.2.1 s.1).2.1
  | 8 => (swk s s.1).1
  | _ => v_be x s 100 0
def o_zip (x : sX) (z w : Int32) : rs := if iszb x.1 z && iszb 10 w then .inl (v_zip x (x.2.1 z.toNatClampNeg) w.toNatClampNeg) else .inr 1
theorem o_zip_y {x : sX} {i w : Nat} (h4 : x.1 ≤ 4) (hi : i < x.1) (hw : w < 10) : o_zip x (nI i) (nI w) = .inl (v_zip x (x.2.1 i) w) := by
  unfold o_zip
  rw [iszb_t (by omega) hi, iszb_t (by omega) hw, nI_clamp (by omega), nI_clamp (by omega)]
  rfl
section
variable {d : Nat} {k : Int32 → hG → hE → Prop} {kv : hG → hE → Prop} {X : Nat → hG → hE → Prop} {g : hG} {e : hE} {D a : Nat} {x : sX} {pl wl : List tk} {s : sZ}
theorem c_pullOnB (hD' : hD D) (ha : hT a = some hZ) (hz : zrel (zg g a) s) (hs : sok s) {p : Nat} (hp : p < s.1) (hr : drl g D pl wl) {st day : Int32} (H : ∀ g', pf D 1038 g g' → zg g' a = zg g a → g'.1 D = g.1 D → k (spv pl s st day p) g' e) : hci (d + 3) 61 [.ref D, .ref a, .int (nI p), .int st, .int day] g e k X := by
  have hn := hs.1.2
  obtain ⟨n0, n6, n7, n8, n9, n10, n11⟩ := hD_ne hD' ha
  obtain ⟨⟨r1, r2, r3⟩, -⟩ := hr
  refine zh_X2_pullOn hD' ha (c_openBeside ha hz.1 hn hp ?_)
  rw [zrel_beside hz]
  refine zh_X4_isTold (hUD8 hD') ⟨by rw [r1]; split <;> decide, ?_⟩
  rw [r1]
  by_cases hl : pl = []
  · rw [if_pos hl]
    refine zbr_t rfl (c_min (c_max ?_))
    have := H g pf.rfl' rfl rfl
    unfold spv at this
    rw [if_pos hl] at this
    exact this
  · rw [if_neg hl]
    refine zbr_f (by decide) (c_hold ha ?_)
    rw [zrel_hold hz hs (by omega)]
    refine c_value (hUD8 hD') (hD_us hD').1.symm (r3 hl).1 (r3 hl).2 (fun f => c_min (c_max ?_))
    have := H (aI g (D + 8 + 1) f) (pf_stk hD' (Or.inl rfl) f) (zg_stk (fun z => n9 z.symm) f) (aI_off _ _ (by omega))
    unfold spv at this
    rw [if_neg hl] at this
    exact this
theorem c_anyBurstsB (hD' : hD D) (ha : hT a = some hZ) (hz : zrel (zg g a) s) (hs : sok s) (hr : drl g D pl wl) {st : Int32} (H : ∀ g', pf D 1038 g g' → zg g' a = zg g a → g'.1 D = g.1 D → k (bI (sany pl s st (g.1 D 8) s.1)) g' e) : hci (d + 4) 60 [.ref D, .ref a, .int st] g e k X := by
  have hn := hs.1.2
  refine zh_X2_anyBursts hD' ha ?_
  have : ∀ p, p ≤ s.1 → sany pl s st (g.1 D 8) p = false → ∀ g', pf D 1038 g g' → zg g' a = zg g a → g'.1 D = g.1 D → hwi (d + 3) zm_X2_anyBursts k X 2 [(0, .ref D), (1, .ref a), (2, .int st), (3, .int (nI p))] g' e := by
    refine hdown ?_ ?_
    · intro hf g' h1 h2 h3
      refine zh_X2_anyBursts_2 hD' ha (c_size ha (zbr_t (by rw [h2, hz.1]; exact nI_le (Nat.le_refl _) (by omega)) ?_))
      have := H g' h1 h2 h3
      rw [hf] at this
      exact this
    · intro p hp W hf g' h1 h2 h3
      have hr' := drl_pf hD' (show hT 1038 = some hZ from rfl) h1 hr
      have hz' : zrel (zg g' a) s := by rw [h2]; exact hz
      rw [nI_succ] at W
      refine zh_X2_anyBursts_2 hD' ha (c_size ha (zbr_f (by rw [h2, hz.1]; exact nI_ge hp (by omega)) (c_isClosed ha (by omega) ?_)))
      rw [hz'.2.2.2.2.1]
      have hsn : sany pl s st (g.1 D 8) (p + 1) = (sany pl s st (g.1 D 8) p || (bt s.2.2.2.2.1 p && decide (nI (sh s p) < spv pl s st (g.1 D 8) p))) := rfl
      cases q : bt s.2.2.2.2.1 p with
      | false => exact zbr_t rfl (W (by rw [hsn, hf, q]; rfl) g' h1 h2 h3)
      | true =>
        refine zbr_f (by decide) ?_
        rw [h3]
        refine c_pullOnB hD' ha hz' hs hp hr' (fun g2 p2 z2 d2 => c_hold ha ?_)
        rw [z2, zrel_hold hz' hs (by omega)]
        refine ⟨fun c => ?_, fun c => ?_⟩
        · exact W (by rw [hsn, hf, q, decide_eq_false (Int32.not_lt.mpr c)]; rfl) g2 (h1.trans p2) (z2.trans h2) (d2.trans h3)
        · have ht : sany pl s st (g.1 D 8) s.1 = true := by
            cases z : sany pl s st (g.1 D 8) s.1 with
            | true => rfl
            | false => exact absurd ⟨q, Int32.not_le.mp c⟩ (sany_f.mp z p hp)
          have := H g2 (h1.trans p2) (z2.trans h2) (d2.trans h3)
          rw [ht] at this
          exact this
  exact this 0 (Nat.zero_le _) rfl g pf.rfl' rfl rfl
theorem cq_zip (hc : cdr g D x) (hr : hrm e) {z w : Int32} (H : ∀ g', qf D g g' → oc (o_zip x z w) k X g' e) : hci (d + 7) 150 [.ref 1000, .int z, .int w] g e k X := by
  have h4 := hc.2.1.2
  refine zh_X7_zip (c_theZip hc hr (fun i hi hz => ⟨hT_zip hc.1.1 (by omega), ?_⟩) (fun h => oc_r (H g qf.refl) (by unfold o_zip; rw [iszb_f (by omega) h]; rfl)))
  subst hz
  have hci := hc.2.2.1 i hi
  have ha := hT_zip (D := D) hc.1.1 (show i < 4 by omega)
  obtain ⟨n1, n2⟩ := ct_n hci
  have hs := hci.2.1
  by_cases hw : isz 10 w
  · obtain ⟨m, hm, rfl⟩ := hw
    have hv := o_zip_y h4 hi hm
    have fin : ∀ u, u = v_zip x (x.2.1 i) m → k u g e := fun u hu => oc_l (H g qf.refl) (by rw [hv, hu])
    have F : ∀ a b, a < 10 → b < 10 → ¬ a = b → ¬ nI a = nI b := fun a b h1 h2 h3 z => h3 ((nI_eq (by omega) (by omega)).mp z)
    match m, hm with
    | 0, _ => exact zbr_t rfl (c_size ha (fin _ (by rw [n1]; rfl)))
    | 1, _ => exact zbr_f (by decide) (zbr_t rfl (c_sliderHeight ha (fin _ (by rw [hci.1.2.2.2.2.2]; rfl))))
    | 2, _ => exact zbr_f (by decide) (zbr_f (by decide) (zbr_t rfl (c_closedBits ha (fin _ (by rw [hci.1.2.2.2.2.1]; rfl)))))
    | 3, _ => exact zbr_f (by decide) (zbr_f (by decide) (zbr_f (by decide) (zbr_t rfl (c_holding ha n1 n2 (fin _ (by rw [zrel_hb hci.1 hs _ n2]; rfl))))))
    | 4, _ =>
      refine zbr_f (by decide) (zbr_f (by decide) (zbr_f (by decide) (zbr_f (by decide) (zbr_t rfl (c_isCoil ha (ct_coil hci) ?_)))))
      have e2 := hci.1.2.1
      rw [e2]
      have l2 := hs.2.1
      refine ⟨fun c => fin _ ?_, fun c => fin _ ?_⟩
      · show _ = nI (x.2.1 i).2.1
        rw [c]
      · show _ = nI (x.2.1 i).2.1
        rw [show (x.2.1 i).2.1 = 1 from by
          by_cases q : (x.2.1 i).2.1 = 0
          · exact absurd (by rw [q]; rfl) c
          · omega]
        rfl
    | 5, _ => exact zbr_f (by decide) (zbr_f (by decide) (zbr_f (by decide) (zbr_f (by decide) (zbr_f (by decide) (zbr_t rfl (c_runs ha (fin _ (by rw [hci.1.2.2.2.2.1, srun_jbc n2 (fun q hq => (hs.2.2.2.2.2.1 q hq).1)]; rfl))))))))
    | 6, _ => exact zbr_f (by decide) (zbr_f (by decide) (zbr_f (by decide) (zbr_f (by decide) (zbr_f (by decide) (zbr_f (by decide) (zbr_t rfl (c_longestRun ha n1 n2 (fin _ (by rw [hci.1.2.2.2.2.1]; rfl)))))))))
    | 7, _ => exact zbr_f (by decide) (zbr_f (by decide) (zbr_f (by decide) (zbr_f (by decide) (zbr_f (by decide) (zbr_f (by decide) (zbr_f (by decide) (zbr_t rfl (c_lowest ha n1 n2 (fin _ (by rw [hci.1.2.2.2.2.1, zlw_mlr _ n2]; rfl))))))))))
    | 8, _ => exact zbr_f (by decide) (zbr_f (by decide) (zbr_f (by decide) (zbr_f (by decide) (zbr_f (by decide) (zbr_f (by decide) (zbr_f (by decide) (zbr_f (by decide) (zbr_t rfl (c_weakest ha n1 n2 (fin _ (by rw [zwk_swk hci.1 hs _ n2]; rfl)))))))))))
    | 9, _ =>
      refine zbr_f (by decide) (zbr_f (by decide) (zbr_f (by decide) (zbr_f (by decide) (zbr_f (by decide) (zbr_f (by decide) (zbr_f (by decide) (zbr_f (by decide) (zbr_f (by decide) (zbr_t rfl (zh_X7_bears ha ?_))))))))))
      have : ∀ m j, j + m = 100 → ∀ g1, qf D g g1 → v_be x (x.2.1 i) m j = v_be x (x.2.1 i) 100 0 → hwi (d + 5) zm_X7_bears k X 2 [(0, .ref 1000), (1, .ref (D + 2 + i)), (2, .int (nI j))] g1 e := by
        intro m
        induction m with
        | zero =>
          intro j hj g1 q1 h
          exact zh_X7_bears_2 ha (zbr_t (by rw [show (99 : Int32) = nI 99 from rfl]; exact nI_lt (by omega) (by omega)) (oc_l (H g1 q1) (hv.trans (by show Sum.inl (v_be x (x.2.1 i) 100 0) = _; rw [← h]; rfl))))
        | succ m ih =>
          intro j hj g1 q1 h
          have hc1 := cdr_qf q1 hc
          have hci1 := hc1.2.2.1 i hi
          refine zh_X7_bears_2 ha (zbr_f (by rw [show (99 : Int32) = nI 99 from rfl]; exact nI_nlt (by omega) (by omega)) ?_)
          rw [hc1.1.2]
          refine ⟨hc1.1.1, c_anyBurstsB hc1.1.1 ha hci1.1 hci1.2.1 hc1.2.2.2.2.1 (fun g2 p2 _ _ => ?_)⟩
          rw [hc1.2.2.2.2.2.1]
          have q2 : qf D g g2 := q1.trans (qf_pf (i := 0) (by omega) p2)
          unfold v_be at h
          cases c : sany x.2.2.2.1 (x.2.1 i) (nI j) (nI x.2.2.2.2.2) (x.2.1 i).1 with
          | false =>
            rw [c, if_neg (by decide)] at h
            rw [nI_1]
            exact zbr_t rfl (ih (j + 1) (by omega) g2 q2 h)
          | true =>
            rw [c, if_pos rfl] at h
            refine zbr_f (by decide) ⟨fun c0 => oc_l (H g2 q2) (hv.trans ?_), fun c0 => oc_l (H g2 q2) (hv.trans ?_)⟩
            · show Sum.inl (v_be x (x.2.1 i) 100 0) = _
              unfold v_be
              rw [← h, c0]
              rfl
            · show Sum.inl (v_be x (x.2.1 i) 100 0) = _
              unfold v_be
              rw [← h]
      exact this 100 0 rfl g qf.refl rfl
    | m + 10, h => exact absurd h (by omega)
  · have q : ∀ m, m < 10 → ¬ w = nI m := fun m hm c => hw ⟨m, hm, c⟩
    exact zbr_f (q 0 (by omega)) (zbr_f (q 1 (by omega)) (zbr_f (q 2 (by omega)) (zbr_f (q 3 (by omega)) (zbr_f (q 4 (by omega)) (zbr_f (q 5 (by omega)) (zbr_f (q 6 (by omega)) (zbr_f (q 7 (by omega)) (zbr_f (q 8 (by omega)) (zbr_f (q 9 (by omega)) ⟨hr, oc_r (H g qf.refl) (by unfold o_zip; rw [iszb_f (n := 10) (by omega) hw, Bool.and_false]; rfl)⟩)))))))))
end
