/-! LOOK, both sides -/
def sbi (x : sX) (z c : Nat) : Int32 := jbc (xgo (xso x c) 6 x.2.2.2.2.2 (x.2.1 z)).2.2.2.2.1
def slb (x : sX) (z : Nat) (fl : List Nat) : Int32 := fl.foldl (fun a c => a ||| (1 <<< (sbi x z c &&& 31))) 0
def slk (f : Nat → Int32) : Nat → Int32 × Int32
  | 0 => (-1, 0)
  | i + 1 => if f i ≤ (slk f i).2 then slk f i else (nI i, f i)
def v_look (x : sX) (nt : List sN) (w : Nat) : Int32 := if w = 0 then (slk (fun z => jbc (slb x z (sfl x nt (10 * x.2.2.1.length)))) x.1).1 else (slk (fun z => jbc (slb x z (sfl x nt (10 * x.2.2.1.length)))) x.1).2
def o_look (x : sX) (nt : List sN) (w : Int32) : rs := if iszb 2 w then .inl (v_look x nt w.toNatClampNeg) else .inr 1
theorem slb_app (x : sX) (z c : Nat) (fl : List Nat) : slb x z (fl ++ [c]) = slb x z fl ||| (1 <<< (sbi x z c &&& 31)) := by
  unfold slb
  rw [List.foldl_append]
  rfl
theorem sbi_le {x : sX} {z : Nat} (h : sok (x.2.1 z)) (c : Nat) : ∃ m, m ≤ 16 ∧ sbi x z c = nI m := by
  have hk : sok (xgo (xso x c) 6 x.2.2.2.2.2 (x.2.1 z)) := sok_go _ _ h
  refine ⟨cl (xgo (xso x c) 6 x.2.2.2.2.2 (x.2.1 z)).2.2.2.2.1 16, cl_le _ _, ?_⟩
  unfold sbi
  exact jbc_cl (fun q hq => by have := (hk.2.2.2.2.2.1 q hq).1; have := hk.1.2; omega)
theorem slb_bt {x : sX} {z : Nat} (h : sok (x.2.1 z)) (fl : List Nat) : ∀ (a : Int32), (∀ p, bt a p = true → p < 17) → ∀ p, bt (fl.foldl (fun a c => a ||| (1 <<< (sbi x z c &&& 31))) a) p = true → p < 17 := by
  induction fl with
  | nil => exact fun a ha => ha
  | cons c fl ih =>
    intro a ha
    refine ih _ (fun p hp => ?_)
    obtain ⟨m, hm, em⟩ := sbi_le h c
    rw [bt_or, em, bt_shl1 (by omega), Bool.or_eq_true] at hp
    rcases hp with hp | hp
    · exact ha p hp
    · have := of_decide_eq_true hp; omega
theorem slb_v {x : sX} {z : Nat} (h : sok (x.2.1 z)) (fl : List Nat) : ∃ v, v < 131072 ∧ slb x z fl = nI v := bits_nI (n := 17) (by omega) (slb_bt h fl 0 (fun p hp => by rw [bt_zero] at hp; cases hp))
theorem sfl_lt {x : sX} {nt : List sN} : ∀ n c, c ∈ sfl x nt n → c < n
  | 0, c, h => by cases h
  | n + 1, c, h => by
    have ih := sfl_lt (x := x) (nt := nt) n c
    unfold sfl at h
    split at h
    · rcases List.mem_append.mp h with h | h
      · have := ih h; omega
      · rw [List.mem_singleton.mp h]; omega
    · have := ih h; omega
section
variable {d : Nat} {k : Int32 → hG → hE → Prop} {kv : hG → hE → Prop} {X : Nat → hG → hE → Prop} {g : hG} {e : hE} {D : Nat} {x : sX} {nt : List sN}
theorem c_closedWith (hc : cdr g D x) (hr : hrm e) {z c : Nat} (hz : z < x.1) (hcl : c < 10 * x.2.2.1.length) (H : ∀ g', qg D g g' → k (sbi x z c) g' e) : hci (d + 6) 189 [.ref 1000, .int (nI z), .int (nI (c / 10)), .int (nI (c % 10))] g e k X := by
  have h4 := hc.2.1.2
  have ht := hc.2.2.2.2.2.2
  have hD' := hc.1.1
  obtain ⟨h6, h7, h8, h9⟩ := hc.2.2.2.1
  have hq : c / 10 < x.2.2.1.length := by omega
  have hT := hT_trial (show z < 4 by omega)
  refine zh_X7_closedWith (c_trialG hc hr (fun i hi hv g1 q1 c1 => ?_) (fun h => absurd ⟨z, hz, rfl⟩ h))
  have := (nI_eq (by omega) (by omega)).mp hv
  subst this
  refine ⟨hT, ?_⟩
  have : ∀ j, j ≤ 6 → ∀ g2, qg D g g2 → ct x.2.2.2.1 g2 (1038 + z) (xgo (xso x c) j x.2.2.2.2.2 (x.2.1 z)) → hwi (d + 5) zm_X7_closedWith k X 10 [(0, .ref 1000), (2, .int (nI (c / 10))), (3, .int (nI (c % 10))), (4, .ref (1038 + z)), (5, .int (nI j))] g2 e := by
    refine hdown ?_ ?_
    · intro g2 q2 c2
      refine zh_X7_closedWith_10 hT (zbr_t (by decide) (c_closedCount hT ?_))
      rw [c2.1.2.2.2.2.1]
      exact H g2 q2
    · intro j hj W g2 q2 c2
      have hc2 := cdr_qf q2.1 hc
      refine zh_X7_closedWith_10 hT (zbr_f (by rw [show (6 : Int32) = nI 6 from rfl]; exact nI_ge hj (by omega)) ?_)
      rw [hc2.1.2, nI_1]
      refine ⟨hD', zh_X2_today hD' ?_⟩
      rw [hc2.2.2.2.2.2.1, nI_add, hc2.1.2]
      refine ⟨hD', hD', c_strainSet hc2 hq (by omega) (c_passD hc2 (by omega) c2 (by have := sstr_set9 h9 (w := c / 10) (o := c % 10) (by omega) (x.2.2.2.2.2 + j); omega) (fun g3 p3 c3 _ => W g3 (q2.trans (qg_pf hD' (by omega) p3)) ?_))⟩
      rw [show xgo (xso x c) (j + 1) x.2.2.2.2.2 (x.2.1 z) = (xd (xso x c) (x.2.2.2.2.2 + j) (xgo (xso x c) j x.2.2.2.2.2 (x.2.1 z))).1 from sgo_end ..]
      exact c3
  exact this 0 (by omega) g1 q1 c1
theorem c_seeNumbers (hc : cdr g D x) (hr : hrm e) (hn : cnt g 1027 nt) (hw : wfn x.1 nt) (H : ∀ g', qf D g g' → (∀ z, z < x.1 → g'.1 1042 z = slb x z (sfl x nt (10 * x.2.2.1.length))) → kv g' e) : hcv (d + 8) 188 [.ref 1000] g e kv X := by
  have h4 := hc.2.1.2
  have hD' := hc.1.1
  have hl := hD_lt hD'
  have h7 := hc.2.2.2.1.2.1
  have row : ∀ {g1 : hG} {z : Nat} {v : Int32}, qf D g g1 → qf D g (sI g1 1042 z v) := fun q => q.trans ⟨fun b h1 h2 h3 h4 => sI_off _ (by omega), fun k hk => by rw [sI_off _ (by omega)], fun _ _ => rfl, rfl⟩
  refine zh_X7_seeNumbers ?_
  obtain ⟨N, hN⟩ : ∃ N, N = 10 * x.2.2.1.length := ⟨_, rfl⟩
  rw [← hN] at H
  have codes : ∀ j, j ≤ N → ∀ g1, qf D g g1 → (∀ z, z < x.1 → g1.1 1042 z = slb x z (sfl x nt j)) → hwv (d + 7) zm_X7_seeNumbers kv X 26 [(0, .ref 1000), (1, .int (nI j))] g1 e := by
    refine hdown ?_ ?_
    · intro g1 q1 A
      have hc1 := cdr_qf q1 hc
      refine zh_X7_seeNumbers_26 ?_
      rw [hc1.1.2]
      exact ⟨hD', zh_X2_strainCount hD' (zbr_t (by rw [hc1.2.2.2.1.1, show (10 : Int32) = nI 10 from rfl, pk_mul, ← hN]; exact nI_le (Nat.le_refl _) (by omega)) (H g1 q1 A))⟩
    · intro j hj W g1 q1 A
      have hc1 := cdr_qf q1 hc
      refine zh_X7_seeNumbers_26 ?_
      rw [hc1.1.2]
      refine ⟨hD', zh_X2_strainCount hD' (zbr_f (by rw [hc1.2.2.2.1.1, show (10 : Int32) = nI 10 from rfl, pk_mul, ← hN]; exact nI_ge hj (by omega)) (c_isForced hc1 hr (cnt_qf hD' q1 hn) hw (by omega) (fun g2 q2 => ?_)))⟩
      have un : sfl x nt (j + 1) = if sfo x nt j = true then sfl x nt j ++ [j] else sfl x nt j := rfl
      have A2 : ∀ z, z < x.1 → g2.1 1042 z = slb x z (sfl x nt j) := fun z hz => by rw [q2.2]; exact A z hz
      rw [nI_1]
      cases s : sfo x nt j with
      | false =>
        rw [s, if_neg Bool.false_ne_true] at un
        exact zbr_t rfl (W g2 (q1.trans q2.1) (by rw [un]; exact A2))
      | true =>
        rw [s, if_pos rfl] at un
        refine zbr_f (by decide) ?_
        have e10 : nI j / 10 = nI (j / 10) := pk_div (d := 10) (by omega) (by omega) (by omega)
        have er : nI j - nI j / 10 * 10 = nI (j % 10) := pk_rem (d := 10) (by omega) (by omega) (by omega)
        have zips : ∀ i, i ≤ x.1 → ∀ g3, qf D g g3 → (∀ z, z < x.1 → g3.1 1042 z = slb x z (if z < i then sfl x nt (j + 1) else sfl x nt j)) → hwv (d + 7) zm_X7_seeNumbers kv X 50 [(0, .ref 1000), (1, .int (nI j)), (2, .int (nI i))] g3 e := by
          refine hdown ?_ ?_
          · intro g3 q3 A3
            have hc3 := cdr_qf q3 hc
            refine zh_X7_seeNumbers_50 ?_
            rw [hc3.1.2, nI_1]
            refine ⟨hD', zh_X2_zipCount hD' (zbr_t (by rw [hc3.2.1.1]; exact nI_le (Nat.le_refl _) (by omega)) (W g3 q3 (fun z hz => ?_)))⟩
            have := A3 z hz
            rw [if_pos hz] at this
            exact this
          · intro i hi W2 g3 q3 A3
            have hc3 := cdr_qf q3 hc
            refine zh_X7_seeNumbers_50 ?_
            rw [hc3.1.2, nI_1, er, e10]
            refine ⟨hD', zh_X2_zipCount hD' (zbr_f (by rw [hc3.2.1.1]; exact nI_ge hi (by omega)) (zbr_f (nI_ge (by omega) (by omega)) ⟨nI_in (by omega) (by omega), c_closedWith hc3 hr hi (by omega) (fun g4 q4 => ⟨nI_in (by omega) (by omega), ?_⟩)⟩))⟩
            rw [nI_clamp (by omega), nI_1]
            refine W2 _ (row (q3.trans q4.1)) (fun z hz => ?_)
            rw [sI_at]
            by_cases c : z = i
            · subst c
              have := A3 z hz
              rw [if_neg (by omega)] at this
              rw [upd_at, if_pos (by omega), un, slb_app, this]
            · rw [upd_off _ _ c, q4.2, A3 z hz]
              by_cases q : z < i
              · rw [if_pos q, if_pos (by omega)]
              · rw [if_neg q, if_neg (by omega)]
        exact zips 0 (Nat.zero_le _) g2 (q1.trans q2.1) (fun z hz => by rw [if_neg (by omega)]; exact A2 z hz)
  have zero : ∀ i, i ≤ 4 → ∀ g1, qf D g g1 → (∀ z, z < i → g1.1 1042 z = 0) → hwv (d + 7) zm_X7_seeNumbers kv X 2 [(0, .ref 1000), (1, .int (nI i))] g1 e := by
    refine hdown ?_ ?_
    · intro g1 q1 A
      exact zh_X7_seeNumbers_2 (zbr_t (by decide) (codes 0 (Nat.zero_le _) g1 q1 (fun z hz => A z (by omega))))
    · intro i hi W g1 q1 A
      refine zh_X7_seeNumbers_2 (zbr_f (nI_ge hi (by omega)) ⟨nI_in hi (by omega), ?_⟩)
      rw [nI_clamp (by omega), nI_1]
      refine W _ (row q1) (fun z hz => ?_)
      rw [sI_at]
      by_cases c : z = i
      · subst c; rw [upd_at]
      · rw [upd_off _ _ c]; exact A z (by omega)
  exact zero 0 (by omega) g qf.refl (fun z h => absurd h (Nat.not_lt_zero _))
theorem cq_look (hc : cdr g D x) (hr : hrm e) (hn : cnt g 1027 nt) (hw : wfn x.1 nt) {w : Int32} (H : ∀ g', qf D g g' → oc (o_look x nt w) k X g' e) : hci (d + 9) 187 [.ref 1000, .int w] g e k X := by
  have h4 := hc.2.1.2
  have hD' := hc.1.1
  refine zh_X7_look (c_checkWhat hr (n := 2) (by omega) (fun v hv hv' => ?_) (fun h => oc_r (H g qf.refl) (by unfold o_look; rw [iszb_f (n := 2) (by omega) h]; rfl)))
  subst hv'
  have ho : o_look x nt (nI v) = .inl (v_look x nt v) := by
    unfold o_look
    rw [iszb_t (n := 2) (by omega) hv, nI_clamp (by omega)]
    rfl
  refine c_seeNumbers hc hr hn hw (fun g1 q1 A => ?_)
  have K := oc_l (H g1 q1) ho
  unfold v_look at K
  have hc1 := cdr_qf q1 hc
  obtain ⟨f, hf⟩ : ∃ f, f = fun z => jbc (slb x z (sfl x nt (10 * x.2.2.1.length))) := ⟨_, rfl⟩
  rw [← hf] at K
  refine hdown (W := fun i => hwi (d + 8) zm_X7_look k X 16 [(0, .ref 1000), (1, .int (nI v)), (2, .int (slk f i).2), (3, .int (slk f i).1), (4, .int (nI i))] g1 e) (n := x.1) ?_ ?_ 0 (Nat.zero_le _)
  · refine zh_X7_look_16 ?_
    rw [hc1.1.2]
    refine ⟨hD', zh_X2_zipCount hD' (zbr_t (by rw [hc1.2.1.1]; exact nI_le (Nat.le_refl _) (by omega)) ⟨fun c => ?_, fun c => ?_⟩)⟩
    · rw [if_pos ((nI_eq (b := 0) (by omega) (by omega)).mp c)] at K
      exact K
    · rw [if_neg (fun z => c (by rw [z]; rfl))] at K
      exact K
  · intro i hi W
    refine zh_X7_look_16 ?_
    rw [hc1.1.2]
    refine ⟨hD', zh_X2_zipCount hD' (zbr_f (by rw [hc1.2.1.1]; exact nI_ge hi (by omega)) (zbr_f (nI_ge (by omega) (by omega)) ⟨nI_in (by omega) (by omega), c_bitCount ?_⟩))⟩
    rw [nI_clamp (by omega), A i hi, nI_1, show jbc (slb x i (sfl x nt (10 * x.2.2.1.length))) = f i by rw [hf]]
    unfold slk at W
    refine ⟨fun c => ?_, fun c => ?_⟩
    · rw [if_pos c] at W
      exact W
    · rw [if_neg c] at W
      exact W
theorem mq_look (hm : mdr g x) (hn : ntm g nt) (hw : wfn x.1 nt) {w : Int32} (H : ∀ g' u, fr qL qF g g' → mdr g' x → om c12 (o_look x nt w) u g' → k u g' e) : hci (d + 9) 321 [.ref 1046, .int w] g e k X := by
  have h4 := hm.1.1.2
  have ht := hm.2.2.2.2
  obtain ⟨a1, a2, a3, a4⟩ := hm.2.2.1
  have hm0 : mdr (sI g 1046 4 0) x := mdr_code hm
  refine zh_X8_look (cm_isInR (a := 0) (b := 1) (by omega) (by omega) (by decide) (by decide) (fun v _ hv hv' => zbr_f (by decide) ?_) (fun h => zbr_t rfl (cm_failQ (cd := c12) (n := 1) hm0 fr_code (by
    unfold o_look
    rw [iszb_f (n := 2) (by omega) (fun z => h (by obtain ⟨i, hi, e⟩ := z; exact ⟨i, by omega, by omega, e⟩))]
    rfl) H)))
  subst hv'
  have ho : o_look x nt (nI v) = .inl (v_look x nt v) := by
    unfold o_look
    rw [iszb_t (n := 2) (by omega) (by omega), nI_clamp (by omega)]
    rfl
  have K := mqk_in ho H
  have c0 : (sI g 1046 4 0).1 1046 4 = 0 := code_at
  have n0 : ntm (sI g 1046 4 0) nt := ntm_fr (L := []) (F := [4]) (fr.refl.F (by decide)) (by decide) (by decide) hn
  clear H
  generalize sI g 1046 4 0 = g0 at *
  obtain ⟨fl, hfl⟩ : ∃ fl, fl = sfl x nt (10 * x.2.2.1.length) := ⟨_, rfl⟩
  have flt : ∀ c, c ∈ fl → c < 10 * x.2.2.1.length := fun c h => sfl_lt _ c (by rw [← hfl]; exact h)
  have fll : fl.length ≤ 80 := by have := sfl_le (x := x) (nt := nt) (10 * x.2.2.1.length); rw [← hfl] at this; omega
  unfold v_look at K
  rw [← hfl] at K
  refine cm_tellFits hm0 n0 hw (fun g1 f1 m1 t1 => cm_pack (o := 0) (show hT 1070 = some (.inl (0, 137)) from rfl) (by decide) (by decide) (by decide) (fun f pf _ => ?_))
  rw [← hfl] at t1
  have fA : fr qL qF g0 (aI g1 1070 f) := (f1.sub (by decide) (by decide)).trans (fr_aI (by decide) (by decide))
  have mA : mdr (aI g1 1070 f) x := mdr_fr (L := [1070]) (F := []) (fr_aI (by decide) (by decide)) (by decide) (by decide) m1
  have tA : ftm (aI g1 1070 f) fl := by
    unfold ftm
    rw [aI_off _ _ (by decide), aI_off _ _ (by decide)]
    exact t1
  have rA : (aI g1 1070 f).1 1070 = f := aI1 _ _ _
  have pA : pk f 0 (aI g1 1070 f) := by
    unfold pk
    rw [aI_off _ _ (by decide), aI_off _ _ (by decide), aI_off _ _ (by decide), aI_off _ _ (by decide), aI_off _ _ (by decide)]
    exact pf
  have cA : (aI g1 1070 f).1 1046 4 = 0 := by rw [aI_off _ _ (by decide), f1.2.1 4 (by decide)]; exact c0
  generalize aI g1 1070 f = gA at *
  have sF : ∀ {z : Nat}, z < x.1 → sok (x.2.1 z) := fun hz => (hm.1.2 _ hz).2
  have fin : ∀ g2, fr qL qF g0 g2 → mdr g2 x → g2.1 1046 4 = 0 → (∀ z, z < x.1 → g2.1 1079 z = slb x z fl) → hwi (d + 8) zm_X8_look k X 175 [(0, .ref 1046), (1, .int (nI v)), (2, .int (-1)), (3, .int 0), (4, .int 0)] g2 e := by
    intro g2 f2 m2 c2 A
    obtain ⟨F, hF⟩ : ∃ F, F = fun z => jbc (slb x z fl) := ⟨_, rfl⟩
    rw [← hF] at K
    refine hdown (W := fun i => hwi (d + 8) zm_X8_look k X 175 [(0, .ref 1046), (1, .int (nI v)), (2, .int (slk F i).1), (3, .int (slk F i).2), (4, .int (nI i))] g2 e) (n := x.1) ?_ ?_ 0 (Nat.zero_le _)
    · refine zh_X8_look_175 (zbr_t (by rw [m2.1.1.1]; exact nI_le (Nat.le_refl _) (by omega)) ⟨fun c => ?_, fun c => ?_⟩)
      · rw [if_pos ((nI_eq (b := 0) (by omega) (by omega)).mp c)] at K
        exact K g2 f2 m2 c2
      · rw [if_neg (fun z => c (by rw [z]; rfl))] at K
        exact K g2 f2 m2 c2
    · intro i hi W
      obtain ⟨u, hu, eu⟩ := slb_v (x := x) (sF hi) fl
      have ej : F i = nI (jn u) := by rw [hF]; show jbc (slb x i fl) = _; rw [eu, jbc_nI hu]
      refine zh_X8_look_175 (zbr_f (by rw [m2.1.1.1]; exact nI_ge hi (by omega)) ⟨nI_in (by omega) (by omega), ?_⟩)
      rw [nI_clamp (by omega), A i hi, eu, nI_1]
      refine c_bitsOf hu ?_
      rw [← ej]
      unfold slk at W
      refine ⟨fun c => ⟨nI_in (by omega) (by omega), ?_⟩, fun c => ?_⟩
      · rw [A i hi, eu]
        refine c_bitsOf hu ?_
        rw [← ej]
        rw [if_neg (Int32.not_le.mpr c)] at W
        exact W
      · rw [if_pos (Int32.not_lt.mp c)] at W
        exact W
  have each : ∀ i, i ≤ fl.length → ∀ g2, fr qL qF g0 g2 → mdr g2 x → g2.1 1046 4 = 0 → ftm g2 fl → g2.1 1070 = f → pk f 0 g2 → (∀ z, z < x.1 → g2.1 1079 z = slb x z (fl.take i)) → hwi (d + 8) zm_X8_look k X 56 [(0, .ref 1046), (1, .int (nI v)), (2, .int (nI i))] g2 e := by
    refine hdown ?_ ?_
    · intro g2 f2 m2 c2 t2 r2 p2 A
      rw [List.take_length] at A
      exact zh_X8_look_56 (zbr_t (by rw [t2.1]; exact nI_le (Nat.le_refl _) (by omega)) (fin g2 f2 m2 c2 A))
    · intro i hi W g2 f2 m2 c2 t2 r2 p2 A
      have gi : fl[i]? = some fl[i] := List.getElem?_eq_getElem hi
      have ci := flt _ (List.getElem_mem hi)
      have tk : fl.take (i + 1) = fl.take i ++ [fl[i]] := by rw [List.take_succ, gi]; rfl
      have ei : (nI i).toNatClampNeg = i := nI_clamp (by omega)
      generalize fl[i] = c at *
      have e10 : nI c / 10 = nI (c / 10) := pk_div (d := 10) (by omega) (by omega) (by omega)
      have er : nI c - nI c / 10 * 10 = nI (c % 10) := pk_rem (d := 10) (by omega) (by omega) (by omega)
      have hq : c / 10 < x.2.2.1.length := by omega
      have gq : x.2.2.1[c / 10]? = some x.2.2.1[c / 10] := List.getElem?_eq_getElem hq
      refine zh_X8_look_56 (zbr_f (by rw [t2.1]; exact nI_ge hi (by omega)) ?_)
      rw [ei, t2.2 i c gi, er, e10, nI_clamp (show c / 10 < 2 ^ 31 by omega)]
      refine ⟨nI_in (by omega) (by omega), nI_in (by omega) (by omega), nI_in (by omega) (by omega), nI_in (by omega) (by omega), ?_⟩
      rintro g3 rfl
      have f3 : fr (1055 :: qL) qF g2 (sI g2 1055 (c / 10) (nI (c % 10))) := fr.refl.I (by decide) (by decide)
      have o3 : ∀ j, ¬ j = c / 10 → (sI g2 1055 (c / 10) (nI (c % 10))).1 1055 j = g2.1 1055 j := fun j hj => by rw [sI_at, upd_off _ _ hj]
      have m3 : mdr (sI g2 1055 (c / 10) (nI (c % 10))) (xso x c) := by
        refine ⟨⟨⟨by rw [sI_off _ (by decide)]; exact m2.1.1.1, h4⟩, fun z hz => ⟨mz_cg (m2.1.2 z hz).1 (sI_off _ (by decide)) (sI_off _ (by decide)) (sI_off _ (by decide)) (sI_off _ (by decide)) (sI_off _ (by decide)) (sI_off _ (by decide)), (m2.1.2 z hz).2⟩⟩, mrls_fr f3 (by decide) (by decide) (by decide) m2.2.1, mst_set m2.2.2.1 hq (by omega) (sI_off _ (by decide)) o3 (by rw [sI_at, upd_at]), by rw [sI_off _ (by decide)]; exact m2.2.2.2.1, ht⟩
      have k3 : (sI g2 1055 (c / 10) (nI (c % 10))).1 1070 = f ∧ (sI g2 1055 (c / 10) (nI (c % 10))).1 1046 = g2.1 1046 ∧ (sI g2 1055 (c / 10) (nI (c % 10))).1 1078 = g2.1 1078 ∧ (sI g2 1055 (c / 10) (nI (c % 10))).1 1079 = g2.1 1079 := ⟨by rw [sI_off _ (by decide)]; exact r2, sI_off _ (by decide), sI_off _ (by decide), sI_off _ (by decide)⟩
      generalize sI g2 1055 (c / 10) (nI (c % 10)) = g3 at *
      refine cm_goOn (n := 6) (by omega) m3.1 m3.2.1 m3.2.2.1 m3.2.2.2.1 (show x.2.2.2.2.2 < 2 ^ 20 by omega) (fun g4 f4 m4 _ _ => ?_)
      have f5 : fr (1055 :: qL) qF g2 g4 := f3.trans (f4.sub (by decide) (by decide))
      have o5 : ∀ j, ¬ j = c / 10 → g4.1 1055 j = g2.1 1055 j := fun j hj => by rw [f4.1 1055 (by decide) (by decide)]; exact o3 j hj
      have zips : ∀ y, y ≤ x.1 → ∀ g5, fr [1079] [] g4 g5 → (∀ z, z < x.1 → g5.1 1079 z = slb x z (if z < y then fl.take (i + 1) else fl.take i)) → hwi (d + 8) zm_X8_look k X 106 [(0, .ref 1046), (1, .int (nI v)), (2, .int (nI i)), (3, .int (nI (c / 10))), (4, .int (g2.1 1055 (c / 10))), (5, .int (nI y))] g5 e := by
        refine hdown ?_ ?_
        · intro g5 f6 A5
          refine zh_X8_look_106 (zbr_t (by rw [f6.1 1050 (by decide) (by decide), m4.1.1]; exact nI_le (Nat.le_refl _) (by omega)) ⟨nI_in (by omega) (by omega), ?_⟩)
          rw [nI_clamp (by omega)]
          refine cm_unpack (o := 0) (show hT 1070 = some (.inl (0, 137)) from rfl) (by decide) (by decide) (by decide) (fun g6 f7 p7 => ?_)
          have r5 : (sI g5 1055 (c / 10) (g2.1 1055 (c / 10))).1 1070 = f := by rw [sI_off _ (by decide), f6.1 1070 (by decide) (by decide), f4.1 1070 (by decide) (by decide)]; exact k3.1
          rw [r5] at p7
          have f8 : fr qL qF g2 g6 := by
            refine ⟨fun b h1 h2 => ?_, fun q hq => ?_, ?_⟩
            · by_cases cb : b = 1055
              · subst cb
                rw [f7.1 1055 (by decide) (by decide), sI_at]
                funext j
                by_cases cj : j = c / 10
                · subst cj; rw [upd_at]
                · rw [upd_off _ _ cj, f6.1 1055 (by decide) (by decide)]; exact o5 j cj
              · have hu : ¬ b ∈ uL := fun z => h1 ((show ∀ b, b ∈ uL → b ∈ qL by decide) b z)
                have h79 : ¬ b ∈ [1079] := fun z => h1 ((show ∀ b, b ∈ [1079] → b ∈ qL by decide) b z)
                rw [f7.1 b hu h2, sI_off _ cb, f6.1 b h79 h2]
                exact f5.1 b (fun z => (List.mem_cons.mp z).elim cb h1) h2
            · have h31 : ¬ q ∈ [31] := fun z => hq ((show ∀ b, b ∈ [31] → b ∈ qF by decide) q z)
              rw [f7.2.1 q h31, sI_off _ (by decide), f6.2.1 q (by simp)]
              exact f5.2.1 q hq
            · rw [f7.2.2, show (sI g5 1055 (c / 10) (g2.1 1055 (c / 10))).2 = g5.2 from rfl, f6.2.2]
              exact f5.2.2
          have m8 : mdr g6 x := mdr_pk m2 f8 (by decide) p2 p7
          rw [nI_1]
          refine W g6 (f2.trans f8) m8 ?_ ?_ ?_ p7 ?_
          · rw [f7.2.1 4 (by decide), sI_off _ (by decide), f6.2.1 4 (by decide), f4.2.1 4 (by decide), k3.2.1]; exact c2
          · unfold ftm
            rw [f7.2.1 49 (by decide), sI_off _ (by decide), f6.2.1 49 (by decide), f4.2.1 49 (by decide), k3.2.1, f7.1 1078 (by decide) (by decide), sI_off _ (by decide), f6.1 1078 (by decide) (by decide), f4.1 1078 (by decide) (by decide), k3.2.2.1]
            exact t2
          · rw [f7.1 1070 (by decide) (by decide)]; exact r5
          · intro z hz
            rw [f7.1 1079 (by decide) (by decide), sI_off _ (by decide)]
            have := A5 z hz
            rw [if_pos hz] at this
            exact this
        · intro y hy W2 g5 f6 A5
          have my := m4.2 y hy
          refine zh_X8_look_106 (zbr_f (by rw [f6.1 1050 (by decide) (by decide), m4.1.1]; exact nI_ge (b := x.1) hy (by omega)) ⟨nI_in (by omega) (by omega), nI_in (by omega) (by omega), ?_⟩)
          rw [nI_clamp (by omega), f6.1 1063 (by decide) (by decide), my.1.2.2.2.2.1, nI_1]
          refine cm_bitsC (sok_C my.2) ⟨nI_in (by omega) (by omega), W2 _ (f6.I (by decide) (by decide)) (fun z hz => ?_)⟩
          rw [sI_at]
          by_cases cz : z = y
          · subst cz
            have := A5 z hz
            rw [if_neg (by omega)] at this
            rw [upd_at, if_pos (by omega), tk, slb_app, this]
            rfl
          · rw [upd_off _ _ cz, A5 z hz]
            by_cases q : z < y
            · rw [if_pos q, if_pos (by omega)]
            · rw [if_neg q, if_neg (by omega)]
      refine zips 0 (Nat.zero_le _) g4 fr.refl (fun z hz => ?_)
      rw [if_neg (by omega), f4.1 1079 (by decide) (by decide), k3.2.2.2]
      exact A z hz
  have zero : ∀ i, i ≤ 4 → ∀ g2, fr [1079] [] gA g2 → (∀ z, z < i → g2.1 1079 z = 0) → hwi (d + 8) zm_X8_look k X 36 [(0, .ref 1046), (1, .int (nI v)), (2, .int (nI i))] g2 e := by
    refine hdown ?_ ?_
    · intro g2 f2 A
      have p2 : pk f 0 g2 := by
        have := pA
        unfold pk
        rw [f2.2.1 31 (by decide), f2.1 1060 (by decide) (by decide), f2.1 1061 (by decide) (by decide), f2.1 1062 (by decide) (by decide), f2.1 1063 (by decide) (by decide)]
        exact this
      refine zh_X8_look_36 (zbr_t (by decide) (each 0 (Nat.zero_le _) g2 (fA.trans (f2.sub (by decide) (by decide))) (mdr_fr f2 (by decide) (by decide) mA) (by rw [f2.2.1 4 (by decide)]; exact cA) ?_ (by rw [f2.1 1070 (by decide) (by decide)]; exact rA) p2 (fun z hz => A z (by omega))))
      unfold ftm
      rw [f2.2.1 49 (by decide), f2.1 1078 (by decide) (by decide)]
      exact tA
    · intro i hi W g2 f2 A
      refine zh_X8_look_36 (zbr_f (by rw [show (4 : Int32) = nI 4 from rfl]; exact nI_ge hi (by omega)) ⟨nI_in hi (by omega), ?_⟩)
      rw [nI_clamp (by omega), nI_1]
      refine W _ (f2.I (by decide) (by decide)) (fun z hz => ?_)
      rw [sI_at]
      by_cases c : z = i
      · subst c; rw [upd_at]
      · rw [upd_off _ _ c]; exact A z (by omega)
  exact zero 0 (by omega) gA fr.refl (fun z h => absurd h (Nat.not_lt_zero _))
end
