/-! WIND -/
def swg (b q : Nat) : Nat → Nat
  | 0 => 1
  | j + 1 => swg b q j * (if bt (nI b) j = true then q else 10 - q)
theorem swg_le {b q : Nat} (hq : q ≤ 10) : ∀ j, swg b q j ≤ 10 ^ j
  | 0 => Nat.le_refl _
  | j + 1 => by
    show swg b q j * _ ≤ 10 ^ j * 10
    exact Nat.mul_le_mul (swg_le hq j) (by split <;> omega)
def szw (x : sX) (b : Nat) (s : sZ) : Nat → sZ
  | 0 => s
  | j + 1 => (sday x.2.2.2.1 x.2.2.2.2.1 (nI (if bt (nI b) j = true then 9 else 0)) (nI (x.2.2.2.2.2 + j)) (szw x b s j)).1
theorem szw_n (x : sX) (b : Nat) (s : sZ) : ∀ j, (szw x b s j).1 = s.1
  | 0 => rfl
  | j + 1 => by
    show (sday _ _ _ _ _).1.1 = _
    unfold sday
    rw [sdk_n]
    exact szw_n x b s j
def swi (x : sX) (s : sZ) (p n q : Nat) : Nat → Int32
  | 0 => 0
  | b + 1 => if bt (szw x b s n).2.2.2.2.1 p = true then swi x s p n q b + nI (swg b q n) else swi x s p n q b
def o_wind (x : sX) (z p n q : Int32) : rs := if iszb x.1 z && iszb (x.2.1 z.toNatClampNeg).1 p then (if isrb 1 5 n && isrb 0 10 q then .inl (swi x (x.2.1 z.toNatClampNeg) p.toNatClampNeg n.toNatClampNeg q.toNatClampNeg (2 ^ n.toNatClampNeg)) else .inr 0) else .inr 1
theorem p2I : ∀ n, n ≤ 5 → (1 : Int32) <<< (nI n &&& 31) = nI (2 ^ n) := by decide +kernel
theorem p2le : ∀ n, n ≤ 5 → 2 ^ n ≤ 32 := by decide
theorem p10le : ∀ n, n ≤ 5 → 10 ^ n ≤ 100000 := by decide
theorem nI_mulN (a b : Nat) : nI a * nI b = nI (a * b) := pk_mul a b
theorem nI_10 {q : Nat} (h : q ≤ 10) : (10 : Int32) - nI q = nI (10 - q) := by
  have := nI_subR q (10 - q)
  rw [show q + (10 - q) = 10 by omega] at this
  exact this
section
variable {d : Nat} {k : Int32 → hG → hE → Prop} {kv : hG → hE → Prop} {X : Nat → hG → hE → Prop} {g g0 g1 : hG} {e : hE} {D : Nat} {x : sX} {f : Nat → Int32} {zs : Nat → sZ}
theorem c_weightOf {b n q : Nat} (hn : n ≤ 5) (hq : q ≤ 10) (H : k (nI (swg b q n)) g e) : hci (d + 1) 192 [.int (nI b), .int (nI n), .int (nI q)] g e k X := by
  refine zh_X7_weightOf ?_
  refine hdown (W := fun j => hwi d zm_X7_weightOf k X 5 [(0, .int (nI b)), (1, .int (nI n)), (2, .int (nI q)), (3, .int (nI (swg b q j))), (4, .int (nI j))] g e) (n := n) ?_ ?_ 0 (Nat.zero_le _)
  · exact zh_X7_weightOf_5 (zbr_t (nI_le (Nat.le_refl _) (by omega)) H)
  · intro j hj W
    rw [nI_succ] at W
    unfold swg at W
    refine zh_X7_weightOf_5 (zbr_f (nI_ge hj (by omega)) ?_)
    rw [nI_10 hq, nI_mulN, nI_mulN]
    refine ⟨fun c => ?_, fun c => ?_⟩
    · rw [if_neg (by rw [(bt_shr0 (by omega)).mp c]; decide)] at W
      exact W
    · rw [if_pos (by
        cases z : bt (nI b) j with
        | true => rfl
        | false => exact absurd ((bt_shr0 (by omega)).mpr z) c)] at W
      exact W
theorem c_closedInWind (hc : cdr g D x) (hr : hrm e) {i p b n : Nat} (hi : i < x.1) (hp : p < 16) (hn : n ≤ 5) (H : ∀ g', qf D g g' → k (bI (bt (szw x b (x.2.1 i) n).2.2.2.2.1 p)) g' e) : hci (d + 6) 193 [.ref 1000, .int (nI i), .int (nI p), .int (nI b), .int (nI n)] g e k X := by
  have h4 := hc.2.1.2
  have ht := hc.2.2.2.2.2.2
  have hT := hT_trial (show i < 4 by omega)
  refine zh_X7_closedInWind (c_trialOf hc hr (fun i' hi' hz' g2 q2 c2 _ => ?_) (fun h => absurd ⟨i, hi, rfl⟩ h))
  obtain rfl : i = i' := (nI_eq (by omega) (by omega)).mp hz'
  refine ⟨hT, ?_⟩
  have : ∀ j, j ≤ n → ∀ g1, qf D g g1 → ct x.2.2.2.1 g1 (1038 + i) (szw x b (x.2.1 i) j) → hwi (d + 5) zm_X7_closedInWind k X 10 [(0, .ref 1000), (2, .int (nI p)), (3, .int (nI b)), (4, .int (nI n)), (5, .ref (1038 + i)), (6, .int (nI j))] g1 e := by
    refine hdown ?_ ?_
    · intro g1 q1 c1
      refine zh_X7_closedInWind_10 hT (zbr_t (nI_le (Nat.le_refl _) (by omega)) (c_isClosed hT (by omega) ?_))
      rw [c1.1.2.2.2.2.1]
      exact ⟨bI_or _, H g1 q1⟩
    · intro j hj W g1 q1 c1
      have hc1 := cdr_qf q1 hc
      refine zh_X7_closedInWind_10 hT (zbr_f (nI_ge hj (by omega)) ?_)
      rw [hc1.1.2, nI_1]
      have un : szw x b (x.2.1 i) (j + 1) = (sday x.2.2.2.1 x.2.2.2.2.1 (nI (if bt (nI b) j = true then 9 else 0)) (nI (x.2.2.2.2.2 + j)) (szw x b (x.2.1 i) j)).1 := rfl
      refine ⟨hc1.1.1, fun c => ⟨hc1.1.1, zh_X2_today hc1.1.1 ?_⟩, fun c => ⟨hc1.1.1, zh_X2_today hc1.1.1 ?_⟩⟩
      · rw [if_neg (by rw [(bt_shr0 (by omega)).mp c]; decide)] at un
        rw [hc1.2.2.2.2.2.1, nI_add]
        exact c_passD (st := 0) hc1 (by omega) c1 (by omega) (fun g3 p3 c3 _ => W g3 (q1.trans (qf_pf (by omega) p3)) (by rw [un]; exact c3))
      · rw [if_pos (by
          cases z : bt (nI b) j with
          | true => rfl
          | false => exact absurd ((bt_shr0 (by omega)).mpr z) c)] at un
        rw [hc1.2.2.2.2.2.1, nI_add]
        exact c_passD (st := 9) hc1 (by omega) c1 (by omega) (fun g3 p3 c3 _ => W g3 (q1.trans (qf_pf (by omega) p3)) (by rw [un]; exact c3))
  exact this 0 (Nat.zero_le _) g2 q2 c2
theorem cq_wind (hc : cdr g D x) (hr : hrm e) {z p n q : Int32} (H : ∀ g', qf D g g' → oc (o_wind x z p n q) k X g' e) : hci (d + 8) 191 [.ref 1000, .int z, .int p, .int n, .int q] g e k X := by
  have h4 := hc.2.1.2
  refine zh_X7_wind (c_theZip hc hr (fun i hi hz => ⟨hT_zip hc.1.1 (by omega), ?_⟩) (fun h => oc_r (H g qf.refl) (by unfold o_wind; rw [iszb_f (by omega) h]; rfl)))
  subst hz
  have ha := hT_zip (D := D) hc.1.1 (show i < 4 by omega)
  obtain ⟨n1, n2⟩ := ct_n (hc.2.2.1 i hi)
  have ei : (nI i).toNatClampNeg = i := nI_clamp (by omega)
  refine c_checkPlace ha n1 n2 hr (fun j hj hp => ?_) (fun h => oc_r (H g qf.refl) (by unfold o_wind; rw [ei, iszb_f (n := (x.2.1 i).1) (by omega) h, Bool.and_false]; rfl))
  subst hp
  have hzw : (iszb x.1 (nI i) && iszb (x.2.1 i).1 (nI j)) = true := by rw [iszb_t (by omega) hi, iszb_t (by omega) hj]; rfl
  refine c_checkRange hr (a := 1) (b := 5) (by omega) (by omega) (fun m m1 hm hn => ?_) (fun h => oc_r (H g qf.refl) (by unfold o_wind; rw [ei, hzw, isrb_f (a := 1) (by omega) (by omega) h]; rfl))
  subst hn
  refine c_checkRange hr (a := 0) (b := 10) (by omega) (by omega) (fun r _ hr' hq => ?_) (fun h => oc_r (H g qf.refl) (by unfold o_wind; rw [ei, hzw, isrb_f (a := 0) (by omega) (by omega) h, Bool.and_false]; rfl))
  subst hq
  have hv : o_wind x (nI i) (nI j) (nI m) (nI r) = .inl (swi x (x.2.1 i) j m r (2 ^ m)) := by
    unfold o_wind
    rw [ei, hzw, isrb_t (by omega) m1 hm, isrb_t (by omega) (by omega) hr', nI_clamp (by omega), nI_clamp (by omega), nI_clamp (by omega)]
    rfl
  have l2 := p2le m hm
  have l10 := p10le m hm
  have : ∀ b, b ≤ 2 ^ m → ∀ g1, qf D g g1 → hwi (d + 7) zm_X7_wind k X 29 [(0, .ref 1000), (1, .int (nI i)), (2, .int (nI j)), (3, .int (nI m)), (4, .int (nI r)), (5, .int (swi x (x.2.1 i) j m r b)), (6, .int (nI b))] g1 e := by
    refine hdown ?_ ?_
    · intro g1 q1
      refine zh_X7_wind_29 (zbr_t ?_ (oc_l (H g1 q1) hv))
      rw [p2I m hm]
      exact nI_le (Nat.le_refl _) (by omega)
    · intro b hb W g1 q1
      have lw := swg_le (b := b) hr' m
      refine zh_X7_wind_29 (zbr_f (by rw [p2I m hm]; exact nI_ge hb (by omega)) (c_weightOf hm hr' ?_))
      have W0 : ∀ g2, qf D g g2 → bt (szw x b (x.2.1 i) m).2.2.2.2.1 j = false ∨ swg b r m = 0 → hwi (d + 7) zm_X7_wind k X 29 [(0, .ref 1000), (1, .int (nI i)), (2, .int (nI j)), (3, .int (nI m)), (4, .int (nI r)), (5, .int (swi x (x.2.1 i) j m r b)), (6, .int (nI b + 1))] g2 e := by
        intro g2 q2 h
        have W' := W g2 q2
        rw [nI_succ] at W'
        unfold swi at W'
        by_cases c : bt (szw x b (x.2.1 i) m).2.2.2.2.1 j = true
        · rcases h with h | h
          · rw [h] at c; cases c
          · rw [if_pos c, h, show nI 0 = 0 from rfl, Int32.add_zero] at W'
            exact W'
        · rw [if_neg c] at W'
          exact W'
      refine ⟨fun c => W0 g1 q1 (.inr ?_), fun c => c_closedInWind (cdr_qf q1 hc) hr hi (by omega) hm (fun g2 q2 => ?_)⟩
      · apply Nat.eq_zero_of_not_pos
        intro z
        exact nI_ge (a := 0) z (by omega) c
      · cases c2 : bt (szw x b (x.2.1 i) m).2.2.2.2.1 j with
        | false => exact zbr_t rfl (W0 g2 (q1.trans q2) (.inl c2))
        | true =>
          refine zbr_f (by decide) ?_
          have W' := W g2 (q1.trans q2)
          rw [nI_succ] at W'
          unfold swi at W'
          rw [if_pos c2] at W'
          exact W'
  exact this 0 (Nat.zero_le _) g qf.refl
theorem mq_wind (hm : mdr g x) {z p n q : Int32} (H : ∀ g' u, fr qL qF g g' → mdr g' x → om c12 (o_wind x z p n q) u g' → k u g' e) : hci (d + 8) 323 [.ref 1046, .int z, .int p, .int n, .int q] g e k X := by
  have h4 := hm.1.1.2
  have ht := hm.2.2.2.2
  have hm0 : mdr (sI g 1046 4 0) x := mdr_code hm
  refine zh_X8_wind (cm_isPlace hm0.1 (fun i hi hv j hj hp => zbr_f (by decide) ?_) (fun h => zbr_t rfl (cm_failQ (cd := c12) (n := 1) hm0 fr_code (by unfold o_wind; rw [iszb_f (by omega) h]; rfl) H)) (fun i hi hv h => zbr_t rfl (cm_failQ (cd := c12) (n := 1) hm0 fr_code ?_ H)))
  case refine_2 =>
    subst hv
    have := (hm0.1.2 i hi).2.1.2
    unfold o_wind
    rw [nI_clamp (by omega), iszb_f (n := (x.2.1 i).1) (by omega) h, Bool.and_false]
    rfl
  subst hv
  subst hp
  have n2 := (hm0.1.2 i hi).2.1.2
  have ei : (nI i).toNatClampNeg = i := nI_clamp (by omega)
  have hi4 : hin (nI i) 4 := nI_in (by omega) (by omega)
  have hzw : (iszb x.1 (nI i) && iszb (x.2.1 i).1 (nI j)) = true := by rw [iszb_t (by omega) hi, iszb_t (by omega) hj]; rfl
  refine cm_isInR (a := 1) (b := 5) (by omega) (by omega) (by decide) (by decide) (fun m m1 hmm hn => zbr_f (by decide) ?_) (fun h => zbr_t rfl (cm_failQ (cd := c12) (n := 0) hm0 fr_code (by unfold o_wind; rw [ei, hzw, isrb_f (a := 1) (by omega) (by omega) h]; rfl) H))
  subst hn
  refine cm_isInR (a := 0) (b := 10) (by omega) (by omega) (by decide) (by decide) (fun r _ hr' hq => zbr_f (by decide) ?_) (fun h => zbr_t rfl (cm_failQ (cd := c12) (n := 0) hm0 fr_code (by unfold o_wind; rw [ei, hzw, isrb_f (a := 0) (by omega) (by omega) h, Bool.and_false]; rfl) H))
  subst hq
  have hv : o_wind x (nI i) (nI j) (nI m) (nI r) = .inl (swi x (x.2.1 i) j m r (2 ^ m)) := by
    unfold o_wind
    rw [ei, hzw, isrb_t (by omega) m1 hmm, isrb_t (by omega) (by omega) hr', nI_clamp (by omega), nI_clamp (by omega), nI_clamp (by omega)]
    rfl
  have HK := mqk_in hv H
  have l2 := p2le m hmm
  refine sim_begin hm0 code_at (fun f s0 => ?_)
  have : ∀ b, b ≤ 2 ^ m → ∀ g1, sim (sI g 1046 4 0) x f g1 x.2.1 x.2.2.2.2.2 → mdr g1 x → hwi (d + 7) zm_X8_wind k X 66 [(0, .ref 1046), (1, .int (nI i)), (2, .int (nI j)), (3, .int (nI m)), (4, .int (nI r)), (5, .int (swi x (x.2.1 i) j m r b)), (6, .int (nI b))] g1 e := by
    refine hdown ?_ ?_
    · intro g1 s1 m1
      refine zh_X8_wind_66 (zbr_t ?_ (HK g1 s1.2.1.1 m1 s1.2.1.2.2))
      rw [p2I m hmm]
      exact nI_le (Nat.le_refl _) (by omega)
    · intro b hb W g1 s1 m1
      refine zh_X8_wind_66 (zbr_f (by rw [p2I m hmm]; exact nI_ge hb (by omega)) ?_)
      have inner : ∀ t, t ≤ m → ∀ g2, sim (sI g 1046 4 0) x f g2 (fun z => szw x b (x.2.1 z) t) (x.2.2.2.2.2 + t) → hwi (d + 7) zm_X8_wind k X 80 [(0, .ref 1046), (1, .int (nI i)), (2, .int (nI j)), (3, .int (nI m)), (4, .int (nI r)), (5, .int (swi x (x.2.1 i) j m r b)), (6, .int (nI b)), (7, .int (nI (swg b r t))), (8, .int (nI t))] g2 e := by
        refine hdown ?_ ?_
        · intro g2 s2
          refine zh_X8_wind_80 (zbr_t (nI_le (Nat.le_refl _) (by omega)) ⟨hi4, ?_⟩)
          rw [ei, (s2.2.2.1.2 i hi).1.2.2.2.2.1]
          refine cm_isOf (by omega) ?_
          have fin : ∀ v, v = swi x (x.2.1 i) j m r (b + 1) → hcv (d + 7) 250 [.ref 1046, .ref 1070, .int 0] g2 e (fun g5 e6 => hwi (d + 7) zm_X8_wind k X 66 [(0, .ref 1046), (1, .int (nI i)), (2, .int (nI j)), (3, .int (nI m)), (4, .int (nI r)), (5, .int v), (6, .int (nI b + 1))] g5 e6) X := by
            intro v hv
            refine sim_end s2 (fun g3 f3 m3 c3 u3 => ?_)
            have W' := W g3 (sim_again s2 f3 m3 c3 u3) m3
            rw [nI_succ, ← hv] at W'
            exact W'
          cases c : bt (szw x b (x.2.1 i) m).2.2.2.2.1 j with
          | false => exact zbr_t rfl (fin _ (by rw [Int32.add_zero, show swi x (x.2.1 i) j m r (b + 1) = if bt (szw x b (x.2.1 i) m).2.2.2.2.1 j = true then swi x (x.2.1 i) j m r b + nI (swg b r m) else swi x (x.2.1 i) j m r b from rfl, if_neg (by rw [c]; decide)]))
          | true => exact zbr_f (by decide) (fin _ (by rw [show swi x (x.2.1 i) j m r (b + 1) = if bt (szw x b (x.2.1 i) m).2.2.2.2.1 j = true then swi x (x.2.1 i) j m r b + nI (swg b r m) else swi x (x.2.1 i) j m r b from rfl, if_pos c]))
        · intro t ht W2 g2 s2
          rw [nI_succ] at W2
          refine zh_X8_wind_80 (zbr_f (nI_ge ht (by omega)) (cm_isOf (by omega) ?_))
          rw [nI_10 hr', nI_mulN, nI_mulN]
          unfold swg szw at W2
          cases c : bt (nI b) t with
          | false =>
            rw [c] at W2
            refine zbr_t rfl (cm_isOf (by omega) ?_)
            rw [c]
            exact zbr_t rfl (sim_day s2 (by omega) (fun g3 s3 _ => W2 g3 s3))
          | true =>
            rw [c] at W2
            refine zbr_f (by decide) (cm_isOf (by omega) ?_)
            rw [c]
            exact zbr_f (by decide) (sim_day s2 (by omega) (fun g3 s3 _ => W2 g3 s3))
      exact inner 0 (Nat.zero_le _) g1 s1
  exact this 0 (Nat.zero_le _) _ s0 (mdr_fr (L := [1070]) (F := []) (fr_aI (by decide) (by decide)) (by decide) (by decide) hm0)
end
