/-! MATES in the model -/
def mtab (x : sX) (g : hG) (R : Nat) : Prop := ∀ r, r ≤ R → ∀ u, u < 2 ^ x.1 → g.1 1072 (16 * (x.1 - r) + u) = iI (mtT (swm x) x.1 r u)
section
variable {d : Nat} {k : Int32 → hG → hE → Prop} {kv : hG → hE → Prop} {X : Nat → hG → hE → Prop} {g : hG} {e : hE} {x : sX}
theorem cm_matedWith (hm : ms g x.1 x.2.1) {R r i j u : Nat} (ht : mtab x g R) (hr : r ≤ R) (hi : i + 1 + r = x.1) (hj : j < x.1) (hu : u < 2 ^ x.1) (H : k (iI (mtf (swm x) (mtT (swm x) x.1 r) i u j)) g e) : hci (d + 4) 307 [.ref 1046, .int (nI i), .int (nI j), .int (nI u)] g e k X := by
  have h4 := hm.1.2
  have p2 := (mu_p2 x.1 (by omega)).2
  have hu' : u < 16 := by omega
  have zi := hm.2 i (by omega)
  have zj := hm.2 j hj
  have n2 := zi.2.1.2
  have m2 := zj.2.1.2
  refine zh_X8_matedWith (cm_isOf (by omega) ?_)
  rw [mu_bt u hu' j (by omega)]
  cases c1 : u.testBit j with
  | true =>
    refine zbr_f (by decide) ?_
    rw [show mtf (swm x) (mtT (swm x) x.1 r) i u j = -1000000 by unfold mtf; rw [if_pos c1]] at H
    exact H
  | false =>
    refine zbr_t rfl ⟨nI_in (by omega) (by omega), nI_in (by omega) (by omega), ?_⟩
    rw [nI_clamp (by omega), nI_clamp (by omega), zi.1.1, zj.1.1]
    refine ⟨fun c2 => ?_, fun c2 => ?_⟩
    · have sz := (nI_eq (by omega) (by omega)).mp c2
      rw [show (0 : Int32) = hiT (x.2.1 j) ((x.2.1 j).1 - 1) from (hiT_0 zj.2.1.1).symm]
      refine cm_sewnAt (by omega) (by omega) zi.1 zj.1 zi.2 zj.2 (by omega) ?_
      have hle := sofN_le (r := x.2.1 j) zi.2 (t := (x.2.1 j).1 - 1) (x.2.1 j).1
      have hsw : swm x i j = some (sofN (x.2.1 i) (x.2.1 j) ((x.2.1 j).1 - 1) (x.2.1 j).1) := by
        unfold swm
        rw [if_pos sz, Nat.min_eq_right (by omega)]
      have o1 := mu_or u hu' j (by omega)
      rw [soff_N, nI_1, o1.1, mu_ix _ (by omega) _ o1.2, nI_clamp (by omega)]
      refine ⟨nI_in (by omega) (by omega), ?_⟩
      have t1 := ht r hr (u ||| 2 ^ j) (mu_orn _ (by omega) _ hu _ hj)
      rw [show x.1 - r = i + 1 by omega] at t1
      rw [mtf_y c1 hsw] at H
      rw [t1, iI_nI, iI_add]
      exact H
    · have hsw : swm x i j = none := by
        unfold swm
        rw [if_neg (fun z => c2 (by rw [z]))]
      rw [show mtf (swm x) (mtT (swm x) x.1 r) i u j = -1000000 by unfold mtf; rw [if_neg (by rw [c1]; exact Bool.false_ne_true), hsw]] at H
      exact H
theorem cm_tellMates (hm : ms g x.1 x.2.1) (H : ∀ g', fr [1072] [] g g' → mtab x g' x.1 → kv g' e) : hcv (d + 6) 308 [.ref 1046] g e kv X := by
  have h4 := hm.1.2
  obtain ⟨p1, p2⟩ := mu_p2 x.1 (by omega)
  have P : 2 ^ x.1 < 2 ^ 31 := by omega
  refine zh_X8_tellMates ?_
  rw [hm.1.1]
  have ms' : ∀ {g' : hG}, fr [1072] [] g g' → ms g' x.1 x.2.1 := fun f => ⟨⟨by rw [f.1 1050 (by decide) (by decide)]; exact hm.1.1, h4⟩, fun z hz => ⟨mz_cg (hm.2 z hz).1 (f.1 _ (by decide) (by decide)) (f.1 _ (by decide) (by decide)) (f.1 _ (by decide) (by decide)) (f.1 _ (by decide) (by decide)) (f.1 _ (by decide) (by decide)) (f.1 _ (by decide) (by decide)), (hm.2 z hz).2⟩⟩
  have lev : ∀ m R, m + R = x.1 → ∀ g1, fr [1072] [] g g1 → mtab x g1 R → hwv (d + 5) zm_X8_tellMates kv X 37 [(0, .ref 1046), (1, .int (nI x.1)), (2, .int (nI m + (-1)))] g1 e := by
    intro m
    induction m with
    | zero =>
      intro R hR g1 f1 t1
      refine zh_X8_tellMates_37 (zbr_t (by decide) (H g1 f1 ?_))
      rw [show R = x.1 by omega] at t1
      exact t1
    | succ m ih =>
      intro R hR g1 f1 t1
      rw [nI_p1m]
      refine zh_X8_tellMates_37 (zbr_f (fun z => nI_pos (by omega) z) ?_)
      have inner : ∀ u, u ≤ 2 ^ x.1 → ∀ g2, fr [1072] [] g g2 → mtab x g2 R → (∀ v, v < u → g2.1 1072 (16 * m + v) = iI (mtT (swm x) x.1 (R + 1) v)) → hwv (d + 5) zm_X8_tellMates kv X 43 [(0, .ref 1046), (1, .int (nI x.1)), (2, .int (nI m)), (3, .int (nI u))] g2 e := by
        refine hdown ?_ ?_
        · intro g2 f2 t2 h2
          refine zh_X8_tellMates_43 (zbr_t (by rw [p1]; exact nI_le (Nat.le_refl _) (by omega)) (ih (R + 1) (by omega) g2 f2 (fun r hr u hu => ?_)))
          by_cases c : r = R + 1
          · subst c
            rw [show x.1 - (R + 1) = m by omega]
            exact h2 u hu
          · exact t2 r (by omega) u hu
        · intro u hu W g2 f2 t2 h2
          have u16 : u < 16 := by omega
          refine zh_X8_tellMates_43 (zbr_f (by rw [p1]; exact nI_ge hu (by omega)) ?_)
          refine hdown (W := fun j => hwv (d + 5) zm_X8_tellMates kv X 58 [(0, .ref 1046), (1, .int (nI x.1)), (2, .int (nI m)), (3, .int (nI u)), (4, .int (iI (mmx (mtf (swm x) (mtT (swm x) x.1 R) m u) j))), (5, .int (nI j))] g2 e) (n := x.1) ?_ ?_ 0 (Nat.zero_le _)
          · refine zh_X8_tellMates_58 (zbr_t (nI_le (Nat.le_refl _) (by omega)) ?_)
            rw [mu_ix _ (by omega) _ u16, nI_clamp (by omega), nI_1]
            have eT : mmx (mtf (swm x) (mtT (swm x) x.1 R) m u) x.1 = mtT (swm x) x.1 (R + 1) u := by
              show _ = mmx (mtf (swm x) (mtT (swm x) x.1 R) (x.1 - 1 - R) u) x.1
              rw [show x.1 - 1 - R = m by omega]
            rw [eT]
            refine ⟨nI_in (by omega) (by omega), W _ (f2.I (by decide) (by decide)) (fun r hr v hv => ?_) (fun v hv => ?_)⟩
            · rw [sI_at, upd_off _ _ (by omega)]
              exact t2 r hr v hv
            · rw [sI_at]
              by_cases c : v = u
              · subst c; rw [upd_at]
              · rw [upd_off _ _ (by omega)]
                exact h2 v (by omega)
          · intro j hj W2
            refine zh_X8_tellMates_58 (zbr_f (nI_ge hj (by omega)) (cm_matedWith (ms' f2) t2 (Nat.le_refl R) (by omega) hj hu (c_max ?_)))
            have b1 := mmx_lo (f := mtf (swm x) (mtT (swm x) x.1 R) m u) j
            have b2 := mmx_bd h4 (swm_le x) (r := R) (u := u) (i := m) (by omega) j
            have b3 := mtf_bd h4 (swm_le x) (r := R) (u := u) (i := m) (j := j) (by omega)
            rw [imx_iI (by omega) (by omega) (by omega) (by omega), nI_1]
            exact W2
      exact inner 0 (Nat.zero_le _) g1 f1 t1 (fun v h => absurd h (by omega))
  have fst : ∀ u, u ≤ 2 ^ x.1 → ∀ g1, fr [1072] [] g g1 → (∀ v, v < u → g1.1 1072 (16 * x.1 + v) = 0) → hwv (d + 5) zm_X8_tellMates kv X 9 [(0, .ref 1046), (1, .int (nI x.1)), (2, .int (nI u))] g1 e := by
    refine hdown ?_ ?_
    · intro g1 f1 h1
      refine zh_X8_tellMates_9 (zbr_t (by rw [p1]; exact nI_le (Nat.le_refl _) (by omega)) ?_)
      rw [show nI x.1 - 1 = nI x.1 + (-1) from Int32.sub_eq_add_neg ..]
      refine lev x.1 0 (by omega) g1 f1 (fun r hr u hu => ?_)
      have : r = 0 := by omega
      subst this
      exact h1 u hu
    · intro u hu W g1 f1 h1
      refine zh_X8_tellMates_9 (zbr_f (by rw [p1]; exact nI_ge hu (by omega)) ?_)
      rw [mu_ix _ (by omega) _ (by omega), nI_clamp (by omega), nI_1]
      refine ⟨nI_in (by omega) (by omega), W _ (f1.I (by decide) (by decide)) (fun v hv => ?_)⟩
      rw [sI_at]
      by_cases c : v = u
      · subst c; rw [upd_at]
      · rw [upd_off _ _ (by omega)]
        exact h1 v (by omega)
  exact fst 0 (Nat.zero_le _) g fr.refl (fun v h => absurd h (by omega))
theorem mi_pick {f : Nat → Int} {M : Int} {j : Nat} {v : Int32} : (if mfi f M (j + 1) < j + 1 then nI (mfi f M (j + 1)) else v) = (if mfi f M j < j then nI (mfi f M j) else if f j = M then nI j else v) := by
  rw [show mfi f M (j + 1) = (if mfi f M j < j then mfi f M j else if f j = M then j else j + 1) from rfl]
  by_cases c : mfi f M j < j
  · rw [if_pos c, if_pos c, if_pos (by omega)]
  · rw [if_neg c, if_neg c]
    by_cases c2 : f j = M
    · rw [if_pos c2, if_pos c2, if_pos (by omega)]
    · rw [if_neg c2, if_neg c2, if_neg (by omega)]
theorem mq_mates (hm : mdr g x) {z : Int32} (H : ∀ g' u, fr qL qF g g' → mdr g' x → om c12 (o_mates x z) u g' → k u g' e) : hci (d + 7) 309 [.ref 1046, .int z] g e k X := by
  have h4 := hm.1.1.2
  have hm0 : mdr (sI g 1046 4 0) x := mdr_code hm
  obtain ⟨p1, p2⟩ := mu_p2 x.1 (by omega)
  have key : ∀ v : Int32, v ≤ nI x.1 - 1 ↔ v < nI x.1 := by
    intro v
    rw [Int32.le_iff_toInt_le, Int32.lt_iff_toInt_lt, show (nI x.1 - 1).toInt = (x.1 : Int) - 1 from pk_sub_toInt (b := 1) (by omega) (by omega), nI_toInt (by omega)]
    omega
  have hcode : (sI g 1046 4 0).1 1046 4 = 0 := code_at
  have HF : ∀ u, (o_mates x z = .inl u) → ∀ g', fr [1072] [] (sI g 1046 4 0) g' → k u g' e := fun u hu g' f => H g' u (fr_code.trans (f.sub (by decide) (by decide))) (mdr_fr f (by decide) (by decide) hm0) (om_l hu (by rw [f.2.1 4 (by decide)]; exact hcode))
  have HX : o_mates x z = .inr 1 → hci (d + 6) 215 [.ref 1046, .int 1] (sI g 1046 4 0) e (fun x7 g5 e6 => k x7 g5 e6) X := fun h => cm_failQ (cd := c12) (n := 1) hm0 fr_code h H
  clear H
  refine zh_X8_mates ?_
  rw [show (sI g 1046 4 0).1 1050 0 = nI x.1 from hm0.1.1.1]
  generalize sI g 1046 4 0 = g0 at *
  have ok0 := mt_ok (w := swm x) (fun i _ => swm_id x i) x.1 (Nat.le_refl _) 0 (fun j _ => Nat.zero_testBit j)
  refine cm_isIn (a := -1) (fun c c2 => zbr_f (by decide) (cm_tellMates hm0.1 (fun g1 f1 t1 => ?_))) (fun c => zbr_t rfl (HX ?_))
  · refine ⟨fun c3 => ?_, fun c3 => ?_⟩
    · have := t1 x.1 (Nat.le_refl _) 0 (Nat.pow_pos (by omega))
      rw [Nat.sub_self] at this
      rw [show g1.1 1072 0 = iI (mtT (swm x) x.1 x.1 0) from this]
      exact HF _ (by unfold o_mates; rw [if_pos c3]) g1 f1
    · have m1 : ms g1 x.1 x.2.1 := (mdr_fr f1 (by decide) (by decide) hm0).1
      have hz : isz x.1 z := by
        rcases isz_or (show x.1 < 2 ^ 31 by omega) z with h | h | h
        · exact h
        · exfalso
          rw [Int32.lt_iff_toInt_lt] at c h
          apply c3
          apply Int32.toInt_inj.mp
          have e1 : (-1 : Int32).toInt = -1 := by decide
          have e2 : (0 : Int32).toInt = 0 := by decide
          rw [e1] at c ⊢
          rw [e2] at h
          omega
        · exact absurd ((key z).mp c2) (Int32.not_lt.mpr h)
      obtain ⟨y, hy, rfl⟩ := hz
      have hv : o_mates x (nI y) = .inl (nI (v_mates x y)) := by
        unfold o_mates
        rw [if_neg c3, iszb_t (by omega) hy, nI_clamp (by omega)]
        rfl
      have K := HF _ hv g1 f1
      obtain ⟨G, hG⟩ : ∃ G, G = mtG (swm x) x.1 x.1 0 := ⟨_, rfl⟩
      unfold v_mates at K
      rw [← hG] at K
      have main := mt_main h4 (swm_le x)
      have row : ∀ r i u, i + r = x.1 → i ≤ y → u < 2 ^ x.1 → 0 ≤ mtT (swm x) x.1 r u → mtG (swm x) x.1 r u = G % 4 ^ r → ∀ v, hwi (d + 6) zm_X8_mates k X 54 [(0, .ref 1046), (1, .int (nI y)), (2, .int (nI u)), (3, .int v), (4, .int (nI i))] g1 e := by
        intro r
        induction r with
        | zero => intro i u h1 h2; exact absurd h2 (by omega)
        | succ r ih =>
          intro i u h1 h2 hu ht0 hGr v
          refine zh_X8_mates_54 (zbr_f (nI_nlt h2 (by omega)) ?_)
          rw [m1.1.1]
          obtain ⟨q1, q2, ⟨a, q3, q4⟩, q5, q6⟩ := mt_ch (swm_le x) (main r (by omega)) (by omega) ht0
          have hGd : mtj (swm x) x.1 r u = G / 4 ^ r % 4 ∧ mtG (swm x) x.1 r (u ||| 2 ^ mtj (swm x) x.1 r u) = G % 4 ^ r := by
            obtain ⟨d1, d2⟩ := mt_dig (j := mtj (swm x) x.1 r u) q5.2.2.1
            rw [show mtG (swm x) x.1 (r + 1) u = mtj (swm x) x.1 r u * 4 ^ r + mtG (swm x) x.1 r (u ||| 2 ^ mtj (swm x) x.1 r u) from rfl] at hGr
            rw [hGr] at d1 d2
            refine ⟨?_, ?_⟩
            · rw [← d1, Nat.pow_succ, Nat.mod_mul_right_div_self]
            · rw [← d2]; exact Nat.mod_mod_of_dvd _ ⟨4, Nat.pow_succ ..⟩
          have scan : ∀ j, j ≤ x.1 → ∀ v, hwi (d + 6) zm_X8_mates k X 72 [(0, .ref 1046), (1, .int (nI y)), (2, .int (nI u)), (3, .int (if mfi (mtf (swm x) (mtT (swm x) x.1 r) i u) (mtT (swm x) x.1 (r + 1) u) j < j then nI (mfi (mtf (swm x) (mtT (swm x) x.1 r) i u) (mtT (swm x) x.1 (r + 1) u) j) else v)), (4, .int (nI i)), (5, .int (-1))] g1 e → hwi (d + 6) zm_X8_mates k X 72 [(0, .ref 1046), (1, .int (nI y)), (2, .int (nI u)), (3, .int v), (4, .int (nI i)), (5, .int (nI j + (-1)))] g1 e := by
            intro j
            induction j with
            | zero =>
              intro _ v F
              rw [if_neg (Nat.not_lt_zero _)] at F
              exact F
            | succ j ih2 =>
              intro hj v F
              rw [mi_pick] at F
              rw [nI_p1m]
              have u16 : u < 16 := by omega
              have zi := m1.2 i (by omega)
              have zj := m1.2 j (by omega)
              have n2 := zi.2.1.2
              have m2 := zj.2.1.2
              refine zh_X8_mates_72 (zbr_f (fun z => nI_pos (by omega) z) (cm_isOf (by omega) ?_))
              rw [mu_bt u u16 j (by omega)]
              have no : mtf (swm x) (mtT (swm x) x.1 r) i u j = -1000000 → hwi (d + 6) zm_X8_mates k X 72 [(0, .ref 1046), (1, .int (nI y)), (2, .int (nI u)), (3, .int v), (4, .int (nI i)), (5, .int (nI j + (-1)))] g1 e := by
                intro h
                rw [if_neg (c := mtf (swm x) (mtT (swm x) x.1 r) i u j = mtT (swm x) x.1 (r + 1) u) (by rw [h]; omega)] at F
                exact ih2 (by omega) v F
              cases b1 : u.testBit j with
              | true => exact zbr_f (by decide) (no (by unfold mtf; rw [if_pos b1]))
              | false =>
                refine zbr_t rfl ⟨nI_in (by omega) (by omega), nI_in (by omega) (by omega), ?_⟩
                rw [nI_clamp (by omega), nI_clamp (by omega), zi.1.1, zj.1.1]
                refine ⟨fun s1 => cm_matedWith m1 t1 (r := r) (by omega) (by omega) (by omega) hu ?_, fun s1 => no ?_⟩
                · have t2 := t1 (r + 1) (by omega) u hu
                  rw [show x.1 - (r + 1) = i by omega] at t2
                  rw [mu_ix _ (by omega) _ u16, nI_clamp (by omega), t2]
                  have b3 := mtf_bd h4 (swm_le x) (r := r) (u := u) (i := i) (j := j) (by omega)
                  have b4 := mt_bd h4 (swm_le x) (r := r + 1) (u := u) (by omega)
                  refine ⟨nI_in (by omega) (by omega), fun s2 => ?_, fun s2 => ?_⟩
                  · rw [if_pos (c := mtf (swm x) (mtT (swm x) x.1 r) i u j = mtT (swm x) x.1 (r + 1) u) ((iI_eq (by omega) (by omega) (by omega) (by omega)).mp s2)] at F
                    exact ih2 (by omega) (nI j) F
                  · rw [if_neg (c := mtf (swm x) (mtT (swm x) x.1 r) i u j = mtT (swm x) x.1 (r + 1) u) (fun w => s2 ((iI_eq (by omega) (by omega) (by omega) (by omega)).mpr w))] at F
                    exact ih2 (by omega) v F
                · have hsw : swm x i j = none := by
                    unfold swm
                    rw [if_neg (fun z => s1 (by rw [z]))]
                  unfold mtf
                  rw [if_neg (by rw [b1]; exact Bool.false_ne_true), hsw]
          have ej : mtj (swm x) x.1 r u = mfi (mtf (swm x) (mtT (swm x) x.1 r) i u) (mtT (swm x) x.1 (r + 1) u) x.1 := by
            unfold mtj
            rw [show x.1 - 1 - r = i by omega]
          rw [show nI x.1 - 1 = nI x.1 + (-1) from Int32.sub_eq_add_neg ..]
          refine scan x.1 (Nat.le_refl _) (-1) ?_
          rw [← ej, if_pos q1]
          refine zh_X8_mates_72 (zbr_t (by decide) ?_)
          have u16 : u < 16 := by omega
          rw [(mu_or u u16 _ (by omega)).1, nI_1]
          by_cases ly : i = y
          · subst ly
            refine zh_X8_mates_54 (zbr_t (nI_lt (by omega) (by omega)) ?_)
            rw [hGd.1]
            rw [show x.1 - 1 - i = r by omega] at K
            exact K
          · exact ih (i + 1) _ (by omega) (by omega) (mu_orn _ (by omega) _ hu _ q1) q5.1 hGd.2 _
      have GG : mtG (swm x) x.1 x.1 0 = G % 4 ^ x.1 := by
        rcases main x.1 h4 0 with ⟨w, _⟩ | ⟨_, _, w, _⟩
        · exact absurd ok0 (by omega)
        · rw [hG, Nat.mod_eq_of_lt w]
      exact row x.1 0 0 (by omega) (by omega) (Nat.pow_pos (by omega)) ok0 GG (-1)
  · have n1 : ¬ z = -1 := by
      rintro rfl
      rcases c with c | c
      · exact absurd c (by decide)
      · apply c
        rw [key, Int32.lt_iff_toInt_lt, nI_toInt (by omega)]
        have e1 : (-1 : Int32).toInt = -1 := by decide
        rw [e1]
        omega
    unfold o_mates
    rw [if_neg n1, iszb_f (by omega) (fun h => ?_)]
    · rfl
    · obtain ⟨i, hi, rfl⟩ := h
      rcases c with c | c
      · rw [Int32.lt_iff_toInt_lt, nI_toInt (by omega)] at c
        have e1 : (-1 : Int32).toInt = -1 := by decide
        rw [e1] at c
        omega
      · exact c ((key _).mpr (nI_lt hi (by omega)))
end
