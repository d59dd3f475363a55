/-! lines and DRAWER in the model -/
section
variable {d : Nat} {k : Int32 → hG → hE → Prop} {kv : hG → hE → Prop} {X : Nat → hG → hE → Prop} {g : hG} {e : hE} {T : sT} {t : tok} {L : List tk} {y : sY} {x : sX} {s : sS}
theorem cm_whichS (hm : mps g T t) (hw : wtk T t) (H : k (if isW T t (htx 1) = true then nI 0 else if isW T t (htx 2) = true then nI 1 else -1) g e) : hci (d + 7) 230 [.ref 1046, .ref 1047] g e k X := by
  have a5 : hT 1047 = some (.inl (4, 2)) := rfl
  refine zh_X8_which a5 ?_
  refine zh_X8_which_2 (l2 := nI 0) a5 (zbr_f (by decide) ⟨30, nI_in (by omega) (by omega), rfl, by decide, cm_is (p := 30) hm hw (by decide) ?_⟩)
  cases q0 : isW T t (htx 1) with
  | true => rw [if_pos q0] at H; exact zbr_f (by rw [show isW T t (htx (30 / 2)) = true from q0]; decide) H
  | false =>
    rw [if_neg (by rw [q0]; decide)] at H
    refine zbr_t (by rw [show isW T t (htx (30 / 2)) = false from q0]; rfl) (zh_X8_which_2 (l2 := nI 1) a5 (zbr_f (by decide) ⟨32, nI_in (by omega) (by omega), rfl, by decide, cm_is (p := 32) hm hw (by decide) ?_⟩))
    cases q1 : isW T t (htx 2) with
    | true => rw [if_pos q1] at H; exact zbr_f (by rw [show isW T t (htx (32 / 2)) = true from q1]; decide) H
    | false =>
      rw [if_neg (by rw [q1]; decide)] at H
      exact zbr_t (by rw [show isW T t (htx (32 / 2)) = false from q1]; rfl) (zh_X8_which_2 (l2 := nI 2) a5 (zbr_t (by decide) H))
theorem isW_2 {a b : List Nat} (h : isW T t a = true) (h' : isW T t b = true) (hn : ¬ a.length = b.length ∨ ∃ i, i < a.length ∧ i < b.length ∧ ¬ a.getD i 0 = b.getD i 0) : False := by
  obtain ⟨-, h1, h2⟩ := isW_t.mp h
  obtain ⟨-, k1, k2⟩ := isW_t.mp h'
  rcases hn with hn | ⟨i, i1, i2, i3⟩
  · exact hn (by rw [← h1, ← k1])
  · exact i3 (by rw [← h2 i i1, ← k2 i i2])
theorem pz_l {c : Nat} {q : Nat × Nat} (h : ¬ y.1.length = 4) (hq : pleft T 17 (tkn T t.2.2.1) [] = .inr q) : pzip T c y t = .inr q := by
  unfold pzip
  rw [if_neg h]
  simp only [hq]
theorem pz_r {c : Nat} {q : tok × List Nat} {r : Nat × Nat} (h : ¬ y.1.length = 4) (hq : pleft T 17 (tkn T t.2.2.1) [] = .inl q) (hr : pright T q.2.length q.1 [] = .inr r) : pzip T c y t = .inr r := by
  unfold pzip
  rw [if_neg h]
  simp only [hq, hr]
theorem pz_y {c : Nat} {q r : tok × List Nat} (h : ¬ y.1.length = 4) (hq : pleft T 17 (tkn T t.2.2.1) [] = .inl q) (hr : pright T q.2.length q.1 [] = .inl r) : pzip T c y t = if isC T r.1 59 = true then .inl (tkn T r.1.2.2.1, (y.1 ++ [(c, q.2, r.2)], y.2)) else .inr (1, r.1.2.1) := by
  unfold pzip
  rw [if_neg h]
  simp only [hq, hr]
theorem ps_n {q : Nat × Nat} (h : y.2.1 = []) (hq : pstr T 9 (tkn T t.2.2.1) [] = .inr q) : pstrain T y t = .inr q := by
  unfold pstrain
  rw [if_neg (not_not_intro h)]
  simp only [hq]
theorem ps_y {q : tok × List Nat} (h : y.2.1 = []) (hq : pstr T 9 (tkn T t.2.2.1) [] = .inl q) : pstrain T y t = .inl (q.1, (y.1, q.2, y.2.2)) := by
  unfold pstrain
  rw [if_neg (not_not_intro h)]
  simp only [hq]
theorem pu_n {pu : Bool} {q : Nat × Nat} (h : (if pu = true then y.2.2.1 else y.2.2.2) = []) (hq : pany T pu 6 (tkn T t.2.2.1) = .inr q) : prule T pu y t = .inr q := by
  unfold prule
  rw [if_neg (not_not_intro h)]
  simp only [hq]
theorem pu_y {pu : Bool} {q : tok × List tk} (h : (if pu = true then y.2.2.1 else y.2.2.2) = []) (hq : pany T pu 6 (tkn T t.2.2.1) = .inl q) : prule T pu y t = if isC T q.1 59 = true then .inl (tkn T q.1.2.2.1, (y.1, y.2.1, if pu = true then (q.2, y.2.2.2) else (y.2.2.1, q.2))) else .inr (1, q.1.2.1) := by
  unfold prule
  rw [if_neg (not_not_intro h)]
  simp only [hq]
theorem m_zipA (hS : msy g T t y) (h0 : ¬ t.1 = 0) {c : Nat} (hc1 : c ≤ 1) (H : mOl T g e k (pzip T c y t)) : hcv (d + 60) 241 [.ref 1046, .int (nI c)] g e (fun g5 e6 => hcv (d + 60) 232 [.ref 1046, .int 59] g5 e6 (fun g7 e8 => k (nI (dn y) ||| 0) g7 e8) X) X := by
  obtain ⟨hm, hw, wf, hc⟩ := id hS
  have or0 := (dn_an y).2.2.2.2
  have gd := pzip_gd hc1 hw h0 wf
  have fb : ∀ q, pzip T c y t = .inr q → ∀ g', mlf g g' → mbd g' q.1 q.2 → hcv (d + 60) 232 [.ref 1046, .int 59] g' e (fun g3 e4 => k (nI (dn y) ||| 0) g3 e4) X := fun q hq g' f' b' => cmb_mark b'.2.1 (by rw [hq] at H; exact H g' _ f' b')
  refine m_sayZip hm hw hc wf hc1 h0 (fun h4 g' f' b' => ?_) (fun h4 q hq g' f' b' => ?_) (fun h4 q hq r hr g' f' b' => ?_) (fun h4 q hq r hr g' f' m' c' => ?_)
  · exact fb (2, t.2.1) (by unfold pzip; rw [if_pos h4]) g' f' b'
  · exact fb q (pz_l h4 hq) g' f' b'
  · exact fb r (pz_r h4 hq hr) g' f' b'
  · have e1 := pz_y (c := c) h4 hq hr
    rw [e1] at H gd
    have gl := pleft_gd (t0 := tkn T t.2.2.1) 17 _ [] (nx_w hw).1 (Nat.le_refl _) (Nat.zero_le _) (fun v h => by cases h)
    rw [hq] at gl
    have gr' := pright_gd (t0 := q.1) q.2.length q.1 [] gl.1 (Nat.le_refl _) (fun v h => by cases h)
    rw [hr] at gr'
    rw [or0]
    refine cm_mark (c := 59) m' gr'.1 (by omega) (fun qs g2 f2 m2 => ?_) (fun qs g2 f2 b2 => ?_)
    · rw [if_pos qs] at H gd
      exact H g2 (f'.trans (mlf_p f2)) ⟨m2, gd.1, gd.2.2, msc_p f2 c'⟩
    · rw [if_neg (by rw [qs]; decide)] at H
      exact H g2 _ (f'.trans (mlf_p f2)) b2
theorem m_line (hS : msy g T t y) (h0 : ¬ t.1 = 0) (H : mOl T g e k (pline T y t)) : hci (d + 61) 244 [.ref 1046, .int (nI (dn y))] g e k X := by
  obtain ⟨hm, hw, wf, hc⟩ := id hS
  have h22 := hm.2.2.2.2.2.2
  have gd := pline_gd hw h0 wf
  obtain ⟨an1, an2, an4, an0, or0⟩ := dn_an y
  -- a line with a fault ends so
  have fb : ∀ q, pline T y t = .inr q → ∀ g' (v : Int32), mlf g g' → mbd g' q.1 q.2 → hcv (d + 60) 232 [.ref 1046, .int 59] g' e (fun g3 e4 => k v g3 e4) X := fun q hq g' v f' b' => cmb_mark b'.2.1 (by rw [hq] at H; exact H g' v f' b')
  have told : ∀ v l3 : Int32, ¬ l3 ≤ 0 → pline T y t = .inr (5, t.2.1) → hcv (d + 60) 228 [.ref 1046, .int 5] g e (fun g13 e14 => hwi (d + 60) zm_X8_readLine k X 63 [(0, .ref 1046), (1, .int v), (2, .int (-1)), (3, .int l3)] g13 e14) X := fun v l3 h3 hp => cm_wrong (c := 5) h22 hm.2.2.1 (by decide) (by decide) (fun g' f' b' => zh_X8_readLine_63 (zbr_f h3 (zbr_f b'.2.1 (zh_X8_readLine_82 (zbr_t rfl (cmb_wrong b'.2.1 (fb _ hp g' _ (mlf_p f') b')))))))
  have nz : ∀ a, isW T t a = false → ¬ isW T t a = true := fun a h => by rw [h]; decide
  refine zh_X8_readLine (cm_whichS hm hw ?_)
  cases q1 : isW T t (htx 1) with
  | true =>
    have hp : pline T y t = pzip T 0 y t := by unfold pline; rw [if_pos q1]
    have f3 : isW T t (htx 3) = false := Bool.eq_false_iff.mpr (fun z => isW_2 q1 z (.inl (by decide)))
    have f4 : isW T t (htx 4) = false := Bool.eq_false_iff.mpr (fun z => isW_2 q1 z (.inl (by decide)))
    have f5 : isW T t (htx 5) = false := Bool.eq_false_iff.mpr (fun z => isW_2 q1 z (.inl (by decide)))
    rw [if_pos rfl]
    refine cm_is (p := 34) hm hw (by decide) ?_
    rw [show isW T t (htx (34 / 2)) = false from f3]
    refine zbr_t rfl (cm_is (p := 54) hm hw (by decide) ?_)
    rw [show isW T t (htx (54 / 2)) = false from f4]
    refine zbr_t rfl (cm_is (p := 56) hm hw (by decide) ?_)
    rw [show isW T t (htx (56 / 2)) = false from f5]
    refine zbr_t rfl (zbr_t an0 (zh_X8_readLine_63 (zbr_t (by decide) (zh_X8_readLine_82 (zbr_f (by decide) ?_)))))
    exact m_zipA hS h0 (c := 0) (by omega) (by rw [hp] at H; exact H)
  | false =>
    rw [if_neg (by decide)]
    cases q2 : isW T t (htx 2) with
    | true =>
      have hp : pline T y t = pzip T 1 y t := by unfold pline; rw [if_neg (nz _ q1), if_pos q2]
      have f3 : isW T t (htx 3) = false := Bool.eq_false_iff.mpr (fun z => isW_2 q2 z (.inl (by decide)))
      have f4 : isW T t (htx 4) = false := Bool.eq_false_iff.mpr (fun z => isW_2 q2 z (.inl (by decide)))
      have f5 : isW T t (htx 5) = false := Bool.eq_false_iff.mpr (fun z => isW_2 q2 z (.inl (by decide)))
      rw [if_pos rfl]
      refine cm_is (p := 34) hm hw (by decide) ?_
      rw [show isW T t (htx (34 / 2)) = false from f3]
      refine zbr_t rfl (cm_is (p := 54) hm hw (by decide) ?_)
      rw [show isW T t (htx (54 / 2)) = false from f4]
      refine zbr_t rfl (cm_is (p := 56) hm hw (by decide) ?_)
      rw [show isW T t (htx (56 / 2)) = false from f5]
      refine zbr_t rfl (zbr_t an0 (zh_X8_readLine_63 (zbr_t (by decide) (zh_X8_readLine_82 (zbr_f (by decide) ?_)))))
      exact m_zipA hS h0 (c := 1) (by omega) (by rw [hp] at H; exact H)
    | false =>
      rw [if_neg (by decide)]
      refine cm_is (p := 34) hm hw (by decide) ?_
      cases q3 : isW T t (htx 3) with
      | true =>
        rw [show isW T t (htx (34 / 2)) = true from q3]
        have hp : pline T y t = pstrain T y t := by unfold pline; rw [if_neg (nz _ q1), if_neg (nz _ q2), if_pos q3]
        refine zbr_f (by decide) ⟨fun ca => ?_, fun ca => told _ 1 (by decide) (by rw [hp]; unfold pstrain; rw [if_pos (fun z => ca (an1.mpr z))])⟩
        have he := an1.mp ca
        have n2 := nx_w hw
        refine zh_X8_readLine_63 (zbr_f (by decide) (zbr_t h22 (zh_X8_sayOnce (cm_next hm hw (fun g1 f1 m1 => zbr_t rfl (m_sayStrain m1 n2.1 (msc_p f1 hc) he (fun q hq g' f' b' => ?_) (fun t1 s g' f' m' w' c' sne hq => ?_)))))))
        · exact fb q (hp.trans (ps_n he hq)) g' _ ((mlf_p f1).trans f') b'
        · refine cm_mark (c := 59) m' w' (by omega) (fun qs g2 f2 m2 => ?_) (fun qs g2 f2 b2 => ?_)
          · rw [if_pos qs] at hq
            rw [hp, ps_y he hq] at H gd
            rw [dn_or1 sne]
            exact H g2 (((mlf_p f1).trans f').trans (mlf_p f2)) ⟨m2, gd.1, gd.2.2, msc_p f2 c'⟩
          · rw [if_neg (by rw [qs]; decide)] at hq
            rw [hp, ps_n he hq] at H
            exact H g2 _ (((mlf_p f1).trans f').trans (mlf_p f2)) b2
      | false =>
        rw [show isW T t (htx (34 / 2)) = false from q3]
        refine zbr_t rfl (cm_is (p := 54) hm hw (by decide) ?_)
        have rule : ∀ pu : Bool, pline T y t = prule T pu y t → (if pu = true then y.2.2.1 else y.2.2.2) = [] → hwi (d + 60) zm_X8_readLine k X 63 [(0, .ref 1046), (1, .int (nI (dn y))), (2, .int (-1)), (3, .int (if pu = true then 2 else 4))] g e := by
          intro pu hp he
          refine zh_X8_readLine_63 (zbr_f (by cases pu <;> decide) (zbr_t h22 (m_ruleA hS h0 he (fun q hq g' f' b' => ?_) (fun q hq g' f' m' w' c' => ?_))))
          · exact fb q (hp.trans (pu_n he hq)) g' _ f' b'
          · have ga := pany_gd (T := T) (pu := pu) 6 _ (nx_w hw).1
            rw [hq] at ga
            have ne : ¬ q.2 = [] := pst_ne (by omega) ga.2.2
            refine cm_mark (c := 59) m' w' (by omega) (fun qs g2 f2 m2 => ?_) (fun qs g2 f2 b2 => ?_)
            · rw [hp, pu_y he hq] at H gd
              rw [if_pos qs] at H gd
              have fin := H g2 (f'.trans (mlf_p f2)) ⟨m2, gd.1, gd.2.2, msc_p f2 c'⟩
              cases pu with
              | true => have e1 := dn_or2 (y := y) ne; show k (nI (dn y) ||| 2) g2 e; rw [e1]; exact fin
              | false => have e1 := dn_or4 (y := y) ne; show k (nI (dn y) ||| 4) g2 e; rw [e1]; exact fin
            · rw [hp, pu_y he hq] at H
              rw [if_neg (by rw [qs]; decide)] at H
              exact H g2 _ (f'.trans (mlf_p f2)) b2
        cases q4 : isW T t (htx 4) with
        | true =>
          rw [show isW T t (htx (54 / 2)) = true from q4]
          have hp : pline T y t = prule T true y t := by unfold pline; rw [if_neg (nz _ q1), if_neg (nz _ q2), if_neg (nz _ q3), if_pos q4]
          exact zbr_f (by decide) ⟨fun ca => rule true hp (an2.mp ca), fun ca => told _ 2 (by decide) (hp.trans (if_pos (show ¬ (if true = true then y.2.2.1 else y.2.2.2) = [] from fun z => ca (an2.mpr z))))⟩
        | false =>
          rw [show isW T t (htx (54 / 2)) = false from q4]
          refine zbr_t rfl (cm_is (p := 56) hm hw (by decide) ?_)
          cases q5 : isW T t (htx 5) with
          | true =>
            rw [show isW T t (htx (56 / 2)) = true from q5]
            have hp : pline T y t = prule T false y t := by unfold pline; rw [if_neg (nz _ q1), if_neg (nz _ q2), if_neg (nz _ q3), if_neg (nz _ q4), if_pos q5]
            exact zbr_f (by decide) ⟨fun ca => rule false hp (an4.mp ca), fun ca => told _ 4 (by decide) (hp.trans (if_pos (show ¬ (if false = true then y.2.2.1 else y.2.2.2) = [] from fun z => ca (an4.mpr z))))⟩
          | false =>
            rw [show isW T t (htx (56 / 2)) = false from q5]
            have hp : pline T y t = .inr (1, t.2.1) := by unfold pline; rw [if_neg (nz _ q1), if_neg (nz _ q2), if_neg (nz _ q3), if_neg (nz _ q4), if_neg (nz _ q5)]
            exact zbr_t rfl (zbr_t an0 (zh_X8_readLine_63 (zbr_t (by decide) (zh_X8_readLine_82 (zbr_t rfl (cm_wrong (c := 1) h22 hm.2.2.1 (by decide) (by decide) (fun g' f' b' => fb _ hp g' _ (mlf_p f') b')))))))
end
