theorem wft_tok : ∀ (l : List tk) (n : Nat), wft l n → ∀ c, c ∈ l → (c.1 = 0 ∧ c.2 < 10000) ∨ (c.1 = 1 ∧ c.2 < 5) ∨ c.1 = 2 ∨ (c.1 = 3 ∧ c.2 < 8)
  | [], _, _, c, hc => by cases hc
  | (0, v) :: l, n, h, c, hc => by
    rcases List.mem_cons.mp hc with rfl | hc
    · exact .inl ⟨rfl, h.1⟩
    · exact wft_tok l _ h.2.2 c hc
  | (1, v) :: l, n, h, c, hc => by
    rcases List.mem_cons.mp hc with rfl | hc
    · exact .inr (.inl ⟨rfl, h.1⟩)
    · exact wft_tok l _ h.2.2 c hc
  | (2, v) :: l, n, h, c, hc => by
    rcases List.mem_cons.mp hc with rfl | hc
    · exact .inr (.inr (.inl rfl))
    · exact wft_tok l _ h.2 c hc
  | (3, v) :: l, n, h, c, hc => by
    rcases List.mem_cons.mp hc with rfl | hc
    · exact .inr (.inr (.inr ⟨rfl, h.1⟩))
    · exact wft_tok l _ h.2.2 c hc
  | (m + 4, v) :: l, n, h, c, hc => absurd h (fun z => z)
theorem cC4_1 : ∀ v, v < 5 → (cC (1, v) = -4 ↔ v = 3) := by decide
theorem cC4_3 : ∀ v, v < 8 → ¬ cC (3, v) = -4 := by decide
theorem cC4 {l : List tk} (h : wft l 0) {c : tk} (hc : c ∈ l) : cC c = -4 ↔ (Nat.beq c.1 1 && Nat.beq c.2 3) = true := by
  obtain ⟨a, b⟩ := c
  rcases wft_tok l 0 h _ hc with ⟨h1, h2⟩ | ⟨h1, h2⟩ | h1 | ⟨h1, h2⟩
  · have h1 : a = 0 := h1
    subst h1
    refine ⟨fun z => ?_, fun z => absurd z (by simp)⟩
    exact absurd z (nneg (c := 4) (by have : b < 10000 := h2; omega) (by omega) (by omega))
  · have h1 : a = 1 := h1
    subst h1
    rw [cC4_1 b h2]
    simp
  · have h1 : a = 2 := h1
    subst h1
    exact ⟨fun z => absurd (show (-6 : Int32) = -4 from z) (by decide), fun z => absurd z (by simp)⟩
  · have h1 : a = 3 := h1
    subst h1
    exact ⟨fun z => absurd z (cC4_3 b h2), fun z => absurd z (by simp)⟩
section
variable {d : Nat} {k : Int32 → hG → hE → Prop} {kv : hG → hE → Prop} {X : Nat → hG → hE → Prop} {g : hG} {e : hE} {T : sT} {t : tok} {D : Nat} {L : List tk} {y : sY}
theorem c_tell {u : Nat} (hu : hU u) (hus' : ¬ hus u = u) {f : Nat} {l : List tk} (h4 : g.1 u 3 = 0) (hl : f + l.length ≤ 700) (hw : wft l 0) (hs : ∀ j c, l[j]? = some c → g.1 (hus u) (f + j) = cC c) (H : ∀ g', (∀ b, ¬ b = u → g'.1 b = g.1 b) → g'.2 = g.2 → g'.1 u 0 = nI f → g'.1 u 1 = nI (f + l.length) → g'.1 u 2 = 1 → g'.1 u 3 = bI (hasday l) → kv g' e) : hcv (d + 2) 94 [.ref u, .ref (hus u), .int (nI f), .int (nI (f + l.length))] g e kv X := by
  refine zh_X4_tell hu (hTU0 hu) ?_
  have q1 : ∀ b, ¬ b = u → (sI (sI (sI g u 0 (nI f)) u 1 (nI (f + l.length))) u 2 1).1 b = g.1 b := fun b hb => by rw [sI_off _ hb, sI_off _ hb, sI_off _ hb]
  have v1 : (sI (sI (sI g u 0 (nI f)) u 1 (nI (f + l.length))) u 2 1).1 u 0 = nI f := by rw [sI_at, upd_off _ _ (by omega), sI_at, upd_off _ _ (by omega), sI_at, upd_at]
  have v2 : (sI (sI (sI g u 0 (nI f)) u 1 (nI (f + l.length))) u 2 1).1 u 1 = nI (f + l.length) := by rw [sI_at, upd_off _ _ (by omega), sI_at, upd_at]
  have v3 : (sI (sI (sI g u 0 (nI f)) u 1 (nI (f + l.length))) u 2 1).1 u 2 = 1 := by rw [sI_at, upd_at]
  have v4 : (sI (sI (sI g u 0 (nI f)) u 1 (nI (f + l.length))) u 2 1).1 u 3 = 0 := by rw [sI_at, upd_off _ _ (by omega), sI_at, upd_off _ _ (by omega), sI_at, upd_off _ _ (by omega)]; exact h4
  have v5 : (sI (sI (sI g u 0 (nI f)) u 1 (nI (f + l.length))) u 2 1).2 = g.2 := rfl
  rw [v1]
  generalize sI (sI (sI g u 0 (nI f)) u 1 (nI (f + l.length))) u 2 1 = g0 at *
  refine c_max ?_
  rw [show (0 : Int32) = nI 0 from rfl, imx_nI (by omega) (by omega), Nat.max_eq_right (Nat.zero_le _)]
  have main : ∀ j, j ≤ l.length → ∀ g1, (∀ b, ¬ b = u → g1.1 b = g.1 b) → g1.2 = g.2 → g1.1 u 0 = nI f → g1.1 u 1 = nI (f + l.length) → g1.1 u 2 = 1 → g1.1 u 3 = bI (hasday (l.take j)) → hwv (d + 1) zm_X4_tell kv X 25 [(0, .ref u), (1, .ref (hus u)), (4, .int (nI (f + j)))] g1 e := by
    refine hdown ?_ ?_
    · intro g1 q p r1 r2 r3 r4
      rw [List.take_length] at r4
      exact zh_X4_tell_25 hu (hTU0 hu) (zbr_t (by rw [r2]; exact nI_le (Nat.le_refl _) (by omega)) (H g1 q p r1 r2 r3 r4))
    · intro j hj W g1 q p r1 r2 r3 r4
      have gj : l[j]? = some l[j] := List.getElem?_eq_getElem hj
      have hm : l[j] ∈ l := List.getElem_mem hj
      have tk1 : hasday (l.take (j + 1)) = (hasday (l.take j) || (Nat.beq l[j].1 1 && Nat.beq l[j].2 3)) := by
        rw [List.take_succ, gj]
        unfold hasday
        rw [List.any_append]
        simp
      refine zh_X4_tell_25 hu (hTU0 hu) (zbr_f (by rw [r2]; exact nI_ge (by omega) (by omega)) (zbr_f (nI_ge (by omega) (by omega)) ?_))
      have nx : ∀ v, v = bI (hasday (l.take (j + 1))) → hwv (d + 1) zm_X4_tell kv X 25 [(0, .ref u), (1, .ref (hus u)), (4, .int (nI (f + j) + 1))] (sI g1 u 3 v) e := by
        intro v hv
        rw [nI_1]
        refine W _ (fun b hb => by rw [sI_off _ hb]; exact q b hb) p ?_ ?_ ?_ ?_
        · rw [sI_at, upd_off _ _ (by omega)]; exact r1
        · rw [sI_at, upd_off _ _ (by omega)]; exact r2
        · rw [sI_at, upd_off _ _ (by omega)]; exact r3
        · rw [sI_at, upd_at]; exact hv
      rw [r4]
      cases hh : hasday (l.take j) with
      | true =>
        exact zbr_f (by decide) (nx 1 (by rw [tk1, hh]; rfl))
      | false =>
        refine zbr_t rfl ⟨nI_in (by omega) (by omega), ?_⟩
        rw [nI_clamp (by omega), q _ hus', hs j _ gj]
        rw [hh, Bool.false_or] at tk1
        refine ⟨fun z => nx 1 (by rw [tk1, (cC4 hw hm).mp z]; rfl), fun z => nx 0 ?_⟩
        rw [tk1, show (Nat.beq l[j].1 1 && Nat.beq l[j].2 3) = false from Bool.eq_false_iff.mpr (fun w => z ((cC4 hw hm).mpr w))]
        rfl
  exact main 0 (Nat.zero_le _) g0 q1 v5 v1 v2 v3 v4
theorem csy_t {g' : hG} {t' : tok} (hs : csy g T D t y L) (f : tff g g') (hc : cps g' T t') (hw : wtk T t') (ht : t.2.1 ≤ t'.2.1) : csy g' T D t' y L := by
  obtain ⟨⟨h1, h2, h3, h4, h5⟩, hy, hz, hst, hr, h8⟩ := hs
  have hl := hD_lt h3.1
  have q : ∀ b, ¬ b = 1001 → g'.1 b = g.1 b := f.1
  refine ⟨⟨hc, hw, ⟨h3.1, by rw [f.2.2]; exact h3.2⟩, by rw [q D (by omega), q (D + 7) (by omega)]; exact h4, by omega⟩, wfy_up hy ht, ⟨by rw [q D (by omega)]; exact hz.1, fun j z hj => ?_⟩, by unfold cds; rw [q D (by omega), q (D + 6) (by omega)]; exact hst, ⟨by unfold crul; rw [q (D + 8) (by omega)]; exact hr.1, by unfold crul; rw [q (D + 10) (by omega)]; exact hr.2⟩, by rw [q D (by omega)]; exact h8⟩
  have hjl := (List.getElem?_eq_some_iff.mp hj).1
  have := hy.1.1
  rw [show zg g' (D + 2 + j) = zg g (D + 2 + j) from zg_cg (q _ (by omega)) (by rw [f.2.2]), q (D + 2 + j) (by omega)]
  exact hz.2 j z hj
theorem c_strainLine (hs : csy g T D t y L) (h0 : ¬ t.1 = 0) (H : cOl T D g e k (pstrain T y t)) : hci (d + 9) 80 [.ref 1001] g e k X := by
  obtain ⟨⟨h1, h2, h3, h4, h5⟩, hy, hz, hst, hr, h8⟩ := id hs
  have hD' := h3.1
  have hl := hD_lt hD'
  have l8 := hy.2.1.1
  have n2 := nx_w h2
  have hlt := h2.2.2.1 h0
  refine zh_X3_strainLine ?_
  unfold pstrain at H
  rw [h3.2]
  refine ⟨hD', zh_X2_strainCount hD' ?_⟩
  rw [hst.1]
  by_cases ce : y.2.1 = []
  · rw [if_neg (not_not_intro ce)] at H
    refine zbr_t (by rw [ce]; decide) (c_next h1 h2 (fun g1 f1 c1 => ?_))
    have main : ∀ f t1 s g1, s.length + f = 9 → lnf D g g1 → csy g1 T D t1 (y.1, s, y.2.2) L → (match pstr T f t1 s with | .inl q => ∀ g', lnf D g g' → csy g' T D q.1 (y.1, q.2, y.2.2) L → k 1 g' e | .inr q => ∀ g', lnf D g g' → cfl g' q.1 q.2 → k 0 g' e) → hwi (d + 8) zm_X3_strainLine k X 22 [(0, .ref 1001), (1, .int (nI s.length))] g1 e := by
      intro f
      induction f with
      | zero =>
        intro t1 s g1 hl' f1 S1 H
        exact zh_X3_strainLine_22 (zbr_t (by rw [show (8 : Int32) = nI 8 from rfl]; exact nI_lt (by omega) (by omega)) (c_fail (c := 1) S1.1.1 (fun g' f' b' => ⟨.inl rfl, H g' (f1.trans (lnf_t f')) b'⟩)))
      | succ f ih =>
        intro t1 s g1 hl' f1 S1 H
        unfold pstr at H
        have c1 := S1.1.1
        have w1 := S1.1.2.1
        have k2 := c1.2.1
        have w4 := w1.2.2.2.1
        have m2 := nx_w w1
        have w11 := w1.1
        have at47 : ¬ (¬ s = [] ∧ isC T t1 59 = true) → hwi (d + 8) zm_X3_strainLine k X 47 [(0, .ref 1001), (1, .int (nI s.length))] g1 e := by
          intro nw
          rw [if_neg nw] at H
          refine zh_X3_strainLine_47 ?_
          rw [k2]
          by_cases c2 : t1.1 = 2
          · rw [if_neg (not_not_intro c2)] at H
            have l5 := (w1.2.2.2.2.2 c2).1
            refine zbr_t (by rw [c2]; rfl) (c_number c1 c2 ⟨fun q2 => ?_, fun q2 => ?_⟩)
            · rw [if_pos (.inl (fun z => nI_nlt (a := 9) (b := t1.2.2.2) z (by omega) q2))] at H
              exact c_fail (c := 2) c1 (fun g' f' b' => ⟨.inl rfl, H g' (f1.trans (lnf_t f')) b'⟩)
            · have le : t1.2.2.2 ≤ 9 := Nat.le_of_not_lt (fun z => q2 (nI_lt (a := 9) z (by omega)))
              rw [S1.1.2.2.1.2]
              refine ⟨hD', c_number c1 c2 (zh_X2_addStrain hD' ?_)⟩
              rw [S1.2.2.2.1.1]
              refine zbr_f (nI_pos (by show s.length < _; omega)) ?_
              by_cases c8 : s.length = 8
              · rw [if_pos (.inr c8)] at H
                exact zbr_f (by rw [show (y.1, s, y.2.2).2.1.length = s.length from rfl, c8]; decide) (zbr_t rfl (c_fail (c := 2) c1 (fun g' f' b' => ⟨.inl rfl, H g' (f1.trans (lnf_t f')) b'⟩)))
              · rw [if_neg (fun z => z.elim (fun z => z le) c8)] at H
                refine zbr_t (nI_lt (show s.length < 8 by omega) (by omega)) ⟨nI_in (show s.length < 8 by omega) (by omega), zbr_f (by decide) ?_⟩
                rw [show (nI (y.1, s, y.2.2).2.1.length).toNatClampNeg = s.length from nI_clamp (show s.length < 2 ^ 31 by omega), sI_off g1 (show ¬ D = D + 6 by omega), S1.2.2.2.1.1, show nI (y.1, s, y.2.2).2.1.length + 1 = nI (s.length + 1) from nI_1 _]
                obtain ⟨⟨a1, a2, a3, a4, a5⟩, b1, b2, b3, b4, b5⟩ := S1
                have qq : ∀ b, ¬ b = D → ¬ b = D + 6 → (sI (sI g1 (D + 6) s.length (nI t1.2.2.2)) D 3 (nI (s.length + 1))).1 b = g1.1 b := fun b x1 x2 => by rw [sI_off _ x1, sI_off _ x2]
                have qD : ∀ k, ¬ k = 3 → (sI (sI g1 (D + 6) s.length (nI t1.2.2.2)) D 3 (nI (s.length + 1))).1 D k = g1.1 D k := fun k hk => by rw [sI_at, upd_off _ _ hk, sI_off _ (by omega)]
                have F2 : lnf D g1 (sI (sI g1 (D + 6) s.length (nI t1.2.2.2)) D 3 (nI (s.length + 1))) := ⟨fun b q r => qq b (by omega) (by omega), fun k _ => by rw [qq 1001 (by omega) (by omega)], fun _ _ => rfl, rfl⟩
                have S2 : csy (sI (sI g1 (D + 6) s.length (nI t1.2.2.2)) D 3 (nI (s.length + 1))) T D t1 (y.1, s ++ [t1.2.2.2], y.2.2) L := by
                  refine ⟨⟨cps_cg (qq _ (by omega) (by omega)) (qq _ (by omega) (by omega)) a1, a2, ⟨hD', a3.2⟩, ?_, a5⟩, ⟨b1.1, ⟨?_, mem9 b1.2.1.2 le⟩, b1.2.2.1, b1.2.2.2⟩, ⟨?_, fun i z hi => ?_⟩, ⟨?_, fun i v hi => ?_⟩, ⟨?_, ?_⟩, ?_⟩
                  · rw [qD 5 (by omega), qq (D + 7) (by omega) (by omega)]; exact a4
                  · show (s ++ [t1.2.2.2]).length ≤ 8
                    rw [List.length_append, List.length_singleton]; omega
                  · rw [qD 1 (by omega)]; exact b2.1
                  · have hjl : i < y.1.length := (List.getElem?_eq_some_iff.mp hi).1
                    have : y.1.length ≤ 4 := b1.1.1
                    rw [show zg (sI (sI g1 (D + 6) s.length (nI t1.2.2.2)) D 3 (nI (s.length + 1))) (D + 2 + i) = zg g1 (D + 2 + i) from zg_cg (qq _ (by omega) (by omega)) rfl, qq (D + 2 + i) (by omega) (by omega)]
                    exact b2.2 i z hi
                  · rw [sI_at, upd_at]
                    show _ = nI (s ++ [t1.2.2.2]).length
                    rw [List.length_append]; rfl
                  · rw [sI_off _ (by omega), sI_at]
                    have hi : (s ++ [t1.2.2.2])[i]? = some v := hi
                    by_cases ci : i = s.length
                    · subst ci
                      rw [List.getElem?_append_right (Nat.le_refl _), Nat.sub_self] at hi
                      rw [upd_at, ← Option.some.inj hi]
                    · have hil : i < s.length := by
                        have := (List.getElem?_eq_some_iff.mp hi).1
                        rw [List.length_append] at this
                        have : i < s.length + 1 := this
                        omega
                      rw [List.getElem?_append_left hil] at hi
                      rw [upd_off _ _ ci]
                      exact b3.2 i v hi
                  · unfold crul
                    rw [qq (D + 8) (by omega) (by omega)]; exact b4.1
                  · unfold crul
                    rw [qq (D + 10) (by omega) (by omega)]; exact b4.2
                  · rw [qD 8 (by omega)]; exact b5
                refine c_next S2.1.1 w1 (fun g3 f3 c3 => ?_)
                have := ih _ (s ++ [t1.2.2.2]) g3 (by rw [List.length_append, List.length_singleton]; omega) ((f1.trans F2).trans (lnf_t (tff_t f3))) (csy_t S2 (tff_t f3) c3 m2.1 (by omega)) H
                rw [List.length_append, List.length_singleton] at this
                exact this
          · rw [if_pos c2] at H
            exact zbr_f (fun z => c2 ((nI_eq (b := 2) (by omega) (by omega)).mp z)) (c_fail (c := 1) c1 (fun g' f' b' => ⟨.inl rfl, H g' (f1.trans (lnf_t f')) b'⟩))
        refine zh_X3_strainLine_22 (zbr_f (by rw [show (8 : Int32) = nI 8 from rfl]; exact nI_nlt (by omega) (by omega)) ?_)
        by_cases c0 : s = []
        · exact zbr_t (by rw [c0]; decide) (at47 (fun z => z.1 c0))
        · have lp : 0 < s.length := List.length_pos_iff.mpr c0
          refine zbr_f (nI_ge (a := 0) lp (by omega)) (c_isSign (c := 59) c1 w1 (by omega) ?_)
          cases q : isC T t1 59 with
          | false => exact zbr_t rfl (at47 (fun z => by rw [q] at z; exact absurd z.2 (by decide)))
          | true =>
            rw [if_pos ⟨c0, q⟩] at H
            exact zbr_f (by decide) (c_next c1 w1 (fun g3 f3 c3 => H g3 (f1.trans (lnf_t (tff_t f3))) (csy_t S1 (tff_t f3) c3 m2.1 (by show t1.2.1 ≤ (tkn T t1.2.2.1).2.1; omega))))
    have S0 : csy g1 T D (tkn T t.2.2.1) (y.1, [], y.2.2) L := by
      have := csy_t hs (tff_t f1) c1 n2.1 (by omega)
      rw [show y = (y.1, y.2.1, y.2.2) from rfl, ce] at this
      exact this
    refine main 9 _ [] g1 rfl (lnf_t (tff_t f1)) S0 ?_
    cases hq : pstr T 9 (tkn T t.2.2.1) [] with
    | inr ee => rw [hq] at H; exact H
    | inl q => rw [hq] at H; exact fun g' f' S' => H g' L f' S'
  · rw [if_pos ce] at H
    have lp : 0 < y.2.1.length := List.length_pos_iff.mpr ce
    exact zbr_f (nI_ge (a := 0) lp (by omega)) (c_fail (c := 5) h1 (fun g' f' b' => ⟨.inl rfl, H g' (lnf_t f') b'⟩))
theorem crul_app {u : Nat} {l s : List tk} (h : crul g u l L) : crul g u l (L ++ s) := by
  refine ⟨h.1, h.2.1, fun hn => ?_⟩
  obtain ⟨f, h1, h2, h3, h4⟩ := h.2.2 hn
  refine ⟨f, h1, h2, by rw [List.length_append]; omega, fun j c hj => ?_⟩
  have := h4 j c hj
  rw [List.getElem?_append_left (List.getElem?_eq_some_iff.mp this).1]
  exact this
theorem hU_D {D : Nat} (pu : Bool) (h : hD D) : hU (if pu = true then D + 8 else D + 10) ∧ hus (if pu = true then D + 8 else D + 10) = D + 7 := by
  cases pu with
  | true => exact ⟨hUD8 h, (hD_us h).1⟩
  | false => exact ⟨hUD10 h, (hD_us h).2⟩
theorem c_isToldD {pu : Bool} (hD' : hD D) (hb : g.1 (if pu = true then D + 8 else D + 10) 2 = 0 ∨ g.1 (if pu = true then D + 8 else D + 10) 2 = 1) (H : k (g.1 (if pu = true then D + 8 else D + 10) 2) g e) : hci (d + 2) 44 [.ref D, .int (bI pu)] g e k X := by
  refine zh_X2_isTold hD' ?_
  cases pu with
  | true => exact zbr_f (by decide) (zh_X4_isTold (hUD8 hD') ⟨hb, hb, H⟩)
  | false => exact zbr_t rfl (zh_X4_isTold (hUD10 hD') ⟨hb, hb, H⟩)
theorem c_tellD {pu : Bool} (hD' : hD D) {f : Int32} (H : hcv d 94 [.ref (if pu = true then D + 8 else D + 10), .ref (D + 7), .int f, .int (g.1 D 5)] g e kv X) : hcv (d + 1) 45 [.ref D, .int (bI pu), .int f] g e kv X := by
  refine zh_X2_tell hD' ?_
  cases pu with
  | true => exact zbr_f (by decide) H
  | false => exact zbr_t rfl H
theorem c_ruleLine {pu : Bool} (hs : csy g T D t y L) (h0 : ¬ t.1 = 0) (H : cOl T D g e k (prule T pu y t)) : hci (d + 59) 81 [.ref 1001, .int (bI pu)] g e k X := by
  obtain ⟨⟨h1, h2, h3, h4, h5⟩, hy, hz, hst, hr, h8⟩ := id hs
  have hD' := h3.1
  have hl := hD_lt hD'
  have n2 := nx_w h2
  have hlt := h2.2.2.1 h0
  obtain ⟨hu, hhu⟩ := hU_D pu hD'
  have hru : crul g (if pu = true then D + 8 else D + 10) (if pu = true then y.2.2.1 else y.2.2.2) L := by cases pu; exact hr.2; exact hr.1
  obtain ⟨u, huu⟩ : ∃ u, u = (if pu = true then D + 8 else D + 10) := ⟨_, rfl⟩
  obtain ⟨l, hll⟩ : ∃ l, l = (if pu = true then y.2.2.1 else y.2.2.2) := ⟨_, rfl⟩
  have ur : u = D + 8 ∨ u = D + 10 := by rw [huu]; cases pu; exact .inr rfl; exact .inl rfl
  unfold prule at H
  rw [← huu, ← hll] at hru
  rw [← huu] at hu hhu
  rw [← hll] at H
  refine zh_X3_ruleLine ?_
  rw [h3.2]
  refine ⟨hD', c_isToldD (pu := pu) hD' (by rw [← huu, hru.1]; split <;> decide) ?_⟩
  rw [← huu]
  by_cases ce : l = []
  · rw [if_neg (not_not_intro ce)] at H
    rw [hru.1, if_pos ce]
    refine zbr_t rfl ⟨by cases pu; exact .inl rfl; exact .inr rfl, ?_⟩
    have t1 : tff g g := tff.refl
    have q1 : ∀ b, ¬ b = 1001 → (sI g 1001 8 (bI pu)).1 b = g.1 b := fun b hb => sI_off _ hb
    have S1 : csy (sI g 1001 8 (bI pu)) T D t y L := by
      refine ⟨⟨?_, h2, ⟨hD', h3.2⟩, by rw [q1 D (by omega), q1 (D + 7) (by omega)]; exact h4, h5⟩, hy, ⟨by rw [q1 D (by omega)]; exact hz.1, fun j z hj => ?_⟩, by unfold cds; rw [q1 D (by omega), q1 (D + 6) (by omega)]; exact hst, ⟨by unfold crul; rw [q1 (D + 8) (by omega)]; exact hr.1, by unfold crul; rw [q1 (D + 10) (by omega)]; exact hr.2⟩, by rw [q1 D (by omega)]; exact h8⟩
      · obtain ⟨x1, x2, x3, x4, x5⟩ := h1
        refine ⟨⟨by rw [sI_at, upd_off _ _ (by omega)]; exact x1.1, x1.2.1, by rw [q1 1002 (by omega)]; exact x1.2.2⟩, by rw [sI_at, upd_off _ _ (by omega)]; exact x2, by rw [sI_at, upd_off _ _ (by omega)]; exact x3, by rw [sI_at, upd_off _ _ (by omega)]; exact x4, x5⟩
      · have hjl := (List.getElem?_eq_some_iff.mp hj).1
        have := hy.1.1
        rw [show zg (sI g 1001 8 (bI pu)) (D + 2 + j) = zg g (D + 2 + j) from zg_cg (q1 _ (by omega)) rfl, q1 (D + 2 + j) (by omega)]
        exact hz.2 j z hj
    have F1 : lnf D g (sI g 1001 8 (bI pu)) := ⟨fun b _ q => q1 b q, fun k hk => by rw [sI_at, upd_off _ _ (by omega)], fun _ _ => rfl, rfl⟩
    have k8 : (sI g 1001 8 (bI pu)).1 1001 8 = bI pu := by rw [sI_at, upd_at]
    generalize sI g 1001 8 (bI pu) = g1 at *
    refine c_next S1.1.1 h2 (fun g2 f2 c2 => ?_)
    have S2 := csy_t S1 (tff_t f2) c2 n2.1 (by omega)
    have k82 : g2.1 1001 8 = bI pu := by rw [f2.2.1 8 (by omega)]; exact k8
    rw [S2.1.2.2.1.2]
    refine ⟨hD', zh_X2_stepCount hD' ?_⟩
    rw [S2.1.2.2.2.1.1]
    have pA := c_anyP (T := T) (pu := pu) (e := e) (X := X) hD' 6 (by omega) d
    rw [show d + 7 * 6 + 16 = d + 58 by omega, show nI (6 - 6) = 0 from rfl] at pA
    refine pA _ g2 _ L ⟨⟨c2, n2.1, S2.1.2.2.1, k82, S2.1.2.2.2.1.1, S2.1.2.2.2.1.2⟩, S2.1.2.2.2.2⟩ ?_
    have gd := pany_gd (T := T) (pu := pu) 6 _ n2.1
    cases hq : pany T pu 6 (tkn T t.2.2.1) with
    | inr ee =>
      rw [hq] at H
      exact fun g3 f3 b3 => zbr_t rfl (H g3 ((F1.trans (lnf_t (tff_t f2))).trans (lnf_s f3)) b3)
    | inl q =>
      rw [hq] at H gd
      obtain ⟨q1', q2', q3'⟩ := gd
      have H : cOl T D g e k (if isC T q.1 59 = true then .inl (tkn T q.1.2.2.1, (y.1, y.2.1, if pu = true then (q.2, y.2.2.2) else (y.2.2.1, q.2))) else .inr (1, q.1.2.1)) := H
      intro g3 f3 c3
      refine zbr_f (by decide) (c_takeSign (c := 59) c3.1.1 c3.1.2.1 (by omega) (fun qs g4 f4 c4 => zbr_f (by decide) ?_) (fun qs g4 f4 b4 => zbr_t rfl ?_))
      · rw [if_pos qs] at H
        have gp := prule_gd (T := T) (pu := pu) (y := y) h2 h0 hy
        unfold prule at gp
        rw [← hll, if_neg (not_not_intro ce), hq] at gp
        have gp : pgl T t (if isC T q.1 59 = true then .inl (tkn T q.1.2.2.1, (y.1, y.2.1, if pu = true then (q.2, y.2.2.2) else (y.2.2.1, q.2))) else .inr (1, q.1.2.1)) := gp
        rw [if_pos qs] at gp
        have F4 : lnf D g g4 := ((F1.trans (lnf_t (tff_t f2))).trans (lnf_s f3)).trans (lnf_t f4)
        have B4 := csb_t c3.1 f4 c4 (nx_w c3.1.2.1).1
        rw [B4.2.2.1.2]
        refine ⟨hD', c_tellD (pu := pu) hD' ?_⟩
        rw [← huu, ← hhu, B4.2.2.2.2.1, List.length_append]
        have r3 : ∀ b, ¬ b = 1001 → ¬ b = D → ¬ b = D + 7 → g4.1 b = g2.1 b := fun b x1 x2 x3 => by rw [f4.1 b x1, f3.1 b x1 x2 x3]
        have rD : ∀ k, ¬ k = 5 → g4.1 D k = g2.1 D k := fun k hk => by rw [f4.1 D (by omega), f3.2.2.1 k hk]
        have rJ : g4.2 = g2.2 := by rw [f4.2.2, f3.2.2.2]
        have hlen := cst_len c3
        rw [List.length_append] at hlen
        have wq : wft q.2 0 := by
          have := q3' [] 0 (by omega) rfl
          rw [List.append_nil] at this
          exact this
        have ne : q.2 ≠ [] := pst_ne (by omega) q3'
        have u4 : g4.1 u 3 = 0 := by
          have h := S2.2.2.2.2.1
          rw [r3 u (by omega) (by omega) (by omega)]
          have hru2 : crul g2 u l L := by
            rw [huu, hll]
            cases pu
            · exact h.2
            · exact h.1
          rw [hru2.2.1, ce]
          rfl
        refine c_tell (f := L.length) (l := q.2) hu (by omega) u4 (by omega) wq (fun j c hj => ?_) (fun g5 o5 p5 v1 v2 v3 v4 => ?_)
        · rw [hhu]
          refine B4.2.2.2.2.2 (L.length + j) c ?_
          rw [List.getElem?_append_right (Nat.le_add_right _ _), Nat.add_sub_cancel_left]
          exact hj
        · have o4 : ∀ b, ¬ b = u → g5.1 b = g4.1 b := o5
          have crn : crul g5 u q.2 (L ++ q.2) := by
            refine ⟨by rw [v3, if_neg ne], v4, fun _ => ⟨L.length, v1, v2, by rw [List.length_append]; omega, fun j c hj => ?_⟩⟩
            rw [List.getElem?_append_right (Nat.le_add_right _ _), Nat.add_sub_cancel_left]
            exact hj
          have cro : ∀ w l', (w = D + 8 ∨ w = D + 10) → ¬ w = u → crul g2 w l' L → crul g5 w l' (L ++ q.2) := by
            intro w l' hw hwu h
            have := crul_app (s := q.2) h
            unfold crul at this ⊢
            rw [o4 w hwu, r3 w (by omega) (by omega) (by omega)]
            exact this
          have m2 := nx_w c3.1.2.1
          refine H g5 (L ++ q.2) (F4.trans ⟨fun b x1 x2 => o4 b (by omega), fun k hk => by rw [o4 1001 (by omega)], fun b _ => by rw [p5], by rw [p5]⟩) ⟨⟨cps_cg (o4 _ (by omega)) (o4 _ (by omega)) c4, m2.1, ⟨hD', by rw [p5]; exact B4.2.2.1.2⟩, ?_, ?_⟩, gp.2.2, ⟨?_, fun j z hj => ?_⟩, ?_, ?_, ?_⟩
          · rw [o4 D (by omega), o4 (D + 7) (by omega)]; exact B4.2.2.2.2
          · have := c3.2
            have := c3.1.2.1.1
            show (L ++ q.2).length ≤ (tkn T q.1.2.2.1).2.1
            omega
          · rw [o4 D (by omega), rD 1 (by omega)]; exact S2.2.2.1.1
          · have hjl := (List.getElem?_eq_some_iff.mp hj).1
            have hjl : j < y.1.length := hjl
            have := hy.1.1
            rw [show zg g5 (D + 2 + j) = zg g2 (D + 2 + j) from zg_cg (by rw [o4 _ (by omega), r3 _ (by omega) (by omega) (by omega)]) (by rw [p5, rJ]), o4 (D + 2 + j) (by omega), r3 (D + 2 + j) (by omega) (by omega) (by omega)]
            exact S2.2.2.1.2 j z hj
          · unfold cds
            rw [o4 D (by omega), rD 3 (by omega), o4 (D + 6) (by omega), r3 (D + 6) (by omega) (by omega) (by omega)]
            exact S2.2.2.2.1
          · cases pu with
            | true =>
              have huu : u = D + 8 := huu
              rw [huu] at crn
              exact ⟨crn, cro (D + 10) _ (.inr rfl) (by omega) S2.2.2.2.2.1.2⟩
            | false =>
              have huu : u = D + 10 := huu
              rw [huu] at crn
              exact ⟨cro (D + 8) _ (.inl rfl) (by omega) S2.2.2.2.2.1.1, crn⟩
          · rw [o4 D (by omega), rD 8 (by omega)]; exact S2.2.2.2.2.2
      · rw [if_neg (by rw [qs]; decide)] at H
        exact H g4 (((F1.trans (lnf_t (tff_t f2))).trans (lnf_s f3)).trans (lnf_t f4)) b4
  · rw [if_pos ce] at H
    rw [hru.1, if_neg ce]
    exact zbr_f (by decide) (c_fail (c := 5) h1 (fun g' f' b' => ⟨.inl rfl, H g' (lnf_t f') b'⟩))
end
